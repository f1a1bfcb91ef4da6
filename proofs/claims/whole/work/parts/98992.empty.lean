/-! constructors: an empty document, over the two cells of a Bytes -/
def h2c (x : Int32) (cap : Nat) (f : Nat → Int32) : sm_H := [.inr (0, [.ref 1, .int x]), .inl (0, cap, .inl f)]
def e5 : Nat → Int32 := upd (upd (upd (upd (upd (fun _ => 0) 0 5) 1 0) 2 0) 3 0) 4 0
section Em
variable {d : Nat} {Q : Option Value → sm_H → Prop}
theorem e2_add {cap n : Nat} {f : Nat → Int32} {y : Int32} (hn : n < cap) (hc : cap < 2147483648) (hQ : Q none (h2c (nI (n + 1)) cap (upd f n (vp_nar .byte (Int8.toInt32 (Int32.toInt8 y)))))) : sm_V 2 (d + 1) mm_B_add 0 0 [.int y] (h2c (nI n) cap f) Q := by
  refine cB_add ⟨_, rfl⟩ ⟨_, rfl, _, rfl, nI cap, rfl, fun c => ?_, fun c => ⟨_, rfl, _, rfl, h2c (nI n) cap (upd f n (vp_nar .byte (Int8.toInt32 (Int32.toInt8 y)))), ?_, _, rfl, _, rfl, ?_⟩⟩
  · rw [nI_leI (by omega) (by omega)] at c
    omega
  · show (if 0 ≤ (nI n).toInt ∧ (nI n).toInt < (cap : Int) then _ else none) = _
    rw [if_pos ⟨by rw [nI_t (by omega)]; omega, by rw [nI_t (by omega)]; omega⟩, nI_clamp (by omega)]
    rfl
  · have e : nI n + 1 = nI (n + 1) := nI_add n 1
    rw [e]
    exact hQ
theorem e2_empty {cap : Nat} (h5 : 5 ≤ cap) (hc : cap < 2147483648) (hQ : Q none (h2c 5 cap e5)) : sm_V 2 (d + 2) mm_B_becomeEmptyDocument 0 0 [] (h2c 0 cap (fun _ => 0)) Q := by
  refine cB_becomeEmptyDocument ⟨_, rfl⟩ ⟨h2c 0 cap (fun _ => 0), rfl, ?_⟩
  refine e2_add (n := 0) (by omega) hc ⟨rfl, ?_⟩
  refine kB_becomeEmptyDocument_12 ⟨fun c => absurd c (by decide), fun _ => ?_⟩
  refine e2_add (n := 1) (by omega) hc ⟨rfl, ?_⟩
  refine kB_becomeEmptyDocument_12 ⟨fun c => absurd c (by decide), fun _ => ?_⟩
  refine e2_add (n := 2) (by omega) hc ⟨rfl, ?_⟩
  refine kB_becomeEmptyDocument_12 ⟨fun c => absurd c (by decide), fun _ => ?_⟩
  refine e2_add (n := 3) (by omega) hc ⟨rfl, ?_⟩
  refine kB_becomeEmptyDocument_12 ⟨fun c => absurd c (by decide), fun _ => ?_⟩
  refine e2_add (n := 4) (by omega) hc ⟨rfl, ?_⟩
  refine kB_becomeEmptyDocument_12 ⟨fun _ => ?_, fun c => absurd (by decide) c⟩
  exact hQ
end Em
def ad2 (a q : Nat) : Nat → Nat := fun k => if k = 0 then a else q
theorem ad2_w (G : sm_G) (a q : Nat) (x : Int32) (cap : Nat) (f : Nat → Int32) : sm_w (ad2 a q, G.2) (h2c x cap f) = [(a, .inr (0, [.ref q, .int x])), (q, .inl (G.2.2.2.2 0, cap, .inl f))] := rfl
section Em2
variable {G : sm_G} {A : Nat → Prop} {d K nn : Nat} {M : sm_M} {Po : va_W → Prop} {pc : Nat} {L : List (Nat × Value)} {st : List Value} {w : va_W} {k j : Nat}
theorem gs_empty {idx a q cap : Nat} {wr : va_W} (n i0 i1 : Nat) (hd : decode M.2.1 pc = .ok (.invokevirtual idx, 3)) (hm : sm_mv M.1.cls idx mm_B_becomeEmptyDocument 0 0) (hdc : 3 ≤ d) (hk : k ≤ K) (hj : j ≤ nn) (isR : List Nat) (h0 : [i0, i1].map (fun i => w[i]?) = [some (a, .inr (0, [.ref q, .int 0])), some (q, .inl (G.2.2.2.2 0, cap, .inl (fun _ => 0)))]) (h5 : 5 ≤ cap) (hc : cap < 2147483648) (hR : isR.map (fun i => w[i]?) = wr.map some) (hn1 : va_nd [i0, i1] = true) (hnd : va_nd isR = true) (hdis : ∀ i ∈ isR, i ∉ [i0, i1]) (hp : pc + 3 = n)
    (kk : gW G A d K nn M Po n L [] (wr ++ [(a, .inr (0, [.ref q, .int 5])), (q, .inl (G.2.2.2.2 0, cap, .inl e5))]) k j) : gW G A d K nn M Po pc L [.ref a] w k j := by
  obtain ⟨-, r, h1, hC, rfl, rfl⟩ := e2_empty (d := d - 3) (Q := fun r h1 => r = none ∧ h1 = h2c 5 cap e5) h5 hc ⟨rfl, rfl⟩
  obtain ⟨-, hM⟩ := hC rfl
  obtain ⟨m1, m2, m3, ⟨o1, o2, o3, o4, o5, o6⟩, x, hq1, hq2⟩ := hm
  have h0' : [i0, i1].map (fun i => w[i]?) = ([(a, .inr (0, [.ref q, .int 0])), (q, .inl (G.2.2.2.2 0, cap, .inl (fun _ => 0)))] : va_W).map some := h0
  have hw0 : w[i0]? = some (a, .inr (0, [.ref q, .int 0])) := (List.cons.inj h0).1
  have hw1 : w[i1]? = some (q, .inl (G.2.2.2.2 0, cap, .inl (fun _ => 0))) := (List.cons.inj (List.cons.inj h0).2).1
  refine gs_callX (K2 := 0) (n2 := 0) (rest := []) (Po2 := fun w1 => w1 = [(a, .inr (0, [.ref q, .int 5])), (q, .inl (G.2.2.2.2 0, cap, .inl e5))]) (avv := [Value.ref a].toArray) hp [i0, i1] isR h0' hR hnd hdis (fun l p e s m args below meth c H locs ls X B hl hF => ?_) (fun w1 hw => by rw [hw]; exact kk)
  have hts := X.2.2.2.2.2.2.1
  have hG : GoodIn (sm_ws M) (wsV M.1.cls idx mm_B_becomeEmptyDocument.1.cls mm_B_becomeEmptyDocument.1 (sm_ws mm_B_becomeEmptyDocument)) := by
    intro w hw
    rcases List.mem_append.mp hw with hw | hw
    · simp only [List.mem_cons, List.not_mem_nil, or_false] at hw
      rcases hw with rfl | rfl | rfl | rfl
      · exact ⟨sm_in_code M m1, sm_big_good m1⟩
      · exact ⟨sm_in_code M m2, sm_big_good m2⟩
      · exact ⟨sm_in_code M m3, sm_big_good m3⟩
      · exact ⟨sm_in_code M o1, sm_big_good o1⟩
    · exact sm_goodIn M mm_B_becomeEmptyDocument o2 w hw
  have hcw := cwV (R := gR d K nn) (rm := sm_R (d - 3 + 2)) (mc := 0) (ms := 0) 0 hts hG rfl rfl rfl ⟨rfl, o3, o4, o5⟩ ⟨by show d - 3 + 2 + 1 ≤ d; omega, by show 8 + (mm_B_becomeEmptyDocument.2.2.1 + 11) + 40 * (d - 3 + 2) ≤ 40 * d; omega⟩
  have hrec := va_recv X.2.2.2.2.2.2.2.1.1 B.1 hq1 (q0 := i0) hw0
  rw [hq2] at hrec
  have hDs := B.2.1.sub [i0, i1] hn1 h0'
  have hsa : ∀ y, sm_A (ad2 a q, G.2) 2 y → y = a ∨ y = q := by
    rintro y ⟨i, hi, rfl⟩
    rcases (show i = 0 ∨ i = 1 by omega) with rfl | rfl
    · exact Or.inl rfl
    · exact Or.inr rfl
  have hsA : ∀ y, sm_A (ad2 a q, G.2) 2 y → A y := fun y hy => by
    rcases hsa y hy with rfl | rfl
    · exact B.2.1.2 i0 _ hw0
    · exact B.2.1.2 i1 _ hw1
  have hsV : ∀ y, sm_A (ad2 a q, G.2) 2 y → va_A [(a, .inr (0, [.ref q, .int 0])), (q, .inl (G.2.2.2.2 0, cap, .inl (fun _ => 0)))] H.size y := fun y hy => by
    rcases hsa y hy with rfl | rfl
    · exact Or.inl ⟨0, _, rfl⟩
    · exact Or.inl ⟨1, _, rfl⟩
  have hD2 : va_D (sm_A (ad2 a q, G.2) 2) (sm_w (ad2 a q, G.2) (h2c 0 cap (fun _ => 0))) := by
    rw [ad2_w]
    refine ⟨hDs.1, fun i y hy => ?_⟩
    have hi : i < 2 := (List.getElem?_eq_some_iff.mp hy).1
    rcases (show i = 0 ∨ i = 1 by omega) with rfl | rfl
    · cases hy; exact ⟨0, by omega, rfl⟩
    · cases hy; exact ⟨1, by omega, rfl⟩
  have hrun := va_runV (As := []) (rest := []) (b := a) (g := F0 m pc ls [.ref a]) (cells := k) (slots := j) (e := e) (locs := locs) (below := below) (meth := meth) ⟨X.1, X.2.1, X.2.2.2.2.1, X.2.2.2.2.2.1, hts⟩ (hM l (ad2 a q, G.2)) hcw ⟨sm_blind (ad2 a q, G.2) 2 [.ref 0] (h2c 0 cap (fun _ => 0)), hrec, fun U hU hW => ⟨rfl, by rw [hU, ad2_w]; exact B.1.sub [i0, i1] (by rw [List.filterMap_cons, hw0, List.filterMap_cons, hw1, List.filterMap_nil]), hD2, gk.K (gk.go hW (fun y a1 a2 => by rw [hU]; exact B.2.2.2.1 y a1 a2) X.2.2.2.2.2.2.2.1) hsA⟩⟩ rfl rfl hl.1 rfl (lv_room (Nat.zero_le _)) hd ⟨hk, hj⟩
  intro T hT XX
  obtain ⟨v, st₀, t, T2, L2, g0, X2, hL2, f1, f2, ⟨hQ1, hQ2, hQ3, hQ4⟩, stp⟩ := hrun T hT XX
  refine ⟨v, st₀, t, T2, L2, g0, X2, fun y hy => hsV _ (hL2 y hy), f1, f2, ⟨hQ1, ⟨_, rfl, ?_, ?_⟩, hQ3, fun y y1 y2 => hQ4 y y1 (fun z => y2 (hsV y z))⟩, stp⟩
  · rw [ad2_w] at hQ2
    exact hQ2
  · have := sm_D_go (h := h2c 0 cap (fun _ => 0)) (h1 := h2c 5 cap e5) rfl hD2
    rw [ad2_w] at this
    exact this.weaken (fun _ _ _ z => hsV _ z)
end Em2
