/-! the reference: many, isChanged -/
section Mn
variable {N d : Nat} {Q : Option Value → sm_H → Prop}
/-- every slot holds a document -/
def okSl (S : sT) : Prop := ∀ k, k < 4 → u4 (stl S) (2000 * k) ≤ 2000 ∧ okD (slice (stl S) (2000 * k) (2000 * k + u4 (stl S) (2000 * k))) = true
def sld (S : sT) (k : Nat) : List Nat := slice (stl S) (2000 * k) (2000 * k + u4 (stl S) (2000 * k))
def frM (S T : sT) : Prop := (∀ k, k ≠ 19 → k ≠ 20 → k ≠ 21 → T.1 k = S.1 k) ∧ (∀ k, (k < 18 ∨ 29 < k) → T.2.1 k = S.2.1 k) ∧ ∀ i, sB (T.2.1 29 i)
theorem sM_many {S : sT} {s x : Int32} (hs : okSt S) (hO : ∀ i, sB (S.2.1 29 i)) (hsl : okSl S)
    (hb : ¬ (0 ≤ s.toInt ∧ s.toInt < 4 ∧ 0 ≤ x.toInt ∧ x.toInt ≤ 2) → Q (some (.int (-1))) (hp S))
    (h1 : ∀ k es, k < 4 → s = nI k → 0 ≤ x.toInt → x.toInt ≤ 2 → sld S k = encD es → (∀ e ∈ es, wfE e) → ∀ T, frM S T → Q (some (.int (if x = 0 then nI (sld S k).length else if x = 1 then nI es.length else nI (dep 16 3 (sld S k))))) (hp T)) :
    sm_V N (d + 5 + 1) mm_M_many 5 33 [.int s, .int x] (hp S) Q := by
  have hlen := stl_len S
  have z0 : (0 : Int32).toInt = 0 := rfl
  have z2 : (2 : Int32).toInt = 2 := rfl
  refine cM_many (hk_33 S) (sM_isSlot ⟨_, rfl, fun c => hb (fun y => ?_), fun c => ⟨fun c2 => hb (fun y => ?_), fun c2 => ⟨fun c3 => ?_, fun c3 => hb (fun y => c3 ?_)⟩⟩⟩)
  · rw [if_pos ⟨y.1, y.2.1⟩] at c; exact absurd c (by decide)
  · rw [ti_lt] at c2; omega
  · have y1 : 0 ≤ s.toInt ∧ s.toInt < 4 := by
      by_cases y : 0 ≤ s.toInt ∧ s.toInt < 4
      · exact y
      · rw [if_neg y] at c; exact absurd rfl c
    rw [ti_lt] at c2
    rw [ti_le] at c3
    obtain ⟨k, hk, rfl⟩ := nat_of (m := 4) y1.1 (by omega) (by omega)
    obtain ⟨hu, hd⟩ := hsl k hk
    have hsk : (sld S k).length = u4 (stl S) (2000 * k) := by rw [sld, slice_len (by omega)]; omega
    refine ⟨_, hu_33_6 S _, ?_⟩
    have f1 : ∀ j, j ≠ 19 → (sI S 19 0).1 j = S.1 j := fun j h => by simp [sI, va_up, h]
    have a1 : (sI S 19 0).2.1 = S.2.1 := rfl
    have n1 : (sI S 19 0).1 19 = nI 0 := by simp [sI, va_up]; rfl
    generalize sI S 19 0 = S1 at *
    have st1 : stl S1 = stl S := by rw [stl, stl, a1]
    have ok1 : okSt S1 := fun i => by rw [a1]; exact hs i
    rw [nI_mul]
    refine sM_whole (d := d + 3) (by omega) ⟨_, rfl, ?_⟩
    rw [st1]
    refine sM_load (d := d) ok1 (by omega) n1 (by omega) (fun c T hT => absurd (by rw [st1]; exact hd) c) (fun c T c2 fp hT hT19 hc2 hown hnx hRV hfp hfn => ⟨_, rfl, ?_⟩)
    rw [st1] at hRV
    have stT : stl T = stl S := (frL_st hT).trans st1
    have fT : frM S T := ⟨fun j h _ _ => (hT.1 j h).trans (f1 j h), fun j h => by rw [hT.2 j (by omega), a1], fun i => by rw [hT.2 29 (by omega), a1]; exact hO i⟩
    obtain ⟨es, ks, he, hch, hel, hwf⟩ : ∃ es ks, sld S k = encD es ∧ Ch T (T.2.1 23 0) ks ∧ ks.length = es.length ∧ ∀ e ∈ es, wfE e := by
      rcases hRV.2.2.2 with ⟨-, q⟩ | ⟨-, -, es, ks, f2, he, -, hK, hR⟩
      · exact absurd (Or.inl rfl) (leaf_k q)
      · refine ⟨es, ks, he, hK.1, RL_len hR, RL_wf ?_ hR⟩
        have := encD_len es
        rw [← he] at this
        have h2 : (slice (stl S) (2000 * k) (2000 * k + u4 (stl S) (2000 * k))).length = u4 (stl S) (2000 * k) := hsk
        omega
    have hq := h1 k es hk rfl (by omega) (by omega) he hwf
    have e5 := encD_len es
    rw [← he, hsk] at e5
    have e6 := es_le es
    refine ⟨fun x0 => ?_, fun x0 => ⟨fun x1 => ?_, fun x1 => ?_⟩⟩
    · refine sM_whole (d := d + 3) (by omega) ⟨_, rfl, ?_⟩
      have := hq T fT
      rw [if_pos x0, hsk, ← stT] at this
      exact this
    · refine sM_countOf (d := d + 4) (by omega) hch (by omega) ⟨_, rfl, ?_⟩
      have := hq T fT
      rw [if_neg x0, if_pos x1, ← hel] at this
      exact this
    · refine sM_print (d := d + 1) (t := 15) fT.2.2 (by omega) hRV (by rw [← sld, hsk]; omega) (fun T2 g1 g2 g3 g4 => ⟨rfl, _, hg_33_20 T2, ?_⟩)
      rw [g4]
      have := hq T2 ⟨fun j h h2 h3 => (g1.1 j h2 h3).trans (fT.1 j h h2 h3), fun j h => by rw [g1.2.1 j (by omega)]; exact fT.2.1 j h, g2.choose_spec.2.2⟩
      rw [if_neg x0, if_neg x1] at this
      exact this
  · rw [ti_le]; omega
end Mn
