/-! the reference's writers: a leaf's value -/
section MW3
variable {S : sT} {N d : Nat} {Q : Option Value → sm_H → Prop}
theorem sM_writeValue {n k : Nat} {raw : List Nat} (hw : okO S) (hn : n < 6000) (hk : S.2.1 18 n = nI k) (hlf : leafV S n k raw) (hb : ∀ b ∈ raw, b < 256) (hl : (ol S).length + raw.length ≤ 16000) (hQ : ∀ S2, eqO (ol S ++ raw) S S2 → Q none (hp S2)) : sm_V N (d + 3) mm_M_writeValue 5 33 [.int (nI n)] (hp S) Q := by
  refine cM_writeValue (hk_33 S) ⟨_, hg_33_7 S, _, (hq_r S hn).1, ?_⟩
  rw [hk]
  obtain ⟨-, hlf⟩ := hlf
  have w54 : ∀ (m : Nat) (kk : Nat), kk < 100 → kk ≠ 2 → m ≤ 8 → raw.length = m → lw (S.2.2 n) m = raw → sm_W N (d + 2 + 1) mm_M_writeValue 54 [(0, .ref 33), (1, .int (nI n)), (2, .int (nI kk))] [.int (nI m), .long (S.2.2 n), .ref 33] (hp S) Q := by
    intro m kk hkk hk2 hm8 hm hlw
    refine kM_writeValue_54 (sM_writeLow hw hm8 (by omega) (fun S2 e => ⟨rfl, kM_writeValue_57 ⟨fun c => ?_, fun _ => hQ S2 (by rw [hlw] at e; exact e)⟩⟩))
    rw [nI_eql (by omega) (by omega)] at c
    exact absurd c hk2
  have w25 : ∀ (m : Nat), (k = 16 ∧ m = 4) ∨ (k = 18 ∧ m = 8) ∨ (k = 8 ∧ m = 1) → raw.length = m → lw (S.2.2 n) m = raw → sm_W N (d + 2 + 1) mm_M_writeValue 25 [(0, .ref 33), (1, .int (nI n)), (2, .int (nI k))] [] (hp S) Q := by
    intro m hkm hm hlw
    refine kM_writeValue_25 ⟨_, hg_33_10 S, _, hl_r S hn, ?_⟩
    rcases hkm with ⟨rfl, rfl⟩ | ⟨rfl, rfl⟩ | ⟨rfl, rfl⟩
    · exact ⟨fun _ => w54 4 16 (by omega) (by omega) (by omega) hm hlw, fun c => absurd rfl c⟩
    · exact ⟨fun c => absurd c (by decide), fun _ => ⟨fun _ => w54 8 18 (by omega) (by omega) (by omega) hm hlw, fun c => absurd rfl c⟩⟩
    · exact ⟨fun c => absurd c (by decide), fun _ => ⟨fun c => absurd c (by decide), fun _ => w54 1 8 (by omega) (by omega) (by omega) hm hlw⟩⟩
  rcases hlf with ⟨rfl, h4, hv⟩ | ⟨rfl, h8, hv⟩ | ⟨rfl, ⟨b, hb1, rfl⟩, hv⟩ | ⟨rfl, rfl, hv⟩ | ⟨rfl, a, tx, rfl, h21, h22, hat, hsl, hrt⟩
  · exact ⟨fun _ => w25 4 (Or.inl ⟨rfl, rfl⟩) h4 (by rw [hv]; exact lw_n16 h4 hb), fun c => absurd rfl c⟩
  · exact ⟨fun c => absurd c (by decide), fun _ => ⟨fun _ => w25 8 (Or.inr (Or.inl ⟨rfl, rfl⟩)) h8 (by rw [hv]; exact lw_n18 h8 hb), fun c => absurd rfl c⟩⟩
  · exact ⟨fun c => absurd c (by decide), fun _ => ⟨fun c => absurd c (by decide), fun _ => ⟨fun _ => w25 1 (Or.inr (Or.inr ⟨rfl, rfl⟩)) rfl (by rw [hv]; exact lw_n8 hb1), fun c => absurd rfl c⟩⟩⟩
  · refine ⟨fun c => absurd c (by decide), fun _ => ⟨fun c => absurd c (by decide), fun _ => ⟨fun c => absurd c (by decide), fun _ => kM_writeValue_57 ⟨fun c => absurd c (by decide), fun _ => hQ S ?_⟩⟩⟩⟩
    rw [List.append_nil]
    exact eqO_id hw
  · refine ⟨fun c => absurd c (by decide), fun _ => ⟨fun c => absurd c (by decide), fun _ => ⟨fun c => absurd c (by decide), fun _ => kM_writeValue_57 ⟨fun _ => ?_, fun c => absurd rfl c⟩⟩⟩⟩
    simp only [List.length_append, le4_len, List.length_cons, List.length_nil] at hl
    refine ⟨_, hg_33_12 S, _, (hq_r S hn).2.2.2.2.1, ?_⟩
    rw [h22]
    have hv : (Int32.toInt64 (nI tx.length) + 1).toInt = ((tx.length + 1 : Nat) : Int) := by
      rw [Int64.toInt_add, Int32.toInt_toInt64, nI_t (by omega)]
      have : (1 : Int64).toInt = 1 := rfl
      rw [this]
      refine Int.bmod_eq_of_le ?_ ?_ <;> simp <;> omega
    refine sM_writeLow (n := 4) hw (by omega) (by omega) (fun S2 e => ⟨rfl, _, hg_33_11 S2, _, (hq_r S2 hn).2.2.2.1, _, hg_33_12 S2, _, (hq_r S2 hn).2.2.2.2.1, ?_⟩)
    rw [eqO_a e (by omega), eqO_a e (by omega), h21, h22]
    rw [lw_le4 hv (by omega)] at e
    refine sM_writeBytes e.2.1 hat (by rw [e.2.2, List.length_append, le4_len]; omega) (fun S3 e3 => ⟨rfl, ?_⟩)
    have e3' := eqO_tr e e3
    rw [eqO_st e, hsl, e.2.2] at e3'
    refine sM_write e3'.2.1 (by rw [e3'.2.2]; simp only [List.length_append, le4_len]; omega) (fun S4 e4 => ⟨rfl, hQ S4 ?_⟩)
    have e4' := eqO_tr e3' e4
    rw [e3'.2.2, show ub 0 = 0 from rfl] at e4'
    simpa [List.append_assoc] using e4'
end MW3
