/-! the class's plan: a name held against a text -/
def txt (i : Nat) : List Nat := [[36, 115, 101, 116], [36, 117, 110, 115, 101, 116], [36, 105, 110, 99], [36, 112, 117, 115, 104], [36, 112, 117, 108, 108], addN].getD i []
theorem sP_isNamed {S : sT} {N d : Nat} {Q : Option Value → sm_H → Prop} {A B nm : List Nat} {i : Nat} (hw : okB S 6) (hi : i < 6) (h : bl S 6 = A ++ (nm ++ 0 :: B)) (hz : ∀ b ∈ nm, b ≠ 0) (hQ : Q (some (.int (if nm = txt i then 1 else 0))) (hp S)) : sm_V N (d + 8) mm_P_isNamed 3 4 [.int (nI A.length), .retAddr i] (hp S) Q := sorry
