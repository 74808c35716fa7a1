section RW
variable {Γ : Cxt} {own : String} {cc : ByteArray} {nL fr lo pc idx : Nat} {rt : Option FieldType} {L : List (Option Value)} {st : List Value} {σ : St}
theorem s_slen {w : Nat} (G : OK Γ RX3 cc nL rt fr lo) (hd : decode cc pc = .ok (.invokevirtual 67, 3)) (hw : w < 8) (hcat : (st.map fun v => v.category).sum ≤ 8) (hro : 3 ≤ fr ∧ 100 ≤ lo) (k : WW Γ (pc + 3) L (.int (nI (lenS.getD w 0)) :: st) σ) : WW Γ pc L (.ref (200 + w) :: st) σ := sorry
theorem s_schar {w : Nat} {i : Int32} (G : OK Γ RX3 cc nL rt fr lo) (hd : decode cc pc = .ok (.invokevirtual 72, 3)) (hw : w < 8) (hi : ib i (lenS.getD w 0) = true) (hcat : (st.map fun v => v.category).sum ≤ 8) (hro : 5 ≤ fr ∧ 181 ≤ lo) (k : WW Γ (pc + 3) L (.int ((bytS.getD w []).getD i.toNatClampNeg 0) :: st) σ) : WW Γ pc L (.int i :: .ref (200 + w) :: st) σ := sorry
end RW
