/-! the reference: judges -/
section Jd
variable {N : Net} {lv : Nat → Bool} {sl : Nat → Nat} {σ : St}
/-- the reference's state of the heaviest line -/
def Jy (τ : St) (o : Option Nat) (c : Nat) (ρ : Nat → Rat) : Prop := τ.1 87 15 = wi o ∧ Qt (τ.2 87 16) (τ.2 87 17) (wr ρ o) ∧ LT (wr ρ o) (τ.2 87 16).toInt (τ.2 87 17).toInt ∧ τ.1 87 18 = nI c
theorem Qt.low {p q g : Int64} {α : Rat} (h : Qt p q α) (hg : g.toInt = ((Int.gcd p.toInt q.toInt : Nat) : Int)) : Qt (p / g) (q / g) α ∧ LT α (p / g).toInt (q / g).toInt := by
  obtain ⟨h1, h2, h3, h4, h5⟩ := h
  have g0 : Int.gcd p.toInt q.toInt ≠ 0 := fun e => by have := (Int.gcd_eq_zero_iff.mp e).2; omega
  have hL := LT.of (p := p.toInt) h4
  rw [rdiv h4 h1] at hL
  have e1 : (p / g).toInt = p.toInt / (Int.gcd p.toInt q.toInt : Int) := by rw [l_div _ _ (by omega), hg]; exact Int.tdiv_eq_ediv_of_dvd (Int.gcd_dvd_left _ _)
  have e2 : (q / g).toInt = q.toInt / (Int.gcd p.toInt q.toInt : Int) := by rw [l_div _ _ (by omega), hg]; exact Int.tdiv_eq_ediv_of_dvd (Int.gcd_dvd_right _ _)
  have l1 : p.toInt / (Int.gcd p.toInt q.toInt : Int) ≤ p.toInt := Int.ediv_le_self _ h2
  have l2 : q.toInt / (Int.gcd p.toInt q.toInt : Int) ≤ q.toInt := Int.ediv_le_self _ (by omega)
  have l3 : 0 ≤ p.toInt / (Int.gcd p.toInt q.toInt : Int) := Int.ediv_nonneg h2 (by omega)
  rw [← e1, ← e2] at hL
  refine ⟨⟨hL.2.2, by omega, by omega, hL.1, by omega⟩, hL⟩
end Jd
