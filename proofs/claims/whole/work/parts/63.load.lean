/-! the class's load -/
section Ld
variable {N : Net} {lv : Nat → Bool} {sl : Nat → Nat}
/-- how heavily line l is laden -/
def rho (N : Net) (lv : Nat → Bool) (x : Nat → Rat) (l : Nat) : Rat := ab (fl_ N lv x l) / ((eM N l : Int) : Rat)
theorem Qt.of {p q : Int64} {φ : Rat} {W Z m : Int} (hW : 0 < W) (hW2 : W ≤ 4084101) (hm : 1 ≤ m) (hm2 : m ≤ 999) (hφ : ab φ ≤ 495) (hZ : ((Z : Int) : Rat) = φ * (W : Rat)) (hp : p.toInt = (Z.natAbs : Int)) (hq : q.toInt = W * m) : Qt p q (ab φ / (m : Rat)) := by
  have mq : ((m : Int) : Rat) ≠ 0 := fun e => by have : m = 0 := rat_eq (y := 0) e; omega
  have wp : ab ((W : Int) : Rat) = (W : Rat) := by rw [ab_int, show ((W.natAbs : Int)) = W by omega]
  have e1 : (((Z.natAbs : Nat) : Int) : Rat) = ab φ * (W : Rat) := by rw [← ab_int, hZ, ab_mul, wp]
  have b1 : 0 < W * m := Int.mul_pos hW (by omega)
  have b2 : W * m ≤ 4084101 * 999 := Int.mul_le_mul hW2 hm2 (by omega) (by omega)
  have w1 : (W : Rat) ≤ 4084101 := Rat.intCast_le_intCast.mpr hW2
  have w0 : (0 : Rat) ≤ (W : Rat) := Rat.intCast_le_intCast.mpr (show (0 : Int) ≤ W by omega)
  have w2 := mul_le2 hφ w1 w0 (by grind)
  rw [← e1] at w2
  have w3 : (((Z.natAbs : Nat) : Int) : Rat) ≤ ((495 * 4084101 : Int) : Rat) := Rat.le_trans w2 (by decide +kernel)
  have w4 := rat_le w3
  refine ⟨?_, by omega, by omega, by omega, by omega⟩
  rw [hp, hq, e1, Rat.intCast_mul]
  grind
end Ld
