/-! bits (out of the kit's BITS) -/
def bt (x : Int32) (i : Nat) : Bool := x.toBitVec.getLsbD i
theorem b_ext {x y : Int32} (h : ∀ i, i < 32 → bt x i = bt y i) : x = y := Int32.toBitVec_inj.mp (BitVec.eq_of_getLsbD_eq (fun i hi => h i hi))
theorem b_or (x y : Int32) (i : Nat) : bt (x ||| y) i = (bt x i || bt y i) := by unfold bt; rw [Int32.toBitVec_or, BitVec.getLsbD_or]
theorem b_and (x y : Int32) (i : Nat) : bt (x &&& y) i = (bt x i && bt y i) := by unfold bt; rw [Int32.toBitVec_and, BitVec.getLsbD_and]
theorem b_xor (x y : Int32) (i : Nat) : bt (x ^^^ y) i = (bt x i ^^ bt y i) := by unfold bt; rw [Int32.toBitVec_xor, BitVec.getLsbD_xor]
theorem b_m1 : ∀ i, i < 32 → bt (-1) i = true := by decide +kernel
theorem b_0 (i : Nat) : bt 0 i = false := BitVec.getLsbD_zero
theorem s_l : ∀ n, n < 32 → ((nI n &&& 31).toBitVec.smod 32).toNat = n := by decide +kernel
theorem b_shl (n : Nat) (hn : n < 32) (x : Int32) {i : Nat} (hi : i < 32) : bt (x <<< (nI n &&& 31)) i = (decide (n ≤ i) && bt x (i - n)) := by
  unfold bt
  rw [Int32.toBitVec_shiftLeft]
  show (x.toBitVec <<< ((nI n &&& 31).toBitVec.smod 32).toNat).getLsbD i = _
  rw [s_l n hn, BitVec.getLsbD_shiftLeft]
  rcases Nat.lt_or_ge i n with h | h
  · simp [h, Nat.not_le.mpr h]
  · simp [hi, h, Nat.not_lt.mpr h]
theorem b_sshr (n : Nat) (hn : n < 32) (x : Int32) {i : Nat} (hi : i < 32) : bt (x >>> (nI n &&& 31)) i = if n + i < 32 then bt x (n + i) else bt x 31 := by
  unfold bt
  rw [Int32.toBitVec_shiftRight]
  show (x.toBitVec.sshiftRight ((nI n &&& 31).toBitVec.smod 32).toNat).getLsbD i = _
  rw [s_l n hn, BitVec.getLsbD_sshiftRight, BitVec.msb_eq_getLsbD_last]
  simp [hi]
theorem b_one : ∀ i, i < 32 → bt 1 i = decide (i = 0) := by decide +kernel
theorem b_shl1 {k i : Nat} (hk : k < 32) (hi : i < 32) : bt ((1 : Int32) <<< (nI k &&& 31)) i = decide (i = k) := by
  rw [b_shl k hk 1 hi]
  rcases Nat.lt_trichotomy i k with h | h | h
  · rw [decide_eq_false (by omega), decide_eq_false (by omega)]; rfl
  · subst h
    rw [Nat.sub_self, decide_eq_true (Nat.le_refl i), decide_eq_true rfl]; decide +kernel
  · rw [b_one (i - k) (by omega), decide_eq_false (show ¬ i - k = 0 by omega), decide_eq_false (show ¬ i = k by omega)]
    simp
theorem b_bit (x : Int32) {l : Nat} (hl : l < 31) : ((x >>> (nI l &&& 31)) &&& (1 : Int32)) = (1 : Int32) ↔ bt x l = true := by
  have e : bt (x >>> (nI l &&& 31)) 0 = bt x l := by rw [b_sshr l (by omega) x (by omega), if_pos (by omega), Nat.add_zero]
  rw [← e]
  constructor
  · intro h
    have := congrArg (fun z => bt z 0) h
    simp only [b_and] at this
    rw [show bt 1 0 = true by decide +kernel] at this
    simpa using this
  · intro h
    refine b_ext (fun i hi => ?_)
    rw [b_and, b_one i hi]
    by_cases e : i = 0
    · subst e; rw [h]; rfl
    · rw [decide_eq_false e]; simp
/-! the reference's grid -/
def MG (g : Nat → Int32) (N : Net) : Prop := g 0 = nI (nB N) ∧ g 1 = nI (nL N) ∧ (∀ i, i < 6 → g (2 + i) = iI (eQ N i)) ∧ ∀ l, l < nL N → g (8 + 5 * l) = nI (eA N l) ∧ g (8 + 5 * l + 1) = nI (eB N l) ∧ g (8 + 5 * l + 2) = iI (eS N l) ∧ g (8 + 5 * l + 3) = iI (eM N l) ∧ g (8 + 5 * l + 4) = bI (eO N l)
theorem li_ix {l w : Nat} (hl : l < 10) (hw : w < 5) : (((8 : Int32) + ((5 : Int32) * nI l)) + nI w) = nI (8 + 5 * l + w) := by
  show (nI 8 + nI 5 * nI l) + nI w = _
  rw [pk_mul, nI_add, nI_add]
theorem y_lineAt {σ : St} {l w : Nat} (hl : l < 10) (hw : w < 5) : f_X6_lineAt (nI l) (nI w) σ = some (σ.1 88 (8 + 5 * l + w), σ) := by
  unfold f_X6_lineAt chk
  rw [li_ix hl hw, if_pos (ib_nI (by omega) (by omega)), nI31 (by omega)]
theorem y_has {σ : St} (S : Int32) {l : Nat} (hl : l < 31) : f_X6_has S (nI l) σ = some (bI (bt S l), σ) := by
  unfold f_X6_has
  by_cases h : bt S l = true
  · rw [if_pos ((b_bit S hl).mpr h), h]; rfl
  · rw [if_neg (fun q => h ((b_bit S hl).mp q))]
    have : bt S l = false := by cases q : bt S l; rfl; exact absurd q h
    rw [this]; rfl
theorem y_isIn {σ : St} {N : Net} (hN : NV N) (hG : MG (σ.1 88) N) {l : Nat} (hl : l < nL N) : f_X6_isIn (nI l) σ = some (bI (eO N l), σ) := by
  have hm := hN.2.2.1
  unfold f_X6_isIn
  rw [show (4 : Int32) = nI 4 from rfl, y_lineAt (by omega) (by omega), (hG.2.2.2 l hl).2.2.2.2]
  show (if bI (eO N l) = 1 then _ else _) = _
  cases eO N l
  · rfl
  · rfl
/-- the set of the lines that are in service -/
def IS (N : Net) (S : Int32) : Prop := ∀ l, l < 10 → bt S l = (decide (l < nL N) && eO N l)
theorem y_inSet {σ : St} {N : Net} (hN : NV N) (hG : MG (σ.1 88) N) : Ho (f_X6_inSet σ) (fun q => q.2 = σ ∧ IS N q.1) := by
  have hm := hN.2.2.1
  have loop : ∀ (d l fuel : Nat) (S : Int32), l + d = nL N → d < fuel → (∀ q, q < 10 → bt S q = (decide (q < l) && eO N q)) → Ho (f_X6_inSet_4 (fun (x11 : Int32) (σ12 : St) => some (x11, σ12)) fuel S (nI l) σ) (fun q => q.2 = σ ∧ IS N q.1) := by
    intro d
    induction d with
    | zero =>
      intro l fuel S hid hf h
      obtain ⟨fuel, rfl⟩ : ∃ f, fuel = f + 1 := ⟨fuel - 1, by omega⟩
      have e : l = nL N := by omega
      subst e
      rw [f_X6_inSet_4, show (1 : Int32).toNatClampNeg = 1 from rfl, hG.2.1]
      exact ho_t (nI_ge' (Nat.le_refl _) (by omega)) (ho_some ⟨rfl, h⟩)
    | succ d ih =>
      intro l fuel S hid hf h
      obtain ⟨fuel, rfl⟩ : ∃ f, fuel = f + 1 := ⟨fuel - 1, by omega⟩
      rw [f_X6_inSet_4, show (1 : Int32).toNatClampNeg = 1 from rfl, hG.2.1, y_isIn hN hG (by omega)]
      refine ho_f (nI_nge' (by omega) (by omega)) ?_
      show Ho (if bI (eO N l) = 0 then _ else _) _
      have fin : ∀ S' : Int32, (∀ q, q < 10 → bt S' q = (bt S q || (decide (q = l) && eO N q))) → Ho (f_X6_inSet_4 (fun (x11 : Int32) (σ12 : St) => some (x11, σ12)) fuel S' (nI l + 1) σ) (fun q => q.2 = σ ∧ IS N q.1) := by
        intro S' hS'
        rw [nI_1]
        refine ih (l + 1) fuel S' (by omega) (by omega) (fun q hq => ?_)
        rw [hS' q hq, h q hq]
        rcases Nat.lt_trichotomy q l with w | w | w
        · rw [decide_eq_true w, decide_eq_true (show q < l + 1 by omega), decide_eq_false (show ¬ q = l by omega)]; simp
        · rw [w]; simp
        · rw [decide_eq_false (show ¬ q < l by omega), decide_eq_false (show ¬ q < l + 1 by omega), decide_eq_false (show ¬ q = l by omega)]; rfl
      refine ho_if (fun c => ho_nm (fin _ (fun q hq => ?_))) (fun c => ho_nm (fin _ (fun q hq => ?_)))
      · rw [b_or, b_0]
        by_cases e : q = l
        · rw [e, bI_0.mp c]; simp
        · rw [decide_eq_false e]; simp
      · rw [b_or, b_shl1 (by omega) (by omega)]
        by_cases e : q = l
        · have : eO N l = true := by cases w : eO N l; exact absurd (by rw [w]; rfl) c; rfl
          rw [e, this]; simp
        · rw [decide_eq_false e]; simp
  unfold f_X6_inSet
  exact loop (nL N) 0 1000 0 (by omega) (by omega) (fun q _ => by rw [b_0, decide_eq_false (Nat.not_lt_zero q)]; rfl)
theorem bt_wo (S : Int32) {k l : Nat} (hk : k < 31) (hl : l < 31) : bt (S &&& (((1 : Int32) <<< (nI k &&& 31)) ^^^ (-1 : Int32))) l = (bt S l && !decide (l = k)) := by
  rw [b_and, b_xor, b_m1 l (by omega), b_shl1 (by omega) (by omega)]
  simp
/-! labels that run along lines -/
section Lab
variable (n m : Nat) (a b : Nat → Nat) (lv : Nat → Bool)
def stp (t : Nat → Nat) (l : Nat) : Nat → Nat := fun i => if lv l = true ∧ (i = a l ∨ i = b l) then min (t (a l)) (t (b l)) else t i
def Tr : Nat → Nat → Nat
  | 0 => fun i => i
  | r + 1 => stp a b lv (Tr r) (r % m)
end Lab
def ct (p : Nat → Bool) : Nat → Nat
  | 0 => 0
  | n + 1 => ct p n + (if p n = true then 1 else 0)
theorem ct_le (p : Nat → Bool) : ∀ n, ct p n ≤ n
  | 0 => Nat.le_refl 0
  | n + 1 => by have := ct_le p n; rw [ct]; split <;> omega
theorem ct_mono {p q : Nat → Bool} : ∀ {n : Nat}, (∀ k, k < n → p k = true → q k = true) → ct p n ≤ ct q n
  | 0, _ => Nat.le_refl 0
  | n + 1, h => by
    have h1 := ct_mono (n := n) (fun k hk => h k (by omega))
    have h2 := h n (by omega)
    rw [ct, ct]
    by_cases e : p n = true
    · rw [if_pos e, if_pos (h2 e)]; omega
    · rw [if_neg e]; omega
theorem ct_lt {p q : Nat → Bool} {j : Nat} : ∀ {n : Nat}, (∀ k, k < n → p k = true → q k = true) → j < n → p j = false → q j = true → ct p n + 1 ≤ ct q n
  | 0, _, h, _, _ => absurd h (Nat.not_lt_zero j)
  | n + 1, h, hj, h1, h2 => by
    rw [ct, ct]
    by_cases e : j = n
    · subst e
      have := ct_mono (n := j) (p := p) (q := q) (fun k hk => h k (by omega))
      rw [if_neg (by rw [h1]; decide), if_pos h2]; omega
    · have := ct_lt (n := n) (fun k hk => h k (by omega)) (by omega) h1 h2
      have h3 := h n (by omega)
      by_cases w : p n = true
      · rw [if_pos w, if_pos (h3 w)]; omega
      · rw [if_neg w]; omega
theorem ct_one {p : Nat → Bool} {j n : Nat} (hj : j < n) (h : p j = true) : 1 ≤ ct p n := by
  have := ct_lt (p := fun _ => false) (q := p) (j := j) (n := n) (fun _ _ w => by cases w) hj rfl h
  omega
theorem Isl.ex (n : Nat) (a b : Nat → Nat) (lv : Nat → Bool) : ∀ m, (∀ l, l < m → a l < n ∧ b l < n) → ∃ sl, Isl n m a b lv sl
  | 0, _ => ⟨_, Isl.zero n a b lv⟩
  | m + 1, h => by
    obtain ⟨sl, hs⟩ := Isl.ex n a b lv m (fun l hl => h l (by omega))
    cases e : lv m
    · exact ⟨sl, hs.skip e⟩
    · exact ⟨_, hs.join e (h m (by omega)).1 (h m (by omega)).2 (lo := min (sl (a m)) (sl (b m))) (hi := max (sl (a m)) (sl (b m))) (by omega)⟩
theorem Tr_end {n m : Nat} {a b : Nat → Nat} {lv : Nat → Bool} {sl : Nat → Nat} (hI : Isl n m a b lv sl) (hab : ∀ l, l < m → a l < n ∧ b l < n) (hn : 1 ≤ n) : ∀ i, i < n → Tr m a b lv (n * m) i = sl i := by
  have low : ∀ r, (m = 0 → r = 0) → ∀ i, i < n → sl i ≤ Tr m a b lv r i := by
    intro r
    induction r with
    | zero => intro _ i hi; exact (hI.1 i hi).1
    | succ r ih =>
      intro h0 i hi
      have hm : 0 < m := Nat.pos_of_ne_zero (fun e => absurd (h0 e) (by omega))
      have ih := ih (fun e => absurd e (by omega))
      have hl := Nat.mod_lt r hm
      show sl i ≤ stp a b lv (Tr m a b lv r) (r % m) i
      unfold stp
      split
      · next h =>
        obtain ⟨hv, hi2⟩ := h
        have e := hI.2.1 _ hl hv
        obtain ⟨ha, hb⟩ := hab _ hl
        have := ih _ ha
        have := ih _ hb
        rcases hi2 with w | w <;> rw [w] <;> omega
      · exact ih i hi
  have up : ∀ r i, Tr m a b lv r i ≤ i ∨ True := fun _ _ => Or.inr trivial
  have cor1 : ∀ r, (m = 0 → r = 0) → 0 < m → ∀ i, i < n → Tr m a b lv r i = sl i → Tr m a b lv (r + 1) i = sl i := by
    intro r h0 hm i hi h
    have hl := Nat.mod_lt r hm
    show stp a b lv (Tr m a b lv r) (r % m) i = sl i
    unfold stp
    split
    · next q =>
      obtain ⟨hv, hi2⟩ := q
      have e := hI.2.1 _ hl hv
      obtain ⟨ha, hb⟩ := hab _ hl
      have l1 := low r h0 _ ha
      have l2 := low r h0 _ hb
      rcases hi2 with w | w
      · rw [w] at h ⊢; omega
      · rw [w] at h ⊢; omega
    · exact h
  have corN : ∀ d r, 0 < m → ∀ i, i < n → Tr m a b lv r i = sl i → Tr m a b lv (r + d) i = sl i := by
    intro d
    induction d with
    | zero => intro r _ i _ h; exact h
    | succ d ih =>
      intro r hm i hi h
      exact cor1 (r + d) (fun e => absurd e (by omega)) hm i hi (ih r hm i hi h)
  have root : ∀ r, (m = 0 → r = 0) → ∀ i, i < n → sl i = i → Tr m a b lv r i = sl i := by
    intro r
    induction r with
    | zero => intro _ i _ h; exact h.symm
    | succ r ih =>
      intro h0 i hi h
      have hm : 0 < m := Nat.pos_of_ne_zero (fun e => absurd (h0 e) (by omega))
      exact cor1 r (fun e => absurd e (by omega)) hm i hi (ih (fun e => absurd e (by omega)) i hi h)
  have pass : ∀ p, (∀ i, i < n → Tr m a b lv (p * m) i = sl i) ∨ ∃ j, j < n ∧ Tr m a b lv (p * m) j ≠ sl j ∧ Tr m a b lv ((p + 1) * m) j = sl j := by
    intro p
    have h00 : m = 0 → p * m = 0 := fun e => by rw [e]; rfl
    rcases Classical.em (∀ l, l < m → lv l = true → (Tr m a b lv (p * m) (a l) = sl (a l) ↔ Tr m a b lv (p * m) (b l) = sl (b l))) with h | h
    · left
      intro i hi
      have q := hI.2.2 (fun j => Tr m a b lv (p * m) j = sl j) h i hi
      exact q.mpr (root _ h00 (sl i) (hI.lt hi) (hI.1 i hi).2)
    · right
      have : ∃ l, l < m ∧ lv l = true ∧ ¬ (Tr m a b lv (p * m) (a l) = sl (a l) ↔ Tr m a b lv (p * m) (b l) = sl (b l)) := by
        refine Classical.byContradiction (fun w => h (fun l hl hv => ?_))
        exact Classical.byContradiction (fun w2 => w ⟨l, hl, hv, w2⟩)
      obtain ⟨l, hl, hv, hd⟩ := this
      have hm : 0 < m := by omega
      obtain ⟨ha, hb⟩ := hab l hl
      have e := hI.2.1 l hl hv
      have hmod : (p * m + l) % m = l := by rw [Nat.add_comm, Nat.add_mul_mod_self_right]; exact Nat.mod_eq_of_lt hl
      have both : (Tr m a b lv (p * m) (a l) = sl (a l) ∨ Tr m a b lv (p * m) (b l) = sl (b l)) → Tr m a b lv (p * m + l + 1) (a l) = sl (a l) ∧ Tr m a b lv (p * m + l + 1) (b l) = sl (b l) := by
        intro w
        have l1 := low (p * m + l) (fun e => absurd e (by omega)) _ ha
        have l2 := low (p * m + l) (fun e => absurd e (by omega)) _ hb
        have w2 : Tr m a b lv (p * m + l) (a l) = sl (a l) ∨ Tr m a b lv (p * m + l) (b l) = sl (b l) := by
          rcases w with w | w
          · exact Or.inl (corN l (p * m) hm _ ha w)
          · exact Or.inr (corN l (p * m) hm _ hb w)
        have e1 : Tr m a b lv (p * m + l + 1) = stp a b lv (Tr m a b lv (p * m + l)) l := by
          show stp a b lv (Tr m a b lv (p * m + l)) ((p * m + l) % m) = _
          rw [hmod]
        rw [e1]
        unfold stp
        rw [if_pos ⟨hv, Or.inl rfl⟩, if_pos ⟨hv, Or.inr rfl⟩]
        omega
      have fin : ∀ j, j < n → Tr m a b lv (p * m + l + 1) j = sl j → Tr m a b lv ((p + 1) * m) j = sl j := by
        intro j hj w
        have := corN (m - l - 1) (p * m + l + 1) hm j hj w
        rw [show p * m + l + 1 + (m - l - 1) = (p + 1) * m by rw [Nat.add_mul]; omega] at this
        exact this
      rcases Classical.em (Tr m a b lv (p * m) (a l) = sl (a l)) with w | w
      · have w2 : Tr m a b lv (p * m) (b l) ≠ sl (b l) := fun q => hd ⟨fun _ => q, fun _ => w⟩
        exact ⟨b l, hb, w2, fin _ hb (both (Or.inl w)).2⟩
      · have w2 : Tr m a b lv (p * m) (b l) = sl (b l) := Classical.byContradiction (fun q => hd ⟨fun z => absurd z w, fun z => absurd z q⟩)
        exact ⟨a l, ha, w, fin _ ha (both (Or.inr w2)).1⟩
  have count : ∀ p, (∀ i, i < n → Tr m a b lv (p * m) i = sl i) ∨ p + 1 ≤ ct (fun i => decide (Tr m a b lv (p * m) i = sl i)) n := by
    intro p
    induction p with
    | zero =>
      right
      have h0 : sl 0 = 0 := by have := (hI.1 0 (by omega)).1; omega
      exact ct_one (j := 0) (by omega) (decide_eq_true (root _ (fun _ => by omega) 0 (by omega) h0))
    | succ p ih =>
      by_cases hm : m = 0
      · rcases pass p with w | ⟨j, hj, w1, w2⟩
        · left
          intro i hi
          rw [← w i hi, hm]
          rfl
        · rw [hm] at w1 w2
          exact absurd w2 w1
      · have keep : ∀ i, i < n → Tr m a b lv (p * m) i = sl i → Tr m a b lv ((p + 1) * m) i = sl i := fun i hi w => by
          have := corN m (p * m) (by omega) i hi w
          rw [show p * m + m = (p + 1) * m by rw [Nat.add_mul]; omega] at this
          exact this
        rcases ih with w | w
        · exact Or.inl (fun i hi => keep i hi (w i hi))
        · rcases pass p with w2 | ⟨j, hj, w1, w2⟩
          · exact Or.inl (fun i hi => keep i hi (w2 i hi))
          · right
            have := ct_lt (p := fun i => decide (Tr m a b lv (p * m) i = sl i)) (q := fun i => decide (Tr m a b lv ((p + 1) * m) i = sl i)) (j := j) (n := n) (fun k hk z => decide_eq_true (keep k hk (of_decide_eq_true z))) hj (decide_eq_false w1) (decide_eq_true w2)
            omega
  rcases count n with w | w
  · exact w
  · have := ct_le (fun i => decide (Tr m a b lv (n * m) i = sl i)) n
    omega
theorem y_parts {σ : St} {N : Net} (hN : NV N) (hG : MG (σ.1 88) N) (S : Int32) :
    Ho (f_X6_parts S σ) (fun τ => Fr [94] σ τ ∧ ∃ sl, IslN N (fun l => bt S l) sl ∧ ∀ i, i < nB N → τ.1 94 i = nI (sl i)) := by
  have hn := hN.2.1
  have hn2 := hN.1
  have hm := hN.2.2.1
  obtain ⟨sl, hI⟩ := Isl.ex (nB N) (eA N) (eB N) (fun l => bt S l) (nL N) hN.ab
  have hend := Tr_end hI hN.ab (by omega)
  have tl : ∀ r i, i < nB N → Tr (nL N) (eA N) (eB N) (fun l => bt S l) r i < nB N ∨ nL N = 0 := by
    intro r
    by_cases h0 : nL N = 0
    · exact fun _ _ => Or.inr h0
    · induction r with
      | zero => exact fun i hi => Or.inl hi
      | succ r ih =>
        intro i hi
        left
        show stp _ _ _ _ _ i < nB N
        unfold stp
        obtain ⟨v1, v2⟩ := hN.ab (r % nL N) (Nat.mod_lt r (by omega))
        have h1 := ih _ v1
        have h2 := ih _ v2
        have h3 := ih i hi
        split <;> omega
  have loop2 : ∀ (d r fuel : Nat) (τ : St), r + d = nB N * nL N → d < fuel → Fr [94] σ τ → (∀ i, i < nB N → τ.1 94 i = nI (Tr (nL N) (eA N) (eB N) (fun l => bt S l) r i)) → Ho (f_X6_parts_27 S (fun (σ27 : St) => some σ27) fuel (nI r) τ) (fun τ => Fr [94] σ τ ∧ ∃ sl, IslN N (fun l => bt S l) sl ∧ ∀ i, i < nB N → τ.1 94 i = nI (sl i)) := by
    have hnm : nB N * nL N ≤ 60 := by have := Nat.mul_le_mul hn hm; omega
    intro d
    induction d with
    | zero =>
      intro r fuel τ hid hf hF h
      obtain ⟨fuel, rfl⟩ : ∃ f, fuel = f + 1 := ⟨fuel - 1, by omega⟩
      rw [f_X6_parts_27, hF.i (i := 88) (by decide), show (0 : Int32).toNatClampNeg = 0 from rfl, show (1 : Int32).toNatClampNeg = 1 from rfl, hG.1, hG.2.1, pk_mul]
      refine ho_t (nI_ge' (by omega) (by omega)) (ho_some ⟨hF, sl, hI, fun i hi => ?_⟩)
      rw [h i hi, show r = nB N * nL N by omega, hend i hi]
    | succ d ih =>
      intro r fuel τ hid hf hF h
      obtain ⟨fuel, rfl⟩ : ∃ f, fuel = f + 1 := ⟨fuel - 1, by omega⟩
      have hm0 : 0 < nL N := Nat.pos_of_ne_zero (fun e => by rw [e] at hid; omega)
      have hl := Nat.mod_lt r hm0
      obtain ⟨q1, q2, -⟩ := hG.2.2.2 _ hl
      obtain ⟨v1, v2⟩ := hN.ab _ hl
      rw [f_X6_parts_27, hF.i (i := 88) (by decide), show (0 : Int32).toNatClampNeg = 0 from rfl, show (1 : Int32).toNatClampNeg = 1 from rfl, hG.1, hG.2.1, pk_mul]
      refine ho_f (nI_nge' (by omega) (by omega)) (ho_chk (decide_eq_true (fun e => nI_ne (a := nL N) (b := 0) (by omega) (by omega) (by omega) e)) (ho_nm ?_))
      rw [pk_rem (by omega) hm0 (by omega), show (0 : Int32) = nI 0 from rfl, show (1 : Int32) = nI 1 from rfl, y_lineAt (by omega) (by omega)]
      show Ho (Option.bind (f_X6_lineAt (nI (r % nL N)) (nI 1) τ) _) _
      rw [y_lineAt (by omega) (by omega)]
      show Ho (Option.bind (f_X6_has S (nI (r % nL N)) τ) _) _
      rw [y_has S (by omega), hF.i (i := 88) (by decide), Nat.add_zero, q1, q2]
      show Ho (if bI (bt S (r % nL N)) = nI 0 then _ else _) _
      have t1 := (tl r _ v1).resolve_right (by omega)
      have t2 := (tl r _ v2).resolve_right (by omega)
      refine ho_if (fun c => ?_) (fun c => ?_)
      · have c' := bI_0.mp c
        rw [nI_add]
        refine ih (r + 1) fuel τ (by omega) (by omega) hF (fun i hi => ?_)
        rw [h i hi]
        show _ = nI (stp _ _ _ _ _ i)
        unfold stp
        rw [if_neg (fun w => absurd (c'.symm.trans w.1) (by decide))]
      · have c' : bt S (r % nL N) = true := by cases w : bt S (r % nL N); exact absurd (by rw [w]; rfl) c; rfl
        dsimp only
        rw [nI31 (by omega), nI31 (by omega), h _ v1, h _ v2]
        refine ho_chk (ib_nI (by omega) (by omega)) (ho_chk (ib_nI (by omega) (by omega)) (ho_jn ?_))
        dsimp only
        have fin : ∀ v : Int32, v = nI (min (Tr (nL N) (eA N) (eB N) (fun l => bt S l) r (eA N (r % nL N))) (Tr (nL N) (eA N) (eB N) (fun l => bt S l) r (eB N (r % nL N)))) → Ho (f_X6_parts_27 S (fun (σ27 : St) => some σ27) fuel (nI r + 1) (sI (sI τ 94 (eA N (r % nL N)) v) 94 (eB N (r % nL N)) v)) (fun τ => Fr [94] σ τ ∧ ∃ sl, IslN N (fun l => bt S l) sl ∧ ∀ i, i < nB N → τ.1 94 i = nI (sl i)) := by
          intro v hv
          rw [nI_1]
          refine ih (r + 1) fuel _ (by omega) (by omega) ((hF.sI (by decide)).sI (by decide)) (fun i hi => ?_)
          show _ = nI (stp _ _ _ _ _ i)
          unfold stp
          by_cases e1 : i = eB N (r % nL N)
          · rw [e1, sI_at, if_pos ⟨c', Or.inr rfl⟩, hv]
          · rw [sI_off _ _ _ _ e1]
            by_cases e2 : i = eA N (r % nL N)
            · rw [e2, sI_at, if_pos ⟨c', Or.inl rfl⟩, hv]
            · rw [sI_off _ _ _ _ e2, h i hi, if_neg (fun w => w.2.elim e2 e1)]
        refine ho_if (fun w => ho_nm (ho_nm (fin _ ?_))) (fun w => ho_nm (ho_nm (fin _ ?_)))
        · have := (nI_leI (by omega) (by omega)).mp w
          rw [Nat.min_eq_right this]
        · have : ¬ _ ≤ _ := fun q => w ((nI_leI (by omega) (by omega)).mpr q)
          rw [Nat.min_eq_left (by omega)]
  have loop1 : ∀ (d i fuel : Nat) (τ : St), i + d = nB N → d < fuel → Fr [94] σ τ → (∀ j, j < i → τ.1 94 j = nI j) → Ho (f_X6_parts_2 S (fun (σ8 : St) => f_X6_parts_27 S (fun (σ27 : St) => some σ27) 1000 (0 : Int32) σ8) fuel (nI i) τ) (fun τ => Fr [94] σ τ ∧ ∃ sl, IslN N (fun l => bt S l) sl ∧ ∀ i, i < nB N → τ.1 94 i = nI (sl i)) := by
    have hnm : nB N * nL N ≤ 60 := by have := Nat.mul_le_mul hn hm; omega
    intro d
    induction d with
    | zero =>
      intro i fuel τ hid hf hF h
      obtain ⟨fuel, rfl⟩ : ∃ f, fuel = f + 1 := ⟨fuel - 1, by omega⟩
      rw [f_X6_parts_2, hF.i (i := 88) (by decide), show (0 : Int32).toNatClampNeg = 0 from rfl, hG.1]
      exact ho_t (nI_ge' (by omega) (by omega)) (loop2 (nB N * nL N) 0 1000 τ (by omega) (by omega) hF (fun j hj => h j (by omega)))
    | succ d ih =>
      intro i fuel τ hid hf hF h
      obtain ⟨fuel, rfl⟩ : ∃ f, fuel = f + 1 := ⟨fuel - 1, by omega⟩
      rw [f_X6_parts_2, hF.i (i := 88) (by decide), show (0 : Int32).toNatClampNeg = 0 from rfl, hG.1]
      refine ho_f (nI_nge' (by omega) (by omega)) (ho_chk (ib_nI (by omega) (by omega)) (ho_nm ?_))
      rw [nI31 (by omega), nI_1]
      refine ih (i + 1) fuel _ (by omega) (by omega) (hF.sI (by decide)) (fun j hj => ?_)
      by_cases e : j = i
      · rw [e, sI_at]
      · rw [sI_off _ _ _ _ e]; exact h j (by omega)
  unfold f_X6_parts
  exact loop1 (nB N) 0 1000 σ (by omega) (by omega) Fr.refl (fun j hj => absurd hj (Nat.not_lt_zero j))
