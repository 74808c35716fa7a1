/-! the ranking: one entry comes to its place, on both sides -/
abbrev En : Type := Nat × Nat × Rat
def ins (L : Nat → En) (P : Nat) (e : En) : Nat → En := fun k => if k < P then L k else if k = P then e else L (k - 1)
def pos (L : Nat → En) (r : Rat) : Nat → Nat
  | 0 => 0
  | n + 1 => if (L n).2.2 < r then pos L r n else n + 1
theorem pos_le (L : Nat → En) (r : Rat) : ∀ n, pos L r n ≤ n
  | 0 => Nat.le_refl 0
  | n + 1 => by
    rw [pos]
    split
    · have := pos_le L r n; omega
    · omega
/-- how many of the first n are over -/
def ovr (L : Nat → En) : Nat → Nat
  | 0 => 0
  | n + 1 => ovr L n + (if 1 < (L n).2.2 then 1 else 0)
theorem ovr_le (L : Nat → En) : ∀ n, ovr L n ≤ n
  | 0 => Nat.le_refl 0
  | n + 1 => by
    have := ovr_le L n
    rw [ovr]
    split <;> omega
theorem ovr_congr {L M : Nat → En} : ∀ {n : Nat}, (∀ k, k < n → L k = M k) → ovr L n = ovr M n
  | 0, _ => rfl
  | n + 1, h => by rw [ovr, ovr, ovr_congr (fun k hk => h k (by omega)), h n (by omega)]
theorem ovr_ins (L : Nat → En) (e : En) : ∀ (n P : Nat), P ≤ n → ovr (ins L P e) (n + 1) = ovr L n + (if 1 < e.2.2 then 1 else 0)
  | n, P, h => by
    by_cases c : P = n
    · subst c
      rw [ovr, ovr_congr (L := ins L P e) (M := L) (fun k hk => by unfold ins; rw [if_pos hk])]
      have : ins L P e P = e := by unfold ins; rw [if_neg (Nat.lt_irrefl P), if_pos rfl]
      rw [this]
    · match n, h, c with
      | 0, h, c => omega
      | n + 1, h, c =>
        rw [ovr, ovr_ins L e n P (by omega), ovr]
        have : ins L P e (n + 1) = L n := by unfold ins; rw [if_neg (by omega), if_neg (by omega)]; rfl
        rw [this]
        omega
abbrev Rs : Type := Nat × (Nat → En)
def insE (s : Rs) (e : En) : Rs := (s.1 + 1, ins s.2 (pos s.2 e.2.2 s.1) e)
theorem insE_ovr (s : Rs) (e : En) : ovr (insE s e).2 (insE s e).1 = ovr s.2 s.1 + (if 1 < e.2.2 then 1 else 0) := ovr_ins s.2 e s.1 _ (pos_le _ _ _)
def sc (two : Bool) (k : Nat) : Int32 := if two = true then nI k else -1
def HX (two : Bool) (τ : St) (k : Nat) (e : En) : Prop := τ.1 20 k = nI e.1 ∧ τ.1 21 k = sc two e.2.1 ∧ Qt (τ.2 22 k) (τ.2 23 k) e.2.2
def HY (τ : St) (k : Nat) (e : En) : Prop := τ.1 99 k = nI e.1 ∧ τ.1 100 k = nI e.2.1 ∧ Qt (τ.2 101 k) (τ.2 102 k) e.2.2 ∧ LT e.2.2 (τ.2 101 k).toInt (τ.2 102 k).toInt
/-- four cells put at place p -/
theorem put4 (τ : St) {i j k l : Nat} (hij : i ≠ j) (hkl : k ≠ l) (p : Nat) (v0 v1 : Int32) (v2 v3 : Int64) :
    (sL (sL (sI (sI τ i p v0) j p v1) k p v2) l p v3).1 i p = v0 ∧ (sL (sL (sI (sI τ i p v0) j p v1) k p v2) l p v3).1 j p = v1 ∧ (sL (sL (sI (sI τ i p v0) j p v1) k p v2) l p v3).2 k p = v2 ∧ (sL (sL (sI (sI τ i p v0) j p v1) k p v2) l p v3).2 l p = v3 ∧
    ∀ q, q ≠ p → (sL (sL (sI (sI τ i p v0) j p v1) k p v2) l p v3).1 i q = τ.1 i q ∧ (sL (sL (sI (sI τ i p v0) j p v1) k p v2) l p v3).1 j q = τ.1 j q ∧ (sL (sL (sI (sI τ i p v0) j p v1) k p v2) l p v3).2 k q = τ.2 k q ∧ (sL (sL (sI (sI τ i p v0) j p v1) k p v2) l p v3).2 l q = τ.2 l q := by
  refine ⟨?_, ?_, ?_, ?_, fun q hq => ⟨?_, ?_, ?_, ?_⟩⟩
  · rw [sL_1, sL_1, sI_ne _ _ _ hij, sI_at]
  · rw [sL_1, sL_1, sI_at]
  · rw [sL_ne _ _ _ hkl, sL_at]
  · rw [sL_at]
  · rw [sL_1, sL_1, sI_ne _ _ _ hij, sI_off _ _ _ _ hq]
  · rw [sL_1, sL_1, sI_off _ _ _ _ hq, sI_ne _ _ _ (Ne.symm hij)]
  · rw [sL_ne _ _ _ hkl, sL_off _ _ _ _ hq, sI_2, sI_2]
  · rw [sL_off _ _ _ _ hq, sL_ne _ _ _ (Ne.symm hkl), sI_2, sI_2]
theorem nI_m1 (t : Nat) : nI (t + 1) - (1 : Int32) = nI t := by rw [← nI_1]; grind
theorem nI_m2 (t : Nat) : nI (t + 1) + (-1) = nI t := by rw [← nI_1]; grind
theorem nI_ps {t : Nat} (h : t + 1 < 1000) : ¬ nI (t + 1) ≤ 0 := fun w => by
  have := i_le.mp w
  rw [nI_t h] at this
  have e : (0 : Int32).toInt = 0 := rfl
  omega
section Rk
variable {two : Bool} {σ : St} {L : Nat → En} {n : Nat} {r : Rat}
theorem x_ins16 (hn : n < 45) {a1 a2 : Int32} {a3 a4 : Int64} (hQ : Qt a3 a4 r) {K : Int32 → St → Option St} {Q : St → Prop}
    (hK : ∀ τ, Fr [20, 21, 22, 23] σ τ → (∀ k, k < pos L r n → HX two τ k (L k)) → (∀ k, pos L r n < k → k ≤ n → HX two τ k (L (k - 1))) → Ho (K (nI (pos L r n)) τ) Q) :
    ∀ (t fuel : Nat) (τ : St), t ≤ n → t < fuel → Fr [20, 21, 22, 23] σ τ → pos L r t = pos L r n → (∀ k, k < t → HX two τ k (L k)) → (∀ k, t < k → k ≤ n → HX two τ k (L (k - 1))) → Ho (f_X2_insert_16 a1 a2 a3 a4 K fuel (nI t) τ) Q := by
  intro t
  induction t with
  | zero =>
    intro fuel τ ht hf hF hp hA hB
    obtain ⟨fuel, rfl⟩ : ∃ f, fuel = f + 1 := ⟨fuel - 1, by omega⟩
    rw [f_X2_insert_16]
    refine ho_t (by decide) ?_
    have e : pos L r n = 0 := hp.symm
    have q := hK τ hF
    rw [e] at q
    exact q hA hB
  | succ t ih =>
    intro fuel τ ht hf hF hp hA hB
    obtain ⟨fuel, rfl⟩ : ∃ f, fuel = f + 1 := ⟨fuel - 1, by omega⟩
    have hX := hA t (by omega)
    obtain ⟨x1, x2, x3⟩ := hX
    rw [f_X2_insert_16, nI_m1, nI_m2, nI31 (k := t) (by omega), nI31 (k := t + 1) (by omega)]
    refine ho_f (nI_ps (by omega)) (ho_chk (ib_nI (by omega) (by omega)) ?_)
    unfold f_X5_isGreater
    have cm := hQ.cmp x3
    by_cases c : a3 * τ.2 23 t ≤ τ.2 22 t * a4
    · have ep : pos L r (t + 1) = t + 1 := by rw [pos, if_neg (by have := cm.mp c; grind)]
      rw [if_pos c]
      refine ho_be rfl (ho_t rfl ?_)
      have q := hK τ hF
      rw [← hp, ep] at q
      exact q hA hB
    · have ep : pos L r (t + 1) = pos L r t := by rw [pos, if_pos (by have : ¬ r ≤ (L t).2.2 := fun w => c (cm.mpr w); grind)]
      rw [if_neg c]
      refine ho_be rfl (ho_f (show ¬ (1 : Int32) = 0 by decide) (ho_chk (ib_nI (by omega) (by omega)) (ho_nm (ho_nm (ho_nm (ho_nm ?_))))))
      try dsimp only
      obtain ⟨p0, p1, p2, p3, po⟩ := put4 τ (i := 20) (j := 21) (k := 22) (l := 23) (by decide) (by decide) (t + 1) (τ.1 20 t) (τ.1 21 t) (τ.2 22 t) (τ.2 23 t)
      refine ih fuel _ (by omega) (by omega) ((((hF.sI (by decide)).sI (by decide)).sL (by decide)).sL (by decide)) (by rw [← ep, hp]) (fun k hk => ?_) (fun k h1 h2 => ?_)
      · obtain ⟨o0, o1, o2, o3⟩ := po k (by omega)
        have := hA k (by omega)
        unfold HX at this ⊢
        rw [← o0, ← o1, ← o2, ← o3] at this
        exact this
      · by_cases ek : k = t + 1
        · subst ek
          have e1 : t + 1 - 1 = t := rfl
          unfold HX
          rw [e1]
          refine ⟨p0.trans x1, p1.trans x2, ?_⟩
          have x3' := x3
          rw [← p2, ← p3] at x3'
          exact x3'
        · obtain ⟨o0, o1, o2, o3⟩ := po k ek
          have := hB k (by omega) h2
          unfold HX at this ⊢
          rw [← o0, ← o1, ← o2, ← o3] at this
          exact this
def RK (two : Bool) (τ : St) (s : Rs) : Prop := τ.1 19 4 = nI s.1 ∧ ∀ k, k < s.1 → HX two τ k (s.2 k)
theorem RK.fr {W : List Nat} {τ : St} {s : Rs} (h : RK two σ s) (hF : Fr W σ τ) (h9 : 19 ∉ W) (h0 : 20 ∉ W) (h1 : 21 ∉ W) (h2 : 22 ∉ W) (h3 : 23 ∉ W) : RK two τ s := by
  unfold RK HX
  rw [hF.i h9, hF.i h0, hF.i h1, hF.l h2, hF.l h3]
  exact h
theorem x_insert {s : Rs} (hs : s.1 < 45) (hR : RK two σ s) (j k : Nat) {a3 a4 : Int64} (hQ : Qt a3 a4 r) :
    Ho (f_X2_insert (nI j) (sc two k) a3 a4 σ) (fun τ => Fr [19, 20, 21, 22, 23] σ τ ∧ RK two τ (insE s (j, k, r))) := by
  obtain ⟨n, L⟩ := s
  obtain ⟨h1, h2⟩ := hR
  try dsimp only at hs h1 h2
  unfold f_X2_insert
  rw [h1]
  refine ho_t ?_ (ho_nm ?_)
  · refine i_lt.mpr ?_
    rw [nI_t (by omega)]
    have e : (45 : Int32).toInt = 45 := rfl
    omega
  · have pl := pos_le L r n
    refine x_ins16 (two := two) (L := L) (r := r) hs hQ (fun τ hF hA hB => ?_) n 1000 σ (Nat.le_refl n) (by omega) Fr.refl rfl h2 (fun k a b => absurd a (by omega))
    refine ho_chk (ib_nI (by omega) (by omega)) ?_
    rw [nI31 (by omega)]
    refine ho_nm (ho_nm (ho_nm (ho_nm (ho_nm (ho_some ⟨(((((hF.mono (by decide)).sI (by decide)).sI (by decide)).sL (by decide)).sL (by decide)).sI (by decide), ?_, ?_⟩)))))
    · rw [sI_at, sL_1, sL_1, sI_ne _ _ _ (show 19 ≠ 21 by decide), sI_ne _ _ _ (show 19 ≠ 20 by decide), hF.i (i := 19) (by decide), h1]
      exact nI_1 n
    · intro q hq
      unfold insE at hq ⊢
      try dsimp only at hq ⊢
      unfold HX
      rw [sI_ne _ _ _ (show 20 ≠ 19 by decide), sI_ne _ _ _ (show 21 ≠ 19 by decide), sI_2]
      obtain ⟨p0, p1, p2, p3, po⟩ := put4 τ (i := 20) (j := 21) (k := 22) (l := 23) (by decide) (by decide) (pos L r n) (nI j) (sc two k) a3 a4
      by_cases e : q = pos L r n
      · rw [e]
        have e2 : ins L (pos L r n) (j, k, r) (pos L r n) = (j, k, r) := by unfold ins; rw [if_neg (Nat.lt_irrefl _), if_pos rfl]
        rw [e2, p0, p1, p2, p3]
        exact ⟨rfl, rfl, hQ⟩
      · obtain ⟨o0, o1, o2, o3⟩ := po q e
        rw [o0, o1, o2, o3]
        unfold ins
        by_cases c : q < pos L r n
        · rw [if_pos c]; exact hA q c
        · rw [if_neg c, if_neg e]; exact hB q (by omega) (by omega)
def RM (τ : St) (s : Rs) : Prop := τ.1 87 23 = nI s.1 ∧ τ.1 87 24 = nI (ovr s.2 s.1) ∧ ∀ k, k < s.1 → HY τ k (s.2 k)
theorem y_ranks25 (hn : n < 45) {a1 a2 : Int32} (hQ : Qt (σ.2 87 16) (σ.2 87 17) r) {K : Int32 → St → Option St} {Q : St → Prop}
    (hK : ∀ τ, Fr [99, 100, 101, 102] σ τ → (∀ k, k < pos L r n → HY τ k (L k)) → (∀ k, pos L r n < k → k ≤ n → HY τ k (L (k - 1))) → Ho (K (nI (pos L r n)) τ) Q) :
    ∀ (t fuel : Nat) (τ : St), t ≤ n → t < fuel → Fr [99, 100, 101, 102] σ τ → pos L r t = pos L r n → (∀ k, k < t → HY τ k (L k)) → (∀ k, t < k → k ≤ n → HY τ k (L (k - 1))) → Ho (f_X6_ranks_25 a1 a2 K fuel (nI t) τ) Q := by
  intro t
  induction t with
  | zero =>
    intro fuel τ ht hf hF hp hA hB
    obtain ⟨fuel, rfl⟩ : ∃ f, fuel = f + 1 := ⟨fuel - 1, by omega⟩
    rw [f_X6_ranks_25]
    refine ho_t (by decide) ?_
    have e : pos L r n = 0 := hp.symm
    have q := hK τ hF
    rw [e] at q
    exact q hA hB
  | succ t ih =>
    intro fuel τ ht hf hF hp hA hB
    obtain ⟨fuel, rfl⟩ : ∃ f, fuel = f + 1 := ⟨fuel - 1, by omega⟩
    have hX := hA t (by omega)
    obtain ⟨x1, x2, x3, x4⟩ := hX
    rw [f_X6_ranks_25, nI_m1, nI_m2, nI31 (k := t) (by omega), nI31 (k := t + 1) (by omega), hF.l (i := 87) (by decide)]
    refine ho_f (nI_ps (by omega)) (ho_chk (ib_nI (by omega) (by omega)) ?_)
    have cm := hQ.cmp x3
    refine ho_if (fun c => ?_) (fun c => ?_)
    · have ep : pos L r (t + 1) = t + 1 := by rw [pos, if_neg (by have := cm.mp c; grind)]
      have q := hK τ hF
      rw [← hp, ep] at q
      exact q hA hB
    · have ep : pos L r (t + 1) = pos L r t := by rw [pos, if_pos (by have : ¬ r ≤ (L t).2.2 := fun w => c (cm.mpr w); grind)]
      refine ho_chk (ib_nI (by omega) (by omega)) (ho_nm (ho_nm (ho_nm (ho_nm ?_))))
      obtain ⟨p0, p1, p2, p3, po⟩ := put4 τ (i := 99) (j := 100) (k := 101) (l := 102) (by decide) (by decide) (t + 1) (τ.1 99 t) (τ.1 100 t) (τ.2 101 t) (τ.2 102 t)
      refine ih fuel _ (by omega) (by omega) ((((hF.sI (by decide)).sI (by decide)).sL (by decide)).sL (by decide)) (by rw [← ep, hp]) (fun k hk => ?_) (fun k h1 h2 => ?_)
      · obtain ⟨o0, o1, o2, o3⟩ := po k (by omega)
        have := hA k (by omega)
        unfold HY at this ⊢
        rw [← o0, ← o1, ← o2, ← o3] at this
        exact this
      · by_cases ek : k = t + 1
        · subst ek
          have e1 : t + 1 - 1 = t := rfl
          unfold HY
          rw [e1]
          refine ⟨p0.trans x1, p1.trans x2, ?_⟩
          have x5 : Qt (τ.2 101 t) (τ.2 102 t) (L t).2.2 ∧ LT (L t).2.2 (τ.2 101 t).toInt (τ.2 102 t).toInt := ⟨x3, x4⟩
          rw [← p2, ← p3] at x5
          exact x5
        · obtain ⟨o0, o1, o2, o3⟩ := po k ek
          have := hB k (by omega) h2
          unfold HY at this ⊢
          rw [← o0, ← o1, ← o2, ← o3] at this
          exact this
end Rk
/-- over: some line is, just where the heaviest is -/
theorem jc_pos (ρ : Nat → Rat) (lv : Nat → Bool) : ∀ l, 0 < jc ρ lv l ↔ 1 < wr ρ (jw ρ lv l)
  | 0 => by
    rw [jc, jw]
    unfold wr
    constructor
    · intro h; omega
    · intro h; exact absurd (show (1 : Rat) < 0 from h) (by decide +kernel)
  | l + 1 => by
    have ih := jc_pos ρ lv l
    rw [jc, jw]
    by_cases hv : lv l = true
    · rw [if_pos hv, if_pos hv]
      generalize jw ρ lv l = o at ih
      generalize jc ρ lv l = c at ih
      match o, ih with
      | none, ih =>
        have c0 : ¬ 0 < c := fun w => absurd (show (1 : Rat) < 0 from ih.mp w) (by decide +kernel)
        unfold jst wr
        dsimp only
        by_cases q : 1 < ρ l
        · rw [if_pos q]; exact ⟨fun _ => q, fun _ => by omega⟩
        · rw [if_neg q]; exact ⟨fun w => by omega, fun w => absurd w q⟩
      | some w, ih =>
        have ih' : 0 < c ↔ 1 < ρ w := ih
        unfold jst
        dsimp only
        by_cases z : ρ w < ρ l
        · rw [if_pos z]
          show _ ↔ 1 < ρ l
          by_cases q : 1 < ρ l
          · rw [if_pos q]; exact ⟨fun _ => q, fun _ => by omega⟩
          · rw [if_neg q]; exact ⟨fun v => by have := ih'.mp (by omega); grind, fun v => absurd v q⟩
        · rw [if_neg z]
          show _ ↔ 1 < ρ w
          by_cases q : 1 < ρ l
          · rw [if_pos q]; exact ⟨fun _ => by grind, fun _ => by omega⟩
          · rw [if_neg q]; exact ih'
    · rw [if_neg hv, if_neg hv]; exact ih
