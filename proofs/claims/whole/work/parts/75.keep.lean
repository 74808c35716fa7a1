/-! what is kept, on both sides -/
def gl (γ : Nat) : List Nat := [24 + 7 * γ, 24 + 7 * γ + 1, 24 + 7 * γ + 2, 24 + 7 * γ + 3, 24 + 7 * γ + 4, 24 + 7 * γ + 5, 24 + 7 * γ + 6]
theorem gl_in {γ r : Nat} (h : r < 7) : 24 + 7 * γ + r ∈ gl γ := by
  have : r = 0 ∨ r = 1 ∨ r = 2 ∨ r = 3 ∨ r = 4 ∨ r = 5 ∨ r = 6 := by omega
  rcases this with w | w | w | w | w | w | w <;> (subst w; simp [gl])
theorem gl_out {γ i : Nat} (h : i < 24 + 7 * γ ∨ 24 + 7 * γ + 7 ≤ i) : i ∉ gl γ := by
  simp only [gl, List.mem_cons, List.not_mem_nil, or_false]
  omega
/-- five cells put at place p -/
theorem put5 (τ : St) (b p : Nat) (v2 v3 v4 v5 v6 : Int32) (q : Nat) :
    (sI (sI (sI (sI (sI τ (b + 2) p v2) (b + 3) p v3) (b + 4) p v4) (b + 5) p v5) (b + 6) p v6).1 (b + 2) q = (if q = p then v2 else τ.1 (b + 2) q) ∧
    (sI (sI (sI (sI (sI τ (b + 2) p v2) (b + 3) p v3) (b + 4) p v4) (b + 5) p v5) (b + 6) p v6).1 (b + 3) q = (if q = p then v3 else τ.1 (b + 3) q) ∧
    (sI (sI (sI (sI (sI τ (b + 2) p v2) (b + 3) p v3) (b + 4) p v4) (b + 5) p v5) (b + 6) p v6).1 (b + 4) q = (if q = p then v4 else τ.1 (b + 4) q) ∧
    (sI (sI (sI (sI (sI τ (b + 2) p v2) (b + 3) p v3) (b + 4) p v4) (b + 5) p v5) (b + 6) p v6).1 (b + 5) q = (if q = p then v5 else τ.1 (b + 5) q) ∧
    (sI (sI (sI (sI (sI τ (b + 2) p v2) (b + 3) p v3) (b + 4) p v4) (b + 5) p v5) (b + 6) p v6).1 (b + 6) q = (if q = p then v6 else τ.1 (b + 6) q) := by
  have at_ : ∀ (σ : St) (i : Nat) (v : Int32), (sI σ i p v).1 i q = if q = p then v else σ.1 i q := fun σ i v => by
    by_cases e : q = p
    · rw [if_pos e, e, sI_at]
    · rw [if_neg e, sI_off _ _ _ _ e]
  refine ⟨?_, ?_, ?_, ?_, ?_⟩
  · rw [sI_ne _ _ _ (by omega), sI_ne _ _ _ (by omega), sI_ne _ _ _ (by omega), sI_ne _ _ _ (by omega), at_]
  · rw [sI_ne _ _ _ (by omega), sI_ne _ _ _ (by omega), sI_ne _ _ _ (by omega), at_, sI_ne _ _ _ (by omega)]
  · rw [sI_ne _ _ _ (by omega), sI_ne _ _ _ (by omega), at_, sI_ne _ _ _ (by omega), sI_ne _ _ _ (by omega)]
  · rw [sI_ne _ _ _ (by omega), at_, sI_ne _ _ _ (by omega), sI_ne _ _ _ (by omega), sI_ne _ _ _ (by omega)]
  · rw [at_, sI_ne _ _ _ (by omega), sI_ne _ _ _ (by omega), sI_ne _ _ _ (by omega), sI_ne _ _ _ (by omega)]
section Kp
variable {N : Net} {σ : St}
theorem x_copy {γ γ2 : Nat} (hne : γ ≠ γ2) (hN : NV N) (hG : CG σ (24 + 7 * γ2) N) : Ho (f_X0_copy γ γ2 σ) (fun τ => Fr (gl γ) σ τ ∧ CG τ (24 + 7 * γ) N) := by
  have hm := hN.2.2.1
  obtain ⟨g1, g2, g3, g4⟩ := hG
  have src : ∀ {τ : St}, Fr (gl γ) σ τ → ∀ r, r < 7 → τ.1 (24 + 7 * γ2 + r) = σ.1 (24 + 7 * γ2 + r) := fun hF r hr => hF.i (gl_out (by omega))
  have loop2 : ∀ (d l fuel : Nat) (τ : St), l + d = 10 → d < fuel → Fr (gl γ) σ τ → τ.1 (24 + 7 * γ) 6 = nI (nB N) → τ.1 (24 + 7 * γ) 7 = nI (nL N) → (∀ i, i < 6 → τ.1 (24 + 7 * γ + 1) i = iI (eQ N i)) →
      (∀ k, k < l → k < nL N → τ.1 (24 + 7 * γ + 2) k = nI (eA N k) ∧ τ.1 (24 + 7 * γ + 3) k = nI (eB N k) ∧ τ.1 (24 + 7 * γ + 4) k = iI (eS N k) ∧ τ.1 (24 + 7 * γ + 5) k = iI (eM N k) ∧ τ.1 (24 + 7 * γ + 6) k = bI (eO N k)) →
      Ho (f_X0_copy_44 γ γ2 (fun (σ22 : St) => some σ22) fuel (nI l) τ) (fun τ => Fr (gl γ) σ τ ∧ CG τ (24 + 7 * γ) N) := by
    intro d
    induction d with
    | zero =>
      intro l fuel τ hd hf hF a1 a2 a3 a4
      obtain ⟨fuel, rfl⟩ : ∃ f, fuel = f + 1 := ⟨fuel - 1, by omega⟩
      rw [f_X0_copy_44]
      exact ho_t (nI_ge' (a := 10) (by omega) (by omega)) (ho_some ⟨hF, a1, a2, a3, fun k hk => a4 k (by omega) hk⟩)
    | succ d ih =>
      intro l fuel τ hd hf hF a1 a2 a3 a4
      obtain ⟨fuel, rfl⟩ : ∃ f, fuel = f + 1 := ⟨fuel - 1, by omega⟩
      rw [f_X0_copy_44, nI31 (k := l) (by omega), nI_1]
      refine ho_f (nI_nge' (a := 10) (by omega) (by omega)) (ho_chk (ib_nI (by omega) (by omega)) (ho_nm (ho_nm (ho_nm (ho_nm (ho_nm ?_))))))
      have p5 := put5 τ (24 + 7 * γ) l (τ.1 (24 + 7 * γ2 + 2) l) (τ.1 (24 + 7 * γ2 + 3) l) (τ.1 (24 + 7 * γ2 + 4) l) (τ.1 (24 + 7 * γ2 + 5) l) (vp_nar .boolean (τ.1 (24 + 7 * γ2 + 6) l))
      have s3 : (sI τ (24 + 7 * γ + 2) l (τ.1 (24 + 7 * γ2 + 2) l)).1 (24 + 7 * γ2 + 3) = τ.1 (24 + 7 * γ2 + 3) := sI_ne _ _ _ (by omega)
      have s4 : (sI (sI τ (24 + 7 * γ + 2) l (τ.1 (24 + 7 * γ2 + 2) l)) (24 + 7 * γ + 3) l (τ.1 (24 + 7 * γ2 + 3) l)).1 (24 + 7 * γ2 + 4) = τ.1 (24 + 7 * γ2 + 4) := by rw [sI_ne _ _ _ (by omega), sI_ne _ _ _ (by omega)]
      rw [s3, s4]
      have s5 : (sI (sI (sI τ (24 + 7 * γ + 2) l (τ.1 (24 + 7 * γ2 + 2) l)) (24 + 7 * γ + 3) l (τ.1 (24 + 7 * γ2 + 3) l)) (24 + 7 * γ + 4) l (τ.1 (24 + 7 * γ2 + 4) l)).1 (24 + 7 * γ2 + 5) = τ.1 (24 + 7 * γ2 + 5) := by rw [sI_ne _ _ _ (by omega), sI_ne _ _ _ (by omega), sI_ne _ _ _ (by omega)]
      rw [s5]
      have s6 : (sI (sI (sI (sI τ (24 + 7 * γ + 2) l (τ.1 (24 + 7 * γ2 + 2) l)) (24 + 7 * γ + 3) l (τ.1 (24 + 7 * γ2 + 3) l)) (24 + 7 * γ + 4) l (τ.1 (24 + 7 * γ2 + 4) l)) (24 + 7 * γ + 5) l (τ.1 (24 + 7 * γ2 + 5) l)).1 (24 + 7 * γ2 + 6) = τ.1 (24 + 7 * γ2 + 6) := by rw [sI_ne _ _ _ (by omega), sI_ne _ _ _ (by omega), sI_ne _ _ _ (by omega), sI_ne _ _ _ (by omega)]
      rw [s6]
      have F2 : Fr (gl γ) σ (sI (sI (sI (sI (sI τ (24 + 7 * γ + 2) l (τ.1 (24 + 7 * γ2 + 2) l)) (24 + 7 * γ + 3) l (τ.1 (24 + 7 * γ2 + 3) l)) (24 + 7 * γ + 4) l (τ.1 (24 + 7 * γ2 + 4) l)) (24 + 7 * γ + 5) l (τ.1 (24 + 7 * γ2 + 5) l)) (24 + 7 * γ + 6) l (vp_nar .boolean (τ.1 (24 + 7 * γ2 + 6) l))) := ((((hF.sI (gl_in (by omega))).sI (gl_in (by omega))).sI (gl_in (by omega))).sI (gl_in (by omega))).sI (gl_in (by omega))
      have z0 : (sI (sI (sI (sI (sI τ (24 + 7 * γ + 2) l (τ.1 (24 + 7 * γ2 + 2) l)) (24 + 7 * γ + 3) l (τ.1 (24 + 7 * γ2 + 3) l)) (24 + 7 * γ + 4) l (τ.1 (24 + 7 * γ2 + 4) l)) (24 + 7 * γ + 5) l (τ.1 (24 + 7 * γ2 + 5) l)) (24 + 7 * γ + 6) l (vp_nar .boolean (τ.1 (24 + 7 * γ2 + 6) l))).1 (24 + 7 * γ) = τ.1 (24 + 7 * γ) := by rw [sI_ne _ _ _ (by omega), sI_ne _ _ _ (by omega), sI_ne _ _ _ (by omega), sI_ne _ _ _ (by omega), sI_ne _ _ _ (by omega)]
      have z1 : (sI (sI (sI (sI (sI τ (24 + 7 * γ + 2) l (τ.1 (24 + 7 * γ2 + 2) l)) (24 + 7 * γ + 3) l (τ.1 (24 + 7 * γ2 + 3) l)) (24 + 7 * γ + 4) l (τ.1 (24 + 7 * γ2 + 4) l)) (24 + 7 * γ + 5) l (τ.1 (24 + 7 * γ2 + 5) l)) (24 + 7 * γ + 6) l (vp_nar .boolean (τ.1 (24 + 7 * γ2 + 6) l))).1 (24 + 7 * γ + 1) = τ.1 (24 + 7 * γ + 1) := by rw [sI_ne _ _ _ (by omega), sI_ne _ _ _ (by omega), sI_ne _ _ _ (by omega), sI_ne _ _ _ (by omega), sI_ne _ _ _ (by omega)]
      generalize (sI (sI (sI (sI (sI τ (24 + 7 * γ + 2) l (τ.1 (24 + 7 * γ2 + 2) l)) (24 + 7 * γ + 3) l (τ.1 (24 + 7 * γ2 + 3) l)) (24 + 7 * γ + 4) l (τ.1 (24 + 7 * γ2 + 4) l)) (24 + 7 * γ + 5) l (τ.1 (24 + 7 * γ2 + 5) l)) (24 + 7 * γ + 6) l (vp_nar .boolean (τ.1 (24 + 7 * γ2 + 6) l))) = β at p5 F2 z0 z1
      refine ih (l + 1) fuel β (by omega) (by omega) F2 (by rw [z0]; exact a1) (by rw [z0]; exact a2) (by rw [z1]; exact a3) (fun k hk hkn => ?_)
      obtain ⟨w2, w3, w4, w5, w6⟩ := p5 k
      rw [w2, w3, w4, w5, w6]
      by_cases e : k = l
      · rw [if_pos e, if_pos e, if_pos e, if_pos e, if_pos e, src hF 2 (by omega), src hF 3 (by omega), src hF 4 (by omega), src hF 5 (by omega), src hF 6 (by omega), ← e]
        obtain ⟨q2, q3, q4, q5, q6⟩ := g4 k hkn
        exact ⟨q2, q3, q4, q5, by rw [q6]; exact bI_nar _⟩
      · rw [if_neg e, if_neg e, if_neg e, if_neg e, if_neg e]
        exact a4 k (by omega) hkn
  have loop1 : ∀ (d l fuel : Nat) (τ : St), l + d = 6 → d < fuel → Fr (gl γ) σ τ → τ.1 (24 + 7 * γ) 6 = nI (nB N) → τ.1 (24 + 7 * γ) 7 = nI (nL N) → (∀ i, i < l → τ.1 (24 + 7 * γ + 1) i = iI (eQ N i)) →
      Ho (f_X0_copy_18 γ γ2 (fun (σ10 : St) => f_X0_copy_44 γ γ2 (fun (σ22 : St) => some σ22) 1000 (0 : Int32) σ10) fuel (nI l) τ) (fun τ => Fr (gl γ) σ τ ∧ CG τ (24 + 7 * γ) N) := by
    intro d
    induction d with
    | zero =>
      intro l fuel τ hd hf hF a1 a2 a3
      obtain ⟨fuel, rfl⟩ : ∃ f, fuel = f + 1 := ⟨fuel - 1, by omega⟩
      rw [f_X0_copy_18]
      exact ho_t (nI_ge' (a := 6) (by omega) (by omega)) (loop2 10 0 1000 τ (by omega) (by omega) hF a1 a2 (fun i hi => a3 i (by omega)) (fun k hk => absurd hk (Nat.not_lt_zero k)))
    | succ d ih =>
      intro l fuel τ hd hf hF a1 a2 a3
      obtain ⟨fuel, rfl⟩ : ∃ f, fuel = f + 1 := ⟨fuel - 1, by omega⟩
      rw [f_X0_copy_18, nI31 (k := l) (by omega), nI_1]
      refine ho_f (nI_nge' (a := 6) (by omega) (by omega)) (ho_chk (ib_nI (by omega) (by omega)) (ho_nm (ih (l + 1) fuel _ (by omega) (by omega) (hF.sI (gl_in (by omega))) ?_ ?_ (fun i hi => ?_))))
      · rw [sI_ne _ _ _ (by omega)]; exact a1
      · rw [sI_ne _ _ _ (by omega)]; exact a2
      · by_cases e : i = l
        · rw [e, sI_at, src hF 1 (by omega)]; exact g3 l (by omega)
        · rw [sI_off _ _ _ _ e]; exact a3 i (by omega)
  unfold f_X0_copy
  have in0 : 24 + 7 * γ ∈ gl γ := gl_in (r := 0) (by omega)
  refine ho_nm (ho_nm (loop1 6 0 1000 _ (by omega) (by omega) ((Fr.refl.sI in0).sI in0) ?_ ?_ (fun k hk => absurd hk (Nat.not_lt_zero k))))
  · rw [sI_off _ _ _ _ (by decide), sI_at]; exact g1
  · rw [sI_at, sI_ne _ _ _ (by omega)]; exact g2
/-- the class's past -/
def CXp (σ : St) (o p : Nat) (H : Nat → Net) : Prop := o < 8 ∧ p ≤ 8 ∧ σ.1 1 1 = nI o ∧ σ.1 1 2 = nI p ∧ ∀ k, k < p → CG σ (24 + 7 * ((o + k) % 8 + 1)) (H k)
/-- the reference's past -/
def MXp (σ : St) (p : Nat) (H : Nat → Net) : Prop := σ.1 87 3 = nI p ∧ ∀ k, k < p → MG (fun w => σ.1 89 (58 * k + w)) (H k)
def puP (p : Nat) : Nat := if p = 8 then 8 else p + 1
def puH (p : Nat) (H : Nat → Net) (N : Net) : Nat → Net := fun k => if p = 8 then (if k < 7 then H (k + 1) else N) else (if k < p then H k else N)
def GK : List Nat := 1 :: (List.range 56).map (fun k => 31 + k)
theorem GK_out {i : Nat} (h1 : i ≠ 1) (h : i < 31 ∨ 87 ≤ i) : i ∉ GK := by
  unfold GK
  simp only [List.mem_cons, List.mem_map, List.mem_range]
  omega
theorem GK_in {i : Nat} (h : i = 1 ∨ (31 ≤ i ∧ i < 87)) : i ∈ GK := by
  unfold GK
  simp only [List.mem_cons, List.mem_map, List.mem_range]
  rcases h with w | w
  · exact Or.inl w
  · exact Or.inr ⟨i - 31, by omega, by omega⟩
theorem gl_GK {γ : Nat} (h1 : 1 ≤ γ) (h2 : γ < 9) : ∀ i, i ∈ gl γ → i ∈ GK := fun i hi => GK_in (by
  simp only [gl, List.mem_cons, List.not_mem_nil, or_false] at hi
  omega)
theorem mod8 : ∀ m, m < 17 → nI m - nI m / (8 : Int32) * (8 : Int32) = nI (m % 8) := by decide +kernel
theorem x_keep (hN : NV N) (hG : CG σ 24 N) {o p : Nat} {H : Nat → Net} (hX : CXp σ o p H) : Ho (f_X1_keep σ) (fun τ => Fr GK σ τ ∧ ∃ o', CXp τ o' (puP p) (puH p H N)) := by
  obtain ⟨o8, p8, h1, h2, hH⟩ := hX
  -- the place is filled
  have fill : ∀ (τ : St) (o' p' : Nat) (H' : Nat → Net), Fr [1] σ τ → o' < 8 → p' < 8 → τ.1 1 1 = nI o' → τ.1 1 2 = nI p' → (∀ k, k < p' → CG τ (24 + 7 * ((o' + k) % 8 + 1)) (H' k)) → H' p' = N →
      Ho (chk (ib (((τ.1 1 1) + (τ.1 1 2)) - ((τ.1 1 1) + (τ.1 1 2)) / (8 : Int32) * (8 : Int32)) 8) ((f_X0_copy ((((τ.1 1 1) + (τ.1 1 2)) - ((τ.1 1 1) + (τ.1 1 2)) / (8 : Int32) * (8 : Int32)).toNatClampNeg + 1) 0 τ).bind (fun q4 => nm (sI q4 1 2 ((q4.1 1 2) + (1 : Int32))) (fun σ5 : St => some σ5)))) (fun υ => Fr GK σ υ ∧ CXp υ o' (p' + 1) H') := by
    intro τ o' p' H' hF ho hp e1 e2 hk hlast
    have lt8 : (o' + p') % 8 < 8 := Nat.mod_lt _ (by omega)
    rw [e1, e2, nI_add, mod8 _ (by omega), nI31 (by omega)]
    have hG' : CG τ (24 + 7 * 0) N := hG.fr hF (by decide)
    refine ho_chk (ib_nI (by omega) (by omega)) (ho_bind (x_copy (γ := (o' + p') % 8 + 1) (γ2 := 0) (by omega) hN hG') (fun υ hυ => ho_nm (ho_some ?_)))
    obtain ⟨F2, c2⟩ := hυ
    have i1 : (1 : Nat) ∉ gl ((o' + p') % 8 + 1) := gl_out (by omega)
    refine ⟨((hF.mono (fun i hi => GK_in (by simp at hi; omega))).trans (F2.mono (gl_GK (by omega) (by omega)))).sI (GK_in (Or.inl rfl)), ho, by omega, ?_, ?_, fun k hk2 => ?_⟩
    · rw [sI_off _ _ _ _ (by decide), F2.i i1]; exact e1
    · rw [sI_at, F2.i i1, e2]; exact nI_1 p'
    · have ltk : (o' + k) % 8 < 8 := Nat.mod_lt _ (by omega)
      by_cases e : k = p'
      · subst e
        rw [hlast]
        exact c2.of (fun w hw => sI_ne _ _ _ (by omega))
      · have hne : (o' + k) % 8 ≠ (o' + p') % 8 := by omega
        refine (hk k (by omega)).of (fun w hw => ?_)
        rw [sI_ne _ _ _ (by omega)]
        exact F2.i (gl_out (by omega))
  unfold f_X1_keep
  refine ho_jn ?_
  by_cases c : p = 8
  · subst c
    rw [h2]
    refine ho_t rfl (ho_nm (ho_nm ?_))
    rw [h1, show nI o + (1 : Int32) = nI (o + 1) from nI_1 o, mod8 _ (by omega), sI_off _ _ _ _ (show 2 ≠ 1 by decide), h2, show nI 8 - (1 : Int32) = nI 7 from nI_m1 7]
    refine ho_mono (fill _ ((o + 1) % 8) 7 (puH 8 H N) ((Fr.refl.sI (by decide)).sI (by decide)) (Nat.mod_lt _ (by omega)) (by omega) ?_ ?_ (fun k hk => ?_) ?_) (fun υ hυ => ⟨hυ.1, _, hυ.2⟩)
    · rw [sI_off _ _ _ _ (by decide), sI_at]
    · rw [sI_at]
    · have e := hH (k + 1) (by omega)
      have e2 : puH 8 H N k = H (k + 1) := by unfold puH; rw [if_pos rfl, if_pos hk]
      rw [e2, show ((o + 1) % 8 + k) % 8 = (o + (k + 1)) % 8 by omega]
      exact e.of (fun w hw => by rw [sI_ne _ _ _ (by omega), sI_ne _ _ _ (by omega)])
    · unfold puH; rw [if_pos rfl, if_neg (by omega)]
  · rw [h2]
    refine ho_f (fun w => c (nI_inj (b := 8) (by omega) (by omega) w)) ?_
    have ep : puP p = p + 1 := by unfold puP; rw [if_neg c]
    rw [ep]
    refine ho_mono (fill σ o p (puH p H N) Fr.refl o8 (by omega) h1 h2 (fun k hk => ?_) ?_) (fun υ hυ => ⟨hυ.1, _, hυ.2⟩)
    · have e2 : puH p H N k = H k := by unfold puH; rw [if_neg c, if_pos hk]
      rw [e2]; exact hH k hk
    · unfold puH; rw [if_neg c, if_neg (by omega)]
/-- the reference: set aside and kept -/
theorem y_aside : Ho (f_X6_aside σ) (fun τ => Fr [90] σ τ ∧ ∀ w, w < 58 → τ.1 90 w = σ.1 88 w) := by
  have loop : ∀ (d l fuel : Nat) (τ : St), l + d = 58 → d < fuel → Fr [90] σ τ → (∀ w, w < l → τ.1 90 w = σ.1 88 w) → Ho (f_X6_aside_2 (fun (σ8 : St) => some σ8) fuel (nI l) τ) (fun τ => Fr [90] σ τ ∧ ∀ w, w < 58 → τ.1 90 w = σ.1 88 w) := by
    intro d
    induction d with
    | zero =>
      intro l fuel τ hd hf hF ha
      obtain ⟨fuel, rfl⟩ : ∃ f, fuel = f + 1 := ⟨fuel - 1, by omega⟩
      rw [f_X6_aside_2]
      exact ho_t (nI_ge' (a := 58) (by omega) (by omega)) (ho_some ⟨hF, fun w hw => ha w (by omega)⟩)
    | succ d ih =>
      intro l fuel τ hd hf hF ha
      obtain ⟨fuel, rfl⟩ : ∃ f, fuel = f + 1 := ⟨fuel - 1, by omega⟩
      rw [f_X6_aside_2, nI31 (k := l) (by omega), nI_1]
      refine ho_f (nI_nge' (a := 58) (by omega) (by omega)) (ho_chk (ib_nI (by omega) (by omega)) (ho_nm (ih (l + 1) fuel _ (by omega) (by omega) (hF.sI (by decide)) (fun w hw => ?_))))
      by_cases e : w = l
      · rw [e, sI_at, hF.i (i := 88) (by decide)]
      · rw [sI_off _ _ _ _ e]; exact ha w (by omega)
  unfold f_X6_aside
  exact loop 58 0 1000 σ (by omega) (by omega) Fr.refl (fun w hw => absurd hw (Nat.not_lt_zero w))
theorem y_keeps {k8 : Nat → Int32} {p : Nat} (p8 : p ≤ 8) (h3 : σ.1 87 3 = nI p) (h90 : ∀ w, w < 58 → σ.1 90 w = k8 w) :
    Ho (f_X6_keeps σ) (fun τ => Fr [87, 89] σ τ ∧ (∀ k, k ≠ 3 → τ.1 87 k = σ.1 87 k) ∧ τ.1 87 3 = nI (puP p) ∧ ∀ w, w < 58 * puP p → τ.1 89 w = if w < 58 * (puP p - 1) then σ.1 89 (if p = 8 then w + 58 else w) else k8 (w - 58 * (puP p - 1))) := by
  have m58 : ∀ a : Nat, (58 : Int32) * nI a = nI (58 * a) := fun a => pk_mul 58 a
  have loop2 : ∀ (p' : Nat) (β : St) (g : Nat → Int32), p' < 8 → Fr [87, 89] σ β → (∀ k, k ≠ 3 → β.1 87 k = σ.1 87 k) → β.1 87 3 = nI p' → ∀ (d l fuel : Nat) (τ : St), l + d = 58 → d < fuel → Fr [89] β τ → (∀ w, w < 58 * p' → τ.1 89 w = g w) → (∀ w, w < l → τ.1 89 (58 * p' + w) = k8 w) →
      Ho (f_X6_keeps_51 (fun (σ11 : St) => nm (sI σ11 87 3 ((σ11.1 87 3) + (1 : Int32))) (fun σ12 : St => some σ12)) fuel (nI l) τ) (fun τ => Fr [87, 89] σ τ ∧ (∀ k, k ≠ 3 → τ.1 87 k = σ.1 87 k) ∧ τ.1 87 3 = nI (p' + 1) ∧ ∀ w, w < 58 * (p' + 1) → τ.1 89 w = if w < 58 * p' then g w else k8 (w - 58 * p')) := by
    intro p' β g hp hB b87 b3 d
    induction d with
    | zero =>
      intro l fuel τ hd hf hF ha hb
      obtain ⟨fuel, rfl⟩ : ∃ f, fuel = f + 1 := ⟨fuel - 1, by omega⟩
      rw [f_X6_keeps_51]
      refine ho_t (nI_ge' (a := 58) (by omega) (by omega)) (ho_nm (ho_some ⟨(hB.trans (hF.mono (by decide))).sI (by decide), fun k hk => ?_, ?_, fun w hw => ?_⟩))
      · rw [sI_off _ _ _ _ hk, hF.i (i := 87) (by decide), b87 k hk]
      · rw [sI_at, hF.i (i := 87) (by decide), b3]; exact nI_1 p'
      · rw [sI_ne _ _ _ (show 89 ≠ 87 by decide)]
        by_cases c : w < 58 * p'
        · rw [if_pos c]; exact ha w c
        · rw [if_neg c]
          have := hb (w - 58 * p') (by omega)
          rw [show 58 * p' + (w - 58 * p') = w by omega] at this
          exact this
    | succ d ih =>
      intro l fuel τ hd hf hF ha hb
      obtain ⟨fuel, rfl⟩ : ∃ f, fuel = f + 1 := ⟨fuel - 1, by omega⟩
      rw [f_X6_keeps_51, hF.i (i := 87) (by decide), b3, m58, nI_add, nI31 (k := l) (by omega), nI31 (k := 58 * p' + l) (by omega), nI_1 l]
      have e90 : τ.1 90 l = k8 l := by rw [hF.i (i := 90) (by decide), hB.i (i := 90) (by decide), h90 l (by omega)]
      rw [e90]
      refine ho_f (nI_nge' (a := 58) (by omega) (by omega)) (ho_chk (ib_nI (by omega) (by omega)) (ho_chk (ib_nI (by omega) (by omega)) (ho_nm (ih (l + 1) fuel _ (by omega) (by omega) (hF.sI (by decide)) (fun w hw => ?_) (fun w hw => ?_)))))
      · rw [sI_off _ _ _ _ (by omega)]; exact ha w hw
      · by_cases e : w = l
        · rw [e, sI_at]
        · rw [sI_off _ _ _ _ (by omega)]; exact hb w (by omega)
  have loop1 : ∀ {K : St → Option St} {Q : St → Prop}, (∀ τ, Fr [89] σ τ → (∀ w, w < 406 → τ.1 89 w = σ.1 89 (w + 58)) → Ho (K τ) Q) → ∀ (d l fuel : Nat) (τ : St), l + d = 406 → d < fuel → Fr [89] σ τ → (∀ w, w < l → τ.1 89 w = σ.1 89 (w + 58)) → (∀ w, l ≤ w → τ.1 89 w = σ.1 89 w) → Ho (f_X6_keeps_11 K fuel (nI l) τ) Q := by
    intro K Q hK d
    induction d with
    | zero =>
      intro l fuel τ hd hf hF ha hb
      obtain ⟨fuel, rfl⟩ : ∃ f, fuel = f + 1 := ⟨fuel - 1, by omega⟩
      rw [f_X6_keeps_11]
      exact ho_t (nI_ge' (a := 406) (by omega) (by omega)) (hK τ hF (fun w hw => ha w (by omega)))
    | succ d ih =>
      intro l fuel τ hd hf hF ha hb
      obtain ⟨fuel, rfl⟩ : ∃ f, fuel = f + 1 := ⟨fuel - 1, by omega⟩
      rw [f_X6_keeps_11, show nI l + (58 : Int32) = nI (l + 58) from nI_add l 58, nI31 (k := l) (by omega), nI31 (k := l + 58) (by omega), nI_1, hb (l + 58) (by omega)]
      refine ho_f (nI_nge' (a := 406) (by omega) (by omega)) (ho_chk (ib_nI (by omega) (by omega)) (ho_chk (ib_nI (by omega) (by omega)) (ho_nm (ih (l + 1) fuel _ (by omega) (by omega) (hF.sI (by decide)) (fun w hw => ?_) (fun w hw => ?_)))))
      · by_cases e : w = l
        · rw [e, sI_at]
        · rw [sI_off _ _ _ _ e]; exact ha w (by omega)
      · rw [sI_off _ _ _ _ (by omega)]; exact hb w (by omega)
  unfold f_X6_keeps
  refine ho_jn ?_
  by_cases c : p = 8
  · subst c
    rw [h3]
    refine ho_t rfl (loop1 (fun τ hF ha => ho_nm ?_) 406 0 1000 σ (by omega) (by omega) Fr.refl (fun w hw => absurd hw (Nat.not_lt_zero w)) (fun _ _ => rfl))
    refine ho_mono (loop2 7 (sI τ 87 3 ((τ.1 87 3) - (1 : Int32))) (fun w => σ.1 89 (w + 58)) (by omega) ((hF.mono (by decide)).sI (by decide)) (fun k hk => by rw [sI_off _ _ _ _ hk, hF.i (i := 87) (by decide)]) (by rw [sI_at, hF.i (i := 87) (by decide), h3]; exact nI_m1 7) 58 0 1000 _ (by omega) (by omega) Fr.refl (fun w hw => by rw [sI_ne _ _ _ (show 89 ≠ 87 by decide)]; exact ha w (by omega)) (fun w hw => absurd hw (Nat.not_lt_zero w))) (fun υ hυ => ?_)
    obtain ⟨a, b, c, d⟩ := hυ
    exact ⟨a, b, c, fun w hw => d w hw⟩
  · rw [h3]
    refine ho_f (fun w => c (nI_inj (b := 8) (by omega) (by omega) w)) ?_
    have ep : puP p = p + 1 := by unfold puP; rw [if_neg c]
    rw [ep]
    refine ho_mono (loop2 p σ (fun w => σ.1 89 w) (by omega) Fr.refl (fun _ _ => rfl) h3 58 0 1000 σ (by omega) (by omega) Fr.refl (fun _ _ => rfl) (fun w hw => absurd hw (Nat.not_lt_zero w))) (fun υ hυ => ?_)
    obtain ⟨a, b, e, d⟩ := hυ
    refine ⟨a, b, e, fun w hw => ?_⟩
    rw [d w hw, if_neg c]
    rfl
theorem y_keep (hN : NV N) (hG : MG (σ.1 88) N) {p : Nat} (p8 : p ≤ 8) {H : Nat → Net} (hH : ∀ k, k < p → NV (H k)) (hM : MXp σ p H) {α : Type} {K : St → Option α} {Q : α → Prop}
    (hK : ∀ τ, Fr [87, 89, 90] σ τ → (∀ k, k ≠ 3 → τ.1 87 k = σ.1 87 k) → MXp τ (puP p) (puH p H N) → Ho (K τ) Q) :
    Ho ((f_X6_aside σ).bind (fun q3 => (f_X6_keeps q3).bind K)) Q := by
  refine ho_bind y_aside (fun τ hτ => ?_)
  obtain ⟨F1, h90⟩ := hτ
  refine ho_bind (y_keeps (k8 := fun w => σ.1 88 w) p8 (by rw [F1.i (i := 87) (by decide)]; exact hM.1) h90) (fun υ hυ => ?_)
  obtain ⟨F2, k2, e3, e89⟩ := hυ
  refine hK υ ((F1.mono (by decide)).trans (F2.mono (by decide))) (fun k hk => by rw [k2 k hk, F1.i (i := 87) (by decide)]) ⟨e3, fun k hk => ?_⟩
  rw [F1.i (i := 89) (by decide)] at e89
  by_cases c : p = 8
  · subst c
    have ep : puP 8 = 8 := rfl
    rw [ep] at hk e89
    unfold puH
    rw [if_pos rfl]
    by_cases c2 : k < 7
    · rw [if_pos c2]
      refine (hM.2 (k + 1) (by omega)).cg (fun w hw => ?_) (hH (k + 1) (by omega))
      rw [e89 (58 * k + w) (by omega), if_pos (by omega), if_pos rfl, show 58 * k + w + 58 = 58 * (k + 1) + w by omega]
    · rw [if_neg c2]
      refine hG.cg (fun w hw => ?_) hN
      have : k = 7 := by omega
      subst this
      rw [e89 (58 * 7 + w) (by omega), if_neg (by omega), show 58 * 7 + w - 58 * (8 - 1) = w by omega]
  · have ep : puP p = p + 1 := by unfold puP; rw [if_neg c]
    rw [ep] at hk e89
    unfold puH
    rw [if_neg c]
    by_cases c2 : k < p
    · rw [if_pos c2]
      refine (hM.2 k c2).cg (fun w hw => ?_) (hH k c2)
      rw [e89 (58 * k + w) (by omega), if_pos (by omega), if_neg c]
    · rw [if_neg c2]
      refine hG.cg (fun w hw => ?_) hN
      have : k = p := by omega
      subst this
      rw [e89 (58 * k + w) (by omega), if_neg (by omega), show 58 * k + w - 58 * (k + 1 - 1) = w by omega]
theorem puP_le {p : Nat} (h : p ≤ 8) : puP p ≤ 8 := by unfold puP; split <;> omega
theorem puH_NV (hN : NV N) {p : Nat} (p8 : p ≤ 8) {H : Nat → Net} (hH : ∀ k, k < p → NV (H k)) : ∀ k, k < puP p → NV (puH p H N k) := by
  intro k hk
  unfold puP at hk
  unfold puH
  by_cases c : p = 8
  · rw [if_pos c] at hk ⊢
    by_cases c2 : k < 7
    · rw [if_pos c2]; exact hH (k + 1) (by omega)
    · rw [if_neg c2]; exact hN
  · rw [if_neg c] at hk ⊢
    by_cases c2 : k < p
    · rw [if_pos c2]; exact hH k c2
    · rw [if_neg c2]; exact hN
end Kp
