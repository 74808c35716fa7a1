/-! does -/
section Ds
variable {t : Nat → Int32} {T : Nat} {N : Net} {σ : St}
def exF (t : Nat → Int32) (T : Nat) : Nat → Nat → Net → Nat → Nat × Net
  | 0, _, N, c => (c, N)
  | n + 1, r, N, c => if skD t T r = 0 then (c, N) else exF t T n (cmdF t T (skD t T r)).2.1 (obN N (cmdF t T (skD t T r)).2.2.1 (fun i => (cmdF t T (skD t T r)).2.2.2.getD i 0)).2 (c + if (obN N (cmdF t T (skD t T r)).2.2.1 (fun i => (cmdF t T (skD t T r)).2.2.2.getD i 0)).1 = true then 1 else 0)
theorem exF_NV (t : Nat → Int32) (T : Nat) : ∀ (n r : Nat) (N : Net) (c : Nat), NV N → NV (exF t T n r N c).2
  | 0, _, N, c, h => h
  | n + 1, r, N, c, h => by
    rw [exF]
    split
    · exact h
    · exact exF_NV t T n _ _ _ (obN_NV h _ _)
theorem x_does40 (hT : T ≤ 120) : ∀ (n r fuel c : Nat) (N : Net) (τ : St), r ≤ n → n ≤ 120 → n < fuel → ffF t T n r = none → NV N → Fr CW σ τ → SX t T τ r → CG τ 24 N → Ho (f_X5_does_40 (fun (x17 : Int32) (σ18 : St) => some (x17, σ18)) fuel (nI c) (nI (120 - n)) τ) (fun q => Fr CW σ q.2 ∧ q.2.1 3 2 = nI T ∧ CG q.2 24 (exF t T n r N c).2 ∧ q.1 = nI (exF t T n r N c).1) := by
  intro n
  induction n with
  | zero =>
    intro r fuel c N τ hr hn hf hff hN hF hX hG
    obtain ⟨fuel, rfl⟩ : ∃ f, fuel = f + 1 := ⟨fuel - 1, by omega⟩
    rw [f_X5_does_40]
    exact ho_t (nI_ge' (a := 120) (by omega) (by omega)) (ho_some ⟨hF, hX.1, hG, rfl⟩)
  | succ n ih =>
    intro r fuel c N τ hr hn hf hff hN hF hX hG
    obtain ⟨fuel, rfl⟩ : ∃ f, fuel = f + 1 := ⟨fuel - 1, by omega⟩
    have sl := skD_le t T r
    rw [f_X5_does_40]
    refine ho_f (nI_nge' (a := 120) (by omega) (by omega)) (ho_bind (x_hasMore hT hX) (fun q hq => ?_))
    obtain ⟨F1, -, hX1, q1⟩ := hq
    have hG1 : CG q.2 24 N := hG.fr F1 (by decide)
    rw [q1, exF]
    rw [ffF] at hff
    by_cases c0 : skD t T r = 0
    · rw [if_pos c0, decide_eq_false (by omega)]
      exact ho_t rfl (ho_some ⟨hF.trans (F1.mono (by decide)), hX1.1, hG1, rfl⟩)
    · rw [if_neg c0, decide_eq_true (show 0 < skD t T r by omega)]
      rw [if_neg c0] at hff
      refine ho_f (by decide) (ho_bind (x_readCommand hT hX1) (fun p hp => ?_))
      obtain ⟨F2, hX2, p1, p2⟩ := hp
      have hG2 : CG p.2 24 N := hG1.fr F2 (by decide)
      by_cases c2 : (cmdF t T (skD t T r)).1 = true
      · rw [if_pos c2] at hff
        obtain ⟨lt, k8⟩ := cmdF_lt c2
        obtain ⟨p4, p5⟩ := p2 c2
        rw [p1, c2, p4]
        refine ho_f (by decide) (ho_bind (x_obeys hN hG2 k8 (g := fun i => (cmdF t T (skD t T r)).2.2.2.getD i 0) p5) (fun s hs => ?_))
        obtain ⟨F3, hG3, s1⟩ := hs
        have hX3 : SX t T s.2 (cmdF t T (skD t T r)).2.1 := by
          unfold SX
          rw [F3.i (i := 3) (by decide), F3.i (i := 4) (by decide)]
          exact hX2
        have F4 : Fr CW σ s.2 := ((hF.trans (F1.mono (by decide))).trans (F2.mono (by decide))).trans (F3.mono (by decide))
        rw [s1, nI_1 (120 - (n + 1)), show 120 - (n + 1) + 1 = 120 - n by omega]
        have nx := ih (cmdF t T (skD t T r)).2.1 fuel (c + if (obN N (cmdF t T (skD t T r)).2.2.1 (fun i => (cmdF t T (skD t T r)).2.2.2.getD i 0)).1 = true then 1 else 0) _ s.2 (by omega) (by omega) (by omega) hff (obN_NV hN _ _) F4 hX3 hG3
        by_cases c3 : (obN N (cmdF t T (skD t T r)).2.2.1 (fun i => (cmdF t T (skD t T r)).2.2.2.getD i 0)).1 = true
        · rw [if_pos c3] at nx ⊢
          rw [c3, nI_1 c]
          exact ho_f (by decide) nx
        · rw [if_neg c3] at nx ⊢
          rw [bf_of c3]
          exact ho_t rfl nx
      · rw [if_neg c2] at hff
        cases hff
theorem hrV_m1 (tb : ∀ k, k < T → ¬ t k = -1) {r : Nat} (hr : r ≤ T) : hrV t T r = -1 ↔ r = 0 := by
  unfold hrV
  by_cases c : 0 < r
  · rw [if_pos c]
    exact ⟨fun e => absurd e (tb _ (by omega)), fun e => by omega⟩
  · rw [if_neg c]
    exact ⟨fun _ => by omega, fun _ => rfl⟩
theorem KY.MG {τ : St} (h : KY σ τ) (hG : MG (σ.1 88) N) : MG (τ.1 88) N := by rw [h.1.i (i := 88) (by decide)]; exact hG
theorem KY.MW {τ υ : St} (h : KY τ υ) (hF : Fr MW σ τ) : Fr MW σ υ := hF.trans (h.1.mono (by decide))
theorem y_does59 (hT : T ≤ 120) (tb : ∀ k, k < T → ¬ t k = -1) : ∀ (n r fuel c : Nat) (N : Net) (τ : St), r ≤ n → n < fuel → ffF t T n r = none → NV N → Fr MW σ τ → (∀ k, k ≠ 7 → τ.1 87 k = σ.1 87 k) → SY t T τ r → MG (τ.1 88) N → Ho (f_X6_does_59 (fun (x23 : Int32) (σ24 : St) => some (x23, σ24)) fuel (nI c) τ) (fun q => Fr MW σ q.2 ∧ (∀ k, k ≠ 7 → q.2.1 87 k = σ.1 87 k) ∧ MG (q.2.1 88) (exF t T n r N c).2 ∧ q.1 = nI (exF t T n r N c).1) := by
  intro n
  induction n with
  | zero =>
    intro r fuel c N τ hr hf hff hN hF h7 hX hG
    obtain ⟨fuel, rfl⟩ : ∃ f, fuel = f + 1 := ⟨fuel - 1, by omega⟩
    rw [f_X6_does_59]
    refine ho_bind (y_here hT hX) (fun q hq => ?_)
    obtain ⟨K1, -, hX1, q1⟩ := hq
    have sl := skD_le t T r
    have z : skD t T r = 0 := by omega
    rw [q1]
    exact ho_t ((hrV_m1 tb hX1.2.2.2.1).mpr z) (ho_some ⟨K1.MW hF, fun k hk => by rw [K1.2 k hk, h7 k hk], K1.MG hG, rfl⟩)
  | succ n ih =>
    intro r fuel c N τ hr hf hff hN hF h7 hX hG
    obtain ⟨fuel, rfl⟩ : ∃ f, fuel = f + 1 := ⟨fuel - 1, by omega⟩
    have sl := skD_le t T r
    rw [f_X6_does_59]
    refine ho_bind (y_here hT hX) (fun q hq => ?_)
    obtain ⟨K1, -, hX1, q1⟩ := hq
    rw [q1, exF]
    rw [ffF] at hff
    by_cases c0 : skD t T r = 0
    · rw [if_pos c0]
      exact ho_t ((hrV_m1 tb hX1.2.2.2.1).mpr c0) (ho_some ⟨K1.MW hF, fun k hk => by rw [K1.2 k hk, h7 k hk], K1.MG hG, rfl⟩)
    · rw [if_neg c0] at hff ⊢
      refine ho_f (fun w => c0 ((hrV_m1 tb hX1.2.2.2.1).mp w)) ?_
      have idm := skD_id t T r
      by_cases c2 : (cmdF t T (skD t T r)).1 = true
      · rw [if_pos c2] at hff
        obtain ⟨lt, k8⟩ := cmdF_lt c2
        -- the order's answer
        have ans : Ho (f_X6_order (1 : Int32) q.2) (fun s => Fr MW σ s.2 ∧ (∀ k, k ≠ 7 → s.2.1 87 k = σ.1 87 k) ∧ SY t T s.2 (cmdF t T (skD t T r)).2.1 ∧ MG (s.2.1 88) (obN N (cmdF t T (skD t T r)).2.2.1 (fun i => (cmdF t T (skD t T r)).2.2.2.getD i 0)).2 ∧ s.1 = nI (if (obN N (cmdF t T (skD t T r)).2.2.1 (fun i => (cmdF t T (skD t T r)).2.2.2.getD i 0)).1 = true then 1 else 0)) := by
          refine y_order hT tb hX1 (fun _ υ K2 hX2 hn2 => ?_) (fun w => ?_)
          · rw [idm] at hX2 hn2 ⊢
            refine ho_f (by decide) (ho_bind (y_isDone hN (K2.MG (K1.MG hG)) k8 (g := fun i => (cmdF t T (skD t T r)).2.2.2.getD i 0) hn2) (fun s hs => ?_))
            obtain ⟨F3, hG3, s1⟩ := hs
            have hX3 : SY t T s.2 (cmdF t T (skD t T r)).2.1 := by
              unfold SY
              rw [F3.i (i := 87) (by decide), F3.i (i := 92) (by decide), F3.i (i := 104) (by decide)]
              exact hX2
            have F4 : Fr MW σ s.2 := (K2.MW (K1.MW hF)).trans (F3.mono (by decide))
            have h74 : ∀ k, k ≠ 7 → s.2.1 87 k = σ.1 87 k := fun k hk => by rw [F3.i (i := 87) (by decide), K2.2 k hk, K1.2 k hk, h7 k hk]
            rw [s1]
            by_cases c3 : (obN N (cmdF t T (skD t T r)).2.2.1 (fun i => (cmdF t T (skD t T r)).2.2.2.getD i 0)).1 = true
            · rw [c3]
              exact ho_f (by decide) (ho_some ⟨F4, h74, hX3, hG3, rfl⟩)
            · rw [bf_of c3]
              exact ho_t rfl (ho_some ⟨F4, h74, hX3, hG3, rfl⟩)
          · rw [idm, c2] at w
            cases w
        refine ho_bind ans (fun s hs => ho_nm ?_)
        obtain ⟨F4, h74, hX3, hG3, s1⟩ := hs
        rw [s1, nI_add]
        exact ih _ fuel _ _ s.2 (by omega) (by omega) hff (obN_NV hN _ _) F4 h74 hX3 hG3
      · rw [if_neg c2] at hff
        cases hff
/-- the reference looks for a fault -/
theorem y_does7 (hT : T ≤ 120) (tb : ∀ k, k < T → ¬ t k = -1) {K : St → Option (Int32 × St)} {Q : Int32 × St → Prop} : ∀ (n r fuel : Nat) (τ : St), r ≤ n → n + 1 < fuel → skD t T r ≠ 0 → KY σ τ → SY t T τ r → (ffF t T n r = none → ∀ υ, KY σ υ → Ho (K υ) Q) → (∀ s, ffF t T n r = some s → s ≤ T → ∀ υ, KY σ υ → Q ((-10 : Int32) - nI (T - s), υ)) → Ho (f_X6_does_7 K fuel (1 : Int32) τ) Q := by
  intro n
  induction n with
  | zero =>
    intro r fuel τ hr hf h0 hK hX hend hno
    have := skD_le t T r
    exact absurd (show skD t T r = 0 by omega) h0
  | succ n ih =>
    intro r fuel τ hr hf h0 hK hX hend hno
    obtain ⟨fuel, rfl⟩ : ∃ f, fuel = f + 1 := ⟨fuel - 1, by omega⟩
    have sl := skD_le t T r
    rw [ffF, if_neg h0] at hend hno
    rw [f_X6_does_7]
    refine ho_f (by decide) ?_
    have ans : Ho (f_X6_order (0 : Int32) τ) (fun s => KY σ s.2 ∧ SY t T s.2 (cmdF t T (skD t T r)).2.1 ∧ s.1 = (if (cmdF t T (skD t T r)).1 = true then 0 else -1)) := by
      refine y_order hT tb hX (fun w υ K2 hX2 _ => ?_) (fun w υ K2 hX2 => ?_)
      · refine ho_t rfl (ho_some ⟨hK.trans K2, hX2, ?_⟩)
        rw [if_pos w]
      · refine ⟨hK.trans K2, hX2, ?_⟩
        rw [if_neg (by rw [w]; decide)]
    refine ho_bind ans (fun s hs => ?_)
    obtain ⟨K2, hX2, s1⟩ := hs
    rw [s1]
    by_cases c2 : (cmdF t T (skD t T r)).1 = true
    · rw [if_pos c2] at hend hno ⊢
      have lt := (cmdF_lt c2).1
      refine ho_t (by decide) (ho_bind (y_here hT hX2) (fun p hp => ?_))
      obtain ⟨K3, -, hX3, p1⟩ := hp
      rw [p1]
      by_cases c3 : skD t T (cmdF t T (skD t T r)).2.1 = 0
      · have e : ffF t T n (cmdF t T (skD t T r)).2.1 = none := by
          cases n with
          | zero => rfl
          | succ n => rw [ffF, if_pos c3]
        refine ho_t ((hrV_m1 tb hX3.2.2.2.1).mpr c3) ?_
        obtain ⟨f2, rfl⟩ : ∃ f2, fuel = f2 + 1 := ⟨fuel - 1, by omega⟩
        rw [f_X6_does_7]
        exact ho_t rfl (hend e p.2 (K2.trans K3))
      · refine ho_f (fun w => c3 ((hrV_m1 tb hX3.2.2.2.1).mp w)) ?_
        refine ih (skD t T (cmdF t T (skD t T r)).2.1) fuel p.2 (by have := skD_le t T (cmdF t T (skD t T r)).2.1; omega) (by omega) (by rw [skD_id]; exact c3) (K2.trans K3) hX3 (fun w => ?_) (fun s w => ?_)
        · rw [ffF_sk] at w; exact hend w
        · rw [ffF_sk] at w; exact hno s w
    · rw [if_neg c2] at hend hno ⊢
      refine ho_f (by decide) (ho_some ?_)
      have := hno _ rfl hX2.2.2.2.1 s.2 K2
      rw [hX2.2.2.1]
      exact this
/-- scratch of the readers -/
theorem IN.scr {τ : St} (h : IN N σ 0 0 0) (hF : Fr [3, 5] σ τ) (h2 : τ.1 3 2 = σ.1 3 2) : IN N τ 0 0 0 := by
  obtain ⟨hN, hG, hM, ⟨o, p, H, o8, p8, e1, e2, e3, eH⟩, hct, T', T1', T2', T3', T4'⟩ := h
  refine ⟨hN, hG.fr hF (by decide), by rw [hF.i (i := 88) (by decide)]; exact hM, ⟨o, p, H, o8, p8, by rw [hF.i (i := 1) (by decide)]; exact e1, by rw [hF.i (i := 1) (by decide)]; exact e2, by rw [hF.i (i := 87) (by decide)]; exact e3, fun k hk => ⟨(eH k hk).1, (eH k hk).2.1.of (fun w hw => hF.i ?_), ?_⟩⟩, ?_, T', T1', by rw [h2]; exact T2', by rw [hF.i (i := 87) (by decide)]; exact T3', ?_⟩
  · have : (o + k) % 8 < 8 := Nat.mod_lt _ (by omega)
    simp only [List.mem_cons, List.not_mem_nil, or_false]; omega
  · rw [hF.i (i := 89) (by decide)]; exact (eH k hk).2.2
  · rw [hF.i (i := 0) (by decide), hF.i (i := 91) (by decide)]; exact hct
  · rw [hF.i (i := 4) (by decide), hF.i (i := 92) (by decide), hF.i (i := 104) (by decide)]; exact T4'
theorem IN.scm {τ : St} (h : IN N σ 0 0 0) (hK : KY σ τ) : IN N τ 0 0 0 := by
  obtain ⟨hN, hG, hM, ⟨o, p, H, o8, p8, e1, e2, e3, eH⟩, hct, T', T1', T2', T3', T4'⟩ := h
  have hF := hK.1
  refine ⟨hN, hG.fr hF (by decide), by rw [hF.i (i := 88) (by decide)]; exact hM, ⟨o, p, H, o8, p8, by rw [hF.i (i := 1) (by decide)]; exact e1, by rw [hF.i (i := 1) (by decide)]; exact e2, by rw [hK.2 3 (by decide)]; exact e3, fun k hk => ⟨(eH k hk).1, (eH k hk).2.1.of (fun w hw => hF.i ?_), ?_⟩⟩, ?_, T', T1', by rw [hF.i (i := 3) (by decide)]; exact T2', by rw [hK.2 6 (by decide)]; exact T3', ?_⟩
  · have : (o + k) % 8 < 8 := Nat.mod_lt _ (by omega)
    simp only [List.mem_cons, List.not_mem_nil, or_false]; omega
  · rw [hF.i (i := 89) (by decide)]; exact (eH k hk).2.2
  · rw [hF.i (i := 0) (by decide), hF.i (i := 91) (by decide)]; exact hct
  · rw [hF.i (i := 4) (by decide), hF.i (i := 92) (by decide), hF.i (i := 104) (by decide)]; exact T4'
/-- a change that is kept, the reference having read meanwhile -/
theorem op_chg2 (h : IN N σ 0 0 0) {N' : Net} (hN' : NV N') {v : Int32} {fc fm : St → Option (Int32 × St)}
    (hc : ∀ τ, Fr GK σ τ → CG τ 24 N → Ho (fc τ) (fun q => Fr CW τ q.2 ∧ q.2.1 3 2 = τ.1 3 2 ∧ CG q.2 24 N' ∧ q.1 = v))
    (hm : ∀ τ, (∀ i, 91 ≤ i → i ≠ 105 → τ.1 i = σ.1 i) → (∀ k, k ≠ 3 → k ≠ 7 → τ.1 87 k = σ.1 87 k) → MG (τ.1 88) N → Ho (fm τ) (fun q => Fr MW τ q.2 ∧ q.2.1 87 3 = τ.1 87 3 ∧ q.2.1 87 6 = τ.1 87 6 ∧ MG (q.2.1 88) N' ∧ q.1 = v)) :
    Ho ((f_X1_keep σ).bind fc) (fun q => q.1 = v ∧ MG (q.2.1 88) N ∧ (∀ i, 87 ≤ i → q.2.1 i = σ.1 i) ∧ ∀ α, KY q.2 α → Ho ((f_X6_aside α).bind (fun q3 => (f_X6_keeps q3).bind fm)) (fun r => r.1 = v ∧ ∃ N', IN N' r.2 0 0 0)) := by
  obtain ⟨hN, hG, hM, ⟨o, p, H, o8, p8, e1, e2, e3, eH⟩, hct, T, T1, T2, T3, T4⟩ := h
  refine ho_bind (x_keep hN hG (o := o) (p := p) (H := H) ⟨o8, p8, e1, e2, fun k hk => (eH k hk).2.1⟩) (fun τ hτ => ?_)
  obtain ⟨F1, o', hX⟩ := hτ
  refine ho_mono (hc τ F1 (hG.of (fun k hk => F1.i (GK_out (by omega) (by omega))))) (fun q hq => ?_)
  obtain ⟨F2, q32, hC', qv⟩ := hq
  have b2 : ∀ i, 87 ≤ i → q.2.1 i = σ.1 i := fun i hi => by rw [F2.i (by simp [CW]; omega), F1.i (GK_out (by omega) (by omega))]
  refine ⟨qv, by rw [b2 88 (by omega)]; exact hM, b2, fun α hα => ?_⟩
  have a2 : ∀ i, 87 < i → i ≠ 105 → α.1 i = σ.1 i := fun i hi h5 => by rw [hα.1.i (by simp; omega), b2 i (by omega)]
  have a7 : ∀ k, k ≠ 7 → α.1 87 k = σ.1 87 k := fun k hk => by rw [hα.2 k hk, b2 87 (by omega)]
  have al : ∀ i, i < 87 → α.1 i = q.2.1 i := fun i hi => hα.1.i (by simp; omega)
  refine y_keep hN (by rw [a2 88 (by omega) (by omega)]; exact hM) p8 (fun k hk => (eH k hk).1) ⟨by rw [a7 3 (by omega)]; exact e3, fun k hk => by rw [a2 89 (by omega) (by omega)]; exact (eH k hk).2.2⟩ (fun υ F3 k3 hM3 => ?_)
  have d88 : υ.1 88 = σ.1 88 := by rw [F3.i (by decide), a2 88 (by omega) (by omega)]
  refine ho_mono (hm υ (fun i hi h5 => by rw [F3.i (by simp; omega), a2 i (by omega) h5]) (fun k hk h7 => by rw [k3 k hk, a7 k h7]) (by rw [d88]; exact hM)) (fun r hr => ?_)
  obtain ⟨F4, r3, r6, hM', rv⟩ := hr
  refine ⟨rv, N', hN', ?_, hM', ⟨o', puP p, puH p H N, hX.1, hX.2.1, ?_, ?_, ?_, fun k hk => ⟨puH_NV hN p8 (fun k hk => (eH k hk).1) k hk, ?_, ?_⟩⟩, ?_, T, T1, ?_, ?_, ?_⟩
  · exact hC'.of (fun k hk => by rw [F4.i (by simp [MW]; omega), F3.i (by simp; omega), al _ (by omega)])
  · rw [F4.i (i := 1) (by decide), F3.i (i := 1) (by decide), al 1 (by omega), F2.i (i := 1) (by decide)]; exact hX.2.2.1
  · rw [F4.i (i := 1) (by decide), F3.i (i := 1) (by decide), al 1 (by omega), F2.i (i := 1) (by decide)]; exact hX.2.2.2.1
  · rw [r3]; exact hM3.1
  · have lt8 : (o' + k) % 8 < 8 := Nat.mod_lt _ (by omega)
    refine (hX.2.2.2.2 k hk).of (fun w hw => ?_)
    rw [F4.i (by simp [MW]; omega), F3.i (by simp; omega), al _ (by omega), F2.i (by simp [CW]; omega)]
  · rw [F4.i (i := 89) (by decide)]; exact hM3.2 k hk
  · rw [F4.i (i := 0) (by decide), F3.i (i := 0) (by decide), al 0 (by omega), F2.i (i := 0) (by decide), F1.i (i := 0) (GK_out (by omega) (by omega)), F4.i (i := 91) (by decide), F3.i (i := 91) (by decide), a2 91 (by omega) (by omega)]
    exact hct
  · rw [F4.i (i := 3) (by decide), F3.i (i := 3) (by decide), al 3 (by omega), q32, F1.i (i := 3) (GK_out (by omega) (by omega))]; exact T2
  · rw [r6, k3 6 (by decide), a7 6 (by omega)]; exact T3
  · rw [F4.i (i := 4) (by decide), F3.i (i := 4) (by decide), al 4 (by omega), F2.i (i := 4) (by decide), F1.i (i := 4) (GK_out (by omega) (by omega)), F4.i (i := 92) (by decide), F3.i (i := 92) (by decide), a2 92 (by omega) (by omega), F4.i (i := 104) (by decide), F3.i (i := 104) (by decide), a2 104 (by omega) (by omega)]
    exact T4
theorem cmdF_0 (t : Nat → Int32) (T : Nat) : cmdF t T 0 = (false, 0, 0, []) := by
  refine cmdF_none ?_
  cases h : wf t T 0 (ltD t T 0) with
  | none => rfl
  | some k =>
    have w := wf_some h
    have l := lenS_b k w.1
    have := w.2
    unfold mW at this
    rw [Bool.and_eq_true] at this
    have := of_decide_eq_true this.1
    omega
theorem op_does (h : IN N σ 0 0 0) : OE N (f_X5_does σ) f_X6_does := by
  have h0 := h
  obtain ⟨hN, -, -, -, -, T, T1, T2, T3, T4, W⟩ := h
  have tb : ∀ k, k < T → ¬ (fun k => σ.1 4 k) k = -1 := fun k hk e => by
    have := (T4 k hk).2.1
    have e' : σ.1 4 k = -1 := e
    rw [e'] at this
    exact absurd this (by decide)
  unfold OE f_X5_does
  refine ho_bind (x_findFault (t := fun k => σ.1 4 k) T1 T2 (fun k _ => rfl)) (fun q hq => ?_)
  obtain ⟨q0, σ1⟩ := q
  obtain ⟨F1, q2, q3, qf⟩ := hq
  try dsimp only at F1 q2 q3 qf
  have h1 : IN N σ1 0 0 0 := h0.scr F1 (by rw [q2, T2])
  have g92 : ∀ k, k < T → σ1.1 92 k = σ.1 4 k := fun k hk => by rw [F1.i (i := 92) (by decide), (T4 k hk).1]
  have g104 : ∀ k, k < 64 → σ1.1 104 k = wdT k := fun k hk => by rw [F1.i (i := 104) (by decide)]; exact W k hk
  have g87 : σ1.1 87 6 = nI T := by rw [F1.i (i := 87) (by decide)]; exact T3
  -- the reference begins
  have SY0 : ∀ α : St, (∀ i, 87 ≤ i → α.1 i = σ1.1 i) → SY (fun k => σ.1 4 k) T (sI α 87 7 (0 : Int32)) T := fun α ha =>
    ⟨by rw [sI_off _ _ _ _ (by decide), ha 87 (by omega)]; exact g87, fun k hk => by rw [sI_ne _ _ _ (by decide), ha 92 (by omega)]; exact g92 k hk, by rw [sI_at, Nat.sub_self]; rfl, Nat.le_refl T, fun k hk => by rw [sI_ne _ _ _ (by decide), ha 104 (by omega)]; exact g104 k hk⟩
  cases hfa : faF (fun k => σ.1 4 k) T with
  | none =>
    rw [hfa] at qf
    have q0e : q0 = -1 := qf
    subst q0e
    refine ho_t rfl ?_
    unfold faF at hfa
    have nz : skD (fun k => σ.1 4 k) T T ≠ 0 := fun e => by rw [if_pos e] at hfa; cases hfa
    rw [if_neg nz] at hfa
    refine ho_mono (op_chg2 h1 (exF_NV (fun k => σ.1 4 k) T 120 T N 0 hN) (v := nI (exF (fun k => σ.1 4 k) T 120 T N 0).1) (fm := fun q13 => nm (sI q13 87 7 (0 : Int32)) (fun σ14 : St => f_X6_does_59 (fun (x23 : Int32) (σ24 : St) => some (x23, σ24)) 1000 (0 : Int32) σ14)) (fun τ F2 hG2 => ?_) (fun τ a1 a2 hG2 => ?_)) (fun p hp => ?_)
    · refine ho_be (show f_X3_rewind τ = some (sI τ 3 3 (0 : Int32)) from rfl) ?_
      have e3 : τ.1 3 = σ1.1 3 := F2.i (GK_out (by omega) (by omega))
      have e4 : τ.1 4 = σ1.1 4 := F2.i (GK_out (by omega) (by omega))
      have hX0 : SX (fun k => σ.1 4 k) T (sI τ 3 3 (0 : Int32)) T := ⟨by rw [sI_off _ _ _ _ (by decide), e3]; exact q2, fun k hk => by rw [sI_ne _ _ _ (by decide), e4]; exact q3 k hk, by rw [sI_at, Nat.sub_self]; rfl, Nat.le_refl T⟩
      refine ho_mono (x_does40 (σ := τ) T1 120 T 1000 0 N _ T1 (Nat.le_refl _) (by omega) hfa hN (Fr.refl.sI (by decide)) hX0 (hG2.of (fun k hk => sI_ne _ _ _ (by omega)))) (fun s hs => ?_)
      exact ⟨hs.1, by rw [hs.2.1, e3, q2], hs.2.2⟩
    · refine ho_nm ?_
      have hX0 : SY (fun k => σ.1 4 k) T (sI τ 87 7 (0 : Int32)) T := ⟨by rw [sI_off _ _ _ _ (by decide), a2 6 (by decide) (by decide)]; exact g87, fun k hk => by rw [sI_ne _ _ _ (by decide), a1 92 (by omega) (by omega)]; exact g92 k hk, by rw [sI_at, Nat.sub_self]; rfl, Nat.le_refl T, fun k hk => by rw [sI_ne _ _ _ (by decide), a1 104 (by omega) (by omega)]; exact g104 k hk⟩
      refine ho_mono (y_does59 (σ := sI τ 87 7 (0 : Int32)) T1 tb 120 T 1000 0 N _ T1 (by omega) hfa hN Fr.refl (fun _ _ => rfl) hX0 (by rw [sI_ne _ _ _ (by decide)]; exact hG2)) (fun s hs => ?_)
      obtain ⟨s1, s2, s3, s4⟩ := hs
      exact ⟨(Fr.refl.sI (by decide)).trans s1, by rw [s2 3 (by decide), sI_off _ _ _ _ (by decide)], by rw [s2 6 (by decide), sI_off _ _ _ _ (by decide)], s3, s4⟩
    · obtain ⟨p1, -, p3, p4⟩ := hp
      unfold f_X6_does
      refine ho_nm ?_
      refine y_does7 (σ := p.2) T1 tb 120 T 1000 _ T1 (by omega) nz (KY.refl.at _) (SY0 p.2 p3) (fun _ υ hυ => ?_) (fun s w => by rw [hfa] at w; cases w)
      exact ho_mono (p4 υ hυ) (fun r hr => ⟨by rw [hr.1, p1], hr.2⟩)
  | some s =>
    rw [hfa] at qf
    obtain ⟨q0e, hs⟩ := qf
    subst q0e
    refine ho_f (nI_nm (by omega)) (ho_some ?_)
    try dsimp only
    unfold f_X6_does
    refine ho_nm ?_
    unfold faF at hfa
    by_cases z : skD (fun k => σ.1 4 k) T T = 0
    · rw [if_pos z] at hfa
      have := Option.some.inj hfa
      subst this
      rw [show (1000 : Nat) = 999 + 1 from rfl, f_X6_does_7]
      refine ho_f (by decide) ?_
      have ans : Ho (f_X6_order (0 : Int32) (sI σ1 87 7 (0 : Int32))) (fun s => KY σ1 s.2 ∧ SY (fun k => σ.1 4 k) T s.2 0 ∧ s.1 = -1) := by
        refine y_order T1 tb (SY0 σ1 (fun _ _ => rfl)) (fun w => ?_) (fun w υ K2 hX2 => ?_)
        · rw [z, cmdF_0] at w; cases w
        · rw [z, cmdF_0] at hX2
          exact ⟨(KY.refl.at _).trans K2, hX2, rfl⟩
      refine ho_bind ans (fun r hr => ?_)
      obtain ⟨K2, hX2, r1⟩ := hr
      rw [r1]
      refine ho_f (by decide) (ho_some ⟨?_, N, h1.scm K2⟩)
      rw [hX2.2.2.1]
    · rw [if_neg z] at hfa
      refine y_does7 (σ := σ1) T1 tb 120 T 1000 _ T1 (by omega) z (KY.refl.at _) (SY0 σ1 (fun _ _ => rfl)) (fun w => by rw [hfa] at w; cases w) (fun s' w _ υ hυ => ?_)
      rw [hfa] at w
      have := Option.some.inj w
      subst this
      exact ⟨rfl, N, h1.scm hυ⟩
end Ds
