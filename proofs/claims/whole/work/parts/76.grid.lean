/-! changes of the grid, on both sides -/
theorem sI_if (σ : St) (i k : Nat) (v : Int32) (j : Nat) : (sI σ i k v).1 i j = if j = k then v else σ.1 i j := by
  by_cases e : j = k
  · rw [if_pos e, e, sI_at]
  · rw [if_neg e, sI_off _ _ _ _ e]
theorem nI_pd {n : Nat} (h : 0 < n) : nI n - (1 : Int32) = nI (n - 1) := by
  obtain ⟨m, rfl⟩ : ∃ m, n = m + 1 := ⟨n - 1, by omega⟩
  exact nI_m1 m
def nBeg (N : Net) (n : Nat) : Net := (n, 0, eA N, eB N, eS N, eM N, fun _ => 0, eO N)
def nFeed (N : Net) (i : Nat) (v : Int) : Net := (nB N, nL N, eA N, eB N, eS N, eM N, fun k => if k = i then v else eQ N k, eO N)
def nJoin (N : Net) (a b : Nat) (s m : Int) : Net := (nB N, nL N + 1, fun k => if k = nL N then a else eA N k, fun k => if k = nL N then b else eB N k, fun k => if k = nL N then s else eS N k, fun k => if k = nL N then m else eM N k, eQ N, fun k => if k = nL N then true else eO N k)
def nDrop (N : Net) (l : Nat) : Net := (nB N, nL N - 1, fun k => if k < l then eA N k else eA N (k + 1), fun k => if k < l then eB N k else eB N (k + 1), fun k => if k < l then eS N k else eS N (k + 1), fun k => if k < l then eM N k else eM N (k + 1), eQ N, fun k => if k < l then eO N k else eO N (k + 1))
def nTurn (N : Net) (l : Nat) (on : Bool) : Net := (nB N, nL N, eA N, eB N, eS N, eM N, eQ N, fun k => if k = l then on else eO N k)
def nStr (N : Net) (l : Nat) (s : Int) : Net := (nB N, nL N, eA N, eB N, fun k => if k = l then s else eS N k, eM N, eQ N, eO N)
def nBnd (N : Net) (l : Nat) (m : Int) : Net := (nB N, nL N, eA N, eB N, eS N, fun k => if k = l then m else eM N k, eQ N, eO N)
section Gr
variable {N : Net} {τ : St}
theorem NV.beg (h : NV N) {n : Nat} (h1 : 2 ≤ n) (h2 : n ≤ 6) : NV (nBeg N n) := ⟨h1, h2, Nat.zero_le _, fun i hi => by show -99 ≤ (0 : Int) ∧ (0 : Int) ≤ 99; omega, fun l hl => absurd hl (Nat.not_lt_zero l)⟩
theorem NV.feed (h : NV N) (i : Nat) {v : Int} (h1 : -99 ≤ v) (h2 : v ≤ 99) : NV (nFeed N i v) := ⟨h.1, h.2.1, h.2.2.1, fun k hk => by
  show -99 ≤ (if k = i then v else eQ N k) ∧ (if k = i then v else eQ N k) ≤ 99
  by_cases e : k = i
  · rw [if_pos e]; exact ⟨h1, h2⟩
  · rw [if_neg e]; exact h.2.2.2.1 k hk, h.2.2.2.2⟩
theorem NV.join (h : NV N) {a b : Nat} {s m : Int} (hn : nL N < 10) (ha : a < nB N) (hb : b < nB N) (hab : a ≠ b) (s1 : 1 ≤ s) (s2 : s ≤ 5) (m1 : 1 ≤ m) (m2 : m ≤ 999) : NV (nJoin N a b s m) := ⟨h.1, h.2.1, by show nL N + 1 ≤ 10; omega, h.2.2.2.1, fun k hk => by
  unfold LV
  show (if k = nL N then a else eA N k) < nB N ∧ (if k = nL N then b else eB N k) < nB N ∧ (if k = nL N then a else eA N k) ≠ (if k = nL N then b else eB N k) ∧ 1 ≤ (if k = nL N then s else eS N k) ∧ (if k = nL N then s else eS N k) ≤ 5 ∧ 1 ≤ (if k = nL N then m else eM N k) ∧ (if k = nL N then m else eM N k) ≤ 999
  have hk' : k < nL N + 1 := hk
  by_cases e : k = nL N
  · rw [if_pos e, if_pos e, if_pos e, if_pos e]; exact ⟨ha, hb, hab, s1, s2, m1, m2⟩
  · rw [if_neg e, if_neg e, if_neg e, if_neg e]; exact h.2.2.2.2 k (by omega)⟩
theorem NV.drop (h : NV N) (l : Nat) : NV (nDrop N l) := ⟨h.1, h.2.1, by show nL N - 1 ≤ 10; have := h.2.2.1; omega, h.2.2.2.1, fun k hk => by
  have hk' : k < nL N - 1 := hk
  unfold LV
  show (if k < l then eA N k else eA N (k + 1)) < nB N ∧ (if k < l then eB N k else eB N (k + 1)) < nB N ∧ (if k < l then eA N k else eA N (k + 1)) ≠ (if k < l then eB N k else eB N (k + 1)) ∧ 1 ≤ (if k < l then eS N k else eS N (k + 1)) ∧ (if k < l then eS N k else eS N (k + 1)) ≤ 5 ∧ 1 ≤ (if k < l then eM N k else eM N (k + 1)) ∧ (if k < l then eM N k else eM N (k + 1)) ≤ 999
  by_cases e : k < l
  · rw [if_pos e, if_pos e, if_pos e, if_pos e]; exact h.2.2.2.2 k (by omega)
  · rw [if_neg e, if_neg e, if_neg e, if_neg e]; exact h.2.2.2.2 (k + 1) (by omega)⟩
theorem NV.turn (h : NV N) (l : Nat) (on : Bool) : NV (nTurn N l on) := h
theorem NV.str (h : NV N) (l : Nat) {s : Int} (s1 : 1 ≤ s) (s2 : s ≤ 5) : NV (nStr N l s) := ⟨h.1, h.2.1, h.2.2.1, h.2.2.2.1, fun k hk => by
  obtain ⟨a, b, c, d, e, f, g⟩ := h.2.2.2.2 k hk
  unfold LV
  show eA N k < nB N ∧ eB N k < nB N ∧ eA N k ≠ eB N k ∧ 1 ≤ (if k = l then s else eS N k) ∧ (if k = l then s else eS N k) ≤ 5 ∧ 1 ≤ eM N k ∧ eM N k ≤ 999
  by_cases w : k = l
  · rw [if_pos w]; exact ⟨a, b, c, s1, s2, f, g⟩
  · rw [if_neg w]; exact ⟨a, b, c, d, e, f, g⟩⟩
theorem NV.bnd (h : NV N) (l : Nat) {m : Int} (m1 : 1 ≤ m) (m2 : m ≤ 999) : NV (nBnd N l m) := ⟨h.1, h.2.1, h.2.2.1, h.2.2.2.1, fun k hk => by
  obtain ⟨a, b, c, d, e, f, g⟩ := h.2.2.2.2 k hk
  unfold LV
  show eA N k < nB N ∧ eB N k < nB N ∧ eA N k ≠ eB N k ∧ 1 ≤ eS N k ∧ eS N k ≤ 5 ∧ 1 ≤ (if k = l then m else eM N k) ∧ (if k = l then m else eM N k) ≤ 999
  by_cases w : k = l
  · rw [if_pos w]; exact ⟨a, b, c, d, e, m1, m2⟩
  · rw [if_neg w]; exact ⟨a, b, c, d, e, f, g⟩⟩
abbrev G0 : List Nat := [24, 25, 26, 27, 28, 29, 30]
theorem iI_of (a : Int32) : iI a.toInt = a := i_ext (by unfold iI; rw [fb_ofI (by have := fb_rng a; omega) (by have := fb_rng a; omega)])
theorem x_restart (hG : CG τ 24 N) (n : Nat) : Ho (f_X0_restart 0 (nI n) τ) (fun q => Fr G0 τ q.2 ∧ CG q.2 24 (nBeg N n) ∧ q.1 = nI (nB N)) := by
  have loop : ∀ (d l fuel : Nat) (υ : St), l + d = 6 → d < fuel → Fr G0 τ υ → υ.1 24 6 = nI n → υ.1 24 7 = nI 0 → (∀ k, k < l → υ.1 25 k = iI 0) → Ho (f_X0_restart_17 0 (nI (nB N)) (fun (σ11 : St) => some (nI (nB N), σ11)) fuel (nI l) υ) (fun q => Fr G0 τ q.2 ∧ CG q.2 24 (nBeg N n) ∧ q.1 = nI (nB N)) := by
    intro d
    induction d with
    | zero =>
      intro l fuel υ hd hf hF a1 a2 a3
      obtain ⟨fuel, rfl⟩ : ∃ f, fuel = f + 1 := ⟨fuel - 1, by omega⟩
      rw [f_X0_restart_17]
      exact ho_t (nI_ge' (a := 6) (by omega) (by omega)) (ho_some ⟨hF, ⟨a1, a2, fun i hi => a3 i (by omega), fun l hl => absurd hl (Nat.not_lt_zero l)⟩, rfl⟩)
    | succ d ih =>
      intro l fuel υ hd hf hF a1 a2 a3
      obtain ⟨fuel, rfl⟩ : ∃ f, fuel = f + 1 := ⟨fuel - 1, by omega⟩
      rw [f_X0_restart_17, nI31 (k := l) (by omega), nI_1 l]
      refine ho_f (nI_nge' (a := 6) (by omega) (by omega)) (ho_chk (ib_nI (by omega) (by omega)) (ho_nm (ih (l + 1) fuel _ (by omega) (by omega) (hF.sI (by decide)) ?_ ?_ (fun k hk => ?_))))
      · rw [sI_ne _ _ _ (by decide)]; exact a1
      · rw [sI_ne _ _ _ (by decide)]; exact a2
      · show (sI υ 25 l 0).1 25 k = _
        rw [sI_if]
        by_cases e : k = l
        · rw [if_pos e]; rfl
        · rw [if_neg e]; exact a3 k (by omega)
  unfold f_X0_restart
  rw [show (24 + 7 * 0) = 24 from rfl, hG.1]
  refine ho_nm (ho_nm (ho_nm (loop 6 0 1000 _ (by omega) (by omega) ((Fr.refl.sI (by decide)).sI (by decide)) ?_ ?_ (fun k hk => absurd hk (Nat.not_lt_zero k)))))
  · rw [sI_off _ _ _ _ (by decide), sI_at]
  · rw [sI_at]; rfl
theorem x_inject (hG : CG τ 24 N) {i : Nat} (hi : i < 6) (v : Int) : Ho (f_X0_inject 0 (nI i) (iI v) τ) (fun q => Fr G0 τ q.2 ∧ CG q.2 24 (nFeed N i v) ∧ q.1 = iI (eQ N i)) := by
  unfold f_X0_inject
  rw [show (24 + 7 * 0 + 1) = 25 from rfl, nI31 (by omega)]
  refine ho_chk (ib_nI (by omega) (by omega)) (ho_nm (ho_nm (ho_some ⟨Fr.refl.sI (by decide), ⟨?_, ?_, fun k hk => ?_, fun l hl => ?_⟩, hG.2.2.1 i hi⟩)))
  · rw [sI_ne _ _ _ (by decide)]; exact hG.1
  · rw [sI_ne _ _ _ (by decide)]; exact hG.2.1
  · show (sI τ 25 i (iI v)).1 25 k = iI (if k = i then v else eQ N k)
    rw [sI_if]
    by_cases e : k = i
    · rw [if_pos e, if_pos e]
    · rw [if_neg e, if_neg e]; exact hG.2.2.1 k hk
  · rw [sI_ne _ _ _ (show 24 + 2 ≠ 25 by decide), sI_ne _ _ _ (show 24 + 3 ≠ 25 by decide), sI_ne _ _ _ (show 24 + 4 ≠ 25 by decide), sI_ne _ _ _ (show 24 + 5 ≠ 25 by decide), sI_ne _ _ _ (show 24 + 6 ≠ 25 by decide)]
    exact hG.2.2.2 l hl
theorem x_join (hN : NV N) (hG : CG τ 24 N) (hn : nL N < 10) (a b : Nat) (s m : Int) : Ho (f_X0_join 0 (nI a) (nI b) (iI s) (iI m) τ) (fun q => Fr G0 τ q.2 ∧ CG q.2 24 (nJoin N a b s m) ∧ q.1 = nI (nL N)) := by
  unfold f_X0_join
  rw [show (24 + 7 * 0) = 24 from rfl, hG.2.1]
  refine ho_nm ?_
  rw [nI31 (by omega)]
  have p5 := put5 τ 24 (nL N) (nI a) (nI b) (iI s) (iI m) (vp_nar .boolean (1 : Int32))
  have F5 : Fr [26, 27, 28, 29, 30] τ (sI (sI (sI (sI (sI τ (24 + 2) (nL N) (nI a)) (24 + 3) (nL N) (nI b)) (24 + 4) (nL N) (iI s)) (24 + 5) (nL N) (iI m)) (24 + 6) (nL N) (vp_nar .boolean (1 : Int32))) := ((((Fr.refl.sI (by decide)).sI (by decide)).sI (by decide)).sI (by decide)).sI (by decide)
  refine ho_chk (ib_nI (by omega) (by omega)) (ho_nm (ho_nm (ho_nm (ho_nm (ho_nm (ho_nm (ho_some ?_)))))))
  generalize (sI (sI (sI (sI (sI τ (24 + 2) (nL N) (nI a)) (24 + 3) (nL N) (nI b)) (24 + 4) (nL N) (iI s)) (24 + 5) (nL N) (iI m)) (24 + 6) (nL N) (vp_nar .boolean (1 : Int32))) = β at p5 F5
  refine ⟨(F5.mono (by decide)).sI (by decide), ⟨?_, ?_, fun i hi => ?_, fun k hk => ?_⟩, rfl⟩
  · rw [sI_off _ _ _ _ (by decide), F5.i (i := 24) (by decide)]; exact hG.1
  · rw [sI_at, F5.i (i := 24) (by decide), hG.2.1]; exact nI_1 _
  · rw [sI_ne _ _ _ (show 24 + 1 ≠ 24 by decide), F5.i (i := 24 + 1) (by decide)]; exact hG.2.2.1 i hi
  · rw [sI_ne _ _ _ (show 24 + 2 ≠ 24 by decide), sI_ne _ _ _ (show 24 + 3 ≠ 24 by decide), sI_ne _ _ _ (show 24 + 4 ≠ 24 by decide), sI_ne _ _ _ (show 24 + 5 ≠ 24 by decide), sI_ne _ _ _ (show 24 + 6 ≠ 24 by decide)]
    obtain ⟨w2, w3, w4, w5, w6⟩ := p5 k
    rw [w2, w3, w4, w5, w6]
    show _ = nI (if k = nL N then a else eA N k) ∧ _ = nI (if k = nL N then b else eB N k) ∧ _ = iI (if k = nL N then s else eS N k) ∧ _ = iI (if k = nL N then m else eM N k) ∧ _ = bI (if k = nL N then true else eO N k)
    have hk' : k < nL N + 1 := hk
    by_cases e : k = nL N
    · rw [if_pos e, if_pos e, if_pos e, if_pos e, if_pos e, if_pos e, if_pos e, if_pos e, if_pos e, if_pos e]
      exact ⟨rfl, rfl, rfl, rfl, rfl⟩
    · rw [if_neg e, if_neg e, if_neg e, if_neg e, if_neg e, if_neg e, if_neg e, if_neg e, if_neg e, if_neg e]
      exact hG.2.2.2 k (by omega)
theorem x_remove (hN : NV N) (hG : CG τ 24 N) {l : Nat} (hl : l < nL N) : Ho (f_X0_remove 0 (nI l) τ) (fun q => Fr G0 τ q.2 ∧ CG q.2 24 (nDrop N l) ∧ q.1 = nI (nL N - 1)) := by
  have hm := hN.2.2.1
  have loop : ∀ (d i fuel : Nat) (υ : St), l ≤ i → i + 1 + d = nL N → d < fuel → Fr [26, 27, 28, 29, 30] τ υ →
      (∀ k, υ.1 26 k = (if l ≤ k ∧ k < i then τ.1 26 (k + 1) else τ.1 26 k) ∧ υ.1 27 k = (if l ≤ k ∧ k < i then τ.1 27 (k + 1) else τ.1 27 k) ∧ υ.1 28 k = (if l ≤ k ∧ k < i then τ.1 28 (k + 1) else τ.1 28 k) ∧ υ.1 29 k = (if l ≤ k ∧ k < i then τ.1 29 (k + 1) else τ.1 29 k) ∧ (k < nL N → υ.1 30 k = if l ≤ k ∧ k < i then τ.1 30 (k + 1) else τ.1 30 k)) →
      Ho (f_X0_remove_2 0 (fun (σ13 : St) => nm (sI σ13 (24 + 7 * 0) 7 ((σ13.1 (24 + 7 * 0) 7) - (1 : Int32))) (fun σ14 : St => some ((σ14.1 (24 + 7 * 0) 7), σ14))) fuel (nI i) υ) (fun q => Fr G0 τ q.2 ∧ CG q.2 24 (nDrop N l) ∧ q.1 = nI (nL N - 1)) := by
    intro d
    induction d with
    | zero =>
      intro i fuel υ hi hd hf hF hC
      obtain ⟨fuel, rfl⟩ : ∃ f, fuel = f + 1 := ⟨fuel - 1, by omega⟩
      have e24 : υ.1 24 = τ.1 24 := hF.i (by decide)
      rw [f_X0_remove_2, show (24 + 7 * 0) = 24 from rfl, e24, hG.2.1, show nI i + (1 : Int32) = nI (i + 1) from nI_1 i]
      refine ho_t (nI_ge' (by omega) (by omega)) (ho_nm (ho_some ⟨(hF.mono (by decide)).sI (by decide), ⟨?_, ?_, fun k hk => ?_, fun k hk => ?_⟩, ?_⟩))
      · rw [sI_off _ _ _ _ (by decide), e24]; exact hG.1
      · rw [sI_at]
        exact nI_pd (by omega)
      · rw [sI_ne _ _ _ (show 24 + 1 ≠ 24 by decide), hF.i (i := 24 + 1) (by decide)]; exact hG.2.2.1 k hk
      · have hk' : k < nL N - 1 := hk
        rw [sI_ne _ _ _ (show 24 + 2 ≠ 24 by decide), sI_ne _ _ _ (show 24 + 3 ≠ 24 by decide), sI_ne _ _ _ (show 24 + 4 ≠ 24 by decide), sI_ne _ _ _ (show 24 + 5 ≠ 24 by decide), sI_ne _ _ _ (show 24 + 6 ≠ 24 by decide)]
        obtain ⟨w2, w3, w4, w5, w6⟩ := hC k
        show υ.1 26 k = nI (if k < l then eA N k else eA N (k + 1)) ∧ υ.1 27 k = nI (if k < l then eB N k else eB N (k + 1)) ∧ υ.1 28 k = iI (if k < l then eS N k else eS N (k + 1)) ∧ υ.1 29 k = iI (if k < l then eM N k else eM N (k + 1)) ∧ υ.1 30 k = bI (if k < l then eO N k else eO N (k + 1))
        rw [w2, w3, w4, w5, w6 (by omega)]
        by_cases e : k < l
        · have e' : ¬ (l ≤ k ∧ k < i) := by omega
          rw [if_pos e, if_pos e, if_pos e, if_pos e, if_pos e, if_neg e', if_neg e', if_neg e', if_neg e', if_neg e']
          exact hG.2.2.2 k (by omega)
        · have e' : l ≤ k ∧ k < i := by omega
          rw [if_neg e, if_neg e, if_neg e, if_neg e, if_neg e, if_pos e', if_pos e', if_pos e', if_pos e', if_pos e']
          exact hG.2.2.2 (k + 1) (by omega)
      · exact nI_pd (by omega)
    | succ d ih =>
      intro i fuel υ hi hd hf hF hC
      obtain ⟨fuel, rfl⟩ : ∃ f, fuel = f + 1 := ⟨fuel - 1, by omega⟩
      have e24 : υ.1 24 = τ.1 24 := hF.i (by decide)
      rw [f_X0_remove_2, show (24 + 7 * 0) = 24 from rfl, e24, hG.2.1, show nI i + (1 : Int32) = nI (i + 1) from nI_1 i, nI31 (k := i) (by omega), nI31 (k := i + 1) (by omega)]
      have s3 : (sI υ (24 + 2) i (υ.1 (24 + 2) (i + 1))).1 (24 + 3) = υ.1 (24 + 3) := sI_ne _ _ _ (by decide)
      have p5 := put5 υ 24 i (υ.1 26 (i + 1)) (υ.1 27 (i + 1)) (υ.1 28 (i + 1)) (υ.1 29 (i + 1)) (vp_nar .boolean (υ.1 30 (i + 1)))
      refine ho_f (nI_nge' (by omega) (by omega)) (ho_chk (ib_nI (by omega) (by omega)) (ho_chk (ib_nI (by omega) (by omega)) (ho_nm (ho_nm (ho_nm (ho_nm (ho_nm ?_)))))))
      have s4 : (sI (sI υ (24 + 2) i (υ.1 26 (i + 1))) (24 + 3) i (υ.1 27 (i + 1))).1 (24 + 4) = υ.1 28 := by rw [sI_ne _ _ _ (by decide), sI_ne _ _ _ (by decide)]
      have s5 : (sI (sI (sI υ (24 + 2) i (υ.1 26 (i + 1))) (24 + 3) i (υ.1 27 (i + 1))) (24 + 4) i (υ.1 28 (i + 1))).1 (24 + 5) = υ.1 29 := by rw [sI_ne _ _ _ (by decide), sI_ne _ _ _ (by decide), sI_ne _ _ _ (by decide)]
      have s6 : (sI (sI (sI (sI υ (24 + 2) i (υ.1 26 (i + 1))) (24 + 3) i (υ.1 27 (i + 1))) (24 + 4) i (υ.1 28 (i + 1))) (24 + 5) i (υ.1 29 (i + 1))).1 (24 + 6) = υ.1 30 := by rw [sI_ne _ _ _ (by decide), sI_ne _ _ _ (by decide), sI_ne _ _ _ (by decide), sI_ne _ _ _ (by decide)]
      have F5 : Fr [26, 27, 28, 29, 30] υ (sI (sI (sI (sI (sI υ (24 + 2) i (υ.1 26 (i + 1))) (24 + 3) i (υ.1 27 (i + 1))) (24 + 4) i (υ.1 28 (i + 1))) (24 + 5) i (υ.1 29 (i + 1))) (24 + 6) i (vp_nar .boolean (υ.1 30 (i + 1)))) := ((((Fr.refl.sI (by decide)).sI (by decide)).sI (by decide)).sI (by decide)).sI (by decide)
      rw [s3, s4, s5, s6]
      show Ho (f_X0_remove_2 0 _ fuel (nI (i + 1)) (sI (sI (sI (sI (sI υ (24 + 2) i (υ.1 26 (i + 1))) (24 + 3) i (υ.1 27 (i + 1))) (24 + 4) i (υ.1 28 (i + 1))) (24 + 5) i (υ.1 29 (i + 1))) (24 + 6) i (vp_nar .boolean (υ.1 30 (i + 1))))) _
      generalize (sI (sI (sI (sI (sI υ (24 + 2) i (υ.1 26 (i + 1))) (24 + 3) i (υ.1 27 (i + 1))) (24 + 4) i (υ.1 28 (i + 1))) (24 + 5) i (υ.1 29 (i + 1))) (24 + 6) i (vp_nar .boolean (υ.1 30 (i + 1)))) = β at p5 F5
      refine ih (i + 1) fuel β (by omega) (by omega) (by omega) (hF.trans F5) (fun k => ?_)
      obtain ⟨w2, w3, w4, w5, w6⟩ := p5 k
      obtain ⟨c2, c3, c4, c5, c6⟩ := hC k
      obtain ⟨d2, d3, d4, d5, d6⟩ := hC (i + 1)
      have d6' := d6 (by omega)
      rw [if_neg (by omega)] at d2 d3 d4 d5 d6'
      show β.1 (24 + 2) k = _ ∧ β.1 (24 + 3) k = _ ∧ β.1 (24 + 4) k = _ ∧ β.1 (24 + 5) k = _ ∧ (_ → β.1 (24 + 6) k = _)
      rw [w2, w3, w4, w5, w6]
      by_cases e : k = i
      · subst e
        have q : l ≤ k ∧ k < k + 1 := by omega
        have b30 : τ.1 30 (k + 1) = bI (eO N (k + 1)) := (hG.2.2.2 (k + 1) (by omega)).2.2.2.2
        rw [if_pos rfl, if_pos rfl, if_pos rfl, if_pos rfl, if_pos rfl, if_pos q, if_pos q, if_pos q, if_pos q, if_pos q, d2, d3, d4, d5, d6', b30, bI_nar]
        exact ⟨rfl, rfl, rfl, rfl, fun _ => rfl⟩
      · rw [if_neg e, if_neg e, if_neg e, if_neg e, if_neg e]
        have q : (l ≤ k ∧ k < i + 1) ↔ (l ≤ k ∧ k < i) := by omega
        simp only [q]
        exact ⟨c2, c3, c4, c5, c6⟩
  unfold f_X0_remove
  refine loop (nL N - (l + 1)) l 1000 τ (Nat.le_refl l) (by omega) (by omega) Fr.refl (fun k => ?_)
  have q : ¬ (l ≤ k ∧ k < l) := by omega
  rw [if_neg q, if_neg q, if_neg q, if_neg q, if_neg q]
  exact ⟨rfl, rfl, rfl, rfl, fun _ => rfl⟩
theorem x_turn (hN : NV N) (hG : CG τ 24 N) {l : Nat} (hl : l < nL N) (on : Bool) : Ho (f_X0_turn 0 (nI l) (bI on) τ) (fun q => Fr G0 τ q.2 ∧ CG q.2 24 (nTurn N l on) ∧ q.1 = bI (eO N l)) := by
  have hm := hN.2.2.1
  have e30 : τ.1 30 l = bI (eO N l) := (hG.2.2.2 l hl).2.2.2.2
  have hC : CG (sI τ 30 l (bI on)) 24 (nTurn N l on) := by
    refine ⟨?_, ?_, fun k hk => ?_, fun k hk => ?_⟩
    · rw [sI_ne _ _ _ (by decide)]; exact hG.1
    · rw [sI_ne _ _ _ (by decide)]; exact hG.2.1
    · rw [sI_ne _ _ _ (show 24 + 1 ≠ 30 by decide)]; exact hG.2.2.1 k hk
    · rw [sI_ne _ _ _ (show 24 + 2 ≠ 30 by decide), sI_ne _ _ _ (show 24 + 3 ≠ 30 by decide), sI_ne _ _ _ (show 24 + 4 ≠ 30 by decide), sI_ne _ _ _ (show 24 + 5 ≠ 30 by decide)]
      obtain ⟨a, b, c, d, e⟩ := hG.2.2.2 k hk
      refine ⟨a, b, c, d, ?_⟩
      show (sI τ 30 l (bI on)).1 30 k = bI (if k = l then on else eO N k)
      rw [sI_if]
      by_cases w : k = l
      · rw [if_pos w, if_pos w]
      · rw [if_neg w, if_neg w]; exact e
  unfold f_X0_turn
  rw [show (24 + 7 * 0 + 6) = 30 from rfl, nI31 (by omega), e30, bI_nar]
  refine ho_chk (ib_nI (by omega) (by omega)) (ho_if (fun c => ho_nm (ho_some ⟨Fr.refl.sI (by decide), hC, ?_⟩)) (fun c => ho_nm (ho_some ⟨Fr.refl.sI (by decide), hC, ?_⟩)))
  · rw [bI_0.mp c]; rfl
  · cases w : eO N l
    · rw [w] at c; exact absurd rfl c
    · rfl
theorem x_strengthen (hN : NV N) (hG : CG τ 24 N) {l : Nat} (hl : l < nL N) (v : Int) : Ho (f_X0_strengthen 0 (nI l) (iI v) τ) (fun q => Fr G0 τ q.2 ∧ CG q.2 24 (nStr N l v) ∧ q.1 = iI (eS N l)) := by
  have hm := hN.2.2.1
  unfold f_X0_strengthen
  rw [show (24 + 7 * 0 + 4) = 28 from rfl, nI31 (by omega)]
  refine ho_chk (ib_nI (by omega) (by omega)) (ho_nm (ho_nm (ho_some ⟨Fr.refl.sI (by decide), ⟨?_, ?_, fun k hk => ?_, fun k hk => ?_⟩, (hG.2.2.2 l hl).2.2.1⟩)))
  · rw [sI_ne _ _ _ (by decide)]; exact hG.1
  · rw [sI_ne _ _ _ (by decide)]; exact hG.2.1
  · rw [sI_ne _ _ _ (show 24 + 1 ≠ 28 by decide)]; exact hG.2.2.1 k hk
  · rw [sI_ne _ _ _ (show 24 + 2 ≠ 28 by decide), sI_ne _ _ _ (show 24 + 3 ≠ 28 by decide), sI_ne _ _ _ (show 24 + 6 ≠ 28 by decide), sI_ne _ _ _ (show 24 + 5 ≠ 28 by decide)]
    obtain ⟨a, b, c, d, e⟩ := hG.2.2.2 k hk
    refine ⟨a, b, ?_, d, e⟩
    show (sI τ 28 l (iI v)).1 28 k = iI (if k = l then v else eS N k)
    rw [sI_if]
    by_cases w : k = l
    · rw [if_pos w, if_pos w]
    · rw [if_neg w, if_neg w]; exact c
theorem x_bound (hN : NV N) (hG : CG τ 24 N) {l : Nat} (hl : l < nL N) (v : Int) : Ho (f_X0_bound 0 (nI l) (iI v) τ) (fun q => Fr G0 τ q.2 ∧ CG q.2 24 (nBnd N l v) ∧ q.1 = iI (eM N l)) := by
  have hm := hN.2.2.1
  unfold f_X0_bound
  rw [show (24 + 7 * 0 + 5) = 29 from rfl, nI31 (by omega)]
  refine ho_chk (ib_nI (by omega) (by omega)) (ho_nm (ho_nm (ho_some ⟨Fr.refl.sI (by decide), ⟨?_, ?_, fun k hk => ?_, fun k hk => ?_⟩, (hG.2.2.2 l hl).2.2.2.1⟩)))
  · rw [sI_ne _ _ _ (by decide)]; exact hG.1
  · rw [sI_ne _ _ _ (by decide)]; exact hG.2.1
  · rw [sI_ne _ _ _ (show 24 + 1 ≠ 29 by decide)]; exact hG.2.2.1 k hk
  · rw [sI_ne _ _ _ (show 24 + 2 ≠ 29 by decide), sI_ne _ _ _ (show 24 + 3 ≠ 29 by decide), sI_ne _ _ _ (show 24 + 6 ≠ 29 by decide), sI_ne _ _ _ (show 24 + 4 ≠ 29 by decide)]
    obtain ⟨a, b, c, d, e⟩ := hG.2.2.2 k hk
    refine ⟨a, b, c, ?_, e⟩
    show (sI τ 29 l (iI v)).1 29 k = iI (if k = l then v else eM N k)
    rw [sI_if]
    by_cases w : k = l
    · rw [if_pos w, if_pos w]
    · rw [if_neg w, if_neg w]; exact d
end Gr
