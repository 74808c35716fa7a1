def f_X6_in (a1 : Int64) (a2 : Int64) (a3 : Int64) (σ : St) : Option (Int32 × St) :=
if a1 < a2 then
    (some ((0 : Int32), σ))
  else
    (if a3 < a1 then
      (some ((0 : Int32), σ))
    else
      (some ((1 : Int32), σ)))
abbrev mX6_in : Me := (yX6_in, cX6_in, 6, (some .boolean), 0, 0)
set_option maxRecDepth 100000 in
set_option maxHeartbeats 4000000 in
theorem c_X6_in {a1 : Int64} {a2 : Int64} {a3 : Int64} {σ : St} {res : Int32 × St} (hf : f_X6_in a1 a2 a3 σ = some res) : Mt mX6_in [.long a1, .long a2, .long a3] σ (some (.int res.1)) res.2 := by
  unfold f_X6_in at hf
  refine mt_of (by decide) (Nat.le_of_ble_eq_true rfl) [some (.long a1), none, some (.long a2), none, some (.long a3), none] rfl (fun Γ G hR => ?_)
  have G : OK Γ RX6 cX6_in 6 (some .boolean) 0 0 := G
  refine s_lload_n G dX6_in_0 rfl ?_
  refine s_lload_n G dX6_in_1 rfl ?_
  refine s_lif_lt (tgt := 17) (pc2 := 0) G dX6_in_2 dX6_in_3 (by decide) (fun c1 => ?_) (fun c1 => ?_)
  · replace hf := ifp c1 hf
    refine s_iconst G dX6_in_17 (v := 0) (by decide) ?_
    replace hf := Option.some.inj hf
    subst hf
    exact s_zret G hR dX6_in_18 (by decide) rfl rfl
  · replace hf := ifn c1 hf
    refine s_lload_n G dX6_in_6 rfl ?_
    refine s_lload G dX6_in_7 rfl ?_
    refine s_lif_gt (tgt := 17) (pc2 := 0) G dX6_in_9 dX6_in_10 (by decide) (fun c2 => ?_) (fun c2 => ?_)
    · replace hf := ifp c2 hf
      refine s_iconst G dX6_in_17 (v := 0) (by decide) ?_
      replace hf := Option.some.inj hf
      subst hf
      exact s_zret G hR dX6_in_18 (by decide) rfl rfl
    · replace hf := ifn c2 hf
      refine s_iconst G dX6_in_13 (v := 1) (by decide) ?_
      refine s_goto (tgt := 18) G dX6_in_14 (by decide) ?_
      replace hf := Option.some.inj hf
      subst hf
      exact s_zret G hR dX6_in_18 (by decide) rfl rfl
def f_X6_refuses (a1 : Int32) (σ : St) : Option (Int32 × St) :=
chk (ib ((-2 : Int32) - a1) 3) (
  nm (sI σ 91 ((-2 : Int32) - a1).toNatClampNeg ((σ.1 91 ((-2 : Int32) - a1).toNatClampNeg) + (1 : Int32))) (fun σ2 : St =>
  some (a1, σ2)))
abbrev mX6_refuses : Me := (yX6_refuses, cX6_refuses, 2, (some .int), 0, 0)
set_option maxRecDepth 100000 in
set_option maxHeartbeats 4000000 in
theorem c_X6_refuses {a1 : Int32} {σ : St} {res : Int32 × St} (hf : f_X6_refuses a1 σ = some res) : Mt mX6_refuses [.ref 87, .int a1] σ (some (.int res.1)) res.2 := by
  unfold f_X6_refuses at hf
  refine mt_of (by decide) (Nat.le_of_ble_eq_true rfl) [some (.ref 87), some (.int a1)] rfl (fun Γ G hR => ?_)
  have G : OK Γ RX6 cX6_refuses 2 (some .int) 0 0 := G
  refine s_aload_n G dX6_refuses_0 rfl ?_
  refine s_getR G dX6_refuses_1 lkF_X6_19 (by decide) rfl rfl ?_
  refine s_bipush G dX6_refuses_4 (v := -2) (by decide) ?_
  refine s_iload_n G dX6_refuses_6 rfl ?_
  refine s_isub G dX6_refuses_7 ?_
  refine s_dup2 G dX6_refuses_8 rfl rfl ?_
  have h1 := chk_1 hf
  replace hf := chk_2 hf
  refine s_iald G dX6_refuses_9 (by decide) rfl h1 ?_
  refine s_iconst G dX6_refuses_10 (v := 1) (by decide) ?_
  refine s_iadd G dX6_refuses_11 ?_
  refine s_iast G dX6_refuses_12 (by decide) rfl h1 ?_
  refine s_st (fun σ2 eσ2 => ?_)
  replace hf := nm_at eσ2 hf
  refine s_iload_n G dX6_refuses_13 rfl ?_
  replace hf := Option.some.inj hf
  subst hf
  exact s_iret G hR dX6_refuses_14 rfl rfl
def f_X6_lineAt (a1 : Int32) (a2 : Int32) (σ : St) : Option (Int32 × St) :=
chk (ib (((8 : Int32) + ((5 : Int32) * a1)) + a2) 58) (
  some ((σ.1 88 (((8 : Int32) + ((5 : Int32) * a1)) + a2).toNatClampNeg), σ))
abbrev mX6_lineAt : Me := (yX6_lineAt, cX6_lineAt, 3, (some .int), 0, 0)
set_option maxRecDepth 100000 in
set_option maxHeartbeats 4000000 in
theorem c_X6_lineAt {a1 : Int32} {a2 : Int32} {σ : St} {res : Int32 × St} (hf : f_X6_lineAt a1 a2 σ = some res) : Mt mX6_lineAt [.ref 87, .int a1, .int a2] σ (some (.int res.1)) res.2 := by
  unfold f_X6_lineAt at hf
  refine mt_of (by decide) (Nat.le_of_ble_eq_true rfl) [some (.ref 87), some (.int a1), some (.int a2)] rfl (fun Γ G hR => ?_)
  have G : OK Γ RX6 cX6_lineAt 3 (some .int) 0 0 := G
  refine s_aload_n G dX6_lineAt_0 rfl ?_
  refine s_getR G dX6_lineAt_1 lkF_X6_7 (by decide) rfl rfl ?_
  refine s_bipush G dX6_lineAt_4 (v := 8) (by decide) ?_
  refine s_iconst G dX6_lineAt_6 (v := 5) (by decide) ?_
  refine s_iload_n G dX6_lineAt_7 rfl ?_
  refine s_imul G dX6_lineAt_8 ?_
  refine s_iadd G dX6_lineAt_9 ?_
  refine s_iload_n G dX6_lineAt_10 rfl ?_
  refine s_iadd G dX6_lineAt_11 ?_
  have h1 := chk_1 hf
  replace hf := chk_2 hf
  refine s_iald G dX6_lineAt_12 (by decide) rfl h1 ?_
  replace hf := Option.some.inj hf
  subst hf
  exact s_iret G hR dX6_lineAt_13 rfl rfl
def f_X6_isBus (a1 : Int32) (σ : St) : Option (Int32 × St) :=
(f_X6_in a1.toInt64 (0 : Int64) ((σ.1 88 (0 : Int32).toNatClampNeg) - (1 : Int32)).toInt64 σ).bind (fun q1 =>
  chk (decide (q1.1 = 0 ∨ q1.1 = 1)) (
  some (q1.1, q1.2)))
abbrev mX6_isBus : Me := (yX6_isBus, cX6_isBus, 2, (some .boolean), 1, 25)
set_option maxRecDepth 100000 in
set_option maxHeartbeats 4000000 in
theorem c_X6_isBus {a1 : Int32} {σ : St} {res : Int32 × St} (hf : f_X6_isBus a1 σ = some res) : Mt mX6_isBus [.ref 87, .int a1] σ (some (.int res.1)) res.2 := by
  unfold f_X6_isBus at hf
  refine mt_of (by decide) (Nat.le_of_ble_eq_true rfl) [some (.ref 87), some (.int a1)] rfl (fun Γ G hR => ?_)
  have G : OK Γ RX6 cX6_isBus 2 (some .boolean) 1 25 := G
  refine s_iload_n G dX6_isBus_0 rfl ?_
  refine s_i2l G dX6_isBus_1 ?_
  refine s_lconst G dX6_isBus_2 (v := 0) (by decide) ?_
  refine s_aload_n G dX6_isBus_3 rfl ?_
  refine s_getR G dX6_isBus_4 lkF_X6_7 (by decide) rfl rfl ?_
  refine s_iconst G dX6_isBus_7 (v := 0) (by decide) ?_
  refine s_iald G dX6_isBus_8 (by decide) rfl (by decide) ?_
  refine s_iconst G dX6_isBus_9 (v := 1) (by decide) ?_
  refine s_isub G dX6_isBus_10 ?_
  refine s_i2l G dX6_isBus_11 ?_
  obtain ⟨q1, hq1, hf⟩ := bnd hf
  refine s_callS G dX6_isBus_12 (c_X6_in hq1) lkM_X6_65 yk_X6_in ys_X6_in _ [] rfl rfl rfl (Nat.le_of_ble_eq_true rfl) (by decide) ?_
  have h2 := chk_1 hf
  replace hf := chk_2 hf
  replace hf := Option.some.inj hf
  subst hf
  exact s_zret G hR dX6_isBus_15 h2 rfl rfl
def f_X6_isLine (a1 : Int32) (σ : St) : Option (Int32 × St) :=
(f_X6_in a1.toInt64 (0 : Int64) ((σ.1 88 (1 : Int32).toNatClampNeg) - (1 : Int32)).toInt64 σ).bind (fun q1 =>
  chk (decide (q1.1 = 0 ∨ q1.1 = 1)) (
  some (q1.1, q1.2)))
abbrev mX6_isLine : Me := (yX6_isLine, cX6_isLine, 2, (some .boolean), 1, 25)
set_option maxRecDepth 100000 in
set_option maxHeartbeats 4000000 in
theorem c_X6_isLine {a1 : Int32} {σ : St} {res : Int32 × St} (hf : f_X6_isLine a1 σ = some res) : Mt mX6_isLine [.ref 87, .int a1] σ (some (.int res.1)) res.2 := by
  unfold f_X6_isLine at hf
  refine mt_of (by decide) (Nat.le_of_ble_eq_true rfl) [some (.ref 87), some (.int a1)] rfl (fun Γ G hR => ?_)
  have G : OK Γ RX6 cX6_isLine 2 (some .boolean) 1 25 := G
  refine s_iload_n G dX6_isLine_0 rfl ?_
  refine s_i2l G dX6_isLine_1 ?_
  refine s_lconst G dX6_isLine_2 (v := 0) (by decide) ?_
  refine s_aload_n G dX6_isLine_3 rfl ?_
  refine s_getR G dX6_isLine_4 lkF_X6_7 (by decide) rfl rfl ?_
  refine s_iconst G dX6_isLine_7 (v := 1) (by decide) ?_
  refine s_iald G dX6_isLine_8 (by decide) rfl (by decide) ?_
  refine s_iconst G dX6_isLine_9 (v := 1) (by decide) ?_
  refine s_isub G dX6_isLine_10 ?_
  refine s_i2l G dX6_isLine_11 ?_
  obtain ⟨q1, hq1, hf⟩ := bnd hf
  refine s_callS G dX6_isLine_12 (c_X6_in hq1) lkM_X6_65 yk_X6_in ys_X6_in _ [] rfl rfl rfl (Nat.le_of_ble_eq_true rfl) (by decide) ?_
  have h2 := chk_1 hf
  replace hf := chk_2 hf
  replace hf := Option.some.inj hf
  subst hf
  exact s_zret G hR dX6_isLine_15 h2 rfl rfl
def f_X6_isIn (a1 : Int32) (σ : St) : Option (Int32 × St) :=
(f_X6_lineAt a1 (4 : Int32) σ).bind (fun q1 =>
  if q1.1 = (1 : Int32) then
    (some ((1 : Int32), q1.2))
  else
    (some ((0 : Int32), q1.2)))
abbrev mX6_isIn : Me := (yX6_isIn, cX6_isIn, 2, (some .boolean), 1, 22)
set_option maxRecDepth 100000 in
set_option maxHeartbeats 4000000 in
theorem c_X6_isIn {a1 : Int32} {σ : St} {res : Int32 × St} (hf : f_X6_isIn a1 σ = some res) : Mt mX6_isIn [.ref 87, .int a1] σ (some (.int res.1)) res.2 := by
  unfold f_X6_isIn at hf
  refine mt_of (by decide) (Nat.le_of_ble_eq_true rfl) [some (.ref 87), some (.int a1)] rfl (fun Γ G hR => ?_)
  have G : OK Γ RX6 cX6_isIn 2 (some .boolean) 1 22 := G
  refine s_aload_n G dX6_isIn_0 rfl ?_
  refine s_iload_n G dX6_isIn_1 rfl ?_
  refine s_iconst G dX6_isIn_2 (v := 4) (by decide) ?_
  obtain ⟨q1, hq1, hf⟩ := bnd hf
  refine s_callV G dX6_isIn_3 (c_X6_lineAt hq1) lkM_X6_69 yk_X6_lineAt yv_X6_lineAt (by decide) rfl rfl _ [] rfl rfl rfl (Nat.le_of_ble_eq_true rfl) (by decide) ?_
  refine s_iconst G dX6_isIn_6 (v := 1) (by decide) ?_
  refine s_icmp_ne (tgt := 14) G dX6_isIn_7 (by decide) (fun c2 => ?_) (fun c2 => ?_)
  · replace hf := ifn c2 hf
    refine s_iconst G dX6_isIn_14 (v := 0) (by decide) ?_
    replace hf := Option.some.inj hf
    subst hf
    exact s_zret G hR dX6_isIn_15 (by decide) rfl rfl
  · replace hf := ifp c2 hf
    refine s_iconst G dX6_isIn_10 (v := 1) (by decide) ?_
    refine s_goto (tgt := 15) G dX6_isIn_11 (by decide) ?_
    replace hf := Option.some.inj hf
    subst hf
    exact s_zret G hR dX6_isIn_15 (by decide) rfl rfl
def f_X6_has (a1 : Int32) (a2 : Int32) (σ : St) : Option (Int32 × St) :=
if ((a1 >>> (a2 &&& 31)) &&& (1 : Int32)) = (1 : Int32) then
    (some ((1 : Int32), σ))
  else
    (some ((0 : Int32), σ))
abbrev mX6_has : Me := (yX6_has, cX6_has, 2, (some .boolean), 0, 0)
set_option maxRecDepth 100000 in
set_option maxHeartbeats 4000000 in
theorem c_X6_has {a1 : Int32} {a2 : Int32} {σ : St} {res : Int32 × St} (hf : f_X6_has a1 a2 σ = some res) : Mt mX6_has [.int a1, .int a2] σ (some (.int res.1)) res.2 := by
  unfold f_X6_has at hf
  refine mt_of (by decide) (Nat.le_of_ble_eq_true rfl) [some (.int a1), some (.int a2)] rfl (fun Γ G hR => ?_)
  have G : OK Γ RX6 cX6_has 2 (some .boolean) 0 0 := G
  refine s_iload_n G dX6_has_0 rfl ?_
  refine s_iload_n G dX6_has_1 rfl ?_
  refine s_ishr G dX6_has_2 ?_
  refine s_iconst G dX6_has_3 (v := 1) (by decide) ?_
  refine s_iand G dX6_has_4 ?_
  refine s_iconst G dX6_has_5 (v := 1) (by decide) ?_
  refine s_icmp_ne (tgt := 13) G dX6_has_6 (by decide) (fun c1 => ?_) (fun c1 => ?_)
  · replace hf := ifn c1 hf
    refine s_iconst G dX6_has_13 (v := 0) (by decide) ?_
    replace hf := Option.some.inj hf
    subst hf
    exact s_zret G hR dX6_has_14 (by decide) rfl rfl
  · replace hf := ifp c1 hf
    refine s_iconst G dX6_has_9 (v := 1) (by decide) ?_
    refine s_goto (tgt := 14) G dX6_has_10 (by decide) ?_
    replace hf := Option.some.inj hf
    subst hf
    exact s_zret G hR dX6_has_14 (by decide) rfl rfl
def f_X6_inSet_4 (k4 : Int32 → St → Option (Int32 × St)) : Nat → Int32 → Int32 → St → Option (Int32 × St)
  | 0, _, _, _ => none
  | n5 + 1, x1, x2, σ3 =>
    if (σ3.1 88 (1 : Int32).toNatClampNeg) ≤ x2 then
      (k4 x1 σ3)
    else
      ((f_X6_isIn x2 σ3).bind (fun q7 =>
      if q7.1 = 0 then
        (nm (x1 ||| (0 : Int32)) (fun x9 : Int32 =>
        f_X6_inSet_4 k4 n5 x9 (x2 + 1) q7.2))
      else
        (nm (x1 ||| ((1 : Int32) <<< (x2 &&& 31))) (fun x10 : Int32 =>
        f_X6_inSet_4 k4 n5 x10 (x2 + 1) q7.2))))
def f_X6_inSet (σ : St) : Option (Int32 × St) :=
f_X6_inSet_4 (fun (x11 : Int32) (σ12 : St) =>
    some (x11, σ12)) 1000 (0 : Int32) (0 : Int32) σ
abbrev mX6_inSet : Me := (yX6_inSet, cX6_inSet, 3, (some .int), 2, 43)
set_option maxRecDepth 100000 in
set_option maxHeartbeats 4000000 in
theorem l_X6_inSet_4 {Γ : Cxt} (G : OK Γ RX6 cX6_inSet 3 (some .int) 2 43) {res : Int32 × St} (hR : RetOK Γ (some (.int res.1)) res.2) (k4 : Int32 → St → Option (Int32 × St)) (hk : ∀ (y1 : Int32) (z : St), k4 y1 z = some res → WW Γ 38 [none, some (.int y1), none] [] z) : ∀ (n5 : Nat) (x1 : Int32) (x2 : Int32) (σ3 : St), f_X6_inSet_4 k4 n5 x1 x2 σ3 = some res → WW Γ 4 [some (.ref 87), some (.int x1), some (.int x2)] [] σ3 := by
  intro n5
  induction n5 with
  | zero =>
    intro x1 x2 σ3 hf
    cases hf
  | succ n5 ih =>
    intro x1 x2 σ3 hf
    unfold f_X6_inSet_4 at hf
    refine s_iload_n G dX6_inSet_4 rfl ?_
    refine s_aload_n G dX6_inSet_5 rfl ?_
    refine s_getR G dX6_inSet_6 lkF_X6_7 (by decide) rfl rfl ?_
    refine s_iconst G dX6_inSet_9 (v := 1) (by decide) ?_
    refine s_iald G dX6_inSet_10 (by decide) rfl (by decide) ?_
    refine s_icmp_ge (tgt := 38) G dX6_inSet_11 (by decide) (fun c6 => ?_) (fun c6 => ?_)
    · replace hf := ifp c6 hf
      refine s_fgt [false, true, false] rfl ?_
      exact hk x1 σ3 hf
    · replace hf := ifn c6 hf
      refine s_iload_n G dX6_inSet_14 rfl ?_
      refine s_aload_n G dX6_inSet_15 rfl ?_
      refine s_iload_n G dX6_inSet_16 rfl ?_
      obtain ⟨q7, hq7, hf⟩ := bnd hf
      refine s_callV G dX6_inSet_17 (c_X6_isIn hq7) lkM_X6_73 yk_X6_isIn yv_X6_isIn (by decide) rfl rfl _ [.int x1] rfl rfl rfl (Nat.le_of_ble_eq_true rfl) (by decide) ?_
      refine s_if_eq (tgt := 29) G dX6_inSet_20 (by decide) (fun c8 => ?_) (fun c8 => ?_)
      · replace hf := ifp c8 hf
        refine s_iconst G dX6_inSet_29 (v := 0) (by decide) ?_
        refine s_ior G dX6_inSet_30 ?_
        refine s_topi (fun x9 ex9 => ?_)
        replace hf := nm_at ex9 hf
        refine s_istore_n G dX6_inSet_31 rfl (by decide) rfl rfl ?_
        refine s_iinc G dX6_inSet_32 rfl (v := (x2 + 1)) rfl (by decide) rfl rfl ?_
        refine s_goto (tgt := 4) G dX6_inSet_35 (by decide) ?_
        exact ih x9 (x2 + 1) q7.2 hf
      · replace hf := ifn c8 hf
        refine s_iconst G dX6_inSet_23 (v := 1) (by decide) ?_
        refine s_iload_n G dX6_inSet_24 rfl ?_
        refine s_ishl G dX6_inSet_25 ?_
        refine s_goto (tgt := 30) G dX6_inSet_26 (by decide) ?_
        refine s_ior G dX6_inSet_30 ?_
        refine s_topi (fun x10 ex10 => ?_)
        replace hf := nm_at ex10 hf
        refine s_istore_n G dX6_inSet_31 rfl (by decide) rfl rfl ?_
        refine s_iinc G dX6_inSet_32 rfl (v := (x2 + 1)) rfl (by decide) rfl rfl ?_
        refine s_goto (tgt := 4) G dX6_inSet_35 (by decide) ?_
        exact ih x10 (x2 + 1) q7.2 hf
set_option maxRecDepth 100000 in
set_option maxHeartbeats 4000000 in
theorem c_X6_inSet  {σ : St} {res : Int32 × St} (hf : f_X6_inSet σ = some res) : Mt mX6_inSet [.ref 87] σ (some (.int res.1)) res.2 := by
  unfold f_X6_inSet at hf
  refine mt_of (by decide) (Nat.le_of_ble_eq_true rfl) [some (.ref 87), none, none] rfl (fun Γ G hR => ?_)
  have G : OK Γ RX6 cX6_inSet 3 (some .int) 2 43 := G
  refine s_iconst G dX6_inSet_0 (v := 0) (by decide) ?_
  refine s_istore_n G dX6_inSet_1 rfl (by decide) rfl rfl ?_
  refine s_iconst G dX6_inSet_2 (v := 0) (by decide) ?_
  refine s_istore_n G dX6_inSet_3 rfl (by decide) rfl rfl ?_
  refine l_X6_inSet_4 G hR _ (fun x11 σ12 hf => ?_) 1000 (0 : Int32) (0 : Int32) σ hf
  refine s_iload_n G dX6_inSet_38 rfl ?_
  replace hf := Option.some.inj hf
  subst hf
  exact s_iret G hR dX6_inSet_39 rfl rfl
def f_X6_common_28 (k8 : Int64 → St → Option (Int64 × St)) : Nat → Int64 → Int64 → St → Option (Int64 × St)
  | 0, _, _, _ => none
  | n9 + 1, x5, x6, σ7 =>
    if x6 = (0 : Int64) then
      (k8 x5 σ7)
    else
      (chk (decide (¬ x6 = 0)) (
      nm (x5 - x5 / x6 * x6) (fun x12 : Int64 =>
      f_X6_common_28 k8 n9 x6 x12 σ7)))
def f_X6_common (a1 : Int64) (a2 : Int64) (σ : St) : Option (Int64 × St) :=
jn (fun q1 : Int64 × St =>
    (jn (fun q3 : Int64 × St =>
      (f_X6_common_28 (fun (x13 : Int64) (σ14 : St) =>
        some (x13, σ14)) 1000 q1.1 q3.1 q3.2)) (fun j4 =>
      if (0 : Int64) ≤ a2 then
        (j4 (a2, q1.2))
      else
        (j4 ((-a2), q1.2))))) (fun j2 =>
    if (0 : Int64) ≤ a1 then
      (j2 (a1, σ))
    else
      (j2 ((-a1), σ)))
abbrev mX6_common : Me := (yX6_common, cX6_common, 10, (some .long), 0, 0)
set_option maxRecDepth 100000 in
set_option maxHeartbeats 4000000 in
theorem l_X6_common_28 {Γ : Cxt} (G : OK Γ RX6 cX6_common 10 (some .long) 0 0) {res : Int64 × St} (hR : RetOK Γ (some (.long res.1)) res.2) (k8 : Int64 → St → Option (Int64 × St)) (hk : ∀ (y4 : Int64) (z : St), k8 y4 z = some res → WW Γ 53 [none, none, none, none, some (.long y4), none, none, none, none, none] [] z) : ∀ (n9 : Nat) (x5 : Int64) (x6 : Int64) (σ7 : St), f_X6_common_28 k8 n9 x5 x6 σ7 = some res → WW Γ 28 [none, none, none, none, some (.long x5), none, some (.long x6), none, none, none] [] σ7 := by
  intro n9
  induction n9 with
  | zero =>
    intro x5 x6 σ7 hf
    cases hf
  | succ n9 ih =>
    intro x5 x6 σ7 hf
    unfold f_X6_common_28 at hf
    refine s_lload G dX6_common_28 rfl ?_
    refine s_lconst G dX6_common_30 (v := 0) (by decide) ?_
    refine s_lif_eq (tgt := 53) (pc2 := 0) G dX6_common_31 dX6_common_32 (by decide) (fun c10 => ?_) (fun c10 => ?_)
    · replace hf := ifp c10 hf
      refine s_fgt [true, true, true, true, true, true, false, true, true, true] rfl ?_
      exact hk x5 σ7 hf
    · replace hf := ifn c10 hf
      refine s_lload G dX6_common_35 rfl ?_
      refine s_lload G dX6_common_37 rfl ?_
      have h11 := chk_1 hf
      replace hf := chk_2 hf
      refine s_lrem G dX6_common_39 h11 ?_
      refine s_topl (fun x12 ex12 => ?_)
      replace hf := nm_at ex12 hf
      refine s_lstore G dX6_common_40 (by decide) rfl rfl ?_
      refine s_lload G dX6_common_42 rfl ?_
      refine s_lstore G dX6_common_44 (by decide) rfl rfl ?_
      refine s_lload G dX6_common_46 rfl ?_
      refine s_lstore G dX6_common_48 (by decide) rfl rfl ?_
      refine s_goto (tgt := 28) G dX6_common_50 (by decide) ?_
      refine s_fgt [true, true, true, true, true, true, true, true, false, true] rfl ?_
      exact ih x6 x12 σ7 hf
set_option maxRecDepth 100000 in
set_option maxHeartbeats 4000000 in
theorem c_X6_common {a1 : Int64} {a2 : Int64} {σ : St} {res : Int64 × St} (hf : f_X6_common a1 a2 σ = some res) : Mt mX6_common [.long a1, .long a2] σ (some (.long res.1)) res.2 := by
  unfold f_X6_common at hf
  refine mt_of (by decide) (Nat.le_of_ble_eq_true rfl) [some (.long a1), none, some (.long a2), none, none, none, none, none, none, none] rfl (fun Γ G hR => ?_)
  have G : OK Γ RX6 cX6_common 10 (some .long) 0 0 := G
  refine s_lload_n G dX6_common_0 rfl ?_
  refine s_lconst G dX6_common_1 (v := 0) (by decide) ?_
  refine jn_w (fun q1 : Int64 × St => WW Γ 12 [none, none, some (.long a2), none, none, none, none, none, none, none] [.long q1.1] q1.2) hf (fun q1 hf => ?_) (fun j2 hj2 hf => ?_)
  · refine s_lstore G dX6_common_12 (by decide) rfl rfl ?_
    refine s_lload_n G dX6_common_14 rfl ?_
    refine s_lconst G dX6_common_15 (v := 0) (by decide) ?_
    refine jn_w (fun q3 : Int64 × St => WW Γ 26 [none, none, none, none, some (.long q1.1), none, none, none, none, none] [.long q3.1] q3.2) hf (fun q3 hf => ?_) (fun j4 hj4 hf => ?_)
    · refine s_lstore G dX6_common_26 (by decide) rfl rfl ?_
      refine l_X6_common_28 G hR _ (fun x13 σ14 hf => ?_) 1000 q1.1 q3.1 q3.2 hf
      refine s_lload G dX6_common_53 rfl ?_
      replace hf := Option.some.inj hf
      subst hf
      exact s_lret G hR dX6_common_55 rfl rfl
    · refine s_lif_ge (tgt := 25) (pc2 := 0) G dX6_common_16 dX6_common_17 (by decide) (fun c15 => ?_) (fun c15 => ?_)
      · replace hf := ifp c15 hf
        refine s_lload_n G dX6_common_25 rfl ?_
        refine s_fgt [true, true, false, true, true, true, true, true, true, true] rfl ?_
        exact hj4 _ hf
      · replace hf := ifn c15 hf
        refine s_lload_n G dX6_common_20 rfl ?_
        refine s_lneg G dX6_common_21 ?_
        refine s_goto (tgt := 26) G dX6_common_22 (by decide) ?_
        refine s_fgt [true, true, false, true, true, true, true, true, true, true] rfl ?_
        exact hj4 _ hf
  · refine s_lif_ge (tgt := 11) (pc2 := 0) G dX6_common_2 dX6_common_3 (by decide) (fun c16 => ?_) (fun c16 => ?_)
    · replace hf := ifp c16 hf
      refine s_lload_n G dX6_common_11 rfl ?_
      refine s_fgt [false, true, true, true, true, true, true, true, true, true] rfl ?_
      exact hj2 _ hf
    · replace hf := ifn c16 hf
      refine s_lload_n G dX6_common_6 rfl ?_
      refine s_lneg G dX6_common_7 ?_
      refine s_goto (tgt := 12) G dX6_common_8 (by decide) ?_
      refine s_fgt [false, true, true, true, true, true, true, true, true, true] rfl ?_
      exact hj2 _ hf
def f_X6_part (a1 : Int64) (a2 : Int64) (a3 : Int32) (σ : St) : Option (Int64 × St) :=
(f_X6_common a1 a2 σ).bind (fun q1 =>
  if a3 = 0 then
    (chk (decide (¬ q1.1 = 0)) (
    some ((a1 / q1.1), q1.2)))
  else
    (chk (decide (¬ q1.1 = 0)) (
    some ((a2 / q1.1), q1.2))))
abbrev mX6_part : Me := (yX6_part, cX6_part, 7, (some .long), 1, 29)
set_option maxRecDepth 100000 in
set_option maxHeartbeats 4000000 in
theorem c_X6_part {a1 : Int64} {a2 : Int64} {a3 : Int32} {σ : St} {res : Int64 × St} (hf : f_X6_part a1 a2 a3 σ = some res) : Mt mX6_part [.long a1, .long a2, .int a3] σ (some (.long res.1)) res.2 := by
  unfold f_X6_part at hf
  refine mt_of (by decide) (Nat.le_of_ble_eq_true rfl) [some (.long a1), none, some (.long a2), none, some (.int a3), none, none] rfl (fun Γ G hR => ?_)
  have G : OK Γ RX6 cX6_part 7 (some .long) 1 29 := G
  refine s_lload_n G dX6_part_0 rfl ?_
  refine s_lload_n G dX6_part_1 rfl ?_
  obtain ⟨q1, hq1, hf⟩ := bnd hf
  refine s_callS G dX6_part_2 (c_X6_common hq1) lkM_X6_77 yk_X6_common ys_X6_common _ [] rfl rfl rfl (Nat.le_of_ble_eq_true rfl) (by decide) ?_
  refine s_lstore G dX6_part_5 (by decide) rfl rfl ?_
  refine s_iload G dX6_part_7 rfl ?_
  refine s_if_ne (tgt := 16) G dX6_part_9 (by decide) (fun c2 => ?_) (fun c2 => ?_)
  · replace hf := ifn c2 hf
    refine s_lload_n G dX6_part_16 rfl ?_
    refine s_lload G dX6_part_17 rfl ?_
    have h3 := chk_1 hf
    replace hf := chk_2 hf
    refine s_ldiv G dX6_part_19 h3 ?_
    replace hf := Option.some.inj hf
    subst hf
    exact s_lret G hR dX6_part_20 rfl rfl
  · replace hf := ifp c2 hf
    refine s_lload_n G dX6_part_12 rfl ?_
    refine s_goto (tgt := 17) G dX6_part_13 (by decide) ?_
    refine s_lload G dX6_part_17 rfl ?_
    have h4 := chk_1 hf
    replace hf := chk_2 hf
    refine s_ldiv G dX6_part_19 h4 ?_
    replace hf := Option.some.inj hf
    subst hf
    exact s_lret G hR dX6_part_20 rfl rfl
def f_X6_parts_2 (a1 : Int32) (k3 : St → Option (St)) : Nat → Int32 → St → Option (St)
  | 0, _, _ => none
  | n4 + 1, x1, σ2 =>
    if (σ2.1 88 (0 : Int32).toNatClampNeg) ≤ x1 then
      (k3 σ2)
    else
      (chk (ib x1 6) (
      nm (sI σ2 94 x1.toNatClampNeg x1) (fun σ7 : St =>
      f_X6_parts_2 a1 k3 n4 (x1 + 1) σ7)))
def f_X6_parts_27 (a1 : Int32) (k11 : St → Option (St)) : Nat → Int32 → St → Option (St)
  | 0, _, _ => none
  | n12 + 1, x9, σ10 =>
    if ((σ10.1 88 (0 : Int32).toNatClampNeg) * (σ10.1 88 (1 : Int32).toNatClampNeg)) ≤ x9 then
      (k11 σ10)
    else
      (chk (decide (¬ (σ10.1 88 (1 : Int32).toNatClampNeg) = 0)) (
      nm (x9 - x9 / (σ10.1 88 (1 : Int32).toNatClampNeg) * (σ10.1 88 (1 : Int32).toNatClampNeg)) (fun x15 : Int32 =>
      (f_X6_lineAt x15 (0 : Int32) σ10).bind (fun q16 =>
      (f_X6_lineAt x15 (1 : Int32) q16.2).bind (fun q17 =>
      (f_X6_has a1 x15 q17.2).bind (fun q18 =>
      if q18.1 = 0 then
        (f_X6_parts_27 a1 k11 n12 (x9 + 1) q18.2)
      else
        (chk (ib q16.1 6) (
        chk (ib q17.1 6) (
        jn (fun q22 : Int32 × St =>
          (nm (sI q22.2 94 q16.1.toNatClampNeg q22.1) (fun σ24 : St =>
          nm (sI σ24 94 q17.1.toNatClampNeg q22.1) (fun σ25 : St =>
          f_X6_parts_27 a1 k11 n12 (x9 + 1) σ25)))) (fun j23 =>
          if (q18.2.1 94 q17.1.toNatClampNeg) ≤ (q18.2.1 94 q16.1.toNatClampNeg) then
            (j23 ((q18.2.1 94 q17.1.toNatClampNeg), q18.2))
          else
            (j23 ((q18.2.1 94 q16.1.toNatClampNeg), q18.2))))))))))))
def f_X6_parts (a1 : Int32) (σ : St) : Option (St) :=
f_X6_parts_2 a1 (fun (σ8 : St) =>
    f_X6_parts_27 a1 (fun (σ27 : St) =>
      some σ27) 1000 (0 : Int32) σ8) 1000 (0 : Int32) σ
abbrev mX6_parts : Me := (yX6_parts, cX6_parts, 7, none, 1, 22)
set_option maxRecDepth 100000 in
set_option maxHeartbeats 4000000 in
theorem l_X6_parts_2 {Γ : Cxt} (G : OK Γ RX6 cX6_parts 7 none 1 22) {res : St} (hR : RetOK Γ none res) (a1 : Int32) (k3 : St → Option (St)) (hk : ∀ (z : St), k3 z = some res → WW Γ 25 [some (.ref 87), some (.int a1), none, none, none, none, none] [] z) : ∀ (n4 : Nat) (x1 : Int32) (σ2 : St), f_X6_parts_2 a1 k3 n4 x1 σ2 = some res → WW Γ 2 [some (.ref 87), some (.int a1), some (.int x1), none, none, none, none] [] σ2 := by
  intro n4
  induction n4 with
  | zero =>
    intro x1 σ2 hf
    cases hf
  | succ n4 ih =>
    intro x1 σ2 hf
    unfold f_X6_parts_2 at hf
    refine s_iload_n G dX6_parts_2 rfl ?_
    refine s_aload_n G dX6_parts_3 rfl ?_
    refine s_getR G dX6_parts_4 lkF_X6_7 (by decide) rfl rfl ?_
    refine s_iconst G dX6_parts_7 (v := 0) (by decide) ?_
    refine s_iald G dX6_parts_8 (by decide) rfl (by decide) ?_
    refine s_icmp_ge (tgt := 25) G dX6_parts_9 (by decide) (fun c5 => ?_) (fun c5 => ?_)
    · replace hf := ifp c5 hf
      refine s_fgt [true, true, false, true, true, true, true] rfl ?_
      exact hk σ2 hf
    · replace hf := ifn c5 hf
      refine s_aload_n G dX6_parts_12 rfl ?_
      refine s_getR G dX6_parts_13 lkF_X6_29 (by decide) rfl rfl ?_
      refine s_iload_n G dX6_parts_16 rfl ?_
      refine s_iload_n G dX6_parts_17 rfl ?_
      have h6 := chk_1 hf
      replace hf := chk_2 hf
      refine s_iast G dX6_parts_18 (by decide) rfl h6 ?_
      refine s_st (fun σ7 eσ7 => ?_)
      replace hf := nm_at eσ7 hf
      refine s_iinc G dX6_parts_19 rfl (v := (x1 + 1)) rfl (by decide) rfl rfl ?_
      refine s_goto (tgt := 2) G dX6_parts_22 (by decide) ?_
      exact ih (x1 + 1) σ7 hf
set_option maxRecDepth 100000 in
set_option maxHeartbeats 4000000 in
theorem l_X6_parts_27 {Γ : Cxt} (G : OK Γ RX6 cX6_parts 7 none 1 22) {res : St} (hR : RetOK Γ none res) (a1 : Int32) (k11 : St → Option (St)) (hk : ∀ (z : St), k11 z = some res → WW Γ 137 [none, none, none, none, none, none, none] [] z) : ∀ (n12 : Nat) (x9 : Int32) (σ10 : St), f_X6_parts_27 a1 k11 n12 x9 σ10 = some res → WW Γ 27 [some (.ref 87), some (.int a1), some (.int x9), none, none, none, none] [] σ10 := by
  intro n12
  induction n12 with
  | zero =>
    intro x9 σ10 hf
    cases hf
  | succ n12 ih =>
    intro x9 σ10 hf
    unfold f_X6_parts_27 at hf
    refine s_iload_n G dX6_parts_27 rfl ?_
    refine s_aload_n G dX6_parts_28 rfl ?_
    refine s_getR G dX6_parts_29 lkF_X6_7 (by decide) rfl rfl ?_
    refine s_iconst G dX6_parts_32 (v := 0) (by decide) ?_
    refine s_iald G dX6_parts_33 (by decide) rfl (by decide) ?_
    refine s_aload_n G dX6_parts_34 rfl ?_
    refine s_getR G dX6_parts_35 lkF_X6_7 (by decide) rfl rfl ?_
    refine s_iconst G dX6_parts_38 (v := 1) (by decide) ?_
    refine s_iald G dX6_parts_39 (by decide) rfl (by decide) ?_
    refine s_imul G dX6_parts_40 ?_
    refine s_icmp_ge (tgt := 137) G dX6_parts_41 (by decide) (fun c13 => ?_) (fun c13 => ?_)
    · replace hf := ifp c13 hf
      refine s_fgt [false, false, false, true, true, true, true] rfl ?_
      exact hk σ10 hf
    · replace hf := ifn c13 hf
      refine s_iload_n G dX6_parts_44 rfl ?_
      refine s_aload_n G dX6_parts_45 rfl ?_
      refine s_getR G dX6_parts_46 lkF_X6_7 (by decide) rfl rfl ?_
      refine s_iconst G dX6_parts_49 (v := 1) (by decide) ?_
      refine s_iald G dX6_parts_50 (by decide) rfl (by decide) ?_
      have h14 := chk_1 hf
      replace hf := chk_2 hf
      refine s_irem G dX6_parts_51 h14 ?_
      refine s_topi (fun x15 ex15 => ?_)
      replace hf := nm_at ex15 hf
      refine s_istore_n G dX6_parts_52 rfl (by decide) rfl rfl ?_
      refine s_aload_n G dX6_parts_53 rfl ?_
      refine s_iload_n G dX6_parts_54 rfl ?_
      refine s_iconst G dX6_parts_55 (v := 0) (by decide) ?_
      obtain ⟨q16, hq16, hf⟩ := bnd hf
      refine s_callV G dX6_parts_56 (c_X6_lineAt hq16) lkM_X6_69 yk_X6_lineAt yv_X6_lineAt (by decide) rfl rfl _ [] rfl rfl rfl (Nat.le_of_ble_eq_true rfl) (by decide) ?_
      refine s_istore G dX6_parts_59 (by decide) rfl rfl ?_
      refine s_aload_n G dX6_parts_61 rfl ?_
      refine s_iload_n G dX6_parts_62 rfl ?_
      refine s_iconst G dX6_parts_63 (v := 1) (by decide) ?_
      obtain ⟨q17, hq17, hf⟩ := bnd hf
      refine s_callV G dX6_parts_64 (c_X6_lineAt hq17) lkM_X6_69 yk_X6_lineAt yv_X6_lineAt (by decide) rfl rfl _ [] rfl rfl rfl (Nat.le_of_ble_eq_true rfl) (by decide) ?_
      refine s_istore G dX6_parts_67 (by decide) rfl rfl ?_
      refine s_iload_n G dX6_parts_69 rfl ?_
      refine s_iload_n G dX6_parts_70 rfl ?_
      obtain ⟨q18, hq18, hf⟩ := bnd hf
      refine s_callS G dX6_parts_71 (c_X6_has hq18) lkM_X6_81 yk_X6_has ys_X6_has _ [] rfl rfl rfl (Nat.le_of_ble_eq_true rfl) (by decide) ?_
      refine s_if_eq (tgt := 131) G dX6_parts_74 (by decide) (fun c19 => ?_) (fun c19 => ?_)
      · replace hf := ifp c19 hf
        refine s_iinc G dX6_parts_131 rfl (v := (x9 + 1)) rfl (by decide) rfl rfl ?_
        refine s_goto (tgt := 27) G dX6_parts_134 (by decide) ?_
        refine s_fgt [true, true, true, false, false, false, true] rfl ?_
        exact ih (x9 + 1) q18.2 hf
      · replace hf := ifn c19 hf
        refine s_aload_n G dX6_parts_77 rfl ?_
        refine s_getR G dX6_parts_78 lkF_X6_29 (by decide) rfl rfl ?_
        refine s_iload G dX6_parts_81 rfl ?_
        have h20 := chk_1 hf
        replace hf := chk_2 hf
        refine s_iald G dX6_parts_83 (by decide) rfl h20 ?_
        refine s_aload_n G dX6_parts_84 rfl ?_
        refine s_getR G dX6_parts_85 lkF_X6_29 (by decide) rfl rfl ?_
        refine s_iload G dX6_parts_88 rfl ?_
        have h21 := chk_1 hf
        replace hf := chk_2 hf
        refine s_iald G dX6_parts_90 (by decide) rfl h21 ?_
        refine jn_w (fun q22 : Int32 × St => WW Γ 111 [some (.ref 87), some (.int a1), some (.int x9), none, some (.int q16.1), some (.int q17.1), none] [.int q22.1] q22.2) hf (fun q22 hf => ?_) (fun j23 hj23 hf => ?_)
        · refine s_istore G dX6_parts_111 (by decide) rfl rfl ?_
          refine s_aload_n G dX6_parts_113 rfl ?_
          refine s_getR G dX6_parts_114 lkF_X6_29 (by decide) rfl rfl ?_
          refine s_iload G dX6_parts_117 rfl ?_
          refine s_iload G dX6_parts_119 rfl ?_
          refine s_iast G dX6_parts_121 (by decide) rfl h20 ?_
          refine s_st (fun σ24 eσ24 => ?_)
          replace hf := nm_at eσ24 hf
          refine s_aload_n G dX6_parts_122 rfl ?_
          refine s_getR G dX6_parts_123 lkF_X6_29 (by decide) rfl rfl ?_
          refine s_iload G dX6_parts_126 rfl ?_
          refine s_iload G dX6_parts_128 rfl ?_
          refine s_iast G dX6_parts_130 (by decide) rfl h21 ?_
          refine s_st (fun σ25 eσ25 => ?_)
          replace hf := nm_at eσ25 hf
          refine s_iinc G dX6_parts_131 rfl (v := (x9 + 1)) rfl (by decide) rfl rfl ?_
          refine s_goto (tgt := 27) G dX6_parts_134 (by decide) ?_
          refine s_fgt [true, true, true, true, false, false, false] rfl ?_
          exact ih (x9 + 1) σ25 hf
        · refine s_icmp_ge (tgt := 104) G dX6_parts_91 (by decide) (fun c26 => ?_) (fun c26 => ?_)
          · replace hf := ifp c26 hf
            refine s_aload_n G dX6_parts_104 rfl ?_
            refine s_getR G dX6_parts_105 lkF_X6_29 (by decide) rfl rfl ?_
            refine s_iload G dX6_parts_108 rfl ?_
            refine s_iald G dX6_parts_110 (by decide) rfl h21 ?_
            refine s_fgt [true, true, true, false, true, true, true] rfl ?_
            exact hj23 _ hf
          · replace hf := ifn c26 hf
            refine s_aload_n G dX6_parts_94 rfl ?_
            refine s_getR G dX6_parts_95 lkF_X6_29 (by decide) rfl rfl ?_
            refine s_iload G dX6_parts_98 rfl ?_
            refine s_iald G dX6_parts_100 (by decide) rfl h20 ?_
            refine s_goto (tgt := 111) G dX6_parts_101 (by decide) ?_
            refine s_fgt [true, true, true, false, true, true, true] rfl ?_
            exact hj23 _ hf
set_option maxRecDepth 100000 in
set_option maxHeartbeats 4000000 in
theorem c_X6_parts {a1 : Int32} {σ : St} {res : St} (hf : f_X6_parts a1 σ = some res) : Mt mX6_parts [.ref 87, .int a1] σ none res := by
  unfold f_X6_parts at hf
  refine mt_of (by decide) (Nat.le_of_ble_eq_true rfl) [some (.ref 87), some (.int a1), none, none, none, none, none] rfl (fun Γ G hR => ?_)
  have G : OK Γ RX6 cX6_parts 7 none 1 22 := G
  refine s_iconst G dX6_parts_0 (v := 0) (by decide) ?_
  refine s_istore_n G dX6_parts_1 rfl (by decide) rfl rfl ?_
  refine l_X6_parts_2 G hR a1 _ (fun σ8 hf => ?_) 1000 (0 : Int32) σ hf
  refine s_iconst G dX6_parts_25 (v := 0) (by decide) ?_
  refine s_istore_n G dX6_parts_26 rfl (by decide) rfl rfl ?_
  refine l_X6_parts_27 G hR a1 _ (fun σ27 hf => ?_) 1000 (0 : Int32) σ8 hf
  replace hf := Option.some.inj hf
  subst hf
  exact s_vret G hR dX6_parts_137 rfl rfl
def f_X6_gathers_9 (a1 : Int32) (k5 : St → Option (St)) : Nat → Int32 → St → Option (St)
  | 0, _, _ => none
  | n6 + 1, x3, σ4 =>
    if (σ4.1 88 (0 : Int32).toNatClampNeg) ≤ x3 then
      (k5 σ4)
    else
      (chk (ib x3 6) (
      if (σ4.1 94 x3.toNatClampNeg) = a1 then
        (chk (ib (σ4.1 87 14) 6) (
        nm (sI σ4 98 (σ4.1 87 14).toNatClampNeg x3) (fun σ11 : St =>
        nm (sI σ11 87 14 ((σ11.1 87 14) + (1 : Int32))) (fun σ12 : St =>
        f_X6_gathers_9 a1 k5 n6 (x3 + 1) σ12))))
      else
        (f_X6_gathers_9 a1 k5 n6 (x3 + 1) σ4)))
def f_X6_gathers (a1 : Int32) (σ : St) : Option (St) :=
nm (sI σ 87 14 (0 : Int32)) (fun σ1 : St =>
  nm (a1 + (1 : Int32)) (fun x2 : Int32 =>
  f_X6_gathers_9 a1 (fun (σ13 : St) =>
    some σ13) 1000 x2 σ1))
abbrev mX6_gathers : Me := (yX6_gathers, cX6_gathers, 3, none, 0, 0)
set_option maxRecDepth 100000 in
set_option maxHeartbeats 4000000 in
theorem l_X6_gathers_9 {Γ : Cxt} (G : OK Γ RX6 cX6_gathers 3 none 0 0) {res : St} (hR : RetOK Γ none res) (a1 : Int32) (k5 : St → Option (St)) (hk : ∀ (z : St), k5 z = some res → WW Γ 55 [none, none, none] [] z) : ∀ (n6 : Nat) (x3 : Int32) (σ4 : St), f_X6_gathers_9 a1 k5 n6 x3 σ4 = some res → WW Γ 9 [some (.ref 87), some (.int a1), some (.int x3)] [] σ4 := by
  intro n6
  induction n6 with
  | zero =>
    intro x3 σ4 hf
    cases hf
  | succ n6 ih =>
    intro x3 σ4 hf
    unfold f_X6_gathers_9 at hf
    refine s_iload_n G dX6_gathers_9 rfl ?_
    refine s_aload_n G dX6_gathers_10 rfl ?_
    refine s_getR G dX6_gathers_11 lkF_X6_7 (by decide) rfl rfl ?_
    refine s_iconst G dX6_gathers_14 (v := 0) (by decide) ?_
    refine s_iald G dX6_gathers_15 (by decide) rfl (by decide) ?_
    refine s_icmp_ge (tgt := 55) G dX6_gathers_16 (by decide) (fun c7 => ?_) (fun c7 => ?_)
    · replace hf := ifp c7 hf
      refine s_fgt [false, false, false] rfl ?_
      exact hk σ4 hf
    · replace hf := ifn c7 hf
      refine s_aload_n G dX6_gathers_19 rfl ?_
      refine s_getR G dX6_gathers_20 lkF_X6_29 (by decide) rfl rfl ?_
      refine s_iload_n G dX6_gathers_23 rfl ?_
      have h8 := chk_1 hf
      replace hf := chk_2 hf
      refine s_iald G dX6_gathers_24 (by decide) rfl h8 ?_
      refine s_iload_n G dX6_gathers_25 rfl ?_
      refine s_icmp_ne (tgt := 49) G dX6_gathers_26 (by decide) (fun c9 => ?_) (fun c9 => ?_)
      · replace hf := ifn c9 hf
        refine s_iinc G dX6_gathers_49 rfl (v := (x3 + 1)) rfl (by decide) rfl rfl ?_
        refine s_goto (tgt := 9) G dX6_gathers_52 (by decide) ?_
        exact ih (x3 + 1) σ4 hf
      · replace hf := ifp c9 hf
        refine s_aload_n G dX6_gathers_29 rfl ?_
        refine s_getR G dX6_gathers_30 lkF_X6_41 (by decide) rfl rfl ?_
        refine s_aload_n G dX6_gathers_33 rfl ?_
        refine s_getI (n := 0) G dX6_gathers_34 lkF_X6_85 (by decide) rfl rfl ?_
        refine s_iload_n G dX6_gathers_37 rfl ?_
        have h10 := chk_1 hf
        replace hf := chk_2 hf
        refine s_iast G dX6_gathers_38 (by decide) rfl h10 ?_
        refine s_st (fun σ11 eσ11 => ?_)
        replace hf := nm_at eσ11 hf
        refine s_aload_n G dX6_gathers_39 rfl ?_
        refine s_dup G dX6_gathers_40 rfl ?_
        refine s_getI (n := 0) G dX6_gathers_41 lkF_X6_85 (by decide) rfl rfl ?_
        refine s_iconst G dX6_gathers_44 (v := 1) (by decide) ?_
        refine s_iadd G dX6_gathers_45 ?_
        refine s_putI G dX6_gathers_46 lkP_X6_85 (by decide) rfl rfl ?_
        refine s_st (fun σ12 eσ12 => ?_)
        replace hf := nm_at eσ12 hf
        refine s_iinc G dX6_gathers_49 rfl (v := (x3 + 1)) rfl (by decide) rfl rfl ?_
        refine s_goto (tgt := 9) G dX6_gathers_52 (by decide) ?_
        exact ih (x3 + 1) σ12 hf
set_option maxRecDepth 100000 in
set_option maxHeartbeats 4000000 in
theorem c_X6_gathers {a1 : Int32} {σ : St} {res : St} (hf : f_X6_gathers a1 σ = some res) : Mt mX6_gathers [.ref 87, .int a1] σ none res := by
  unfold f_X6_gathers at hf
  refine mt_of (by decide) (Nat.le_of_ble_eq_true rfl) [some (.ref 87), some (.int a1), none] rfl (fun Γ G hR => ?_)
  have G : OK Γ RX6 cX6_gathers 3 none 0 0 := G
  refine s_aload_n G dX6_gathers_0 rfl ?_
  refine s_iconst G dX6_gathers_1 (v := 0) (by decide) ?_
  refine s_putI G dX6_gathers_2 lkP_X6_85 (by decide) rfl rfl ?_
  refine s_st (fun σ1 eσ1 => ?_)
  replace hf := nm_at eσ1 hf
  refine s_iload_n G dX6_gathers_5 rfl ?_
  refine s_iconst G dX6_gathers_6 (v := 1) (by decide) ?_
  refine s_iadd G dX6_gathers_7 ?_
  refine s_topi (fun x2 ex2 => ?_)
  replace hf := nm_at ex2 hf
  refine s_istore_n G dX6_gathers_8 rfl (by decide) rfl rfl ?_
  refine l_X6_gathers_9 G hR a1 _ (fun σ13 hf => ?_) 1000 x2 σ1 hf
  replace hf := Option.some.inj hf
  subst hf
  exact s_vret G hR dX6_gathers_55 rfl rfl
def f_X6_laysSquare_28 (a1 : Int32) (a2 : Int32) (x1 : Int32) (x6 : Int32) (k14 : Int64 → St → Option (St)) : Nat → Int64 → Int32 → St → Option (St)
  | 0, _, _, _ => none
  | n15 + 1, x11, x12, σ13 =>
    if (σ13.1 88 (1 : Int32).toNatClampNeg) ≤ x12 then
      (k14 x11 σ13)
    else
      ((f_X6_lineAt x12 (0 : Int32) σ13).bind (fun q17 =>
      chk (ib x1 6) (
      jn (fun q19 : Int32 × St =>
        ((f_X6_lineAt x12 (1 : Int32) q19.2).bind (fun q21 =>
        jn (fun q22 : Int32 × St =>
          (jn (fun q24 : Int32 × St =>
            ((f_X6_has a1 x12 q24.2).bind (fun q26 =>
            jn (fun q27 : Int32 × St =>
              (jn (fun q29 : St =>
                (if q27.1 = 0 then
                  (nm (x11 + (0 : Int64)) (fun x32 : Int64 =>
                  f_X6_laysSquare_28 a1 a2 x1 x6 k14 n15 x32 (x12 + 1) q29))
                else
                  (chk (ib x6 6) (
                  if q24.1 = (q29.1 98 x6.toNatClampNeg) then
                    ((f_X6_lineAt x12 (2 : Int32) q29).bind (fun q36 =>
                    nm (x11 + (-q36.1).toInt64) (fun x37 : Int64 =>
                    f_X6_laysSquare_28 a1 a2 x1 x6 k14 n15 x37 (x12 + 1) q36.2)))
                  else
                    (nm (x11 + (0 : Int64)) (fun x35 : Int64 =>
                    f_X6_laysSquare_28 a1 a2 x1 x6 k14 n15 x35 (x12 + 1) q29)))))) (fun j30 =>
                if q27.1 = 0 then
                  (j30 q27.2)
                else
                  (if x1 = x6 then
                    ((f_X6_lineAt x12 (2 : Int32) q27.2).bind (fun q40 =>
                    nm (x11 + q40.1.toInt64) (fun x41 : Int64 =>
                    f_X6_laysSquare_28 a1 a2 x1 x6 k14 n15 x41 (x12 + 1) q40.2)))
                  else
                    (j30 q27.2))))) (fun j28 =>
              if q26.1 = 0 then
                (j28 ((0 : Int32), q26.2))
              else
                (if q19.1 = 0 then
                  (if q22.1 = 0 then
                    (j28 ((0 : Int32), q26.2))
                  else
                    (j28 ((1 : Int32), q26.2)))
                else
                  (j28 ((1 : Int32), q26.2))))))) (fun j25 =>
            if q19.1 = 0 then
              ((f_X6_lineAt x12 (0 : Int32) q22.2).bind (fun q46 =>
              j25 (q46.1, q46.2)))
            else
              ((f_X6_lineAt x12 (1 : Int32) q22.2).bind (fun q47 =>
              j25 (q47.1, q47.2)))))) (fun j23 =>
          if q21.1 = (q21.2.1 98 x1.toNatClampNeg) then
            (j23 ((1 : Int32), q21.2))
          else
            (j23 ((0 : Int32), q21.2)))))) (fun j20 =>
        if q17.1 = (q17.2.1 98 x1.toNatClampNeg) then
          (j20 ((1 : Int32), q17.2))
        else
          (j20 ((0 : Int32), q17.2))))))
def f_X6_laysSquare_13 (a1 : Int32) (a2 : Int32) (x1 : Int32) (k8 : St → Option (St)) : Nat → Int32 → St → Option (St)
  | 0, _, _ => none
  | n9 + 1, x6, σ7 =>
    if (σ7.1 87 14) ≤ x6 then
      (k8 σ7)
    else
      (f_X6_laysSquare_28 a1 a2 x1 x6 (fun (x50 : Int64) (σ51 : St) =>
        if x6 = a2 then
          (chk (ib x1 6) (
          chk (ib (σ51.1 98 x1.toNatClampNeg) 6) (
          chk (ib (((6 : Int32) * x1) + x6) 36) (
          nm (sL σ51 97 (((6 : Int32) * x1) + x6).toNatClampNeg (σ51.2 93 (σ51.1 98 x1.toNatClampNeg).toNatClampNeg)) (fun σ58 : St =>
          f_X6_laysSquare_13 a1 a2 x1 k8 n9 (x6 + 1) σ58)))))
        else
          (chk (ib (((6 : Int32) * x1) + x6) 36) (
          nm (sL σ51 97 (((6 : Int32) * x1) + x6).toNatClampNeg x50) (fun σ54 : St =>
          f_X6_laysSquare_13 a1 a2 x1 k8 n9 (x6 + 1) σ54)))) 1000 (0 : Int64) (0 : Int32) σ7)
def f_X6_laysSquare_2 (a1 : Int32) (a2 : Int32) (k3 : St → Option (St)) : Nat → Int32 → St → Option (St)
  | 0, _, _ => none
  | n4 + 1, x1, σ2 =>
    if (σ2.1 87 14) ≤ x1 then
      (k3 σ2)
    else
      (f_X6_laysSquare_13 a1 a2 x1 (fun (σ59 : St) =>
        f_X6_laysSquare_2 a1 a2 k3 n4 (x1 + 1) σ59) 1000 (0 : Int32) σ2)
def f_X6_laysSquare (a1 : Int32) (a2 : Int32) (σ : St) : Option (St) :=
f_X6_laysSquare_2 a1 a2 (fun (σ60 : St) =>
    some σ60) 1000 (0 : Int32) σ
abbrev mX6_laysSquare : Me := (yX6_laysSquare, cX6_laysSquare, 12, none, 1, 22)
set_option maxRecDepth 100000 in
set_option maxHeartbeats 4000000 in
theorem l_X6_laysSquare_28 {Γ : Cxt} (G : OK Γ RX6 cX6_laysSquare 12 none 1 22) {res : St} (hR : RetOK Γ none res) (a1 : Int32) (a2 : Int32) (x1 : Int32) (x6 : Int32) (k14 : Int64 → St → Option (St)) (hk : ∀ (y5 : Int64) (z : St), k14 y5 z = some res → WW Γ 198 [some (.ref 87), some (.int a1), some (.int a2), some (.int x1), some (.int x6), some (.long y5), none, none, none, none, none, none] [] z) : ∀ (n15 : Nat) (x11 : Int64) (x12 : Int32) (σ13 : St), f_X6_laysSquare_28 a1 a2 x1 x6 k14 n15 x11 x12 σ13 = some res → WW Γ 28 [some (.ref 87), some (.int a1), some (.int a2), some (.int x1), some (.int x6), some (.long x11), none, some (.int x12), none, none, none, none] [] σ13 := by
  intro n15
  induction n15 with
  | zero =>
    intro x11 x12 σ13 hf
    cases hf
  | succ n15 ih =>
    intro x11 x12 σ13 hf
    unfold f_X6_laysSquare_28 at hf
    refine s_iload G dX6_laysSquare_28 rfl ?_
    refine s_aload_n G dX6_laysSquare_30 rfl ?_
    refine s_getR G dX6_laysSquare_31 lkF_X6_7 (by decide) rfl rfl ?_
    refine s_iconst G dX6_laysSquare_34 (v := 1) (by decide) ?_
    refine s_iald G dX6_laysSquare_35 (by decide) rfl (by decide) ?_
    refine s_icmp_ge (tgt := 198) G dX6_laysSquare_36 (by decide) (fun c16 => ?_) (fun c16 => ?_)
    · replace hf := ifp c16 hf
      refine s_fgt [true, true, true, true, true, true, true, false, true, true, true, true] rfl ?_
      exact hk x11 σ13 hf
    · replace hf := ifn c16 hf
      refine s_aload_n G dX6_laysSquare_39 rfl ?_
      refine s_iload G dX6_laysSquare_40 rfl ?_
      refine s_iconst G dX6_laysSquare_42 (v := 0) (by decide) ?_
      obtain ⟨q17, hq17, hf⟩ := bnd hf
      refine s_callV G dX6_laysSquare_43 (c_X6_lineAt hq17) lkM_X6_69 yk_X6_lineAt yv_X6_lineAt (by decide) rfl rfl _ [] rfl rfl rfl (Nat.le_of_ble_eq_true rfl) (by decide) ?_
      refine s_aload_n G dX6_laysSquare_46 rfl ?_
      refine s_getR G dX6_laysSquare_47 lkF_X6_41 (by decide) rfl rfl ?_
      refine s_iload_n G dX6_laysSquare_50 rfl ?_
      have h18 := chk_1 hf
      replace hf := chk_2 hf
      refine s_iald G dX6_laysSquare_51 (by decide) rfl h18 ?_
      refine jn_w (fun q19 : Int32 × St => WW Γ 60 [some (.ref 87), some (.int a1), some (.int a2), some (.int x1), some (.int x6), some (.long x11), none, some (.int x12), none, none, none, none] [.int q19.1] q19.2) hf (fun q19 hf => ?_) (fun j20 hj20 hf => ?_)
      · refine s_istore G dX6_laysSquare_60 (by decide) rfl rfl ?_
        refine s_aload_n G dX6_laysSquare_62 rfl ?_
        refine s_iload G dX6_laysSquare_63 rfl ?_
        refine s_iconst G dX6_laysSquare_65 (v := 1) (by decide) ?_
        obtain ⟨q21, hq21, hf⟩ := bnd hf
        refine s_callV G dX6_laysSquare_66 (c_X6_lineAt hq21) lkM_X6_69 yk_X6_lineAt yv_X6_lineAt (by decide) rfl rfl _ [] rfl rfl rfl (Nat.le_of_ble_eq_true rfl) (by decide) ?_
        refine s_aload_n G dX6_laysSquare_69 rfl ?_
        refine s_getR G dX6_laysSquare_70 lkF_X6_41 (by decide) rfl rfl ?_
        refine s_iload_n G dX6_laysSquare_73 rfl ?_
        refine s_iald G dX6_laysSquare_74 (by decide) rfl h18 ?_
        refine jn_w (fun q22 : Int32 × St => WW Γ 83 [some (.ref 87), some (.int a1), some (.int a2), some (.int x1), some (.int x6), some (.long x11), none, some (.int x12), some (.int q19.1), none, none, none] [.int q22.1] q22.2) hf (fun q22 hf => ?_) (fun j23 hj23 hf => ?_)
        · refine s_istore G dX6_laysSquare_83 (by decide) rfl rfl ?_
          refine s_iload G dX6_laysSquare_85 rfl ?_
          refine jn_w (fun q24 : Int32 × St => WW Γ 107 [some (.ref 87), some (.int a1), some (.int a2), some (.int x1), some (.int x6), some (.long x11), none, some (.int x12), some (.int q19.1), some (.int q22.1), none, none] [.int q24.1] q24.2) hf (fun q24 hf => ?_) (fun j25 hj25 hf => ?_)
          · refine s_istore G dX6_laysSquare_107 (by decide) rfl rfl ?_
            refine s_iload_n G dX6_laysSquare_109 rfl ?_
            refine s_iload G dX6_laysSquare_110 rfl ?_
            obtain ⟨q26, hq26, hf⟩ := bnd hf
            refine s_callS G dX6_laysSquare_112 (c_X6_has hq26) lkM_X6_81 yk_X6_has ys_X6_has _ [] rfl rfl rfl (Nat.le_of_ble_eq_true rfl) (by decide) ?_
            refine jn_w (fun q27 : Int32 × St => WW Γ 133 [some (.ref 87), some (.int a1), some (.int a2), some (.int x1), some (.int x6), some (.long x11), none, some (.int x12), none, none, some (.int q24.1), none] [.int q27.1] q27.2) hf (fun q27 hf => ?_) (fun j28 hj28 hf => ?_)
            · refine s_istore G dX6_laysSquare_133 (by decide) rfl rfl ?_
              refine s_lload G dX6_laysSquare_135 rfl ?_
              refine s_iload G dX6_laysSquare_137 rfl ?_
              refine jn_w (fun q29 : St => WW Γ 159 [some (.ref 87), some (.int a1), some (.int a2), some (.int x1), some (.int x6), none, none, some (.int x12), none, none, some (.int q24.1), some (.int q27.1)] [.long x11] q29) hf (fun q29 hf => ?_) (fun j30 hj30 hf => ?_)
              · refine s_iload G dX6_laysSquare_159 rfl ?_
                refine s_if_eq (tgt := 188) G dX6_laysSquare_161 (by decide) (fun c31 => ?_) (fun c31 => ?_)
                · replace hf := ifp c31 hf
                  refine s_lconst G dX6_laysSquare_188 (v := 0) (by decide) ?_
                  refine s_ladd G dX6_laysSquare_189 ?_
                  refine s_topl (fun x32 ex32 => ?_)
                  replace hf := nm_at ex32 hf
                  refine s_lstore G dX6_laysSquare_190 (by decide) rfl rfl ?_
                  refine s_iinc G dX6_laysSquare_192 rfl (v := (x12 + 1)) rfl (by decide) rfl rfl ?_
                  refine s_goto (tgt := 28) G dX6_laysSquare_195 (by decide) ?_
                  refine s_fgt [true, true, true, true, true, true, true, true, true, true, false, false] rfl ?_
                  exact ih x32 (x12 + 1) q29 hf
                · replace hf := ifn c31 hf
                  refine s_iload G dX6_laysSquare_164 rfl ?_
                  refine s_aload_n G dX6_laysSquare_166 rfl ?_
                  refine s_getR G dX6_laysSquare_167 lkF_X6_41 (by decide) rfl rfl ?_
                  refine s_iload G dX6_laysSquare_170 rfl ?_
                  have h33 := chk_1 hf
                  replace hf := chk_2 hf
                  refine s_iald G dX6_laysSquare_172 (by decide) rfl h33 ?_
                  refine s_icmp_ne (tgt := 188) G dX6_laysSquare_173 (by decide) (fun c34 => ?_) (fun c34 => ?_)
                  · replace hf := ifn c34 hf
                    refine s_lconst G dX6_laysSquare_188 (v := 0) (by decide) ?_
                    refine s_ladd G dX6_laysSquare_189 ?_
                    refine s_topl (fun x35 ex35 => ?_)
                    replace hf := nm_at ex35 hf
                    refine s_lstore G dX6_laysSquare_190 (by decide) rfl rfl ?_
                    refine s_iinc G dX6_laysSquare_192 rfl (v := (x12 + 1)) rfl (by decide) rfl rfl ?_
                    refine s_goto (tgt := 28) G dX6_laysSquare_195 (by decide) ?_
                    refine s_fgt [true, true, true, true, true, true, true, true, true, true, false, false] rfl ?_
                    exact ih x35 (x12 + 1) q29 hf
                  · replace hf := ifp c34 hf
                    refine s_aload_n G dX6_laysSquare_176 rfl ?_
                    refine s_iload G dX6_laysSquare_177 rfl ?_
                    refine s_iconst G dX6_laysSquare_179 (v := 2) (by decide) ?_
                    obtain ⟨q36, hq36, hf⟩ := bnd hf
                    refine s_callV G dX6_laysSquare_180 (c_X6_lineAt hq36) lkM_X6_69 yk_X6_lineAt yv_X6_lineAt (by decide) rfl rfl _ [.long x11] rfl rfl rfl (Nat.le_of_ble_eq_true rfl) (by decide) ?_
                    refine s_ineg G dX6_laysSquare_183 ?_
                    refine s_i2l G dX6_laysSquare_184 ?_
                    refine s_goto (tgt := 189) G dX6_laysSquare_185 (by decide) ?_
                    refine s_ladd G dX6_laysSquare_189 ?_
                    refine s_topl (fun x37 ex37 => ?_)
                    replace hf := nm_at ex37 hf
                    refine s_lstore G dX6_laysSquare_190 (by decide) rfl rfl ?_
                    refine s_iinc G dX6_laysSquare_192 rfl (v := (x12 + 1)) rfl (by decide) rfl rfl ?_
                    refine s_goto (tgt := 28) G dX6_laysSquare_195 (by decide) ?_
                    refine s_fgt [true, true, true, true, true, true, true, true, true, true, false, false] rfl ?_
                    exact ih x37 (x12 + 1) q36.2 hf
              · refine s_if_eq (tgt := 159) G dX6_laysSquare_139 (by decide) (fun c38 => ?_) (fun c38 => ?_)
                · replace hf := ifp c38 hf
                  refine s_fgt [true, true, true, true, true, false, true, true, true, true, true, true] rfl ?_
                  exact hj30 _ hf
                · replace hf := ifn c38 hf
                  refine s_iload_n G dX6_laysSquare_142 rfl ?_
                  refine s_iload G dX6_laysSquare_143 rfl ?_
                  refine s_icmp_ne (tgt := 159) G dX6_laysSquare_145 (by decide) (fun c39 => ?_) (fun c39 => ?_)
                  · replace hf := ifn c39 hf
                    refine s_fgt [true, true, true, true, true, false, true, true, true, true, true, true] rfl ?_
                    exact hj30 _ hf
                  · replace hf := ifp c39 hf
                    refine s_aload_n G dX6_laysSquare_148 rfl ?_
                    refine s_iload G dX6_laysSquare_149 rfl ?_
                    refine s_iconst G dX6_laysSquare_151 (v := 2) (by decide) ?_
                    obtain ⟨q40, hq40, hf⟩ := bnd hf
                    refine s_callV G dX6_laysSquare_152 (c_X6_lineAt hq40) lkM_X6_69 yk_X6_lineAt yv_X6_lineAt (by decide) rfl rfl _ [.long x11] rfl rfl rfl (Nat.le_of_ble_eq_true rfl) (by decide) ?_
                    refine s_i2l G dX6_laysSquare_155 ?_
                    refine s_goto (tgt := 189) G dX6_laysSquare_156 (by decide) ?_
                    refine s_ladd G dX6_laysSquare_189 ?_
                    refine s_topl (fun x41 ex41 => ?_)
                    replace hf := nm_at ex41 hf
                    refine s_lstore G dX6_laysSquare_190 (by decide) rfl rfl ?_
                    refine s_iinc G dX6_laysSquare_192 rfl (v := (x12 + 1)) rfl (by decide) rfl rfl ?_
                    refine s_goto (tgt := 28) G dX6_laysSquare_195 (by decide) ?_
                    refine s_fgt [true, true, true, true, true, true, true, true, true, true, false, false] rfl ?_
                    exact ih x41 (x12 + 1) q40.2 hf
            · refine s_if_eq (tgt := 132) G dX6_laysSquare_115 (by decide) (fun c42 => ?_) (fun c42 => ?_)
              · replace hf := ifp c42 hf
                refine s_iconst G dX6_laysSquare_132 (v := 0) (by decide) ?_
                refine s_fgt [true, true, true, true, true, true, true, true, false, false, true, true] rfl ?_
                exact hj28 _ hf
              · replace hf := ifn c42 hf
                refine s_iload G dX6_laysSquare_118 rfl ?_
                refine s_if_ne (tgt := 128) G dX6_laysSquare_120 (by decide) (fun c43 => ?_) (fun c43 => ?_)
                · replace hf := ifn c43 hf
                  refine s_iconst G dX6_laysSquare_128 (v := 1) (by decide) ?_
                  refine s_goto (tgt := 133) G dX6_laysSquare_129 (by decide) ?_
                  refine s_fgt [true, true, true, true, true, true, true, true, false, false, true, true] rfl ?_
                  exact hj28 _ hf
                · replace hf := ifp c43 hf
                  refine s_iload G dX6_laysSquare_123 rfl ?_
                  refine s_if_eq (tgt := 132) G dX6_laysSquare_125 (by decide) (fun c44 => ?_) (fun c44 => ?_)
                  · replace hf := ifp c44 hf
                    refine s_iconst G dX6_laysSquare_132 (v := 0) (by decide) ?_
                    refine s_fgt [true, true, true, true, true, true, true, true, false, false, true, true] rfl ?_
                    exact hj28 _ hf
                  · replace hf := ifn c44 hf
                    refine s_iconst G dX6_laysSquare_128 (v := 1) (by decide) ?_
                    refine s_goto (tgt := 133) G dX6_laysSquare_129 (by decide) ?_
                    refine s_fgt [true, true, true, true, true, true, true, true, false, false, true, true] rfl ?_
                    exact hj28 _ hf
          · refine s_if_eq (tgt := 100) G dX6_laysSquare_87 (by decide) (fun c45 => ?_) (fun c45 => ?_)
            · replace hf := ifp c45 hf
              refine s_aload_n G dX6_laysSquare_100 rfl ?_
              refine s_iload G dX6_laysSquare_101 rfl ?_
              refine s_iconst G dX6_laysSquare_103 (v := 0) (by decide) ?_
              obtain ⟨q46, hq46, hf⟩ := bnd hf
              refine s_callV G dX6_laysSquare_104 (c_X6_lineAt hq46) lkM_X6_69 yk_X6_lineAt yv_X6_lineAt (by decide) rfl rfl _ [] rfl rfl rfl (Nat.le_of_ble_eq_true rfl) (by decide) ?_
              exact hj25 _ hf
            · replace hf := ifn c45 hf
              refine s_aload_n G dX6_laysSquare_90 rfl ?_
              refine s_iload G dX6_laysSquare_91 rfl ?_
              refine s_iconst G dX6_laysSquare_93 (v := 1) (by decide) ?_
              obtain ⟨q47, hq47, hf⟩ := bnd hf
              refine s_callV G dX6_laysSquare_94 (c_X6_lineAt hq47) lkM_X6_69 yk_X6_lineAt yv_X6_lineAt (by decide) rfl rfl _ [] rfl rfl rfl (Nat.le_of_ble_eq_true rfl) (by decide) ?_
              refine s_goto (tgt := 107) G dX6_laysSquare_97 (by decide) ?_
              exact hj25 _ hf
        · refine s_icmp_ne (tgt := 82) G dX6_laysSquare_75 (by decide) (fun c48 => ?_) (fun c48 => ?_)
          · replace hf := ifn c48 hf
            refine s_iconst G dX6_laysSquare_82 (v := 0) (by decide) ?_
            exact hj23 _ hf
          · replace hf := ifp c48 hf
            refine s_iconst G dX6_laysSquare_78 (v := 1) (by decide) ?_
            refine s_goto (tgt := 83) G dX6_laysSquare_79 (by decide) ?_
            exact hj23 _ hf
      · refine s_icmp_ne (tgt := 59) G dX6_laysSquare_52 (by decide) (fun c49 => ?_) (fun c49 => ?_)
        · replace hf := ifn c49 hf
          refine s_iconst G dX6_laysSquare_59 (v := 0) (by decide) ?_
          exact hj20 _ hf
        · replace hf := ifp c49 hf
          refine s_iconst G dX6_laysSquare_55 (v := 1) (by decide) ?_
          refine s_goto (tgt := 60) G dX6_laysSquare_56 (by decide) ?_
          exact hj20 _ hf
set_option maxRecDepth 100000 in
set_option maxHeartbeats 4000000 in
theorem l_X6_laysSquare_13 {Γ : Cxt} (G : OK Γ RX6 cX6_laysSquare 12 none 1 22) {res : St} (hR : RetOK Γ none res) (a1 : Int32) (a2 : Int32) (x1 : Int32) (k8 : St → Option (St)) (hk : ∀ (z : St), k8 z = some res → WW Γ 238 [some (.ref 87), some (.int a1), some (.int a2), some (.int x1), none, none, none, none, none, none, none, none] [] z) : ∀ (n9 : Nat) (x6 : Int32) (σ7 : St), f_X6_laysSquare_13 a1 a2 x1 k8 n9 x6 σ7 = some res → WW Γ 13 [some (.ref 87), some (.int a1), some (.int a2), some (.int x1), some (.int x6), none, none, none, none, none, none, none] [] σ7 := by
  intro n9
  induction n9 with
  | zero =>
    intro x6 σ7 hf
    cases hf
  | succ n9 ih =>
    intro x6 σ7 hf
    unfold f_X6_laysSquare_13 at hf
    refine s_iload G dX6_laysSquare_13 rfl ?_
    refine s_aload_n G dX6_laysSquare_15 rfl ?_
    refine s_getI (n := 0) G dX6_laysSquare_16 lkF_X6_85 (by decide) rfl rfl ?_
    refine s_icmp_ge (tgt := 238) G dX6_laysSquare_19 (by decide) (fun c10 => ?_) (fun c10 => ?_)
    · replace hf := ifp c10 hf
      refine s_fgt [true, true, true, true, false, true, true, true, true, true, true, true] rfl ?_
      exact hk σ7 hf
    · replace hf := ifn c10 hf
      refine s_lconst G dX6_laysSquare_22 (v := 0) (by decide) ?_
      refine s_lstore G dX6_laysSquare_23 (by decide) rfl rfl ?_
      refine s_iconst G dX6_laysSquare_25 (v := 0) (by decide) ?_
      refine s_istore G dX6_laysSquare_26 (by decide) rfl rfl ?_
      refine l_X6_laysSquare_28 G hR a1 a2 x1 x6 _ (fun x50 σ51 hf => ?_) 1000 (0 : Int64) (0 : Int32) σ7 hf
      refine s_aload_n G dX6_laysSquare_198 rfl ?_
      refine s_getR G dX6_laysSquare_199 lkF_X6_38 (by decide) rfl rfl ?_
      refine s_bipush G dX6_laysSquare_202 (v := 6) (by decide) ?_
      refine s_iload_n G dX6_laysSquare_204 rfl ?_
      refine s_imul G dX6_laysSquare_205 ?_
      refine s_iload G dX6_laysSquare_206 rfl ?_
      refine s_iadd G dX6_laysSquare_208 ?_
      refine s_iload G dX6_laysSquare_209 rfl ?_
      refine s_iload_n G dX6_laysSquare_211 rfl ?_
      refine s_icmp_ne (tgt := 229) G dX6_laysSquare_212 (by decide) (fun c52 => ?_) (fun c52 => ?_)
      · replace hf := ifn c52 hf
        refine s_lload G dX6_laysSquare_229 rfl ?_
        have h53 := chk_1 hf
        replace hf := chk_2 hf
        refine s_last G dX6_laysSquare_231 (by decide) rfl h53 ?_
        refine s_st (fun σ54 eσ54 => ?_)
        replace hf := nm_at eσ54 hf
        refine s_iinc G dX6_laysSquare_232 rfl (v := (x6 + 1)) rfl (by decide) rfl rfl ?_
        refine s_goto (tgt := 13) G dX6_laysSquare_235 (by decide) ?_
        refine s_fgt [true, true, true, true, true, false, true, true, true, true, true, true] rfl ?_
        exact ih (x6 + 1) σ54 hf
      · replace hf := ifp c52 hf
        refine s_aload_n G dX6_laysSquare_215 rfl ?_
        refine s_getR G dX6_laysSquare_216 lkF_X6_25 (by decide) rfl rfl ?_
        refine s_aload_n G dX6_laysSquare_219 rfl ?_
        refine s_getR G dX6_laysSquare_220 lkF_X6_41 (by decide) rfl rfl ?_
        refine s_iload_n G dX6_laysSquare_223 rfl ?_
        have h55 := chk_1 hf
        replace hf := chk_2 hf
        refine s_iald G dX6_laysSquare_224 (by decide) rfl h55 ?_
        have h56 := chk_1 hf
        replace hf := chk_2 hf
        refine s_lald G dX6_laysSquare_225 (by decide) rfl h56 ?_
        refine s_goto (tgt := 231) G dX6_laysSquare_226 (by decide) ?_
        have h57 := chk_1 hf
        replace hf := chk_2 hf
        refine s_last G dX6_laysSquare_231 (by decide) rfl h57 ?_
        refine s_st (fun σ58 eσ58 => ?_)
        replace hf := nm_at eσ58 hf
        refine s_iinc G dX6_laysSquare_232 rfl (v := (x6 + 1)) rfl (by decide) rfl rfl ?_
        refine s_goto (tgt := 13) G dX6_laysSquare_235 (by decide) ?_
        refine s_fgt [true, true, true, true, true, false, true, true, true, true, true, true] rfl ?_
        exact ih (x6 + 1) σ58 hf
set_option maxRecDepth 100000 in
set_option maxHeartbeats 4000000 in
theorem l_X6_laysSquare_2 {Γ : Cxt} (G : OK Γ RX6 cX6_laysSquare 12 none 1 22) {res : St} (hR : RetOK Γ none res) (a1 : Int32) (a2 : Int32) (k3 : St → Option (St)) (hk : ∀ (z : St), k3 z = some res → WW Γ 244 [none, none, none, none, none, none, none, none, none, none, none, none] [] z) : ∀ (n4 : Nat) (x1 : Int32) (σ2 : St), f_X6_laysSquare_2 a1 a2 k3 n4 x1 σ2 = some res → WW Γ 2 [some (.ref 87), some (.int a1), some (.int a2), some (.int x1), none, none, none, none, none, none, none, none] [] σ2 := by
  intro n4
  induction n4 with
  | zero =>
    intro x1 σ2 hf
    cases hf
  | succ n4 ih =>
    intro x1 σ2 hf
    unfold f_X6_laysSquare_2 at hf
    refine s_iload_n G dX6_laysSquare_2 rfl ?_
    refine s_aload_n G dX6_laysSquare_3 rfl ?_
    refine s_getI (n := 0) G dX6_laysSquare_4 lkF_X6_85 (by decide) rfl rfl ?_
    refine s_icmp_ge (tgt := 244) G dX6_laysSquare_7 (by decide) (fun c5 => ?_) (fun c5 => ?_)
    · replace hf := ifp c5 hf
      refine s_fgt [false, false, false, false, true, true, true, true, true, true, true, true] rfl ?_
      exact hk σ2 hf
    · replace hf := ifn c5 hf
      refine s_iconst G dX6_laysSquare_10 (v := 0) (by decide) ?_
      refine s_istore G dX6_laysSquare_11 (by decide) rfl rfl ?_
      refine l_X6_laysSquare_13 G hR a1 a2 x1 _ (fun σ59 hf => ?_) 1000 (0 : Int32) σ2 hf
      refine s_iinc G dX6_laysSquare_238 rfl (v := (x1 + 1)) rfl (by decide) rfl rfl ?_
      refine s_goto (tgt := 2) G dX6_laysSquare_241 (by decide) ?_
      exact ih (x1 + 1) σ59 hf
set_option maxRecDepth 100000 in
set_option maxHeartbeats 4000000 in
theorem c_X6_laysSquare {a1 : Int32} {a2 : Int32} {σ : St} {res : St} (hf : f_X6_laysSquare a1 a2 σ = some res) : Mt mX6_laysSquare [.ref 87, .int a1, .int a2] σ none res := by
  unfold f_X6_laysSquare at hf
  refine mt_of (by decide) (Nat.le_of_ble_eq_true rfl) [some (.ref 87), some (.int a1), some (.int a2), none, none, none, none, none, none, none, none, none] rfl (fun Γ G hR => ?_)
  have G : OK Γ RX6 cX6_laysSquare 12 none 1 22 := G
  refine s_iconst G dX6_laysSquare_0 (v := 0) (by decide) ?_
  refine s_istore_n G dX6_laysSquare_1 rfl (by decide) rfl rfl ?_
  refine l_X6_laysSquare_2 G hR a1 a2 _ (fun σ60 hf => ?_) 1000 (0 : Int32) σ hf
  replace hf := Option.some.inj hf
  subst hf
  exact s_vret G hR dX6_laysSquare_244 rfl rfl
def f_X6_swapsRows_2 (a1 : Int32) (a2 : Int32) (k3 : St → Option (St)) : Nat → Int32 → St → Option (St)
  | 0, _, _ => none
  | n4 + 1, x1, σ2 =>
    if (σ2.1 87 14) ≤ x1 then
      (k3 σ2)
    else
      (chk (ib (((6 : Int32) * a1) + x1) 36) (
      nm (σ2.2 97 (((6 : Int32) * a1) + x1).toNatClampNeg) (fun x7 : Int64 =>
      chk (ib (((6 : Int32) * a2) + x1) 36) (
      nm (sL σ2 97 (((6 : Int32) * a1) + x1).toNatClampNeg (σ2.2 97 (((6 : Int32) * a2) + x1).toNatClampNeg)) (fun σ9 : St =>
      nm (sL σ9 97 (((6 : Int32) * a2) + x1).toNatClampNeg x7) (fun σ10 : St =>
      f_X6_swapsRows_2 a1 a2 k3 n4 (x1 + 1) σ10))))))
def f_X6_swapsRows (a1 : Int32) (a2 : Int32) (σ : St) : Option (St) :=
f_X6_swapsRows_2 a1 a2 (fun (σ11 : St) =>
    some σ11) 1000 (0 : Int32) σ
abbrev mX6_swapsRows : Me := (yX6_swapsRows, cX6_swapsRows, 6, none, 0, 0)
set_option maxRecDepth 100000 in
set_option maxHeartbeats 4000000 in
theorem l_X6_swapsRows_2 {Γ : Cxt} (G : OK Γ RX6 cX6_swapsRows 6 none 0 0) {res : St} (hR : RetOK Γ none res) (a1 : Int32) (a2 : Int32) (k3 : St → Option (St)) (hk : ∀ (z : St), k3 z = some res → WW Γ 64 [none, none, none, none, none, none] [] z) : ∀ (n4 : Nat) (x1 : Int32) (σ2 : St), f_X6_swapsRows_2 a1 a2 k3 n4 x1 σ2 = some res → WW Γ 2 [some (.ref 87), some (.int a1), some (.int a2), some (.int x1), none, none] [] σ2 := by
  intro n4
  induction n4 with
  | zero =>
    intro x1 σ2 hf
    cases hf
  | succ n4 ih =>
    intro x1 σ2 hf
    unfold f_X6_swapsRows_2 at hf
    refine s_iload_n G dX6_swapsRows_2 rfl ?_
    refine s_aload_n G dX6_swapsRows_3 rfl ?_
    refine s_getI (n := 0) G dX6_swapsRows_4 lkF_X6_85 (by decide) rfl rfl ?_
    refine s_icmp_ge (tgt := 64) G dX6_swapsRows_7 (by decide) (fun c5 => ?_) (fun c5 => ?_)
    · replace hf := ifp c5 hf
      refine s_fgt [false, false, false, false, true, true] rfl ?_
      exact hk σ2 hf
    · replace hf := ifn c5 hf
      refine s_aload_n G dX6_swapsRows_10 rfl ?_
      refine s_getR G dX6_swapsRows_11 lkF_X6_38 (by decide) rfl rfl ?_
      refine s_bipush G dX6_swapsRows_14 (v := 6) (by decide) ?_
      refine s_iload_n G dX6_swapsRows_16 rfl ?_
      refine s_imul G dX6_swapsRows_17 ?_
      refine s_iload_n G dX6_swapsRows_18 rfl ?_
      refine s_iadd G dX6_swapsRows_19 ?_
      have h6 := chk_1 hf
      replace hf := chk_2 hf
      refine s_lald G dX6_swapsRows_20 (by decide) rfl h6 ?_
      refine s_topl (fun x7 ex7 => ?_)
      replace hf := nm_at ex7 hf
      refine s_lstore G dX6_swapsRows_21 (by decide) rfl rfl ?_
      refine s_aload_n G dX6_swapsRows_23 rfl ?_
      refine s_getR G dX6_swapsRows_24 lkF_X6_38 (by decide) rfl rfl ?_
      refine s_bipush G dX6_swapsRows_27 (v := 6) (by decide) ?_
      refine s_iload_n G dX6_swapsRows_29 rfl ?_
      refine s_imul G dX6_swapsRows_30 ?_
      refine s_iload_n G dX6_swapsRows_31 rfl ?_
      refine s_iadd G dX6_swapsRows_32 ?_
      refine s_aload_n G dX6_swapsRows_33 rfl ?_
      refine s_getR G dX6_swapsRows_34 lkF_X6_38 (by decide) rfl rfl ?_
      refine s_bipush G dX6_swapsRows_37 (v := 6) (by decide) ?_
      refine s_iload_n G dX6_swapsRows_39 rfl ?_
      refine s_imul G dX6_swapsRows_40 ?_
      refine s_iload_n G dX6_swapsRows_41 rfl ?_
      refine s_iadd G dX6_swapsRows_42 ?_
      have h8 := chk_1 hf
      replace hf := chk_2 hf
      refine s_lald G dX6_swapsRows_43 (by decide) rfl h8 ?_
      refine s_last G dX6_swapsRows_44 (by decide) rfl h6 ?_
      refine s_st (fun σ9 eσ9 => ?_)
      replace hf := nm_at eσ9 hf
      refine s_aload_n G dX6_swapsRows_45 rfl ?_
      refine s_getR G dX6_swapsRows_46 lkF_X6_38 (by decide) rfl rfl ?_
      refine s_bipush G dX6_swapsRows_49 (v := 6) (by decide) ?_
      refine s_iload_n G dX6_swapsRows_51 rfl ?_
      refine s_imul G dX6_swapsRows_52 ?_
      refine s_iload_n G dX6_swapsRows_53 rfl ?_
      refine s_iadd G dX6_swapsRows_54 ?_
      refine s_lload G dX6_swapsRows_55 rfl ?_
      refine s_last G dX6_swapsRows_57 (by decide) rfl h8 ?_
      refine s_st (fun σ10 eσ10 => ?_)
      replace hf := nm_at eσ10 hf
      refine s_iinc G dX6_swapsRows_58 rfl (v := (x1 + 1)) rfl (by decide) rfl rfl ?_
      refine s_goto (tgt := 2) G dX6_swapsRows_61 (by decide) ?_
      refine s_fgt [true, true, true, true, false, true] rfl ?_
      exact ih (x1 + 1) σ10 hf
set_option maxRecDepth 100000 in
set_option maxHeartbeats 4000000 in
theorem c_X6_swapsRows {a1 : Int32} {a2 : Int32} {σ : St} {res : St} (hf : f_X6_swapsRows a1 a2 σ = some res) : Mt mX6_swapsRows [.ref 87, .int a1, .int a2] σ none res := by
  unfold f_X6_swapsRows at hf
  refine mt_of (by decide) (Nat.le_of_ble_eq_true rfl) [some (.ref 87), some (.int a1), some (.int a2), none, none, none] rfl (fun Γ G hR => ?_)
  have G : OK Γ RX6 cX6_swapsRows 6 none 0 0 := G
  refine s_iconst G dX6_swapsRows_0 (v := 0) (by decide) ?_
  refine s_istore_n G dX6_swapsRows_1 rfl (by decide) rfl rfl ?_
  refine l_X6_swapsRows_2 G hR a1 a2 _ (fun σ11 hf => ?_) 1000 (0 : Int32) σ hf
  replace hf := Option.some.inj hf
  subst hf
  exact s_vret G hR dX6_swapsRows_64 rfl rfl
def f_X6_determinant_20 (x1 : Int64) (x2 : Int64) (x3 : Int32) (k10 : Int32 → St → Option (Int64 × St)) : Nat → Int32 → St → Option (Int64 × St)
  | 0, _, _ => none
  | n11 + 1, x8, σ9 =>
    if (σ9.1 87 14) ≤ x8 then
      (k10 x8 σ9)
    else
      (chk (ib (((6 : Int32) * x8) + x3) 36) (
      if (σ9.2 97 (((6 : Int32) * x8) + x3).toNatClampNeg) = (0 : Int64) then
        (f_X6_determinant_20 x1 x2 x3 k10 n11 (x8 + 1) σ9)
      else
        (k10 x8 σ9)))
def f_X6_determinant_103 (x1 : Int64) (x3 : Int32) (q18 : Int64 × St) (x21 : Int32) (k29 : St → Option (Int64 × St)) : Nat → Int32 → St → Option (Int64 × St)
  | 0, _, _ => none
  | n30 + 1, x27, σ28 =>
    if (σ28.1 87 14) ≤ x27 then
      (k29 σ28)
    else
      (chk (ib (((6 : Int32) * x21) + x27) 36) (
      chk (ib ((7 : Int32) * x3) 36) (
      chk (ib (((6 : Int32) * x21) + x3) 36) (
      chk (ib (((6 : Int32) * x3) + x27) 36) (
      chk (decide (¬ x1 = 0)) (
      nm (sL σ28 97 (((6 : Int32) * x21) + x27).toNatClampNeg ((((σ28.2 97 (((6 : Int32) * x21) + x27).toNatClampNeg) * (σ28.2 97 ((7 : Int32) * x3).toNatClampNeg)) - ((σ28.2 97 (((6 : Int32) * x21) + x3).toNatClampNeg) * (σ28.2 97 (((6 : Int32) * x3) + x27).toNatClampNeg))) / x1)) (fun σ37 : St =>
      f_X6_determinant_103 x1 x3 q18 x21 k29 n30 (x27 + 1) σ37)))))))
def f_X6_determinant_88 (x1 : Int64) (x3 : Int32) (q18 : Int64 × St) (k23 : St → Option (Int64 × St)) : Nat → Int32 → St → Option (Int64 × St)
  | 0, _, _ => none
  | n24 + 1, x21, σ22 =>
    if (σ22.1 87 14) ≤ x21 then
      (k23 σ22)
    else
      (nm (x3 + (1 : Int32)) (fun x26 : Int32 =>
      f_X6_determinant_103 x1 x3 q18 x21 (fun (σ38 : St) =>
        f_X6_determinant_88 x1 x3 q18 k23 n24 (x21 + 1) σ38) 1000 x26 σ22))
def f_X6_determinant_7 (k5 : Int64 → Int64 → St → Option (Int64 × St)) : Nat → Int64 → Int64 → Int32 → St → Option (Int64 × St)
  | 0, _, _, _, _ => none
  | n6 + 1, x1, x2, x3, σ4 =>
    if (σ4.1 87 14) ≤ x3 then
      (k5 x1 x2 σ4)
    else
      (f_X6_determinant_20 x1 x2 x3 (fun (x15 : Int32) (σ16 : St) =>
        if x15 = (σ16.1 87 14) then
          (some ((0 : Int64), σ16))
        else
          (jn (fun q18 : Int64 × St =>
            (nm (x3 + (1 : Int32)) (fun x20 : Int32 =>
            f_X6_determinant_88 x1 x3 q18 (fun (σ39 : St) =>
              chk (ib ((7 : Int32) * x3) 36) (
              nm (σ39.2 97 ((7 : Int32) * x3).toNatClampNeg) (fun x41 : Int64 =>
              f_X6_determinant_7 k5 n6 x41 q18.1 (x3 + 1) σ39))) 1000 x20 q18.2))) (fun j19 =>
            if x15 ≤ x3 then
              (j19 (x2, σ16))
            else
              ((f_X6_swapsRows x15 x3 σ16).bind (fun q43 =>
              nm (-x2) (fun x44 : Int64 =>
              j19 (x44, q43))))))) 1000 x3 σ4)
def f_X6_determinant (σ : St) : Option (Int64 × St) :=
f_X6_determinant_7 (fun (x45 : Int64) (x46 : Int64) (σ47 : St) =>
    some ((x46 * x45), σ47)) 1000 (1 : Int64) (1 : Int64) (0 : Int32) σ
abbrev mX6_determinant : Me := (yX6_determinant, cX6_determinant, 9, (some .long), 1, 25)
set_option maxRecDepth 100000 in
set_option maxHeartbeats 4000000 in
theorem l_X6_determinant_20 {Γ : Cxt} (G : OK Γ RX6 cX6_determinant 9 (some .long) 1 25) {res : Int64 × St} (hR : RetOK Γ (some (.long res.1)) res.2) (x1 : Int64) (x2 : Int64) (x3 : Int32) (k10 : Int32 → St → Option (Int64 × St)) (hk : ∀ (y6 : Int32) (z : St), k10 y6 z = some res → WW Γ 53 [some (.ref 87), some (.long x1), none, some (.long x2), none, some (.int x3), some (.int y6), none, none] [] z) : ∀ (n11 : Nat) (x8 : Int32) (σ9 : St), f_X6_determinant_20 x1 x2 x3 k10 n11 x8 σ9 = some res → WW Γ 20 [some (.ref 87), some (.long x1), none, some (.long x2), none, some (.int x3), some (.int x8), none, none] [] σ9 := by
  intro n11
  induction n11 with
  | zero =>
    intro x8 σ9 hf
    cases hf
  | succ n11 ih =>
    intro x8 σ9 hf
    unfold f_X6_determinant_20 at hf
    refine s_iload G dX6_determinant_20 rfl ?_
    refine s_aload_n G dX6_determinant_22 rfl ?_
    refine s_getI (n := 0) G dX6_determinant_23 lkF_X6_85 (by decide) rfl rfl ?_
    refine s_icmp_ge (tgt := 53) G dX6_determinant_26 (by decide) (fun c12 => ?_) (fun c12 => ?_)
    · replace hf := ifp c12 hf
      exact hk x8 σ9 hf
    · replace hf := ifn c12 hf
      refine s_aload_n G dX6_determinant_29 rfl ?_
      refine s_getR G dX6_determinant_30 lkF_X6_38 (by decide) rfl rfl ?_
      refine s_bipush G dX6_determinant_33 (v := 6) (by decide) ?_
      refine s_iload G dX6_determinant_35 rfl ?_
      refine s_imul G dX6_determinant_37 ?_
      refine s_iload G dX6_determinant_38 rfl ?_
      refine s_iadd G dX6_determinant_40 ?_
      have h13 := chk_1 hf
      replace hf := chk_2 hf
      refine s_lald G dX6_determinant_41 (by decide) rfl h13 ?_
      refine s_lconst G dX6_determinant_42 (v := 0) (by decide) ?_
      refine s_lif_ne (tgt := 53) (pc2 := 0) G dX6_determinant_43 dX6_determinant_44 (by decide) (fun c14 => ?_) (fun c14 => ?_)
      · replace hf := ifn c14 hf
        exact hk x8 σ9 hf
      · replace hf := ifp c14 hf
        refine s_iinc G dX6_determinant_47 rfl (v := (x8 + 1)) rfl (by decide) rfl rfl ?_
        refine s_goto (tgt := 20) G dX6_determinant_50 (by decide) ?_
        exact ih (x8 + 1) σ9 hf
set_option maxRecDepth 100000 in
set_option maxHeartbeats 4000000 in
theorem l_X6_determinant_103 {Γ : Cxt} (G : OK Γ RX6 cX6_determinant 9 (some .long) 1 25) {res : Int64 × St} (hR : RetOK Γ (some (.long res.1)) res.2) (x1 : Int64) (x3 : Int32) (q18 : Int64 × St) (x21 : Int32) (k29 : St → Option (Int64 × St)) (hk : ∀ (z : St), k29 z = some res → WW Γ 185 [some (.ref 87), some (.long x1), none, some (.long q18.1), none, some (.int x3), none, some (.int x21), none] [] z) : ∀ (n30 : Nat) (x27 : Int32) (σ28 : St), f_X6_determinant_103 x1 x3 q18 x21 k29 n30 x27 σ28 = some res → WW Γ 103 [some (.ref 87), some (.long x1), none, some (.long q18.1), none, some (.int x3), none, some (.int x21), some (.int x27)] [] σ28 := by
  intro n30
  induction n30 with
  | zero =>
    intro x27 σ28 hf
    cases hf
  | succ n30 ih =>
    intro x27 σ28 hf
    unfold f_X6_determinant_103 at hf
    refine s_iload G dX6_determinant_103 rfl ?_
    refine s_aload_n G dX6_determinant_105 rfl ?_
    refine s_getI (n := 0) G dX6_determinant_106 lkF_X6_85 (by decide) rfl rfl ?_
    refine s_icmp_ge (tgt := 185) G dX6_determinant_109 (by decide) (fun c31 => ?_) (fun c31 => ?_)
    · replace hf := ifp c31 hf
      refine s_fgt [true, true, true, true, true, true, true, true, false] rfl ?_
      exact hk σ28 hf
    · replace hf := ifn c31 hf
      refine s_aload_n G dX6_determinant_112 rfl ?_
      refine s_getR G dX6_determinant_113 lkF_X6_38 (by decide) rfl rfl ?_
      refine s_bipush G dX6_determinant_116 (v := 6) (by decide) ?_
      refine s_iload G dX6_determinant_118 rfl ?_
      refine s_imul G dX6_determinant_120 ?_
      refine s_iload G dX6_determinant_121 rfl ?_
      refine s_iadd G dX6_determinant_123 ?_
      refine s_aload_n G dX6_determinant_124 rfl ?_
      refine s_getR G dX6_determinant_125 lkF_X6_38 (by decide) rfl rfl ?_
      refine s_bipush G dX6_determinant_128 (v := 6) (by decide) ?_
      refine s_iload G dX6_determinant_130 rfl ?_
      refine s_imul G dX6_determinant_132 ?_
      refine s_iload G dX6_determinant_133 rfl ?_
      refine s_iadd G dX6_determinant_135 ?_
      have h32 := chk_1 hf
      replace hf := chk_2 hf
      refine s_lald G dX6_determinant_136 (by decide) rfl h32 ?_
      refine s_aload_n G dX6_determinant_137 rfl ?_
      refine s_getR G dX6_determinant_138 lkF_X6_38 (by decide) rfl rfl ?_
      refine s_bipush G dX6_determinant_141 (v := 7) (by decide) ?_
      refine s_iload G dX6_determinant_143 rfl ?_
      refine s_imul G dX6_determinant_145 ?_
      have h33 := chk_1 hf
      replace hf := chk_2 hf
      refine s_lald G dX6_determinant_146 (by decide) rfl h33 ?_
      refine s_lmul G dX6_determinant_147 ?_
      refine s_aload_n G dX6_determinant_148 rfl ?_
      refine s_getR G dX6_determinant_149 lkF_X6_38 (by decide) rfl rfl ?_
      refine s_bipush G dX6_determinant_152 (v := 6) (by decide) ?_
      refine s_iload G dX6_determinant_154 rfl ?_
      refine s_imul G dX6_determinant_156 ?_
      refine s_iload G dX6_determinant_157 rfl ?_
      refine s_iadd G dX6_determinant_159 ?_
      have h34 := chk_1 hf
      replace hf := chk_2 hf
      refine s_lald G dX6_determinant_160 (by decide) rfl h34 ?_
      refine s_aload_n G dX6_determinant_161 rfl ?_
      refine s_getR G dX6_determinant_162 lkF_X6_38 (by decide) rfl rfl ?_
      refine s_bipush G dX6_determinant_165 (v := 6) (by decide) ?_
      refine s_iload G dX6_determinant_167 rfl ?_
      refine s_imul G dX6_determinant_169 ?_
      refine s_iload G dX6_determinant_170 rfl ?_
      refine s_iadd G dX6_determinant_172 ?_
      have h35 := chk_1 hf
      replace hf := chk_2 hf
      refine s_lald G dX6_determinant_173 (by decide) rfl h35 ?_
      refine s_lmul G dX6_determinant_174 ?_
      refine s_lsub G dX6_determinant_175 ?_
      refine s_lload_n G dX6_determinant_176 rfl ?_
      have h36 := chk_1 hf
      replace hf := chk_2 hf
      refine s_ldiv G dX6_determinant_177 h36 ?_
      refine s_last G dX6_determinant_178 (by decide) rfl h32 ?_
      refine s_st (fun σ37 eσ37 => ?_)
      replace hf := nm_at eσ37 hf
      refine s_iinc G dX6_determinant_179 rfl (v := (x27 + 1)) rfl (by decide) rfl rfl ?_
      refine s_goto (tgt := 103) G dX6_determinant_182 (by decide) ?_
      exact ih (x27 + 1) σ37 hf
set_option maxRecDepth 100000 in
set_option maxHeartbeats 4000000 in
theorem l_X6_determinant_88 {Γ : Cxt} (G : OK Γ RX6 cX6_determinant 9 (some .long) 1 25) {res : Int64 × St} (hR : RetOK Γ (some (.long res.1)) res.2) (x1 : Int64) (x3 : Int32) (q18 : Int64 × St) (k23 : St → Option (Int64 × St)) (hk : ∀ (z : St), k23 z = some res → WW Γ 191 [some (.ref 87), none, none, some (.long q18.1), none, some (.int x3), none, none, none] [] z) : ∀ (n24 : Nat) (x21 : Int32) (σ22 : St), f_X6_determinant_88 x1 x3 q18 k23 n24 x21 σ22 = some res → WW Γ 88 [some (.ref 87), some (.long x1), none, some (.long q18.1), none, some (.int x3), none, some (.int x21), none] [] σ22 := by
  intro n24
  induction n24 with
  | zero =>
    intro x21 σ22 hf
    cases hf
  | succ n24 ih =>
    intro x21 σ22 hf
    unfold f_X6_determinant_88 at hf
    refine s_iload G dX6_determinant_88 rfl ?_
    refine s_aload_n G dX6_determinant_90 rfl ?_
    refine s_getI (n := 0) G dX6_determinant_91 lkF_X6_85 (by decide) rfl rfl ?_
    refine s_icmp_ge (tgt := 191) G dX6_determinant_94 (by decide) (fun c25 => ?_) (fun c25 => ?_)
    · replace hf := ifp c25 hf
      refine s_fgt [true, false, true, true, true, true, true, false, true] rfl ?_
      exact hk σ22 hf
    · replace hf := ifn c25 hf
      refine s_iload G dX6_determinant_97 rfl ?_
      refine s_iconst G dX6_determinant_99 (v := 1) (by decide) ?_
      refine s_iadd G dX6_determinant_100 ?_
      refine s_topi (fun x26 ex26 => ?_)
      replace hf := nm_at ex26 hf
      refine s_istore G dX6_determinant_101 (by decide) rfl rfl ?_
      refine l_X6_determinant_103 G hR x1 x3 q18 x21 _ (fun σ38 hf => ?_) 1000 x26 σ22 hf
      refine s_iinc G dX6_determinant_185 rfl (v := (x21 + 1)) rfl (by decide) rfl rfl ?_
      refine s_goto (tgt := 88) G dX6_determinant_188 (by decide) ?_
      exact ih (x21 + 1) σ38 hf
set_option maxRecDepth 100000 in
set_option maxHeartbeats 4000000 in
theorem l_X6_determinant_7 {Γ : Cxt} (G : OK Γ RX6 cX6_determinant 9 (some .long) 1 25) {res : Int64 × St} (hR : RetOK Γ (some (.long res.1)) res.2) (k5 : Int64 → Int64 → St → Option (Int64 × St)) (hk : ∀ (y1 : Int64) (y3 : Int64) (z : St), k5 y1 y3 z = some res → WW Γ 208 [none, some (.long y1), none, some (.long y3), none, none, none, none, none] [] z) : ∀ (n6 : Nat) (x1 : Int64) (x2 : Int64) (x3 : Int32) (σ4 : St), f_X6_determinant_7 k5 n6 x1 x2 x3 σ4 = some res → WW Γ 7 [some (.ref 87), some (.long x1), none, some (.long x2), none, some (.int x3), none, none, none] [] σ4 := by
  intro n6
  induction n6 with
  | zero =>
    intro x1 x2 x3 σ4 hf
    cases hf
  | succ n6 ih =>
    intro x1 x2 x3 σ4 hf
    unfold f_X6_determinant_7 at hf
    refine s_iload G dX6_determinant_7 rfl ?_
    refine s_aload_n G dX6_determinant_9 rfl ?_
    refine s_getI (n := 0) G dX6_determinant_10 lkF_X6_85 (by decide) rfl rfl ?_
    refine s_icmp_ge (tgt := 208) G dX6_determinant_13 (by decide) (fun c7 => ?_) (fun c7 => ?_)
    · replace hf := ifp c7 hf
      refine s_fgt [false, true, true, true, true, false, true, true, true] rfl ?_
      exact hk x1 x2 σ4 hf
    · replace hf := ifn c7 hf
      refine s_iload G dX6_determinant_16 rfl ?_
      refine s_istore G dX6_determinant_18 (by decide) rfl rfl ?_
      refine l_X6_determinant_20 G hR x1 x2 x3 _ (fun x15 σ16 hf => ?_) 1000 x3 σ4 hf
      refine s_iload G dX6_determinant_53 rfl ?_
      refine s_aload_n G dX6_determinant_55 rfl ?_
      refine s_getI (n := 0) G dX6_determinant_56 lkF_X6_85 (by decide) rfl rfl ?_
      refine s_icmp_ne (tgt := 64) G dX6_determinant_59 (by decide) (fun c17 => ?_) (fun c17 => ?_)
      · replace hf := ifn c17 hf
        refine s_iload G dX6_determinant_64 rfl ?_
        refine s_iload G dX6_determinant_66 rfl ?_
        refine jn_w (fun q18 : Int64 × St => WW Γ 82 [some (.ref 87), some (.long x1), none, some (.long q18.1), none, some (.int x3), none, none, none] [] q18.2) hf (fun q18 hf => ?_) (fun j19 hj19 hf => ?_)
        · refine s_iload G dX6_determinant_82 rfl ?_
          refine s_iconst G dX6_determinant_84 (v := 1) (by decide) ?_
          refine s_iadd G dX6_determinant_85 ?_
          refine s_topi (fun x20 ex20 => ?_)
          replace hf := nm_at ex20 hf
          refine s_istore G dX6_determinant_86 (by decide) rfl rfl ?_
          refine l_X6_determinant_88 G hR x1 x3 q18 _ (fun σ39 hf => ?_) 1000 x20 q18.2 hf
          refine s_aload_n G dX6_determinant_191 rfl ?_
          refine s_getR G dX6_determinant_192 lkF_X6_38 (by decide) rfl rfl ?_
          refine s_bipush G dX6_determinant_195 (v := 7) (by decide) ?_
          refine s_iload G dX6_determinant_197 rfl ?_
          refine s_imul G dX6_determinant_199 ?_
          have h40 := chk_1 hf
          replace hf := chk_2 hf
          refine s_lald G dX6_determinant_200 (by decide) rfl h40 ?_
          refine s_topl (fun x41 ex41 => ?_)
          replace hf := nm_at ex41 hf
          refine s_lstore_n G dX6_determinant_201 rfl (by decide) rfl rfl ?_
          refine s_iinc G dX6_determinant_202 rfl (v := (x3 + 1)) rfl (by decide) rfl rfl ?_
          refine s_goto (tgt := 7) G dX6_determinant_205 (by decide) ?_
          exact ih x41 q18.1 (x3 + 1) σ39 hf
        · refine s_icmp_le (tgt := 82) G dX6_determinant_68 (by decide) (fun c42 => ?_) (fun c42 => ?_)
          · replace hf := ifp c42 hf
            refine s_fgt [true, true, true, true, true, true, false, true, true] rfl ?_
            exact hj19 _ hf
          · replace hf := ifn c42 hf
            refine s_aload_n G dX6_determinant_71 rfl ?_
            refine s_iload G dX6_determinant_72 rfl ?_
            refine s_iload G dX6_determinant_74 rfl ?_
            obtain ⟨q43, hq43, hf⟩ := bnd hf
            refine s_callV G dX6_determinant_76 (c_X6_swapsRows hq43) lkM_X6_89 yk_X6_swapsRows yv_X6_swapsRows (by decide) rfl rfl _ [] rfl rfl rfl (Nat.le_of_ble_eq_true rfl) (by decide) ?_
            refine s_lload_n G dX6_determinant_79 rfl ?_
            refine s_lneg G dX6_determinant_80 ?_
            refine s_topl (fun x44 ex44 => ?_)
            replace hf := nm_at ex44 hf
            refine s_lstore_n G dX6_determinant_81 rfl (by decide) rfl rfl ?_
            refine s_fgt [true, true, true, true, true, true, false, true, true] rfl ?_
            exact hj19 _ hf
      · replace hf := ifp c17 hf
        refine s_lconst G dX6_determinant_62 (v := 0) (by decide) ?_
        replace hf := Option.some.inj hf
        subst hf
        exact s_lret G hR dX6_determinant_63 rfl rfl
set_option maxRecDepth 100000 in
set_option maxHeartbeats 4000000 in
theorem c_X6_determinant  {σ : St} {res : Int64 × St} (hf : f_X6_determinant σ = some res) : Mt mX6_determinant [.ref 87] σ (some (.long res.1)) res.2 := by
  unfold f_X6_determinant at hf
  refine mt_of (by decide) (Nat.le_of_ble_eq_true rfl) [some (.ref 87), none, none, none, none, none, none, none, none] rfl (fun Γ G hR => ?_)
  have G : OK Γ RX6 cX6_determinant 9 (some .long) 1 25 := G
  refine s_lconst G dX6_determinant_0 (v := 1) (by decide) ?_
  refine s_lstore_n G dX6_determinant_1 rfl (by decide) rfl rfl ?_
  refine s_lconst G dX6_determinant_2 (v := 1) (by decide) ?_
  refine s_lstore_n G dX6_determinant_3 rfl (by decide) rfl rfl ?_
  refine s_iconst G dX6_determinant_4 (v := 0) (by decide) ?_
  refine s_istore G dX6_determinant_5 (by decide) rfl rfl ?_
  refine l_X6_determinant_7 G hR _ (fun x45 x46 σ47 hf => ?_) 1000 (1 : Int64) (1 : Int64) (0 : Int32) σ hf
  refine s_lload_n G dX6_determinant_208 rfl ?_
  refine s_lload_n G dX6_determinant_209 rfl ?_
  refine s_lmul G dX6_determinant_210 ?_
  replace hf := Option.some.inj hf
  subst hf
  exact s_lret G hR dX6_determinant_211 rfl rfl
def f_X6_treesOf (a1 : Int32) (a2 : Int32) (σ : St) : Option (Int64 × St) :=
(f_X6_gathers a2 σ).bind (fun q1 =>
  (f_X6_laysSquare a1 (-1 : Int32) q1).bind (fun q2 =>
  (f_X6_determinant q2).bind (fun q3 =>
  some (q3.1, q3.2))))
abbrev mX6_treesOf : Me := (yX6_treesOf, cX6_treesOf, 3, (some .long), 2, 53)
set_option maxRecDepth 100000 in
set_option maxHeartbeats 4000000 in
theorem c_X6_treesOf {a1 : Int32} {a2 : Int32} {σ : St} {res : Int64 × St} (hf : f_X6_treesOf a1 a2 σ = some res) : Mt mX6_treesOf [.ref 87, .int a1, .int a2] σ (some (.long res.1)) res.2 := by
  unfold f_X6_treesOf at hf
  refine mt_of (by decide) (Nat.le_of_ble_eq_true rfl) [some (.ref 87), some (.int a1), some (.int a2)] rfl (fun Γ G hR => ?_)
  have G : OK Γ RX6 cX6_treesOf 3 (some .long) 2 53 := G
  refine s_aload_n G dX6_treesOf_0 rfl ?_
  refine s_iload_n G dX6_treesOf_1 rfl ?_
  obtain ⟨q1, hq1, hf⟩ := bnd hf
  refine s_callV G dX6_treesOf_2 (c_X6_gathers hq1) lkM_X6_93 yk_X6_gathers yv_X6_gathers (by decide) rfl rfl _ [] rfl rfl rfl (Nat.le_of_ble_eq_true rfl) (by decide) ?_
  refine s_aload_n G dX6_treesOf_5 rfl ?_
  refine s_iload_n G dX6_treesOf_6 rfl ?_
  refine s_iconst G dX6_treesOf_7 (v := -1) (by decide) ?_
  obtain ⟨q2, hq2, hf⟩ := bnd hf
  refine s_callV G dX6_treesOf_8 (c_X6_laysSquare hq2) lkM_X6_97 yk_X6_laysSquare yv_X6_laysSquare (by decide) rfl rfl _ [] rfl rfl rfl (Nat.le_of_ble_eq_true rfl) (by decide) ?_
  refine s_aload_n G dX6_treesOf_11 rfl ?_
  obtain ⟨q3, hq3, hf⟩ := bnd hf
  refine s_callV G dX6_treesOf_12 (c_X6_determinant hq3) lkM_X6_100 yk_X6_determinant yv_X6_determinant (by decide) rfl rfl _ [] rfl rfl rfl (Nat.le_of_ble_eq_true rfl) (by decide) ?_
  replace hf := Option.some.inj hf
  subst hf
  exact s_lret G hR dX6_treesOf_15 rfl rfl
def f_X6_solves_51 (a1 : Int32) (x2 : Int32) (q9 : Int64 × St) (k14 : St → Option (St)) : Nat → Int32 → St → Option (St)
  | 0, _, _ => none
  | n15 + 1, x12, σ13 =>
    if (σ13.1 87 14) ≤ x12 then
      (k14 σ13)
    else
      ((f_X6_laysSquare a1 x12 σ13).bind (fun q17 =>
      chk (ib x12 6) (
      (f_X6_determinant q17).bind (fun q19 =>
      chk (ib (q17.1 98 x12.toNatClampNeg) 6) (
      nm (sL q19.2 95 (q17.1 98 x12.toNatClampNeg).toNatClampNeg q19.1) (fun σ21 : St =>
      chk (ib (σ21.1 98 x12.toNatClampNeg) 6) (
      nm (sL σ21 96 (σ21.1 98 x12.toNatClampNeg).toNatClampNeg q9.1) (fun σ23 : St =>
      f_X6_solves_51 a1 x2 q9 k14 n15 (x12 + 1) σ23))))))))
def f_X6_solves_7 (a1 : Int32) (k4 : St → Option (St)) : Nat → Int32 → St → Option (St)
  | 0, _, _ => none
  | n5 + 1, x2, σ3 =>
    if (σ3.1 88 (0 : Int32).toNatClampNeg) ≤ x2 then
      (k4 σ3)
    else
      (chk (ib x2 6) (
      if (σ3.1 94 x2.toNatClampNeg) = x2 then
        ((f_X6_treesOf a1 x2 σ3).bind (fun q9 =>
        nm (sL q9.2 95 x2.toNatClampNeg (0 : Int64)) (fun σ10 : St =>
        nm (sL σ10 96 x2.toNatClampNeg q9.1) (fun σ11 : St =>
        f_X6_solves_51 a1 x2 q9 (fun (σ24 : St) =>
          f_X6_solves_7 a1 k4 n5 (x2 + 1) σ24) 1000 (0 : Int32) σ11))))
      else
        (f_X6_solves_7 a1 k4 n5 (x2 + 1) σ3)))
def f_X6_solves (a1 : Int32) (σ : St) : Option (St) :=
(f_X6_parts a1 σ).bind (fun q1 =>
  f_X6_solves_7 a1 (fun (σ25 : St) =>
    some σ25) 1000 (0 : Int32) q1)
abbrev mX6_solves : Me := (yX6_solves, cX6_solves, 6, none, 3, 75)
set_option maxRecDepth 100000 in
set_option maxHeartbeats 4000000 in
theorem l_X6_solves_51 {Γ : Cxt} (G : OK Γ RX6 cX6_solves 6 none 3 75) {res : St} (hR : RetOK Γ none res) (a1 : Int32) (x2 : Int32) (q9 : Int64 × St) (k14 : St → Option (St)) (hk : ∀ (z : St), k14 z = some res → WW Γ 102 [some (.ref 87), some (.int a1), some (.int x2), none, none, none] [] z) : ∀ (n15 : Nat) (x12 : Int32) (σ13 : St), f_X6_solves_51 a1 x2 q9 k14 n15 x12 σ13 = some res → WW Γ 51 [some (.ref 87), some (.int a1), some (.int x2), some (.long q9.1), none, some (.int x12)] [] σ13 := by
  intro n15
  induction n15 with
  | zero =>
    intro x12 σ13 hf
    cases hf
  | succ n15 ih =>
    intro x12 σ13 hf
    unfold f_X6_solves_51 at hf
    refine s_iload G dX6_solves_51 rfl ?_
    refine s_aload_n G dX6_solves_53 rfl ?_
    refine s_getI (n := 0) G dX6_solves_54 lkF_X6_85 (by decide) rfl rfl ?_
    refine s_icmp_ge (tgt := 102) G dX6_solves_57 (by decide) (fun c16 => ?_) (fun c16 => ?_)
    · replace hf := ifp c16 hf
      refine s_fgt [true, true, true, false, true, false] rfl ?_
      exact hk σ13 hf
    · replace hf := ifn c16 hf
      refine s_aload_n G dX6_solves_60 rfl ?_
      refine s_iload_n G dX6_solves_61 rfl ?_
      refine s_iload G dX6_solves_62 rfl ?_
      obtain ⟨q17, hq17, hf⟩ := bnd hf
      refine s_callV G dX6_solves_64 (c_X6_laysSquare hq17) lkM_X6_97 yk_X6_laysSquare yv_X6_laysSquare (by decide) rfl rfl _ [] rfl rfl rfl (Nat.le_of_ble_eq_true rfl) (by decide) ?_
      refine s_aload_n G dX6_solves_67 rfl ?_
      refine s_getR G dX6_solves_68 lkF_X6_32 (by decide) rfl rfl ?_
      refine s_aload_n G dX6_solves_71 rfl ?_
      refine s_getR G dX6_solves_72 lkF_X6_41 (by decide) rfl rfl ?_
      refine s_iload G dX6_solves_75 rfl ?_
      have h18 := chk_1 hf
      replace hf := chk_2 hf
      refine s_iald G dX6_solves_77 (by decide) rfl h18 ?_
      refine s_aload_n G dX6_solves_78 rfl ?_
      obtain ⟨q19, hq19, hf⟩ := bnd hf
      refine s_callV G dX6_solves_79 (c_X6_determinant hq19) lkM_X6_100 yk_X6_determinant yv_X6_determinant (by decide) rfl rfl _ [.int (q17.1 98 x12.toNatClampNeg), .ref 95] rfl rfl rfl (Nat.le_of_ble_eq_true rfl) (by decide) ?_
      have h20 := chk_1 hf
      replace hf := chk_2 hf
      refine s_last G dX6_solves_82 (by decide) rfl h20 ?_
      refine s_st (fun σ21 eσ21 => ?_)
      replace hf := nm_at eσ21 hf
      refine s_aload_n G dX6_solves_83 rfl ?_
      refine s_getR G dX6_solves_84 lkF_X6_35 (by decide) rfl rfl ?_
      refine s_aload_n G dX6_solves_87 rfl ?_
      refine s_getR G dX6_solves_88 lkF_X6_41 (by decide) rfl rfl ?_
      refine s_iload G dX6_solves_91 rfl ?_
      refine s_iald G dX6_solves_93 (by decide) rfl h18 ?_
      refine s_lload_n G dX6_solves_94 rfl ?_
      have h22 := chk_1 hf
      replace hf := chk_2 hf
      refine s_last G dX6_solves_95 (by decide) rfl h22 ?_
      refine s_st (fun σ23 eσ23 => ?_)
      replace hf := nm_at eσ23 hf
      refine s_iinc G dX6_solves_96 rfl (v := (x12 + 1)) rfl (by decide) rfl rfl ?_
      refine s_goto (tgt := 51) G dX6_solves_99 (by decide) ?_
      exact ih (x12 + 1) σ23 hf
set_option maxRecDepth 100000 in
set_option maxHeartbeats 4000000 in
theorem l_X6_solves_7 {Γ : Cxt} (G : OK Γ RX6 cX6_solves 6 none 3 75) {res : St} (hR : RetOK Γ none res) (a1 : Int32) (k4 : St → Option (St)) (hk : ∀ (z : St), k4 z = some res → WW Γ 108 [none, none, none, none, none, none] [] z) : ∀ (n5 : Nat) (x2 : Int32) (σ3 : St), f_X6_solves_7 a1 k4 n5 x2 σ3 = some res → WW Γ 7 [some (.ref 87), some (.int a1), some (.int x2), none, none, none] [] σ3 := by
  intro n5
  induction n5 with
  | zero =>
    intro x2 σ3 hf
    cases hf
  | succ n5 ih =>
    intro x2 σ3 hf
    unfold f_X6_solves_7 at hf
    refine s_iload_n G dX6_solves_7 rfl ?_
    refine s_aload_n G dX6_solves_8 rfl ?_
    refine s_getR G dX6_solves_9 lkF_X6_7 (by decide) rfl rfl ?_
    refine s_iconst G dX6_solves_12 (v := 0) (by decide) ?_
    refine s_iald G dX6_solves_13 (by decide) rfl (by decide) ?_
    refine s_icmp_ge (tgt := 108) G dX6_solves_14 (by decide) (fun c6 => ?_) (fun c6 => ?_)
    · replace hf := ifp c6 hf
      refine s_fgt [false, false, false, true, true, true] rfl ?_
      exact hk σ3 hf
    · replace hf := ifn c6 hf
      refine s_aload_n G dX6_solves_17 rfl ?_
      refine s_getR G dX6_solves_18 lkF_X6_29 (by decide) rfl rfl ?_
      refine s_iload_n G dX6_solves_21 rfl ?_
      have h7 := chk_1 hf
      replace hf := chk_2 hf
      refine s_iald G dX6_solves_22 (by decide) rfl h7 ?_
      refine s_iload_n G dX6_solves_23 rfl ?_
      refine s_icmp_ne (tgt := 102) G dX6_solves_24 (by decide) (fun c8 => ?_) (fun c8 => ?_)
      · replace hf := ifn c8 hf
        refine s_iinc G dX6_solves_102 rfl (v := (x2 + 1)) rfl (by decide) rfl rfl ?_
        refine s_goto (tgt := 7) G dX6_solves_105 (by decide) ?_
        exact ih (x2 + 1) σ3 hf
      · replace hf := ifp c8 hf
        refine s_aload_n G dX6_solves_27 rfl ?_
        refine s_iload_n G dX6_solves_28 rfl ?_
        refine s_iload_n G dX6_solves_29 rfl ?_
        obtain ⟨q9, hq9, hf⟩ := bnd hf
        refine s_callV G dX6_solves_30 (c_X6_treesOf hq9) lkM_X6_107 yk_X6_treesOf yv_X6_treesOf (by decide) rfl rfl _ [] rfl rfl rfl (Nat.le_of_ble_eq_true rfl) (by decide) ?_
        refine s_lstore_n G dX6_solves_33 rfl (by decide) rfl rfl ?_
        refine s_aload_n G dX6_solves_34 rfl ?_
        refine s_getR G dX6_solves_35 lkF_X6_32 (by decide) rfl rfl ?_
        refine s_iload_n G dX6_solves_38 rfl ?_
        refine s_lconst G dX6_solves_39 (v := 0) (by decide) ?_
        refine s_last G dX6_solves_40 (by decide) rfl h7 ?_
        refine s_st (fun σ10 eσ10 => ?_)
        replace hf := nm_at eσ10 hf
        refine s_aload_n G dX6_solves_41 rfl ?_
        refine s_getR G dX6_solves_42 lkF_X6_35 (by decide) rfl rfl ?_
        refine s_iload_n G dX6_solves_45 rfl ?_
        refine s_lload_n G dX6_solves_46 rfl ?_
        refine s_last G dX6_solves_47 (by decide) rfl h7 ?_
        refine s_st (fun σ11 eσ11 => ?_)
        replace hf := nm_at eσ11 hf
        refine s_iconst G dX6_solves_48 (v := 0) (by decide) ?_
        refine s_istore G dX6_solves_49 (by decide) rfl rfl ?_
        refine l_X6_solves_51 G hR a1 x2 q9 _ (fun σ24 hf => ?_) 1000 (0 : Int32) σ11 hf
        refine s_iinc G dX6_solves_102 rfl (v := (x2 + 1)) rfl (by decide) rfl rfl ?_
        refine s_goto (tgt := 7) G dX6_solves_105 (by decide) ?_
        exact ih (x2 + 1) σ24 hf
set_option maxRecDepth 100000 in
set_option maxHeartbeats 4000000 in
theorem c_X6_solves {a1 : Int32} {σ : St} {res : St} (hf : f_X6_solves a1 σ = some res) : Mt mX6_solves [.ref 87, .int a1] σ none res := by
  unfold f_X6_solves at hf
  refine mt_of (by decide) (Nat.le_of_ble_eq_true rfl) [some (.ref 87), some (.int a1), none, none, none, none] rfl (fun Γ G hR => ?_)
  have G : OK Γ RX6 cX6_solves 6 none 3 75 := G
  refine s_aload_n G dX6_solves_0 rfl ?_
  refine s_iload_n G dX6_solves_1 rfl ?_
  obtain ⟨q1, hq1, hf⟩ := bnd hf
  refine s_callV G dX6_solves_2 (c_X6_parts hq1) lkM_X6_104 yk_X6_parts yv_X6_parts (by decide) rfl rfl _ [] rfl rfl rfl (Nat.le_of_ble_eq_true rfl) (by decide) ?_
  refine s_iconst G dX6_solves_5 (v := 0) (by decide) ?_
  refine s_istore_n G dX6_solves_6 rfl (by decide) rfl rfl ?_
  refine l_X6_solves_7 G hR a1 _ (fun σ25 hf => ?_) 1000 (0 : Int32) q1 hf
  replace hf := Option.some.inj hf
  subst hf
  exact s_vret G hR dX6_solves_108 rfl rfl
def f_X6_asTold_2 (k3 : St → Option (St)) : Nat → Int32 → St → Option (St)
  | 0, _, _ => none
  | n4 + 1, x1, σ2 =>
    if (6 : Int32) ≤ x1 then
      (k3 σ2)
    else
      (chk (ib ((2 : Int32) + x1) 58) (
      chk (ib x1 6) (
      nm (sL σ2 93 x1.toNatClampNeg (σ2.1 88 ((2 : Int32) + x1).toNatClampNeg).toInt64) (fun σ8 : St =>
      f_X6_asTold_2 k3 n4 (x1 + 1) σ8))))
def f_X6_asTold (σ : St) : Option (St) :=
f_X6_asTold_2 (fun (σ9 : St) =>
    some σ9) 1000 (0 : Int32) σ
abbrev mX6_asTold : Me := (yX6_asTold, cX6_asTold, 2, none, 0, 0)
set_option maxRecDepth 100000 in
set_option maxHeartbeats 4000000 in
theorem l_X6_asTold_2 {Γ : Cxt} (G : OK Γ RX6 cX6_asTold 2 none 0 0) {res : St} (hR : RetOK Γ none res) (k3 : St → Option (St)) (hk : ∀ (z : St), k3 z = some res → WW Γ 29 [none, none] [] z) : ∀ (n4 : Nat) (x1 : Int32) (σ2 : St), f_X6_asTold_2 k3 n4 x1 σ2 = some res → WW Γ 2 [some (.ref 87), some (.int x1)] [] σ2 := by
  intro n4
  induction n4 with
  | zero =>
    intro x1 σ2 hf
    cases hf
  | succ n4 ih =>
    intro x1 σ2 hf
    unfold f_X6_asTold_2 at hf
    refine s_iload_n G dX6_asTold_2 rfl ?_
    refine s_bipush G dX6_asTold_3 (v := 6) (by decide) ?_
    refine s_icmp_ge (tgt := 29) G dX6_asTold_5 (by decide) (fun c5 => ?_) (fun c5 => ?_)
    · replace hf := ifp c5 hf
      refine s_fgt [false, false] rfl ?_
      exact hk σ2 hf
    · replace hf := ifn c5 hf
      refine s_aload_n G dX6_asTold_8 rfl ?_
      refine s_getR G dX6_asTold_9 lkF_X6_25 (by decide) rfl rfl ?_
      refine s_iload_n G dX6_asTold_12 rfl ?_
      refine s_aload_n G dX6_asTold_13 rfl ?_
      refine s_getR G dX6_asTold_14 lkF_X6_7 (by decide) rfl rfl ?_
      refine s_iconst G dX6_asTold_17 (v := 2) (by decide) ?_
      refine s_iload_n G dX6_asTold_18 rfl ?_
      refine s_iadd G dX6_asTold_19 ?_
      have h6 := chk_1 hf
      replace hf := chk_2 hf
      refine s_iald G dX6_asTold_20 (by decide) rfl h6 ?_
      refine s_i2l G dX6_asTold_21 ?_
      have h7 := chk_1 hf
      replace hf := chk_2 hf
      refine s_last G dX6_asTold_22 (by decide) rfl h7 ?_
      refine s_st (fun σ8 eσ8 => ?_)
      replace hf := nm_at eσ8 hf
      refine s_iinc G dX6_asTold_23 rfl (v := (x1 + 1)) rfl (by decide) rfl rfl ?_
      refine s_goto (tgt := 2) G dX6_asTold_26 (by decide) ?_
      exact ih (x1 + 1) σ8 hf
set_option maxRecDepth 100000 in
set_option maxHeartbeats 4000000 in
theorem c_X6_asTold  {σ : St} {res : St} (hf : f_X6_asTold σ = some res) : Mt mX6_asTold [.ref 87] σ none res := by
  unfold f_X6_asTold at hf
  refine mt_of (by decide) (Nat.le_of_ble_eq_true rfl) [some (.ref 87), none] rfl (fun Γ G hR => ?_)
  have G : OK Γ RX6 cX6_asTold 2 none 0 0 := G
  refine s_iconst G dX6_asTold_0 (v := 0) (by decide) ?_
  refine s_istore_n G dX6_asTold_1 rfl (by decide) rfl rfl ?_
  refine l_X6_asTold_2 G hR _ (fun σ9 hf => ?_) 1000 (0 : Int32) σ hf
  replace hf := Option.some.inj hf
  subst hf
  exact s_vret G hR dX6_asTold_29 rfl rfl
def f_X6_oneOf_2 (a1 : Int32) (a2 : Int32) (k3 : St → Option (St)) : Nat → Int32 → St → Option (St)
  | 0, _, _ => none
  | n4 + 1, x1, σ2 =>
    if (6 : Int32) ≤ x1 then
      (k3 σ2)
    else
      (if x1 = a1 then
        (chk (ib x1 6) (
        nm (sL σ2 93 x1.toNatClampNeg (1 : Int64)) (fun σ13 : St =>
        f_X6_oneOf_2 a1 a2 k3 n4 (x1 + 1) σ13)))
      else
        (if x1 = a2 then
          (chk (ib x1 6) (
          nm (sL σ2 93 x1.toNatClampNeg (-1 : Int64)) (fun σ11 : St =>
          f_X6_oneOf_2 a1 a2 k3 n4 (x1 + 1) σ11)))
        else
          (chk (ib x1 6) (
          nm (sL σ2 93 x1.toNatClampNeg (0 : Int64)) (fun σ9 : St =>
          f_X6_oneOf_2 a1 a2 k3 n4 (x1 + 1) σ9)))))
def f_X6_oneOf (a1 : Int32) (a2 : Int32) (σ : St) : Option (St) :=
f_X6_oneOf_2 a1 a2 (fun (σ14 : St) =>
    some σ14) 1000 (0 : Int32) σ
abbrev mX6_oneOf : Me := (yX6_oneOf, cX6_oneOf, 4, none, 0, 0)
set_option maxRecDepth 100000 in
set_option maxHeartbeats 4000000 in
theorem l_X6_oneOf_2 {Γ : Cxt} (G : OK Γ RX6 cX6_oneOf 4 none 0 0) {res : St} (hR : RetOK Γ none res) (a1 : Int32) (a2 : Int32) (k3 : St → Option (St)) (hk : ∀ (z : St), k3 z = some res → WW Γ 41 [none, none, none, none] [] z) : ∀ (n4 : Nat) (x1 : Int32) (σ2 : St), f_X6_oneOf_2 a1 a2 k3 n4 x1 σ2 = some res → WW Γ 2 [some (.ref 87), some (.int a1), some (.int a2), some (.int x1)] [] σ2 := by
  intro n4
  induction n4 with
  | zero =>
    intro x1 σ2 hf
    cases hf
  | succ n4 ih =>
    intro x1 σ2 hf
    unfold f_X6_oneOf_2 at hf
    refine s_iload_n G dX6_oneOf_2 rfl ?_
    refine s_bipush G dX6_oneOf_3 (v := 6) (by decide) ?_
    refine s_icmp_ge (tgt := 41) G dX6_oneOf_5 (by decide) (fun c5 => ?_) (fun c5 => ?_)
    · replace hf := ifp c5 hf
      refine s_fgt [false, false, false, false] rfl ?_
      exact hk σ2 hf
    · replace hf := ifn c5 hf
      refine s_aload_n G dX6_oneOf_8 rfl ?_
      refine s_getR G dX6_oneOf_9 lkF_X6_25 (by decide) rfl rfl ?_
      refine s_iload_n G dX6_oneOf_12 rfl ?_
      refine s_iload_n G dX6_oneOf_13 rfl ?_
      refine s_iload_n G dX6_oneOf_14 rfl ?_
      refine s_icmp_ne (tgt := 22) G dX6_oneOf_15 (by decide) (fun c6 => ?_) (fun c6 => ?_)
      · replace hf := ifn c6 hf
        refine s_iload_n G dX6_oneOf_22 rfl ?_
        refine s_iload_n G dX6_oneOf_23 rfl ?_
        refine s_icmp_ne (tgt := 33) G dX6_oneOf_24 (by decide) (fun c7 => ?_) (fun c7 => ?_)
        · replace hf := ifn c7 hf
          refine s_lconst G dX6_oneOf_33 (v := 0) (by decide) ?_
          have h8 := chk_1 hf
          replace hf := chk_2 hf
          refine s_last G dX6_oneOf_34 (by decide) rfl h8 ?_
          refine s_st (fun σ9 eσ9 => ?_)
          replace hf := nm_at eσ9 hf
          refine s_iinc G dX6_oneOf_35 rfl (v := (x1 + 1)) rfl (by decide) rfl rfl ?_
          refine s_goto (tgt := 2) G dX6_oneOf_38 (by decide) ?_
          exact ih (x1 + 1) σ9 hf
        · replace hf := ifp c7 hf
          refine s_ldc2 G dX6_oneOf_27 kc_X6_111 ?_
          refine s_goto (tgt := 34) G dX6_oneOf_30 (by decide) ?_
          have h10 := chk_1 hf
          replace hf := chk_2 hf
          refine s_last G dX6_oneOf_34 (by decide) rfl h10 ?_
          refine s_st (fun σ11 eσ11 => ?_)
          replace hf := nm_at eσ11 hf
          refine s_iinc G dX6_oneOf_35 rfl (v := (x1 + 1)) rfl (by decide) rfl rfl ?_
          refine s_goto (tgt := 2) G dX6_oneOf_38 (by decide) ?_
          exact ih (x1 + 1) σ11 hf
      · replace hf := ifp c6 hf
        refine s_lconst G dX6_oneOf_18 (v := 1) (by decide) ?_
        refine s_goto (tgt := 34) G dX6_oneOf_19 (by decide) ?_
        have h12 := chk_1 hf
        replace hf := chk_2 hf
        refine s_last G dX6_oneOf_34 (by decide) rfl h12 ?_
        refine s_st (fun σ13 eσ13 => ?_)
        replace hf := nm_at eσ13 hf
        refine s_iinc G dX6_oneOf_35 rfl (v := (x1 + 1)) rfl (by decide) rfl rfl ?_
        refine s_goto (tgt := 2) G dX6_oneOf_38 (by decide) ?_
        exact ih (x1 + 1) σ13 hf
set_option maxRecDepth 100000 in
set_option maxHeartbeats 4000000 in
theorem c_X6_oneOf {a1 : Int32} {a2 : Int32} {σ : St} {res : St} (hf : f_X6_oneOf a1 a2 σ = some res) : Mt mX6_oneOf [.ref 87, .int a1, .int a2] σ none res := by
  unfold f_X6_oneOf at hf
  refine mt_of (by decide) (Nat.le_of_ble_eq_true rfl) [some (.ref 87), some (.int a1), some (.int a2), none] rfl (fun Γ G hR => ?_)
  have G : OK Γ RX6 cX6_oneOf 4 none 0 0 := G
  refine s_iconst G dX6_oneOf_0 (v := 0) (by decide) ?_
  refine s_istore_n G dX6_oneOf_1 rfl (by decide) rfl rfl ?_
  refine l_X6_oneOf_2 G hR a1 a2 _ (fun σ14 hf => ?_) 1000 (0 : Int32) σ hf
  replace hf := Option.some.inj hf
  subst hf
  exact s_vret G hR dX6_oneOf_41 rfl rfl
def f_X6_flowOf (a1 : Int32) (a2 : Int32) (σ : St) : Option (Int64 × St) :=
(f_X6_has a2 a1 σ).bind (fun q1 =>
  if q1.1 = 0 then
    (some ((0 : Int64), q1.2))
  else
    ((f_X6_lineAt a1 (2 : Int32) q1.2).bind (fun q3 =>
    (f_X6_lineAt a1 (0 : Int32) q3.2).bind (fun q4 =>
    chk (ib q4.1 6) (
    (f_X6_lineAt a1 (1 : Int32) q4.2).bind (fun q6 =>
    chk (ib q6.1 6) (
    some ((q3.1.toInt64 * ((q4.2.2 95 q4.1.toNatClampNeg) - (q6.2.2 95 q6.1.toNatClampNeg))), q6.2))))))))
abbrev mX6_flowOf : Me := (yX6_flowOf, cX6_flowOf, 3, (some .long), 1, 22)
set_option maxRecDepth 100000 in
set_option maxHeartbeats 4000000 in
theorem c_X6_flowOf {a1 : Int32} {a2 : Int32} {σ : St} {res : Int64 × St} (hf : f_X6_flowOf a1 a2 σ = some res) : Mt mX6_flowOf [.ref 87, .int a1, .int a2] σ (some (.long res.1)) res.2 := by
  unfold f_X6_flowOf at hf
  refine mt_of (by decide) (Nat.le_of_ble_eq_true rfl) [some (.ref 87), some (.int a1), some (.int a2)] rfl (fun Γ G hR => ?_)
  have G : OK Γ RX6 cX6_flowOf 3 (some .long) 1 22 := G
  refine s_iload_n G dX6_flowOf_0 rfl ?_
  refine s_iload_n G dX6_flowOf_1 rfl ?_
  obtain ⟨q1, hq1, hf⟩ := bnd hf
  refine s_callS G dX6_flowOf_2 (c_X6_has hq1) lkM_X6_81 yk_X6_has ys_X6_has _ [] rfl rfl rfl (Nat.le_of_ble_eq_true rfl) (by decide) ?_
  refine s_if_eq (tgt := 42) G dX6_flowOf_5 (by decide) (fun c2 => ?_) (fun c2 => ?_)
  · replace hf := ifp c2 hf
    refine s_lconst G dX6_flowOf_42 (v := 0) (by decide) ?_
    replace hf := Option.some.inj hf
    subst hf
    exact s_lret G hR dX6_flowOf_43 rfl rfl
  · replace hf := ifn c2 hf
    refine s_aload_n G dX6_flowOf_8 rfl ?_
    refine s_iload_n G dX6_flowOf_9 rfl ?_
    refine s_iconst G dX6_flowOf_10 (v := 2) (by decide) ?_
    obtain ⟨q3, hq3, hf⟩ := bnd hf
    refine s_callV G dX6_flowOf_11 (c_X6_lineAt hq3) lkM_X6_69 yk_X6_lineAt yv_X6_lineAt (by decide) rfl rfl _ [] rfl rfl rfl (Nat.le_of_ble_eq_true rfl) (by decide) ?_
    refine s_i2l G dX6_flowOf_14 ?_
    refine s_aload_n G dX6_flowOf_15 rfl ?_
    refine s_getR G dX6_flowOf_16 lkF_X6_32 (by decide) rfl rfl ?_
    refine s_aload_n G dX6_flowOf_19 rfl ?_
    refine s_iload_n G dX6_flowOf_20 rfl ?_
    refine s_iconst G dX6_flowOf_21 (v := 0) (by decide) ?_
    obtain ⟨q4, hq4, hf⟩ := bnd hf
    refine s_callV G dX6_flowOf_22 (c_X6_lineAt hq4) lkM_X6_69 yk_X6_lineAt yv_X6_lineAt (by decide) rfl rfl _ [.ref 95, .long q3.1.toInt64] rfl rfl rfl (Nat.le_of_ble_eq_true rfl) (by decide) ?_
    have h5 := chk_1 hf
    replace hf := chk_2 hf
    refine s_lald G dX6_flowOf_25 (by decide) rfl h5 ?_
    refine s_aload_n G dX6_flowOf_26 rfl ?_
    refine s_getR G dX6_flowOf_27 lkF_X6_32 (by decide) rfl rfl ?_
    refine s_aload_n G dX6_flowOf_30 rfl ?_
    refine s_iload_n G dX6_flowOf_31 rfl ?_
    refine s_iconst G dX6_flowOf_32 (v := 1) (by decide) ?_
    obtain ⟨q6, hq6, hf⟩ := bnd hf
    refine s_callV G dX6_flowOf_33 (c_X6_lineAt hq6) lkM_X6_69 yk_X6_lineAt yv_X6_lineAt (by decide) rfl rfl _ [.ref 95, .long (q4.2.2 95 q4.1.toNatClampNeg), .long q3.1.toInt64] rfl rfl rfl (Nat.le_of_ble_eq_true rfl) (by decide) ?_
    have h7 := chk_1 hf
    replace hf := chk_2 hf
    refine s_lald G dX6_flowOf_36 (by decide) rfl h7 ?_
    refine s_lsub G dX6_flowOf_37 ?_
    refine s_lmul G dX6_flowOf_38 ?_
    refine s_goto (tgt := 43) G dX6_flowOf_39 (by decide) ?_
    replace hf := Option.some.inj hf
    subst hf
    exact s_lret G hR dX6_flowOf_43 rfl rfl
def f_X6_flowTold (a1 : Int32) (a2 : Int32) (a3 : Int32) (σ : St) : Option (Int64 × St) :=
(f_X6_flowOf a1 a2 σ).bind (fun q1 =>
  (f_X6_lineAt a1 (0 : Int32) q1.2).bind (fun q2 =>
  chk (ib q2.1 6) (
  (f_X6_part q1.1 (q2.2.2 96 q2.1.toNatClampNeg) a3 q2.2).bind (fun q4 =>
  some (q4.1, q4.2)))))
abbrev mX6_flowTold : Me := (yX6_flowTold, cX6_flowTold, 4, (some .long), 2, 55)
set_option maxRecDepth 100000 in
set_option maxHeartbeats 4000000 in
theorem c_X6_flowTold {a1 : Int32} {a2 : Int32} {a3 : Int32} {σ : St} {res : Int64 × St} (hf : f_X6_flowTold a1 a2 a3 σ = some res) : Mt mX6_flowTold [.ref 87, .int a1, .int a2, .int a3] σ (some (.long res.1)) res.2 := by
  unfold f_X6_flowTold at hf
  refine mt_of (by decide) (Nat.le_of_ble_eq_true rfl) [some (.ref 87), some (.int a1), some (.int a2), some (.int a3)] rfl (fun Γ G hR => ?_)
  have G : OK Γ RX6 cX6_flowTold 4 (some .long) 2 55 := G
  refine s_aload_n G dX6_flowTold_0 rfl ?_
  refine s_iload_n G dX6_flowTold_1 rfl ?_
  refine s_iload_n G dX6_flowTold_2 rfl ?_
  obtain ⟨q1, hq1, hf⟩ := bnd hf
  refine s_callV G dX6_flowTold_3 (c_X6_flowOf hq1) lkM_X6_113 yk_X6_flowOf yv_X6_flowOf (by decide) rfl rfl _ [] rfl rfl rfl (Nat.le_of_ble_eq_true rfl) (by decide) ?_
  refine s_aload_n G dX6_flowTold_6 rfl ?_
  refine s_getR G dX6_flowTold_7 lkF_X6_35 (by decide) rfl rfl ?_
  refine s_aload_n G dX6_flowTold_10 rfl ?_
  refine s_iload_n G dX6_flowTold_11 rfl ?_
  refine s_iconst G dX6_flowTold_12 (v := 0) (by decide) ?_
  obtain ⟨q2, hq2, hf⟩ := bnd hf
  refine s_callV G dX6_flowTold_13 (c_X6_lineAt hq2) lkM_X6_69 yk_X6_lineAt yv_X6_lineAt (by decide) rfl rfl _ [.ref 96, .long q1.1] rfl rfl rfl (Nat.le_of_ble_eq_true rfl) (by decide) ?_
  have h3 := chk_1 hf
  replace hf := chk_2 hf
  refine s_lald G dX6_flowTold_16 (by decide) rfl h3 ?_
  refine s_iload_n G dX6_flowTold_17 rfl ?_
  obtain ⟨q4, hq4, hf⟩ := bnd hf
  refine s_callS G dX6_flowTold_18 (c_X6_part hq4) lkM_X6_116 yk_X6_part ys_X6_part _ [] rfl rfl rfl (Nat.le_of_ble_eq_true rfl) (by decide) ?_
  replace hf := Option.some.inj hf
  subst hf
  exact s_lret G hR dX6_flowTold_21 rfl rfl
def f_X6_aside_2 (k3 : St → Option (St)) : Nat → Int32 → St → Option (St)
  | 0, _, _ => none
  | n4 + 1, x1, σ2 =>
    if (58 : Int32) ≤ x1 then
      (k3 σ2)
    else
      (chk (ib x1 58) (
      nm (sI σ2 90 x1.toNatClampNeg (σ2.1 88 x1.toNatClampNeg)) (fun σ7 : St =>
      f_X6_aside_2 k3 n4 (x1 + 1) σ7)))
def f_X6_aside (σ : St) : Option (St) :=
f_X6_aside_2 (fun (σ8 : St) =>
    some σ8) 1000 (0 : Int32) σ
abbrev mX6_aside : Me := (yX6_aside, cX6_aside, 2, none, 0, 0)
set_option maxRecDepth 100000 in
set_option maxHeartbeats 4000000 in
theorem l_X6_aside_2 {Γ : Cxt} (G : OK Γ RX6 cX6_aside 2 none 0 0) {res : St} (hR : RetOK Γ none res) (k3 : St → Option (St)) (hk : ∀ (z : St), k3 z = some res → WW Γ 26 [none, none] [] z) : ∀ (n4 : Nat) (x1 : Int32) (σ2 : St), f_X6_aside_2 k3 n4 x1 σ2 = some res → WW Γ 2 [some (.ref 87), some (.int x1)] [] σ2 := by
  intro n4
  induction n4 with
  | zero =>
    intro x1 σ2 hf
    cases hf
  | succ n4 ih =>
    intro x1 σ2 hf
    unfold f_X6_aside_2 at hf
    refine s_iload_n G dX6_aside_2 rfl ?_
    refine s_bipush G dX6_aside_3 (v := 58) (by decide) ?_
    refine s_icmp_ge (tgt := 26) G dX6_aside_5 (by decide) (fun c5 => ?_) (fun c5 => ?_)
    · replace hf := ifp c5 hf
      refine s_fgt [false, false] rfl ?_
      exact hk σ2 hf
    · replace hf := ifn c5 hf
      refine s_aload_n G dX6_aside_8 rfl ?_
      refine s_getR G dX6_aside_9 lkF_X6_16 (by decide) rfl rfl ?_
      refine s_iload_n G dX6_aside_12 rfl ?_
      refine s_aload_n G dX6_aside_13 rfl ?_
      refine s_getR G dX6_aside_14 lkF_X6_7 (by decide) rfl rfl ?_
      refine s_iload_n G dX6_aside_17 rfl ?_
      have h6 := chk_1 hf
      replace hf := chk_2 hf
      refine s_iald G dX6_aside_18 (by decide) rfl h6 ?_
      refine s_iast G dX6_aside_19 (by decide) rfl h6 ?_
      refine s_st (fun σ7 eσ7 => ?_)
      replace hf := nm_at eσ7 hf
      refine s_iinc G dX6_aside_20 rfl (v := (x1 + 1)) rfl (by decide) rfl rfl ?_
      refine s_goto (tgt := 2) G dX6_aside_23 (by decide) ?_
      exact ih (x1 + 1) σ7 hf
set_option maxRecDepth 100000 in
set_option maxHeartbeats 4000000 in
theorem c_X6_aside  {σ : St} {res : St} (hf : f_X6_aside σ = some res) : Mt mX6_aside [.ref 87] σ none res := by
  unfold f_X6_aside at hf
  refine mt_of (by decide) (Nat.le_of_ble_eq_true rfl) [some (.ref 87), none] rfl (fun Γ G hR => ?_)
  have G : OK Γ RX6 cX6_aside 2 none 0 0 := G
  refine s_iconst G dX6_aside_0 (v := 0) (by decide) ?_
  refine s_istore_n G dX6_aside_1 rfl (by decide) rfl rfl ?_
  refine l_X6_aside_2 G hR _ (fun σ8 hf => ?_) 1000 (0 : Int32) σ hf
  replace hf := Option.some.inj hf
  subst hf
  exact s_vret G hR dX6_aside_26 rfl rfl
def f_X6_keeps_51 (k5 : St → Option (St)) : Nat → Int32 → St → Option (St)
  | 0, _, _ => none
  | n6 + 1, x3, σ4 =>
    if (58 : Int32) ≤ x3 then
      (k5 σ4)
    else
      (chk (ib x3 58) (
      chk (ib (((58 : Int32) * (σ4.1 87 3)) + x3) 464) (
      nm (sI σ4 89 (((58 : Int32) * (σ4.1 87 3)) + x3).toNatClampNeg (σ4.1 90 x3.toNatClampNeg)) (fun σ10 : St =>
      f_X6_keeps_51 k5 n6 (x3 + 1) σ10))))
def f_X6_keeps_11 (k16 : St → Option (St)) : Nat → Int32 → St → Option (St)
  | 0, _, _ => none
  | n17 + 1, x14, σ15 =>
    if (406 : Int32) ≤ x14 then
      (k16 σ15)
    else
      (chk (ib (x14 + (58 : Int32)) 464) (
      chk (ib x14 464) (
      nm (sI σ15 89 x14.toNatClampNeg (σ15.1 89 (x14 + (58 : Int32)).toNatClampNeg)) (fun σ21 : St =>
      f_X6_keeps_11 k16 n17 (x14 + 1) σ21))))
def f_X6_keeps (σ : St) : Option (St) :=
jn (fun q1 : St =>
    (f_X6_keeps_51 (fun (σ11 : St) =>
      nm (sI σ11 87 3 ((σ11.1 87 3) + (1 : Int32))) (fun σ12 : St =>
      some σ12)) 1000 (0 : Int32) q1)) (fun j2 =>
    if (σ.1 87 3) = (8 : Int32) then
      (f_X6_keeps_11 (fun (σ22 : St) =>
        nm (sI σ22 87 3 ((σ22.1 87 3) - (1 : Int32))) (fun σ23 : St =>
        j2 σ23)) 1000 (0 : Int32) σ)
    else
      (j2 σ))
abbrev mX6_keeps : Me := (yX6_keeps, cX6_keeps, 2, none, 0, 0)
set_option maxRecDepth 100000 in
set_option maxHeartbeats 4000000 in
theorem l_X6_keeps_51 {Γ : Cxt} (G : OK Γ RX6 cX6_keeps 2 none 0 0) {res : St} (hR : RetOK Γ none res) (k5 : St → Option (St)) (hk : ∀ (z : St), k5 z = some res → WW Γ 83 [some (.ref 87), none] [] z) : ∀ (n6 : Nat) (x3 : Int32) (σ4 : St), f_X6_keeps_51 k5 n6 x3 σ4 = some res → WW Γ 51 [some (.ref 87), some (.int x3)] [] σ4 := by
  intro n6
  induction n6 with
  | zero =>
    intro x3 σ4 hf
    cases hf
  | succ n6 ih =>
    intro x3 σ4 hf
    unfold f_X6_keeps_51 at hf
    refine s_iload_n G dX6_keeps_51 rfl ?_
    refine s_bipush G dX6_keeps_52 (v := 58) (by decide) ?_
    refine s_icmp_ge (tgt := 83) G dX6_keeps_54 (by decide) (fun c7 => ?_) (fun c7 => ?_)
    · replace hf := ifp c7 hf
      refine s_fgt [true, false] rfl ?_
      exact hk σ4 hf
    · replace hf := ifn c7 hf
      refine s_aload_n G dX6_keeps_57 rfl ?_
      refine s_getR G dX6_keeps_58 lkF_X6_13 (by decide) rfl rfl ?_
      refine s_bipush G dX6_keeps_61 (v := 58) (by decide) ?_
      refine s_aload_n G dX6_keeps_63 rfl ?_
      refine s_getI (n := 0) G dX6_keeps_64 lkF_X6_120 (by decide) rfl rfl ?_
      refine s_imul G dX6_keeps_67 ?_
      refine s_iload_n G dX6_keeps_68 rfl ?_
      refine s_iadd G dX6_keeps_69 ?_
      refine s_aload_n G dX6_keeps_70 rfl ?_
      refine s_getR G dX6_keeps_71 lkF_X6_16 (by decide) rfl rfl ?_
      refine s_iload_n G dX6_keeps_74 rfl ?_
      have h8 := chk_1 hf
      replace hf := chk_2 hf
      refine s_iald G dX6_keeps_75 (by decide) rfl h8 ?_
      have h9 := chk_1 hf
      replace hf := chk_2 hf
      refine s_iast G dX6_keeps_76 (by decide) rfl h9 ?_
      refine s_st (fun σ10 eσ10 => ?_)
      replace hf := nm_at eσ10 hf
      refine s_iinc G dX6_keeps_77 rfl (v := (x3 + 1)) rfl (by decide) rfl rfl ?_
      refine s_goto (tgt := 51) G dX6_keeps_80 (by decide) ?_
      exact ih (x3 + 1) σ10 hf
set_option maxRecDepth 100000 in
set_option maxHeartbeats 4000000 in
theorem l_X6_keeps_11 {Γ : Cxt} (G : OK Γ RX6 cX6_keeps 2 none 0 0) {res : St} (hR : RetOK Γ none res) (k16 : St → Option (St)) (hk : ∀ (z : St), k16 z = some res → WW Γ 39 [some (.ref 87), none] [] z) : ∀ (n17 : Nat) (x14 : Int32) (σ15 : St), f_X6_keeps_11 k16 n17 x14 σ15 = some res → WW Γ 11 [some (.ref 87), some (.int x14)] [] σ15 := by
  intro n17
  induction n17 with
  | zero =>
    intro x14 σ15 hf
    cases hf
  | succ n17 ih =>
    intro x14 σ15 hf
    unfold f_X6_keeps_11 at hf
    refine s_iload_n G dX6_keeps_11 rfl ?_
    refine s_sipush G dX6_keeps_12 (v := 406) (by decide) ?_
    refine s_icmp_ge (tgt := 39) G dX6_keeps_15 (by decide) (fun c18 => ?_) (fun c18 => ?_)
    · replace hf := ifp c18 hf
      refine s_fgt [true, false] rfl ?_
      exact hk σ15 hf
    · replace hf := ifn c18 hf
      refine s_aload_n G dX6_keeps_18 rfl ?_
      refine s_getR G dX6_keeps_19 lkF_X6_13 (by decide) rfl rfl ?_
      refine s_iload_n G dX6_keeps_22 rfl ?_
      refine s_aload_n G dX6_keeps_23 rfl ?_
      refine s_getR G dX6_keeps_24 lkF_X6_13 (by decide) rfl rfl ?_
      refine s_iload_n G dX6_keeps_27 rfl ?_
      refine s_bipush G dX6_keeps_28 (v := 58) (by decide) ?_
      refine s_iadd G dX6_keeps_30 ?_
      have h19 := chk_1 hf
      replace hf := chk_2 hf
      refine s_iald G dX6_keeps_31 (by decide) rfl h19 ?_
      have h20 := chk_1 hf
      replace hf := chk_2 hf
      refine s_iast G dX6_keeps_32 (by decide) rfl h20 ?_
      refine s_st (fun σ21 eσ21 => ?_)
      replace hf := nm_at eσ21 hf
      refine s_iinc G dX6_keeps_33 rfl (v := (x14 + 1)) rfl (by decide) rfl rfl ?_
      refine s_goto (tgt := 11) G dX6_keeps_36 (by decide) ?_
      exact ih (x14 + 1) σ21 hf
set_option maxRecDepth 100000 in
set_option maxHeartbeats 4000000 in
theorem c_X6_keeps  {σ : St} {res : St} (hf : f_X6_keeps σ = some res) : Mt mX6_keeps [.ref 87] σ none res := by
  unfold f_X6_keeps at hf
  refine mt_of (by decide) (Nat.le_of_ble_eq_true rfl) [some (.ref 87), none] rfl (fun Γ G hR => ?_)
  have G : OK Γ RX6 cX6_keeps 2 none 0 0 := G
  refine s_aload_n G dX6_keeps_0 rfl ?_
  refine s_getI (n := 0) G dX6_keeps_1 lkF_X6_120 (by decide) rfl rfl ?_
  refine s_bipush G dX6_keeps_4 (v := 8) (by decide) ?_
  refine jn_w (fun q1 : St => WW Γ 49 [some (.ref 87), none] [] q1) hf (fun q1 hf => ?_) (fun j2 hj2 hf => ?_)
  · refine s_iconst G dX6_keeps_49 (v := 0) (by decide) ?_
    refine s_istore_n G dX6_keeps_50 rfl (by decide) rfl rfl ?_
    refine l_X6_keeps_51 G hR _ (fun σ11 hf => ?_) 1000 (0 : Int32) q1 hf
    refine s_aload_n G dX6_keeps_83 rfl ?_
    refine s_dup G dX6_keeps_84 rfl ?_
    refine s_getI (n := 0) G dX6_keeps_85 lkF_X6_120 (by decide) rfl rfl ?_
    refine s_iconst G dX6_keeps_88 (v := 1) (by decide) ?_
    refine s_iadd G dX6_keeps_89 ?_
    refine s_putI G dX6_keeps_90 lkP_X6_120 (by decide) rfl rfl ?_
    refine s_st (fun σ12 eσ12 => ?_)
    replace hf := nm_at eσ12 hf
    replace hf := Option.some.inj hf
    subst hf
    exact s_vret G hR dX6_keeps_93 rfl rfl
  · refine s_icmp_ne (tgt := 49) G dX6_keeps_6 (by decide) (fun c13 => ?_) (fun c13 => ?_)
    · replace hf := ifn c13 hf
      exact hj2 _ hf
    · replace hf := ifp c13 hf
      refine s_iconst G dX6_keeps_9 (v := 0) (by decide) ?_
      refine s_istore_n G dX6_keeps_10 rfl (by decide) rfl rfl ?_
      refine l_X6_keeps_11 G hR _ (fun σ22 hf => ?_) 1000 (0 : Int32) σ hf
      refine s_aload_n G dX6_keeps_39 rfl ?_
      refine s_dup G dX6_keeps_40 rfl ?_
      refine s_getI (n := 0) G dX6_keeps_41 lkF_X6_120 (by decide) rfl rfl ?_
      refine s_iconst G dX6_keeps_44 (v := 1) (by decide) ?_
      refine s_isub G dX6_keeps_45 ?_
      refine s_putI G dX6_keeps_46 lkP_X6_120 (by decide) rfl rfl ?_
      refine s_st (fun σ23 eσ23 => ?_)
      replace hf := nm_at eσ23 hf
      exact hj2 _ hf
def f_X6_areBuses (a1 : Int32) (σ : St) : Option (Int32 × St) :=
(f_X6_in a1.toInt64 (2 : Int64) (6 : Int64) σ).bind (fun q1 =>
  chk (decide (q1.1 = 0 ∨ q1.1 = 1)) (
  some (q1.1, q1.2)))
abbrev mX6_areBuses : Me := (yX6_areBuses, cX6_areBuses, 1, (some .boolean), 1, 25)
set_option maxRecDepth 100000 in
set_option maxHeartbeats 4000000 in
theorem c_X6_areBuses {a1 : Int32} {σ : St} {res : Int32 × St} (hf : f_X6_areBuses a1 σ = some res) : Mt mX6_areBuses [.int a1] σ (some (.int res.1)) res.2 := by
  unfold f_X6_areBuses at hf
  refine mt_of (by decide) (Nat.le_of_ble_eq_true rfl) [some (.int a1)] rfl (fun Γ G hR => ?_)
  have G : OK Γ RX6 cX6_areBuses 1 (some .boolean) 1 25 := G
  refine s_iload_n G dX6_areBuses_0 rfl ?_
  refine s_i2l G dX6_areBuses_1 ?_
  refine s_ldc2 G dX6_areBuses_2 kc_X6_123 ?_
  refine s_ldc2 G dX6_areBuses_5 kc_X6_125 ?_
  obtain ⟨q1, hq1, hf⟩ := bnd hf
  refine s_callS G dX6_areBuses_8 (c_X6_in hq1) lkM_X6_65 yk_X6_in ys_X6_in _ [] rfl rfl rfl (Nat.le_of_ble_eq_true rfl) (by decide) ?_
  have h2 := chk_1 hf
  replace hf := chk_2 hf
  replace hf := Option.some.inj hf
  subst hf
  exact s_zret G hR dX6_areBuses_11 h2 rfl rfl
def f_X6_beginsNow_23 (x1 : Int32) (k6 : St → Option (Int32 × St)) : Nat → Int32 → St → Option (Int32 × St)
  | 0, _, _ => none
  | n7 + 1, x4, σ5 =>
    if (6 : Int32) ≤ x4 then
      (k6 σ5)
    else
      (chk (ib ((2 : Int32) + x4) 58) (
      nm (sI σ5 88 ((2 : Int32) + x4).toNatClampNeg (0 : Int32)) (fun σ10 : St =>
      f_X6_beginsNow_23 x1 k6 n7 (x4 + 1) σ10)))
def f_X6_beginsNow (a1 : Int32) (σ : St) : Option (Int32 × St) :=
nm (σ.1 88 (0 : Int32).toNatClampNeg) (fun x1 : Int32 =>
  nm (sI σ 88 (0 : Int32).toNatClampNeg a1) (fun σ2 : St =>
  nm (sI σ2 88 (1 : Int32).toNatClampNeg (0 : Int32)) (fun σ3 : St =>
  f_X6_beginsNow_23 x1 (fun (σ11 : St) =>
    some (x1, σ11)) 1000 (0 : Int32) σ3)))
abbrev mX6_beginsNow : Me := (yX6_beginsNow, cX6_beginsNow, 4, (some .int), 0, 0)
set_option maxRecDepth 100000 in
set_option maxHeartbeats 4000000 in
theorem l_X6_beginsNow_23 {Γ : Cxt} (G : OK Γ RX6 cX6_beginsNow 4 (some .int) 0 0) {res : Int32 × St} (hR : RetOK Γ (some (.int res.1)) res.2) (x1 : Int32) (k6 : St → Option (Int32 × St)) (hk : ∀ (z : St), k6 z = some res → WW Γ 44 [none, none, some (.int x1), none] [] z) : ∀ (n7 : Nat) (x4 : Int32) (σ5 : St), f_X6_beginsNow_23 x1 k6 n7 x4 σ5 = some res → WW Γ 23 [some (.ref 87), none, some (.int x1), some (.int x4)] [] σ5 := by
  intro n7
  induction n7 with
  | zero =>
    intro x4 σ5 hf
    cases hf
  | succ n7 ih =>
    intro x4 σ5 hf
    unfold f_X6_beginsNow_23 at hf
    refine s_iload_n G dX6_beginsNow_23 rfl ?_
    refine s_bipush G dX6_beginsNow_24 (v := 6) (by decide) ?_
    refine s_icmp_ge (tgt := 44) G dX6_beginsNow_26 (by decide) (fun c8 => ?_) (fun c8 => ?_)
    · replace hf := ifp c8 hf
      refine s_fgt [false, true, true, false] rfl ?_
      exact hk σ5 hf
    · replace hf := ifn c8 hf
      refine s_aload_n G dX6_beginsNow_29 rfl ?_
      refine s_getR G dX6_beginsNow_30 lkF_X6_7 (by decide) rfl rfl ?_
      refine s_iconst G dX6_beginsNow_33 (v := 2) (by decide) ?_
      refine s_iload_n G dX6_beginsNow_34 rfl ?_
      refine s_iadd G dX6_beginsNow_35 ?_
      refine s_iconst G dX6_beginsNow_36 (v := 0) (by decide) ?_
      have h9 := chk_1 hf
      replace hf := chk_2 hf
      refine s_iast G dX6_beginsNow_37 (by decide) rfl h9 ?_
      refine s_st (fun σ10 eσ10 => ?_)
      replace hf := nm_at eσ10 hf
      refine s_iinc G dX6_beginsNow_38 rfl (v := (x4 + 1)) rfl (by decide) rfl rfl ?_
      refine s_goto (tgt := 23) G dX6_beginsNow_41 (by decide) ?_
      exact ih (x4 + 1) σ10 hf
set_option maxRecDepth 100000 in
set_option maxHeartbeats 4000000 in
theorem c_X6_beginsNow {a1 : Int32} {σ : St} {res : Int32 × St} (hf : f_X6_beginsNow a1 σ = some res) : Mt mX6_beginsNow [.ref 87, .int a1] σ (some (.int res.1)) res.2 := by
  unfold f_X6_beginsNow at hf
  refine mt_of (by decide) (Nat.le_of_ble_eq_true rfl) [some (.ref 87), some (.int a1), none, none] rfl (fun Γ G hR => ?_)
  have G : OK Γ RX6 cX6_beginsNow 4 (some .int) 0 0 := G
  refine s_aload_n G dX6_beginsNow_0 rfl ?_
  refine s_getR G dX6_beginsNow_1 lkF_X6_7 (by decide) rfl rfl ?_
  refine s_iconst G dX6_beginsNow_4 (v := 0) (by decide) ?_
  refine s_iald G dX6_beginsNow_5 (by decide) rfl (by decide) ?_
  refine s_topi (fun x1 ex1 => ?_)
  replace hf := nm_at ex1 hf
  refine s_istore_n G dX6_beginsNow_6 rfl (by decide) rfl rfl ?_
  refine s_aload_n G dX6_beginsNow_7 rfl ?_
  refine s_getR G dX6_beginsNow_8 lkF_X6_7 (by decide) rfl rfl ?_
  refine s_iconst G dX6_beginsNow_11 (v := 0) (by decide) ?_
  refine s_iload_n G dX6_beginsNow_12 rfl ?_
  refine s_iast G dX6_beginsNow_13 (by decide) rfl (by decide) ?_
  refine s_st (fun σ2 eσ2 => ?_)
  replace hf := nm_at eσ2 hf
  refine s_aload_n G dX6_beginsNow_14 rfl ?_
  refine s_getR G dX6_beginsNow_15 lkF_X6_7 (by decide) rfl rfl ?_
  refine s_iconst G dX6_beginsNow_18 (v := 1) (by decide) ?_
  refine s_iconst G dX6_beginsNow_19 (v := 0) (by decide) ?_
  refine s_iast G dX6_beginsNow_20 (by decide) rfl (by decide) ?_
  refine s_st (fun σ3 eσ3 => ?_)
  replace hf := nm_at eσ3 hf
  refine s_iconst G dX6_beginsNow_21 (v := 0) (by decide) ?_
  refine s_istore_n G dX6_beginsNow_22 rfl (by decide) rfl rfl ?_
  refine s_fgt [true, false, true, true] rfl ?_
  refine l_X6_beginsNow_23 G hR x1 _ (fun σ11 hf => ?_) 1000 (0 : Int32) σ3 hf
  refine s_iload_n G dX6_beginsNow_44 rfl ?_
  replace hf := Option.some.inj hf
  subst hf
  exact s_iret G hR dX6_beginsNow_45 rfl rfl
def f_X6_begins (a1 : Int32) (σ : St) : Option (Int32 × St) :=
(f_X6_areBuses a1 σ).bind (fun q1 =>
  if q1.1 = 0 then
    ((f_X6_refuses (-2 : Int32) q1.2).bind (fun q6 =>
    some (q6.1, q6.2)))
  else
    ((f_X6_aside q1.2).bind (fun q3 =>
    (f_X6_keeps q3).bind (fun q4 =>
    (f_X6_beginsNow a1 q4).bind (fun q5 =>
    some (q5.1, q5.2))))))
abbrev mX6_begins : Me := (yX6_begins, cX6_begins, 2, (some .int), 2, 45)
set_option maxRecDepth 100000 in
set_option maxHeartbeats 4000000 in
theorem c_X6_begins {a1 : Int32} {σ : St} {res : Int32 × St} (hf : f_X6_begins a1 σ = some res) : Mt mX6_begins [.ref 87, .int a1] σ (some (.int res.1)) res.2 := by
  unfold f_X6_begins at hf
  refine mt_of (by decide) (Nat.le_of_ble_eq_true rfl) [some (.ref 87), some (.int a1)] rfl (fun Γ G hR => ?_)
  have G : OK Γ RX6 cX6_begins 2 (some .int) 2 45 := G
  refine s_iload_n G dX6_begins_0 rfl ?_
  obtain ⟨q1, hq1, hf⟩ := bnd hf
  refine s_callS G dX6_begins_1 (c_X6_areBuses hq1) lkM_X6_127 yk_X6_areBuses ys_X6_areBuses _ [] rfl rfl rfl (Nat.le_of_ble_eq_true rfl) (by decide) ?_
  refine s_if_ne (tgt := 14) G dX6_begins_4 (by decide) (fun c2 => ?_) (fun c2 => ?_)
  · replace hf := ifn c2 hf
    refine s_aload_n G dX6_begins_14 rfl ?_
    obtain ⟨q3, hq3, hf⟩ := bnd hf
    refine s_callV G dX6_begins_15 (c_X6_aside hq3) lkM_X6_134 yk_X6_aside yv_X6_aside (by decide) rfl rfl _ [] rfl rfl rfl (Nat.le_of_ble_eq_true rfl) (by decide) ?_
    refine s_aload_n G dX6_begins_18 rfl ?_
    obtain ⟨q4, hq4, hf⟩ := bnd hf
    refine s_callV G dX6_begins_19 (c_X6_keeps hq4) lkM_X6_137 yk_X6_keeps yv_X6_keeps (by decide) rfl rfl _ [] rfl rfl rfl (Nat.le_of_ble_eq_true rfl) (by decide) ?_
    refine s_aload_n G dX6_begins_22 rfl ?_
    refine s_iload_n G dX6_begins_23 rfl ?_
    obtain ⟨q5, hq5, hf⟩ := bnd hf
    refine s_callV G dX6_begins_24 (c_X6_beginsNow hq5) lkM_X6_140 yk_X6_beginsNow yv_X6_beginsNow (by decide) rfl rfl _ [] rfl rfl rfl (Nat.le_of_ble_eq_true rfl) (by decide) ?_
    replace hf := Option.some.inj hf
    subst hf
    exact s_iret G hR dX6_begins_27 rfl rfl
  · replace hf := ifp c2 hf
    refine s_aload_n G dX6_begins_7 rfl ?_
    refine s_bipush G dX6_begins_8 (v := -2) (by decide) ?_
    obtain ⟨q6, hq6, hf⟩ := bnd hf
    refine s_callV G dX6_begins_10 (c_X6_refuses hq6) lkM_X6_130 yk_X6_refuses yv_X6_refuses (by decide) rfl rfl _ [] rfl rfl rfl (Nat.le_of_ble_eq_true rfl) (by decide) ?_
    replace hf := Option.some.inj hf
    subst hf
    exact s_iret G hR dX6_begins_13 rfl rfl
def f_X6_mayFeed (a1 : Int32) (a2 : Int32) (σ : St) : Option (Int32 × St) :=
(f_X6_isBus a1 σ).bind (fun q1 =>
  if q1.1 = 0 then
    (some ((0 : Int32), q1.2))
  else
    ((f_X6_in a2.toInt64 (-99 : Int64) (99 : Int64) q1.2).bind (fun q3 =>
    if q3.1 = 0 then
      (some ((0 : Int32), q3.2))
    else
      (some ((1 : Int32), q3.2)))))
abbrev mX6_mayFeed : Me := (yX6_mayFeed, cX6_mayFeed, 3, (some .boolean), 2, 46)
set_option maxRecDepth 100000 in
set_option maxHeartbeats 4000000 in
theorem c_X6_mayFeed {a1 : Int32} {a2 : Int32} {σ : St} {res : Int32 × St} (hf : f_X6_mayFeed a1 a2 σ = some res) : Mt mX6_mayFeed [.ref 87, .int a1, .int a2] σ (some (.int res.1)) res.2 := by
  unfold f_X6_mayFeed at hf
  refine mt_of (by decide) (Nat.le_of_ble_eq_true rfl) [some (.ref 87), some (.int a1), some (.int a2)] rfl (fun Γ G hR => ?_)
  have G : OK Γ RX6 cX6_mayFeed 3 (some .boolean) 2 46 := G
  refine s_aload_n G dX6_mayFeed_0 rfl ?_
  refine s_iload_n G dX6_mayFeed_1 rfl ?_
  obtain ⟨q1, hq1, hf⟩ := bnd hf
  refine s_callV G dX6_mayFeed_2 (c_X6_isBus hq1) lkM_X6_143 yk_X6_isBus yv_X6_isBus (by decide) rfl rfl _ [] rfl rfl rfl (Nat.le_of_ble_eq_true rfl) (by decide) ?_
  refine s_if_eq (tgt := 26) G dX6_mayFeed_5 (by decide) (fun c2 => ?_) (fun c2 => ?_)
  · replace hf := ifp c2 hf
    refine s_iconst G dX6_mayFeed_26 (v := 0) (by decide) ?_
    replace hf := Option.some.inj hf
    subst hf
    exact s_zret G hR dX6_mayFeed_27 (by decide) rfl rfl
  · replace hf := ifn c2 hf
    refine s_iload_n G dX6_mayFeed_8 rfl ?_
    refine s_i2l G dX6_mayFeed_9 ?_
    refine s_ldc2 G dX6_mayFeed_10 kc_X6_146 ?_
    refine s_ldc2 G dX6_mayFeed_13 kc_X6_148 ?_
    obtain ⟨q3, hq3, hf⟩ := bnd hf
    refine s_callS G dX6_mayFeed_16 (c_X6_in hq3) lkM_X6_65 yk_X6_in ys_X6_in _ [] rfl rfl rfl (Nat.le_of_ble_eq_true rfl) (by decide) ?_
    refine s_if_eq (tgt := 26) G dX6_mayFeed_19 (by decide) (fun c4 => ?_) (fun c4 => ?_)
    · replace hf := ifp c4 hf
      refine s_iconst G dX6_mayFeed_26 (v := 0) (by decide) ?_
      replace hf := Option.some.inj hf
      subst hf
      exact s_zret G hR dX6_mayFeed_27 (by decide) rfl rfl
    · replace hf := ifn c4 hf
      refine s_iconst G dX6_mayFeed_22 (v := 1) (by decide) ?_
      refine s_goto (tgt := 27) G dX6_mayFeed_23 (by decide) ?_
      replace hf := Option.some.inj hf
      subst hf
      exact s_zret G hR dX6_mayFeed_27 (by decide) rfl rfl
def f_X6_feeds (a1 : Int32) (a2 : Int32) (σ : St) : Option (Int32 × St) :=
(f_X6_mayFeed a1 a2 σ).bind (fun q1 =>
  if q1.1 = 0 then
    ((f_X6_refuses (-2 : Int32) q1.2).bind (fun q8 =>
    some (q8.1, q8.2)))
  else
    ((f_X6_aside q1.2).bind (fun q3 =>
    (f_X6_keeps q3).bind (fun q4 =>
    chk (ib ((2 : Int32) + a1) 58) (
    nm (q4.1 88 ((2 : Int32) + a1).toNatClampNeg) (fun x6 : Int32 =>
    nm (sI q4 88 ((2 : Int32) + a1).toNatClampNeg a2) (fun σ7 : St =>
    some (x6, σ7))))))))
abbrev mX6_feeds : Me := (yX6_feeds, cX6_feeds, 4, (some .int), 3, 68)
set_option maxRecDepth 100000 in
set_option maxHeartbeats 4000000 in
theorem c_X6_feeds {a1 : Int32} {a2 : Int32} {σ : St} {res : Int32 × St} (hf : f_X6_feeds a1 a2 σ = some res) : Mt mX6_feeds [.ref 87, .int a1, .int a2] σ (some (.int res.1)) res.2 := by
  unfold f_X6_feeds at hf
  refine mt_of (by decide) (Nat.le_of_ble_eq_true rfl) [some (.ref 87), some (.int a1), some (.int a2), none] rfl (fun Γ G hR => ?_)
  have G : OK Γ RX6 cX6_feeds 4 (some .int) 3 68 := G
  refine s_aload_n G dX6_feeds_0 rfl ?_
  refine s_iload_n G dX6_feeds_1 rfl ?_
  refine s_iload_n G dX6_feeds_2 rfl ?_
  obtain ⟨q1, hq1, hf⟩ := bnd hf
  refine s_callV G dX6_feeds_3 (c_X6_mayFeed hq1) lkM_X6_150 yk_X6_mayFeed yv_X6_mayFeed (by decide) rfl rfl _ [] rfl rfl rfl (Nat.le_of_ble_eq_true rfl) (by decide) ?_
  refine s_if_ne (tgt := 16) G dX6_feeds_6 (by decide) (fun c2 => ?_) (fun c2 => ?_)
  · replace hf := ifn c2 hf
    refine s_aload_n G dX6_feeds_16 rfl ?_
    obtain ⟨q3, hq3, hf⟩ := bnd hf
    refine s_callV G dX6_feeds_17 (c_X6_aside hq3) lkM_X6_134 yk_X6_aside yv_X6_aside (by decide) rfl rfl _ [] rfl rfl rfl (Nat.le_of_ble_eq_true rfl) (by decide) ?_
    refine s_aload_n G dX6_feeds_20 rfl ?_
    obtain ⟨q4, hq4, hf⟩ := bnd hf
    refine s_callV G dX6_feeds_21 (c_X6_keeps hq4) lkM_X6_137 yk_X6_keeps yv_X6_keeps (by decide) rfl rfl _ [] rfl rfl rfl (Nat.le_of_ble_eq_true rfl) (by decide) ?_
    refine s_aload_n G dX6_feeds_24 rfl ?_
    refine s_getR G dX6_feeds_25 lkF_X6_7 (by decide) rfl rfl ?_
    refine s_iconst G dX6_feeds_28 (v := 2) (by decide) ?_
    refine s_iload_n G dX6_feeds_29 rfl ?_
    refine s_iadd G dX6_feeds_30 ?_
    have h5 := chk_1 hf
    replace hf := chk_2 hf
    refine s_iald G dX6_feeds_31 (by decide) rfl h5 ?_
    refine s_topi (fun x6 ex6 => ?_)
    replace hf := nm_at ex6 hf
    refine s_istore_n G dX6_feeds_32 rfl (by decide) rfl rfl ?_
    refine s_aload_n G dX6_feeds_33 rfl ?_
    refine s_getR G dX6_feeds_34 lkF_X6_7 (by decide) rfl rfl ?_
    refine s_iconst G dX6_feeds_37 (v := 2) (by decide) ?_
    refine s_iload_n G dX6_feeds_38 rfl ?_
    refine s_iadd G dX6_feeds_39 ?_
    refine s_iload_n G dX6_feeds_40 rfl ?_
    refine s_iast G dX6_feeds_41 (by decide) rfl h5 ?_
    refine s_st (fun σ7 eσ7 => ?_)
    replace hf := nm_at eσ7 hf
    refine s_iload_n G dX6_feeds_42 rfl ?_
    replace hf := Option.some.inj hf
    subst hf
    exact s_iret G hR dX6_feeds_43 rfl rfl
  · replace hf := ifp c2 hf
    refine s_aload_n G dX6_feeds_9 rfl ?_
    refine s_bipush G dX6_feeds_10 (v := -2) (by decide) ?_
    obtain ⟨q8, hq8, hf⟩ := bnd hf
    refine s_callV G dX6_feeds_12 (c_X6_refuses hq8) lkM_X6_130 yk_X6_refuses yv_X6_refuses (by decide) rfl rfl _ [] rfl rfl rfl (Nat.le_of_ble_eq_true rfl) (by decide) ?_
    replace hf := Option.some.inj hf
    subst hf
    exact s_iret G hR dX6_feeds_15 rfl rfl
def f_X6_isLineTold (a1 : Int32) (a2 : Int32) (a3 : Int32) (a4 : Int32) (σ : St) : Option (Int32 × St) :=
(f_X6_isBus a1 σ).bind (fun q1 =>
  if q1.1 = 0 then
    (some ((0 : Int32), q1.2))
  else
    ((f_X6_isBus a2 q1.2).bind (fun q3 =>
    if q3.1 = 0 then
      (some ((0 : Int32), q3.2))
    else
      (if a1 = a2 then
        (some ((0 : Int32), q3.2))
      else
        ((f_X6_in a3.toInt64 (1 : Int64) (5 : Int64) q3.2).bind (fun q6 =>
        if q6.1 = 0 then
          (some ((0 : Int32), q6.2))
        else
          ((f_X6_in a4.toInt64 (1 : Int64) (999 : Int64) q6.2).bind (fun q8 =>
          if q8.1 = 0 then
            (some ((0 : Int32), q8.2))
          else
            (some ((1 : Int32), q8.2))))))))))
abbrev mX6_isLineTold : Me := (yX6_isLineTold, cX6_isLineTold, 5, (some .boolean), 2, 46)
set_option maxRecDepth 100000 in
set_option maxHeartbeats 4000000 in
theorem c_X6_isLineTold {a1 : Int32} {a2 : Int32} {a3 : Int32} {a4 : Int32} {σ : St} {res : Int32 × St} (hf : f_X6_isLineTold a1 a2 a3 a4 σ = some res) : Mt mX6_isLineTold [.ref 87, .int a1, .int a2, .int a3, .int a4] σ (some (.int res.1)) res.2 := by
  unfold f_X6_isLineTold at hf
  refine mt_of (by decide) (Nat.le_of_ble_eq_true rfl) [some (.ref 87), some (.int a1), some (.int a2), some (.int a3), some (.int a4)] rfl (fun Γ G hR => ?_)
  have G : OK Γ RX6 cX6_isLineTold 5 (some .boolean) 2 46 := G
  refine s_aload_n G dX6_isLineTold_0 rfl ?_
  refine s_iload_n G dX6_isLineTold_1 rfl ?_
  obtain ⟨q1, hq1, hf⟩ := bnd hf
  refine s_callV G dX6_isLineTold_2 (c_X6_isBus hq1) lkM_X6_143 yk_X6_isBus yv_X6_isBus (by decide) rfl rfl _ [] rfl rfl rfl (Nat.le_of_ble_eq_true rfl) (by decide) ?_
  refine s_if_eq (tgt := 50) G dX6_isLineTold_5 (by decide) (fun c2 => ?_) (fun c2 => ?_)
  · replace hf := ifp c2 hf
    refine s_iconst G dX6_isLineTold_50 (v := 0) (by decide) ?_
    replace hf := Option.some.inj hf
    subst hf
    exact s_zret G hR dX6_isLineTold_51 (by decide) rfl rfl
  · replace hf := ifn c2 hf
    refine s_aload_n G dX6_isLineTold_8 rfl ?_
    refine s_iload_n G dX6_isLineTold_9 rfl ?_
    obtain ⟨q3, hq3, hf⟩ := bnd hf
    refine s_callV G dX6_isLineTold_10 (c_X6_isBus hq3) lkM_X6_143 yk_X6_isBus yv_X6_isBus (by decide) rfl rfl _ [] rfl rfl rfl (Nat.le_of_ble_eq_true rfl) (by decide) ?_
    refine s_if_eq (tgt := 50) G dX6_isLineTold_13 (by decide) (fun c4 => ?_) (fun c4 => ?_)
    · replace hf := ifp c4 hf
      refine s_iconst G dX6_isLineTold_50 (v := 0) (by decide) ?_
      replace hf := Option.some.inj hf
      subst hf
      exact s_zret G hR dX6_isLineTold_51 (by decide) rfl rfl
    · replace hf := ifn c4 hf
      refine s_iload_n G dX6_isLineTold_16 rfl ?_
      refine s_iload_n G dX6_isLineTold_17 rfl ?_
      refine s_icmp_eq (tgt := 50) G dX6_isLineTold_18 (by decide) (fun c5 => ?_) (fun c5 => ?_)
      · replace hf := ifp c5 hf
        refine s_iconst G dX6_isLineTold_50 (v := 0) (by decide) ?_
        replace hf := Option.some.inj hf
        subst hf
        exact s_zret G hR dX6_isLineTold_51 (by decide) rfl rfl
      · replace hf := ifn c5 hf
        refine s_iload_n G dX6_isLineTold_21 rfl ?_
        refine s_i2l G dX6_isLineTold_22 ?_
        refine s_lconst G dX6_isLineTold_23 (v := 1) (by decide) ?_
        refine s_ldc2 G dX6_isLineTold_24 kc_X6_153 ?_
        obtain ⟨q6, hq6, hf⟩ := bnd hf
        refine s_callS G dX6_isLineTold_27 (c_X6_in hq6) lkM_X6_65 yk_X6_in ys_X6_in _ [] rfl rfl rfl (Nat.le_of_ble_eq_true rfl) (by decide) ?_
        refine s_if_eq (tgt := 50) G dX6_isLineTold_30 (by decide) (fun c7 => ?_) (fun c7 => ?_)
        · replace hf := ifp c7 hf
          refine s_iconst G dX6_isLineTold_50 (v := 0) (by decide) ?_
          replace hf := Option.some.inj hf
          subst hf
          exact s_zret G hR dX6_isLineTold_51 (by decide) rfl rfl
        · replace hf := ifn c7 hf
          refine s_iload G dX6_isLineTold_33 rfl ?_
          refine s_i2l G dX6_isLineTold_35 ?_
          refine s_lconst G dX6_isLineTold_36 (v := 1) (by decide) ?_
          refine s_ldc2 G dX6_isLineTold_37 kc_X6_155 ?_
          obtain ⟨q8, hq8, hf⟩ := bnd hf
          refine s_callS G dX6_isLineTold_40 (c_X6_in hq8) lkM_X6_65 yk_X6_in ys_X6_in _ [] rfl rfl rfl (Nat.le_of_ble_eq_true rfl) (by decide) ?_
          refine s_if_eq (tgt := 50) G dX6_isLineTold_43 (by decide) (fun c9 => ?_) (fun c9 => ?_)
          · replace hf := ifp c9 hf
            refine s_iconst G dX6_isLineTold_50 (v := 0) (by decide) ?_
            replace hf := Option.some.inj hf
            subst hf
            exact s_zret G hR dX6_isLineTold_51 (by decide) rfl rfl
          · replace hf := ifn c9 hf
            refine s_iconst G dX6_isLineTold_46 (v := 1) (by decide) ?_
            refine s_goto (tgt := 51) G dX6_isLineTold_47 (by decide) ?_
            replace hf := Option.some.inj hf
            subst hf
            exact s_zret G hR dX6_isLineTold_51 (by decide) rfl rfl
def f_X6_lineNow (a1 : Int32) (a2 : Int32) (a3 : Int32) (a4 : Int32) (σ : St) : Option (Int32 × St) :=
nm ((8 : Int32) + ((5 : Int32) * (σ.1 88 (1 : Int32).toNatClampNeg))) (fun x1 : Int32 =>
  chk (ib (x1 + (0 : Int32)) 58) (
  nm (sI σ 88 (x1 + (0 : Int32)).toNatClampNeg a1) (fun σ3 : St =>
  chk (ib (x1 + (1 : Int32)) 58) (
  nm (sI σ3 88 (x1 + (1 : Int32)).toNatClampNeg a2) (fun σ5 : St =>
  chk (ib (x1 + (2 : Int32)) 58) (
  nm (sI σ5 88 (x1 + (2 : Int32)).toNatClampNeg a3) (fun σ7 : St =>
  chk (ib (x1 + (3 : Int32)) 58) (
  nm (sI σ7 88 (x1 + (3 : Int32)).toNatClampNeg a4) (fun σ9 : St =>
  chk (ib (x1 + (4 : Int32)) 58) (
  nm (sI σ9 88 (x1 + (4 : Int32)).toNatClampNeg (1 : Int32)) (fun σ11 : St =>
  nm (sI σ11 88 (1 : Int32).toNatClampNeg ((σ11.1 88 (1 : Int32).toNatClampNeg) + (1 : Int32))) (fun σ12 : St =>
  some (((σ12.1 88 (1 : Int32).toNatClampNeg) - (1 : Int32)), σ12)))))))))))))
abbrev mX6_lineNow : Me := (yX6_lineNow, cX6_lineNow, 6, (some .int), 0, 0)
set_option maxRecDepth 100000 in
set_option maxHeartbeats 4000000 in
theorem c_X6_lineNow {a1 : Int32} {a2 : Int32} {a3 : Int32} {a4 : Int32} {σ : St} {res : Int32 × St} (hf : f_X6_lineNow a1 a2 a3 a4 σ = some res) : Mt mX6_lineNow [.ref 87, .int a1, .int a2, .int a3, .int a4] σ (some (.int res.1)) res.2 := by
  unfold f_X6_lineNow at hf
  refine mt_of (by decide) (Nat.le_of_ble_eq_true rfl) [some (.ref 87), some (.int a1), some (.int a2), some (.int a3), some (.int a4), none] rfl (fun Γ G hR => ?_)
  have G : OK Γ RX6 cX6_lineNow 6 (some .int) 0 0 := G
  refine s_bipush G dX6_lineNow_0 (v := 8) (by decide) ?_
  refine s_iconst G dX6_lineNow_2 (v := 5) (by decide) ?_
  refine s_aload_n G dX6_lineNow_3 rfl ?_
  refine s_getR G dX6_lineNow_4 lkF_X6_7 (by decide) rfl rfl ?_
  refine s_iconst G dX6_lineNow_7 (v := 1) (by decide) ?_
  refine s_iald G dX6_lineNow_8 (by decide) rfl (by decide) ?_
  refine s_imul G dX6_lineNow_9 ?_
  refine s_iadd G dX6_lineNow_10 ?_
  refine s_topi (fun x1 ex1 => ?_)
  replace hf := nm_at ex1 hf
  refine s_istore G dX6_lineNow_11 (by decide) rfl rfl ?_
  refine s_aload_n G dX6_lineNow_13 rfl ?_
  refine s_getR G dX6_lineNow_14 lkF_X6_7 (by decide) rfl rfl ?_
  refine s_iload G dX6_lineNow_17 rfl ?_
  refine s_iconst G dX6_lineNow_19 (v := 0) (by decide) ?_
  refine s_iadd G dX6_lineNow_20 ?_
  refine s_iload_n G dX6_lineNow_21 rfl ?_
  have h2 := chk_1 hf
  replace hf := chk_2 hf
  refine s_iast G dX6_lineNow_22 (by decide) rfl h2 ?_
  refine s_st (fun σ3 eσ3 => ?_)
  replace hf := nm_at eσ3 hf
  refine s_aload_n G dX6_lineNow_23 rfl ?_
  refine s_getR G dX6_lineNow_24 lkF_X6_7 (by decide) rfl rfl ?_
  refine s_iload G dX6_lineNow_27 rfl ?_
  refine s_iconst G dX6_lineNow_29 (v := 1) (by decide) ?_
  refine s_iadd G dX6_lineNow_30 ?_
  refine s_iload_n G dX6_lineNow_31 rfl ?_
  have h4 := chk_1 hf
  replace hf := chk_2 hf
  refine s_iast G dX6_lineNow_32 (by decide) rfl h4 ?_
  refine s_st (fun σ5 eσ5 => ?_)
  replace hf := nm_at eσ5 hf
  refine s_aload_n G dX6_lineNow_33 rfl ?_
  refine s_getR G dX6_lineNow_34 lkF_X6_7 (by decide) rfl rfl ?_
  refine s_iload G dX6_lineNow_37 rfl ?_
  refine s_iconst G dX6_lineNow_39 (v := 2) (by decide) ?_
  refine s_iadd G dX6_lineNow_40 ?_
  refine s_iload_n G dX6_lineNow_41 rfl ?_
  have h6 := chk_1 hf
  replace hf := chk_2 hf
  refine s_iast G dX6_lineNow_42 (by decide) rfl h6 ?_
  refine s_st (fun σ7 eσ7 => ?_)
  replace hf := nm_at eσ7 hf
  refine s_aload_n G dX6_lineNow_43 rfl ?_
  refine s_getR G dX6_lineNow_44 lkF_X6_7 (by decide) rfl rfl ?_
  refine s_iload G dX6_lineNow_47 rfl ?_
  refine s_iconst G dX6_lineNow_49 (v := 3) (by decide) ?_
  refine s_iadd G dX6_lineNow_50 ?_
  refine s_iload G dX6_lineNow_51 rfl ?_
  have h8 := chk_1 hf
  replace hf := chk_2 hf
  refine s_iast G dX6_lineNow_53 (by decide) rfl h8 ?_
  refine s_st (fun σ9 eσ9 => ?_)
  replace hf := nm_at eσ9 hf
  refine s_aload_n G dX6_lineNow_54 rfl ?_
  refine s_getR G dX6_lineNow_55 lkF_X6_7 (by decide) rfl rfl ?_
  refine s_iload G dX6_lineNow_58 rfl ?_
  refine s_iconst G dX6_lineNow_60 (v := 4) (by decide) ?_
  refine s_iadd G dX6_lineNow_61 ?_
  refine s_iconst G dX6_lineNow_62 (v := 1) (by decide) ?_
  have h10 := chk_1 hf
  replace hf := chk_2 hf
  refine s_iast G dX6_lineNow_63 (by decide) rfl h10 ?_
  refine s_st (fun σ11 eσ11 => ?_)
  replace hf := nm_at eσ11 hf
  refine s_aload_n G dX6_lineNow_64 rfl ?_
  refine s_getR G dX6_lineNow_65 lkF_X6_7 (by decide) rfl rfl ?_
  refine s_iconst G dX6_lineNow_68 (v := 1) (by decide) ?_
  refine s_dup2 G dX6_lineNow_69 rfl rfl ?_
  refine s_iald G dX6_lineNow_70 (by decide) rfl (by decide) ?_
  refine s_iconst G dX6_lineNow_71 (v := 1) (by decide) ?_
  refine s_iadd G dX6_lineNow_72 ?_
  refine s_iast G dX6_lineNow_73 (by decide) rfl (by decide) ?_
  refine s_st (fun σ12 eσ12 => ?_)
  replace hf := nm_at eσ12 hf
  refine s_aload_n G dX6_lineNow_74 rfl ?_
  refine s_getR G dX6_lineNow_75 lkF_X6_7 (by decide) rfl rfl ?_
  refine s_iconst G dX6_lineNow_78 (v := 1) (by decide) ?_
  refine s_iald G dX6_lineNow_79 (by decide) rfl (by decide) ?_
  refine s_iconst G dX6_lineNow_80 (v := 1) (by decide) ?_
  refine s_isub G dX6_lineNow_81 ?_
  replace hf := Option.some.inj hf
  subst hf
  exact s_iret G hR dX6_lineNow_82 rfl rfl
def f_X6_line (a1 : Int32) (a2 : Int32) (a3 : Int32) (a4 : Int32) (σ : St) : Option (Int32 × St) :=
(f_X6_isLineTold a1 a2 a3 a4 σ).bind (fun q1 =>
  if q1.1 = 0 then
    ((f_X6_refuses (-2 : Int32) q1.2).bind (fun q8 =>
    some (q8.1, q8.2)))
  else
    (if (q1.2.1 88 (1 : Int32).toNatClampNeg) = (10 : Int32) then
      ((f_X6_refuses (-4 : Int32) q1.2).bind (fun q7 =>
      some (q7.1, q7.2)))
    else
      ((f_X6_aside q1.2).bind (fun q4 =>
      (f_X6_keeps q4).bind (fun q5 =>
      (f_X6_lineNow a1 a2 a3 a4 q5).bind (fun q6 =>
      some (q6.1, q6.2)))))))
abbrev mX6_line : Me := (yX6_line, cX6_line, 5, (some .int), 3, 70)
set_option maxRecDepth 100000 in
set_option maxHeartbeats 4000000 in
theorem c_X6_line {a1 : Int32} {a2 : Int32} {a3 : Int32} {a4 : Int32} {σ : St} {res : Int32 × St} (hf : f_X6_line a1 a2 a3 a4 σ = some res) : Mt mX6_line [.ref 87, .int a1, .int a2, .int a3, .int a4] σ (some (.int res.1)) res.2 := by
  unfold f_X6_line at hf
  refine mt_of (by decide) (Nat.le_of_ble_eq_true rfl) [some (.ref 87), some (.int a1), some (.int a2), some (.int a3), some (.int a4)] rfl (fun Γ G hR => ?_)
  have G : OK Γ RX6 cX6_line 5 (some .int) 3 70 := G
  refine s_aload_n G dX6_line_0 rfl ?_
  refine s_iload_n G dX6_line_1 rfl ?_
  refine s_iload_n G dX6_line_2 rfl ?_
  refine s_iload_n G dX6_line_3 rfl ?_
  refine s_iload G dX6_line_4 rfl ?_
  obtain ⟨q1, hq1, hf⟩ := bnd hf
  refine s_callV G dX6_line_6 (c_X6_isLineTold hq1) lkM_X6_157 yk_X6_isLineTold yv_X6_isLineTold (by decide) rfl rfl _ [] rfl rfl rfl (Nat.le_of_ble_eq_true rfl) (by decide) ?_
  refine s_if_ne (tgt := 19) G dX6_line_9 (by decide) (fun c2 => ?_) (fun c2 => ?_)
  · replace hf := ifn c2 hf
    refine s_aload_n G dX6_line_19 rfl ?_
    refine s_getR G dX6_line_20 lkF_X6_7 (by decide) rfl rfl ?_
    refine s_iconst G dX6_line_23 (v := 1) (by decide) ?_
    refine s_iald G dX6_line_24 (by decide) rfl (by decide) ?_
    refine s_bipush G dX6_line_25 (v := 10) (by decide) ?_
    refine s_icmp_ne (tgt := 37) G dX6_line_27 (by decide) (fun c3 => ?_) (fun c3 => ?_)
    · replace hf := ifn c3 hf
      refine s_aload_n G dX6_line_37 rfl ?_
      obtain ⟨q4, hq4, hf⟩ := bnd hf
      refine s_callV G dX6_line_38 (c_X6_aside hq4) lkM_X6_134 yk_X6_aside yv_X6_aside (by decide) rfl rfl _ [] rfl rfl rfl (Nat.le_of_ble_eq_true rfl) (by decide) ?_
      refine s_aload_n G dX6_line_41 rfl ?_
      obtain ⟨q5, hq5, hf⟩ := bnd hf
      refine s_callV G dX6_line_42 (c_X6_keeps hq5) lkM_X6_137 yk_X6_keeps yv_X6_keeps (by decide) rfl rfl _ [] rfl rfl rfl (Nat.le_of_ble_eq_true rfl) (by decide) ?_
      refine s_aload_n G dX6_line_45 rfl ?_
      refine s_iload_n G dX6_line_46 rfl ?_
      refine s_iload_n G dX6_line_47 rfl ?_
      refine s_iload_n G dX6_line_48 rfl ?_
      refine s_iload G dX6_line_49 rfl ?_
      obtain ⟨q6, hq6, hf⟩ := bnd hf
      refine s_callV G dX6_line_51 (c_X6_lineNow hq6) lkM_X6_161 yk_X6_lineNow yv_X6_lineNow (by decide) rfl rfl _ [] rfl rfl rfl (Nat.le_of_ble_eq_true rfl) (by decide) ?_
      replace hf := Option.some.inj hf
      subst hf
      exact s_iret G hR dX6_line_54 rfl rfl
    · replace hf := ifp c3 hf
      refine s_aload_n G dX6_line_30 rfl ?_
      refine s_bipush G dX6_line_31 (v := -4) (by decide) ?_
      obtain ⟨q7, hq7, hf⟩ := bnd hf
      refine s_callV G dX6_line_33 (c_X6_refuses hq7) lkM_X6_130 yk_X6_refuses yv_X6_refuses (by decide) rfl rfl _ [] rfl rfl rfl (Nat.le_of_ble_eq_true rfl) (by decide) ?_
      replace hf := Option.some.inj hf
      subst hf
      exact s_iret G hR dX6_line_36 rfl rfl
  · replace hf := ifp c2 hf
    refine s_aload_n G dX6_line_12 rfl ?_
    refine s_bipush G dX6_line_13 (v := -2) (by decide) ?_
    obtain ⟨q8, hq8, hf⟩ := bnd hf
    refine s_callV G dX6_line_15 (c_X6_refuses hq8) lkM_X6_130 yk_X6_refuses yv_X6_refuses (by decide) rfl rfl _ [] rfl rfl rfl (Nat.le_of_ble_eq_true rfl) (by decide) ?_
    replace hf := Option.some.inj hf
    subst hf
    exact s_iret G hR dX6_line_18 rfl rfl
def f_X6_dropsNow_17 (k5 : St → Option (Int32 × St)) : Nat → Int32 → St → Option (Int32 × St)
  | 0, _, _ => none
  | n6 + 1, x3, σ4 =>
    if ((8 : Int32) + ((5 : Int32) * (σ4.1 88 (1 : Int32).toNatClampNeg))) ≤ x3 then
      (k5 σ4)
    else
      (chk (ib (x3 + (5 : Int32)) 58) (
      chk (ib x3 58) (
      nm (sI σ4 88 x3.toNatClampNeg (σ4.1 88 (x3 + (5 : Int32)).toNatClampNeg)) (fun σ10 : St =>
      f_X6_dropsNow_17 k5 n6 (x3 + 1) σ10))))
def f_X6_dropsNow (a1 : Int32) (σ : St) : Option (Int32 × St) :=
nm (sI σ 88 (1 : Int32).toNatClampNeg ((σ.1 88 (1 : Int32).toNatClampNeg) - (1 : Int32))) (fun σ1 : St =>
  nm ((8 : Int32) + ((5 : Int32) * a1)) (fun x2 : Int32 =>
  f_X6_dropsNow_17 (fun (σ11 : St) =>
    some ((σ11.1 88 (1 : Int32).toNatClampNeg), σ11)) 1000 x2 σ1))
abbrev mX6_dropsNow : Me := (yX6_dropsNow, cX6_dropsNow, 3, (some .int), 0, 0)
set_option maxRecDepth 100000 in
set_option maxHeartbeats 4000000 in
theorem l_X6_dropsNow_17 {Γ : Cxt} (G : OK Γ RX6 cX6_dropsNow 3 (some .int) 0 0) {res : Int32 × St} (hR : RetOK Γ (some (.int res.1)) res.2) (k5 : St → Option (Int32 × St)) (hk : ∀ (z : St), k5 z = some res → WW Γ 52 [some (.ref 87), none, none] [] z) : ∀ (n6 : Nat) (x3 : Int32) (σ4 : St), f_X6_dropsNow_17 k5 n6 x3 σ4 = some res → WW Γ 17 [some (.ref 87), none, some (.int x3)] [] σ4 := by
  intro n6
  induction n6 with
  | zero =>
    intro x3 σ4 hf
    cases hf
  | succ n6 ih =>
    intro x3 σ4 hf
    unfold f_X6_dropsNow_17 at hf
    refine s_iload_n G dX6_dropsNow_17 rfl ?_
    refine s_bipush G dX6_dropsNow_18 (v := 8) (by decide) ?_
    refine s_iconst G dX6_dropsNow_20 (v := 5) (by decide) ?_
    refine s_aload_n G dX6_dropsNow_21 rfl ?_
    refine s_getR G dX6_dropsNow_22 lkF_X6_7 (by decide) rfl rfl ?_
    refine s_iconst G dX6_dropsNow_25 (v := 1) (by decide) ?_
    refine s_iald G dX6_dropsNow_26 (by decide) rfl (by decide) ?_
    refine s_imul G dX6_dropsNow_27 ?_
    refine s_iadd G dX6_dropsNow_28 ?_
    refine s_icmp_ge (tgt := 52) G dX6_dropsNow_29 (by decide) (fun c7 => ?_) (fun c7 => ?_)
    · replace hf := ifp c7 hf
      refine s_fgt [true, true, false] rfl ?_
      exact hk σ4 hf
    · replace hf := ifn c7 hf
      refine s_aload_n G dX6_dropsNow_32 rfl ?_
      refine s_getR G dX6_dropsNow_33 lkF_X6_7 (by decide) rfl rfl ?_
      refine s_iload_n G dX6_dropsNow_36 rfl ?_
      refine s_aload_n G dX6_dropsNow_37 rfl ?_
      refine s_getR G dX6_dropsNow_38 lkF_X6_7 (by decide) rfl rfl ?_
      refine s_iload_n G dX6_dropsNow_41 rfl ?_
      refine s_iconst G dX6_dropsNow_42 (v := 5) (by decide) ?_
      refine s_iadd G dX6_dropsNow_43 ?_
      have h8 := chk_1 hf
      replace hf := chk_2 hf
      refine s_iald G dX6_dropsNow_44 (by decide) rfl h8 ?_
      have h9 := chk_1 hf
      replace hf := chk_2 hf
      refine s_iast G dX6_dropsNow_45 (by decide) rfl h9 ?_
      refine s_st (fun σ10 eσ10 => ?_)
      replace hf := nm_at eσ10 hf
      refine s_iinc G dX6_dropsNow_46 rfl (v := (x3 + 1)) rfl (by decide) rfl rfl ?_
      refine s_goto (tgt := 17) G dX6_dropsNow_49 (by decide) ?_
      exact ih (x3 + 1) σ10 hf
set_option maxRecDepth 100000 in
set_option maxHeartbeats 4000000 in
theorem c_X6_dropsNow {a1 : Int32} {σ : St} {res : Int32 × St} (hf : f_X6_dropsNow a1 σ = some res) : Mt mX6_dropsNow [.ref 87, .int a1] σ (some (.int res.1)) res.2 := by
  unfold f_X6_dropsNow at hf
  refine mt_of (by decide) (Nat.le_of_ble_eq_true rfl) [some (.ref 87), some (.int a1), none] rfl (fun Γ G hR => ?_)
  have G : OK Γ RX6 cX6_dropsNow 3 (some .int) 0 0 := G
  refine s_aload_n G dX6_dropsNow_0 rfl ?_
  refine s_getR G dX6_dropsNow_1 lkF_X6_7 (by decide) rfl rfl ?_
  refine s_iconst G dX6_dropsNow_4 (v := 1) (by decide) ?_
  refine s_dup2 G dX6_dropsNow_5 rfl rfl ?_
  refine s_iald G dX6_dropsNow_6 (by decide) rfl (by decide) ?_
  refine s_iconst G dX6_dropsNow_7 (v := 1) (by decide) ?_
  refine s_isub G dX6_dropsNow_8 ?_
  refine s_iast G dX6_dropsNow_9 (by decide) rfl (by decide) ?_
  refine s_st (fun σ1 eσ1 => ?_)
  replace hf := nm_at eσ1 hf
  refine s_bipush G dX6_dropsNow_10 (v := 8) (by decide) ?_
  refine s_iconst G dX6_dropsNow_12 (v := 5) (by decide) ?_
  refine s_iload_n G dX6_dropsNow_13 rfl ?_
  refine s_imul G dX6_dropsNow_14 ?_
  refine s_iadd G dX6_dropsNow_15 ?_
  refine s_topi (fun x2 ex2 => ?_)
  replace hf := nm_at ex2 hf
  refine s_istore_n G dX6_dropsNow_16 rfl (by decide) rfl rfl ?_
  refine s_fgt [true, false, true] rfl ?_
  refine l_X6_dropsNow_17 G hR _ (fun σ11 hf => ?_) 1000 x2 σ1 hf
  refine s_aload_n G dX6_dropsNow_52 rfl ?_
  refine s_getR G dX6_dropsNow_53 lkF_X6_7 (by decide) rfl rfl ?_
  refine s_iconst G dX6_dropsNow_56 (v := 1) (by decide) ?_
  refine s_iald G dX6_dropsNow_57 (by decide) rfl (by decide) ?_
  replace hf := Option.some.inj hf
  subst hf
  exact s_iret G hR dX6_dropsNow_58 rfl rfl
def f_X6_drops (a1 : Int32) (σ : St) : Option (Int32 × St) :=
(f_X6_isLine a1 σ).bind (fun q1 =>
  if q1.1 = 0 then
    ((f_X6_refuses (-2 : Int32) q1.2).bind (fun q6 =>
    some (q6.1, q6.2)))
  else
    ((f_X6_aside q1.2).bind (fun q3 =>
    (f_X6_keeps q3).bind (fun q4 =>
    (f_X6_dropsNow a1 q4).bind (fun q5 =>
    some (q5.1, q5.2))))))
abbrev mX6_drops : Me := (yX6_drops, cX6_drops, 2, (some .int), 2, 46)
set_option maxRecDepth 100000 in
set_option maxHeartbeats 4000000 in
theorem c_X6_drops {a1 : Int32} {σ : St} {res : Int32 × St} (hf : f_X6_drops a1 σ = some res) : Mt mX6_drops [.ref 87, .int a1] σ (some (.int res.1)) res.2 := by
  unfold f_X6_drops at hf
  refine mt_of (by decide) (Nat.le_of_ble_eq_true rfl) [some (.ref 87), some (.int a1)] rfl (fun Γ G hR => ?_)
  have G : OK Γ RX6 cX6_drops 2 (some .int) 2 46 := G
  refine s_aload_n G dX6_drops_0 rfl ?_
  refine s_iload_n G dX6_drops_1 rfl ?_
  obtain ⟨q1, hq1, hf⟩ := bnd hf
  refine s_callV G dX6_drops_2 (c_X6_isLine hq1) lkM_X6_165 yk_X6_isLine yv_X6_isLine (by decide) rfl rfl _ [] rfl rfl rfl (Nat.le_of_ble_eq_true rfl) (by decide) ?_
  refine s_if_ne (tgt := 15) G dX6_drops_5 (by decide) (fun c2 => ?_) (fun c2 => ?_)
  · replace hf := ifn c2 hf
    refine s_aload_n G dX6_drops_15 rfl ?_
    obtain ⟨q3, hq3, hf⟩ := bnd hf
    refine s_callV G dX6_drops_16 (c_X6_aside hq3) lkM_X6_134 yk_X6_aside yv_X6_aside (by decide) rfl rfl _ [] rfl rfl rfl (Nat.le_of_ble_eq_true rfl) (by decide) ?_
    refine s_aload_n G dX6_drops_19 rfl ?_
    obtain ⟨q4, hq4, hf⟩ := bnd hf
    refine s_callV G dX6_drops_20 (c_X6_keeps hq4) lkM_X6_137 yk_X6_keeps yv_X6_keeps (by decide) rfl rfl _ [] rfl rfl rfl (Nat.le_of_ble_eq_true rfl) (by decide) ?_
    refine s_aload_n G dX6_drops_23 rfl ?_
    refine s_iload_n G dX6_drops_24 rfl ?_
    obtain ⟨q5, hq5, hf⟩ := bnd hf
    refine s_callV G dX6_drops_25 (c_X6_dropsNow hq5) lkM_X6_168 yk_X6_dropsNow yv_X6_dropsNow (by decide) rfl rfl _ [] rfl rfl rfl (Nat.le_of_ble_eq_true rfl) (by decide) ?_
    replace hf := Option.some.inj hf
    subst hf
    exact s_iret G hR dX6_drops_28 rfl rfl
  · replace hf := ifp c2 hf
    refine s_aload_n G dX6_drops_8 rfl ?_
    refine s_bipush G dX6_drops_9 (v := -2) (by decide) ?_
    obtain ⟨q6, hq6, hf⟩ := bnd hf
    refine s_callV G dX6_drops_11 (c_X6_refuses hq6) lkM_X6_130 yk_X6_refuses yv_X6_refuses (by decide) rfl rfl _ [] rfl rfl rfl (Nat.le_of_ble_eq_true rfl) (by decide) ?_
    replace hf := Option.some.inj hf
    subst hf
    exact s_iret G hR dX6_drops_14 rfl rfl
def f_X6_becomes (a1 : Int32) (a2 : Int32) (a3 : Int32) (σ : St) : Option (Int32 × St) :=
(f_X6_lineAt a1 a2 σ).bind (fun q1 =>
  chk (ib (((8 : Int32) + ((5 : Int32) * a1)) + a2) 58) (
  nm (sI q1.2 88 (((8 : Int32) + ((5 : Int32) * a1)) + a2).toNatClampNeg a3) (fun σ3 : St =>
  some (q1.1, σ3))))
abbrev mX6_becomes : Me := (yX6_becomes, cX6_becomes, 5, (some .int), 1, 22)
set_option maxRecDepth 100000 in
set_option maxHeartbeats 4000000 in
theorem c_X6_becomes {a1 : Int32} {a2 : Int32} {a3 : Int32} {σ : St} {res : Int32 × St} (hf : f_X6_becomes a1 a2 a3 σ = some res) : Mt mX6_becomes [.ref 87, .int a1, .int a2, .int a3] σ (some (.int res.1)) res.2 := by
  unfold f_X6_becomes at hf
  refine mt_of (by decide) (Nat.le_of_ble_eq_true rfl) [some (.ref 87), some (.int a1), some (.int a2), some (.int a3), none] rfl (fun Γ G hR => ?_)
  have G : OK Γ RX6 cX6_becomes 5 (some .int) 1 22 := G
  refine s_aload_n G dX6_becomes_0 rfl ?_
  refine s_iload_n G dX6_becomes_1 rfl ?_
  refine s_iload_n G dX6_becomes_2 rfl ?_
  obtain ⟨q1, hq1, hf⟩ := bnd hf
  refine s_callV G dX6_becomes_3 (c_X6_lineAt hq1) lkM_X6_69 yk_X6_lineAt yv_X6_lineAt (by decide) rfl rfl _ [] rfl rfl rfl (Nat.le_of_ble_eq_true rfl) (by decide) ?_
  refine s_istore G dX6_becomes_6 (by decide) rfl rfl ?_
  refine s_aload_n G dX6_becomes_8 rfl ?_
  refine s_getR G dX6_becomes_9 lkF_X6_7 (by decide) rfl rfl ?_
  refine s_bipush G dX6_becomes_12 (v := 8) (by decide) ?_
  refine s_iconst G dX6_becomes_14 (v := 5) (by decide) ?_
  refine s_iload_n G dX6_becomes_15 rfl ?_
  refine s_imul G dX6_becomes_16 ?_
  refine s_iadd G dX6_becomes_17 ?_
  refine s_iload_n G dX6_becomes_18 rfl ?_
  refine s_iadd G dX6_becomes_19 ?_
  refine s_iload_n G dX6_becomes_20 rfl ?_
  have h2 := chk_1 hf
  replace hf := chk_2 hf
  refine s_iast G dX6_becomes_21 (by decide) rfl h2 ?_
  refine s_st (fun σ3 eσ3 => ?_)
  replace hf := nm_at eσ3 hf
  refine s_iload G dX6_becomes_22 rfl ?_
  replace hf := Option.some.inj hf
  subst hf
  exact s_iret G hR dX6_becomes_24 rfl rfl
def f_X6_switches (a1 : Int32) (a2 : Int32) (σ : St) : Option (Int32 × St) :=
(f_X6_isLine a1 σ).bind (fun q1 =>
  if q1.1 = 0 then
    ((f_X6_refuses (-2 : Int32) q1.2).bind (fun q3 =>
    some (q3.1, q3.2)))
  else
    ((f_X6_in a2.toInt64 (0 : Int64) (1 : Int64) q1.2).bind (fun q4 =>
    if q4.1 = 0 then
      ((f_X6_refuses (-2 : Int32) q4.2).bind (fun q9 =>
      some (q9.1, q9.2)))
    else
      ((f_X6_aside q4.2).bind (fun q6 =>
      (f_X6_keeps q6).bind (fun q7 =>
      (f_X6_becomes a1 (4 : Int32) a2 q7).bind (fun q8 =>
      some (q8.1, q8.2))))))))
abbrev mX6_switches : Me := (yX6_switches, cX6_switches, 3, (some .int), 2, 46)
set_option maxRecDepth 100000 in
set_option maxHeartbeats 4000000 in
theorem c_X6_switches {a1 : Int32} {a2 : Int32} {σ : St} {res : Int32 × St} (hf : f_X6_switches a1 a2 σ = some res) : Mt mX6_switches [.ref 87, .int a1, .int a2] σ (some (.int res.1)) res.2 := by
  unfold f_X6_switches at hf
  refine mt_of (by decide) (Nat.le_of_ble_eq_true rfl) [some (.ref 87), some (.int a1), some (.int a2)] rfl (fun Γ G hR => ?_)
  have G : OK Γ RX6 cX6_switches 3 (some .int) 2 46 := G
  refine s_aload_n G dX6_switches_0 rfl ?_
  refine s_iload_n G dX6_switches_1 rfl ?_
  obtain ⟨q1, hq1, hf⟩ := bnd hf
  refine s_callV G dX6_switches_2 (c_X6_isLine hq1) lkM_X6_165 yk_X6_isLine yv_X6_isLine (by decide) rfl rfl _ [] rfl rfl rfl (Nat.le_of_ble_eq_true rfl) (by decide) ?_
  refine s_if_eq (tgt := 18) G dX6_switches_5 (by decide) (fun c2 => ?_) (fun c2 => ?_)
  · replace hf := ifp c2 hf
    refine s_aload_n G dX6_switches_18 rfl ?_
    refine s_bipush G dX6_switches_19 (v := -2) (by decide) ?_
    obtain ⟨q3, hq3, hf⟩ := bnd hf
    refine s_callV G dX6_switches_21 (c_X6_refuses hq3) lkM_X6_130 yk_X6_refuses yv_X6_refuses (by decide) rfl rfl _ [] rfl rfl rfl (Nat.le_of_ble_eq_true rfl) (by decide) ?_
    replace hf := Option.some.inj hf
    subst hf
    exact s_iret G hR dX6_switches_24 rfl rfl
  · replace hf := ifn c2 hf
    refine s_iload_n G dX6_switches_8 rfl ?_
    refine s_i2l G dX6_switches_9 ?_
    refine s_lconst G dX6_switches_10 (v := 0) (by decide) ?_
    refine s_lconst G dX6_switches_11 (v := 1) (by decide) ?_
    obtain ⟨q4, hq4, hf⟩ := bnd hf
    refine s_callS G dX6_switches_12 (c_X6_in hq4) lkM_X6_65 yk_X6_in ys_X6_in _ [] rfl rfl rfl (Nat.le_of_ble_eq_true rfl) (by decide) ?_
    refine s_if_ne (tgt := 25) G dX6_switches_15 (by decide) (fun c5 => ?_) (fun c5 => ?_)
    · replace hf := ifn c5 hf
      refine s_aload_n G dX6_switches_25 rfl ?_
      obtain ⟨q6, hq6, hf⟩ := bnd hf
      refine s_callV G dX6_switches_26 (c_X6_aside hq6) lkM_X6_134 yk_X6_aside yv_X6_aside (by decide) rfl rfl _ [] rfl rfl rfl (Nat.le_of_ble_eq_true rfl) (by decide) ?_
      refine s_aload_n G dX6_switches_29 rfl ?_
      obtain ⟨q7, hq7, hf⟩ := bnd hf
      refine s_callV G dX6_switches_30 (c_X6_keeps hq7) lkM_X6_137 yk_X6_keeps yv_X6_keeps (by decide) rfl rfl _ [] rfl rfl rfl (Nat.le_of_ble_eq_true rfl) (by decide) ?_
      refine s_aload_n G dX6_switches_33 rfl ?_
      refine s_iload_n G dX6_switches_34 rfl ?_
      refine s_iconst G dX6_switches_35 (v := 4) (by decide) ?_
      refine s_iload_n G dX6_switches_36 rfl ?_
      obtain ⟨q8, hq8, hf⟩ := bnd hf
      refine s_callV G dX6_switches_37 (c_X6_becomes hq8) lkM_X6_171 yk_X6_becomes yv_X6_becomes (by decide) rfl rfl _ [] rfl rfl rfl (Nat.le_of_ble_eq_true rfl) (by decide) ?_
      replace hf := Option.some.inj hf
      subst hf
      exact s_iret G hR dX6_switches_40 rfl rfl
    · replace hf := ifp c5 hf
      refine s_aload_n G dX6_switches_18 rfl ?_
      refine s_bipush G dX6_switches_19 (v := -2) (by decide) ?_
      obtain ⟨q9, hq9, hf⟩ := bnd hf
      refine s_callV G dX6_switches_21 (c_X6_refuses hq9) lkM_X6_130 yk_X6_refuses yv_X6_refuses (by decide) rfl rfl _ [] rfl rfl rfl (Nat.le_of_ble_eq_true rfl) (by decide) ?_
      replace hf := Option.some.inj hf
      subst hf
      exact s_iret G hR dX6_switches_24 rfl rfl
def f_X6_maySet (a1 : Int32) (a2 : Int32) (a3 : Int32) (σ : St) : Option (Int32 × St) :=
(f_X6_isLine a1 σ).bind (fun q1 =>
  if q1.1 = 0 then
    (some ((0 : Int32), q1.2))
  else
    ((f_X6_in a2.toInt64 (0 : Int64) (1 : Int64) q1.2).bind (fun q3 =>
    if q3.1 = 0 then
      (some ((0 : Int32), q3.2))
    else
      (jn (fun q5 : Int64 × St =>
        ((f_X6_in a3.toInt64 (1 : Int64) q5.1 q5.2).bind (fun q7 =>
        if q7.1 = 0 then
          (some ((0 : Int32), q7.2))
        else
          (some ((1 : Int32), q7.2))))) (fun j6 =>
        if a2 = 0 then
          (j6 ((5 : Int64), q3.2))
        else
          (j6 ((999 : Int64), q3.2)))))))
abbrev mX6_maySet : Me := (yX6_maySet, cX6_maySet, 4, (some .boolean), 2, 46)
set_option maxRecDepth 100000 in
set_option maxHeartbeats 4000000 in
theorem c_X6_maySet {a1 : Int32} {a2 : Int32} {a3 : Int32} {σ : St} {res : Int32 × St} (hf : f_X6_maySet a1 a2 a3 σ = some res) : Mt mX6_maySet [.ref 87, .int a1, .int a2, .int a3] σ (some (.int res.1)) res.2 := by
  unfold f_X6_maySet at hf
  refine mt_of (by decide) (Nat.le_of_ble_eq_true rfl) [some (.ref 87), some (.int a1), some (.int a2), some (.int a3)] rfl (fun Γ G hR => ?_)
  have G : OK Γ RX6 cX6_maySet 4 (some .boolean) 2 46 := G
  refine s_aload_n G dX6_maySet_0 rfl ?_
  refine s_iload_n G dX6_maySet_1 rfl ?_
  obtain ⟨q1, hq1, hf⟩ := bnd hf
  refine s_callV G dX6_maySet_2 (c_X6_isLine hq1) lkM_X6_165 yk_X6_isLine yv_X6_isLine (by decide) rfl rfl _ [] rfl rfl rfl (Nat.le_of_ble_eq_true rfl) (by decide) ?_
  refine s_if_eq (tgt := 44) G dX6_maySet_5 (by decide) (fun c2 => ?_) (fun c2 => ?_)
  · replace hf := ifp c2 hf
    refine s_iconst G dX6_maySet_44 (v := 0) (by decide) ?_
    replace hf := Option.some.inj hf
    subst hf
    exact s_zret G hR dX6_maySet_45 (by decide) rfl rfl
  · replace hf := ifn c2 hf
    refine s_iload_n G dX6_maySet_8 rfl ?_
    refine s_i2l G dX6_maySet_9 ?_
    refine s_lconst G dX6_maySet_10 (v := 0) (by decide) ?_
    refine s_lconst G dX6_maySet_11 (v := 1) (by decide) ?_
    obtain ⟨q3, hq3, hf⟩ := bnd hf
    refine s_callS G dX6_maySet_12 (c_X6_in hq3) lkM_X6_65 yk_X6_in ys_X6_in _ [] rfl rfl rfl (Nat.le_of_ble_eq_true rfl) (by decide) ?_
    refine s_if_eq (tgt := 44) G dX6_maySet_15 (by decide) (fun c4 => ?_) (fun c4 => ?_)
    · replace hf := ifp c4 hf
      refine s_iconst G dX6_maySet_44 (v := 0) (by decide) ?_
      replace hf := Option.some.inj hf
      subst hf
      exact s_zret G hR dX6_maySet_45 (by decide) rfl rfl
    · replace hf := ifn c4 hf
      refine s_iload_n G dX6_maySet_18 rfl ?_
      refine s_i2l G dX6_maySet_19 ?_
      refine s_lconst G dX6_maySet_20 (v := 1) (by decide) ?_
      refine s_iload_n G dX6_maySet_21 rfl ?_
      refine jn_w (fun q5 : Int64 × St => WW Γ 34 [none, none, none, none] [.long q5.1, .long (1 : Int64), .long a3.toInt64] q5.2) hf (fun q5 hf => ?_) (fun j6 hj6 hf => ?_)
      · obtain ⟨q7, hq7, hf⟩ := bnd hf
        refine s_callS G dX6_maySet_34 (c_X6_in hq7) lkM_X6_65 yk_X6_in ys_X6_in _ [] rfl rfl rfl (Nat.le_of_ble_eq_true rfl) (by decide) ?_
        refine s_if_eq (tgt := 44) G dX6_maySet_37 (by decide) (fun c8 => ?_) (fun c8 => ?_)
        · replace hf := ifp c8 hf
          refine s_iconst G dX6_maySet_44 (v := 0) (by decide) ?_
          replace hf := Option.some.inj hf
          subst hf
          exact s_zret G hR dX6_maySet_45 (by decide) rfl rfl
        · replace hf := ifn c8 hf
          refine s_iconst G dX6_maySet_40 (v := 1) (by decide) ?_
          refine s_goto (tgt := 45) G dX6_maySet_41 (by decide) ?_
          replace hf := Option.some.inj hf
          subst hf
          exact s_zret G hR dX6_maySet_45 (by decide) rfl rfl
      · refine s_if_ne (tgt := 31) G dX6_maySet_22 (by decide) (fun c9 => ?_) (fun c9 => ?_)
        · replace hf := ifn c9 hf
          refine s_ldc2 G dX6_maySet_31 kc_X6_155 ?_
          refine s_fgt [false, false, false, false] rfl ?_
          exact hj6 _ hf
        · replace hf := ifp c9 hf
          refine s_ldc2 G dX6_maySet_25 kc_X6_153 ?_
          refine s_goto (tgt := 34) G dX6_maySet_28 (by decide) ?_
          refine s_fgt [false, false, false, false] rfl ?_
          exact hj6 _ hf
def f_X6_sets (a1 : Int32) (a2 : Int32) (a3 : Int32) (σ : St) : Option (Int32 × St) :=
(f_X6_maySet a1 a2 a3 σ).bind (fun q1 =>
  if q1.1 = 0 then
    ((f_X6_refuses (-2 : Int32) q1.2).bind (fun q6 =>
    some (q6.1, q6.2)))
  else
    ((f_X6_aside q1.2).bind (fun q3 =>
    (f_X6_keeps q3).bind (fun q4 =>
    (f_X6_becomes a1 ((2 : Int32) + a2) a3 q4).bind (fun q5 =>
    some (q5.1, q5.2))))))
abbrev mX6_sets : Me := (yX6_sets, cX6_sets, 4, (some .int), 3, 69)
set_option maxRecDepth 100000 in
set_option maxHeartbeats 4000000 in
theorem c_X6_sets {a1 : Int32} {a2 : Int32} {a3 : Int32} {σ : St} {res : Int32 × St} (hf : f_X6_sets a1 a2 a3 σ = some res) : Mt mX6_sets [.ref 87, .int a1, .int a2, .int a3] σ (some (.int res.1)) res.2 := by
  unfold f_X6_sets at hf
  refine mt_of (by decide) (Nat.le_of_ble_eq_true rfl) [some (.ref 87), some (.int a1), some (.int a2), some (.int a3)] rfl (fun Γ G hR => ?_)
  have G : OK Γ RX6 cX6_sets 4 (some .int) 3 69 := G
  refine s_aload_n G dX6_sets_0 rfl ?_
  refine s_iload_n G dX6_sets_1 rfl ?_
  refine s_iload_n G dX6_sets_2 rfl ?_
  refine s_iload_n G dX6_sets_3 rfl ?_
  obtain ⟨q1, hq1, hf⟩ := bnd hf
  refine s_callV G dX6_sets_4 (c_X6_maySet hq1) lkM_X6_175 yk_X6_maySet yv_X6_maySet (by decide) rfl rfl _ [] rfl rfl rfl (Nat.le_of_ble_eq_true rfl) (by decide) ?_
  refine s_if_ne (tgt := 17) G dX6_sets_7 (by decide) (fun c2 => ?_) (fun c2 => ?_)
  · replace hf := ifn c2 hf
    refine s_aload_n G dX6_sets_17 rfl ?_
    obtain ⟨q3, hq3, hf⟩ := bnd hf
    refine s_callV G dX6_sets_18 (c_X6_aside hq3) lkM_X6_134 yk_X6_aside yv_X6_aside (by decide) rfl rfl _ [] rfl rfl rfl (Nat.le_of_ble_eq_true rfl) (by decide) ?_
    refine s_aload_n G dX6_sets_21 rfl ?_
    obtain ⟨q4, hq4, hf⟩ := bnd hf
    refine s_callV G dX6_sets_22 (c_X6_keeps hq4) lkM_X6_137 yk_X6_keeps yv_X6_keeps (by decide) rfl rfl _ [] rfl rfl rfl (Nat.le_of_ble_eq_true rfl) (by decide) ?_
    refine s_aload_n G dX6_sets_25 rfl ?_
    refine s_iload_n G dX6_sets_26 rfl ?_
    refine s_iconst G dX6_sets_27 (v := 2) (by decide) ?_
    refine s_iload_n G dX6_sets_28 rfl ?_
    refine s_iadd G dX6_sets_29 ?_
    refine s_iload_n G dX6_sets_30 rfl ?_
    obtain ⟨q5, hq5, hf⟩ := bnd hf
    refine s_callV G dX6_sets_31 (c_X6_becomes hq5) lkM_X6_171 yk_X6_becomes yv_X6_becomes (by decide) rfl rfl _ [] rfl rfl rfl (Nat.le_of_ble_eq_true rfl) (by decide) ?_
    replace hf := Option.some.inj hf
    subst hf
    exact s_iret G hR dX6_sets_34 rfl rfl
  · replace hf := ifp c2 hf
    refine s_aload_n G dX6_sets_10 rfl ?_
    refine s_bipush G dX6_sets_11 (v := -2) (by decide) ?_
    obtain ⟨q6, hq6, hf⟩ := bnd hf
    refine s_callV G dX6_sets_13 (c_X6_refuses hq6) lkM_X6_130 yk_X6_refuses yv_X6_refuses (by decide) rfl rfl _ [] rfl rfl rfl (Nat.le_of_ble_eq_true rfl) (by decide) ?_
    replace hf := Option.some.inj hf
    subst hf
    exact s_iret G hR dX6_sets_16 rfl rfl
def f_X6_isBridge (a1 : Int32) (σ : St) : Option (Int32 × St) :=
(f_X6_isIn a1 σ).bind (fun q1 =>
  if q1.1 = 0 then
    (some ((0 : Int32), q1.2))
  else
    ((f_X6_inSet q1.2).bind (fun q3 =>
    (f_X6_parts (q3.1 &&& (((1 : Int32) <<< (a1 &&& 31)) ^^^ (-1 : Int32))) q3.2).bind (fun q4 =>
    (f_X6_lineAt a1 (0 : Int32) q4).bind (fun q5 =>
    chk (ib q5.1 6) (
    (f_X6_lineAt a1 (1 : Int32) q5.2).bind (fun q7 =>
    chk (ib q7.1 6) (
    if (q5.2.1 94 q5.1.toNatClampNeg) = (q7.2.1 94 q7.1.toNatClampNeg) then
      (some ((0 : Int32), q7.2))
    else
      (some ((1 : Int32), q7.2))))))))))
abbrev mX6_isBridge : Me := (yX6_isBridge, cX6_isBridge, 2, (some .boolean), 3, 65)
set_option maxRecDepth 100000 in
set_option maxHeartbeats 4000000 in
theorem c_X6_isBridge {a1 : Int32} {σ : St} {res : Int32 × St} (hf : f_X6_isBridge a1 σ = some res) : Mt mX6_isBridge [.ref 87, .int a1] σ (some (.int res.1)) res.2 := by
  unfold f_X6_isBridge at hf
  refine mt_of (by decide) (Nat.le_of_ble_eq_true rfl) [some (.ref 87), some (.int a1)] rfl (fun Γ G hR => ?_)
  have G : OK Γ RX6 cX6_isBridge 2 (some .boolean) 3 65 := G
  refine s_aload_n G dX6_isBridge_0 rfl ?_
  refine s_iload_n G dX6_isBridge_1 rfl ?_
  obtain ⟨q1, hq1, hf⟩ := bnd hf
  refine s_callV G dX6_isBridge_2 (c_X6_isIn hq1) lkM_X6_73 yk_X6_isIn yv_X6_isIn (by decide) rfl rfl _ [] rfl rfl rfl (Nat.le_of_ble_eq_true rfl) (by decide) ?_
  refine s_if_ne (tgt := 10) G dX6_isBridge_5 (by decide) (fun c2 => ?_) (fun c2 => ?_)
  · replace hf := ifn c2 hf
    refine s_aload_n G dX6_isBridge_10 rfl ?_
    refine s_aload_n G dX6_isBridge_11 rfl ?_
    obtain ⟨q3, hq3, hf⟩ := bnd hf
    refine s_callV G dX6_isBridge_12 (c_X6_inSet hq3) lkM_X6_179 yk_X6_inSet yv_X6_inSet (by decide) rfl rfl _ [.ref 87] rfl rfl rfl (Nat.le_of_ble_eq_true rfl) (by decide) ?_
    refine s_iconst G dX6_isBridge_15 (v := 1) (by decide) ?_
    refine s_iload_n G dX6_isBridge_16 rfl ?_
    refine s_ishl G dX6_isBridge_17 ?_
    refine s_iconst G dX6_isBridge_18 (v := -1) (by decide) ?_
    refine s_ixor G dX6_isBridge_19 ?_
    refine s_iand G dX6_isBridge_20 ?_
    obtain ⟨q4, hq4, hf⟩ := bnd hf
    refine s_callV G dX6_isBridge_21 (c_X6_parts hq4) lkM_X6_104 yk_X6_parts yv_X6_parts (by decide) rfl rfl _ [] rfl rfl rfl (Nat.le_of_ble_eq_true rfl) (by decide) ?_
    refine s_aload_n G dX6_isBridge_24 rfl ?_
    refine s_getR G dX6_isBridge_25 lkF_X6_29 (by decide) rfl rfl ?_
    refine s_aload_n G dX6_isBridge_28 rfl ?_
    refine s_iload_n G dX6_isBridge_29 rfl ?_
    refine s_iconst G dX6_isBridge_30 (v := 0) (by decide) ?_
    obtain ⟨q5, hq5, hf⟩ := bnd hf
    refine s_callV G dX6_isBridge_31 (c_X6_lineAt hq5) lkM_X6_69 yk_X6_lineAt yv_X6_lineAt (by decide) rfl rfl _ [.ref 94] rfl rfl rfl (Nat.le_of_ble_eq_true rfl) (by decide) ?_
    have h6 := chk_1 hf
    replace hf := chk_2 hf
    refine s_iald G dX6_isBridge_34 (by decide) rfl h6 ?_
    refine s_aload_n G dX6_isBridge_35 rfl ?_
    refine s_getR G dX6_isBridge_36 lkF_X6_29 (by decide) rfl rfl ?_
    refine s_aload_n G dX6_isBridge_39 rfl ?_
    refine s_iload_n G dX6_isBridge_40 rfl ?_
    refine s_iconst G dX6_isBridge_41 (v := 1) (by decide) ?_
    obtain ⟨q7, hq7, hf⟩ := bnd hf
    refine s_callV G dX6_isBridge_42 (c_X6_lineAt hq7) lkM_X6_69 yk_X6_lineAt yv_X6_lineAt (by decide) rfl rfl _ [.ref 94, .int (q5.2.1 94 q5.1.toNatClampNeg)] rfl rfl rfl (Nat.le_of_ble_eq_true rfl) (by decide) ?_
    have h8 := chk_1 hf
    replace hf := chk_2 hf
    refine s_iald G dX6_isBridge_45 (by decide) rfl h8 ?_
    refine s_icmp_eq (tgt := 53) G dX6_isBridge_46 (by decide) (fun c9 => ?_) (fun c9 => ?_)
    · replace hf := ifp c9 hf
      refine s_iconst G dX6_isBridge_53 (v := 0) (by decide) ?_
      replace hf := Option.some.inj hf
      subst hf
      exact s_zret G hR dX6_isBridge_54 (by decide) rfl rfl
    · replace hf := ifn c9 hf
      refine s_iconst G dX6_isBridge_49 (v := 1) (by decide) ?_
      refine s_goto (tgt := 54) G dX6_isBridge_50 (by decide) ?_
      replace hf := Option.some.inj hf
      subst hf
      exact s_zret G hR dX6_isBridge_54 (by decide) rfl rfl
  · replace hf := ifp c2 hf
    refine s_iconst G dX6_isBridge_8 (v := 0) (by decide) ?_
    replace hf := Option.some.inj hf
    subst hf
    exact s_zret G hR dX6_isBridge_9 (by decide) rfl rfl
def f_X6_of (a1 : Int32) (a2 : Int32) (σ : St) : Option (Int32 × St) :=
(f_X6_isLine a1 σ).bind (fun q1 =>
  if q1.1 = 0 then
    ((f_X6_refuses (-2 : Int32) q1.2).bind (fun q3 =>
    some (q3.1, q3.2)))
  else
    ((f_X6_in a2.toInt64 (0 : Int64) (5 : Int64) q1.2).bind (fun q4 =>
    if q4.1 = 0 then
      ((f_X6_refuses (-2 : Int32) q4.2).bind (fun q10 =>
      some (q10.1, q10.2)))
    else
      (if (5 : Int32) ≤ a2 then
        ((f_X6_isBridge a1 q4.2).bind (fun q7 =>
        if q7.1 = 0 then
          (some ((0 : Int32), q7.2))
        else
          (some ((1 : Int32), q7.2))))
      else
        ((f_X6_lineAt a1 a2 q4.2).bind (fun q9 =>
        some (q9.1, q9.2)))))))
abbrev mX6_of : Me := (yX6_of, cX6_of, 3, (some .int), 4, 86)
set_option maxRecDepth 100000 in
set_option maxHeartbeats 4000000 in
theorem c_X6_of {a1 : Int32} {a2 : Int32} {σ : St} {res : Int32 × St} (hf : f_X6_of a1 a2 σ = some res) : Mt mX6_of [.ref 87, .int a1, .int a2] σ (some (.int res.1)) res.2 := by
  unfold f_X6_of at hf
  refine mt_of (by decide) (Nat.le_of_ble_eq_true rfl) [some (.ref 87), some (.int a1), some (.int a2)] rfl (fun Γ G hR => ?_)
  have G : OK Γ RX6 cX6_of 3 (some .int) 4 86 := G
  refine s_aload_n G dX6_of_0 rfl ?_
  refine s_iload_n G dX6_of_1 rfl ?_
  obtain ⟨q1, hq1, hf⟩ := bnd hf
  refine s_callV G dX6_of_2 (c_X6_isLine hq1) lkM_X6_165 yk_X6_isLine yv_X6_isLine (by decide) rfl rfl _ [] rfl rfl rfl (Nat.le_of_ble_eq_true rfl) (by decide) ?_
  refine s_if_eq (tgt := 20) G dX6_of_5 (by decide) (fun c2 => ?_) (fun c2 => ?_)
  · replace hf := ifp c2 hf
    refine s_aload_n G dX6_of_20 rfl ?_
    refine s_bipush G dX6_of_21 (v := -2) (by decide) ?_
    obtain ⟨q3, hq3, hf⟩ := bnd hf
    refine s_callV G dX6_of_23 (c_X6_refuses hq3) lkM_X6_130 yk_X6_refuses yv_X6_refuses (by decide) rfl rfl _ [] rfl rfl rfl (Nat.le_of_ble_eq_true rfl) (by decide) ?_
    replace hf := Option.some.inj hf
    subst hf
    exact s_iret G hR dX6_of_26 rfl rfl
  · replace hf := ifn c2 hf
    refine s_iload_n G dX6_of_8 rfl ?_
    refine s_i2l G dX6_of_9 ?_
    refine s_lconst G dX6_of_10 (v := 0) (by decide) ?_
    refine s_ldc2 G dX6_of_11 kc_X6_153 ?_
    obtain ⟨q4, hq4, hf⟩ := bnd hf
    refine s_callS G dX6_of_14 (c_X6_in hq4) lkM_X6_65 yk_X6_in ys_X6_in _ [] rfl rfl rfl (Nat.le_of_ble_eq_true rfl) (by decide) ?_
    refine s_if_ne (tgt := 27) G dX6_of_17 (by decide) (fun c5 => ?_) (fun c5 => ?_)
    · replace hf := ifn c5 hf
      refine s_iload_n G dX6_of_27 rfl ?_
      refine s_iconst G dX6_of_28 (v := 5) (by decide) ?_
      refine s_icmp_ge (tgt := 41) G dX6_of_29 (by decide) (fun c6 => ?_) (fun c6 => ?_)
      · replace hf := ifp c6 hf
        refine s_aload_n G dX6_of_41 rfl ?_
        refine s_iload_n G dX6_of_42 rfl ?_
        obtain ⟨q7, hq7, hf⟩ := bnd hf
        refine s_callV G dX6_of_43 (c_X6_isBridge hq7) lkM_X6_183 yk_X6_isBridge yv_X6_isBridge (by decide) rfl rfl _ [] rfl rfl rfl (Nat.le_of_ble_eq_true rfl) (by decide) ?_
        refine s_if_eq (tgt := 53) G dX6_of_46 (by decide) (fun c8 => ?_) (fun c8 => ?_)
        · replace hf := ifp c8 hf
          refine s_iconst G dX6_of_53 (v := 0) (by decide) ?_
          replace hf := Option.some.inj hf
          subst hf
          exact s_iret G hR dX6_of_54 rfl rfl
        · replace hf := ifn c8 hf
          refine s_iconst G dX6_of_49 (v := 1) (by decide) ?_
          refine s_goto (tgt := 54) G dX6_of_50 (by decide) ?_
          replace hf := Option.some.inj hf
          subst hf
          exact s_iret G hR dX6_of_54 rfl rfl
      · replace hf := ifn c6 hf
        refine s_aload_n G dX6_of_32 rfl ?_
        refine s_iload_n G dX6_of_33 rfl ?_
        refine s_iload_n G dX6_of_34 rfl ?_
        obtain ⟨q9, hq9, hf⟩ := bnd hf
        refine s_callV G dX6_of_35 (c_X6_lineAt hq9) lkM_X6_69 yk_X6_lineAt yv_X6_lineAt (by decide) rfl rfl _ [] rfl rfl rfl (Nat.le_of_ble_eq_true rfl) (by decide) ?_
        refine s_goto (tgt := 54) G dX6_of_38 (by decide) ?_
        replace hf := Option.some.inj hf
        subst hf
        exact s_iret G hR dX6_of_54 rfl rfl
    · replace hf := ifp c5 hf
      refine s_aload_n G dX6_of_20 rfl ?_
      refine s_bipush G dX6_of_21 (v := -2) (by decide) ?_
      obtain ⟨q10, hq10, hf⟩ := bnd hf
      refine s_callV G dX6_of_23 (c_X6_refuses hq10) lkM_X6_130 yk_X6_refuses yv_X6_refuses (by decide) rfl rfl _ [] rfl rfl rfl (Nat.le_of_ble_eq_true rfl) (by decide) ?_
      replace hf := Option.some.inj hf
      subst hf
      exact s_iret G hR dX6_of_26 rfl rfl
def f_X6_flow (a1 : Int32) (a2 : Int32) (σ : St) : Option (Int64 × St) :=
(f_X6_isLine a1 σ).bind (fun q1 =>
  if q1.1 = 0 then
    ((f_X6_refuses (-2 : Int32) q1.2).bind (fun q3 =>
    some (q3.1.toInt64, q3.2)))
  else
    ((f_X6_in a2.toInt64 (0 : Int64) (1 : Int64) q1.2).bind (fun q4 =>
    if q4.1 = 0 then
      ((f_X6_refuses (-2 : Int32) q4.2).bind (fun q11 =>
      some (q11.1.toInt64, q11.2)))
    else
      ((f_X6_asTold q4.2).bind (fun q6 =>
      (f_X6_inSet q6).bind (fun q7 =>
      (f_X6_solves q7.1 q7.2).bind (fun q8 =>
      (f_X6_inSet q8).bind (fun q9 =>
      (f_X6_flowTold a1 q9.1 a2 q9.2).bind (fun q10 =>
      some (q10.1, q10.2))))))))))
abbrev mX6_flow : Me := (yX6_flow, cX6_flow, 3, (some .long), 4, 100)
set_option maxRecDepth 100000 in
set_option maxHeartbeats 4000000 in
theorem c_X6_flow {a1 : Int32} {a2 : Int32} {σ : St} {res : Int64 × St} (hf : f_X6_flow a1 a2 σ = some res) : Mt mX6_flow [.ref 87, .int a1, .int a2] σ (some (.long res.1)) res.2 := by
  unfold f_X6_flow at hf
  refine mt_of (by decide) (Nat.le_of_ble_eq_true rfl) [some (.ref 87), some (.int a1), some (.int a2)] rfl (fun Γ G hR => ?_)
  have G : OK Γ RX6 cX6_flow 3 (some .long) 4 100 := G
  refine s_aload_n G dX6_flow_0 rfl ?_
  refine s_iload_n G dX6_flow_1 rfl ?_
  obtain ⟨q1, hq1, hf⟩ := bnd hf
  refine s_callV G dX6_flow_2 (c_X6_isLine hq1) lkM_X6_165 yk_X6_isLine yv_X6_isLine (by decide) rfl rfl _ [] rfl rfl rfl (Nat.le_of_ble_eq_true rfl) (by decide) ?_
  refine s_if_eq (tgt := 18) G dX6_flow_5 (by decide) (fun c2 => ?_) (fun c2 => ?_)
  · replace hf := ifp c2 hf
    refine s_aload_n G dX6_flow_18 rfl ?_
    refine s_bipush G dX6_flow_19 (v := -2) (by decide) ?_
    obtain ⟨q3, hq3, hf⟩ := bnd hf
    refine s_callV G dX6_flow_21 (c_X6_refuses hq3) lkM_X6_130 yk_X6_refuses yv_X6_refuses (by decide) rfl rfl _ [] rfl rfl rfl (Nat.le_of_ble_eq_true rfl) (by decide) ?_
    refine s_i2l G dX6_flow_24 ?_
    replace hf := Option.some.inj hf
    subst hf
    exact s_lret G hR dX6_flow_25 rfl rfl
  · replace hf := ifn c2 hf
    refine s_iload_n G dX6_flow_8 rfl ?_
    refine s_i2l G dX6_flow_9 ?_
    refine s_lconst G dX6_flow_10 (v := 0) (by decide) ?_
    refine s_lconst G dX6_flow_11 (v := 1) (by decide) ?_
    obtain ⟨q4, hq4, hf⟩ := bnd hf
    refine s_callS G dX6_flow_12 (c_X6_in hq4) lkM_X6_65 yk_X6_in ys_X6_in _ [] rfl rfl rfl (Nat.le_of_ble_eq_true rfl) (by decide) ?_
    refine s_if_ne (tgt := 26) G dX6_flow_15 (by decide) (fun c5 => ?_) (fun c5 => ?_)
    · replace hf := ifn c5 hf
      refine s_aload_n G dX6_flow_26 rfl ?_
      obtain ⟨q6, hq6, hf⟩ := bnd hf
      refine s_callV G dX6_flow_27 (c_X6_asTold hq6) lkM_X6_186 yk_X6_asTold yv_X6_asTold (by decide) rfl rfl _ [] rfl rfl rfl (Nat.le_of_ble_eq_true rfl) (by decide) ?_
      refine s_aload_n G dX6_flow_30 rfl ?_
      refine s_aload_n G dX6_flow_31 rfl ?_
      obtain ⟨q7, hq7, hf⟩ := bnd hf
      refine s_callV G dX6_flow_32 (c_X6_inSet hq7) lkM_X6_179 yk_X6_inSet yv_X6_inSet (by decide) rfl rfl _ [.ref 87] rfl rfl rfl (Nat.le_of_ble_eq_true rfl) (by decide) ?_
      obtain ⟨q8, hq8, hf⟩ := bnd hf
      refine s_callV G dX6_flow_35 (c_X6_solves hq8) lkM_X6_189 yk_X6_solves yv_X6_solves (by decide) rfl rfl _ [] rfl rfl rfl (Nat.le_of_ble_eq_true rfl) (by decide) ?_
      refine s_aload_n G dX6_flow_38 rfl ?_
      refine s_iload_n G dX6_flow_39 rfl ?_
      refine s_aload_n G dX6_flow_40 rfl ?_
      obtain ⟨q9, hq9, hf⟩ := bnd hf
      refine s_callV G dX6_flow_41 (c_X6_inSet hq9) lkM_X6_179 yk_X6_inSet yv_X6_inSet (by decide) rfl rfl _ [.int a1, .ref 87] rfl rfl rfl (Nat.le_of_ble_eq_true rfl) (by decide) ?_
      refine s_iload_n G dX6_flow_44 rfl ?_
      obtain ⟨q10, hq10, hf⟩ := bnd hf
      refine s_callV G dX6_flow_45 (c_X6_flowTold hq10) lkM_X6_192 yk_X6_flowTold yv_X6_flowTold (by decide) rfl rfl _ [] rfl rfl rfl (Nat.le_of_ble_eq_true rfl) (by decide) ?_
      replace hf := Option.some.inj hf
      subst hf
      exact s_lret G hR dX6_flow_48 rfl rfl
    · replace hf := ifp c5 hf
      refine s_aload_n G dX6_flow_18 rfl ?_
      refine s_bipush G dX6_flow_19 (v := -2) (by decide) ?_
      obtain ⟨q11, hq11, hf⟩ := bnd hf
      refine s_callV G dX6_flow_21 (c_X6_refuses hq11) lkM_X6_130 yk_X6_refuses yv_X6_refuses (by decide) rfl rfl _ [] rfl rfl rfl (Nat.le_of_ble_eq_true rfl) (by decide) ?_
      refine s_i2l G dX6_flow_24 ?_
      replace hf := Option.some.inj hf
      subst hf
      exact s_lret G hR dX6_flow_25 rfl rfl
def f_X6_angle (a1 : Int32) (a2 : Int32) (σ : St) : Option (Int64 × St) :=
(f_X6_isBus a1 σ).bind (fun q1 =>
  if q1.1 = 0 then
    ((f_X6_refuses (-2 : Int32) q1.2).bind (fun q3 =>
    some (q3.1.toInt64, q3.2)))
  else
    ((f_X6_in a2.toInt64 (0 : Int64) (1 : Int64) q1.2).bind (fun q4 =>
    if q4.1 = 0 then
      ((f_X6_refuses (-2 : Int32) q4.2).bind (fun q11 =>
      some (q11.1.toInt64, q11.2)))
    else
      ((f_X6_asTold q4.2).bind (fun q6 =>
      (f_X6_inSet q6).bind (fun q7 =>
      (f_X6_solves q7.1 q7.2).bind (fun q8 =>
      chk (ib a1 6) (
      (f_X6_part (q8.2 95 a1.toNatClampNeg) (q8.2 96 a1.toNatClampNeg) a2 q8).bind (fun q10 =>
      some (q10.1, q10.2))))))))))
abbrev mX6_angle : Me := (yX6_angle, cX6_angle, 3, (some .long), 4, 100)
set_option maxRecDepth 100000 in
set_option maxHeartbeats 4000000 in
theorem c_X6_angle {a1 : Int32} {a2 : Int32} {σ : St} {res : Int64 × St} (hf : f_X6_angle a1 a2 σ = some res) : Mt mX6_angle [.ref 87, .int a1, .int a2] σ (some (.long res.1)) res.2 := by
  unfold f_X6_angle at hf
  refine mt_of (by decide) (Nat.le_of_ble_eq_true rfl) [some (.ref 87), some (.int a1), some (.int a2)] rfl (fun Γ G hR => ?_)
  have G : OK Γ RX6 cX6_angle 3 (some .long) 4 100 := G
  refine s_aload_n G dX6_angle_0 rfl ?_
  refine s_iload_n G dX6_angle_1 rfl ?_
  obtain ⟨q1, hq1, hf⟩ := bnd hf
  refine s_callV G dX6_angle_2 (c_X6_isBus hq1) lkM_X6_143 yk_X6_isBus yv_X6_isBus (by decide) rfl rfl _ [] rfl rfl rfl (Nat.le_of_ble_eq_true rfl) (by decide) ?_
  refine s_if_eq (tgt := 18) G dX6_angle_5 (by decide) (fun c2 => ?_) (fun c2 => ?_)
  · replace hf := ifp c2 hf
    refine s_aload_n G dX6_angle_18 rfl ?_
    refine s_bipush G dX6_angle_19 (v := -2) (by decide) ?_
    obtain ⟨q3, hq3, hf⟩ := bnd hf
    refine s_callV G dX6_angle_21 (c_X6_refuses hq3) lkM_X6_130 yk_X6_refuses yv_X6_refuses (by decide) rfl rfl _ [] rfl rfl rfl (Nat.le_of_ble_eq_true rfl) (by decide) ?_
    refine s_i2l G dX6_angle_24 ?_
    replace hf := Option.some.inj hf
    subst hf
    exact s_lret G hR dX6_angle_25 rfl rfl
  · replace hf := ifn c2 hf
    refine s_iload_n G dX6_angle_8 rfl ?_
    refine s_i2l G dX6_angle_9 ?_
    refine s_lconst G dX6_angle_10 (v := 0) (by decide) ?_
    refine s_lconst G dX6_angle_11 (v := 1) (by decide) ?_
    obtain ⟨q4, hq4, hf⟩ := bnd hf
    refine s_callS G dX6_angle_12 (c_X6_in hq4) lkM_X6_65 yk_X6_in ys_X6_in _ [] rfl rfl rfl (Nat.le_of_ble_eq_true rfl) (by decide) ?_
    refine s_if_ne (tgt := 26) G dX6_angle_15 (by decide) (fun c5 => ?_) (fun c5 => ?_)
    · replace hf := ifn c5 hf
      refine s_aload_n G dX6_angle_26 rfl ?_
      obtain ⟨q6, hq6, hf⟩ := bnd hf
      refine s_callV G dX6_angle_27 (c_X6_asTold hq6) lkM_X6_186 yk_X6_asTold yv_X6_asTold (by decide) rfl rfl _ [] rfl rfl rfl (Nat.le_of_ble_eq_true rfl) (by decide) ?_
      refine s_aload_n G dX6_angle_30 rfl ?_
      refine s_aload_n G dX6_angle_31 rfl ?_
      obtain ⟨q7, hq7, hf⟩ := bnd hf
      refine s_callV G dX6_angle_32 (c_X6_inSet hq7) lkM_X6_179 yk_X6_inSet yv_X6_inSet (by decide) rfl rfl _ [.ref 87] rfl rfl rfl (Nat.le_of_ble_eq_true rfl) (by decide) ?_
      obtain ⟨q8, hq8, hf⟩ := bnd hf
      refine s_callV G dX6_angle_35 (c_X6_solves hq8) lkM_X6_189 yk_X6_solves yv_X6_solves (by decide) rfl rfl _ [] rfl rfl rfl (Nat.le_of_ble_eq_true rfl) (by decide) ?_
      refine s_aload_n G dX6_angle_38 rfl ?_
      refine s_getR G dX6_angle_39 lkF_X6_32 (by decide) rfl rfl ?_
      refine s_iload_n G dX6_angle_42 rfl ?_
      have h9 := chk_1 hf
      replace hf := chk_2 hf
      refine s_lald G dX6_angle_43 (by decide) rfl h9 ?_
      refine s_aload_n G dX6_angle_44 rfl ?_
      refine s_getR G dX6_angle_45 lkF_X6_35 (by decide) rfl rfl ?_
      refine s_iload_n G dX6_angle_48 rfl ?_
      refine s_lald G dX6_angle_49 (by decide) rfl h9 ?_
      refine s_iload_n G dX6_angle_50 rfl ?_
      obtain ⟨q10, hq10, hf⟩ := bnd hf
      refine s_callS G dX6_angle_51 (c_X6_part hq10) lkM_X6_116 yk_X6_part ys_X6_part _ [] rfl rfl rfl (Nat.le_of_ble_eq_true rfl) (by decide) ?_
      replace hf := Option.some.inj hf
      subst hf
      exact s_lret G hR dX6_angle_54 rfl rfl
    · replace hf := ifp c5 hf
      refine s_aload_n G dX6_angle_18 rfl ?_
      refine s_bipush G dX6_angle_19 (v := -2) (by decide) ?_
      obtain ⟨q11, hq11, hf⟩ := bnd hf
      refine s_callV G dX6_angle_21 (c_X6_refuses hq11) lkM_X6_130 yk_X6_refuses yv_X6_refuses (by decide) rfl rfl _ [] rfl rfl rfl (Nat.le_of_ble_eq_true rfl) (by decide) ?_
      refine s_i2l G dX6_angle_24 ?_
      replace hf := Option.some.inj hf
      subst hf
      exact s_lret G hR dX6_angle_25 rfl rfl
def f_X6_factor (a1 : Int32) (a2 : Int32) (a3 : Int32) (σ : St) : Option (Int64 × St) :=
(f_X6_isLine a1 σ).bind (fun q1 =>
  if q1.1 = 0 then
    ((f_X6_refuses (-2 : Int32) q1.2).bind (fun q3 =>
    some (q3.1.toInt64, q3.2)))
  else
    ((f_X6_isBus a2 q1.2).bind (fun q4 =>
    if q4.1 = 0 then
      ((f_X6_refuses (-2 : Int32) q4.2).bind (fun q6 =>
      some (q6.1.toInt64, q6.2)))
    else
      ((f_X6_in a3.toInt64 (0 : Int64) (1 : Int64) q4.2).bind (fun q7 =>
      if q7.1 = 0 then
        ((f_X6_refuses (-2 : Int32) q7.2).bind (fun q14 =>
        some (q14.1.toInt64, q14.2)))
      else
        ((f_X6_oneOf a2 (-1 : Int32) q7.2).bind (fun q9 =>
        (f_X6_inSet q9).bind (fun q10 =>
        (f_X6_solves q10.1 q10.2).bind (fun q11 =>
        (f_X6_inSet q11).bind (fun q12 =>
        (f_X6_flowTold a1 q12.1 a3 q12.2).bind (fun q13 =>
        some (q13.1, q13.2))))))))))))
abbrev mX6_factor : Me := (yX6_factor, cX6_factor, 4, (some .long), 4, 100)
set_option maxRecDepth 100000 in
set_option maxHeartbeats 4000000 in
theorem c_X6_factor {a1 : Int32} {a2 : Int32} {a3 : Int32} {σ : St} {res : Int64 × St} (hf : f_X6_factor a1 a2 a3 σ = some res) : Mt mX6_factor [.ref 87, .int a1, .int a2, .int a3] σ (some (.long res.1)) res.2 := by
  unfold f_X6_factor at hf
  refine mt_of (by decide) (Nat.le_of_ble_eq_true rfl) [some (.ref 87), some (.int a1), some (.int a2), some (.int a3)] rfl (fun Γ G hR => ?_)
  have G : OK Γ RX6 cX6_factor 4 (some .long) 4 100 := G
  refine s_aload_n G dX6_factor_0 rfl ?_
  refine s_iload_n G dX6_factor_1 rfl ?_
  obtain ⟨q1, hq1, hf⟩ := bnd hf
  refine s_callV G dX6_factor_2 (c_X6_isLine hq1) lkM_X6_165 yk_X6_isLine yv_X6_isLine (by decide) rfl rfl _ [] rfl rfl rfl (Nat.le_of_ble_eq_true rfl) (by decide) ?_
  refine s_if_eq (tgt := 26) G dX6_factor_5 (by decide) (fun c2 => ?_) (fun c2 => ?_)
  · replace hf := ifp c2 hf
    refine s_aload_n G dX6_factor_26 rfl ?_
    refine s_bipush G dX6_factor_27 (v := -2) (by decide) ?_
    obtain ⟨q3, hq3, hf⟩ := bnd hf
    refine s_callV G dX6_factor_29 (c_X6_refuses hq3) lkM_X6_130 yk_X6_refuses yv_X6_refuses (by decide) rfl rfl _ [] rfl rfl rfl (Nat.le_of_ble_eq_true rfl) (by decide) ?_
    refine s_i2l G dX6_factor_32 ?_
    replace hf := Option.some.inj hf
    subst hf
    exact s_lret G hR dX6_factor_33 rfl rfl
  · replace hf := ifn c2 hf
    refine s_aload_n G dX6_factor_8 rfl ?_
    refine s_iload_n G dX6_factor_9 rfl ?_
    obtain ⟨q4, hq4, hf⟩ := bnd hf
    refine s_callV G dX6_factor_10 (c_X6_isBus hq4) lkM_X6_143 yk_X6_isBus yv_X6_isBus (by decide) rfl rfl _ [] rfl rfl rfl (Nat.le_of_ble_eq_true rfl) (by decide) ?_
    refine s_if_eq (tgt := 26) G dX6_factor_13 (by decide) (fun c5 => ?_) (fun c5 => ?_)
    · replace hf := ifp c5 hf
      refine s_aload_n G dX6_factor_26 rfl ?_
      refine s_bipush G dX6_factor_27 (v := -2) (by decide) ?_
      obtain ⟨q6, hq6, hf⟩ := bnd hf
      refine s_callV G dX6_factor_29 (c_X6_refuses hq6) lkM_X6_130 yk_X6_refuses yv_X6_refuses (by decide) rfl rfl _ [] rfl rfl rfl (Nat.le_of_ble_eq_true rfl) (by decide) ?_
      refine s_i2l G dX6_factor_32 ?_
      replace hf := Option.some.inj hf
      subst hf
      exact s_lret G hR dX6_factor_33 rfl rfl
    · replace hf := ifn c5 hf
      refine s_iload_n G dX6_factor_16 rfl ?_
      refine s_i2l G dX6_factor_17 ?_
      refine s_lconst G dX6_factor_18 (v := 0) (by decide) ?_
      refine s_lconst G dX6_factor_19 (v := 1) (by decide) ?_
      obtain ⟨q7, hq7, hf⟩ := bnd hf
      refine s_callS G dX6_factor_20 (c_X6_in hq7) lkM_X6_65 yk_X6_in ys_X6_in _ [] rfl rfl rfl (Nat.le_of_ble_eq_true rfl) (by decide) ?_
      refine s_if_ne (tgt := 34) G dX6_factor_23 (by decide) (fun c8 => ?_) (fun c8 => ?_)
      · replace hf := ifn c8 hf
        refine s_aload_n G dX6_factor_34 rfl ?_
        refine s_iload_n G dX6_factor_35 rfl ?_
        refine s_iconst G dX6_factor_36 (v := -1) (by decide) ?_
        obtain ⟨q9, hq9, hf⟩ := bnd hf
        refine s_callV G dX6_factor_37 (c_X6_oneOf hq9) lkM_X6_196 yk_X6_oneOf yv_X6_oneOf (by decide) rfl rfl _ [] rfl rfl rfl (Nat.le_of_ble_eq_true rfl) (by decide) ?_
        refine s_aload_n G dX6_factor_40 rfl ?_
        refine s_aload_n G dX6_factor_41 rfl ?_
        obtain ⟨q10, hq10, hf⟩ := bnd hf
        refine s_callV G dX6_factor_42 (c_X6_inSet hq10) lkM_X6_179 yk_X6_inSet yv_X6_inSet (by decide) rfl rfl _ [.ref 87] rfl rfl rfl (Nat.le_of_ble_eq_true rfl) (by decide) ?_
        obtain ⟨q11, hq11, hf⟩ := bnd hf
        refine s_callV G dX6_factor_45 (c_X6_solves hq11) lkM_X6_189 yk_X6_solves yv_X6_solves (by decide) rfl rfl _ [] rfl rfl rfl (Nat.le_of_ble_eq_true rfl) (by decide) ?_
        refine s_aload_n G dX6_factor_48 rfl ?_
        refine s_iload_n G dX6_factor_49 rfl ?_
        refine s_aload_n G dX6_factor_50 rfl ?_
        obtain ⟨q12, hq12, hf⟩ := bnd hf
        refine s_callV G dX6_factor_51 (c_X6_inSet hq12) lkM_X6_179 yk_X6_inSet yv_X6_inSet (by decide) rfl rfl _ [.int a1, .ref 87] rfl rfl rfl (Nat.le_of_ble_eq_true rfl) (by decide) ?_
        refine s_iload_n G dX6_factor_54 rfl ?_
        obtain ⟨q13, hq13, hf⟩ := bnd hf
        refine s_callV G dX6_factor_55 (c_X6_flowTold hq13) lkM_X6_192 yk_X6_flowTold yv_X6_flowTold (by decide) rfl rfl _ [] rfl rfl rfl (Nat.le_of_ble_eq_true rfl) (by decide) ?_
        replace hf := Option.some.inj hf
        subst hf
        exact s_lret G hR dX6_factor_58 rfl rfl
      · replace hf := ifp c8 hf
        refine s_aload_n G dX6_factor_26 rfl ?_
        refine s_bipush G dX6_factor_27 (v := -2) (by decide) ?_
        obtain ⟨q14, hq14, hf⟩ := bnd hf
        refine s_callV G dX6_factor_29 (c_X6_refuses hq14) lkM_X6_130 yk_X6_refuses yv_X6_refuses (by decide) rfl rfl _ [] rfl rfl rfl (Nat.le_of_ble_eq_true rfl) (by decide) ?_
        refine s_i2l G dX6_factor_32 ?_
        replace hf := Option.some.inj hf
        subst hf
        exact s_lret G hR dX6_factor_33 rfl rfl
def f_X6_island (a1 : Int32) (σ : St) : Option (Int32 × St) :=
(f_X6_isBus a1 σ).bind (fun q1 =>
  if q1.1 = 0 then
    ((f_X6_refuses (-2 : Int32) q1.2).bind (fun q6 =>
    some (q6.1, q6.2)))
  else
    ((f_X6_inSet q1.2).bind (fun q3 =>
    (f_X6_parts q3.1 q3.2).bind (fun q4 =>
    chk (ib a1 6) (
    some ((q4.1 94 a1.toNatClampNeg), q4))))))
abbrev mX6_island : Me := (yX6_island, cX6_island, 2, (some .int), 3, 65)
set_option maxRecDepth 100000 in
set_option maxHeartbeats 4000000 in
theorem c_X6_island {a1 : Int32} {σ : St} {res : Int32 × St} (hf : f_X6_island a1 σ = some res) : Mt mX6_island [.ref 87, .int a1] σ (some (.int res.1)) res.2 := by
  unfold f_X6_island at hf
  refine mt_of (by decide) (Nat.le_of_ble_eq_true rfl) [some (.ref 87), some (.int a1)] rfl (fun Γ G hR => ?_)
  have G : OK Γ RX6 cX6_island 2 (some .int) 3 65 := G
  refine s_aload_n G dX6_island_0 rfl ?_
  refine s_iload_n G dX6_island_1 rfl ?_
  obtain ⟨q1, hq1, hf⟩ := bnd hf
  refine s_callV G dX6_island_2 (c_X6_isBus hq1) lkM_X6_143 yk_X6_isBus yv_X6_isBus (by decide) rfl rfl _ [] rfl rfl rfl (Nat.le_of_ble_eq_true rfl) (by decide) ?_
  refine s_if_ne (tgt := 15) G dX6_island_5 (by decide) (fun c2 => ?_) (fun c2 => ?_)
  · replace hf := ifn c2 hf
    refine s_aload_n G dX6_island_15 rfl ?_
    refine s_aload_n G dX6_island_16 rfl ?_
    obtain ⟨q3, hq3, hf⟩ := bnd hf
    refine s_callV G dX6_island_17 (c_X6_inSet hq3) lkM_X6_179 yk_X6_inSet yv_X6_inSet (by decide) rfl rfl _ [.ref 87] rfl rfl rfl (Nat.le_of_ble_eq_true rfl) (by decide) ?_
    obtain ⟨q4, hq4, hf⟩ := bnd hf
    refine s_callV G dX6_island_20 (c_X6_parts hq4) lkM_X6_104 yk_X6_parts yv_X6_parts (by decide) rfl rfl _ [] rfl rfl rfl (Nat.le_of_ble_eq_true rfl) (by decide) ?_
    refine s_aload_n G dX6_island_23 rfl ?_
    refine s_getR G dX6_island_24 lkF_X6_29 (by decide) rfl rfl ?_
    refine s_iload_n G dX6_island_27 rfl ?_
    have h5 := chk_1 hf
    replace hf := chk_2 hf
    refine s_iald G dX6_island_28 (by decide) rfl h5 ?_
    replace hf := Option.some.inj hf
    subst hf
    exact s_iret G hR dX6_island_29 rfl rfl
  · replace hf := ifp c2 hf
    refine s_aload_n G dX6_island_8 rfl ?_
    refine s_bipush G dX6_island_9 (v := -2) (by decide) ?_
    obtain ⟨q6, hq6, hf⟩ := bnd hf
    refine s_callV G dX6_island_11 (c_X6_refuses hq6) lkM_X6_130 yk_X6_refuses yv_X6_refuses (by decide) rfl rfl _ [] rfl rfl rfl (Nat.le_of_ble_eq_true rfl) (by decide) ?_
    replace hf := Option.some.inj hf
    subst hf
    exact s_iret G hR dX6_island_14 rfl rfl
def f_X6_trees (a1 : Int32) (σ : St) : Option (Int64 × St) :=
(f_X6_isBus a1 σ).bind (fun q1 =>
  if q1.1 = 0 then
    ((f_X6_refuses (-2 : Int32) q1.2).bind (fun q8 =>
    some (q8.1.toInt64, q8.2)))
  else
    ((f_X6_inSet q1.2).bind (fun q3 =>
    (f_X6_parts q3.1 q3.2).bind (fun q4 =>
    (f_X6_inSet q4).bind (fun q5 =>
    chk (ib a1 6) (
    (f_X6_treesOf q5.1 (q5.2.1 94 a1.toNatClampNeg) q5.2).bind (fun q7 =>
    some (q7.1, q7.2))))))))
abbrev mX6_trees : Me := (yX6_trees, cX6_trees, 2, (some .long), 3, 75)
set_option maxRecDepth 100000 in
set_option maxHeartbeats 4000000 in
theorem c_X6_trees {a1 : Int32} {σ : St} {res : Int64 × St} (hf : f_X6_trees a1 σ = some res) : Mt mX6_trees [.ref 87, .int a1] σ (some (.long res.1)) res.2 := by
  unfold f_X6_trees at hf
  refine mt_of (by decide) (Nat.le_of_ble_eq_true rfl) [some (.ref 87), some (.int a1)] rfl (fun Γ G hR => ?_)
  have G : OK Γ RX6 cX6_trees 2 (some .long) 3 75 := G
  refine s_aload_n G dX6_trees_0 rfl ?_
  refine s_iload_n G dX6_trees_1 rfl ?_
  obtain ⟨q1, hq1, hf⟩ := bnd hf
  refine s_callV G dX6_trees_2 (c_X6_isBus hq1) lkM_X6_143 yk_X6_isBus yv_X6_isBus (by decide) rfl rfl _ [] rfl rfl rfl (Nat.le_of_ble_eq_true rfl) (by decide) ?_
  refine s_if_ne (tgt := 16) G dX6_trees_5 (by decide) (fun c2 => ?_) (fun c2 => ?_)
  · replace hf := ifn c2 hf
    refine s_aload_n G dX6_trees_16 rfl ?_
    refine s_aload_n G dX6_trees_17 rfl ?_
    obtain ⟨q3, hq3, hf⟩ := bnd hf
    refine s_callV G dX6_trees_18 (c_X6_inSet hq3) lkM_X6_179 yk_X6_inSet yv_X6_inSet (by decide) rfl rfl _ [.ref 87] rfl rfl rfl (Nat.le_of_ble_eq_true rfl) (by decide) ?_
    obtain ⟨q4, hq4, hf⟩ := bnd hf
    refine s_callV G dX6_trees_21 (c_X6_parts hq4) lkM_X6_104 yk_X6_parts yv_X6_parts (by decide) rfl rfl _ [] rfl rfl rfl (Nat.le_of_ble_eq_true rfl) (by decide) ?_
    refine s_aload_n G dX6_trees_24 rfl ?_
    refine s_aload_n G dX6_trees_25 rfl ?_
    obtain ⟨q5, hq5, hf⟩ := bnd hf
    refine s_callV G dX6_trees_26 (c_X6_inSet hq5) lkM_X6_179 yk_X6_inSet yv_X6_inSet (by decide) rfl rfl _ [.ref 87] rfl rfl rfl (Nat.le_of_ble_eq_true rfl) (by decide) ?_
    refine s_aload_n G dX6_trees_29 rfl ?_
    refine s_getR G dX6_trees_30 lkF_X6_29 (by decide) rfl rfl ?_
    refine s_iload_n G dX6_trees_33 rfl ?_
    have h6 := chk_1 hf
    replace hf := chk_2 hf
    refine s_iald G dX6_trees_34 (by decide) rfl h6 ?_
    obtain ⟨q7, hq7, hf⟩ := bnd hf
    refine s_callV G dX6_trees_35 (c_X6_treesOf hq7) lkM_X6_107 yk_X6_treesOf yv_X6_treesOf (by decide) rfl rfl _ [] rfl rfl rfl (Nat.le_of_ble_eq_true rfl) (by decide) ?_
    replace hf := Option.some.inj hf
    subst hf
    exact s_lret G hR dX6_trees_38 rfl rfl
  · replace hf := ifp c2 hf
    refine s_aload_n G dX6_trees_8 rfl ?_
    refine s_bipush G dX6_trees_9 (v := -2) (by decide) ?_
    obtain ⟨q8, hq8, hf⟩ := bnd hf
    refine s_callV G dX6_trees_11 (c_X6_refuses hq8) lkM_X6_130 yk_X6_refuses yv_X6_refuses (by decide) rfl rfl _ [] rfl rfl rfl (Nat.le_of_ble_eq_true rfl) (by decide) ?_
    refine s_i2l G dX6_trees_14 ?_
    replace hf := Option.some.inj hf
    subst hf
    exact s_lret G hR dX6_trees_15 rfl rfl
def f_X6_fed_30 (a1 : Int32) (k8 : Int32 → St → Option (Int32 × St)) : Nat → Int32 → Int32 → St → Option (Int32 × St)
  | 0, _, _, _ => none
  | n9 + 1, x5, x6, σ7 =>
    if (σ7.1 88 (0 : Int32).toNatClampNeg) ≤ x6 then
      (k8 x5 σ7)
    else
      (if x6 = a1 then
        (nm (x5 + (0 : Int32)) (fun x12 : Int32 =>
        f_X6_fed_30 a1 k8 n9 x12 (x6 + 1) σ7))
      else
        (chk (ib x6 6) (
        if (σ7.1 94 x6.toNatClampNeg) = a1 then
          (chk (ib ((2 : Int32) + x6) 58) (
          nm (x5 + (σ7.1 88 ((2 : Int32) + x6).toNatClampNeg)) (fun x17 : Int32 =>
          f_X6_fed_30 a1 k8 n9 x17 (x6 + 1) σ7)))
        else
          (nm (x5 + (0 : Int32)) (fun x15 : Int32 =>
          f_X6_fed_30 a1 k8 n9 x15 (x6 + 1) σ7)))))
def f_X6_fed (a1 : Int32) (σ : St) : Option (Int32 × St) :=
(f_X6_isBus a1 σ).bind (fun q1 =>
  if q1.1 = 0 then
    ((f_X6_refuses (-2 : Int32) q1.2).bind (fun q23 =>
    some ((-99999 : Int32), q23.2)))
  else
    ((f_X6_inSet q1.2).bind (fun q3 =>
    (f_X6_parts q3.1 q3.2).bind (fun q4 =>
    f_X6_fed_30 a1 (fun (x18 : Int32) (σ19 : St) =>
      chk (ib a1 6) (
      if (σ19.1 94 a1.toNatClampNeg) = a1 then
        (some ((-x18), σ19))
      else
        (chk (ib ((2 : Int32) + a1) 58) (
        some ((σ19.1 88 ((2 : Int32) + a1).toNatClampNeg), σ19))))) 1000 (0 : Int32) (0 : Int32) q4))))
abbrev mX6_fed : Me := (yX6_fed, cX6_fed, 4, (some .int), 3, 65)
set_option maxRecDepth 100000 in
set_option maxHeartbeats 4000000 in
theorem l_X6_fed_30 {Γ : Cxt} (G : OK Γ RX6 cX6_fed 4 (some .int) 3 65) {res : Int32 × St} (hR : RetOK Γ (some (.int res.1)) res.2) (a1 : Int32) (k8 : Int32 → St → Option (Int32 × St)) (hk : ∀ (y2 : Int32) (z : St), k8 y2 z = some res → WW Γ 76 [some (.ref 87), some (.int a1), some (.int y2), none] [] z) : ∀ (n9 : Nat) (x5 : Int32) (x6 : Int32) (σ7 : St), f_X6_fed_30 a1 k8 n9 x5 x6 σ7 = some res → WW Γ 30 [some (.ref 87), some (.int a1), some (.int x5), some (.int x6)] [] σ7 := by
  intro n9
  induction n9 with
  | zero =>
    intro x5 x6 σ7 hf
    cases hf
  | succ n9 ih =>
    intro x5 x6 σ7 hf
    unfold f_X6_fed_30 at hf
    refine s_iload_n G dX6_fed_30 rfl ?_
    refine s_aload_n G dX6_fed_31 rfl ?_
    refine s_getR G dX6_fed_32 lkF_X6_7 (by decide) rfl rfl ?_
    refine s_iconst G dX6_fed_35 (v := 0) (by decide) ?_
    refine s_iald G dX6_fed_36 (by decide) rfl (by decide) ?_
    refine s_icmp_ge (tgt := 76) G dX6_fed_37 (by decide) (fun c10 => ?_) (fun c10 => ?_)
    · replace hf := ifp c10 hf
      refine s_fgt [true, true, true, false] rfl ?_
      exact hk x5 σ7 hf
    · replace hf := ifn c10 hf
      refine s_iload_n G dX6_fed_40 rfl ?_
      refine s_iload_n G dX6_fed_41 rfl ?_
      refine s_iload_n G dX6_fed_42 rfl ?_
      refine s_icmp_eq (tgt := 67) G dX6_fed_43 (by decide) (fun c11 => ?_) (fun c11 => ?_)
      · replace hf := ifp c11 hf
        refine s_iconst G dX6_fed_67 (v := 0) (by decide) ?_
        refine s_iadd G dX6_fed_68 ?_
        refine s_topi (fun x12 ex12 => ?_)
        replace hf := nm_at ex12 hf
        refine s_istore_n G dX6_fed_69 rfl (by decide) rfl rfl ?_
        refine s_iinc G dX6_fed_70 rfl (v := (x6 + 1)) rfl (by decide) rfl rfl ?_
        refine s_goto (tgt := 30) G dX6_fed_73 (by decide) ?_
        exact ih x12 (x6 + 1) σ7 hf
      · replace hf := ifn c11 hf
        refine s_aload_n G dX6_fed_46 rfl ?_
        refine s_getR G dX6_fed_47 lkF_X6_29 (by decide) rfl rfl ?_
        refine s_iload_n G dX6_fed_50 rfl ?_
        have h13 := chk_1 hf
        replace hf := chk_2 hf
        refine s_iald G dX6_fed_51 (by decide) rfl h13 ?_
        refine s_iload_n G dX6_fed_52 rfl ?_
        refine s_icmp_ne (tgt := 67) G dX6_fed_53 (by decide) (fun c14 => ?_) (fun c14 => ?_)
        · replace hf := ifn c14 hf
          refine s_iconst G dX6_fed_67 (v := 0) (by decide) ?_
          refine s_iadd G dX6_fed_68 ?_
          refine s_topi (fun x15 ex15 => ?_)
          replace hf := nm_at ex15 hf
          refine s_istore_n G dX6_fed_69 rfl (by decide) rfl rfl ?_
          refine s_iinc G dX6_fed_70 rfl (v := (x6 + 1)) rfl (by decide) rfl rfl ?_
          refine s_goto (tgt := 30) G dX6_fed_73 (by decide) ?_
          exact ih x15 (x6 + 1) σ7 hf
        · replace hf := ifp c14 hf
          refine s_aload_n G dX6_fed_56 rfl ?_
          refine s_getR G dX6_fed_57 lkF_X6_7 (by decide) rfl rfl ?_
          refine s_iconst G dX6_fed_60 (v := 2) (by decide) ?_
          refine s_iload_n G dX6_fed_61 rfl ?_
          refine s_iadd G dX6_fed_62 ?_
          have h16 := chk_1 hf
          replace hf := chk_2 hf
          refine s_iald G dX6_fed_63 (by decide) rfl h16 ?_
          refine s_goto (tgt := 68) G dX6_fed_64 (by decide) ?_
          refine s_iadd G dX6_fed_68 ?_
          refine s_topi (fun x17 ex17 => ?_)
          replace hf := nm_at ex17 hf
          refine s_istore_n G dX6_fed_69 rfl (by decide) rfl rfl ?_
          refine s_iinc G dX6_fed_70 rfl (v := (x6 + 1)) rfl (by decide) rfl rfl ?_
          refine s_goto (tgt := 30) G dX6_fed_73 (by decide) ?_
          exact ih x17 (x6 + 1) σ7 hf
set_option maxRecDepth 100000 in
set_option maxHeartbeats 4000000 in
theorem c_X6_fed {a1 : Int32} {σ : St} {res : Int32 × St} (hf : f_X6_fed a1 σ = some res) : Mt mX6_fed [.ref 87, .int a1] σ (some (.int res.1)) res.2 := by
  unfold f_X6_fed at hf
  refine mt_of (by decide) (Nat.le_of_ble_eq_true rfl) [some (.ref 87), some (.int a1), none, none] rfl (fun Γ G hR => ?_)
  have G : OK Γ RX6 cX6_fed 4 (some .int) 3 65 := G
  refine s_aload_n G dX6_fed_0 rfl ?_
  refine s_iload_n G dX6_fed_1 rfl ?_
  obtain ⟨q1, hq1, hf⟩ := bnd hf
  refine s_callV G dX6_fed_2 (c_X6_isBus hq1) lkM_X6_143 yk_X6_isBus yv_X6_isBus (by decide) rfl rfl _ [] rfl rfl rfl (Nat.le_of_ble_eq_true rfl) (by decide) ?_
  refine s_if_ne (tgt := 18) G dX6_fed_5 (by decide) (fun c2 => ?_) (fun c2 => ?_)
  · replace hf := ifn c2 hf
    refine s_aload_n G dX6_fed_18 rfl ?_
    refine s_aload_n G dX6_fed_19 rfl ?_
    obtain ⟨q3, hq3, hf⟩ := bnd hf
    refine s_callV G dX6_fed_20 (c_X6_inSet hq3) lkM_X6_179 yk_X6_inSet yv_X6_inSet (by decide) rfl rfl _ [.ref 87] rfl rfl rfl (Nat.le_of_ble_eq_true rfl) (by decide) ?_
    obtain ⟨q4, hq4, hf⟩ := bnd hf
    refine s_callV G dX6_fed_23 (c_X6_parts hq4) lkM_X6_104 yk_X6_parts yv_X6_parts (by decide) rfl rfl _ [] rfl rfl rfl (Nat.le_of_ble_eq_true rfl) (by decide) ?_
    refine s_iconst G dX6_fed_26 (v := 0) (by decide) ?_
    refine s_istore_n G dX6_fed_27 rfl (by decide) rfl rfl ?_
    refine s_iconst G dX6_fed_28 (v := 0) (by decide) ?_
    refine s_istore_n G dX6_fed_29 rfl (by decide) rfl rfl ?_
    refine l_X6_fed_30 G hR a1 _ (fun x18 σ19 hf => ?_) 1000 (0 : Int32) (0 : Int32) q4 hf
    refine s_aload_n G dX6_fed_76 rfl ?_
    refine s_getR G dX6_fed_77 lkF_X6_29 (by decide) rfl rfl ?_
    refine s_iload_n G dX6_fed_80 rfl ?_
    have h20 := chk_1 hf
    replace hf := chk_2 hf
    refine s_iald G dX6_fed_81 (by decide) rfl h20 ?_
    refine s_iload_n G dX6_fed_82 rfl ?_
    refine s_icmp_ne (tgt := 91) G dX6_fed_83 (by decide) (fun c21 => ?_) (fun c21 => ?_)
    · replace hf := ifn c21 hf
      refine s_aload_n G dX6_fed_91 rfl ?_
      refine s_getR G dX6_fed_92 lkF_X6_7 (by decide) rfl rfl ?_
      refine s_iconst G dX6_fed_95 (v := 2) (by decide) ?_
      refine s_iload_n G dX6_fed_96 rfl ?_
      refine s_iadd G dX6_fed_97 ?_
      have h22 := chk_1 hf
      replace hf := chk_2 hf
      refine s_iald G dX6_fed_98 (by decide) rfl h22 ?_
      replace hf := Option.some.inj hf
      subst hf
      exact s_iret G hR dX6_fed_99 rfl rfl
    · replace hf := ifp c21 hf
      refine s_iload_n G dX6_fed_86 rfl ?_
      refine s_ineg G dX6_fed_87 ?_
      refine s_goto (tgt := 99) G dX6_fed_88 (by decide) ?_
      replace hf := Option.some.inj hf
      subst hf
      exact s_iret G hR dX6_fed_99 rfl rfl
  · replace hf := ifp c2 hf
    refine s_aload_n G dX6_fed_8 rfl ?_
    refine s_bipush G dX6_fed_9 (v := -2) (by decide) ?_
    obtain ⟨q23, hq23, hf⟩ := bnd hf
    refine s_callV G dX6_fed_11 (c_X6_refuses hq23) lkM_X6_130 yk_X6_refuses yv_X6_refuses (by decide) rfl rfl _ [] rfl rfl rfl (Nat.le_of_ble_eq_true rfl) (by decide) ?_
    refine s_pop G dX6_fed_14 rfl ?_
    refine s_ldc G dX6_fed_15 kc_X6_199 ?_
    replace hf := Option.some.inj hf
    subst hf
    exact s_iret G hR dX6_fed_17 rfl rfl
def f_X6_outage (a1 : Int32) (a2 : Int32) (a3 : Int32) (σ : St) : Option (Int64 × St) :=
(f_X6_isLine a1 σ).bind (fun q1 =>
  if q1.1 = 0 then
    ((f_X6_refuses (-2 : Int32) q1.2).bind (fun q3 =>
    some (q3.1.toInt64, q3.2)))
  else
    ((f_X6_isLine a2 q1.2).bind (fun q4 =>
    if q4.1 = 0 then
      ((f_X6_refuses (-2 : Int32) q4.2).bind (fun q6 =>
      some (q6.1.toInt64, q6.2)))
    else
      ((f_X6_in a3.toInt64 (0 : Int64) (1 : Int64) q4.2).bind (fun q7 =>
      if q7.1 = 0 then
        ((f_X6_refuses (-2 : Int32) q7.2).bind (fun q17 =>
        some (q17.1.toInt64, q17.2)))
      else
        ((f_X6_isIn a2 q7.2).bind (fun q9 =>
        if q9.1 = 0 then
          ((f_X6_refuses (-3 : Int32) q9.2).bind (fun q16 =>
          some (q16.1.toInt64, q16.2)))
        else
          ((f_X6_asTold q9.2).bind (fun q11 =>
          (f_X6_inSet q11).bind (fun q12 =>
          (f_X6_solves (q12.1 &&& (((1 : Int32) <<< (a2 &&& 31)) ^^^ (-1 : Int32))) q12.2).bind (fun q13 =>
          (f_X6_inSet q13).bind (fun q14 =>
          (f_X6_flowTold a1 (q14.1 &&& (((1 : Int32) <<< (a2 &&& 31)) ^^^ (-1 : Int32))) a3 q14.2).bind (fun q15 =>
          some (q15.1, q15.2))))))))))))))
abbrev mX6_outage : Me := (yX6_outage, cX6_outage, 4, (some .long), 4, 100)
set_option maxRecDepth 100000 in
set_option maxHeartbeats 4000000 in
theorem c_X6_outage {a1 : Int32} {a2 : Int32} {a3 : Int32} {σ : St} {res : Int64 × St} (hf : f_X6_outage a1 a2 a3 σ = some res) : Mt mX6_outage [.ref 87, .int a1, .int a2, .int a3] σ (some (.long res.1)) res.2 := by
  unfold f_X6_outage at hf
  refine mt_of (by decide) (Nat.le_of_ble_eq_true rfl) [some (.ref 87), some (.int a1), some (.int a2), some (.int a3)] rfl (fun Γ G hR => ?_)
  have G : OK Γ RX6 cX6_outage 4 (some .long) 4 100 := G
  refine s_aload_n G dX6_outage_0 rfl ?_
  refine s_iload_n G dX6_outage_1 rfl ?_
  obtain ⟨q1, hq1, hf⟩ := bnd hf
  refine s_callV G dX6_outage_2 (c_X6_isLine hq1) lkM_X6_165 yk_X6_isLine yv_X6_isLine (by decide) rfl rfl _ [] rfl rfl rfl (Nat.le_of_ble_eq_true rfl) (by decide) ?_
  refine s_if_eq (tgt := 26) G dX6_outage_5 (by decide) (fun c2 => ?_) (fun c2 => ?_)
  · replace hf := ifp c2 hf
    refine s_aload_n G dX6_outage_26 rfl ?_
    refine s_bipush G dX6_outage_27 (v := -2) (by decide) ?_
    obtain ⟨q3, hq3, hf⟩ := bnd hf
    refine s_callV G dX6_outage_29 (c_X6_refuses hq3) lkM_X6_130 yk_X6_refuses yv_X6_refuses (by decide) rfl rfl _ [] rfl rfl rfl (Nat.le_of_ble_eq_true rfl) (by decide) ?_
    refine s_i2l G dX6_outage_32 ?_
    replace hf := Option.some.inj hf
    subst hf
    exact s_lret G hR dX6_outage_33 rfl rfl
  · replace hf := ifn c2 hf
    refine s_aload_n G dX6_outage_8 rfl ?_
    refine s_iload_n G dX6_outage_9 rfl ?_
    obtain ⟨q4, hq4, hf⟩ := bnd hf
    refine s_callV G dX6_outage_10 (c_X6_isLine hq4) lkM_X6_165 yk_X6_isLine yv_X6_isLine (by decide) rfl rfl _ [] rfl rfl rfl (Nat.le_of_ble_eq_true rfl) (by decide) ?_
    refine s_if_eq (tgt := 26) G dX6_outage_13 (by decide) (fun c5 => ?_) (fun c5 => ?_)
    · replace hf := ifp c5 hf
      refine s_aload_n G dX6_outage_26 rfl ?_
      refine s_bipush G dX6_outage_27 (v := -2) (by decide) ?_
      obtain ⟨q6, hq6, hf⟩ := bnd hf
      refine s_callV G dX6_outage_29 (c_X6_refuses hq6) lkM_X6_130 yk_X6_refuses yv_X6_refuses (by decide) rfl rfl _ [] rfl rfl rfl (Nat.le_of_ble_eq_true rfl) (by decide) ?_
      refine s_i2l G dX6_outage_32 ?_
      replace hf := Option.some.inj hf
      subst hf
      exact s_lret G hR dX6_outage_33 rfl rfl
    · replace hf := ifn c5 hf
      refine s_iload_n G dX6_outage_16 rfl ?_
      refine s_i2l G dX6_outage_17 ?_
      refine s_lconst G dX6_outage_18 (v := 0) (by decide) ?_
      refine s_lconst G dX6_outage_19 (v := 1) (by decide) ?_
      obtain ⟨q7, hq7, hf⟩ := bnd hf
      refine s_callS G dX6_outage_20 (c_X6_in hq7) lkM_X6_65 yk_X6_in ys_X6_in _ [] rfl rfl rfl (Nat.le_of_ble_eq_true rfl) (by decide) ?_
      refine s_if_ne (tgt := 34) G dX6_outage_23 (by decide) (fun c8 => ?_) (fun c8 => ?_)
      · replace hf := ifn c8 hf
        refine s_aload_n G dX6_outage_34 rfl ?_
        refine s_iload_n G dX6_outage_35 rfl ?_
        obtain ⟨q9, hq9, hf⟩ := bnd hf
        refine s_callV G dX6_outage_36 (c_X6_isIn hq9) lkM_X6_73 yk_X6_isIn yv_X6_isIn (by decide) rfl rfl _ [] rfl rfl rfl (Nat.le_of_ble_eq_true rfl) (by decide) ?_
        refine s_if_ne (tgt := 50) G dX6_outage_39 (by decide) (fun c10 => ?_) (fun c10 => ?_)
        · replace hf := ifn c10 hf
          refine s_aload_n G dX6_outage_50 rfl ?_
          obtain ⟨q11, hq11, hf⟩ := bnd hf
          refine s_callV G dX6_outage_51 (c_X6_asTold hq11) lkM_X6_186 yk_X6_asTold yv_X6_asTold (by decide) rfl rfl _ [] rfl rfl rfl (Nat.le_of_ble_eq_true rfl) (by decide) ?_
          refine s_aload_n G dX6_outage_54 rfl ?_
          refine s_aload_n G dX6_outage_55 rfl ?_
          obtain ⟨q12, hq12, hf⟩ := bnd hf
          refine s_callV G dX6_outage_56 (c_X6_inSet hq12) lkM_X6_179 yk_X6_inSet yv_X6_inSet (by decide) rfl rfl _ [.ref 87] rfl rfl rfl (Nat.le_of_ble_eq_true rfl) (by decide) ?_
          refine s_iconst G dX6_outage_59 (v := 1) (by decide) ?_
          refine s_iload_n G dX6_outage_60 rfl ?_
          refine s_ishl G dX6_outage_61 ?_
          refine s_iconst G dX6_outage_62 (v := -1) (by decide) ?_
          refine s_ixor G dX6_outage_63 ?_
          refine s_iand G dX6_outage_64 ?_
          obtain ⟨q13, hq13, hf⟩ := bnd hf
          refine s_callV G dX6_outage_65 (c_X6_solves hq13) lkM_X6_189 yk_X6_solves yv_X6_solves (by decide) rfl rfl _ [] rfl rfl rfl (Nat.le_of_ble_eq_true rfl) (by decide) ?_
          refine s_aload_n G dX6_outage_68 rfl ?_
          refine s_iload_n G dX6_outage_69 rfl ?_
          refine s_aload_n G dX6_outage_70 rfl ?_
          obtain ⟨q14, hq14, hf⟩ := bnd hf
          refine s_callV G dX6_outage_71 (c_X6_inSet hq14) lkM_X6_179 yk_X6_inSet yv_X6_inSet (by decide) rfl rfl _ [.int a1, .ref 87] rfl rfl rfl (Nat.le_of_ble_eq_true rfl) (by decide) ?_
          refine s_iconst G dX6_outage_74 (v := 1) (by decide) ?_
          refine s_iload_n G dX6_outage_75 rfl ?_
          refine s_ishl G dX6_outage_76 ?_
          refine s_iconst G dX6_outage_77 (v := -1) (by decide) ?_
          refine s_ixor G dX6_outage_78 ?_
          refine s_iand G dX6_outage_79 ?_
          refine s_iload_n G dX6_outage_80 rfl ?_
          obtain ⟨q15, hq15, hf⟩ := bnd hf
          refine s_callV G dX6_outage_81 (c_X6_flowTold hq15) lkM_X6_192 yk_X6_flowTold yv_X6_flowTold (by decide) rfl rfl _ [] rfl rfl rfl (Nat.le_of_ble_eq_true rfl) (by decide) ?_
          replace hf := Option.some.inj hf
          subst hf
          exact s_lret G hR dX6_outage_84 rfl rfl
        · replace hf := ifp c10 hf
          refine s_aload_n G dX6_outage_42 rfl ?_
          refine s_bipush G dX6_outage_43 (v := -3) (by decide) ?_
          obtain ⟨q16, hq16, hf⟩ := bnd hf
          refine s_callV G dX6_outage_45 (c_X6_refuses hq16) lkM_X6_130 yk_X6_refuses yv_X6_refuses (by decide) rfl rfl _ [] rfl rfl rfl (Nat.le_of_ble_eq_true rfl) (by decide) ?_
          refine s_i2l G dX6_outage_48 ?_
          replace hf := Option.some.inj hf
          subst hf
          exact s_lret G hR dX6_outage_49 rfl rfl
      · replace hf := ifp c8 hf
        refine s_aload_n G dX6_outage_26 rfl ?_
        refine s_bipush G dX6_outage_27 (v := -2) (by decide) ?_
        obtain ⟨q17, hq17, hf⟩ := bnd hf
        refine s_callV G dX6_outage_29 (c_X6_refuses hq17) lkM_X6_130 yk_X6_refuses yv_X6_refuses (by decide) rfl rfl _ [] rfl rfl rfl (Nat.le_of_ble_eq_true rfl) (by decide) ?_
        refine s_i2l G dX6_outage_32 ?_
        replace hf := Option.some.inj hf
        subst hf
        exact s_lret G hR dX6_outage_33 rfl rfl
def f_X6_spread (a1 : Int32) (a2 : Int32) (a3 : Int32) (σ : St) : Option (Int64 × St) :=
(f_X6_isLine a1 σ).bind (fun q1 =>
  if q1.1 = 0 then
    ((f_X6_refuses (-2 : Int32) q1.2).bind (fun q3 =>
    some (q3.1.toInt64, q3.2)))
  else
    ((f_X6_isLine a2 q1.2).bind (fun q4 =>
    if q4.1 = 0 then
      ((f_X6_refuses (-2 : Int32) q4.2).bind (fun q6 =>
      some (q6.1.toInt64, q6.2)))
    else
      ((f_X6_in a3.toInt64 (0 : Int64) (1 : Int64) q4.2).bind (fun q7 =>
      if q7.1 = 0 then
        ((f_X6_refuses (-2 : Int32) q7.2).bind (fun q38 =>
        some (q38.1.toInt64, q38.2)))
      else
        ((f_X6_isIn a2 q7.2).bind (fun q9 =>
        if q9.1 = 0 then
          ((f_X6_refuses (-3 : Int32) q9.2).bind (fun q11 =>
          some (q11.1.toInt64, q11.2)))
        else
          ((f_X6_isBridge a2 q9.2).bind (fun q12 =>
          if q12.1 = 0 then
            ((f_X6_lineAt a2 (0 : Int32) q12.2).bind (fun q14 =>
            (f_X6_lineAt a2 (1 : Int32) q14.2).bind (fun q15 =>
            (f_X6_oneOf q14.1 q15.1 q15.2).bind (fun q16 =>
            (f_X6_inSet q16).bind (fun q17 =>
            (f_X6_solves q17.1 q17.2).bind (fun q18 =>
            jn (fun q19 : Int32 × St =>
              (if q19.1 = 0 then
                (some (a3.toInt64, q19.2))
              else
                ((f_X6_inSet q19.2).bind (fun q22 =>
                (f_X6_flowOf a1 q22.1 q22.2).bind (fun q23 =>
                (f_X6_lineAt a2 (0 : Int32) q23.2).bind (fun q24 =>
                chk (ib q24.1 6) (
                (f_X6_inSet q24.2).bind (fun q26 =>
                (f_X6_flowOf a2 q26.1 q26.2).bind (fun q27 =>
                (f_X6_part q23.1 ((q24.2.2 96 q24.1.toNatClampNeg) - q27.1) a3 q27.2).bind (fun q28 =>
                some (q28.1, q28.2))))))))))) (fun j20 =>
              if a1 = a2 then
                (j20 ((0 : Int32), q18))
              else
                ((f_X6_isIn a1 q18).bind (fun q30 =>
                if q30.1 = 0 then
                  (j20 ((0 : Int32), q30.2))
                else
                  ((f_X6_lineAt a1 (0 : Int32) q30.2).bind (fun q32 =>
                  chk (ib q32.1 6) (
                  (f_X6_lineAt a2 (0 : Int32) q32.2).bind (fun q34 =>
                  chk (ib q34.1 6) (
                  if (q32.2.1 94 q32.1.toNatClampNeg) = (q34.2.1 94 q34.1.toNatClampNeg) then
                    (j20 ((1 : Int32), q34.2))
                  else
                    (j20 ((0 : Int32), q34.2))))))))))))))))
          else
            ((f_X6_refuses (-3 : Int32) q12.2).bind (fun q37 =>
            some (q37.1.toInt64, q37.2))))))))))))
abbrev mX6_spread : Me := (yX6_spread, cX6_spread, 5, (some .long), 4, 100)
set_option maxRecDepth 100000 in
set_option maxHeartbeats 4000000 in
theorem c_X6_spread {a1 : Int32} {a2 : Int32} {a3 : Int32} {σ : St} {res : Int64 × St} (hf : f_X6_spread a1 a2 a3 σ = some res) : Mt mX6_spread [.ref 87, .int a1, .int a2, .int a3] σ (some (.long res.1)) res.2 := by
  unfold f_X6_spread at hf
  refine mt_of (by decide) (Nat.le_of_ble_eq_true rfl) [some (.ref 87), some (.int a1), some (.int a2), some (.int a3), none] rfl (fun Γ G hR => ?_)
  have G : OK Γ RX6 cX6_spread 5 (some .long) 4 100 := G
  refine s_aload_n G dX6_spread_0 rfl ?_
  refine s_iload_n G dX6_spread_1 rfl ?_
  obtain ⟨q1, hq1, hf⟩ := bnd hf
  refine s_callV G dX6_spread_2 (c_X6_isLine hq1) lkM_X6_165 yk_X6_isLine yv_X6_isLine (by decide) rfl rfl _ [] rfl rfl rfl (Nat.le_of_ble_eq_true rfl) (by decide) ?_
  refine s_if_eq (tgt := 26) G dX6_spread_5 (by decide) (fun c2 => ?_) (fun c2 => ?_)
  · replace hf := ifp c2 hf
    refine s_aload_n G dX6_spread_26 rfl ?_
    refine s_bipush G dX6_spread_27 (v := -2) (by decide) ?_
    obtain ⟨q3, hq3, hf⟩ := bnd hf
    refine s_callV G dX6_spread_29 (c_X6_refuses hq3) lkM_X6_130 yk_X6_refuses yv_X6_refuses (by decide) rfl rfl _ [] rfl rfl rfl (Nat.le_of_ble_eq_true rfl) (by decide) ?_
    refine s_i2l G dX6_spread_32 ?_
    replace hf := Option.some.inj hf
    subst hf
    exact s_lret G hR dX6_spread_33 rfl rfl
  · replace hf := ifn c2 hf
    refine s_aload_n G dX6_spread_8 rfl ?_
    refine s_iload_n G dX6_spread_9 rfl ?_
    obtain ⟨q4, hq4, hf⟩ := bnd hf
    refine s_callV G dX6_spread_10 (c_X6_isLine hq4) lkM_X6_165 yk_X6_isLine yv_X6_isLine (by decide) rfl rfl _ [] rfl rfl rfl (Nat.le_of_ble_eq_true rfl) (by decide) ?_
    refine s_if_eq (tgt := 26) G dX6_spread_13 (by decide) (fun c5 => ?_) (fun c5 => ?_)
    · replace hf := ifp c5 hf
      refine s_aload_n G dX6_spread_26 rfl ?_
      refine s_bipush G dX6_spread_27 (v := -2) (by decide) ?_
      obtain ⟨q6, hq6, hf⟩ := bnd hf
      refine s_callV G dX6_spread_29 (c_X6_refuses hq6) lkM_X6_130 yk_X6_refuses yv_X6_refuses (by decide) rfl rfl _ [] rfl rfl rfl (Nat.le_of_ble_eq_true rfl) (by decide) ?_
      refine s_i2l G dX6_spread_32 ?_
      replace hf := Option.some.inj hf
      subst hf
      exact s_lret G hR dX6_spread_33 rfl rfl
    · replace hf := ifn c5 hf
      refine s_iload_n G dX6_spread_16 rfl ?_
      refine s_i2l G dX6_spread_17 ?_
      refine s_lconst G dX6_spread_18 (v := 0) (by decide) ?_
      refine s_lconst G dX6_spread_19 (v := 1) (by decide) ?_
      obtain ⟨q7, hq7, hf⟩ := bnd hf
      refine s_callS G dX6_spread_20 (c_X6_in hq7) lkM_X6_65 yk_X6_in ys_X6_in _ [] rfl rfl rfl (Nat.le_of_ble_eq_true rfl) (by decide) ?_
      refine s_if_ne (tgt := 34) G dX6_spread_23 (by decide) (fun c8 => ?_) (fun c8 => ?_)
      · replace hf := ifn c8 hf
        refine s_aload_n G dX6_spread_34 rfl ?_
        refine s_iload_n G dX6_spread_35 rfl ?_
        obtain ⟨q9, hq9, hf⟩ := bnd hf
        refine s_callV G dX6_spread_36 (c_X6_isIn hq9) lkM_X6_73 yk_X6_isIn yv_X6_isIn (by decide) rfl rfl _ [] rfl rfl rfl (Nat.le_of_ble_eq_true rfl) (by decide) ?_
        refine s_if_eq (tgt := 50) G dX6_spread_39 (by decide) (fun c10 => ?_) (fun c10 => ?_)
        · replace hf := ifp c10 hf
          refine s_aload_n G dX6_spread_50 rfl ?_
          refine s_bipush G dX6_spread_51 (v := -3) (by decide) ?_
          obtain ⟨q11, hq11, hf⟩ := bnd hf
          refine s_callV G dX6_spread_53 (c_X6_refuses hq11) lkM_X6_130 yk_X6_refuses yv_X6_refuses (by decide) rfl rfl _ [] rfl rfl rfl (Nat.le_of_ble_eq_true rfl) (by decide) ?_
          refine s_i2l G dX6_spread_56 ?_
          replace hf := Option.some.inj hf
          subst hf
          exact s_lret G hR dX6_spread_57 rfl rfl
        · replace hf := ifn c10 hf
          refine s_aload_n G dX6_spread_42 rfl ?_
          refine s_iload_n G dX6_spread_43 rfl ?_
          obtain ⟨q12, hq12, hf⟩ := bnd hf
          refine s_callV G dX6_spread_44 (c_X6_isBridge hq12) lkM_X6_183 yk_X6_isBridge yv_X6_isBridge (by decide) rfl rfl _ [] rfl rfl rfl (Nat.le_of_ble_eq_true rfl) (by decide) ?_
          refine s_if_eq (tgt := 58) G dX6_spread_47 (by decide) (fun c13 => ?_) (fun c13 => ?_)
          · replace hf := ifp c13 hf
            refine s_aload_n G dX6_spread_58 rfl ?_
            refine s_aload_n G dX6_spread_59 rfl ?_
            refine s_iload_n G dX6_spread_60 rfl ?_
            refine s_iconst G dX6_spread_61 (v := 0) (by decide) ?_
            obtain ⟨q14, hq14, hf⟩ := bnd hf
            refine s_callV G dX6_spread_62 (c_X6_lineAt hq14) lkM_X6_69 yk_X6_lineAt yv_X6_lineAt (by decide) rfl rfl _ [.ref 87] rfl rfl rfl (Nat.le_of_ble_eq_true rfl) (by decide) ?_
            refine s_aload_n G dX6_spread_65 rfl ?_
            refine s_iload_n G dX6_spread_66 rfl ?_
            refine s_iconst G dX6_spread_67 (v := 1) (by decide) ?_
            obtain ⟨q15, hq15, hf⟩ := bnd hf
            refine s_callV G dX6_spread_68 (c_X6_lineAt hq15) lkM_X6_69 yk_X6_lineAt yv_X6_lineAt (by decide) rfl rfl _ [.int q14.1, .ref 87] rfl rfl rfl (Nat.le_of_ble_eq_true rfl) (by decide) ?_
            obtain ⟨q16, hq16, hf⟩ := bnd hf
            refine s_callV G dX6_spread_71 (c_X6_oneOf hq16) lkM_X6_196 yk_X6_oneOf yv_X6_oneOf (by decide) rfl rfl _ [] rfl rfl rfl (Nat.le_of_ble_eq_true rfl) (by decide) ?_
            refine s_aload_n G dX6_spread_74 rfl ?_
            refine s_aload_n G dX6_spread_75 rfl ?_
            obtain ⟨q17, hq17, hf⟩ := bnd hf
            refine s_callV G dX6_spread_76 (c_X6_inSet hq17) lkM_X6_179 yk_X6_inSet yv_X6_inSet (by decide) rfl rfl _ [.ref 87] rfl rfl rfl (Nat.le_of_ble_eq_true rfl) (by decide) ?_
            obtain ⟨q18, hq18, hf⟩ := bnd hf
            refine s_callV G dX6_spread_79 (c_X6_solves hq18) lkM_X6_189 yk_X6_solves yv_X6_solves (by decide) rfl rfl _ [] rfl rfl rfl (Nat.le_of_ble_eq_true rfl) (by decide) ?_
            refine s_iload_n G dX6_spread_82 rfl ?_
            refine s_iload_n G dX6_spread_83 rfl ?_
            refine jn_w (fun q19 : Int32 × St => WW Γ 125 [some (.ref 87), some (.int a1), some (.int a2), some (.int a3), none] [.int q19.1] q19.2) hf (fun q19 hf => ?_) (fun j20 hj20 hf => ?_)
            · refine s_istore G dX6_spread_125 (by decide) rfl rfl ?_
              refine s_iload G dX6_spread_127 rfl ?_
              refine s_if_eq (tgt := 169) G dX6_spread_129 (by decide) (fun c21 => ?_) (fun c21 => ?_)
              · replace hf := ifp c21 hf
                refine s_iload_n G dX6_spread_169 rfl ?_
                refine s_i2l G dX6_spread_170 ?_
                replace hf := Option.some.inj hf
                subst hf
                exact s_lret G hR dX6_spread_171 rfl rfl
              · replace hf := ifn c21 hf
                refine s_aload_n G dX6_spread_132 rfl ?_
                refine s_iload_n G dX6_spread_133 rfl ?_
                refine s_aload_n G dX6_spread_134 rfl ?_
                obtain ⟨q22, hq22, hf⟩ := bnd hf
                refine s_callV G dX6_spread_135 (c_X6_inSet hq22) lkM_X6_179 yk_X6_inSet yv_X6_inSet (by decide) rfl rfl _ [.int a1, .ref 87] rfl rfl rfl (Nat.le_of_ble_eq_true rfl) (by decide) ?_
                obtain ⟨q23, hq23, hf⟩ := bnd hf
                refine s_callV G dX6_spread_138 (c_X6_flowOf hq23) lkM_X6_113 yk_X6_flowOf yv_X6_flowOf (by decide) rfl rfl _ [] rfl rfl rfl (Nat.le_of_ble_eq_true rfl) (by decide) ?_
                refine s_aload_n G dX6_spread_141 rfl ?_
                refine s_getR G dX6_spread_142 lkF_X6_35 (by decide) rfl rfl ?_
                refine s_aload_n G dX6_spread_145 rfl ?_
                refine s_iload_n G dX6_spread_146 rfl ?_
                refine s_iconst G dX6_spread_147 (v := 0) (by decide) ?_
                obtain ⟨q24, hq24, hf⟩ := bnd hf
                refine s_callV G dX6_spread_148 (c_X6_lineAt hq24) lkM_X6_69 yk_X6_lineAt yv_X6_lineAt (by decide) rfl rfl _ [.ref 96, .long q23.1] rfl rfl rfl (Nat.le_of_ble_eq_true rfl) (by decide) ?_
                have h25 := chk_1 hf
                replace hf := chk_2 hf
                refine s_lald G dX6_spread_151 (by decide) rfl h25 ?_
                refine s_aload_n G dX6_spread_152 rfl ?_
                refine s_iload_n G dX6_spread_153 rfl ?_
                refine s_aload_n G dX6_spread_154 rfl ?_
                obtain ⟨q26, hq26, hf⟩ := bnd hf
                refine s_callV G dX6_spread_155 (c_X6_inSet hq26) lkM_X6_179 yk_X6_inSet yv_X6_inSet (by decide) rfl rfl _ [.int a2, .ref 87, .long (q24.2.2 96 q24.1.toNatClampNeg), .long q23.1] rfl rfl rfl (Nat.le_of_ble_eq_true rfl) (by decide) ?_
                obtain ⟨q27, hq27, hf⟩ := bnd hf
                refine s_callV G dX6_spread_158 (c_X6_flowOf hq27) lkM_X6_113 yk_X6_flowOf yv_X6_flowOf (by decide) rfl rfl _ [.long (q24.2.2 96 q24.1.toNatClampNeg), .long q23.1] rfl rfl rfl (Nat.le_of_ble_eq_true rfl) (by decide) ?_
                refine s_lsub G dX6_spread_161 ?_
                refine s_iload_n G dX6_spread_162 rfl ?_
                obtain ⟨q28, hq28, hf⟩ := bnd hf
                refine s_callS G dX6_spread_163 (c_X6_part hq28) lkM_X6_116 yk_X6_part ys_X6_part _ [] rfl rfl rfl (Nat.le_of_ble_eq_true rfl) (by decide) ?_
                refine s_goto (tgt := 171) G dX6_spread_166 (by decide) ?_
                replace hf := Option.some.inj hf
                subst hf
                exact s_lret G hR dX6_spread_171 rfl rfl
            · refine s_icmp_eq (tgt := 124) G dX6_spread_84 (by decide) (fun c29 => ?_) (fun c29 => ?_)
              · replace hf := ifp c29 hf
                refine s_iconst G dX6_spread_124 (v := 0) (by decide) ?_
                exact hj20 _ hf
              · replace hf := ifn c29 hf
                refine s_aload_n G dX6_spread_87 rfl ?_
                refine s_iload_n G dX6_spread_88 rfl ?_
                obtain ⟨q30, hq30, hf⟩ := bnd hf
                refine s_callV G dX6_spread_89 (c_X6_isIn hq30) lkM_X6_73 yk_X6_isIn yv_X6_isIn (by decide) rfl rfl _ [] rfl rfl rfl (Nat.le_of_ble_eq_true rfl) (by decide) ?_
                refine s_if_eq (tgt := 124) G dX6_spread_92 (by decide) (fun c31 => ?_) (fun c31 => ?_)
                · replace hf := ifp c31 hf
                  refine s_iconst G dX6_spread_124 (v := 0) (by decide) ?_
                  exact hj20 _ hf
                · replace hf := ifn c31 hf
                  refine s_aload_n G dX6_spread_95 rfl ?_
                  refine s_getR G dX6_spread_96 lkF_X6_29 (by decide) rfl rfl ?_
                  refine s_aload_n G dX6_spread_99 rfl ?_
                  refine s_iload_n G dX6_spread_100 rfl ?_
                  refine s_iconst G dX6_spread_101 (v := 0) (by decide) ?_
                  obtain ⟨q32, hq32, hf⟩ := bnd hf
                  refine s_callV G dX6_spread_102 (c_X6_lineAt hq32) lkM_X6_69 yk_X6_lineAt yv_X6_lineAt (by decide) rfl rfl _ [.ref 94] rfl rfl rfl (Nat.le_of_ble_eq_true rfl) (by decide) ?_
                  have h33 := chk_1 hf
                  replace hf := chk_2 hf
                  refine s_iald G dX6_spread_105 (by decide) rfl h33 ?_
                  refine s_aload_n G dX6_spread_106 rfl ?_
                  refine s_getR G dX6_spread_107 lkF_X6_29 (by decide) rfl rfl ?_
                  refine s_aload_n G dX6_spread_110 rfl ?_
                  refine s_iload_n G dX6_spread_111 rfl ?_
                  refine s_iconst G dX6_spread_112 (v := 0) (by decide) ?_
                  obtain ⟨q34, hq34, hf⟩ := bnd hf
                  refine s_callV G dX6_spread_113 (c_X6_lineAt hq34) lkM_X6_69 yk_X6_lineAt yv_X6_lineAt (by decide) rfl rfl _ [.ref 94, .int (q32.2.1 94 q32.1.toNatClampNeg)] rfl rfl rfl (Nat.le_of_ble_eq_true rfl) (by decide) ?_
                  have h35 := chk_1 hf
                  replace hf := chk_2 hf
                  refine s_iald G dX6_spread_116 (by decide) rfl h35 ?_
                  refine s_icmp_ne (tgt := 124) G dX6_spread_117 (by decide) (fun c36 => ?_) (fun c36 => ?_)
                  · replace hf := ifn c36 hf
                    refine s_iconst G dX6_spread_124 (v := 0) (by decide) ?_
                    exact hj20 _ hf
                  · replace hf := ifp c36 hf
                    refine s_iconst G dX6_spread_120 (v := 1) (by decide) ?_
                    refine s_goto (tgt := 125) G dX6_spread_121 (by decide) ?_
                    exact hj20 _ hf
          · replace hf := ifn c13 hf
            refine s_aload_n G dX6_spread_50 rfl ?_
            refine s_bipush G dX6_spread_51 (v := -3) (by decide) ?_
            obtain ⟨q37, hq37, hf⟩ := bnd hf
            refine s_callV G dX6_spread_53 (c_X6_refuses hq37) lkM_X6_130 yk_X6_refuses yv_X6_refuses (by decide) rfl rfl _ [] rfl rfl rfl (Nat.le_of_ble_eq_true rfl) (by decide) ?_
            refine s_i2l G dX6_spread_56 ?_
            replace hf := Option.some.inj hf
            subst hf
            exact s_lret G hR dX6_spread_57 rfl rfl
      · replace hf := ifp c8 hf
        refine s_aload_n G dX6_spread_26 rfl ?_
        refine s_bipush G dX6_spread_27 (v := -2) (by decide) ?_
        obtain ⟨q38, hq38, hf⟩ := bnd hf
        refine s_callV G dX6_spread_29 (c_X6_refuses hq38) lkM_X6_130 yk_X6_refuses yv_X6_refuses (by decide) rfl rfl _ [] rfl rfl rfl (Nat.le_of_ble_eq_true rfl) (by decide) ?_
        refine s_i2l G dX6_spread_32 ?_
        replace hf := Option.some.inj hf
        subst hf
        exact s_lret G hR dX6_spread_33 rfl rfl
def f_X6_judges_31 (a1 : Int32) (k9 : St → Option (St)) : Nat → Int32 → St → Option (St)
  | 0, _, _ => none
  | n10 + 1, x7, σ8 =>
    if (σ8.1 88 (1 : Int32).toNatClampNeg) ≤ x7 then
      (k9 σ8)
    else
      ((f_X6_has a1 x7 σ8).bind (fun q12 =>
      if q12.1 = 0 then
        (f_X6_judges_31 a1 k9 n10 (x7 + 1) q12.2)
      else
        ((f_X6_flowOf x7 a1 q12.2).bind (fun q14 =>
        jn (fun q15 : Int64 × St =>
          ((f_X6_lineAt x7 (0 : Int32) q15.2).bind (fun q17 =>
          chk (ib q17.1 6) (
          (f_X6_lineAt x7 (3 : Int32) q17.2).bind (fun q19 =>
          nm ((q17.2.2 96 q17.1.toNatClampNeg) * q19.1.toInt64) (fun x20 : Int64 =>
          (f_X6_common q15.1 x20 q19.2).bind (fun q21 =>
          jn (fun q22 : Int32 × St =>
            (nm (sI q22.2 87 18 ((q21.2.1 87 18) + q22.1)) (fun σ24 : St =>
            jn (fun q25 : St =>
              (nm (sI q25 87 15 x7) (fun σ27 : St =>
              chk (decide (¬ q21.1 = 0)) (
              nm (sL σ27 87 16 (q15.1 / q21.1)) (fun σ29 : St =>
              nm (sL σ29 87 17 (x20 / q21.1)) (fun σ30 : St =>
              f_X6_judges_31 a1 k9 n10 (x7 + 1) σ30)))))) (fun j26 =>
              if (σ24.1 87 15) = (-1 : Int32) then
                (j26 σ24)
              else
                (chk (decide (¬ q21.1 = 0)) (
                if ((q15.1 / q21.1) * (σ24.2 87 17)) ≤ ((σ24.2 87 16) * (x20 / q21.1)) then
                  (f_X6_judges_31 a1 k9 n10 (x7 + 1) σ24)
                else
                  (j26 σ24))))))) (fun j23 =>
            if q15.1 ≤ x20 then
              (j23 ((0 : Int32), q21.2))
            else
              (j23 ((1 : Int32), q21.2)))))))))) (fun j16 =>
          if (0 : Int64) ≤ q14.1 then
            (j16 (q14.1, q14.2))
          else
            (j16 ((-q14.1), q14.2)))))))
def f_X6_judges (a1 : Int32) (σ : St) : Option (St) :=
(f_X6_asTold σ).bind (fun q1 =>
  (f_X6_solves a1 q1).bind (fun q2 =>
  nm (sI q2 87 15 (-1 : Int32)) (fun σ3 : St =>
  nm (sL σ3 87 16 (0 : Int64)) (fun σ4 : St =>
  nm (sL σ4 87 17 (1 : Int64)) (fun σ5 : St =>
  nm (sI σ5 87 18 (0 : Int32)) (fun σ6 : St =>
  f_X6_judges_31 a1 (fun (σ36 : St) =>
    some σ36) 1000 (0 : Int32) σ6))))))
abbrev mX6_judges : Me := (yX6_judges, cX6_judges, 9, none, 4, 100)
set_option maxRecDepth 100000 in
set_option maxHeartbeats 4000000 in
theorem l_X6_judges_31 {Γ : Cxt} (G : OK Γ RX6 cX6_judges 9 none 4 100) {res : St} (hR : RetOK Γ none res) (a1 : Int32) (k9 : St → Option (St)) (hk : ∀ (z : St), k9 z = some res → WW Γ 178 [none, none, none, none, none, none, none, none, none] [] z) : ∀ (n10 : Nat) (x7 : Int32) (σ8 : St), f_X6_judges_31 a1 k9 n10 x7 σ8 = some res → WW Γ 31 [some (.ref 87), some (.int a1), some (.int x7), none, none, none, none, none, none] [] σ8 := by
  intro n10
  induction n10 with
  | zero =>
    intro x7 σ8 hf
    cases hf
  | succ n10 ih =>
    intro x7 σ8 hf
    unfold f_X6_judges_31 at hf
    refine s_iload_n G dX6_judges_31 rfl ?_
    refine s_aload_n G dX6_judges_32 rfl ?_
    refine s_getR G dX6_judges_33 lkF_X6_7 (by decide) rfl rfl ?_
    refine s_iconst G dX6_judges_36 (v := 1) (by decide) ?_
    refine s_iald G dX6_judges_37 (by decide) rfl (by decide) ?_
    refine s_icmp_ge (tgt := 178) G dX6_judges_38 (by decide) (fun c11 => ?_) (fun c11 => ?_)
    · replace hf := ifp c11 hf
      refine s_fgt [false, false, false, true, true, true, true, true, true] rfl ?_
      exact hk σ8 hf
    · replace hf := ifn c11 hf
      refine s_iload_n G dX6_judges_41 rfl ?_
      refine s_iload_n G dX6_judges_42 rfl ?_
      obtain ⟨q12, hq12, hf⟩ := bnd hf
      refine s_callS G dX6_judges_43 (c_X6_has hq12) lkM_X6_81 yk_X6_has ys_X6_has _ [] rfl rfl rfl (Nat.le_of_ble_eq_true rfl) (by decide) ?_
      refine s_if_eq (tgt := 172) G dX6_judges_46 (by decide) (fun c13 => ?_) (fun c13 => ?_)
      · replace hf := ifp c13 hf
        refine s_iinc G dX6_judges_172 rfl (v := (x7 + 1)) rfl (by decide) rfl rfl ?_
        refine s_goto (tgt := 31) G dX6_judges_175 (by decide) ?_
        exact ih (x7 + 1) q12.2 hf
      · replace hf := ifn c13 hf
        refine s_aload_n G dX6_judges_49 rfl ?_
        refine s_iload_n G dX6_judges_50 rfl ?_
        refine s_iload_n G dX6_judges_51 rfl ?_
        obtain ⟨q14, hq14, hf⟩ := bnd hf
        refine s_callV G dX6_judges_52 (c_X6_flowOf hq14) lkM_X6_113 yk_X6_flowOf yv_X6_flowOf (by decide) rfl rfl _ [] rfl rfl rfl (Nat.le_of_ble_eq_true rfl) (by decide) ?_
        refine s_lstore_n G dX6_judges_55 rfl (by decide) rfl rfl ?_
        refine s_lload_n G dX6_judges_56 rfl ?_
        refine s_lconst G dX6_judges_57 (v := 0) (by decide) ?_
        refine jn_w (fun q15 : Int64 × St => WW Γ 68 [some (.ref 87), some (.int a1), some (.int x7), none, none, none, none, none, none] [.long q15.1] q15.2) hf (fun q15 hf => ?_) (fun j16 hj16 hf => ?_)
        · refine s_lstore_n G dX6_judges_68 rfl (by decide) rfl rfl ?_
          refine s_aload_n G dX6_judges_69 rfl ?_
          refine s_getR G dX6_judges_70 lkF_X6_35 (by decide) rfl rfl ?_
          refine s_aload_n G dX6_judges_73 rfl ?_
          refine s_iload_n G dX6_judges_74 rfl ?_
          refine s_iconst G dX6_judges_75 (v := 0) (by decide) ?_
          obtain ⟨q17, hq17, hf⟩ := bnd hf
          refine s_callV G dX6_judges_76 (c_X6_lineAt hq17) lkM_X6_69 yk_X6_lineAt yv_X6_lineAt (by decide) rfl rfl _ [.ref 96] rfl rfl rfl (Nat.le_of_ble_eq_true rfl) (by decide) ?_
          have h18 := chk_1 hf
          replace hf := chk_2 hf
          refine s_lald G dX6_judges_79 (by decide) rfl h18 ?_
          refine s_aload_n G dX6_judges_80 rfl ?_
          refine s_iload_n G dX6_judges_81 rfl ?_
          refine s_iconst G dX6_judges_82 (v := 3) (by decide) ?_
          obtain ⟨q19, hq19, hf⟩ := bnd hf
          refine s_callV G dX6_judges_83 (c_X6_lineAt hq19) lkM_X6_69 yk_X6_lineAt yv_X6_lineAt (by decide) rfl rfl _ [.long (q17.2.2 96 q17.1.toNatClampNeg)] rfl rfl rfl (Nat.le_of_ble_eq_true rfl) (by decide) ?_
          refine s_i2l G dX6_judges_86 ?_
          refine s_lmul G dX6_judges_87 ?_
          refine s_topl (fun x20 ex20 => ?_)
          replace hf := nm_at ex20 hf
          refine s_lstore G dX6_judges_88 (by decide) rfl rfl ?_
          refine s_lload_n G dX6_judges_90 rfl ?_
          refine s_lload G dX6_judges_91 rfl ?_
          obtain ⟨q21, hq21, hf⟩ := bnd hf
          refine s_callS G dX6_judges_93 (c_X6_common hq21) lkM_X6_77 yk_X6_common ys_X6_common _ [] rfl rfl rfl (Nat.le_of_ble_eq_true rfl) (by decide) ?_
          refine s_lstore G dX6_judges_96 (by decide) rfl rfl ?_
          refine s_aload_n G dX6_judges_98 rfl ?_
          refine s_dup G dX6_judges_99 rfl ?_
          refine s_getI (n := 0) G dX6_judges_100 lkF_X6_210 (by decide) rfl rfl ?_
          refine s_lload_n G dX6_judges_103 rfl ?_
          refine s_lload G dX6_judges_104 rfl ?_
          refine jn_w (fun q22 : Int32 × St => WW Γ 115 [some (.ref 87), some (.int a1), some (.int x7), some (.long q15.1), none, some (.long x20), none, some (.long q21.1), none] [.int q22.1, .int (q21.2.1 87 18), .ref 87] q22.2) hf (fun q22 hf => ?_) (fun j23 hj23 hf => ?_)
          · refine s_iadd G dX6_judges_115 ?_
            refine s_putI G dX6_judges_116 lkP_X6_210 (by decide) rfl rfl ?_
            refine s_st (fun σ24 eσ24 => ?_)
            replace hf := nm_at eσ24 hf
            refine s_aload_n G dX6_judges_119 rfl ?_
            refine s_getI (n := 0) G dX6_judges_120 lkF_X6_200 (by decide) rfl rfl ?_
            refine s_iconst G dX6_judges_123 (v := -1) (by decide) ?_
            refine jn_w (fun q25 : St => WW Γ 150 [some (.ref 87), some (.int a1), some (.int x7), some (.long q15.1), none, some (.long x20), none, some (.long q21.1), none] [] q25) hf (fun q25 hf => ?_) (fun j26 hj26 hf => ?_)
            · refine s_aload_n G dX6_judges_150 rfl ?_
              refine s_iload_n G dX6_judges_151 rfl ?_
              refine s_putI G dX6_judges_152 lkP_X6_200 (by decide) rfl rfl ?_
              refine s_st (fun σ27 eσ27 => ?_)
              replace hf := nm_at eσ27 hf
              refine s_aload_n G dX6_judges_155 rfl ?_
              refine s_lload_n G dX6_judges_156 rfl ?_
              refine s_lload G dX6_judges_157 rfl ?_
              have h28 := chk_1 hf
              replace hf := chk_2 hf
              refine s_ldiv G dX6_judges_159 h28 ?_
              refine s_putL G dX6_judges_160 lkP_X6_203 (by decide) rfl rfl ?_
              refine s_st (fun σ29 eσ29 => ?_)
              replace hf := nm_at eσ29 hf
              refine s_aload_n G dX6_judges_163 rfl ?_
              refine s_lload G dX6_judges_164 rfl ?_
              refine s_lload G dX6_judges_166 rfl ?_
              refine s_ldiv G dX6_judges_168 h28 ?_
              refine s_putL G dX6_judges_169 lkP_X6_207 (by decide) rfl rfl ?_
              refine s_st (fun σ30 eσ30 => ?_)
              replace hf := nm_at eσ30 hf
              refine s_iinc G dX6_judges_172 rfl (v := (x7 + 1)) rfl (by decide) rfl rfl ?_
              refine s_goto (tgt := 31) G dX6_judges_175 (by decide) ?_
              refine s_fgt [true, true, true, false, true, false, true, false, true] rfl ?_
              exact ih (x7 + 1) σ30 hf
            · refine s_icmp_eq (tgt := 150) G dX6_judges_124 (by decide) (fun c31 => ?_) (fun c31 => ?_)
              · replace hf := ifp c31 hf
                exact hj26 _ hf
              · replace hf := ifn c31 hf
                refine s_lload_n G dX6_judges_127 rfl ?_
                refine s_lload G dX6_judges_128 rfl ?_
                have h32 := chk_1 hf
                replace hf := chk_2 hf
                refine s_ldiv G dX6_judges_130 h32 ?_
                refine s_aload_n G dX6_judges_131 rfl ?_
                refine s_getL (n := 0) G dX6_judges_132 lkF_X6_207 (by decide) rfl rfl ?_
                refine s_lmul G dX6_judges_135 ?_
                refine s_aload_n G dX6_judges_136 rfl ?_
                refine s_getL (n := 0) G dX6_judges_137 lkF_X6_203 (by decide) rfl rfl ?_
                refine s_lload G dX6_judges_140 rfl ?_
                refine s_lload G dX6_judges_142 rfl ?_
                refine s_ldiv G dX6_judges_144 h32 ?_
                refine s_lmul G dX6_judges_145 ?_
                refine s_lif_le (tgt := 172) (pc2 := 0) G dX6_judges_146 dX6_judges_147 (by decide) (fun c33 => ?_) (fun c33 => ?_)
                · replace hf := ifp c33 hf
                  refine s_iinc G dX6_judges_172 rfl (v := (x7 + 1)) rfl (by decide) rfl rfl ?_
                  refine s_goto (tgt := 31) G dX6_judges_175 (by decide) ?_
                  refine s_fgt [true, true, true, false, true, false, true, false, true] rfl ?_
                  exact ih (x7 + 1) σ24 hf
                · replace hf := ifn c33 hf
                  exact hj26 _ hf
          · refine s_lif_le (tgt := 114) (pc2 := 0) G dX6_judges_106 dX6_judges_107 (by decide) (fun c34 => ?_) (fun c34 => ?_)
            · replace hf := ifp c34 hf
              refine s_iconst G dX6_judges_114 (v := 0) (by decide) ?_
              exact hj23 _ hf
            · replace hf := ifn c34 hf
              refine s_iconst G dX6_judges_110 (v := 1) (by decide) ?_
              refine s_goto (tgt := 115) G dX6_judges_111 (by decide) ?_
              exact hj23 _ hf
        · refine s_lif_ge (tgt := 67) (pc2 := 0) G dX6_judges_58 dX6_judges_59 (by decide) (fun c35 => ?_) (fun c35 => ?_)
          · replace hf := ifp c35 hf
            refine s_lload_n G dX6_judges_67 rfl ?_
            refine s_fgt [true, true, true, false, true, true, true, true, true] rfl ?_
            exact hj16 _ hf
          · replace hf := ifn c35 hf
            refine s_lload_n G dX6_judges_62 rfl ?_
            refine s_lneg G dX6_judges_63 ?_
            refine s_goto (tgt := 68) G dX6_judges_64 (by decide) ?_
            refine s_fgt [true, true, true, false, true, true, true, true, true] rfl ?_
            exact hj16 _ hf
set_option maxRecDepth 100000 in
set_option maxHeartbeats 4000000 in
theorem c_X6_judges {a1 : Int32} {σ : St} {res : St} (hf : f_X6_judges a1 σ = some res) : Mt mX6_judges [.ref 87, .int a1] σ none res := by
  unfold f_X6_judges at hf
  refine mt_of (by decide) (Nat.le_of_ble_eq_true rfl) [some (.ref 87), some (.int a1), none, none, none, none, none, none, none] rfl (fun Γ G hR => ?_)
  have G : OK Γ RX6 cX6_judges 9 none 4 100 := G
  refine s_aload_n G dX6_judges_0 rfl ?_
  obtain ⟨q1, hq1, hf⟩ := bnd hf
  refine s_callV G dX6_judges_1 (c_X6_asTold hq1) lkM_X6_186 yk_X6_asTold yv_X6_asTold (by decide) rfl rfl _ [] rfl rfl rfl (Nat.le_of_ble_eq_true rfl) (by decide) ?_
  refine s_aload_n G dX6_judges_4 rfl ?_
  refine s_iload_n G dX6_judges_5 rfl ?_
  obtain ⟨q2, hq2, hf⟩ := bnd hf
  refine s_callV G dX6_judges_6 (c_X6_solves hq2) lkM_X6_189 yk_X6_solves yv_X6_solves (by decide) rfl rfl _ [] rfl rfl rfl (Nat.le_of_ble_eq_true rfl) (by decide) ?_
  refine s_aload_n G dX6_judges_9 rfl ?_
  refine s_iconst G dX6_judges_10 (v := -1) (by decide) ?_
  refine s_putI G dX6_judges_11 lkP_X6_200 (by decide) rfl rfl ?_
  refine s_st (fun σ3 eσ3 => ?_)
  replace hf := nm_at eσ3 hf
  refine s_aload_n G dX6_judges_14 rfl ?_
  refine s_lconst G dX6_judges_15 (v := 0) (by decide) ?_
  refine s_putL G dX6_judges_16 lkP_X6_203 (by decide) rfl rfl ?_
  refine s_st (fun σ4 eσ4 => ?_)
  replace hf := nm_at eσ4 hf
  refine s_aload_n G dX6_judges_19 rfl ?_
  refine s_lconst G dX6_judges_20 (v := 1) (by decide) ?_
  refine s_putL G dX6_judges_21 lkP_X6_207 (by decide) rfl rfl ?_
  refine s_st (fun σ5 eσ5 => ?_)
  replace hf := nm_at eσ5 hf
  refine s_aload_n G dX6_judges_24 rfl ?_
  refine s_iconst G dX6_judges_25 (v := 0) (by decide) ?_
  refine s_putI G dX6_judges_26 lkP_X6_210 (by decide) rfl rfl ?_
  refine s_st (fun σ6 eσ6 => ?_)
  replace hf := nm_at eσ6 hf
  refine s_iconst G dX6_judges_29 (v := 0) (by decide) ?_
  refine s_istore_n G dX6_judges_30 rfl (by decide) rfl rfl ?_
  refine l_X6_judges_31 G hR a1 _ (fun σ36 hf => ?_) 1000 (0 : Int32) σ6 hf
  replace hf := Option.some.inj hf
  subst hf
  exact s_vret G hR dX6_judges_178 rfl rfl
def f_X6_worst (a1 : Int32) (a2 : Int32) (σ : St) : Option (Int64 × St) :=
jn (fun q1 : St =>
    ((f_X6_in a2.toInt64 (0 : Int64) (3 : Int64) q1).bind (fun q3 =>
    if q3.1 = 0 then
      ((f_X6_refuses (-2 : Int32) q3.2).bind (fun q20 =>
      some (q20.1.toInt64, q20.2)))
    else
      (jn (fun q5 : St =>
        (jn (fun q7 : Int32 × St =>
          ((f_X6_judges q7.1 q7.2).bind (fun q9 =>
          if a2 = 0 then
            (some ((q9.1 87 15).toInt64, q9))
          else
            (if a2 = (1 : Int32) then
              (some ((q9.2 87 16), q9))
            else
              (if a2 = (2 : Int32) then
                (some ((q9.2 87 17), q9))
              else
                (some ((q9.1 87 18).toInt64, q9))))))) (fun j8 =>
          if a1 = (-1 : Int32) then
            ((f_X6_inSet q5).bind (fun q15 =>
            j8 (q15.1, q15.2)))
          else
            ((f_X6_inSet q5).bind (fun q14 =>
            j8 ((q14.1 &&& (((1 : Int32) <<< (a1 &&& 31)) ^^^ (-1 : Int32))), q14.2)))))) (fun j6 =>
        if a1 = (-1 : Int32) then
          (j6 q3.2)
        else
          ((f_X6_isIn a1 q3.2).bind (fun q17 =>
          if q17.1 = 0 then
            ((f_X6_refuses (-3 : Int32) q17.2).bind (fun q19 =>
            some (q19.1.toInt64, q19.2)))
          else
            (j6 q17.2)))))))) (fun j2 =>
    if a1 = (-1 : Int32) then
      (j2 σ)
    else
      ((f_X6_isLine a1 σ).bind (fun q22 =>
      if q22.1 = 0 then
        ((f_X6_refuses (-2 : Int32) q22.2).bind (fun q24 =>
        some (q24.1.toInt64, q24.2)))
      else
        (j2 q22.2))))
abbrev mX6_worst : Me := (yX6_worst, cX6_worst, 3, (some .long), 5, 128)
set_option maxRecDepth 100000 in
set_option maxHeartbeats 4000000 in
theorem c_X6_worst {a1 : Int32} {a2 : Int32} {σ : St} {res : Int64 × St} (hf : f_X6_worst a1 a2 σ = some res) : Mt mX6_worst [.ref 87, .int a1, .int a2] σ (some (.long res.1)) res.2 := by
  unfold f_X6_worst at hf
  refine mt_of (by decide) (Nat.le_of_ble_eq_true rfl) [some (.ref 87), some (.int a1), some (.int a2)] rfl (fun Γ G hR => ?_)
  have G : OK Γ RX6 cX6_worst 3 (some .long) 5 128 := G
  refine s_iload_n G dX6_worst_0 rfl ?_
  refine s_iconst G dX6_worst_1 (v := -1) (by decide) ?_
  refine jn_w (fun q1 : St => WW Γ 13 [some (.ref 87), some (.int a1), some (.int a2)] [] q1) hf (fun q1 hf => ?_) (fun j2 hj2 hf => ?_)
  · refine s_iload_n G dX6_worst_13 rfl ?_
    refine s_i2l G dX6_worst_14 ?_
    refine s_lconst G dX6_worst_15 (v := 0) (by decide) ?_
    refine s_ldc2 G dX6_worst_16 kc_X6_213 ?_
    obtain ⟨q3, hq3, hf⟩ := bnd hf
    refine s_callS G dX6_worst_19 (c_X6_in hq3) lkM_X6_65 yk_X6_in ys_X6_in _ [] rfl rfl rfl (Nat.le_of_ble_eq_true rfl) (by decide) ?_
    refine s_if_ne (tgt := 33) G dX6_worst_22 (by decide) (fun c4 => ?_) (fun c4 => ?_)
    · replace hf := ifn c4 hf
      refine s_iload_n G dX6_worst_33 rfl ?_
      refine s_iconst G dX6_worst_34 (v := -1) (by decide) ?_
      refine jn_w (fun q5 : St => WW Γ 54 [some (.ref 87), some (.int a1), some (.int a2)] [] q5) hf (fun q5 hf => ?_) (fun j6 hj6 hf => ?_)
      · refine s_aload_n G dX6_worst_54 rfl ?_
        refine s_iload_n G dX6_worst_55 rfl ?_
        refine s_iconst G dX6_worst_56 (v := -1) (by decide) ?_
        refine jn_w (fun q7 : Int32 × St => WW Γ 77 [some (.ref 87), none, some (.int a2)] [.int q7.1, .ref 87] q7.2) hf (fun q7 hf => ?_) (fun j8 hj8 hf => ?_)
        · obtain ⟨q9, hq9, hf⟩ := bnd hf
          refine s_callV G dX6_worst_77 (c_X6_judges hq9) lkM_X6_215 yk_X6_judges yv_X6_judges (by decide) rfl rfl _ [] rfl rfl rfl (Nat.le_of_ble_eq_true rfl) (by decide) ?_
          refine s_iload_n G dX6_worst_80 rfl ?_
          refine s_if_ne (tgt := 92) G dX6_worst_81 (by decide) (fun c10 => ?_) (fun c10 => ?_)
          · replace hf := ifn c10 hf
            refine s_iload_n G dX6_worst_92 rfl ?_
            refine s_iconst G dX6_worst_93 (v := 1) (by decide) ?_
            refine s_icmp_ne (tgt := 104) G dX6_worst_94 (by decide) (fun c11 => ?_) (fun c11 => ?_)
            · replace hf := ifn c11 hf
              refine s_iload_n G dX6_worst_104 rfl ?_
              refine s_iconst G dX6_worst_105 (v := 2) (by decide) ?_
              refine s_icmp_ne (tgt := 116) G dX6_worst_106 (by decide) (fun c12 => ?_) (fun c12 => ?_)
              · replace hf := ifn c12 hf
                refine s_aload_n G dX6_worst_116 rfl ?_
                refine s_getI (n := 0) G dX6_worst_117 lkF_X6_210 (by decide) rfl rfl ?_
                refine s_i2l G dX6_worst_120 ?_
                replace hf := Option.some.inj hf
                subst hf
                exact s_lret G hR dX6_worst_121 rfl rfl
              · replace hf := ifp c12 hf
                refine s_aload_n G dX6_worst_109 rfl ?_
                refine s_getL (n := 0) G dX6_worst_110 lkF_X6_207 (by decide) rfl rfl ?_
                refine s_goto (tgt := 121) G dX6_worst_113 (by decide) ?_
                replace hf := Option.some.inj hf
                subst hf
                exact s_lret G hR dX6_worst_121 rfl rfl
            · replace hf := ifp c11 hf
              refine s_aload_n G dX6_worst_97 rfl ?_
              refine s_getL (n := 0) G dX6_worst_98 lkF_X6_203 (by decide) rfl rfl ?_
              refine s_goto (tgt := 121) G dX6_worst_101 (by decide) ?_
              replace hf := Option.some.inj hf
              subst hf
              exact s_lret G hR dX6_worst_121 rfl rfl
          · replace hf := ifp c10 hf
            refine s_aload_n G dX6_worst_84 rfl ?_
            refine s_getI (n := 0) G dX6_worst_85 lkF_X6_200 (by decide) rfl rfl ?_
            refine s_i2l G dX6_worst_88 ?_
            refine s_goto (tgt := 121) G dX6_worst_89 (by decide) ?_
            replace hf := Option.some.inj hf
            subst hf
            exact s_lret G hR dX6_worst_121 rfl rfl
        · refine s_icmp_ne (tgt := 67) G dX6_worst_57 (by decide) (fun c13 => ?_) (fun c13 => ?_)
          · replace hf := ifn c13 hf
            refine s_aload_n G dX6_worst_67 rfl ?_
            obtain ⟨q14, hq14, hf⟩ := bnd hf
            refine s_callV G dX6_worst_68 (c_X6_inSet hq14) lkM_X6_179 yk_X6_inSet yv_X6_inSet (by decide) rfl rfl _ [.ref 87] rfl rfl rfl (Nat.le_of_ble_eq_true rfl) (by decide) ?_
            refine s_iconst G dX6_worst_71 (v := 1) (by decide) ?_
            refine s_iload_n G dX6_worst_72 rfl ?_
            refine s_ishl G dX6_worst_73 ?_
            refine s_iconst G dX6_worst_74 (v := -1) (by decide) ?_
            refine s_ixor G dX6_worst_75 ?_
            refine s_iand G dX6_worst_76 ?_
            refine s_fgt [true, false, true] rfl ?_
            exact hj8 _ hf
          · replace hf := ifp c13 hf
            refine s_aload_n G dX6_worst_60 rfl ?_
            obtain ⟨q15, hq15, hf⟩ := bnd hf
            refine s_callV G dX6_worst_61 (c_X6_inSet hq15) lkM_X6_179 yk_X6_inSet yv_X6_inSet (by decide) rfl rfl _ [.ref 87] rfl rfl rfl (Nat.le_of_ble_eq_true rfl) (by decide) ?_
            refine s_goto (tgt := 77) G dX6_worst_64 (by decide) ?_
            refine s_fgt [true, false, true] rfl ?_
            exact hj8 _ hf
      · refine s_icmp_eq (tgt := 54) G dX6_worst_35 (by decide) (fun c16 => ?_) (fun c16 => ?_)
        · replace hf := ifp c16 hf
          exact hj6 _ hf
        · replace hf := ifn c16 hf
          refine s_aload_n G dX6_worst_38 rfl ?_
          refine s_iload_n G dX6_worst_39 rfl ?_
          obtain ⟨q17, hq17, hf⟩ := bnd hf
          refine s_callV G dX6_worst_40 (c_X6_isIn hq17) lkM_X6_73 yk_X6_isIn yv_X6_isIn (by decide) rfl rfl _ [] rfl rfl rfl (Nat.le_of_ble_eq_true rfl) (by decide) ?_
          refine s_if_ne (tgt := 54) G dX6_worst_43 (by decide) (fun c18 => ?_) (fun c18 => ?_)
          · replace hf := ifn c18 hf
            exact hj6 _ hf
          · replace hf := ifp c18 hf
            refine s_aload_n G dX6_worst_46 rfl ?_
            refine s_bipush G dX6_worst_47 (v := -3) (by decide) ?_
            obtain ⟨q19, hq19, hf⟩ := bnd hf
            refine s_callV G dX6_worst_49 (c_X6_refuses hq19) lkM_X6_130 yk_X6_refuses yv_X6_refuses (by decide) rfl rfl _ [] rfl rfl rfl (Nat.le_of_ble_eq_true rfl) (by decide) ?_
            refine s_i2l G dX6_worst_52 ?_
            replace hf := Option.some.inj hf
            subst hf
            exact s_lret G hR dX6_worst_53 rfl rfl
    · replace hf := ifp c4 hf
      refine s_aload_n G dX6_worst_25 rfl ?_
      refine s_bipush G dX6_worst_26 (v := -2) (by decide) ?_
      obtain ⟨q20, hq20, hf⟩ := bnd hf
      refine s_callV G dX6_worst_28 (c_X6_refuses hq20) lkM_X6_130 yk_X6_refuses yv_X6_refuses (by decide) rfl rfl _ [] rfl rfl rfl (Nat.le_of_ble_eq_true rfl) (by decide) ?_
      refine s_i2l G dX6_worst_31 ?_
      replace hf := Option.some.inj hf
      subst hf
      exact s_lret G hR dX6_worst_32 rfl rfl
  · refine s_icmp_eq (tgt := 13) G dX6_worst_2 (by decide) (fun c21 => ?_) (fun c21 => ?_)
    · replace hf := ifp c21 hf
      exact hj2 _ hf
    · replace hf := ifn c21 hf
      refine s_aload_n G dX6_worst_5 rfl ?_
      refine s_iload_n G dX6_worst_6 rfl ?_
      obtain ⟨q22, hq22, hf⟩ := bnd hf
      refine s_callV G dX6_worst_7 (c_X6_isLine hq22) lkM_X6_165 yk_X6_isLine yv_X6_isLine (by decide) rfl rfl _ [] rfl rfl rfl (Nat.le_of_ble_eq_true rfl) (by decide) ?_
      refine s_if_eq (tgt := 25) G dX6_worst_10 (by decide) (fun c23 => ?_) (fun c23 => ?_)
      · replace hf := ifp c23 hf
        refine s_aload_n G dX6_worst_25 rfl ?_
        refine s_bipush G dX6_worst_26 (v := -2) (by decide) ?_
        obtain ⟨q24, hq24, hf⟩ := bnd hf
        refine s_callV G dX6_worst_28 (c_X6_refuses hq24) lkM_X6_130 yk_X6_refuses yv_X6_refuses (by decide) rfl rfl _ [] rfl rfl rfl (Nat.le_of_ble_eq_true rfl) (by decide) ?_
        refine s_i2l G dX6_worst_31 ?_
        replace hf := Option.some.inj hf
        subst hf
        exact s_lret G hR dX6_worst_32 rfl rfl
      · replace hf := ifn c23 hf
        exact hj2 _ hf
def f_X6_ranks_25 (a1 : Int32) (a2 : Int32) (k6 : Int32 → St → Option (St)) : Nat → Int32 → St → Option (St)
  | 0, _, _ => none
  | n7 + 1, x4, σ5 =>
    if x4 ≤ 0 then
      (k6 x4 σ5)
    else
      (chk (ib (x4 - (1 : Int32)) 45) (
      if ((σ5.2 87 16) * (σ5.2 102 (x4 - (1 : Int32)).toNatClampNeg)) ≤ ((σ5.2 101 (x4 - (1 : Int32)).toNatClampNeg) * (σ5.2 87 17)) then
        (k6 x4 σ5)
      else
        (chk (ib x4 45) (
        nm (sI σ5 99 x4.toNatClampNeg (σ5.1 99 (x4 - (1 : Int32)).toNatClampNeg)) (fun σ12 : St =>
        nm (sI σ12 100 x4.toNatClampNeg (σ12.1 100 (x4 - (1 : Int32)).toNatClampNeg)) (fun σ13 : St =>
        nm (sL σ13 101 x4.toNatClampNeg (σ13.2 101 (x4 - (1 : Int32)).toNatClampNeg)) (fun σ14 : St =>
        nm (sL σ14 102 x4.toNatClampNeg (σ14.2 102 (x4 - (1 : Int32)).toNatClampNeg)) (fun σ15 : St =>
        f_X6_ranks_25 a1 a2 k6 n7 (x4 + (-1)) σ15))))))))
def f_X6_ranks (a1 : Int32) (a2 : Int32) (σ : St) : Option (St) :=
(f_X6_inSet σ).bind (fun q1 =>
  (f_X6_judges ((q1.1 &&& (((1 : Int32) <<< (a1 &&& 31)) ^^^ (-1 : Int32))) &&& (((1 : Int32) <<< (a2 &&& 31)) ^^^ (-1 : Int32))) q1.2).bind (fun q2 =>
  nm (q2.1 87 23) (fun x3 : Int32 =>
  f_X6_ranks_25 a1 a2 (fun (x16 : Int32) (σ17 : St) =>
    chk (ib x16 45) (
    nm (sI σ17 99 x16.toNatClampNeg a1) (fun σ19 : St =>
    nm (sI σ19 100 x16.toNatClampNeg a2) (fun σ20 : St =>
    nm (sL σ20 101 x16.toNatClampNeg (σ20.2 87 16)) (fun σ21 : St =>
    nm (sL σ21 102 x16.toNatClampNeg (σ21.2 87 17)) (fun σ22 : St =>
    nm (sI σ22 87 23 ((σ22.1 87 23) + (1 : Int32))) (fun σ23 : St =>
    if (σ23.1 87 18) ≤ 0 then
      (nm (sI σ23 87 24 ((σ23.1 87 24) + (0 : Int32))) (fun σ25 : St =>
      some σ25))
    else
      (nm (sI σ23 87 24 ((σ23.1 87 24) + (1 : Int32))) (fun σ26 : St =>
      some σ26))))))))) 1000 x3 q2)))
abbrev mX6_ranks : Me := (yX6_ranks, cX6_ranks, 4, none, 5, 128)
set_option maxRecDepth 100000 in
set_option maxHeartbeats 4000000 in
theorem l_X6_ranks_25 {Γ : Cxt} (G : OK Γ RX6 cX6_ranks 4 none 5 128) {res : St} (hR : RetOK Γ none res) (a1 : Int32) (a2 : Int32) (k6 : Int32 → St → Option (St)) (hk : ∀ (y3 : Int32) (z : St), k6 y3 z = some res → WW Γ 121 [some (.ref 87), some (.int a1), some (.int a2), some (.int y3)] [] z) : ∀ (n7 : Nat) (x4 : Int32) (σ5 : St), f_X6_ranks_25 a1 a2 k6 n7 x4 σ5 = some res → WW Γ 25 [some (.ref 87), some (.int a1), some (.int a2), some (.int x4)] [] σ5 := by
  intro n7
  induction n7 with
  | zero =>
    intro x4 σ5 hf
    cases hf
  | succ n7 ih =>
    intro x4 σ5 hf
    unfold f_X6_ranks_25 at hf
    refine s_iload_n G dX6_ranks_25 rfl ?_
    refine s_if_le (tgt := 121) G dX6_ranks_26 (by decide) (fun c8 => ?_) (fun c8 => ?_)
    · replace hf := ifp c8 hf
      exact hk x4 σ5 hf
    · replace hf := ifn c8 hf
      refine s_aload_n G dX6_ranks_29 rfl ?_
      refine s_getL (n := 0) G dX6_ranks_30 lkF_X6_203 (by decide) rfl rfl ?_
      refine s_aload_n G dX6_ranks_33 rfl ?_
      refine s_getR G dX6_ranks_34 lkF_X6_53 (by decide) rfl rfl ?_
      refine s_iload_n G dX6_ranks_37 rfl ?_
      refine s_iconst G dX6_ranks_38 (v := 1) (by decide) ?_
      refine s_isub G dX6_ranks_39 ?_
      have h9 := chk_1 hf
      replace hf := chk_2 hf
      refine s_lald G dX6_ranks_40 (by decide) rfl h9 ?_
      refine s_lmul G dX6_ranks_41 ?_
      refine s_aload_n G dX6_ranks_42 rfl ?_
      refine s_getR G dX6_ranks_43 lkF_X6_50 (by decide) rfl rfl ?_
      refine s_iload_n G dX6_ranks_46 rfl ?_
      refine s_iconst G dX6_ranks_47 (v := 1) (by decide) ?_
      refine s_isub G dX6_ranks_48 ?_
      refine s_lald G dX6_ranks_49 (by decide) rfl h9 ?_
      refine s_aload_n G dX6_ranks_50 rfl ?_
      refine s_getL (n := 0) G dX6_ranks_51 lkF_X6_207 (by decide) rfl rfl ?_
      refine s_lmul G dX6_ranks_54 ?_
      refine s_lif_le (tgt := 121) (pc2 := 0) G dX6_ranks_55 dX6_ranks_56 (by decide) (fun c10 => ?_) (fun c10 => ?_)
      · replace hf := ifp c10 hf
        exact hk x4 σ5 hf
      · replace hf := ifn c10 hf
        refine s_aload_n G dX6_ranks_59 rfl ?_
        refine s_getR G dX6_ranks_60 lkF_X6_44 (by decide) rfl rfl ?_
        refine s_iload_n G dX6_ranks_63 rfl ?_
        refine s_aload_n G dX6_ranks_64 rfl ?_
        refine s_getR G dX6_ranks_65 lkF_X6_44 (by decide) rfl rfl ?_
        refine s_iload_n G dX6_ranks_68 rfl ?_
        refine s_iconst G dX6_ranks_69 (v := 1) (by decide) ?_
        refine s_isub G dX6_ranks_70 ?_
        refine s_iald G dX6_ranks_71 (by decide) rfl h9 ?_
        have h11 := chk_1 hf
        replace hf := chk_2 hf
        refine s_iast G dX6_ranks_72 (by decide) rfl h11 ?_
        refine s_st (fun σ12 eσ12 => ?_)
        replace hf := nm_at eσ12 hf
        refine s_aload_n G dX6_ranks_73 rfl ?_
        refine s_getR G dX6_ranks_74 lkF_X6_47 (by decide) rfl rfl ?_
        refine s_iload_n G dX6_ranks_77 rfl ?_
        refine s_aload_n G dX6_ranks_78 rfl ?_
        refine s_getR G dX6_ranks_79 lkF_X6_47 (by decide) rfl rfl ?_
        refine s_iload_n G dX6_ranks_82 rfl ?_
        refine s_iconst G dX6_ranks_83 (v := 1) (by decide) ?_
        refine s_isub G dX6_ranks_84 ?_
        refine s_iald G dX6_ranks_85 (by decide) rfl h9 ?_
        refine s_iast G dX6_ranks_86 (by decide) rfl h11 ?_
        refine s_st (fun σ13 eσ13 => ?_)
        replace hf := nm_at eσ13 hf
        refine s_aload_n G dX6_ranks_87 rfl ?_
        refine s_getR G dX6_ranks_88 lkF_X6_50 (by decide) rfl rfl ?_
        refine s_iload_n G dX6_ranks_91 rfl ?_
        refine s_aload_n G dX6_ranks_92 rfl ?_
        refine s_getR G dX6_ranks_93 lkF_X6_50 (by decide) rfl rfl ?_
        refine s_iload_n G dX6_ranks_96 rfl ?_
        refine s_iconst G dX6_ranks_97 (v := 1) (by decide) ?_
        refine s_isub G dX6_ranks_98 ?_
        refine s_lald G dX6_ranks_99 (by decide) rfl h9 ?_
        refine s_last G dX6_ranks_100 (by decide) rfl h11 ?_
        refine s_st (fun σ14 eσ14 => ?_)
        replace hf := nm_at eσ14 hf
        refine s_aload_n G dX6_ranks_101 rfl ?_
        refine s_getR G dX6_ranks_102 lkF_X6_53 (by decide) rfl rfl ?_
        refine s_iload_n G dX6_ranks_105 rfl ?_
        refine s_aload_n G dX6_ranks_106 rfl ?_
        refine s_getR G dX6_ranks_107 lkF_X6_53 (by decide) rfl rfl ?_
        refine s_iload_n G dX6_ranks_110 rfl ?_
        refine s_iconst G dX6_ranks_111 (v := 1) (by decide) ?_
        refine s_isub G dX6_ranks_112 ?_
        refine s_lald G dX6_ranks_113 (by decide) rfl h9 ?_
        refine s_last G dX6_ranks_114 (by decide) rfl h11 ?_
        refine s_st (fun σ15 eσ15 => ?_)
        replace hf := nm_at eσ15 hf
        refine s_iinc G dX6_ranks_115 rfl (v := (x4 + (-1))) rfl (by decide) rfl rfl ?_
        refine s_goto (tgt := 25) G dX6_ranks_118 (by decide) ?_
        exact ih (x4 + (-1)) σ15 hf
set_option maxRecDepth 100000 in
set_option maxHeartbeats 4000000 in
theorem c_X6_ranks {a1 : Int32} {a2 : Int32} {σ : St} {res : St} (hf : f_X6_ranks a1 a2 σ = some res) : Mt mX6_ranks [.ref 87, .int a1, .int a2] σ none res := by
  unfold f_X6_ranks at hf
  refine mt_of (by decide) (Nat.le_of_ble_eq_true rfl) [some (.ref 87), some (.int a1), some (.int a2), none] rfl (fun Γ G hR => ?_)
  have G : OK Γ RX6 cX6_ranks 4 none 5 128 := G
  refine s_aload_n G dX6_ranks_0 rfl ?_
  refine s_aload_n G dX6_ranks_1 rfl ?_
  obtain ⟨q1, hq1, hf⟩ := bnd hf
  refine s_callV G dX6_ranks_2 (c_X6_inSet hq1) lkM_X6_179 yk_X6_inSet yv_X6_inSet (by decide) rfl rfl _ [.ref 87] rfl rfl rfl (Nat.le_of_ble_eq_true rfl) (by decide) ?_
  refine s_iconst G dX6_ranks_5 (v := 1) (by decide) ?_
  refine s_iload_n G dX6_ranks_6 rfl ?_
  refine s_ishl G dX6_ranks_7 ?_
  refine s_iconst G dX6_ranks_8 (v := -1) (by decide) ?_
  refine s_ixor G dX6_ranks_9 ?_
  refine s_iand G dX6_ranks_10 ?_
  refine s_iconst G dX6_ranks_11 (v := 1) (by decide) ?_
  refine s_iload_n G dX6_ranks_12 rfl ?_
  refine s_ishl G dX6_ranks_13 ?_
  refine s_iconst G dX6_ranks_14 (v := -1) (by decide) ?_
  refine s_ixor G dX6_ranks_15 ?_
  refine s_iand G dX6_ranks_16 ?_
  obtain ⟨q2, hq2, hf⟩ := bnd hf
  refine s_callV G dX6_ranks_17 (c_X6_judges hq2) lkM_X6_215 yk_X6_judges yv_X6_judges (by decide) rfl rfl _ [] rfl rfl rfl (Nat.le_of_ble_eq_true rfl) (by decide) ?_
  refine s_aload_n G dX6_ranks_20 rfl ?_
  refine s_getI (n := 0) G dX6_ranks_21 lkF_X6_218 (by decide) rfl rfl ?_
  refine s_topi (fun x3 ex3 => ?_)
  replace hf := nm_at ex3 hf
  refine s_istore_n G dX6_ranks_24 rfl (by decide) rfl rfl ?_
  refine l_X6_ranks_25 G hR a1 a2 _ (fun x16 σ17 hf => ?_) 1000 x3 q2 hf
  refine s_aload_n G dX6_ranks_121 rfl ?_
  refine s_getR G dX6_ranks_122 lkF_X6_44 (by decide) rfl rfl ?_
  refine s_iload_n G dX6_ranks_125 rfl ?_
  refine s_iload_n G dX6_ranks_126 rfl ?_
  have h18 := chk_1 hf
  replace hf := chk_2 hf
  refine s_iast G dX6_ranks_127 (by decide) rfl h18 ?_
  refine s_st (fun σ19 eσ19 => ?_)
  replace hf := nm_at eσ19 hf
  refine s_aload_n G dX6_ranks_128 rfl ?_
  refine s_getR G dX6_ranks_129 lkF_X6_47 (by decide) rfl rfl ?_
  refine s_iload_n G dX6_ranks_132 rfl ?_
  refine s_iload_n G dX6_ranks_133 rfl ?_
  refine s_iast G dX6_ranks_134 (by decide) rfl h18 ?_
  refine s_st (fun σ20 eσ20 => ?_)
  replace hf := nm_at eσ20 hf
  refine s_aload_n G dX6_ranks_135 rfl ?_
  refine s_getR G dX6_ranks_136 lkF_X6_50 (by decide) rfl rfl ?_
  refine s_iload_n G dX6_ranks_139 rfl ?_
  refine s_aload_n G dX6_ranks_140 rfl ?_
  refine s_getL (n := 0) G dX6_ranks_141 lkF_X6_203 (by decide) rfl rfl ?_
  refine s_last G dX6_ranks_144 (by decide) rfl h18 ?_
  refine s_st (fun σ21 eσ21 => ?_)
  replace hf := nm_at eσ21 hf
  refine s_aload_n G dX6_ranks_145 rfl ?_
  refine s_getR G dX6_ranks_146 lkF_X6_53 (by decide) rfl rfl ?_
  refine s_iload_n G dX6_ranks_149 rfl ?_
  refine s_aload_n G dX6_ranks_150 rfl ?_
  refine s_getL (n := 0) G dX6_ranks_151 lkF_X6_207 (by decide) rfl rfl ?_
  refine s_last G dX6_ranks_154 (by decide) rfl h18 ?_
  refine s_st (fun σ22 eσ22 => ?_)
  replace hf := nm_at eσ22 hf
  refine s_aload_n G dX6_ranks_155 rfl ?_
  refine s_dup G dX6_ranks_156 rfl ?_
  refine s_getI (n := 0) G dX6_ranks_157 lkF_X6_218 (by decide) rfl rfl ?_
  refine s_iconst G dX6_ranks_160 (v := 1) (by decide) ?_
  refine s_iadd G dX6_ranks_161 ?_
  refine s_putI G dX6_ranks_162 lkP_X6_218 (by decide) rfl rfl ?_
  refine s_st (fun σ23 eσ23 => ?_)
  replace hf := nm_at eσ23 hf
  refine s_aload_n G dX6_ranks_165 rfl ?_
  refine s_dup G dX6_ranks_166 rfl ?_
  refine s_getI (n := 0) G dX6_ranks_167 lkF_X6_221 (by decide) rfl rfl ?_
  refine s_aload_n G dX6_ranks_170 rfl ?_
  refine s_getI (n := 0) G dX6_ranks_171 lkF_X6_210 (by decide) rfl rfl ?_
  refine s_if_le (tgt := 181) G dX6_ranks_174 (by decide) (fun c24 => ?_) (fun c24 => ?_)
  · replace hf := ifp c24 hf
    refine s_iconst G dX6_ranks_181 (v := 0) (by decide) ?_
    refine s_iadd G dX6_ranks_182 ?_
    refine s_putI G dX6_ranks_183 lkP_X6_221 (by decide) rfl rfl ?_
    refine s_st (fun σ25 eσ25 => ?_)
    replace hf := nm_at eσ25 hf
    replace hf := Option.some.inj hf
    subst hf
    exact s_vret G hR dX6_ranks_186 rfl rfl
  · replace hf := ifn c24 hf
    refine s_iconst G dX6_ranks_177 (v := 1) (by decide) ?_
    refine s_goto (tgt := 182) G dX6_ranks_178 (by decide) ?_
    refine s_iadd G dX6_ranks_182 ?_
    refine s_putI G dX6_ranks_183 lkP_X6_221 (by decide) rfl rfl ?_
    refine s_st (fun σ26 eσ26 => ?_)
    replace hf := nm_at eσ26 hf
    replace hf := Option.some.inj hf
    subst hf
    exact s_vret G hR dX6_ranks_186 rfl rfl
def f_X6_ranksAll_34 (a1 : Int32) (x3 : Int32) (k12 : St → Option (St)) : Nat → Int32 → St → Option (St)
  | 0, _, _ => none
  | n13 + 1, x10, σ11 =>
    jn (fun q14 : Int32 × St =>
      (if q14.1 ≤ x10 then
        (k12 q14.2)
      else
        ((f_X6_isIn x3 q14.2).bind (fun q17 =>
        if q17.1 = 0 then
          (f_X6_ranksAll_34 a1 x3 k12 n13 (x10 + 1) q17.2)
        else
          ((f_X6_isIn x10 q17.2).bind (fun q19 =>
          if q19.1 = 0 then
            (f_X6_ranksAll_34 a1 x3 k12 n13 (x10 + 1) q19.2)
          else
            ((f_X6_ranks x3 x10 q19.2).bind (fun q21 =>
            f_X6_ranksAll_34 a1 x3 k12 n13 (x10 + 1) q21)))))))) (fun j15 =>
      if a1 = 0 then
        (j15 ((x3 + (1 : Int32)), σ11))
      else
        (j15 ((σ11.1 88 (1 : Int32).toNatClampNeg), σ11)))
def f_X6_ranksAll_12 (a1 : Int32) (k5 : St → Option (St)) : Nat → Int32 → St → Option (St)
  | 0, _, _ => none
  | n6 + 1, x3, σ4 =>
    if (σ4.1 88 (1 : Int32).toNatClampNeg) ≤ x3 then
      (k5 σ4)
    else
      (jn (fun q8 : Int32 × St =>
        (f_X6_ranksAll_34 a1 x3 (fun (σ23 : St) =>
          f_X6_ranksAll_12 a1 k5 n6 (x3 + 1) σ23) 1000 q8.1 q8.2)) (fun j9 =>
        if a1 = 0 then
          (j9 (x3, σ4))
        else
          (j9 ((x3 + (1 : Int32)), σ4))))
def f_X6_ranksAll (a1 : Int32) (σ : St) : Option (St) :=
nm (sI σ 87 23 (0 : Int32)) (fun σ1 : St =>
  nm (sI σ1 87 24 (0 : Int32)) (fun σ2 : St =>
  f_X6_ranksAll_12 a1 (fun (σ25 : St) =>
    some σ25) 1000 (0 : Int32) σ2))
abbrev mX6_ranksAll : Me := (yX6_ranksAll, cX6_ranksAll, 4, none, 6, 151)
set_option maxRecDepth 100000 in
set_option maxHeartbeats 4000000 in
theorem l_X6_ranksAll_34 {Γ : Cxt} (G : OK Γ RX6 cX6_ranksAll 4 none 6 151) {res : St} (hR : RetOK Γ none res) (a1 : Int32) (x3 : Int32) (k12 : St → Option (St)) (hk : ∀ (z : St), k12 z = some res → WW Γ 82 [some (.ref 87), some (.int a1), some (.int x3), none] [] z) : ∀ (n13 : Nat) (x10 : Int32) (σ11 : St), f_X6_ranksAll_34 a1 x3 k12 n13 x10 σ11 = some res → WW Γ 34 [some (.ref 87), some (.int a1), some (.int x3), some (.int x10)] [] σ11 := by
  intro n13
  induction n13 with
  | zero =>
    intro x10 σ11 hf
    cases hf
  | succ n13 ih =>
    intro x10 σ11 hf
    unfold f_X6_ranksAll_34 at hf
    refine s_iload_n G dX6_ranksAll_34 rfl ?_
    refine s_iload_n G dX6_ranksAll_35 rfl ?_
    refine jn_w (fun q14 : Int32 × St => WW Γ 51 [some (.ref 87), some (.int a1), some (.int x3), some (.int x10)] [.int q14.1, .int x10] q14.2) hf (fun q14 hf => ?_) (fun j15 hj15 hf => ?_)
    · refine s_icmp_ge (tgt := 82) G dX6_ranksAll_51 (by decide) (fun c16 => ?_) (fun c16 => ?_)
      · replace hf := ifp c16 hf
        refine s_fgt [true, true, true, false] rfl ?_
        exact hk q14.2 hf
      · replace hf := ifn c16 hf
        refine s_aload_n G dX6_ranksAll_54 rfl ?_
        refine s_iload_n G dX6_ranksAll_55 rfl ?_
        obtain ⟨q17, hq17, hf⟩ := bnd hf
        refine s_callV G dX6_ranksAll_56 (c_X6_isIn hq17) lkM_X6_73 yk_X6_isIn yv_X6_isIn (by decide) rfl rfl _ [] rfl rfl rfl (Nat.le_of_ble_eq_true rfl) (by decide) ?_
        refine s_if_eq (tgt := 76) G dX6_ranksAll_59 (by decide) (fun c18 => ?_) (fun c18 => ?_)
        · replace hf := ifp c18 hf
          refine s_iinc G dX6_ranksAll_76 rfl (v := (x10 + 1)) rfl (by decide) rfl rfl ?_
          refine s_goto (tgt := 34) G dX6_ranksAll_79 (by decide) ?_
          exact ih (x10 + 1) q17.2 hf
        · replace hf := ifn c18 hf
          refine s_aload_n G dX6_ranksAll_62 rfl ?_
          refine s_iload_n G dX6_ranksAll_63 rfl ?_
          obtain ⟨q19, hq19, hf⟩ := bnd hf
          refine s_callV G dX6_ranksAll_64 (c_X6_isIn hq19) lkM_X6_73 yk_X6_isIn yv_X6_isIn (by decide) rfl rfl _ [] rfl rfl rfl (Nat.le_of_ble_eq_true rfl) (by decide) ?_
          refine s_if_eq (tgt := 76) G dX6_ranksAll_67 (by decide) (fun c20 => ?_) (fun c20 => ?_)
          · replace hf := ifp c20 hf
            refine s_iinc G dX6_ranksAll_76 rfl (v := (x10 + 1)) rfl (by decide) rfl rfl ?_
            refine s_goto (tgt := 34) G dX6_ranksAll_79 (by decide) ?_
            exact ih (x10 + 1) q19.2 hf
          · replace hf := ifn c20 hf
            refine s_aload_n G dX6_ranksAll_70 rfl ?_
            refine s_iload_n G dX6_ranksAll_71 rfl ?_
            refine s_iload_n G dX6_ranksAll_72 rfl ?_
            obtain ⟨q21, hq21, hf⟩ := bnd hf
            refine s_callV G dX6_ranksAll_73 (c_X6_ranks hq21) lkM_X6_224 yk_X6_ranks yv_X6_ranks (by decide) rfl rfl _ [] rfl rfl rfl (Nat.le_of_ble_eq_true rfl) (by decide) ?_
            refine s_iinc G dX6_ranksAll_76 rfl (v := (x10 + 1)) rfl (by decide) rfl rfl ?_
            refine s_goto (tgt := 34) G dX6_ranksAll_79 (by decide) ?_
            exact ih (x10 + 1) q21 hf
    · refine s_if_eq (tgt := 48) G dX6_ranksAll_36 (by decide) (fun c22 => ?_) (fun c22 => ?_)
      · replace hf := ifp c22 hf
        refine s_iload_n G dX6_ranksAll_48 rfl ?_
        refine s_iconst G dX6_ranksAll_49 (v := 1) (by decide) ?_
        refine s_iadd G dX6_ranksAll_50 ?_
        exact hj15 _ hf
      · replace hf := ifn c22 hf
        refine s_aload_n G dX6_ranksAll_39 rfl ?_
        refine s_getR G dX6_ranksAll_40 lkF_X6_7 (by decide) rfl rfl ?_
        refine s_iconst G dX6_ranksAll_43 (v := 1) (by decide) ?_
        refine s_iald G dX6_ranksAll_44 (by decide) rfl (by decide) ?_
        refine s_goto (tgt := 51) G dX6_ranksAll_45 (by decide) ?_
        exact hj15 _ hf
set_option maxRecDepth 100000 in
set_option maxHeartbeats 4000000 in
theorem l_X6_ranksAll_12 {Γ : Cxt} (G : OK Γ RX6 cX6_ranksAll 4 none 6 151) {res : St} (hR : RetOK Γ none res) (a1 : Int32) (k5 : St → Option (St)) (hk : ∀ (z : St), k5 z = some res → WW Γ 88 [none, none, none, none] [] z) : ∀ (n6 : Nat) (x3 : Int32) (σ4 : St), f_X6_ranksAll_12 a1 k5 n6 x3 σ4 = some res → WW Γ 12 [some (.ref 87), some (.int a1), some (.int x3), none] [] σ4 := by
  intro n6
  induction n6 with
  | zero =>
    intro x3 σ4 hf
    cases hf
  | succ n6 ih =>
    intro x3 σ4 hf
    unfold f_X6_ranksAll_12 at hf
    refine s_iload_n G dX6_ranksAll_12 rfl ?_
    refine s_aload_n G dX6_ranksAll_13 rfl ?_
    refine s_getR G dX6_ranksAll_14 lkF_X6_7 (by decide) rfl rfl ?_
    refine s_iconst G dX6_ranksAll_17 (v := 1) (by decide) ?_
    refine s_iald G dX6_ranksAll_18 (by decide) rfl (by decide) ?_
    refine s_icmp_ge (tgt := 88) G dX6_ranksAll_19 (by decide) (fun c7 => ?_) (fun c7 => ?_)
    · replace hf := ifp c7 hf
      refine s_fgt [false, false, false, true] rfl ?_
      exact hk σ4 hf
    · replace hf := ifn c7 hf
      refine s_iload_n G dX6_ranksAll_22 rfl ?_
      refine jn_w (fun q8 : Int32 × St => WW Γ 33 [some (.ref 87), some (.int a1), some (.int x3), none] [.int q8.1] q8.2) hf (fun q8 hf => ?_) (fun j9 hj9 hf => ?_)
      · refine s_istore_n G dX6_ranksAll_33 rfl (by decide) rfl rfl ?_
        refine l_X6_ranksAll_34 G hR a1 x3 _ (fun σ23 hf => ?_) 1000 q8.1 q8.2 hf
        refine s_iinc G dX6_ranksAll_82 rfl (v := (x3 + 1)) rfl (by decide) rfl rfl ?_
        refine s_goto (tgt := 12) G dX6_ranksAll_85 (by decide) ?_
        exact ih (x3 + 1) σ23 hf
      · refine s_if_eq (tgt := 32) G dX6_ranksAll_23 (by decide) (fun c24 => ?_) (fun c24 => ?_)
        · replace hf := ifp c24 hf
          refine s_iload_n G dX6_ranksAll_32 rfl ?_
          exact hj9 _ hf
        · replace hf := ifn c24 hf
          refine s_iload_n G dX6_ranksAll_26 rfl ?_
          refine s_iconst G dX6_ranksAll_27 (v := 1) (by decide) ?_
          refine s_iadd G dX6_ranksAll_28 ?_
          refine s_goto (tgt := 33) G dX6_ranksAll_29 (by decide) ?_
          exact hj9 _ hf
set_option maxRecDepth 100000 in
set_option maxHeartbeats 4000000 in
theorem c_X6_ranksAll {a1 : Int32} {σ : St} {res : St} (hf : f_X6_ranksAll a1 σ = some res) : Mt mX6_ranksAll [.ref 87, .int a1] σ none res := by
  unfold f_X6_ranksAll at hf
  refine mt_of (by decide) (Nat.le_of_ble_eq_true rfl) [some (.ref 87), some (.int a1), none, none] rfl (fun Γ G hR => ?_)
  have G : OK Γ RX6 cX6_ranksAll 4 none 6 151 := G
  refine s_aload_n G dX6_ranksAll_0 rfl ?_
  refine s_iconst G dX6_ranksAll_1 (v := 0) (by decide) ?_
  refine s_putI G dX6_ranksAll_2 lkP_X6_218 (by decide) rfl rfl ?_
  refine s_st (fun σ1 eσ1 => ?_)
  replace hf := nm_at eσ1 hf
  refine s_aload_n G dX6_ranksAll_5 rfl ?_
  refine s_iconst G dX6_ranksAll_6 (v := 0) (by decide) ?_
  refine s_putI G dX6_ranksAll_7 lkP_X6_221 (by decide) rfl rfl ?_
  refine s_st (fun σ2 eσ2 => ?_)
  replace hf := nm_at eσ2 hf
  refine s_iconst G dX6_ranksAll_10 (v := 0) (by decide) ?_
  refine s_istore_n G dX6_ranksAll_11 rfl (by decide) rfl rfl ?_
  refine l_X6_ranksAll_12 G hR a1 _ (fun σ25 hf => ?_) 1000 (0 : Int32) σ2 hf
  replace hf := Option.some.inj hf
  subst hf
  exact s_vret G hR dX6_ranksAll_88 rfl rfl
def f_X6_ranked (a1 : Int32) (σ : St) : Option (Int32 × St) :=
if 0 ≤ a1 then
    ((f_X6_ranksAll (0 : Int32) σ).bind (fun q2 =>
    if (q2.1 87 23) ≤ a1 then
      (some ((-1 : Int32), q2))
    else
      (chk (ib a1 45) (
      some ((q2.1 99 a1.toNatClampNeg), q2)))))
  else
    ((f_X6_refuses (-2 : Int32) σ).bind (fun q5 =>
    some (q5.1, q5.2)))
abbrev mX6_ranked : Me := (yX6_ranked, cX6_ranked, 2, (some .int), 7, 174)
set_option maxRecDepth 100000 in
set_option maxHeartbeats 4000000 in
theorem c_X6_ranked {a1 : Int32} {σ : St} {res : Int32 × St} (hf : f_X6_ranked a1 σ = some res) : Mt mX6_ranked [.ref 87, .int a1] σ (some (.int res.1)) res.2 := by
  unfold f_X6_ranked at hf
  refine mt_of (by decide) (Nat.le_of_ble_eq_true rfl) [some (.ref 87), some (.int a1)] rfl (fun Γ G hR => ?_)
  have G : OK Γ RX6 cX6_ranked 2 (some .int) 7 174 := G
  refine s_iload_n G dX6_ranked_0 rfl ?_
  refine s_if_ge (tgt := 11) G dX6_ranked_1 (by decide) (fun c1 => ?_) (fun c1 => ?_)
  · replace hf := ifp c1 hf
    refine s_aload_n G dX6_ranked_11 rfl ?_
    refine s_iconst G dX6_ranked_12 (v := 0) (by decide) ?_
    obtain ⟨q2, hq2, hf⟩ := bnd hf
    refine s_callV G dX6_ranked_13 (c_X6_ranksAll hq2) lkM_X6_226 yk_X6_ranksAll yv_X6_ranksAll (by decide) rfl rfl _ [] rfl rfl rfl (Nat.le_of_ble_eq_true rfl) (by decide) ?_
    refine s_iload_n G dX6_ranked_16 rfl ?_
    refine s_aload_n G dX6_ranked_17 rfl ?_
    refine s_getI (n := 0) G dX6_ranked_18 lkF_X6_218 (by decide) rfl rfl ?_
    refine s_icmp_ge (tgt := 33) G dX6_ranked_21 (by decide) (fun c3 => ?_) (fun c3 => ?_)
    · replace hf := ifp c3 hf
      refine s_iconst G dX6_ranked_33 (v := -1) (by decide) ?_
      replace hf := Option.some.inj hf
      subst hf
      exact s_iret G hR dX6_ranked_34 rfl rfl
    · replace hf := ifn c3 hf
      refine s_aload_n G dX6_ranked_24 rfl ?_
      refine s_getR G dX6_ranked_25 lkF_X6_44 (by decide) rfl rfl ?_
      refine s_iload_n G dX6_ranked_28 rfl ?_
      have h4 := chk_1 hf
      replace hf := chk_2 hf
      refine s_iald G dX6_ranked_29 (by decide) rfl h4 ?_
      refine s_goto (tgt := 34) G dX6_ranked_30 (by decide) ?_
      replace hf := Option.some.inj hf
      subst hf
      exact s_iret G hR dX6_ranked_34 rfl rfl
  · replace hf := ifn c1 hf
    refine s_aload_n G dX6_ranked_4 rfl ?_
    refine s_bipush G dX6_ranked_5 (v := -2) (by decide) ?_
    obtain ⟨q5, hq5, hf⟩ := bnd hf
    refine s_callV G dX6_ranked_7 (c_X6_refuses hq5) lkM_X6_130 yk_X6_refuses yv_X6_refuses (by decide) rfl rfl _ [] rfl rfl rfl (Nat.le_of_ble_eq_true rfl) (by decide) ?_
    replace hf := Option.some.inj hf
    subst hf
    exact s_iret G hR dX6_ranked_10 rfl rfl
def f_X6_pair (a1 : Int32) (a2 : Int32) (σ : St) : Option (Int64 × St) :=
if a1 < 0 then
    ((f_X6_refuses (-2 : Int32) σ).bind (fun q2 =>
    some (q2.1.toInt64, q2.2)))
  else
    ((f_X6_in a2.toInt64 (0 : Int64) (3 : Int64) σ).bind (fun q3 =>
    if q3.1 = 0 then
      ((f_X6_refuses (-2 : Int32) q3.2).bind (fun q14 =>
      some (q14.1.toInt64, q14.2)))
    else
      ((f_X6_ranksAll (1 : Int32) q3.2).bind (fun q5 =>
      if a1 < (q5.1 87 23) then
        (if a2 = 0 then
          (chk (ib a1 45) (
          some ((q5.1 99 a1.toNatClampNeg).toInt64, q5)))
        else
          (if a2 = (1 : Int32) then
            (chk (ib a1 45) (
            some ((q5.1 100 a1.toNatClampNeg).toInt64, q5)))
          else
            (if a2 = (2 : Int32) then
              (chk (ib a1 45) (
              some ((q5.2 101 a1.toNatClampNeg), q5)))
            else
              (chk (ib a1 45) (
              some ((q5.2 102 a1.toNatClampNeg), q5))))))
      else
        (some ((-1 : Int64), q5))))))
abbrev mX6_pair : Me := (yX6_pair, cX6_pair, 3, (some .long), 7, 174)
set_option maxRecDepth 100000 in
set_option maxHeartbeats 4000000 in
theorem c_X6_pair {a1 : Int32} {a2 : Int32} {σ : St} {res : Int64 × St} (hf : f_X6_pair a1 a2 σ = some res) : Mt mX6_pair [.ref 87, .int a1, .int a2] σ (some (.long res.1)) res.2 := by
  unfold f_X6_pair at hf
  refine mt_of (by decide) (Nat.le_of_ble_eq_true rfl) [some (.ref 87), some (.int a1), some (.int a2)] rfl (fun Γ G hR => ?_)
  have G : OK Γ RX6 cX6_pair 3 (some .long) 7 174 := G
  refine s_iload_n G dX6_pair_0 rfl ?_
  refine s_if_lt (tgt := 16) G dX6_pair_1 (by decide) (fun c1 => ?_) (fun c1 => ?_)
  · replace hf := ifp c1 hf
    refine s_aload_n G dX6_pair_16 rfl ?_
    refine s_bipush G dX6_pair_17 (v := -2) (by decide) ?_
    obtain ⟨q2, hq2, hf⟩ := bnd hf
    refine s_callV G dX6_pair_19 (c_X6_refuses hq2) lkM_X6_130 yk_X6_refuses yv_X6_refuses (by decide) rfl rfl _ [] rfl rfl rfl (Nat.le_of_ble_eq_true rfl) (by decide) ?_
    refine s_i2l G dX6_pair_22 ?_
    replace hf := Option.some.inj hf
    subst hf
    exact s_lret G hR dX6_pair_23 rfl rfl
  · replace hf := ifn c1 hf
    refine s_iload_n G dX6_pair_4 rfl ?_
    refine s_i2l G dX6_pair_5 ?_
    refine s_lconst G dX6_pair_6 (v := 0) (by decide) ?_
    refine s_ldc2 G dX6_pair_7 kc_X6_213 ?_
    obtain ⟨q3, hq3, hf⟩ := bnd hf
    refine s_callS G dX6_pair_10 (c_X6_in hq3) lkM_X6_65 yk_X6_in ys_X6_in _ [] rfl rfl rfl (Nat.le_of_ble_eq_true rfl) (by decide) ?_
    refine s_if_ne (tgt := 24) G dX6_pair_13 (by decide) (fun c4 => ?_) (fun c4 => ?_)
    · replace hf := ifn c4 hf
      refine s_aload_n G dX6_pair_24 rfl ?_
      refine s_iconst G dX6_pair_25 (v := 1) (by decide) ?_
      obtain ⟨q5, hq5, hf⟩ := bnd hf
      refine s_callV G dX6_pair_26 (c_X6_ranksAll hq5) lkM_X6_226 yk_X6_ranksAll yv_X6_ranksAll (by decide) rfl rfl _ [] rfl rfl rfl (Nat.le_of_ble_eq_true rfl) (by decide) ?_
      refine s_iload_n G dX6_pair_29 rfl ?_
      refine s_aload_n G dX6_pair_30 rfl ?_
      refine s_getI (n := 0) G dX6_pair_31 lkF_X6_218 (by decide) rfl rfl ?_
      refine s_icmp_lt (tgt := 41) G dX6_pair_34 (by decide) (fun c6 => ?_) (fun c6 => ?_)
      · replace hf := ifp c6 hf
        refine s_iload_n G dX6_pair_41 rfl ?_
        refine s_if_ne (tgt := 55) G dX6_pair_42 (by decide) (fun c7 => ?_) (fun c7 => ?_)
        · replace hf := ifn c7 hf
          refine s_iload_n G dX6_pair_55 rfl ?_
          refine s_iconst G dX6_pair_56 (v := 1) (by decide) ?_
          refine s_icmp_ne (tgt := 70) G dX6_pair_57 (by decide) (fun c8 => ?_) (fun c8 => ?_)
          · replace hf := ifn c8 hf
            refine s_iload_n G dX6_pair_70 rfl ?_
            refine s_iconst G dX6_pair_71 (v := 2) (by decide) ?_
            refine s_icmp_ne (tgt := 84) G dX6_pair_72 (by decide) (fun c9 => ?_) (fun c9 => ?_)
            · replace hf := ifn c9 hf
              refine s_aload_n G dX6_pair_84 rfl ?_
              refine s_getR G dX6_pair_85 lkF_X6_53 (by decide) rfl rfl ?_
              refine s_iload_n G dX6_pair_88 rfl ?_
              have h10 := chk_1 hf
              replace hf := chk_2 hf
              refine s_lald G dX6_pair_89 (by decide) rfl h10 ?_
              replace hf := Option.some.inj hf
              subst hf
              exact s_lret G hR dX6_pair_90 rfl rfl
            · replace hf := ifp c9 hf
              refine s_aload_n G dX6_pair_75 rfl ?_
              refine s_getR G dX6_pair_76 lkF_X6_50 (by decide) rfl rfl ?_
              refine s_iload_n G dX6_pair_79 rfl ?_
              have h11 := chk_1 hf
              replace hf := chk_2 hf
              refine s_lald G dX6_pair_80 (by decide) rfl h11 ?_
              refine s_goto (tgt := 90) G dX6_pair_81 (by decide) ?_
              replace hf := Option.some.inj hf
              subst hf
              exact s_lret G hR dX6_pair_90 rfl rfl
          · replace hf := ifp c8 hf
            refine s_aload_n G dX6_pair_60 rfl ?_
            refine s_getR G dX6_pair_61 lkF_X6_47 (by decide) rfl rfl ?_
            refine s_iload_n G dX6_pair_64 rfl ?_
            have h12 := chk_1 hf
            replace hf := chk_2 hf
            refine s_iald G dX6_pair_65 (by decide) rfl h12 ?_
            refine s_i2l G dX6_pair_66 ?_
            refine s_goto (tgt := 90) G dX6_pair_67 (by decide) ?_
            replace hf := Option.some.inj hf
            subst hf
            exact s_lret G hR dX6_pair_90 rfl rfl
        · replace hf := ifp c7 hf
          refine s_aload_n G dX6_pair_45 rfl ?_
          refine s_getR G dX6_pair_46 lkF_X6_44 (by decide) rfl rfl ?_
          refine s_iload_n G dX6_pair_49 rfl ?_
          have h13 := chk_1 hf
          replace hf := chk_2 hf
          refine s_iald G dX6_pair_50 (by decide) rfl h13 ?_
          refine s_i2l G dX6_pair_51 ?_
          refine s_goto (tgt := 90) G dX6_pair_52 (by decide) ?_
          replace hf := Option.some.inj hf
          subst hf
          exact s_lret G hR dX6_pair_90 rfl rfl
      · replace hf := ifn c6 hf
        refine s_ldc2 G dX6_pair_37 kc_X6_111 ?_
        replace hf := Option.some.inj hf
        subst hf
        exact s_lret G hR dX6_pair_40 rfl rfl
    · replace hf := ifp c4 hf
      refine s_aload_n G dX6_pair_16 rfl ?_
      refine s_bipush G dX6_pair_17 (v := -2) (by decide) ?_
      obtain ⟨q14, hq14, hf⟩ := bnd hf
      refine s_callV G dX6_pair_19 (c_X6_refuses hq14) lkM_X6_130 yk_X6_refuses yv_X6_refuses (by decide) rfl rfl _ [] rfl rfl rfl (Nat.le_of_ble_eq_true rfl) (by decide) ?_
      refine s_i2l G dX6_pair_22 ?_
      replace hf := Option.some.inj hf
      subst hf
      exact s_lret G hR dX6_pair_23 rfl rfl
def f_X6_shift_68 (x7 : Int32) (x10 : Int32) (k14 : Int32 → St → Option (Int32 × St)) : Nat → Int32 → Int32 → St → Option (Int32 × St)
  | 0, _, _, _ => none
  | n15 + 1, x11, x12, σ13 =>
    if (σ13.1 88 (0 : Int32).toNatClampNeg) ≤ x12 then
      (k14 x11 σ13)
    else
      (chk (ib x12 6) (
      jn (fun q18 : Int32 × St =>
        (if (σ13.1 94 x12.toNatClampNeg) = q18.1 then
          (chk (ib ((2 : Int32) + x12) 58) (
          nm (x11 + (q18.2.1 88 ((2 : Int32) + x12).toNatClampNeg)) (fun x23 : Int32 =>
          f_X6_shift_68 x7 x10 k14 n15 x23 (x12 + 1) q18.2)))
        else
          (nm (x11 + (0 : Int32)) (fun x21 : Int32 =>
          f_X6_shift_68 x7 x10 k14 n15 x21 (x12 + 1) q18.2)))) (fun j19 =>
        if x7 ≤ x10 then
          (j19 (x10, σ13))
        else
          (j19 (x7, σ13)))))
def f_X6_shift (a1 : Int32) (σ : St) : Option (Int32 × St) :=
(f_X6_isLine a1 σ).bind (fun q1 =>
  if q1.1 = 0 then
    ((f_X6_refuses (-2 : Int32) q1.2).bind (fun q28 =>
    some ((-9999 : Int32), q28.2)))
  else
    ((f_X6_isBridge a1 q1.2).bind (fun q3 =>
    if q3.1 = 0 then
      ((f_X6_refuses (-3 : Int32) q3.2).bind (fun q27 =>
      some ((-9998 : Int32), q27.2)))
    else
      ((f_X6_lineAt a1 (0 : Int32) q3.2).bind (fun q5 =>
      chk (ib q5.1 6) (
      nm (q5.2.1 94 q5.1.toNatClampNeg) (fun x7 : Int32 =>
      (f_X6_lineAt a1 (1 : Int32) q5.2).bind (fun q8 =>
      chk (ib q8.1 6) (
      nm (q8.2.1 94 q8.1.toNatClampNeg) (fun x10 : Int32 =>
      f_X6_shift_68 x7 x10 (fun (x25 : Int32) (σ26 : St) =>
        some (x25, σ26)) 1000 (0 : Int32) (0 : Int32) q8.2))))))))))
abbrev mX6_shift : Me := (yX6_shift, cX6_shift, 6, (some .int), 4, 86)
set_option maxRecDepth 100000 in
set_option maxHeartbeats 4000000 in
theorem l_X6_shift_68 {Γ : Cxt} (G : OK Γ RX6 cX6_shift 6 (some .int) 4 86) {res : Int32 × St} (hR : RetOK Γ (some (.int res.1)) res.2) (x7 : Int32) (x10 : Int32) (k14 : Int32 → St → Option (Int32 × St)) (hk : ∀ (y4 : Int32) (z : St), k14 y4 z = some res → WW Γ 123 [none, none, none, none, some (.int y4), none] [] z) : ∀ (n15 : Nat) (x11 : Int32) (x12 : Int32) (σ13 : St), f_X6_shift_68 x7 x10 k14 n15 x11 x12 σ13 = some res → WW Γ 68 [some (.ref 87), none, some (.int x7), some (.int x10), some (.int x11), some (.int x12)] [] σ13 := by
  intro n15
  induction n15 with
  | zero =>
    intro x11 x12 σ13 hf
    cases hf
  | succ n15 ih =>
    intro x11 x12 σ13 hf
    unfold f_X6_shift_68 at hf
    refine s_iload G dX6_shift_68 rfl ?_
    refine s_aload_n G dX6_shift_70 rfl ?_
    refine s_getR G dX6_shift_71 lkF_X6_7 (by decide) rfl rfl ?_
    refine s_iconst G dX6_shift_74 (v := 0) (by decide) ?_
    refine s_iald G dX6_shift_75 (by decide) rfl (by decide) ?_
    refine s_icmp_ge (tgt := 123) G dX6_shift_76 (by decide) (fun c16 => ?_) (fun c16 => ?_)
    · replace hf := ifp c16 hf
      refine s_fgt [false, true, false, false, true, false] rfl ?_
      exact hk x11 σ13 hf
    · replace hf := ifn c16 hf
      refine s_iload G dX6_shift_79 rfl ?_
      refine s_aload_n G dX6_shift_81 rfl ?_
      refine s_getR G dX6_shift_82 lkF_X6_29 (by decide) rfl rfl ?_
      refine s_iload G dX6_shift_85 rfl ?_
      have h17 := chk_1 hf
      replace hf := chk_2 hf
      refine s_iald G dX6_shift_87 (by decide) rfl h17 ?_
      refine s_iload_n G dX6_shift_88 rfl ?_
      refine s_iload_n G dX6_shift_89 rfl ?_
      refine jn_w (fun q18 : Int32 × St => WW Γ 98 [some (.ref 87), none, some (.int x7), some (.int x10), none, some (.int x12)] [.int q18.1, .int (σ13.1 94 x12.toNatClampNeg), .int x11] q18.2) hf (fun q18 hf => ?_) (fun j19 hj19 hf => ?_)
      · refine s_icmp_ne (tgt := 113) G dX6_shift_98 (by decide) (fun c20 => ?_) (fun c20 => ?_)
        · replace hf := ifn c20 hf
          refine s_iconst G dX6_shift_113 (v := 0) (by decide) ?_
          refine s_iadd G dX6_shift_114 ?_
          refine s_topi (fun x21 ex21 => ?_)
          replace hf := nm_at ex21 hf
          refine s_istore G dX6_shift_115 (by decide) rfl rfl ?_
          refine s_iinc G dX6_shift_117 rfl (v := (x12 + 1)) rfl (by decide) rfl rfl ?_
          refine s_goto (tgt := 68) G dX6_shift_120 (by decide) ?_
          exact ih x21 (x12 + 1) q18.2 hf
        · replace hf := ifp c20 hf
          refine s_aload_n G dX6_shift_101 rfl ?_
          refine s_getR G dX6_shift_102 lkF_X6_7 (by decide) rfl rfl ?_
          refine s_iconst G dX6_shift_105 (v := 2) (by decide) ?_
          refine s_iload G dX6_shift_106 rfl ?_
          refine s_iadd G dX6_shift_108 ?_
          have h22 := chk_1 hf
          replace hf := chk_2 hf
          refine s_iald G dX6_shift_109 (by decide) rfl h22 ?_
          refine s_goto (tgt := 114) G dX6_shift_110 (by decide) ?_
          refine s_iadd G dX6_shift_114 ?_
          refine s_topi (fun x23 ex23 => ?_)
          replace hf := nm_at ex23 hf
          refine s_istore G dX6_shift_115 (by decide) rfl rfl ?_
          refine s_iinc G dX6_shift_117 rfl (v := (x12 + 1)) rfl (by decide) rfl rfl ?_
          refine s_goto (tgt := 68) G dX6_shift_120 (by decide) ?_
          exact ih x23 (x12 + 1) q18.2 hf
      · refine s_icmp_le (tgt := 97) G dX6_shift_90 (by decide) (fun c24 => ?_) (fun c24 => ?_)
        · replace hf := ifp c24 hf
          refine s_iload_n G dX6_shift_97 rfl ?_
          refine s_fgt [true, true, true, true, false, true] rfl ?_
          exact hj19 _ hf
        · replace hf := ifn c24 hf
          refine s_iload_n G dX6_shift_93 rfl ?_
          refine s_goto (tgt := 98) G dX6_shift_94 (by decide) ?_
          refine s_fgt [true, true, true, true, false, true] rfl ?_
          exact hj19 _ hf
set_option maxRecDepth 100000 in
set_option maxHeartbeats 4000000 in
theorem c_X6_shift {a1 : Int32} {σ : St} {res : Int32 × St} (hf : f_X6_shift a1 σ = some res) : Mt mX6_shift [.ref 87, .int a1] σ (some (.int res.1)) res.2 := by
  unfold f_X6_shift at hf
  refine mt_of (by decide) (Nat.le_of_ble_eq_true rfl) [some (.ref 87), some (.int a1), none, none, none, none] rfl (fun Γ G hR => ?_)
  have G : OK Γ RX6 cX6_shift 6 (some .int) 4 86 := G
  refine s_aload_n G dX6_shift_0 rfl ?_
  refine s_iload_n G dX6_shift_1 rfl ?_
  obtain ⟨q1, hq1, hf⟩ := bnd hf
  refine s_callV G dX6_shift_2 (c_X6_isLine hq1) lkM_X6_165 yk_X6_isLine yv_X6_isLine (by decide) rfl rfl _ [] rfl rfl rfl (Nat.le_of_ble_eq_true rfl) (by decide) ?_
  refine s_if_ne (tgt := 19) G dX6_shift_5 (by decide) (fun c2 => ?_) (fun c2 => ?_)
  · replace hf := ifn c2 hf
    refine s_aload_n G dX6_shift_19 rfl ?_
    refine s_iload_n G dX6_shift_20 rfl ?_
    obtain ⟨q3, hq3, hf⟩ := bnd hf
    refine s_callV G dX6_shift_21 (c_X6_isBridge hq3) lkM_X6_183 yk_X6_isBridge yv_X6_isBridge (by decide) rfl rfl _ [] rfl rfl rfl (Nat.le_of_ble_eq_true rfl) (by decide) ?_
    refine s_if_ne (tgt := 38) G dX6_shift_24 (by decide) (fun c4 => ?_) (fun c4 => ?_)
    · replace hf := ifn c4 hf
      refine s_aload_n G dX6_shift_38 rfl ?_
      refine s_getR G dX6_shift_39 lkF_X6_29 (by decide) rfl rfl ?_
      refine s_aload_n G dX6_shift_42 rfl ?_
      refine s_iload_n G dX6_shift_43 rfl ?_
      refine s_iconst G dX6_shift_44 (v := 0) (by decide) ?_
      obtain ⟨q5, hq5, hf⟩ := bnd hf
      refine s_callV G dX6_shift_45 (c_X6_lineAt hq5) lkM_X6_69 yk_X6_lineAt yv_X6_lineAt (by decide) rfl rfl _ [.ref 94] rfl rfl rfl (Nat.le_of_ble_eq_true rfl) (by decide) ?_
      have h6 := chk_1 hf
      replace hf := chk_2 hf
      refine s_iald G dX6_shift_48 (by decide) rfl h6 ?_
      refine s_topi (fun x7 ex7 => ?_)
      replace hf := nm_at ex7 hf
      refine s_istore_n G dX6_shift_49 rfl (by decide) rfl rfl ?_
      refine s_aload_n G dX6_shift_50 rfl ?_
      refine s_getR G dX6_shift_51 lkF_X6_29 (by decide) rfl rfl ?_
      refine s_aload_n G dX6_shift_54 rfl ?_
      refine s_iload_n G dX6_shift_55 rfl ?_
      refine s_iconst G dX6_shift_56 (v := 1) (by decide) ?_
      obtain ⟨q8, hq8, hf⟩ := bnd hf
      refine s_callV G dX6_shift_57 (c_X6_lineAt hq8) lkM_X6_69 yk_X6_lineAt yv_X6_lineAt (by decide) rfl rfl _ [.ref 94] rfl rfl rfl (Nat.le_of_ble_eq_true rfl) (by decide) ?_
      have h9 := chk_1 hf
      replace hf := chk_2 hf
      refine s_iald G dX6_shift_60 (by decide) rfl h9 ?_
      refine s_topi (fun x10 ex10 => ?_)
      replace hf := nm_at ex10 hf
      refine s_istore_n G dX6_shift_61 rfl (by decide) rfl rfl ?_
      refine s_iconst G dX6_shift_62 (v := 0) (by decide) ?_
      refine s_istore G dX6_shift_63 (by decide) rfl rfl ?_
      refine s_iconst G dX6_shift_65 (v := 0) (by decide) ?_
      refine s_istore G dX6_shift_66 (by decide) rfl rfl ?_
      refine s_fgt [true, false, true, true, true, true] rfl ?_
      refine l_X6_shift_68 G hR x7 x10 _ (fun x25 σ26 hf => ?_) 1000 (0 : Int32) (0 : Int32) q8.2 hf
      refine s_iload G dX6_shift_123 rfl ?_
      replace hf := Option.some.inj hf
      subst hf
      exact s_iret G hR dX6_shift_125 rfl rfl
    · replace hf := ifp c4 hf
      refine s_aload_n G dX6_shift_27 rfl ?_
      refine s_bipush G dX6_shift_28 (v := -3) (by decide) ?_
      obtain ⟨q27, hq27, hf⟩ := bnd hf
      refine s_callV G dX6_shift_30 (c_X6_refuses hq27) lkM_X6_130 yk_X6_refuses yv_X6_refuses (by decide) rfl rfl _ [] rfl rfl rfl (Nat.le_of_ble_eq_true rfl) (by decide) ?_
      refine s_pop G dX6_shift_33 rfl ?_
      refine s_sipush G dX6_shift_34 (v := -9998) (by decide) ?_
      replace hf := Option.some.inj hf
      subst hf
      exact s_iret G hR dX6_shift_37 rfl rfl
  · replace hf := ifp c2 hf
    refine s_aload_n G dX6_shift_8 rfl ?_
    refine s_bipush G dX6_shift_9 (v := -2) (by decide) ?_
    obtain ⟨q28, hq28, hf⟩ := bnd hf
    refine s_callV G dX6_shift_11 (c_X6_refuses hq28) lkM_X6_130 yk_X6_refuses yv_X6_refuses (by decide) rfl rfl _ [] rfl rfl rfl (Nat.le_of_ble_eq_true rfl) (by decide) ?_
    refine s_pop G dX6_shift_14 rfl ?_
    refine s_sipush G dX6_shift_15 (v := -9999) (by decide) ?_
    replace hf := Option.some.inj hf
    subst hf
    exact s_iret G hR dX6_shift_18 rfl rfl
def f_X6_carries_12 (a1 : Int32) (a2 : Int32) (a3 : Int32) (k5 : St → Option (Int32 × St)) : Nat → Int32 → St → Option (Int32 × St)
  | 0, _, _ => none
  | n6 + 1, x3, σ4 =>
    if (σ4.1 88 (1 : Int32).toNatClampNeg) ≤ x3 then
      (k5 σ4)
    else
      ((f_X6_flowOf x3 a3 σ4).bind (fun q8 =>
      chk (ib x3 10) (
      nm (sL q8.2 103 x3.toNatClampNeg q8.1) (fun σ10 : St =>
      f_X6_carries_12 a1 a2 a3 k5 n6 (x3 + 1) σ10))))
def f_X6_carries_62 (a3 : Int32) (k17 : Int64 → St → Option (Int32 × St)) : Nat → Int64 → Int32 → St → Option (Int32 × St)
  | 0, _, _, _ => none
  | n18 + 1, x14, x15, σ16 =>
    if (σ16.1 88 (1 : Int32).toNatClampNeg) ≤ x15 then
      (k17 x14 σ16)
    else
      ((f_X6_lineAt x15 (3 : Int32) σ16).bind (fun q20 =>
      (f_X6_lineAt x15 (0 : Int32) q20.2).bind (fun q21 =>
      chk (ib q21.1 6) (
      nm (q20.1.toInt64 * (q21.2.2 96 q21.1.toNatClampNeg)) (fun x23 : Int64 =>
      (f_X6_flowOf x15 a3 q21.2).bind (fun q24 =>
      (f_X6_has a3 x15 q24.2).bind (fun q25 =>
      jn (fun q26 : St =>
        (jn (fun q28 : Int64 × St =>
          ((f_X6_has a3 x15 q28.2).bind (fun q30 =>
          if q30.1 = 0 then
            (f_X6_carries_62 a3 k17 n18 x14 (x15 + 1) q30.2)
          else
            (if x14 ≤ q28.1 then
              (f_X6_carries_62 a3 k17 n18 x14 (x15 + 1) q30.2)
            else
              (f_X6_carries_62 a3 k17 n18 q28.1 (x15 + 1) q30.2))))) (fun j29 =>
          if q24.1 ≤ (0 : Int64) then
            (if (0 : Int64) ≤ q24.1 then
              (j29 ((9999 : Int64), q26))
            else
              (chk (ib x15 10) (
              chk (decide (¬ (-q24.1) = 0)) (
              j29 (((x23 + (q26.2 103 x15.toNatClampNeg)) / (-q24.1)), q26)))))
          else
            (chk (ib x15 10) (
            chk (decide (¬ q24.1 = 0)) (
            j29 (((x23 - (q26.2 103 x15.toNatClampNeg)) / q24.1), q26))))))) (fun j27 =>
        if q25.1 = 0 then
          (j27 q25.2)
        else
          (chk (ib x15 10) (
          if x23 < (q25.2.2 103 x15.toNatClampNeg) then
            (some ((-1 : Int32), q25.2))
          else
            (if (-x23) ≤ (q25.2.2 103 x15.toNatClampNeg) then
              (j27 q25.2)
            else
              (some ((-1 : Int32), q25.2)))))))))))))
def f_X6_carries (a1 : Int32) (a2 : Int32) (a3 : Int32) (σ : St) : Option (Int32 × St) :=
(f_X6_asTold σ).bind (fun q1 =>
  (f_X6_solves a3 q1).bind (fun q2 =>
  f_X6_carries_12 a1 a2 a3 (fun (σ11 : St) =>
    (f_X6_oneOf a1 a2 σ11).bind (fun q12 =>
    (f_X6_solves a3 q12).bind (fun q13 =>
    f_X6_carries_62 a3 (fun (x43 : Int64) (σ44 : St) =>
      some (x43.toInt32, σ44)) 1000 (9999 : Int64) (0 : Int32) q13))) 1000 (0 : Int32) q2))
abbrev mX6_carries : Me := (yX6_carries, cX6_carries, 13, (some .int), 4, 100)
set_option maxRecDepth 100000 in
set_option maxHeartbeats 4000000 in
theorem l_X6_carries_12 {Γ : Cxt} (G : OK Γ RX6 cX6_carries 13 (some .int) 4 100) {res : Int32 × St} (hR : RetOK Γ (some (.int res.1)) res.2) (a1 : Int32) (a2 : Int32) (a3 : Int32) (k5 : St → Option (Int32 × St)) (hk : ∀ (z : St), k5 z = some res → WW Γ 43 [some (.ref 87), some (.int a1), some (.int a2), some (.int a3), none, none, none, none, none, none, none, none, none] [] z) : ∀ (n6 : Nat) (x3 : Int32) (σ4 : St), f_X6_carries_12 a1 a2 a3 k5 n6 x3 σ4 = some res → WW Γ 12 [some (.ref 87), some (.int a1), some (.int a2), some (.int a3), some (.int x3), none, none, none, none, none, none, none, none] [] σ4 := by
  intro n6
  induction n6 with
  | zero =>
    intro x3 σ4 hf
    cases hf
  | succ n6 ih =>
    intro x3 σ4 hf
    unfold f_X6_carries_12 at hf
    refine s_iload G dX6_carries_12 rfl ?_
    refine s_aload_n G dX6_carries_14 rfl ?_
    refine s_getR G dX6_carries_15 lkF_X6_7 (by decide) rfl rfl ?_
    refine s_iconst G dX6_carries_18 (v := 1) (by decide) ?_
    refine s_iald G dX6_carries_19 (by decide) rfl (by decide) ?_
    refine s_icmp_ge (tgt := 43) G dX6_carries_20 (by decide) (fun c7 => ?_) (fun c7 => ?_)
    · replace hf := ifp c7 hf
      refine s_fgt [true, true, true, true, false, true, true, true, true, true, true, true, true] rfl ?_
      exact hk σ4 hf
    · replace hf := ifn c7 hf
      refine s_aload_n G dX6_carries_23 rfl ?_
      refine s_getR G dX6_carries_24 lkF_X6_56 (by decide) rfl rfl ?_
      refine s_iload G dX6_carries_27 rfl ?_
      refine s_aload_n G dX6_carries_29 rfl ?_
      refine s_iload G dX6_carries_30 rfl ?_
      refine s_iload_n G dX6_carries_32 rfl ?_
      obtain ⟨q8, hq8, hf⟩ := bnd hf
      refine s_callV G dX6_carries_33 (c_X6_flowOf hq8) lkM_X6_113 yk_X6_flowOf yv_X6_flowOf (by decide) rfl rfl _ [.int x3, .ref 103] rfl rfl rfl (Nat.le_of_ble_eq_true rfl) (by decide) ?_
      have h9 := chk_1 hf
      replace hf := chk_2 hf
      refine s_last G dX6_carries_36 (by decide) rfl h9 ?_
      refine s_st (fun σ10 eσ10 => ?_)
      replace hf := nm_at eσ10 hf
      refine s_iinc G dX6_carries_37 rfl (v := (x3 + 1)) rfl (by decide) rfl rfl ?_
      refine s_goto (tgt := 12) G dX6_carries_40 (by decide) ?_
      exact ih (x3 + 1) σ10 hf
set_option maxRecDepth 100000 in
set_option maxHeartbeats 4000000 in
theorem l_X6_carries_62 {Γ : Cxt} (G : OK Γ RX6 cX6_carries 13 (some .int) 4 100) {res : Int32 × St} (hR : RetOK Γ (some (.int res.1)) res.2) (a3 : Int32) (k17 : Int64 → St → Option (Int32 × St)) (hk : ∀ (y4 : Int64) (z : St), k17 y4 z = some res → WW Γ 227 [none, none, none, none, some (.long y4), none, none, none, none, none, none, none, none] [] z) : ∀ (n18 : Nat) (x14 : Int64) (x15 : Int32) (σ16 : St), f_X6_carries_62 a3 k17 n18 x14 x15 σ16 = some res → WW Γ 62 [some (.ref 87), none, none, some (.int a3), some (.long x14), none, some (.int x15), none, none, none, none, none, none] [] σ16 := by
  intro n18
  induction n18 with
  | zero =>
    intro x14 x15 σ16 hf
    cases hf
  | succ n18 ih =>
    intro x14 x15 σ16 hf
    unfold f_X6_carries_62 at hf
    refine s_iload G dX6_carries_62 rfl ?_
    refine s_aload_n G dX6_carries_64 rfl ?_
    refine s_getR G dX6_carries_65 lkF_X6_7 (by decide) rfl rfl ?_
    refine s_iconst G dX6_carries_68 (v := 1) (by decide) ?_
    refine s_iald G dX6_carries_69 (by decide) rfl (by decide) ?_
    refine s_icmp_ge (tgt := 227) G dX6_carries_70 (by decide) (fun c19 => ?_) (fun c19 => ?_)
    · replace hf := ifp c19 hf
      refine s_fgt [false, true, true, false, true, true, false, true, true, true, true, true, true] rfl ?_
      exact hk x14 σ16 hf
    · replace hf := ifn c19 hf
      refine s_aload_n G dX6_carries_73 rfl ?_
      refine s_iload G dX6_carries_74 rfl ?_
      refine s_iconst G dX6_carries_76 (v := 3) (by decide) ?_
      obtain ⟨q20, hq20, hf⟩ := bnd hf
      refine s_callV G dX6_carries_77 (c_X6_lineAt hq20) lkM_X6_69 yk_X6_lineAt yv_X6_lineAt (by decide) rfl rfl _ [] rfl rfl rfl (Nat.le_of_ble_eq_true rfl) (by decide) ?_
      refine s_i2l G dX6_carries_80 ?_
      refine s_aload_n G dX6_carries_81 rfl ?_
      refine s_getR G dX6_carries_82 lkF_X6_35 (by decide) rfl rfl ?_
      refine s_aload_n G dX6_carries_85 rfl ?_
      refine s_iload G dX6_carries_86 rfl ?_
      refine s_iconst G dX6_carries_88 (v := 0) (by decide) ?_
      obtain ⟨q21, hq21, hf⟩ := bnd hf
      refine s_callV G dX6_carries_89 (c_X6_lineAt hq21) lkM_X6_69 yk_X6_lineAt yv_X6_lineAt (by decide) rfl rfl _ [.ref 96, .long q20.1.toInt64] rfl rfl rfl (Nat.le_of_ble_eq_true rfl) (by decide) ?_
      have h22 := chk_1 hf
      replace hf := chk_2 hf
      refine s_lald G dX6_carries_92 (by decide) rfl h22 ?_
      refine s_lmul G dX6_carries_93 ?_
      refine s_topl (fun x23 ex23 => ?_)
      replace hf := nm_at ex23 hf
      refine s_lstore G dX6_carries_94 (by decide) rfl rfl ?_
      refine s_aload_n G dX6_carries_96 rfl ?_
      refine s_iload G dX6_carries_97 rfl ?_
      refine s_iload_n G dX6_carries_99 rfl ?_
      obtain ⟨q24, hq24, hf⟩ := bnd hf
      refine s_callV G dX6_carries_100 (c_X6_flowOf hq24) lkM_X6_113 yk_X6_flowOf yv_X6_flowOf (by decide) rfl rfl _ [] rfl rfl rfl (Nat.le_of_ble_eq_true rfl) (by decide) ?_
      refine s_lstore G dX6_carries_103 (by decide) rfl rfl ?_
      refine s_iload_n G dX6_carries_105 rfl ?_
      refine s_iload G dX6_carries_106 rfl ?_
      obtain ⟨q25, hq25, hf⟩ := bnd hf
      refine s_callS G dX6_carries_108 (c_X6_has hq25) lkM_X6_81 yk_X6_has ys_X6_has _ [] rfl rfl rfl (Nat.le_of_ble_eq_true rfl) (by decide) ?_
      refine jn_w (fun q26 : St => WW Γ 143 [some (.ref 87), none, none, some (.int a3), some (.long x14), none, some (.int x15), some (.long x23), none, some (.long q24.1), none, none, none] [] q26) hf (fun q26 hf => ?_) (fun j27 hj27 hf => ?_)
      · refine s_lload G dX6_carries_143 rfl ?_
        refine s_lconst G dX6_carries_145 (v := 0) (by decide) ?_
        refine jn_w (fun q28 : Int64 × St => WW Γ 193 [some (.ref 87), none, none, some (.int a3), some (.long x14), none, some (.int x15), none, none, none, none, none, none] [.long q28.1] q28.2) hf (fun q28 hf => ?_) (fun j29 hj29 hf => ?_)
        · refine s_lstore G dX6_carries_193 (by decide) rfl rfl ?_
          refine s_iload_n G dX6_carries_195 rfl ?_
          refine s_iload G dX6_carries_196 rfl ?_
          obtain ⟨q30, hq30, hf⟩ := bnd hf
          refine s_callS G dX6_carries_198 (c_X6_has hq30) lkM_X6_81 yk_X6_has ys_X6_has _ [] rfl rfl rfl (Nat.le_of_ble_eq_true rfl) (by decide) ?_
          refine s_if_eq (tgt := 217) G dX6_carries_201 (by decide) (fun c31 => ?_) (fun c31 => ?_)
          · replace hf := ifp c31 hf
            refine s_lload G dX6_carries_217 rfl ?_
            refine s_lstore G dX6_carries_219 (by decide) rfl rfl ?_
            refine s_iinc G dX6_carries_221 rfl (v := (x15 + 1)) rfl (by decide) rfl rfl ?_
            refine s_goto (tgt := 62) G dX6_carries_224 (by decide) ?_
            refine s_fgt [true, true, true, true, true, true, true, true, true, true, true, false, true] rfl ?_
            exact ih x14 (x15 + 1) q30.2 hf
          · replace hf := ifn c31 hf
            refine s_lload G dX6_carries_204 rfl ?_
            refine s_lload G dX6_carries_206 rfl ?_
            refine s_lif_ge (tgt := 217) (pc2 := 0) G dX6_carries_208 dX6_carries_209 (by decide) (fun c32 => ?_) (fun c32 => ?_)
            · replace hf := ifp c32 hf
              refine s_lload G dX6_carries_217 rfl ?_
              refine s_lstore G dX6_carries_219 (by decide) rfl rfl ?_
              refine s_iinc G dX6_carries_221 rfl (v := (x15 + 1)) rfl (by decide) rfl rfl ?_
              refine s_goto (tgt := 62) G dX6_carries_224 (by decide) ?_
              refine s_fgt [true, true, true, true, true, true, true, true, true, true, true, false, true] rfl ?_
              exact ih x14 (x15 + 1) q30.2 hf
            · replace hf := ifn c32 hf
              refine s_lload G dX6_carries_212 rfl ?_
              refine s_goto (tgt := 219) G dX6_carries_214 (by decide) ?_
              refine s_lstore G dX6_carries_219 (by decide) rfl rfl ?_
              refine s_iinc G dX6_carries_221 rfl (v := (x15 + 1)) rfl (by decide) rfl rfl ?_
              refine s_goto (tgt := 62) G dX6_carries_224 (by decide) ?_
              refine s_fgt [true, true, true, true, true, true, true, true, true, true, true, false, true] rfl ?_
              exact ih q28.1 (x15 + 1) q30.2 hf
        · refine s_lif_le (tgt := 166) (pc2 := 0) G dX6_carries_146 dX6_carries_147 (by decide) (fun c33 => ?_) (fun c33 => ?_)
          · replace hf := ifp c33 hf
            refine s_lload G dX6_carries_166 rfl ?_
            refine s_lconst G dX6_carries_168 (v := 0) (by decide) ?_
            refine s_lif_ge (tgt := 190) (pc2 := 0) G dX6_carries_169 dX6_carries_170 (by decide) (fun c34 => ?_) (fun c34 => ?_)
            · replace hf := ifp c34 hf
              refine s_ldc2 G dX6_carries_190 kc_X6_230 ?_
              refine s_fgt [true, true, true, true, true, true, true, false, true, false, true, true, true] rfl ?_
              exact hj29 _ hf
            · replace hf := ifn c34 hf
              refine s_lload G dX6_carries_173 rfl ?_
              refine s_aload_n G dX6_carries_175 rfl ?_
              refine s_getR G dX6_carries_176 lkF_X6_56 (by decide) rfl rfl ?_
              refine s_iload G dX6_carries_179 rfl ?_
              have h35 := chk_1 hf
              replace hf := chk_2 hf
              refine s_lald G dX6_carries_181 (by decide) rfl h35 ?_
              refine s_ladd G dX6_carries_182 ?_
              refine s_lload G dX6_carries_183 rfl ?_
              refine s_lneg G dX6_carries_185 ?_
              have h36 := chk_1 hf
              replace hf := chk_2 hf
              refine s_ldiv G dX6_carries_186 h36 ?_
              refine s_goto (tgt := 193) G dX6_carries_187 (by decide) ?_
              refine s_fgt [true, true, true, true, true, true, true, false, true, false, true, true, true] rfl ?_
              exact hj29 _ hf
          · replace hf := ifn c33 hf
            refine s_lload G dX6_carries_150 rfl ?_
            refine s_aload_n G dX6_carries_152 rfl ?_
            refine s_getR G dX6_carries_153 lkF_X6_56 (by decide) rfl rfl ?_
            refine s_iload G dX6_carries_156 rfl ?_
            have h37 := chk_1 hf
            replace hf := chk_2 hf
            refine s_lald G dX6_carries_158 (by decide) rfl h37 ?_
            refine s_lsub G dX6_carries_159 ?_
            refine s_lload G dX6_carries_160 rfl ?_
            have h38 := chk_1 hf
            replace hf := chk_2 hf
            refine s_ldiv G dX6_carries_162 h38 ?_
            refine s_goto (tgt := 193) G dX6_carries_163 (by decide) ?_
            refine s_fgt [true, true, true, true, true, true, true, false, true, false, true, true, true] rfl ?_
            exact hj29 _ hf
      · refine s_if_eq (tgt := 143) G dX6_carries_111 (by decide) (fun c39 => ?_) (fun c39 => ?_)
        · replace hf := ifp c39 hf
          exact hj27 _ hf
        · replace hf := ifn c39 hf
          refine s_aload_n G dX6_carries_114 rfl ?_
          refine s_getR G dX6_carries_115 lkF_X6_56 (by decide) rfl rfl ?_
          refine s_iload G dX6_carries_118 rfl ?_
          have h40 := chk_1 hf
          replace hf := chk_2 hf
          refine s_lald G dX6_carries_120 (by decide) rfl h40 ?_
          refine s_lload G dX6_carries_121 rfl ?_
          refine s_lif_gt (tgt := 141) (pc2 := 0) G dX6_carries_123 dX6_carries_124 (by decide) (fun c41 => ?_) (fun c41 => ?_)
          · replace hf := ifp c41 hf
            refine s_iconst G dX6_carries_141 (v := -1) (by decide) ?_
            replace hf := Option.some.inj hf
            subst hf
            exact s_iret G hR dX6_carries_142 rfl rfl
          · replace hf := ifn c41 hf
            refine s_aload_n G dX6_carries_127 rfl ?_
            refine s_getR G dX6_carries_128 lkF_X6_56 (by decide) rfl rfl ?_
            refine s_iload G dX6_carries_131 rfl ?_
            refine s_lald G dX6_carries_133 (by decide) rfl h40 ?_
            refine s_lload G dX6_carries_134 rfl ?_
            refine s_lneg G dX6_carries_136 ?_
            refine s_lif_ge (tgt := 143) (pc2 := 0) G dX6_carries_137 dX6_carries_138 (by decide) (fun c42 => ?_) (fun c42 => ?_)
            · replace hf := ifp c42 hf
              exact hj27 _ hf
            · replace hf := ifn c42 hf
              refine s_iconst G dX6_carries_141 (v := -1) (by decide) ?_
              replace hf := Option.some.inj hf
              subst hf
              exact s_iret G hR dX6_carries_142 rfl rfl
set_option maxRecDepth 100000 in
set_option maxHeartbeats 4000000 in
theorem c_X6_carries {a1 : Int32} {a2 : Int32} {a3 : Int32} {σ : St} {res : Int32 × St} (hf : f_X6_carries a1 a2 a3 σ = some res) : Mt mX6_carries [.ref 87, .int a1, .int a2, .int a3] σ (some (.int res.1)) res.2 := by
  unfold f_X6_carries at hf
  refine mt_of (by decide) (Nat.le_of_ble_eq_true rfl) [some (.ref 87), some (.int a1), some (.int a2), some (.int a3), none, none, none, none, none, none, none, none, none] rfl (fun Γ G hR => ?_)
  have G : OK Γ RX6 cX6_carries 13 (some .int) 4 100 := G
  refine s_aload_n G dX6_carries_0 rfl ?_
  obtain ⟨q1, hq1, hf⟩ := bnd hf
  refine s_callV G dX6_carries_1 (c_X6_asTold hq1) lkM_X6_186 yk_X6_asTold yv_X6_asTold (by decide) rfl rfl _ [] rfl rfl rfl (Nat.le_of_ble_eq_true rfl) (by decide) ?_
  refine s_aload_n G dX6_carries_4 rfl ?_
  refine s_iload_n G dX6_carries_5 rfl ?_
  obtain ⟨q2, hq2, hf⟩ := bnd hf
  refine s_callV G dX6_carries_6 (c_X6_solves hq2) lkM_X6_189 yk_X6_solves yv_X6_solves (by decide) rfl rfl _ [] rfl rfl rfl (Nat.le_of_ble_eq_true rfl) (by decide) ?_
  refine s_iconst G dX6_carries_9 (v := 0) (by decide) ?_
  refine s_istore G dX6_carries_10 (by decide) rfl rfl ?_
  refine l_X6_carries_12 G hR a1 a2 a3 _ (fun σ11 hf => ?_) 1000 (0 : Int32) q2 hf
  refine s_aload_n G dX6_carries_43 rfl ?_
  refine s_iload_n G dX6_carries_44 rfl ?_
  refine s_iload_n G dX6_carries_45 rfl ?_
  obtain ⟨q12, hq12, hf⟩ := bnd hf
  refine s_callV G dX6_carries_46 (c_X6_oneOf hq12) lkM_X6_196 yk_X6_oneOf yv_X6_oneOf (by decide) rfl rfl _ [] rfl rfl rfl (Nat.le_of_ble_eq_true rfl) (by decide) ?_
  refine s_aload_n G dX6_carries_49 rfl ?_
  refine s_iload_n G dX6_carries_50 rfl ?_
  obtain ⟨q13, hq13, hf⟩ := bnd hf
  refine s_callV G dX6_carries_51 (c_X6_solves hq13) lkM_X6_189 yk_X6_solves yv_X6_solves (by decide) rfl rfl _ [] rfl rfl rfl (Nat.le_of_ble_eq_true rfl) (by decide) ?_
  refine s_ldc2 G dX6_carries_54 kc_X6_230 ?_
  refine s_lstore G dX6_carries_57 (by decide) rfl rfl ?_
  refine s_iconst G dX6_carries_59 (v := 0) (by decide) ?_
  refine s_istore G dX6_carries_60 (by decide) rfl rfl ?_
  refine s_fgt [true, false, false, true, true, true, true, true, true, true, true, true, true] rfl ?_
  refine l_X6_carries_62 G hR a3 _ (fun x43 σ44 hf => ?_) 1000 (9999 : Int64) (0 : Int32) q13 hf
  refine s_lload G dX6_carries_227 rfl ?_
  refine s_l2i G dX6_carries_229 ?_
  replace hf := Option.some.inj hf
  subst hf
  exact s_iret G hR dX6_carries_230 rfl rfl
def f_X6_transfer_83 (a1 : Int32) (a2 : Int32) (a3 : Int32) (k21 : Int32 → St → Option (Int32 × St)) : Nat → Int32 → Int32 → St → Option (Int32 × St)
  | 0, _, _, _ => none
  | n22 + 1, x18, x19, σ20 =>
    if (σ20.1 88 (1 : Int32).toNatClampNeg) ≤ x19 then
      (k21 x18 σ20)
    else
      (if a3 = (1 : Int32) then
        (if x18 = (-1 : Int32) then
          (k21 x18 σ20)
        else
          ((f_X6_isIn x19 σ20).bind (fun q26 =>
          if q26.1 = 0 then
            (f_X6_transfer_83 a1 a2 a3 k21 n22 x18 (x19 + 1) q26.2)
          else
            ((f_X6_isBridge x19 q26.2).bind (fun q28 =>
            if q28.1 = 0 then
              ((f_X6_inSet q28.2).bind (fun q30 =>
              (f_X6_carries a1 a2 (q30.1 &&& (((1 : Int32) <<< (x19 &&& 31)) ^^^ (-1 : Int32))) q30.2).bind (fun q31 =>
              if x18 ≤ q31.1 then
                (f_X6_transfer_83 a1 a2 a3 k21 n22 x18 (x19 + 1) q31.2)
              else
                (f_X6_transfer_83 a1 a2 a3 k21 n22 q31.1 (x19 + 1) q31.2))))
            else
              (f_X6_transfer_83 a1 a2 a3 k21 n22 x18 (x19 + 1) q28.2))))))
      else
        (k21 x18 σ20))
def f_X6_transfer (a1 : Int32) (a2 : Int32) (a3 : Int32) (σ : St) : Option (Int32 × St) :=
(f_X6_isBus a1 σ).bind (fun q1 =>
  if q1.1 = 0 then
    ((f_X6_refuses (-2 : Int32) q1.2).bind (fun q3 =>
    some (q3.1, q3.2)))
  else
    ((f_X6_isBus a2 q1.2).bind (fun q4 =>
    if q4.1 = 0 then
      ((f_X6_refuses (-2 : Int32) q4.2).bind (fun q6 =>
      some (q6.1, q6.2)))
    else
      (if a1 = a2 then
        ((f_X6_refuses (-2 : Int32) q4.2).bind (fun q8 =>
        some (q8.1, q8.2)))
      else
        ((f_X6_in a3.toInt64 (0 : Int64) (1 : Int64) q4.2).bind (fun q9 =>
        if q9.1 = 0 then
          ((f_X6_refuses (-2 : Int32) q9.2).bind (fun q36 =>
          some (q36.1, q36.2)))
        else
          ((f_X6_inSet q9.2).bind (fun q11 =>
          (f_X6_parts q11.1 q11.2).bind (fun q12 =>
          chk (ib a1 6) (
          chk (ib a2 6) (
          if (q12.1 94 a1.toNatClampNeg) = (q12.1 94 a2.toNatClampNeg) then
            ((f_X6_inSet q12).bind (fun q16 =>
            (f_X6_carries a1 a2 q16.1 q16.2).bind (fun q17 =>
            f_X6_transfer_83 a1 a2 a3 (fun (x33 : Int32) (σ34 : St) =>
              some (x33, σ34)) 1000 q17.1 (0 : Int32) q17.2)))
          else
            ((f_X6_refuses (-3 : Int32) q12).bind (fun q35 =>
            some (q35.1, q35.2))))))))))))))
abbrev mX6_transfer : Me := (yX6_transfer, cX6_transfer, 7, (some .int), 5, 132)
set_option maxRecDepth 100000 in
set_option maxHeartbeats 4000000 in
theorem l_X6_transfer_83 {Γ : Cxt} (G : OK Γ RX6 cX6_transfer 7 (some .int) 5 132) {res : Int32 × St} (hR : RetOK Γ (some (.int res.1)) res.2) (a1 : Int32) (a2 : Int32) (a3 : Int32) (k21 : Int32 → St → Option (Int32 × St)) (hk : ∀ (y4 : Int32) (z : St), k21 y4 z = some res → WW Γ 164 [none, none, none, none, some (.int y4), none, none] [] z) : ∀ (n22 : Nat) (x18 : Int32) (x19 : Int32) (σ20 : St), f_X6_transfer_83 a1 a2 a3 k21 n22 x18 x19 σ20 = some res → WW Γ 83 [some (.ref 87), some (.int a1), some (.int a2), some (.int a3), some (.int x18), some (.int x19), none] [] σ20 := by
  intro n22
  induction n22 with
  | zero =>
    intro x18 x19 σ20 hf
    cases hf
  | succ n22 ih =>
    intro x18 x19 σ20 hf
    unfold f_X6_transfer_83 at hf
    refine s_iload G dX6_transfer_83 rfl ?_
    refine s_aload_n G dX6_transfer_85 rfl ?_
    refine s_getR G dX6_transfer_86 lkF_X6_7 (by decide) rfl rfl ?_
    refine s_iconst G dX6_transfer_89 (v := 1) (by decide) ?_
    refine s_iald G dX6_transfer_90 (by decide) rfl (by decide) ?_
    refine s_icmp_ge (tgt := 164) G dX6_transfer_91 (by decide) (fun c23 => ?_) (fun c23 => ?_)
    · replace hf := ifp c23 hf
      refine s_fgt [false, false, false, false, true, false, true] rfl ?_
      exact hk x18 σ20 hf
    · replace hf := ifn c23 hf
      refine s_iload_n G dX6_transfer_94 rfl ?_
      refine s_iconst G dX6_transfer_95 (v := 1) (by decide) ?_
      refine s_icmp_ne (tgt := 164) G dX6_transfer_96 (by decide) (fun c24 => ?_) (fun c24 => ?_)
      · replace hf := ifn c24 hf
        refine s_fgt [false, false, false, false, true, false, true] rfl ?_
        exact hk x18 σ20 hf
      · replace hf := ifp c24 hf
        refine s_iload G dX6_transfer_99 rfl ?_
        refine s_iconst G dX6_transfer_101 (v := -1) (by decide) ?_
        refine s_icmp_eq (tgt := 164) G dX6_transfer_102 (by decide) (fun c25 => ?_) (fun c25 => ?_)
        · replace hf := ifp c25 hf
          refine s_fgt [false, false, false, false, true, false, true] rfl ?_
          exact hk x18 σ20 hf
        · replace hf := ifn c25 hf
          refine s_aload_n G dX6_transfer_105 rfl ?_
          refine s_iload G dX6_transfer_106 rfl ?_
          obtain ⟨q26, hq26, hf⟩ := bnd hf
          refine s_callV G dX6_transfer_108 (c_X6_isIn hq26) lkM_X6_73 yk_X6_isIn yv_X6_isIn (by decide) rfl rfl _ [] rfl rfl rfl (Nat.le_of_ble_eq_true rfl) (by decide) ?_
          refine s_if_eq (tgt := 158) G dX6_transfer_111 (by decide) (fun c27 => ?_) (fun c27 => ?_)
          · replace hf := ifp c27 hf
            refine s_iinc G dX6_transfer_158 rfl (v := (x19 + 1)) rfl (by decide) rfl rfl ?_
            refine s_goto (tgt := 83) G dX6_transfer_161 (by decide) ?_
            exact ih x18 (x19 + 1) q26.2 hf
          · replace hf := ifn c27 hf
            refine s_aload_n G dX6_transfer_114 rfl ?_
            refine s_iload G dX6_transfer_115 rfl ?_
            obtain ⟨q28, hq28, hf⟩ := bnd hf
            refine s_callV G dX6_transfer_117 (c_X6_isBridge hq28) lkM_X6_183 yk_X6_isBridge yv_X6_isBridge (by decide) rfl rfl _ [] rfl rfl rfl (Nat.le_of_ble_eq_true rfl) (by decide) ?_
            refine s_if_ne (tgt := 158) G dX6_transfer_120 (by decide) (fun c29 => ?_) (fun c29 => ?_)
            · replace hf := ifn c29 hf
              refine s_iinc G dX6_transfer_158 rfl (v := (x19 + 1)) rfl (by decide) rfl rfl ?_
              refine s_goto (tgt := 83) G dX6_transfer_161 (by decide) ?_
              exact ih x18 (x19 + 1) q28.2 hf
            · replace hf := ifp c29 hf
              refine s_aload_n G dX6_transfer_123 rfl ?_
              refine s_iload_n G dX6_transfer_124 rfl ?_
              refine s_iload_n G dX6_transfer_125 rfl ?_
              refine s_aload_n G dX6_transfer_126 rfl ?_
              obtain ⟨q30, hq30, hf⟩ := bnd hf
              refine s_callV G dX6_transfer_127 (c_X6_inSet hq30) lkM_X6_179 yk_X6_inSet yv_X6_inSet (by decide) rfl rfl _ [.int a2, .int a1, .ref 87] rfl rfl rfl (Nat.le_of_ble_eq_true rfl) (by decide) ?_
              refine s_iconst G dX6_transfer_130 (v := 1) (by decide) ?_
              refine s_iload G dX6_transfer_131 rfl ?_
              refine s_ishl G dX6_transfer_133 ?_
              refine s_iconst G dX6_transfer_134 (v := -1) (by decide) ?_
              refine s_ixor G dX6_transfer_135 ?_
              refine s_iand G dX6_transfer_136 ?_
              obtain ⟨q31, hq31, hf⟩ := bnd hf
              refine s_callV G dX6_transfer_137 (c_X6_carries hq31) lkM_X6_232 yk_X6_carries yv_X6_carries (by decide) rfl rfl _ [] rfl rfl rfl (Nat.le_of_ble_eq_true rfl) (by decide) ?_
              refine s_istore G dX6_transfer_140 (by decide) rfl rfl ?_
              refine s_iload G dX6_transfer_142 rfl ?_
              refine s_iload G dX6_transfer_144 rfl ?_
              refine s_icmp_ge (tgt := 154) G dX6_transfer_146 (by decide) (fun c32 => ?_) (fun c32 => ?_)
              · replace hf := ifp c32 hf
                refine s_iload G dX6_transfer_154 rfl ?_
                refine s_istore G dX6_transfer_156 (by decide) rfl rfl ?_
                refine s_iinc G dX6_transfer_158 rfl (v := (x19 + 1)) rfl (by decide) rfl rfl ?_
                refine s_goto (tgt := 83) G dX6_transfer_161 (by decide) ?_
                refine s_fgt [true, true, true, true, true, true, false] rfl ?_
                exact ih x18 (x19 + 1) q31.2 hf
              · replace hf := ifn c32 hf
                refine s_iload G dX6_transfer_149 rfl ?_
                refine s_goto (tgt := 156) G dX6_transfer_151 (by decide) ?_
                refine s_istore G dX6_transfer_156 (by decide) rfl rfl ?_
                refine s_iinc G dX6_transfer_158 rfl (v := (x19 + 1)) rfl (by decide) rfl rfl ?_
                refine s_goto (tgt := 83) G dX6_transfer_161 (by decide) ?_
                refine s_fgt [true, true, true, true, true, true, false] rfl ?_
                exact ih q31.1 (x19 + 1) q31.2 hf
set_option maxRecDepth 100000 in
set_option maxHeartbeats 4000000 in
theorem c_X6_transfer {a1 : Int32} {a2 : Int32} {a3 : Int32} {σ : St} {res : Int32 × St} (hf : f_X6_transfer a1 a2 a3 σ = some res) : Mt mX6_transfer [.ref 87, .int a1, .int a2, .int a3] σ (some (.int res.1)) res.2 := by
  unfold f_X6_transfer at hf
  refine mt_of (by decide) (Nat.le_of_ble_eq_true rfl) [some (.ref 87), some (.int a1), some (.int a2), some (.int a3), none, none, none] rfl (fun Γ G hR => ?_)
  have G : OK Γ RX6 cX6_transfer 7 (some .int) 5 132 := G
  refine s_aload_n G dX6_transfer_0 rfl ?_
  refine s_iload_n G dX6_transfer_1 rfl ?_
  obtain ⟨q1, hq1, hf⟩ := bnd hf
  refine s_callV G dX6_transfer_2 (c_X6_isBus hq1) lkM_X6_143 yk_X6_isBus yv_X6_isBus (by decide) rfl rfl _ [] rfl rfl rfl (Nat.le_of_ble_eq_true rfl) (by decide) ?_
  refine s_if_eq (tgt := 31) G dX6_transfer_5 (by decide) (fun c2 => ?_) (fun c2 => ?_)
  · replace hf := ifp c2 hf
    refine s_aload_n G dX6_transfer_31 rfl ?_
    refine s_bipush G dX6_transfer_32 (v := -2) (by decide) ?_
    obtain ⟨q3, hq3, hf⟩ := bnd hf
    refine s_callV G dX6_transfer_34 (c_X6_refuses hq3) lkM_X6_130 yk_X6_refuses yv_X6_refuses (by decide) rfl rfl _ [] rfl rfl rfl (Nat.le_of_ble_eq_true rfl) (by decide) ?_
    replace hf := Option.some.inj hf
    subst hf
    exact s_iret G hR dX6_transfer_37 rfl rfl
  · replace hf := ifn c2 hf
    refine s_aload_n G dX6_transfer_8 rfl ?_
    refine s_iload_n G dX6_transfer_9 rfl ?_
    obtain ⟨q4, hq4, hf⟩ := bnd hf
    refine s_callV G dX6_transfer_10 (c_X6_isBus hq4) lkM_X6_143 yk_X6_isBus yv_X6_isBus (by decide) rfl rfl _ [] rfl rfl rfl (Nat.le_of_ble_eq_true rfl) (by decide) ?_
    refine s_if_eq (tgt := 31) G dX6_transfer_13 (by decide) (fun c5 => ?_) (fun c5 => ?_)
    · replace hf := ifp c5 hf
      refine s_aload_n G dX6_transfer_31 rfl ?_
      refine s_bipush G dX6_transfer_32 (v := -2) (by decide) ?_
      obtain ⟨q6, hq6, hf⟩ := bnd hf
      refine s_callV G dX6_transfer_34 (c_X6_refuses hq6) lkM_X6_130 yk_X6_refuses yv_X6_refuses (by decide) rfl rfl _ [] rfl rfl rfl (Nat.le_of_ble_eq_true rfl) (by decide) ?_
      replace hf := Option.some.inj hf
      subst hf
      exact s_iret G hR dX6_transfer_37 rfl rfl
    · replace hf := ifn c5 hf
      refine s_iload_n G dX6_transfer_16 rfl ?_
      refine s_iload_n G dX6_transfer_17 rfl ?_
      refine s_icmp_eq (tgt := 31) G dX6_transfer_18 (by decide) (fun c7 => ?_) (fun c7 => ?_)
      · replace hf := ifp c7 hf
        refine s_aload_n G dX6_transfer_31 rfl ?_
        refine s_bipush G dX6_transfer_32 (v := -2) (by decide) ?_
        obtain ⟨q8, hq8, hf⟩ := bnd hf
        refine s_callV G dX6_transfer_34 (c_X6_refuses hq8) lkM_X6_130 yk_X6_refuses yv_X6_refuses (by decide) rfl rfl _ [] rfl rfl rfl (Nat.le_of_ble_eq_true rfl) (by decide) ?_
        replace hf := Option.some.inj hf
        subst hf
        exact s_iret G hR dX6_transfer_37 rfl rfl
      · replace hf := ifn c7 hf
        refine s_iload_n G dX6_transfer_21 rfl ?_
        refine s_i2l G dX6_transfer_22 ?_
        refine s_lconst G dX6_transfer_23 (v := 0) (by decide) ?_
        refine s_lconst G dX6_transfer_24 (v := 1) (by decide) ?_
        obtain ⟨q9, hq9, hf⟩ := bnd hf
        refine s_callS G dX6_transfer_25 (c_X6_in hq9) lkM_X6_65 yk_X6_in ys_X6_in _ [] rfl rfl rfl (Nat.le_of_ble_eq_true rfl) (by decide) ?_
        refine s_if_ne (tgt := 38) G dX6_transfer_28 (by decide) (fun c10 => ?_) (fun c10 => ?_)
        · replace hf := ifn c10 hf
          refine s_aload_n G dX6_transfer_38 rfl ?_
          refine s_aload_n G dX6_transfer_39 rfl ?_
          obtain ⟨q11, hq11, hf⟩ := bnd hf
          refine s_callV G dX6_transfer_40 (c_X6_inSet hq11) lkM_X6_179 yk_X6_inSet yv_X6_inSet (by decide) rfl rfl _ [.ref 87] rfl rfl rfl (Nat.le_of_ble_eq_true rfl) (by decide) ?_
          obtain ⟨q12, hq12, hf⟩ := bnd hf
          refine s_callV G dX6_transfer_43 (c_X6_parts hq12) lkM_X6_104 yk_X6_parts yv_X6_parts (by decide) rfl rfl _ [] rfl rfl rfl (Nat.le_of_ble_eq_true rfl) (by decide) ?_
          refine s_aload_n G dX6_transfer_46 rfl ?_
          refine s_getR G dX6_transfer_47 lkF_X6_29 (by decide) rfl rfl ?_
          refine s_iload_n G dX6_transfer_50 rfl ?_
          have h13 := chk_1 hf
          replace hf := chk_2 hf
          refine s_iald G dX6_transfer_51 (by decide) rfl h13 ?_
          refine s_aload_n G dX6_transfer_52 rfl ?_
          refine s_getR G dX6_transfer_53 lkF_X6_29 (by decide) rfl rfl ?_
          refine s_iload_n G dX6_transfer_56 rfl ?_
          have h14 := chk_1 hf
          replace hf := chk_2 hf
          refine s_iald G dX6_transfer_57 (by decide) rfl h14 ?_
          refine s_icmp_eq (tgt := 68) G dX6_transfer_58 (by decide) (fun c15 => ?_) (fun c15 => ?_)
          · replace hf := ifp c15 hf
            refine s_aload_n G dX6_transfer_68 rfl ?_
            refine s_iload_n G dX6_transfer_69 rfl ?_
            refine s_iload_n G dX6_transfer_70 rfl ?_
            refine s_aload_n G dX6_transfer_71 rfl ?_
            obtain ⟨q16, hq16, hf⟩ := bnd hf
            refine s_callV G dX6_transfer_72 (c_X6_inSet hq16) lkM_X6_179 yk_X6_inSet yv_X6_inSet (by decide) rfl rfl _ [.int a2, .int a1, .ref 87] rfl rfl rfl (Nat.le_of_ble_eq_true rfl) (by decide) ?_
            obtain ⟨q17, hq17, hf⟩ := bnd hf
            refine s_callV G dX6_transfer_75 (c_X6_carries hq17) lkM_X6_232 yk_X6_carries yv_X6_carries (by decide) rfl rfl _ [] rfl rfl rfl (Nat.le_of_ble_eq_true rfl) (by decide) ?_
            refine s_istore G dX6_transfer_78 (by decide) rfl rfl ?_
            refine s_iconst G dX6_transfer_80 (v := 0) (by decide) ?_
            refine s_istore G dX6_transfer_81 (by decide) rfl rfl ?_
            refine l_X6_transfer_83 G hR a1 a2 a3 _ (fun x33 σ34 hf => ?_) 1000 q17.1 (0 : Int32) q17.2 hf
            refine s_iload G dX6_transfer_164 rfl ?_
            replace hf := Option.some.inj hf
            subst hf
            exact s_iret G hR dX6_transfer_166 rfl rfl
          · replace hf := ifn c15 hf
            refine s_aload_n G dX6_transfer_61 rfl ?_
            refine s_bipush G dX6_transfer_62 (v := -3) (by decide) ?_
            obtain ⟨q35, hq35, hf⟩ := bnd hf
            refine s_callV G dX6_transfer_64 (c_X6_refuses hq35) lkM_X6_130 yk_X6_refuses yv_X6_refuses (by decide) rfl rfl _ [] rfl rfl rfl (Nat.le_of_ble_eq_true rfl) (by decide) ?_
            replace hf := Option.some.inj hf
            subst hf
            exact s_iret G hR dX6_transfer_67 rfl rfl
        · replace hf := ifp c10 hf
          refine s_aload_n G dX6_transfer_31 rfl ?_
          refine s_bipush G dX6_transfer_32 (v := -2) (by decide) ?_
          obtain ⟨q36, hq36, hf⟩ := bnd hf
          refine s_callV G dX6_transfer_34 (c_X6_refuses hq36) lkM_X6_130 yk_X6_refuses yv_X6_refuses (by decide) rfl rfl _ [] rfl rfl rfl (Nat.le_of_ble_eq_true rfl) (by decide) ?_
          replace hf := Option.some.inj hf
          subst hf
          exact s_iret G hR dX6_transfer_37 rfl rfl
def f_X6_countOf_46 (k7 : Int32 → St → Option (Int32 × St)) : Nat → Int32 → Int32 → St → Option (Int32 × St)
  | 0, _, _, _ => none
  | n8 + 1, x4, x5, σ6 =>
    if (σ6.1 88 (0 : Int32).toNatClampNeg) ≤ x5 then
      (k7 x4 σ6)
    else
      (chk (ib x5 6) (
      if (σ6.1 94 x5.toNatClampNeg) = x5 then
        (nm (x4 + (1 : Int32)) (fun x13 : Int32 =>
        f_X6_countOf_46 k7 n8 x13 (x5 + 1) σ6))
      else
        (nm (x4 + (0 : Int32)) (fun x12 : Int32 =>
        f_X6_countOf_46 k7 n8 x12 (x5 + 1) σ6))))
def f_X6_countOf_91 (a1 : Int32) (k21 : Int32 → St → Option (Int32 × St)) : Nat → Int32 → Int32 → St → Option (Int32 × St)
  | 0, _, _, _ => none
  | n22 + 1, x18, x19, σ20 =>
    if (σ20.1 88 (1 : Int32).toNatClampNeg) ≤ x19 then
      (k21 x18 σ20)
    else
      (if a1 = (2 : Int32) then
        ((f_X6_lineAt x19 (4 : Int32) σ20).bind (fun q29 =>
        nm (x18 + q29.1) (fun x30 : Int32 =>
        f_X6_countOf_91 a1 k21 n22 x30 (x19 + 1) q29.2)))
      else
        ((f_X6_isBridge x19 σ20).bind (fun q25 =>
        if q25.1 = 0 then
          (nm (x18 + (0 : Int32)) (fun x27 : Int32 =>
          f_X6_countOf_91 a1 k21 n22 x27 (x19 + 1) q25.2))
        else
          (nm (x18 + (1 : Int32)) (fun x28 : Int32 =>
          f_X6_countOf_91 a1 k21 n22 x28 (x19 + 1) q25.2)))))
def f_X6_countOf (a1 : Int32) (σ : St) : Option (Int32 × St) :=
if a1 = 0 then
    ((f_X6_inSet σ).bind (fun q2 =>
    (f_X6_parts q2.1 q2.2).bind (fun q3 =>
    f_X6_countOf_46 (fun (x14 : Int32) (σ15 : St) =>
      some (x14, σ15)) 1000 (0 : Int32) (0 : Int32) q3)))
  else (if a1 = 1 then
    (some ((σ.1 88 (1 : Int32).toNatClampNeg), σ))
  else (if a1 = 2 then
    (f_X6_countOf_91 a1 (fun (x31 : Int32) (σ32 : St) =>
      some (x31, σ32)) 1000 (0 : Int32) (0 : Int32) σ)
  else (if a1 = 3 then
    (f_X6_countOf_91 a1 (fun (x47 : Int32) (σ48 : St) =>
      some (x47, σ48)) 1000 (0 : Int32) (0 : Int32) σ)
  else (if a1 = 4 then
    ((f_X6_inSet σ).bind (fun q50 =>
    (f_X6_judges q50.1 q50.2).bind (fun q51 =>
    some ((q51.1 87 18), q51))))
  else (if a1 = (6 : Int32) then
    ((f_X6_ranksAll (1 : Int32) σ).bind (fun q54 =>
    some ((q54.1 87 24), q54)))
  else
    ((f_X6_ranksAll (0 : Int32) σ).bind (fun q53 =>
    some ((q53.1 87 24), q53))))))))
abbrev mX6_countOf : Me := (yX6_countOf, cX6_countOf, 4, (some .int), 7, 174)
set_option maxRecDepth 100000 in
set_option maxHeartbeats 4000000 in
theorem l_X6_countOf_46 {Γ : Cxt} (G : OK Γ RX6 cX6_countOf 4 (some .int) 7 174) {res : Int32 × St} (hR : RetOK Γ (some (.int res.1)) res.2) (k7 : Int32 → St → Option (Int32 × St)) (hk : ∀ (y2 : Int32) (z : St), k7 y2 z = some res → WW Γ 80 [none, none, some (.int y2), none] [] z) : ∀ (n8 : Nat) (x4 : Int32) (x5 : Int32) (σ6 : St), f_X6_countOf_46 k7 n8 x4 x5 σ6 = some res → WW Γ 46 [some (.ref 87), none, some (.int x4), some (.int x5)] [] σ6 := by
  intro n8
  induction n8 with
  | zero =>
    intro x4 x5 σ6 hf
    cases hf
  | succ n8 ih =>
    intro x4 x5 σ6 hf
    unfold f_X6_countOf_46 at hf
    refine s_iload_n G dX6_countOf_46 rfl ?_
    refine s_aload_n G dX6_countOf_47 rfl ?_
    refine s_getR G dX6_countOf_48 lkF_X6_7 (by decide) rfl rfl ?_
    refine s_iconst G dX6_countOf_51 (v := 0) (by decide) ?_
    refine s_iald G dX6_countOf_52 (by decide) rfl (by decide) ?_
    refine s_icmp_ge (tgt := 80) G dX6_countOf_53 (by decide) (fun c9 => ?_) (fun c9 => ?_)
    · replace hf := ifp c9 hf
      refine s_fgt [false, true, true, false] rfl ?_
      exact hk x4 σ6 hf
    · replace hf := ifn c9 hf
      refine s_iload_n G dX6_countOf_56 rfl ?_
      refine s_aload_n G dX6_countOf_57 rfl ?_
      refine s_getR G dX6_countOf_58 lkF_X6_29 (by decide) rfl rfl ?_
      refine s_iload_n G dX6_countOf_61 rfl ?_
      have h10 := chk_1 hf
      replace hf := chk_2 hf
      refine s_iald G dX6_countOf_62 (by decide) rfl h10 ?_
      refine s_iload_n G dX6_countOf_63 rfl ?_
      refine s_icmp_ne (tgt := 71) G dX6_countOf_64 (by decide) (fun c11 => ?_) (fun c11 => ?_)
      · replace hf := ifn c11 hf
        refine s_iconst G dX6_countOf_71 (v := 0) (by decide) ?_
        refine s_iadd G dX6_countOf_72 ?_
        refine s_topi (fun x12 ex12 => ?_)
        replace hf := nm_at ex12 hf
        refine s_istore_n G dX6_countOf_73 rfl (by decide) rfl rfl ?_
        refine s_iinc G dX6_countOf_74 rfl (v := (x5 + 1)) rfl (by decide) rfl rfl ?_
        refine s_goto (tgt := 46) G dX6_countOf_77 (by decide) ?_
        exact ih x12 (x5 + 1) σ6 hf
      · replace hf := ifp c11 hf
        refine s_iconst G dX6_countOf_67 (v := 1) (by decide) ?_
        refine s_goto (tgt := 72) G dX6_countOf_68 (by decide) ?_
        refine s_iadd G dX6_countOf_72 ?_
        refine s_topi (fun x13 ex13 => ?_)
        replace hf := nm_at ex13 hf
        refine s_istore_n G dX6_countOf_73 rfl (by decide) rfl rfl ?_
        refine s_iinc G dX6_countOf_74 rfl (v := (x5 + 1)) rfl (by decide) rfl rfl ?_
        refine s_goto (tgt := 46) G dX6_countOf_77 (by decide) ?_
        exact ih x13 (x5 + 1) σ6 hf
set_option maxRecDepth 100000 in
set_option maxHeartbeats 4000000 in
theorem l_X6_countOf_91 {Γ : Cxt} (G : OK Γ RX6 cX6_countOf 4 (some .int) 7 174) {res : Int32 × St} (hR : RetOK Γ (some (.int res.1)) res.2) (a1 : Int32) (k21 : Int32 → St → Option (Int32 × St)) (hk : ∀ (y2 : Int32) (z : St), k21 y2 z = some res → WW Γ 137 [none, none, some (.int y2), none] [] z) : ∀ (n22 : Nat) (x18 : Int32) (x19 : Int32) (σ20 : St), f_X6_countOf_91 a1 k21 n22 x18 x19 σ20 = some res → WW Γ 91 [some (.ref 87), some (.int a1), some (.int x18), some (.int x19)] [] σ20 := by
  intro n22
  induction n22 with
  | zero =>
    intro x18 x19 σ20 hf
    cases hf
  | succ n22 ih =>
    intro x18 x19 σ20 hf
    unfold f_X6_countOf_91 at hf
    refine s_iload_n G dX6_countOf_91 rfl ?_
    refine s_aload_n G dX6_countOf_92 rfl ?_
    refine s_getR G dX6_countOf_93 lkF_X6_7 (by decide) rfl rfl ?_
    refine s_iconst G dX6_countOf_96 (v := 1) (by decide) ?_
    refine s_iald G dX6_countOf_97 (by decide) rfl (by decide) ?_
    refine s_icmp_ge (tgt := 137) G dX6_countOf_98 (by decide) (fun c23 => ?_) (fun c23 => ?_)
    · replace hf := ifp c23 hf
      refine s_fgt [false, false, true, false] rfl ?_
      exact hk x18 σ20 hf
    · replace hf := ifn c23 hf
      refine s_iload_n G dX6_countOf_101 rfl ?_
      refine s_iload_n G dX6_countOf_102 rfl ?_
      refine s_iconst G dX6_countOf_103 (v := 2) (by decide) ?_
      refine s_icmp_ne (tgt := 116) G dX6_countOf_104 (by decide) (fun c24 => ?_) (fun c24 => ?_)
      · replace hf := ifn c24 hf
        refine s_aload_n G dX6_countOf_116 rfl ?_
        refine s_iload_n G dX6_countOf_117 rfl ?_
        obtain ⟨q25, hq25, hf⟩ := bnd hf
        refine s_callV G dX6_countOf_118 (c_X6_isBridge hq25) lkM_X6_183 yk_X6_isBridge yv_X6_isBridge (by decide) rfl rfl _ [.int x18] rfl rfl rfl (Nat.le_of_ble_eq_true rfl) (by decide) ?_
        refine s_if_eq (tgt := 128) G dX6_countOf_121 (by decide) (fun c26 => ?_) (fun c26 => ?_)
        · replace hf := ifp c26 hf
          refine s_iconst G dX6_countOf_128 (v := 0) (by decide) ?_
          refine s_iadd G dX6_countOf_129 ?_
          refine s_topi (fun x27 ex27 => ?_)
          replace hf := nm_at ex27 hf
          refine s_istore_n G dX6_countOf_130 rfl (by decide) rfl rfl ?_
          refine s_iinc G dX6_countOf_131 rfl (v := (x19 + 1)) rfl (by decide) rfl rfl ?_
          refine s_goto (tgt := 91) G dX6_countOf_134 (by decide) ?_
          exact ih x27 (x19 + 1) q25.2 hf
        · replace hf := ifn c26 hf
          refine s_iconst G dX6_countOf_124 (v := 1) (by decide) ?_
          refine s_goto (tgt := 129) G dX6_countOf_125 (by decide) ?_
          refine s_iadd G dX6_countOf_129 ?_
          refine s_topi (fun x28 ex28 => ?_)
          replace hf := nm_at ex28 hf
          refine s_istore_n G dX6_countOf_130 rfl (by decide) rfl rfl ?_
          refine s_iinc G dX6_countOf_131 rfl (v := (x19 + 1)) rfl (by decide) rfl rfl ?_
          refine s_goto (tgt := 91) G dX6_countOf_134 (by decide) ?_
          exact ih x28 (x19 + 1) q25.2 hf
      · replace hf := ifp c24 hf
        refine s_aload_n G dX6_countOf_107 rfl ?_
        refine s_iload_n G dX6_countOf_108 rfl ?_
        refine s_iconst G dX6_countOf_109 (v := 4) (by decide) ?_
        obtain ⟨q29, hq29, hf⟩ := bnd hf
        refine s_callV G dX6_countOf_110 (c_X6_lineAt hq29) lkM_X6_69 yk_X6_lineAt yv_X6_lineAt (by decide) rfl rfl _ [.int x18] rfl rfl rfl (Nat.le_of_ble_eq_true rfl) (by decide) ?_
        refine s_goto (tgt := 129) G dX6_countOf_113 (by decide) ?_
        refine s_iadd G dX6_countOf_129 ?_
        refine s_topi (fun x30 ex30 => ?_)
        replace hf := nm_at ex30 hf
        refine s_istore_n G dX6_countOf_130 rfl (by decide) rfl rfl ?_
        refine s_iinc G dX6_countOf_131 rfl (v := (x19 + 1)) rfl (by decide) rfl rfl ?_
        refine s_goto (tgt := 91) G dX6_countOf_134 (by decide) ?_
        exact ih x30 (x19 + 1) q29.2 hf
set_option maxRecDepth 100000 in
set_option maxHeartbeats 4000000 in
theorem c_X6_countOf {a1 : Int32} {σ : St} {res : Int32 × St} (hf : f_X6_countOf a1 σ = some res) : Mt mX6_countOf [.ref 87, .int a1] σ (some (.int res.1)) res.2 := by
  unfold f_X6_countOf at hf
  refine mt_of (by decide) (Nat.le_of_ble_eq_true rfl) [some (.ref 87), some (.int a1), none, none] rfl (fun Γ G hR => ?_)
  have G : OK Γ RX6 cX6_countOf 4 (some .int) 7 174 := G
  refine s_iconst G dX6_countOf_0 (v := 0) (by decide) ?_
  refine s_istore_n G dX6_countOf_1 rfl (by decide) rfl rfl ?_
  refine s_iload_n G dX6_countOf_2 rfl ?_
  by_cases c1 : a1 = 0
  · replace hf := ifp c1 hf
    refine s_tabIn (tgt := 36) G dX6_countOf_3 (by rw [c1]; decide) (by rw [c1]; decide) (by rw [c1]; rfl) (by decide) ?_
    refine s_aload_n G dX6_countOf_36 rfl ?_
    refine s_aload_n G dX6_countOf_37 rfl ?_
    obtain ⟨q2, hq2, hf⟩ := bnd hf
    refine s_callV G dX6_countOf_38 (c_X6_inSet hq2) lkM_X6_179 yk_X6_inSet yv_X6_inSet (by decide) rfl rfl _ [.ref 87] rfl rfl rfl (Nat.le_of_ble_eq_true rfl) (by decide) ?_
    obtain ⟨q3, hq3, hf⟩ := bnd hf
    refine s_callV G dX6_countOf_41 (c_X6_parts hq3) lkM_X6_104 yk_X6_parts yv_X6_parts (by decide) rfl rfl _ [] rfl rfl rfl (Nat.le_of_ble_eq_true rfl) (by decide) ?_
    refine s_iconst G dX6_countOf_44 (v := 0) (by decide) ?_
    refine s_istore_n G dX6_countOf_45 rfl (by decide) rfl rfl ?_
    refine s_fgt [true, false, true, true] rfl ?_
    refine l_X6_countOf_46 G hR _ (fun x14 σ15 hf => ?_) 1000 (0 : Int32) (0 : Int32) q3 hf
    refine s_iload_n G dX6_countOf_80 rfl ?_
    replace hf := Option.some.inj hf
    subst hf
    exact s_iret G hR dX6_countOf_81 rfl rfl
  replace hf := ifn c1 hf
  by_cases c16 : a1 = 1
  · replace hf := ifp c16 hf
    refine s_tabIn (tgt := 82) G dX6_countOf_3 (by rw [c16]; decide) (by rw [c16]; decide) (by rw [c16]; rfl) (by decide) ?_
    refine s_aload_n G dX6_countOf_82 rfl ?_
    refine s_getR G dX6_countOf_83 lkF_X6_7 (by decide) rfl rfl ?_
    refine s_iconst G dX6_countOf_86 (v := 1) (by decide) ?_
    refine s_iald G dX6_countOf_87 (by decide) rfl (by decide) ?_
    replace hf := Option.some.inj hf
    subst hf
    exact s_iret G hR dX6_countOf_88 rfl rfl
  replace hf := ifn c16 hf
  by_cases c17 : a1 = 2
  · replace hf := ifp c17 hf
    refine s_tabIn (tgt := 89) G dX6_countOf_3 (by rw [c17]; decide) (by rw [c17]; decide) (by rw [c17]; rfl) (by decide) ?_
    refine s_iconst G dX6_countOf_89 (v := 0) (by decide) ?_
    refine s_istore_n G dX6_countOf_90 rfl (by decide) rfl rfl ?_
    refine l_X6_countOf_91 G hR a1 _ (fun x31 σ32 hf => ?_) 1000 (0 : Int32) (0 : Int32) σ hf
    refine s_iload_n G dX6_countOf_137 rfl ?_
    replace hf := Option.some.inj hf
    subst hf
    exact s_iret G hR dX6_countOf_138 rfl rfl
  replace hf := ifn c17 hf
  by_cases c33 : a1 = 3
  · replace hf := ifp c33 hf
    refine s_tabIn (tgt := 89) G dX6_countOf_3 (by rw [c33]; decide) (by rw [c33]; decide) (by rw [c33]; rfl) (by decide) ?_
    refine s_iconst G dX6_countOf_89 (v := 0) (by decide) ?_
    refine s_istore_n G dX6_countOf_90 rfl (by decide) rfl rfl ?_
    refine l_X6_countOf_91 G hR a1 _ (fun x47 σ48 hf => ?_) 1000 (0 : Int32) (0 : Int32) σ hf
    refine s_iload_n G dX6_countOf_137 rfl ?_
    replace hf := Option.some.inj hf
    subst hf
    exact s_iret G hR dX6_countOf_138 rfl rfl
  replace hf := ifn c33 hf
  by_cases c49 : a1 = 4
  · replace hf := ifp c49 hf
    refine s_tabIn (tgt := 139) G dX6_countOf_3 (by rw [c49]; decide) (by rw [c49]; decide) (by rw [c49]; rfl) (by decide) ?_
    refine s_aload_n G dX6_countOf_139 rfl ?_
    refine s_aload_n G dX6_countOf_140 rfl ?_
    obtain ⟨q50, hq50, hf⟩ := bnd hf
    refine s_callV G dX6_countOf_141 (c_X6_inSet hq50) lkM_X6_179 yk_X6_inSet yv_X6_inSet (by decide) rfl rfl _ [.ref 87] rfl rfl rfl (Nat.le_of_ble_eq_true rfl) (by decide) ?_
    obtain ⟨q51, hq51, hf⟩ := bnd hf
    refine s_callV G dX6_countOf_144 (c_X6_judges hq51) lkM_X6_215 yk_X6_judges yv_X6_judges (by decide) rfl rfl _ [] rfl rfl rfl (Nat.le_of_ble_eq_true rfl) (by decide) ?_
    refine s_aload_n G dX6_countOf_147 rfl ?_
    refine s_getI (n := 0) G dX6_countOf_148 lkF_X6_210 (by decide) rfl rfl ?_
    replace hf := Option.some.inj hf
    subst hf
    exact s_iret G hR dX6_countOf_151 rfl rfl
  replace hf := ifn c49 hf
  refine s_tabOut (tgt := 152) G dX6_countOf_3 (tab_out 4 (by decide) (by intro k hk; match k, hk with | 0, _ => exact c1 | 1, _ => exact c16 | 2, _ => exact c17 | 3, _ => exact c33 | 4, _ => exact c49)) (by decide) ?_
  refine s_aload_n G dX6_countOf_152 rfl ?_
  refine s_iload_n G dX6_countOf_153 rfl ?_
  refine s_bipush G dX6_countOf_154 (v := 6) (by decide) ?_
  refine s_icmp_ne (tgt := 163) G dX6_countOf_156 (by decide) (fun c52 => ?_) (fun c52 => ?_)
  · replace hf := ifn c52 hf
    refine s_iconst G dX6_countOf_163 (v := 0) (by decide) ?_
    obtain ⟨q53, hq53, hf⟩ := bnd hf
    refine s_callV G dX6_countOf_164 (c_X6_ranksAll hq53) lkM_X6_226 yk_X6_ranksAll yv_X6_ranksAll (by decide) rfl rfl _ [] rfl rfl rfl (Nat.le_of_ble_eq_true rfl) (by decide) ?_
    refine s_aload_n G dX6_countOf_167 rfl ?_
    refine s_getI (n := 0) G dX6_countOf_168 lkF_X6_221 (by decide) rfl rfl ?_
    replace hf := Option.some.inj hf
    subst hf
    exact s_iret G hR dX6_countOf_171 rfl rfl
  · replace hf := ifp c52 hf
    refine s_iconst G dX6_countOf_159 (v := 1) (by decide) ?_
    refine s_goto (tgt := 164) G dX6_countOf_160 (by decide) ?_
    obtain ⟨q54, hq54, hf⟩ := bnd hf
    refine s_callV G dX6_countOf_164 (c_X6_ranksAll hq54) lkM_X6_226 yk_X6_ranksAll yv_X6_ranksAll (by decide) rfl rfl _ [] rfl rfl rfl (Nat.le_of_ble_eq_true rfl) (by decide) ?_
    refine s_aload_n G dX6_countOf_167 rfl ?_
    refine s_getI (n := 0) G dX6_countOf_168 lkF_X6_221 (by decide) rfl rfl ?_
    replace hf := Option.some.inj hf
    subst hf
    exact s_iret G hR dX6_countOf_171 rfl rfl
def f_X6_count (a1 : Int32) (σ : St) : Option (Int32 × St) :=
(f_X6_in a1.toInt64 (0 : Int64) (6 : Int64) σ).bind (fun q1 =>
  if q1.1 = 0 then
    ((f_X6_refuses (-2 : Int32) q1.2).bind (fun q3 =>
    some (q3.1, q3.2)))
  else
    ((f_X6_countOf a1 q1.2).bind (fun q4 =>
    some (q4.1, q4.2))))
abbrev mX6_count : Me := (yX6_count, cX6_count, 2, (some .int), 8, 197)
set_option maxRecDepth 100000 in
set_option maxHeartbeats 4000000 in
theorem c_X6_count {a1 : Int32} {σ : St} {res : Int32 × St} (hf : f_X6_count a1 σ = some res) : Mt mX6_count [.ref 87, .int a1] σ (some (.int res.1)) res.2 := by
  unfold f_X6_count at hf
  refine mt_of (by decide) (Nat.le_of_ble_eq_true rfl) [some (.ref 87), some (.int a1)] rfl (fun Γ G hR => ?_)
  have G : OK Γ RX6 cX6_count 2 (some .int) 8 197 := G
  refine s_iload_n G dX6_count_0 rfl ?_
  refine s_i2l G dX6_count_1 ?_
  refine s_lconst G dX6_count_2 (v := 0) (by decide) ?_
  refine s_ldc2 G dX6_count_3 kc_X6_125 ?_
  obtain ⟨q1, hq1, hf⟩ := bnd hf
  refine s_callS G dX6_count_6 (c_X6_in hq1) lkM_X6_65 yk_X6_in ys_X6_in _ [] rfl rfl rfl (Nat.le_of_ble_eq_true rfl) (by decide) ?_
  refine s_if_eq (tgt := 20) G dX6_count_9 (by decide) (fun c2 => ?_) (fun c2 => ?_)
  · replace hf := ifp c2 hf
    refine s_aload_n G dX6_count_20 rfl ?_
    refine s_bipush G dX6_count_21 (v := -2) (by decide) ?_
    obtain ⟨q3, hq3, hf⟩ := bnd hf
    refine s_callV G dX6_count_23 (c_X6_refuses hq3) lkM_X6_130 yk_X6_refuses yv_X6_refuses (by decide) rfl rfl _ [] rfl rfl rfl (Nat.le_of_ble_eq_true rfl) (by decide) ?_
    replace hf := Option.some.inj hf
    subst hf
    exact s_iret G hR dX6_count_26 rfl rfl
  · replace hf := ifn c2 hf
    refine s_aload_n G dX6_count_12 rfl ?_
    refine s_iload_n G dX6_count_13 rfl ?_
    obtain ⟨q4, hq4, hf⟩ := bnd hf
    refine s_callV G dX6_count_14 (c_X6_countOf hq4) lkM_X6_235 yk_X6_countOf yv_X6_countOf (by decide) rfl rfl _ [] rfl rfl rfl (Nat.le_of_ble_eq_true rfl) (by decide) ?_
    refine s_goto (tgt := 26) G dX6_count_17 (by decide) ?_
    replace hf := Option.some.inj hf
    subst hf
    exact s_iret G hR dX6_count_26 rfl rfl
def f_X6_type (a1 : Int32) (σ : St) : Option (Int32 × St) :=
(f_X6_in a1.toInt64 (0 : Int64) (127 : Int64) σ).bind (fun q1 =>
  if q1.1 = 0 then
    ((f_X6_refuses (-2 : Int32) q1.2).bind (fun q8 =>
    some (q8.1, q8.2)))
  else
    (if (q1.2.1 87 6) = (120 : Int32) then
      ((f_X6_refuses (-4 : Int32) q1.2).bind (fun q7 =>
      some (q7.1, q7.2)))
    else
      (chk (ib (q1.2.1 87 6) 120) (
      nm (sI q1.2 92 (q1.2.1 87 6).toNatClampNeg a1) (fun σ5 : St =>
      nm (sI σ5 87 6 ((σ5.1 87 6) + (1 : Int32))) (fun σ6 : St =>
      some ((σ6.1 87 6), σ6)))))))
abbrev mX6_type : Me := (yX6_type, cX6_type, 2, (some .int), 1, 25)
set_option maxRecDepth 100000 in
set_option maxHeartbeats 4000000 in
theorem c_X6_type {a1 : Int32} {σ : St} {res : Int32 × St} (hf : f_X6_type a1 σ = some res) : Mt mX6_type [.ref 87, .int a1] σ (some (.int res.1)) res.2 := by
  unfold f_X6_type at hf
  refine mt_of (by decide) (Nat.le_of_ble_eq_true rfl) [some (.ref 87), some (.int a1)] rfl (fun Γ G hR => ?_)
  have G : OK Γ RX6 cX6_type 2 (some .int) 1 25 := G
  refine s_iload_n G dX6_type_0 rfl ?_
  refine s_i2l G dX6_type_1 ?_
  refine s_lconst G dX6_type_2 (v := 0) (by decide) ?_
  refine s_ldc2 G dX6_type_3 kc_X6_238 ?_
  obtain ⟨q1, hq1, hf⟩ := bnd hf
  refine s_callS G dX6_type_6 (c_X6_in hq1) lkM_X6_65 yk_X6_in ys_X6_in _ [] rfl rfl rfl (Nat.le_of_ble_eq_true rfl) (by decide) ?_
  refine s_if_ne (tgt := 19) G dX6_type_9 (by decide) (fun c2 => ?_) (fun c2 => ?_)
  · replace hf := ifn c2 hf
    refine s_aload_n G dX6_type_19 rfl ?_
    refine s_getI (n := 0) G dX6_type_20 lkF_X6_240 (by decide) rfl rfl ?_
    refine s_bipush G dX6_type_23 (v := 120) (by decide) ?_
    refine s_icmp_ne (tgt := 35) G dX6_type_25 (by decide) (fun c3 => ?_) (fun c3 => ?_)
    · replace hf := ifn c3 hf
      refine s_aload_n G dX6_type_35 rfl ?_
      refine s_getR G dX6_type_36 lkF_X6_22 (by decide) rfl rfl ?_
      refine s_aload_n G dX6_type_39 rfl ?_
      refine s_getI (n := 0) G dX6_type_40 lkF_X6_240 (by decide) rfl rfl ?_
      refine s_iload_n G dX6_type_43 rfl ?_
      have h4 := chk_1 hf
      replace hf := chk_2 hf
      refine s_iast G dX6_type_44 (by decide) rfl h4 ?_
      refine s_st (fun σ5 eσ5 => ?_)
      replace hf := nm_at eσ5 hf
      refine s_aload_n G dX6_type_45 rfl ?_
      refine s_dup G dX6_type_46 rfl ?_
      refine s_getI (n := 0) G dX6_type_47 lkF_X6_240 (by decide) rfl rfl ?_
      refine s_iconst G dX6_type_50 (v := 1) (by decide) ?_
      refine s_iadd G dX6_type_51 ?_
      refine s_putI G dX6_type_52 lkP_X6_240 (by decide) rfl rfl ?_
      refine s_st (fun σ6 eσ6 => ?_)
      replace hf := nm_at eσ6 hf
      refine s_aload_n G dX6_type_55 rfl ?_
      refine s_getI (n := 0) G dX6_type_56 lkF_X6_240 (by decide) rfl rfl ?_
      replace hf := Option.some.inj hf
      subst hf
      exact s_iret G hR dX6_type_59 rfl rfl
    · replace hf := ifp c3 hf
      refine s_aload_n G dX6_type_28 rfl ?_
      refine s_bipush G dX6_type_29 (v := -4) (by decide) ?_
      obtain ⟨q7, hq7, hf⟩ := bnd hf
      refine s_callV G dX6_type_31 (c_X6_refuses hq7) lkM_X6_130 yk_X6_refuses yv_X6_refuses (by decide) rfl rfl _ [] rfl rfl rfl (Nat.le_of_ble_eq_true rfl) (by decide) ?_
      replace hf := Option.some.inj hf
      subst hf
      exact s_iret G hR dX6_type_34 rfl rfl
  · replace hf := ifp c2 hf
    refine s_aload_n G dX6_type_12 rfl ?_
    refine s_bipush G dX6_type_13 (v := -2) (by decide) ?_
    obtain ⟨q8, hq8, hf⟩ := bnd hf
    refine s_callV G dX6_type_15 (c_X6_refuses hq8) lkM_X6_130 yk_X6_refuses yv_X6_refuses (by decide) rfl rfl _ [] rfl rfl rfl (Nat.le_of_ble_eq_true rfl) (by decide) ?_
    replace hf := Option.some.inj hf
    subst hf
    exact s_iret G hR dX6_type_18 rfl rfl
def f_X6_clear (σ : St) : Option (Int32 × St) :=
nm (σ.1 87 6) (fun x1 : Int32 =>
  nm (sI σ 87 6 (0 : Int32)) (fun σ2 : St =>
  some (x1, σ2)))
abbrev mX6_clear : Me := (yX6_clear, cX6_clear, 2, (some .int), 0, 0)
set_option maxRecDepth 100000 in
set_option maxHeartbeats 4000000 in
theorem c_X6_clear  {σ : St} {res : Int32 × St} (hf : f_X6_clear σ = some res) : Mt mX6_clear [.ref 87] σ (some (.int res.1)) res.2 := by
  unfold f_X6_clear at hf
  refine mt_of (by decide) (Nat.le_of_ble_eq_true rfl) [some (.ref 87), none] rfl (fun Γ G hR => ?_)
  have G : OK Γ RX6 cX6_clear 2 (some .int) 0 0 := G
  refine s_aload_n G dX6_clear_0 rfl ?_
  refine s_getI (n := 0) G dX6_clear_1 lkF_X6_240 (by decide) rfl rfl ?_
  refine s_topi (fun x1 ex1 => ?_)
  replace hf := nm_at ex1 hf
  refine s_istore_n G dX6_clear_4 rfl (by decide) rfl rfl ?_
  refine s_aload_n G dX6_clear_5 rfl ?_
  refine s_iconst G dX6_clear_6 (v := 0) (by decide) ?_
  refine s_putI G dX6_clear_7 lkP_X6_240 (by decide) rfl rfl ?_
  refine s_st (fun σ2 eσ2 => ?_)
  replace hf := nm_at eσ2 hf
  refine s_iload_n G dX6_clear_10 rfl ?_
  replace hf := Option.some.inj hf
  subst hf
  exact s_iret G hR dX6_clear_11 rfl rfl
def f_X6_here_0 (k2 : St → Option (Int32 × St)) : Nat → St → Option (Int32 × St)
  | 0, _ => none
  | n3 + 1, σ1 =>
    if (σ1.1 87 6) ≤ (σ1.1 87 7) then
      (k2 σ1)
    else
      (chk (ib (σ1.1 87 7) 120) (
      if (σ1.1 92 (σ1.1 87 7).toNatClampNeg) = (32 : Int32) then
        (nm (sI σ1 87 7 ((σ1.1 87 7) + (1 : Int32))) (fun σ7 : St =>
        f_X6_here_0 k2 n3 σ7))
      else
        (k2 σ1)))
def f_X6_here (σ : St) : Option (Int32 × St) :=
f_X6_here_0 (fun (σ8 : St) =>
    if (σ8.1 87 6) ≤ (σ8.1 87 7) then
      (some ((-1 : Int32), σ8))
    else
      (chk (ib (σ8.1 87 7) 120) (
      some ((σ8.1 92 (σ8.1 87 7).toNatClampNeg), σ8)))) 1000 σ
abbrev mX6_here : Me := (yX6_here, cX6_here, 1, (some .int), 0, 0)
set_option maxRecDepth 100000 in
set_option maxHeartbeats 4000000 in
theorem l_X6_here_0 {Γ : Cxt} (G : OK Γ RX6 cX6_here 1 (some .int) 0 0) {res : Int32 × St} (hR : RetOK Γ (some (.int res.1)) res.2) (k2 : St → Option (Int32 × St)) (hk : ∀ (z : St), k2 z = some res → WW Γ 38 [some (.ref 87)] [] z) : ∀ (n3 : Nat) (σ1 : St), f_X6_here_0 k2 n3 σ1 = some res → WW Γ 0 [some (.ref 87)] [] σ1 := by
  intro n3
  induction n3 with
  | zero =>
    intro σ1 hf
    cases hf
  | succ n3 ih =>
    intro σ1 hf
    unfold f_X6_here_0 at hf
    refine s_aload_n G dX6_here_0 rfl ?_
    refine s_getI (n := 0) G dX6_here_1 lkF_X6_243 (by decide) rfl rfl ?_
    refine s_aload_n G dX6_here_4 rfl ?_
    refine s_getI (n := 0) G dX6_here_5 lkF_X6_240 (by decide) rfl rfl ?_
    refine s_icmp_ge (tgt := 38) G dX6_here_8 (by decide) (fun c4 => ?_) (fun c4 => ?_)
    · replace hf := ifp c4 hf
      exact hk σ1 hf
    · replace hf := ifn c4 hf
      refine s_aload_n G dX6_here_11 rfl ?_
      refine s_getR G dX6_here_12 lkF_X6_22 (by decide) rfl rfl ?_
      refine s_aload_n G dX6_here_15 rfl ?_
      refine s_getI (n := 0) G dX6_here_16 lkF_X6_243 (by decide) rfl rfl ?_
      have h5 := chk_1 hf
      replace hf := chk_2 hf
      refine s_iald G dX6_here_19 (by decide) rfl h5 ?_
      refine s_bipush G dX6_here_20 (v := 32) (by decide) ?_
      refine s_icmp_ne (tgt := 38) G dX6_here_22 (by decide) (fun c6 => ?_) (fun c6 => ?_)
      · replace hf := ifn c6 hf
        exact hk σ1 hf
      · replace hf := ifp c6 hf
        refine s_aload_n G dX6_here_25 rfl ?_
        refine s_dup G dX6_here_26 rfl ?_
        refine s_getI (n := 0) G dX6_here_27 lkF_X6_243 (by decide) rfl rfl ?_
        refine s_iconst G dX6_here_30 (v := 1) (by decide) ?_
        refine s_iadd G dX6_here_31 ?_
        refine s_putI G dX6_here_32 lkP_X6_243 (by decide) rfl rfl ?_
        refine s_st (fun σ7 eσ7 => ?_)
        replace hf := nm_at eσ7 hf
        refine s_goto (tgt := 0) G dX6_here_35 (by decide) ?_
        exact ih σ7 hf
set_option maxRecDepth 100000 in
set_option maxHeartbeats 4000000 in
theorem c_X6_here  {σ : St} {res : Int32 × St} (hf : f_X6_here σ = some res) : Mt mX6_here [.ref 87] σ (some (.int res.1)) res.2 := by
  unfold f_X6_here at hf
  refine mt_of (by decide) (Nat.le_of_ble_eq_true rfl) [some (.ref 87)] rfl (fun Γ G hR => ?_)
  have G : OK Γ RX6 cX6_here 1 (some .int) 0 0 := G
  refine l_X6_here_0 G hR _ (fun σ8 hf => ?_) 1000 σ hf
  refine s_aload_n G dX6_here_38 rfl ?_
  refine s_getI (n := 0) G dX6_here_39 lkF_X6_243 (by decide) rfl rfl ?_
  refine s_aload_n G dX6_here_42 rfl ?_
  refine s_getI (n := 0) G dX6_here_43 lkF_X6_240 (by decide) rfl rfl ?_
  refine s_icmp_ge (tgt := 61) G dX6_here_46 (by decide) (fun c9 => ?_) (fun c9 => ?_)
  · replace hf := ifp c9 hf
    refine s_iconst G dX6_here_61 (v := -1) (by decide) ?_
    replace hf := Option.some.inj hf
    subst hf
    exact s_iret G hR dX6_here_62 rfl rfl
  · replace hf := ifn c9 hf
    refine s_aload_n G dX6_here_49 rfl ?_
    refine s_getR G dX6_here_50 lkF_X6_22 (by decide) rfl rfl ?_
    refine s_aload_n G dX6_here_53 rfl ?_
    refine s_getI (n := 0) G dX6_here_54 lkF_X6_243 (by decide) rfl rfl ?_
    have h10 := chk_1 hf
    replace hf := chk_2 hf
    refine s_iald G dX6_here_57 (by decide) rfl h10 ?_
    refine s_goto (tgt := 62) G dX6_here_58 (by decide) ?_
    replace hf := Option.some.inj hf
    subst hf
    exact s_iret G hR dX6_here_62 rfl rfl
def f_X6_isLetter (a1 : Int32) (σ : St) : Option (Int32 × St) :=
if (σ.1 87 6) ≤ a1 then
    (some ((0 : Int32), σ))
  else
    (chk (ib a1 120) (
    (f_X6_in (σ.1 92 a1.toNatClampNeg).toInt64 (97 : Int64) (122 : Int64) σ).bind (fun q3 =>
    if q3.1 = 0 then
      (some ((0 : Int32), q3.2))
    else
      (some ((1 : Int32), q3.2)))))
abbrev mX6_isLetter : Me := (yX6_isLetter, cX6_isLetter, 2, (some .boolean), 1, 25)
set_option maxRecDepth 100000 in
set_option maxHeartbeats 4000000 in
theorem c_X6_isLetter {a1 : Int32} {σ : St} {res : Int32 × St} (hf : f_X6_isLetter a1 σ = some res) : Mt mX6_isLetter [.ref 87, .int a1] σ (some (.int res.1)) res.2 := by
  unfold f_X6_isLetter at hf
  refine mt_of (by decide) (Nat.le_of_ble_eq_true rfl) [some (.ref 87), some (.int a1)] rfl (fun Γ G hR => ?_)
  have G : OK Γ RX6 cX6_isLetter 2 (some .boolean) 1 25 := G
  refine s_iload_n G dX6_isLetter_0 rfl ?_
  refine s_aload_n G dX6_isLetter_1 rfl ?_
  refine s_getI (n := 0) G dX6_isLetter_2 lkF_X6_240 (by decide) rfl rfl ?_
  refine s_icmp_ge (tgt := 31) G dX6_isLetter_5 (by decide) (fun c1 => ?_) (fun c1 => ?_)
  · replace hf := ifp c1 hf
    refine s_iconst G dX6_isLetter_31 (v := 0) (by decide) ?_
    replace hf := Option.some.inj hf
    subst hf
    exact s_zret G hR dX6_isLetter_32 (by decide) rfl rfl
  · replace hf := ifn c1 hf
    refine s_aload_n G dX6_isLetter_8 rfl ?_
    refine s_getR G dX6_isLetter_9 lkF_X6_22 (by decide) rfl rfl ?_
    refine s_iload_n G dX6_isLetter_12 rfl ?_
    have h2 := chk_1 hf
    replace hf := chk_2 hf
    refine s_iald G dX6_isLetter_13 (by decide) rfl h2 ?_
    refine s_i2l G dX6_isLetter_14 ?_
    refine s_ldc2 G dX6_isLetter_15 kc_X6_246 ?_
    refine s_ldc2 G dX6_isLetter_18 kc_X6_248 ?_
    obtain ⟨q3, hq3, hf⟩ := bnd hf
    refine s_callS G dX6_isLetter_21 (c_X6_in hq3) lkM_X6_65 yk_X6_in ys_X6_in _ [] rfl rfl rfl (Nat.le_of_ble_eq_true rfl) (by decide) ?_
    refine s_if_eq (tgt := 31) G dX6_isLetter_24 (by decide) (fun c4 => ?_) (fun c4 => ?_)
    · replace hf := ifp c4 hf
      refine s_iconst G dX6_isLetter_31 (v := 0) (by decide) ?_
      replace hf := Option.some.inj hf
      subst hf
      exact s_zret G hR dX6_isLetter_32 (by decide) rfl rfl
    · replace hf := ifn c4 hf
      refine s_iconst G dX6_isLetter_27 (v := 1) (by decide) ?_
      refine s_goto (tgt := 32) G dX6_isLetter_28 (by decide) ?_
      replace hf := Option.some.inj hf
      subst hf
      exact s_zret G hR dX6_isLetter_32 (by decide) rfl rfl
def f_X6_isFigure (a1 : Int32) (σ : St) : Option (Int32 × St) :=
if (σ.1 87 6) ≤ a1 then
    (some ((0 : Int32), σ))
  else
    (chk (ib a1 120) (
    (f_X6_in (σ.1 92 a1.toNatClampNeg).toInt64 (48 : Int64) (57 : Int64) σ).bind (fun q3 =>
    if q3.1 = 0 then
      (some ((0 : Int32), q3.2))
    else
      (some ((1 : Int32), q3.2)))))
abbrev mX6_isFigure : Me := (yX6_isFigure, cX6_isFigure, 2, (some .boolean), 1, 25)
set_option maxRecDepth 100000 in
set_option maxHeartbeats 4000000 in
theorem c_X6_isFigure {a1 : Int32} {σ : St} {res : Int32 × St} (hf : f_X6_isFigure a1 σ = some res) : Mt mX6_isFigure [.ref 87, .int a1] σ (some (.int res.1)) res.2 := by
  unfold f_X6_isFigure at hf
  refine mt_of (by decide) (Nat.le_of_ble_eq_true rfl) [some (.ref 87), some (.int a1)] rfl (fun Γ G hR => ?_)
  have G : OK Γ RX6 cX6_isFigure 2 (some .boolean) 1 25 := G
  refine s_iload_n G dX6_isFigure_0 rfl ?_
  refine s_aload_n G dX6_isFigure_1 rfl ?_
  refine s_getI (n := 0) G dX6_isFigure_2 lkF_X6_240 (by decide) rfl rfl ?_
  refine s_icmp_ge (tgt := 31) G dX6_isFigure_5 (by decide) (fun c1 => ?_) (fun c1 => ?_)
  · replace hf := ifp c1 hf
    refine s_iconst G dX6_isFigure_31 (v := 0) (by decide) ?_
    replace hf := Option.some.inj hf
    subst hf
    exact s_zret G hR dX6_isFigure_32 (by decide) rfl rfl
  · replace hf := ifn c1 hf
    refine s_aload_n G dX6_isFigure_8 rfl ?_
    refine s_getR G dX6_isFigure_9 lkF_X6_22 (by decide) rfl rfl ?_
    refine s_iload_n G dX6_isFigure_12 rfl ?_
    have h2 := chk_1 hf
    replace hf := chk_2 hf
    refine s_iald G dX6_isFigure_13 (by decide) rfl h2 ?_
    refine s_i2l G dX6_isFigure_14 ?_
    refine s_ldc2 G dX6_isFigure_15 kc_X6_250 ?_
    refine s_ldc2 G dX6_isFigure_18 kc_X6_252 ?_
    obtain ⟨q3, hq3, hf⟩ := bnd hf
    refine s_callS G dX6_isFigure_21 (c_X6_in hq3) lkM_X6_65 yk_X6_in ys_X6_in _ [] rfl rfl rfl (Nat.le_of_ble_eq_true rfl) (by decide) ?_
    refine s_if_eq (tgt := 31) G dX6_isFigure_24 (by decide) (fun c4 => ?_) (fun c4 => ?_)
    · replace hf := ifp c4 hf
      refine s_iconst G dX6_isFigure_31 (v := 0) (by decide) ?_
      replace hf := Option.some.inj hf
      subst hf
      exact s_zret G hR dX6_isFigure_32 (by decide) rfl rfl
    · replace hf := ifn c4 hf
      refine s_iconst G dX6_isFigure_27 (v := 1) (by decide) ?_
      refine s_goto (tgt := 32) G dX6_isFigure_28 (by decide) ?_
      replace hf := Option.some.inj hf
      subst hf
      exact s_zret G hR dX6_isFigure_32 (by decide) rfl rfl
def f_X6_word_10 (k5 : Int32 → St → Option (Int32 × St)) : Nat → Int32 → St → Option (Int32 × St)
  | 0, _, _ => none
  | n6 + 1, x3, σ4 =>
    (f_X6_isLetter x3 σ4).bind (fun q7 =>
    if q7.1 = 0 then
      (k5 x3 q7.2)
    else
      (f_X6_word_10 k5 n6 (x3 + 1) q7.2))
def f_X6_word_63 (x9 : Int32) (x11 : Int32) (x12 : Int32) (k22 : Int32 → St → Option (Int32 × St)) : Nat → Int32 → Int32 → St → Option (Int32 × St)
  | 0, _, _, _ => none
  | n23 + 1, x19, x20, σ21 =>
    if (8 : Int32) ≤ x20 then
      (k22 x19 σ21)
    else
      (if x19 = 0 then
        (k22 x19 σ21)
      else
        (chk (ib (((8 : Int32) * x12) + x20) 64) (
        jn (fun q27 : Int32 × St =>
          (if (σ21.1 104 (((8 : Int32) * x12) + x20).toNatClampNeg) = q27.1 then
            (f_X6_word_63 x9 x11 x12 k22 n23 (1 : Int32) (x20 + 1) q27.2)
          else
            (f_X6_word_63 x9 x11 x12 k22 n23 (0 : Int32) (x20 + 1) q27.2))) (fun j28 =>
          if x9 ≤ ((σ21.1 87 7) + x20) then
            (j28 ((0 : Int32), σ21))
          else
            (chk (ib ((σ21.1 87 7) + x20) 120) (
            j28 ((σ21.1 92 ((σ21.1 87 7) + x20).toNatClampNeg), σ21)))))))
def f_X6_word_28 (x9 : Int32) (k14 : Int32 → St → Option (Int32 × St)) : Nat → Int32 → Int32 → St → Option (Int32 × St)
  | 0, _, _, _ => none
  | n15 + 1, x11, x12, σ13 =>
    if (8 : Int32) ≤ x12 then
      (k14 x11 σ13)
    else
      (jn (fun q17 : Int32 × St =>
        (f_X6_word_63 x9 x11 x12 (fun (x32 : Int32) (σ33 : St) =>
          if x32 = 0 then
            (f_X6_word_28 x9 k14 n15 x11 (x12 + 1) σ33)
          else
            (f_X6_word_28 x9 k14 n15 x12 (x12 + 1) σ33)) 1000 q17.1 (0 : Int32) q17.2)) (fun j18 =>
        if x9 ≤ (σ13.1 87 7) then
          (j18 ((0 : Int32), σ13))
        else
          (if (9 : Int32) ≤ (x9 - (σ13.1 87 7)) then
            (j18 ((0 : Int32), σ13))
          else
            (j18 ((1 : Int32), σ13)))))
def f_X6_word (σ : St) : Option (Int32 × St) :=
(f_X6_here σ).bind (fun q1 =>
  nm (q1.2.1 87 7) (fun x2 : Int32 =>
  f_X6_word_10 (fun (x9 : Int32) (σ10 : St) =>
    f_X6_word_28 x9 (fun (x37 : Int32) (σ38 : St) =>
      if x37 = (-1 : Int32) then
        (nm (sI σ38 87 7 (σ38.1 87 7)) (fun σ41 : St =>
        some (x37, σ41)))
      else
        (nm (sI σ38 87 7 x9) (fun σ40 : St =>
        some (x37, σ40)))) 1000 (-1 : Int32) (0 : Int32) σ10) 1000 x2 q1.2))
abbrev mX6_word : Me := (yX6_word, cX6_word, 6, (some .int), 2, 46)
set_option maxRecDepth 100000 in
set_option maxHeartbeats 4000000 in
theorem l_X6_word_10 {Γ : Cxt} (G : OK Γ RX6 cX6_word 6 (some .int) 2 46) {res : Int32 × St} (hR : RetOK Γ (some (.int res.1)) res.2) (k5 : Int32 → St → Option (Int32 × St)) (hk : ∀ (y1 : Int32) (z : St), k5 y1 z = some res → WW Γ 24 [some (.ref 87), some (.int y1), none, none, none, none] [] z) : ∀ (n6 : Nat) (x3 : Int32) (σ4 : St), f_X6_word_10 k5 n6 x3 σ4 = some res → WW Γ 10 [some (.ref 87), some (.int x3), none, none, none, none] [] σ4 := by
  intro n6
  induction n6 with
  | zero =>
    intro x3 σ4 hf
    cases hf
  | succ n6 ih =>
    intro x3 σ4 hf
    unfold f_X6_word_10 at hf
    refine s_aload_n G dX6_word_10 rfl ?_
    refine s_iload_n G dX6_word_11 rfl ?_
    obtain ⟨q7, hq7, hf⟩ := bnd hf
    refine s_callV G dX6_word_12 (c_X6_isLetter hq7) lkM_X6_257 yk_X6_isLetter yv_X6_isLetter (by decide) rfl rfl _ [] rfl rfl rfl (Nat.le_of_ble_eq_true rfl) (by decide) ?_
    refine s_if_eq (tgt := 24) G dX6_word_15 (by decide) (fun c8 => ?_) (fun c8 => ?_)
    · replace hf := ifp c8 hf
      exact hk x3 q7.2 hf
    · replace hf := ifn c8 hf
      refine s_iinc G dX6_word_18 rfl (v := (x3 + 1)) rfl (by decide) rfl rfl ?_
      refine s_goto (tgt := 10) G dX6_word_21 (by decide) ?_
      exact ih (x3 + 1) q7.2 hf
set_option maxRecDepth 100000 in
set_option maxHeartbeats 4000000 in
theorem l_X6_word_63 {Γ : Cxt} (G : OK Γ RX6 cX6_word 6 (some .int) 2 46) {res : Int32 × St} (hR : RetOK Γ (some (.int res.1)) res.2) (x9 : Int32) (x11 : Int32) (x12 : Int32) (k22 : Int32 → St → Option (Int32 × St)) (hk : ∀ (y4 : Int32) (z : St), k22 y4 z = some res → WW Γ 130 [some (.ref 87), some (.int x9), some (.int x11), some (.int x12), some (.int y4), none] [] z) : ∀ (n23 : Nat) (x19 : Int32) (x20 : Int32) (σ21 : St), f_X6_word_63 x9 x11 x12 k22 n23 x19 x20 σ21 = some res → WW Γ 63 [some (.ref 87), some (.int x9), some (.int x11), some (.int x12), some (.int x19), some (.int x20)] [] σ21 := by
  intro n23
  induction n23 with
  | zero =>
    intro x19 x20 σ21 hf
    cases hf
  | succ n23 ih =>
    intro x19 x20 σ21 hf
    unfold f_X6_word_63 at hf
    refine s_iload G dX6_word_63 rfl ?_
    refine s_bipush G dX6_word_65 (v := 8) (by decide) ?_
    refine s_icmp_ge (tgt := 130) G dX6_word_67 (by decide) (fun c24 => ?_) (fun c24 => ?_)
    · replace hf := ifp c24 hf
      refine s_fgt [true, true, true, true, true, false] rfl ?_
      exact hk x19 σ21 hf
    · replace hf := ifn c24 hf
      refine s_iload G dX6_word_70 rfl ?_
      refine s_if_eq (tgt := 130) G dX6_word_72 (by decide) (fun c25 => ?_) (fun c25 => ?_)
      · replace hf := ifp c25 hf
        refine s_fgt [true, true, true, true, true, false] rfl ?_
        exact hk x19 σ21 hf
      · replace hf := ifn c25 hf
        refine s_aload_n G dX6_word_75 rfl ?_
        refine s_getR G dX6_word_76 lkF_X6_59 (by decide) rfl rfl ?_
        refine s_bipush G dX6_word_79 (v := 8) (by decide) ?_
        refine s_iload_n G dX6_word_81 rfl ?_
        refine s_imul G dX6_word_82 ?_
        refine s_iload G dX6_word_83 rfl ?_
        refine s_iadd G dX6_word_85 ?_
        have h26 := chk_1 hf
        replace hf := chk_2 hf
        refine s_iald G dX6_word_86 (by decide) rfl h26 ?_
        refine s_aload_n G dX6_word_87 rfl ?_
        refine s_getI (n := 0) G dX6_word_88 lkF_X6_243 (by decide) rfl rfl ?_
        refine s_iload G dX6_word_91 rfl ?_
        refine s_iadd G dX6_word_93 ?_
        refine s_iload_n G dX6_word_94 rfl ?_
        refine jn_w (fun q27 : Int32 × St => WW Γ 114 [some (.ref 87), some (.int x9), some (.int x11), some (.int x12), none, some (.int x20)] [.int q27.1, .int (σ21.1 104 (((8 : Int32) * x12) + x20).toNatClampNeg)] q27.2) hf (fun q27 hf => ?_) (fun j28 hj28 hf => ?_)
        · refine s_icmp_ne (tgt := 121) G dX6_word_114 (by decide) (fun c29 => ?_) (fun c29 => ?_)
          · replace hf := ifn c29 hf
            refine s_iconst G dX6_word_121 (v := 0) (by decide) ?_
            refine s_istore G dX6_word_122 (by decide) rfl rfl ?_
            refine s_iinc G dX6_word_124 rfl (v := (x20 + 1)) rfl (by decide) rfl rfl ?_
            refine s_goto (tgt := 63) G dX6_word_127 (by decide) ?_
            exact ih (0 : Int32) (x20 + 1) q27.2 hf
          · replace hf := ifp c29 hf
            refine s_iconst G dX6_word_117 (v := 1) (by decide) ?_
            refine s_goto (tgt := 122) G dX6_word_118 (by decide) ?_
            refine s_istore G dX6_word_122 (by decide) rfl rfl ?_
            refine s_iinc G dX6_word_124 rfl (v := (x20 + 1)) rfl (by decide) rfl rfl ?_
            refine s_goto (tgt := 63) G dX6_word_127 (by decide) ?_
            exact ih (1 : Int32) (x20 + 1) q27.2 hf
        · refine s_icmp_ge (tgt := 113) G dX6_word_95 (by decide) (fun c30 => ?_) (fun c30 => ?_)
          · replace hf := ifp c30 hf
            refine s_iconst G dX6_word_113 (v := 0) (by decide) ?_
            refine s_fgt [true, true, true, true, false, true] rfl ?_
            exact hj28 _ hf
          · replace hf := ifn c30 hf
            refine s_aload_n G dX6_word_98 rfl ?_
            refine s_getR G dX6_word_99 lkF_X6_22 (by decide) rfl rfl ?_
            refine s_aload_n G dX6_word_102 rfl ?_
            refine s_getI (n := 0) G dX6_word_103 lkF_X6_243 (by decide) rfl rfl ?_
            refine s_iload G dX6_word_106 rfl ?_
            refine s_iadd G dX6_word_108 ?_
            have h31 := chk_1 hf
            replace hf := chk_2 hf
            refine s_iald G dX6_word_109 (by decide) rfl h31 ?_
            refine s_goto (tgt := 114) G dX6_word_110 (by decide) ?_
            refine s_fgt [true, true, true, true, false, true] rfl ?_
            exact hj28 _ hf
set_option maxRecDepth 100000 in
set_option maxHeartbeats 4000000 in
theorem l_X6_word_28 {Γ : Cxt} (G : OK Γ RX6 cX6_word 6 (some .int) 2 46) {res : Int32 × St} (hR : RetOK Γ (some (.int res.1)) res.2) (x9 : Int32) (k14 : Int32 → St → Option (Int32 × St)) (hk : ∀ (y2 : Int32) (z : St), k14 y2 z = some res → WW Γ 147 [some (.ref 87), some (.int x9), some (.int y2), none, none, none] [] z) : ∀ (n15 : Nat) (x11 : Int32) (x12 : Int32) (σ13 : St), f_X6_word_28 x9 k14 n15 x11 x12 σ13 = some res → WW Γ 28 [some (.ref 87), some (.int x9), some (.int x11), some (.int x12), none, none] [] σ13 := by
  intro n15
  induction n15 with
  | zero =>
    intro x11 x12 σ13 hf
    cases hf
  | succ n15 ih =>
    intro x11 x12 σ13 hf
    unfold f_X6_word_28 at hf
    refine s_iload_n G dX6_word_28 rfl ?_
    refine s_bipush G dX6_word_29 (v := 8) (by decide) ?_
    refine s_icmp_ge (tgt := 147) G dX6_word_31 (by decide) (fun c16 => ?_) (fun c16 => ?_)
    · replace hf := ifp c16 hf
      refine s_fgt [true, true, true, false, true, true] rfl ?_
      exact hk x11 σ13 hf
    · replace hf := ifn c16 hf
      refine s_iload_n G dX6_word_34 rfl ?_
      refine s_aload_n G dX6_word_35 rfl ?_
      refine s_getI (n := 0) G dX6_word_36 lkF_X6_243 (by decide) rfl rfl ?_
      refine jn_w (fun q17 : Int32 × St => WW Γ 58 [some (.ref 87), some (.int x9), some (.int x11), some (.int x12), none, none] [.int q17.1] q17.2) hf (fun q17 hf => ?_) (fun j18 hj18 hf => ?_)
      · refine s_istore G dX6_word_58 (by decide) rfl rfl ?_
        refine s_iconst G dX6_word_60 (v := 0) (by decide) ?_
        refine s_istore G dX6_word_61 (by decide) rfl rfl ?_
        refine l_X6_word_63 G hR x9 x11 x12 _ (fun x32 σ33 hf => ?_) 1000 q17.1 (0 : Int32) q17.2 hf
        refine s_iload G dX6_word_130 rfl ?_
        refine s_if_eq (tgt := 139) G dX6_word_132 (by decide) (fun c34 => ?_) (fun c34 => ?_)
        · replace hf := ifp c34 hf
          refine s_iload_n G dX6_word_139 rfl ?_
          refine s_istore_n G dX6_word_140 rfl (by decide) rfl rfl ?_
          refine s_iinc G dX6_word_141 rfl (v := (x12 + 1)) rfl (by decide) rfl rfl ?_
          refine s_goto (tgt := 28) G dX6_word_144 (by decide) ?_
          refine s_fgt [true, true, true, true, false, true] rfl ?_
          exact ih x11 (x12 + 1) σ33 hf
        · replace hf := ifn c34 hf
          refine s_iload_n G dX6_word_135 rfl ?_
          refine s_goto (tgt := 140) G dX6_word_136 (by decide) ?_
          refine s_istore_n G dX6_word_140 rfl (by decide) rfl rfl ?_
          refine s_iinc G dX6_word_141 rfl (v := (x12 + 1)) rfl (by decide) rfl rfl ?_
          refine s_goto (tgt := 28) G dX6_word_144 (by decide) ?_
          refine s_fgt [true, true, true, true, false, true] rfl ?_
          exact ih x12 (x12 + 1) σ33 hf
      · refine s_icmp_le (tgt := 57) G dX6_word_39 (by decide) (fun c35 => ?_) (fun c35 => ?_)
        · replace hf := ifp c35 hf
          refine s_iconst G dX6_word_57 (v := 0) (by decide) ?_
          exact hj18 _ hf
        · replace hf := ifn c35 hf
          refine s_iload_n G dX6_word_42 rfl ?_
          refine s_aload_n G dX6_word_43 rfl ?_
          refine s_getI (n := 0) G dX6_word_44 lkF_X6_243 (by decide) rfl rfl ?_
          refine s_isub G dX6_word_47 ?_
          refine s_bipush G dX6_word_48 (v := 9) (by decide) ?_
          refine s_icmp_ge (tgt := 57) G dX6_word_50 (by decide) (fun c36 => ?_) (fun c36 => ?_)
          · replace hf := ifp c36 hf
            refine s_iconst G dX6_word_57 (v := 0) (by decide) ?_
            exact hj18 _ hf
          · replace hf := ifn c36 hf
            refine s_iconst G dX6_word_53 (v := 1) (by decide) ?_
            refine s_goto (tgt := 58) G dX6_word_54 (by decide) ?_
            exact hj18 _ hf
set_option maxRecDepth 100000 in
set_option maxHeartbeats 4000000 in
theorem c_X6_word  {σ : St} {res : Int32 × St} (hf : f_X6_word σ = some res) : Mt mX6_word [.ref 87] σ (some (.int res.1)) res.2 := by
  unfold f_X6_word at hf
  refine mt_of (by decide) (Nat.le_of_ble_eq_true rfl) [some (.ref 87), none, none, none, none, none] rfl (fun Γ G hR => ?_)
  have G : OK Γ RX6 cX6_word 6 (some .int) 2 46 := G
  refine s_aload_n G dX6_word_0 rfl ?_
  obtain ⟨q1, hq1, hf⟩ := bnd hf
  refine s_callV G dX6_word_1 (c_X6_here hq1) lkM_X6_254 yk_X6_here yv_X6_here (by decide) rfl rfl _ [] rfl rfl rfl (Nat.le_of_ble_eq_true rfl) (by decide) ?_
  refine s_pop G dX6_word_4 rfl ?_
  refine s_aload_n G dX6_word_5 rfl ?_
  refine s_getI (n := 0) G dX6_word_6 lkF_X6_243 (by decide) rfl rfl ?_
  refine s_topi (fun x2 ex2 => ?_)
  replace hf := nm_at ex2 hf
  refine s_istore_n G dX6_word_9 rfl (by decide) rfl rfl ?_
  refine l_X6_word_10 G hR _ (fun x9 σ10 hf => ?_) 1000 x2 q1.2 hf
  refine s_iconst G dX6_word_24 (v := -1) (by decide) ?_
  refine s_istore_n G dX6_word_25 rfl (by decide) rfl rfl ?_
  refine s_iconst G dX6_word_26 (v := 0) (by decide) ?_
  refine s_istore_n G dX6_word_27 rfl (by decide) rfl rfl ?_
  refine l_X6_word_28 G hR x9 _ (fun x37 σ38 hf => ?_) 1000 (-1 : Int32) (0 : Int32) σ10 hf
  refine s_aload_n G dX6_word_147 rfl ?_
  refine s_iload_n G dX6_word_148 rfl ?_
  refine s_iconst G dX6_word_149 (v := -1) (by decide) ?_
  refine s_icmp_ne (tgt := 160) G dX6_word_150 (by decide) (fun c39 => ?_) (fun c39 => ?_)
  · replace hf := ifn c39 hf
    refine s_iload_n G dX6_word_160 rfl ?_
    refine s_putI G dX6_word_161 lkP_X6_243 (by decide) rfl rfl ?_
    refine s_st (fun σ40 eσ40 => ?_)
    replace hf := nm_at eσ40 hf
    refine s_iload_n G dX6_word_164 rfl ?_
    replace hf := Option.some.inj hf
    subst hf
    exact s_iret G hR dX6_word_165 rfl rfl
  · replace hf := ifp c39 hf
    refine s_aload_n G dX6_word_153 rfl ?_
    refine s_getI (n := 0) G dX6_word_154 lkF_X6_243 (by decide) rfl rfl ?_
    refine s_goto (tgt := 161) G dX6_word_157 (by decide) ?_
    refine s_putI G dX6_word_161 lkP_X6_243 (by decide) rfl rfl ?_
    refine s_st (fun σ41 eσ41 => ?_)
    replace hf := nm_at eσ41 hf
    refine s_iload_n G dX6_word_164 rfl ?_
    replace hf := Option.some.inj hf
    subst hf
    exact s_iret G hR dX6_word_165 rfl rfl
def f_X6_number_43 (a1 : Int32) (q2 : Int32 × St) (k10 : Int32 → Int32 → St → Option (Int32 × St)) : Nat → Int32 → Int32 → St → Option (Int32 × St)
  | 0, _, _, _ => none
  | n11 + 1, x7, x8, σ9 =>
    if (3 : Int32) ≤ x7 then
      (k10 x7 x8 σ9)
    else
      ((f_X6_isFigure (σ9.1 87 7) σ9).bind (fun q13 =>
      if q13.1 = 0 then
        (k10 x7 x8 q13.2)
      else
        (chk (ib (q13.2.1 87 7) 120) (
        nm ((((10 : Int32) * x8) + (q13.2.1 92 (q13.2.1 87 7).toNatClampNeg)) - (48 : Int32)) (fun x16 : Int32 =>
        nm (sI q13.2 87 7 ((q13.2.1 87 7) + (1 : Int32))) (fun σ17 : St =>
        f_X6_number_43 a1 q2 k10 n11 (x7 + 1) x16 σ17))))))
def f_X6_number (a1 : Int32) (a2 : Int32) (σ : St) : Option (Int32 × St) :=
(f_X6_here σ).bind (fun q1 =>
  jn (fun q2 : Int32 × St =>
    (jn (fun q4 : Int32 × St =>
      (nm (sI q4.2 87 7 ((q2.2.1 87 7) + q4.1)) (fun σ6 : St =>
      f_X6_number_43 a1 q2 (fun (x18 : Int32) (x19 : Int32) (σ20 : St) =>
        jn (fun q21 : Int32 × St =>
          (chk (ib a1 4) (
          nm (sI q21.2 105 a1.toNatClampNeg q21.1) (fun σ24 : St =>
          if x18 ≤ 0 then
            (some ((0 : Int32), σ24))
          else
            ((f_X6_isFigure (σ24.1 87 7) σ24).bind (fun q26 =>
            if q26.1 = 0 then
              (some ((1 : Int32), q26.2))
            else
              (some ((0 : Int32), q26.2)))))))) (fun j22 =>
          if q2.1 = 0 then
            (j22 (x19, σ20))
          else
            (j22 ((-x19), σ20)))) 1000 (0 : Int32) (0 : Int32) σ6))) (fun j5 =>
      if q2.1 = 0 then
        (j5 ((0 : Int32), q2.2))
      else
        (j5 ((1 : Int32), q2.2))))) (fun j3 =>
    if q1.1 = (45 : Int32) then
      (if a2 = 0 then
        (j3 ((0 : Int32), q1.2))
      else
        (j3 ((1 : Int32), q1.2)))
    else
      (j3 ((0 : Int32), q1.2))))
abbrev mX6_number : Me := (yX6_number, cX6_number, 6, (some .boolean), 2, 46)
set_option maxRecDepth 100000 in
set_option maxHeartbeats 4000000 in
theorem l_X6_number_43 {Γ : Cxt} (G : OK Γ RX6 cX6_number 6 (some .boolean) 2 46) {res : Int32 × St} (hR : RetOK Γ (some (.int res.1)) res.2) (a1 : Int32) (q2 : Int32 × St) (k10 : Int32 → Int32 → St → Option (Int32 × St)) (hk : ∀ (y4 : Int32) (y5 : Int32) (z : St), k10 y4 y5 z = some res → WW Γ 96 [some (.ref 87), some (.int a1), none, some (.int q2.1), some (.int y4), some (.int y5)] [] z) : ∀ (n11 : Nat) (x7 : Int32) (x8 : Int32) (σ9 : St), f_X6_number_43 a1 q2 k10 n11 x7 x8 σ9 = some res → WW Γ 43 [some (.ref 87), some (.int a1), none, some (.int q2.1), some (.int x7), some (.int x8)] [] σ9 := by
  intro n11
  induction n11 with
  | zero =>
    intro x7 x8 σ9 hf
    cases hf
  | succ n11 ih =>
    intro x7 x8 σ9 hf
    unfold f_X6_number_43 at hf
    refine s_iload G dX6_number_43 rfl ?_
    refine s_iconst G dX6_number_45 (v := 3) (by decide) ?_
    refine s_icmp_ge (tgt := 96) G dX6_number_46 (by decide) (fun c12 => ?_) (fun c12 => ?_)
    · replace hf := ifp c12 hf
      exact hk x7 x8 σ9 hf
    · replace hf := ifn c12 hf
      refine s_aload_n G dX6_number_49 rfl ?_
      refine s_aload_n G dX6_number_50 rfl ?_
      refine s_getI (n := 0) G dX6_number_51 lkF_X6_243 (by decide) rfl rfl ?_
      obtain ⟨q13, hq13, hf⟩ := bnd hf
      refine s_callV G dX6_number_54 (c_X6_isFigure hq13) lkM_X6_260 yk_X6_isFigure yv_X6_isFigure (by decide) rfl rfl _ [] rfl rfl rfl (Nat.le_of_ble_eq_true rfl) (by decide) ?_
      refine s_if_eq (tgt := 96) G dX6_number_57 (by decide) (fun c14 => ?_) (fun c14 => ?_)
      · replace hf := ifp c14 hf
        exact hk x7 x8 q13.2 hf
      · replace hf := ifn c14 hf
        refine s_bipush G dX6_number_60 (v := 10) (by decide) ?_
        refine s_iload G dX6_number_62 rfl ?_
        refine s_imul G dX6_number_64 ?_
        refine s_aload_n G dX6_number_65 rfl ?_
        refine s_getR G dX6_number_66 lkF_X6_22 (by decide) rfl rfl ?_
        refine s_aload_n G dX6_number_69 rfl ?_
        refine s_getI (n := 0) G dX6_number_70 lkF_X6_243 (by decide) rfl rfl ?_
        have h15 := chk_1 hf
        replace hf := chk_2 hf
        refine s_iald G dX6_number_73 (by decide) rfl h15 ?_
        refine s_iadd G dX6_number_74 ?_
        refine s_bipush G dX6_number_75 (v := 48) (by decide) ?_
        refine s_isub G dX6_number_77 ?_
        refine s_topi (fun x16 ex16 => ?_)
        replace hf := nm_at ex16 hf
        refine s_istore G dX6_number_78 (by decide) rfl rfl ?_
        refine s_aload_n G dX6_number_80 rfl ?_
        refine s_dup G dX6_number_81 rfl ?_
        refine s_getI (n := 0) G dX6_number_82 lkF_X6_243 (by decide) rfl rfl ?_
        refine s_iconst G dX6_number_85 (v := 1) (by decide) ?_
        refine s_iadd G dX6_number_86 ?_
        refine s_putI G dX6_number_87 lkP_X6_243 (by decide) rfl rfl ?_
        refine s_st (fun σ17 eσ17 => ?_)
        replace hf := nm_at eσ17 hf
        refine s_iinc G dX6_number_90 rfl (v := (x7 + 1)) rfl (by decide) rfl rfl ?_
        refine s_goto (tgt := 43) G dX6_number_93 (by decide) ?_
        exact ih (x7 + 1) x16 σ17 hf
set_option maxRecDepth 100000 in
set_option maxHeartbeats 4000000 in
theorem c_X6_number {a1 : Int32} {a2 : Int32} {σ : St} {res : Int32 × St} (hf : f_X6_number a1 a2 σ = some res) : Mt mX6_number [.ref 87, .int a1, .int a2] σ (some (.int res.1)) res.2 := by
  unfold f_X6_number at hf
  refine mt_of (by decide) (Nat.le_of_ble_eq_true rfl) [some (.ref 87), some (.int a1), some (.int a2), none, none, none] rfl (fun Γ G hR => ?_)
  have G : OK Γ RX6 cX6_number 6 (some .boolean) 2 46 := G
  refine s_aload_n G dX6_number_0 rfl ?_
  obtain ⟨q1, hq1, hf⟩ := bnd hf
  refine s_callV G dX6_number_1 (c_X6_here hq1) lkM_X6_254 yk_X6_here yv_X6_here (by decide) rfl rfl _ [] rfl rfl rfl (Nat.le_of_ble_eq_true rfl) (by decide) ?_
  refine s_bipush G dX6_number_4 (v := 45) (by decide) ?_
  refine jn_w (fun q2 : Int32 × St => WW Γ 18 [some (.ref 87), some (.int a1), none, none, none, none] [.int q2.1] q2.2) hf (fun q2 hf => ?_) (fun j3 hj3 hf => ?_)
  · refine s_istore_n G dX6_number_18 rfl (by decide) rfl rfl ?_
    refine s_aload_n G dX6_number_19 rfl ?_
    refine s_dup G dX6_number_20 rfl ?_
    refine s_getI (n := 0) G dX6_number_21 lkF_X6_243 (by decide) rfl rfl ?_
    refine s_iload_n G dX6_number_24 rfl ?_
    refine jn_w (fun q4 : Int32 × St => WW Γ 33 [some (.ref 87), some (.int a1), none, some (.int q2.1), none, none] [.int q4.1, .int (q2.2.1 87 7), .ref 87] q4.2) hf (fun q4 hf => ?_) (fun j5 hj5 hf => ?_)
    · refine s_iadd G dX6_number_33 ?_
      refine s_putI G dX6_number_34 lkP_X6_243 (by decide) rfl rfl ?_
      refine s_st (fun σ6 eσ6 => ?_)
      replace hf := nm_at eσ6 hf
      refine s_iconst G dX6_number_37 (v := 0) (by decide) ?_
      refine s_istore G dX6_number_38 (by decide) rfl rfl ?_
      refine s_iconst G dX6_number_40 (v := 0) (by decide) ?_
      refine s_istore G dX6_number_41 (by decide) rfl rfl ?_
      refine l_X6_number_43 G hR a1 q2 _ (fun x18 x19 σ20 hf => ?_) 1000 (0 : Int32) (0 : Int32) σ6 hf
      refine s_aload_n G dX6_number_96 rfl ?_
      refine s_getR G dX6_number_97 lkF_X6_62 (by decide) rfl rfl ?_
      refine s_iload_n G dX6_number_100 rfl ?_
      refine s_iload_n G dX6_number_101 rfl ?_
      refine jn_w (fun q21 : Int32 × St => WW Γ 113 [some (.ref 87), none, none, none, some (.int x18), none] [.int q21.1, .int a1, .ref 105] q21.2) hf (fun q21 hf => ?_) (fun j22 hj22 hf => ?_)
      · have h23 := chk_1 hf
        replace hf := chk_2 hf
        refine s_iast G dX6_number_113 (by decide) rfl h23 ?_
        refine s_st (fun σ24 eσ24 => ?_)
        replace hf := nm_at eσ24 hf
        refine s_iload G dX6_number_114 rfl ?_
        refine s_if_le (tgt := 134) G dX6_number_116 (by decide) (fun c25 => ?_) (fun c25 => ?_)
        · replace hf := ifp c25 hf
          refine s_iconst G dX6_number_134 (v := 0) (by decide) ?_
          replace hf := Option.some.inj hf
          subst hf
          exact s_zret G hR dX6_number_135 (by decide) rfl rfl
        · replace hf := ifn c25 hf
          refine s_aload_n G dX6_number_119 rfl ?_
          refine s_aload_n G dX6_number_120 rfl ?_
          refine s_getI (n := 0) G dX6_number_121 lkF_X6_243 (by decide) rfl rfl ?_
          obtain ⟨q26, hq26, hf⟩ := bnd hf
          refine s_callV G dX6_number_124 (c_X6_isFigure hq26) lkM_X6_260 yk_X6_isFigure yv_X6_isFigure (by decide) rfl rfl _ [] rfl rfl rfl (Nat.le_of_ble_eq_true rfl) (by decide) ?_
          refine s_if_ne (tgt := 134) G dX6_number_127 (by decide) (fun c27 => ?_) (fun c27 => ?_)
          · replace hf := ifn c27 hf
            refine s_iconst G dX6_number_134 (v := 0) (by decide) ?_
            replace hf := Option.some.inj hf
            subst hf
            exact s_zret G hR dX6_number_135 (by decide) rfl rfl
          · replace hf := ifp c27 hf
            refine s_iconst G dX6_number_130 (v := 1) (by decide) ?_
            refine s_goto (tgt := 135) G dX6_number_131 (by decide) ?_
            replace hf := Option.some.inj hf
            subst hf
            exact s_zret G hR dX6_number_135 (by decide) rfl rfl
      · refine s_if_eq (tgt := 111) G dX6_number_102 (by decide) (fun c28 => ?_) (fun c28 => ?_)
        · replace hf := ifp c28 hf
          refine s_iload G dX6_number_111 rfl ?_
          refine s_fgt [true, false, true, false, true, false] rfl ?_
          exact hj22 _ hf
        · replace hf := ifn c28 hf
          refine s_iload G dX6_number_105 rfl ?_
          refine s_ineg G dX6_number_107 ?_
          refine s_goto (tgt := 113) G dX6_number_108 (by decide) ?_
          refine s_fgt [true, false, true, false, true, false] rfl ?_
          exact hj22 _ hf
    · refine s_if_eq (tgt := 32) G dX6_number_25 (by decide) (fun c29 => ?_) (fun c29 => ?_)
      · replace hf := ifp c29 hf
        refine s_iconst G dX6_number_32 (v := 0) (by decide) ?_
        exact hj5 _ hf
      · replace hf := ifn c29 hf
        refine s_iconst G dX6_number_28 (v := 1) (by decide) ?_
        refine s_goto (tgt := 33) G dX6_number_29 (by decide) ?_
        exact hj5 _ hf
  · refine s_icmp_ne (tgt := 17) G dX6_number_6 (by decide) (fun c30 => ?_) (fun c30 => ?_)
    · replace hf := ifn c30 hf
      refine s_iconst G dX6_number_17 (v := 0) (by decide) ?_
      refine s_fgt [true, true, false, true, true, true] rfl ?_
      exact hj3 _ hf
    · replace hf := ifp c30 hf
      refine s_iload_n G dX6_number_9 rfl ?_
      refine s_if_eq (tgt := 17) G dX6_number_10 (by decide) (fun c31 => ?_) (fun c31 => ?_)
      · replace hf := ifp c31 hf
        refine s_iconst G dX6_number_17 (v := 0) (by decide) ?_
        refine s_fgt [true, true, false, true, true, true] rfl ?_
        exact hj3 _ hf
      · replace hf := ifn c31 hf
        refine s_iconst G dX6_number_13 (v := 1) (by decide) ?_
        refine s_goto (tgt := 18) G dX6_number_14 (by decide) ?_
        refine s_fgt [true, true, false, true, true, true] rfl ?_
        exact hj3 _ hf
def f_X6_manyOf (a1 : Int32) (σ : St) : Option (Int32 × St) :=
if a1 = (1 : Int32) then
    (some ((4 : Int32), σ))
  else
    (if a1 = 0 then
      (some ((2 : Int32), σ))
    else
      (if a1 = (4 : Int32) then
        (some ((2 : Int32), σ))
      else
        (if a1 = (5 : Int32) then
          (some ((2 : Int32), σ))
        else
          (some ((1 : Int32), σ)))))
abbrev mX6_manyOf : Me := (yX6_manyOf, cX6_manyOf, 1, (some .int), 0, 0)
set_option maxRecDepth 100000 in
set_option maxHeartbeats 4000000 in
theorem c_X6_manyOf {a1 : Int32} {σ : St} {res : Int32 × St} (hf : f_X6_manyOf a1 σ = some res) : Mt mX6_manyOf [.int a1] σ (some (.int res.1)) res.2 := by
  unfold f_X6_manyOf at hf
  refine mt_of (by decide) (Nat.le_of_ble_eq_true rfl) [some (.int a1)] rfl (fun Γ G hR => ?_)
  have G : OK Γ RX6 cX6_manyOf 1 (some .int) 0 0 := G
  refine s_iload_n G dX6_manyOf_0 rfl ?_
  refine s_iconst G dX6_manyOf_1 (v := 1) (by decide) ?_
  refine s_icmp_ne (tgt := 9) G dX6_manyOf_2 (by decide) (fun c1 => ?_) (fun c1 => ?_)
  · replace hf := ifn c1 hf
    refine s_iload_n G dX6_manyOf_9 rfl ?_
    refine s_if_eq (tgt := 23) G dX6_manyOf_10 (by decide) (fun c2 => ?_) (fun c2 => ?_)
    · replace hf := ifp c2 hf
      refine s_iconst G dX6_manyOf_23 (v := 2) (by decide) ?_
      refine s_goto (tgt := 28) G dX6_manyOf_24 (by decide) ?_
      replace hf := Option.some.inj hf
      subst hf
      exact s_iret G hR dX6_manyOf_28 rfl rfl
    · replace hf := ifn c2 hf
      refine s_iload_n G dX6_manyOf_13 rfl ?_
      refine s_iconst G dX6_manyOf_14 (v := 4) (by decide) ?_
      refine s_icmp_eq (tgt := 23) G dX6_manyOf_15 (by decide) (fun c3 => ?_) (fun c3 => ?_)
      · replace hf := ifp c3 hf
        refine s_iconst G dX6_manyOf_23 (v := 2) (by decide) ?_
        refine s_goto (tgt := 28) G dX6_manyOf_24 (by decide) ?_
        replace hf := Option.some.inj hf
        subst hf
        exact s_iret G hR dX6_manyOf_28 rfl rfl
      · replace hf := ifn c3 hf
        refine s_iload_n G dX6_manyOf_18 rfl ?_
        refine s_iconst G dX6_manyOf_19 (v := 5) (by decide) ?_
        refine s_icmp_ne (tgt := 27) G dX6_manyOf_20 (by decide) (fun c4 => ?_) (fun c4 => ?_)
        · replace hf := ifn c4 hf
          refine s_iconst G dX6_manyOf_27 (v := 1) (by decide) ?_
          replace hf := Option.some.inj hf
          subst hf
          exact s_iret G hR dX6_manyOf_28 rfl rfl
        · replace hf := ifp c4 hf
          refine s_iconst G dX6_manyOf_23 (v := 2) (by decide) ?_
          refine s_goto (tgt := 28) G dX6_manyOf_24 (by decide) ?_
          replace hf := Option.some.inj hf
          subst hf
          exact s_iret G hR dX6_manyOf_28 rfl rfl
  · replace hf := ifp c1 hf
    refine s_iconst G dX6_manyOf_5 (v := 4) (by decide) ?_
    refine s_goto (tgt := 28) G dX6_manyOf_6 (by decide) ?_
    replace hf := Option.some.inj hf
    subst hf
    exact s_iret G hR dX6_manyOf_28 rfl rfl
def f_X6_isDone (a1 : Int32) (σ : St) : Option (Int32 × St) :=
nm (σ.1 105 (0 : Int32).toNatClampNeg) (fun x1 : Int32 =>
  nm (σ.1 105 (1 : Int32).toNatClampNeg) (fun x2 : Int32 =>
  if a1 = 0 then
    ((f_X6_mayFeed x1 x2 σ).bind (fun q4 =>
    if q4.1 = 0 then
      (chk (decide (q4.1 = 0 ∨ q4.1 = 1)) (
      some (q4.1, q4.2)))
    else
      (chk (ib ((2 : Int32) + x1) 58) (
      nm (sI q4.2 88 ((2 : Int32) + x1).toNatClampNeg x2) (fun σ8 : St =>
      chk (decide (q4.1 = 0 ∨ q4.1 = 1)) (
      some (q4.1, σ8)))))))
  else (if a1 = 1 then
    ((f_X6_isLineTold x1 x2 (σ.1 105 (2 : Int32).toNatClampNeg) (σ.1 105 (3 : Int32).toNatClampNeg) σ).bind (fun q11 =>
    jn (fun q12 : Int32 × St =>
      (if q12.1 = 0 then
        (some ((0 : Int32), q12.2))
      else
        ((f_X6_lineNow x1 x2 (q12.2.1 105 (2 : Int32).toNatClampNeg) (q12.2.1 105 (3 : Int32).toNatClampNeg) q12.2).bind (fun q15 =>
        if q15.1 < 0 then
          (some ((0 : Int32), q15.2))
        else
          (some ((1 : Int32), q15.2)))))) (fun j13 =>
      if q11.1 = 0 then
        (j13 ((0 : Int32), q11.2))
      else
        (if (10 : Int32) ≤ (q11.2.1 88 (1 : Int32).toNatClampNeg) then
          (j13 ((0 : Int32), q11.2))
        else
          (j13 ((1 : Int32), q11.2))))))
  else (if a1 = 2 then
    ((f_X6_isLine x1 σ).bind (fun q20 =>
    if q20.1 = 0 then
      (some ((0 : Int32), q20.2))
    else
      ((f_X6_becomes x1 (4 : Int32) (a1 - (2 : Int32)) q20.2).bind (fun q22 =>
      if q22.1 < 0 then
        (some ((0 : Int32), q22.2))
      else
        (some ((1 : Int32), q22.2))))))
  else (if a1 = 3 then
    ((f_X6_isLine x1 σ).bind (fun q25 =>
    if q25.1 = 0 then
      (some ((0 : Int32), q25.2))
    else
      ((f_X6_becomes x1 (4 : Int32) (a1 - (2 : Int32)) q25.2).bind (fun q27 =>
      if q27.1 < 0 then
        (some ((0 : Int32), q27.2))
      else
        (some ((1 : Int32), q27.2))))))
  else (if a1 = 4 then
    ((f_X6_maySet x1 ((5 : Int32) - a1) x2 σ).bind (fun q30 =>
    if q30.1 = 0 then
      (some ((0 : Int32), q30.2))
    else
      ((f_X6_becomes x1 ((7 : Int32) - a1) x2 q30.2).bind (fun q32 =>
      if q32.1 < 0 then
        (some ((0 : Int32), q32.2))
      else
        (some ((1 : Int32), q32.2))))))
  else (if a1 = 5 then
    ((f_X6_maySet x1 ((5 : Int32) - a1) x2 σ).bind (fun q35 =>
    if q35.1 = 0 then
      (some ((0 : Int32), q35.2))
    else
      ((f_X6_becomes x1 ((7 : Int32) - a1) x2 q35.2).bind (fun q37 =>
      if q37.1 < 0 then
        (some ((0 : Int32), q37.2))
      else
        (some ((1 : Int32), q37.2))))))
  else (if a1 = 6 then
    ((f_X6_isLine x1 σ).bind (fun q40 =>
    if q40.1 = 0 then
      (some ((0 : Int32), q40.2))
    else
      ((f_X6_dropsNow x1 q40.2).bind (fun q42 =>
      if q42.1 < 0 then
        (some ((0 : Int32), q42.2))
      else
        (some ((1 : Int32), q42.2))))))
  else ((f_X6_areBuses x1 σ).bind (fun q44 =>
  if q44.1 = 0 then
    (some ((0 : Int32), q44.2))
  else
    ((f_X6_beginsNow x1 q44.2).bind (fun q46 =>
    if q46.1 < 0 then
      (some ((0 : Int32), q46.2))
    else
      (some ((1 : Int32), q46.2))))))))))))))
abbrev mX6_isDone : Me := (yX6_isDone, cX6_isDone, 5, (some .boolean), 3, 70)
set_option maxRecDepth 100000 in
set_option maxHeartbeats 4000000 in
theorem c_X6_isDone {a1 : Int32} {σ : St} {res : Int32 × St} (hf : f_X6_isDone a1 σ = some res) : Mt mX6_isDone [.ref 87, .int a1] σ (some (.int res.1)) res.2 := by
  unfold f_X6_isDone at hf
  refine mt_of (by decide) (Nat.le_of_ble_eq_true rfl) [some (.ref 87), some (.int a1), none, none, none] rfl (fun Γ G hR => ?_)
  have G : OK Γ RX6 cX6_isDone 5 (some .boolean) 3 70 := G
  refine s_aload_n G dX6_isDone_0 rfl ?_
  refine s_getR G dX6_isDone_1 lkF_X6_62 (by decide) rfl rfl ?_
  refine s_iconst G dX6_isDone_4 (v := 0) (by decide) ?_
  refine s_iald G dX6_isDone_5 (by decide) rfl (by decide) ?_
  refine s_topi (fun x1 ex1 => ?_)
  replace hf := nm_at ex1 hf
  refine s_istore_n G dX6_isDone_6 rfl (by decide) rfl rfl ?_
  refine s_aload_n G dX6_isDone_7 rfl ?_
  refine s_getR G dX6_isDone_8 lkF_X6_62 (by decide) rfl rfl ?_
  refine s_iconst G dX6_isDone_11 (v := 1) (by decide) ?_
  refine s_iald G dX6_isDone_12 (by decide) rfl (by decide) ?_
  refine s_topi (fun x2 ex2 => ?_)
  replace hf := nm_at ex2 hf
  refine s_istore_n G dX6_isDone_13 rfl (by decide) rfl rfl ?_
  refine s_iload_n G dX6_isDone_14 rfl ?_
  by_cases c3 : a1 = 0
  · replace hf := ifp c3 hf
    refine s_tabIn (tgt := 56) G dX6_isDone_15 (by rw [c3]; decide) (by rw [c3]; decide) (by rw [c3]; rfl) (by decide) ?_
    refine s_aload_n G dX6_isDone_56 rfl ?_
    refine s_iload_n G dX6_isDone_57 rfl ?_
    refine s_iload_n G dX6_isDone_58 rfl ?_
    obtain ⟨q4, hq4, hf⟩ := bnd hf
    refine s_callV G dX6_isDone_59 (c_X6_mayFeed hq4) lkM_X6_150 yk_X6_mayFeed yv_X6_mayFeed (by decide) rfl rfl _ [] rfl rfl rfl (Nat.le_of_ble_eq_true rfl) (by decide) ?_
    refine s_istore G dX6_isDone_62 (by decide) rfl rfl ?_
    refine s_iload G dX6_isDone_64 rfl ?_
    refine s_if_eq (tgt := 78) G dX6_isDone_66 (by decide) (fun c5 => ?_) (fun c5 => ?_)
    · replace hf := ifp c5 hf
      refine s_iload G dX6_isDone_78 rfl ?_
      have h6 := chk_1 hf
      replace hf := chk_2 hf
      replace hf := Option.some.inj hf
      subst hf
      exact s_zret G hR dX6_isDone_80 h6 rfl rfl
    · replace hf := ifn c5 hf
      refine s_aload_n G dX6_isDone_69 rfl ?_
      refine s_getR G dX6_isDone_70 lkF_X6_7 (by decide) rfl rfl ?_
      refine s_iconst G dX6_isDone_73 (v := 2) (by decide) ?_
      refine s_iload_n G dX6_isDone_74 rfl ?_
      refine s_iadd G dX6_isDone_75 ?_
      refine s_iload_n G dX6_isDone_76 rfl ?_
      have h7 := chk_1 hf
      replace hf := chk_2 hf
      refine s_iast G dX6_isDone_77 (by decide) rfl h7 ?_
      refine s_st (fun σ8 eσ8 => ?_)
      replace hf := nm_at eσ8 hf
      refine s_iload G dX6_isDone_78 rfl ?_
      have h9 := chk_1 hf
      replace hf := chk_2 hf
      replace hf := Option.some.inj hf
      subst hf
      exact s_zret G hR dX6_isDone_80 h9 rfl rfl
  replace hf := ifn c3 hf
  by_cases c10 : a1 = 1
  · replace hf := ifp c10 hf
    refine s_tabIn (tgt := 81) G dX6_isDone_15 (by rw [c10]; decide) (by rw [c10]; decide) (by rw [c10]; rfl) (by decide) ?_
    refine s_aload_n G dX6_isDone_81 rfl ?_
    refine s_iload_n G dX6_isDone_82 rfl ?_
    refine s_iload_n G dX6_isDone_83 rfl ?_
    refine s_aload_n G dX6_isDone_84 rfl ?_
    refine s_getR G dX6_isDone_85 lkF_X6_62 (by decide) rfl rfl ?_
    refine s_iconst G dX6_isDone_88 (v := 2) (by decide) ?_
    refine s_iald G dX6_isDone_89 (by decide) rfl (by decide) ?_
    refine s_aload_n G dX6_isDone_90 rfl ?_
    refine s_getR G dX6_isDone_91 lkF_X6_62 (by decide) rfl rfl ?_
    refine s_iconst G dX6_isDone_94 (v := 3) (by decide) ?_
    refine s_iald G dX6_isDone_95 (by decide) rfl (by decide) ?_
    obtain ⟨q11, hq11, hf⟩ := bnd hf
    refine s_callV G dX6_isDone_96 (c_X6_isLineTold hq11) lkM_X6_157 yk_X6_isLineTold yv_X6_isLineTold (by decide) rfl rfl _ [] rfl rfl rfl (Nat.le_of_ble_eq_true rfl) (by decide) ?_
    refine jn_w (fun q12 : Int32 × St => WW Γ 118 [some (.ref 87), none, some (.int x1), some (.int x2), none] [.int q12.1] q12.2) hf (fun q12 hf => ?_) (fun j13 hj13 hf => ?_)
    · refine s_istore G dX6_isDone_118 (by decide) rfl rfl ?_
      refine s_iload G dX6_isDone_120 rfl ?_
      refine s_if_eq (tgt := 150) G dX6_isDone_122 (by decide) (fun c14 => ?_) (fun c14 => ?_)
      · replace hf := ifp c14 hf
        refine s_iconst G dX6_isDone_150 (v := 0) (by decide) ?_
        replace hf := Option.some.inj hf
        subst hf
        exact s_zret G hR dX6_isDone_151 (by decide) rfl rfl
      · replace hf := ifn c14 hf
        refine s_aload_n G dX6_isDone_125 rfl ?_
        refine s_iload_n G dX6_isDone_126 rfl ?_
        refine s_iload_n G dX6_isDone_127 rfl ?_
        refine s_aload_n G dX6_isDone_128 rfl ?_
        refine s_getR G dX6_isDone_129 lkF_X6_62 (by decide) rfl rfl ?_
        refine s_iconst G dX6_isDone_132 (v := 2) (by decide) ?_
        refine s_iald G dX6_isDone_133 (by decide) rfl (by decide) ?_
        refine s_aload_n G dX6_isDone_134 rfl ?_
        refine s_getR G dX6_isDone_135 lkF_X6_62 (by decide) rfl rfl ?_
        refine s_iconst G dX6_isDone_138 (v := 3) (by decide) ?_
        refine s_iald G dX6_isDone_139 (by decide) rfl (by decide) ?_
        obtain ⟨q15, hq15, hf⟩ := bnd hf
        refine s_callV G dX6_isDone_140 (c_X6_lineNow hq15) lkM_X6_161 yk_X6_lineNow yv_X6_lineNow (by decide) rfl rfl _ [] rfl rfl rfl (Nat.le_of_ble_eq_true rfl) (by decide) ?_
        refine s_if_lt (tgt := 150) G dX6_isDone_143 (by decide) (fun c16 => ?_) (fun c16 => ?_)
        · replace hf := ifp c16 hf
          refine s_iconst G dX6_isDone_150 (v := 0) (by decide) ?_
          replace hf := Option.some.inj hf
          subst hf
          exact s_zret G hR dX6_isDone_151 (by decide) rfl rfl
        · replace hf := ifn c16 hf
          refine s_iconst G dX6_isDone_146 (v := 1) (by decide) ?_
          refine s_goto (tgt := 151) G dX6_isDone_147 (by decide) ?_
          replace hf := Option.some.inj hf
          subst hf
          exact s_zret G hR dX6_isDone_151 (by decide) rfl rfl
    · refine s_if_eq (tgt := 117) G dX6_isDone_99 (by decide) (fun c17 => ?_) (fun c17 => ?_)
      · replace hf := ifp c17 hf
        refine s_iconst G dX6_isDone_117 (v := 0) (by decide) ?_
        refine s_fgt [true, false, true, true, true] rfl ?_
        exact hj13 _ hf
      · replace hf := ifn c17 hf
        refine s_aload_n G dX6_isDone_102 rfl ?_
        refine s_getR G dX6_isDone_103 lkF_X6_7 (by decide) rfl rfl ?_
        refine s_iconst G dX6_isDone_106 (v := 1) (by decide) ?_
        refine s_iald G dX6_isDone_107 (by decide) rfl (by decide) ?_
        refine s_bipush G dX6_isDone_108 (v := 10) (by decide) ?_
        refine s_icmp_ge (tgt := 117) G dX6_isDone_110 (by decide) (fun c18 => ?_) (fun c18 => ?_)
        · replace hf := ifp c18 hf
          refine s_iconst G dX6_isDone_117 (v := 0) (by decide) ?_
          refine s_fgt [true, false, true, true, true] rfl ?_
          exact hj13 _ hf
        · replace hf := ifn c18 hf
          refine s_iconst G dX6_isDone_113 (v := 1) (by decide) ?_
          refine s_goto (tgt := 118) G dX6_isDone_114 (by decide) ?_
          refine s_fgt [true, false, true, true, true] rfl ?_
          exact hj13 _ hf
  replace hf := ifn c10 hf
  by_cases c19 : a1 = 2
  · replace hf := ifp c19 hf
    refine s_tabIn (tgt := 152) G dX6_isDone_15 (by rw [c19]; decide) (by rw [c19]; decide) (by rw [c19]; rfl) (by decide) ?_
    refine s_aload_n G dX6_isDone_152 rfl ?_
    refine s_iload_n G dX6_isDone_153 rfl ?_
    obtain ⟨q20, hq20, hf⟩ := bnd hf
    refine s_callV G dX6_isDone_154 (c_X6_isLine hq20) lkM_X6_165 yk_X6_isLine yv_X6_isLine (by decide) rfl rfl _ [] rfl rfl rfl (Nat.le_of_ble_eq_true rfl) (by decide) ?_
    refine s_if_eq (tgt := 176) G dX6_isDone_157 (by decide) (fun c21 => ?_) (fun c21 => ?_)
    · replace hf := ifp c21 hf
      refine s_iconst G dX6_isDone_176 (v := 0) (by decide) ?_
      replace hf := Option.some.inj hf
      subst hf
      exact s_zret G hR dX6_isDone_177 (by decide) rfl rfl
    · replace hf := ifn c21 hf
      refine s_aload_n G dX6_isDone_160 rfl ?_
      refine s_iload_n G dX6_isDone_161 rfl ?_
      refine s_iconst G dX6_isDone_162 (v := 4) (by decide) ?_
      refine s_iload_n G dX6_isDone_163 rfl ?_
      refine s_iconst G dX6_isDone_164 (v := 2) (by decide) ?_
      refine s_isub G dX6_isDone_165 ?_
      obtain ⟨q22, hq22, hf⟩ := bnd hf
      refine s_callV G dX6_isDone_166 (c_X6_becomes hq22) lkM_X6_171 yk_X6_becomes yv_X6_becomes (by decide) rfl rfl _ [] rfl rfl rfl (Nat.le_of_ble_eq_true rfl) (by decide) ?_
      refine s_if_lt (tgt := 176) G dX6_isDone_169 (by decide) (fun c23 => ?_) (fun c23 => ?_)
      · replace hf := ifp c23 hf
        refine s_iconst G dX6_isDone_176 (v := 0) (by decide) ?_
        replace hf := Option.some.inj hf
        subst hf
        exact s_zret G hR dX6_isDone_177 (by decide) rfl rfl
      · replace hf := ifn c23 hf
        refine s_iconst G dX6_isDone_172 (v := 1) (by decide) ?_
        refine s_goto (tgt := 177) G dX6_isDone_173 (by decide) ?_
        replace hf := Option.some.inj hf
        subst hf
        exact s_zret G hR dX6_isDone_177 (by decide) rfl rfl
  replace hf := ifn c19 hf
  by_cases c24 : a1 = 3
  · replace hf := ifp c24 hf
    refine s_tabIn (tgt := 152) G dX6_isDone_15 (by rw [c24]; decide) (by rw [c24]; decide) (by rw [c24]; rfl) (by decide) ?_
    refine s_aload_n G dX6_isDone_152 rfl ?_
    refine s_iload_n G dX6_isDone_153 rfl ?_
    obtain ⟨q25, hq25, hf⟩ := bnd hf
    refine s_callV G dX6_isDone_154 (c_X6_isLine hq25) lkM_X6_165 yk_X6_isLine yv_X6_isLine (by decide) rfl rfl _ [] rfl rfl rfl (Nat.le_of_ble_eq_true rfl) (by decide) ?_
    refine s_if_eq (tgt := 176) G dX6_isDone_157 (by decide) (fun c26 => ?_) (fun c26 => ?_)
    · replace hf := ifp c26 hf
      refine s_iconst G dX6_isDone_176 (v := 0) (by decide) ?_
      replace hf := Option.some.inj hf
      subst hf
      exact s_zret G hR dX6_isDone_177 (by decide) rfl rfl
    · replace hf := ifn c26 hf
      refine s_aload_n G dX6_isDone_160 rfl ?_
      refine s_iload_n G dX6_isDone_161 rfl ?_
      refine s_iconst G dX6_isDone_162 (v := 4) (by decide) ?_
      refine s_iload_n G dX6_isDone_163 rfl ?_
      refine s_iconst G dX6_isDone_164 (v := 2) (by decide) ?_
      refine s_isub G dX6_isDone_165 ?_
      obtain ⟨q27, hq27, hf⟩ := bnd hf
      refine s_callV G dX6_isDone_166 (c_X6_becomes hq27) lkM_X6_171 yk_X6_becomes yv_X6_becomes (by decide) rfl rfl _ [] rfl rfl rfl (Nat.le_of_ble_eq_true rfl) (by decide) ?_
      refine s_if_lt (tgt := 176) G dX6_isDone_169 (by decide) (fun c28 => ?_) (fun c28 => ?_)
      · replace hf := ifp c28 hf
        refine s_iconst G dX6_isDone_176 (v := 0) (by decide) ?_
        replace hf := Option.some.inj hf
        subst hf
        exact s_zret G hR dX6_isDone_177 (by decide) rfl rfl
      · replace hf := ifn c28 hf
        refine s_iconst G dX6_isDone_172 (v := 1) (by decide) ?_
        refine s_goto (tgt := 177) G dX6_isDone_173 (by decide) ?_
        replace hf := Option.some.inj hf
        subst hf
        exact s_zret G hR dX6_isDone_177 (by decide) rfl rfl
  replace hf := ifn c24 hf
  by_cases c29 : a1 = 4
  · replace hf := ifp c29 hf
    refine s_tabIn (tgt := 178) G dX6_isDone_15 (by rw [c29]; decide) (by rw [c29]; decide) (by rw [c29]; rfl) (by decide) ?_
    refine s_aload_n G dX6_isDone_178 rfl ?_
    refine s_iload_n G dX6_isDone_179 rfl ?_
    refine s_iconst G dX6_isDone_180 (v := 5) (by decide) ?_
    refine s_iload_n G dX6_isDone_181 rfl ?_
    refine s_isub G dX6_isDone_182 ?_
    refine s_iload_n G dX6_isDone_183 rfl ?_
    obtain ⟨q30, hq30, hf⟩ := bnd hf
    refine s_callV G dX6_isDone_184 (c_X6_maySet hq30) lkM_X6_175 yk_X6_maySet yv_X6_maySet (by decide) rfl rfl _ [] rfl rfl rfl (Nat.le_of_ble_eq_true rfl) (by decide) ?_
    refine s_if_eq (tgt := 207) G dX6_isDone_187 (by decide) (fun c31 => ?_) (fun c31 => ?_)
    · replace hf := ifp c31 hf
      refine s_iconst G dX6_isDone_207 (v := 0) (by decide) ?_
      replace hf := Option.some.inj hf
      subst hf
      exact s_zret G hR dX6_isDone_208 (by decide) rfl rfl
    · replace hf := ifn c31 hf
      refine s_aload_n G dX6_isDone_190 rfl ?_
      refine s_iload_n G dX6_isDone_191 rfl ?_
      refine s_bipush G dX6_isDone_192 (v := 7) (by decide) ?_
      refine s_iload_n G dX6_isDone_194 rfl ?_
      refine s_isub G dX6_isDone_195 ?_
      refine s_iload_n G dX6_isDone_196 rfl ?_
      obtain ⟨q32, hq32, hf⟩ := bnd hf
      refine s_callV G dX6_isDone_197 (c_X6_becomes hq32) lkM_X6_171 yk_X6_becomes yv_X6_becomes (by decide) rfl rfl _ [] rfl rfl rfl (Nat.le_of_ble_eq_true rfl) (by decide) ?_
      refine s_if_lt (tgt := 207) G dX6_isDone_200 (by decide) (fun c33 => ?_) (fun c33 => ?_)
      · replace hf := ifp c33 hf
        refine s_iconst G dX6_isDone_207 (v := 0) (by decide) ?_
        replace hf := Option.some.inj hf
        subst hf
        exact s_zret G hR dX6_isDone_208 (by decide) rfl rfl
      · replace hf := ifn c33 hf
        refine s_iconst G dX6_isDone_203 (v := 1) (by decide) ?_
        refine s_goto (tgt := 208) G dX6_isDone_204 (by decide) ?_
        replace hf := Option.some.inj hf
        subst hf
        exact s_zret G hR dX6_isDone_208 (by decide) rfl rfl
  replace hf := ifn c29 hf
  by_cases c34 : a1 = 5
  · replace hf := ifp c34 hf
    refine s_tabIn (tgt := 178) G dX6_isDone_15 (by rw [c34]; decide) (by rw [c34]; decide) (by rw [c34]; rfl) (by decide) ?_
    refine s_aload_n G dX6_isDone_178 rfl ?_
    refine s_iload_n G dX6_isDone_179 rfl ?_
    refine s_iconst G dX6_isDone_180 (v := 5) (by decide) ?_
    refine s_iload_n G dX6_isDone_181 rfl ?_
    refine s_isub G dX6_isDone_182 ?_
    refine s_iload_n G dX6_isDone_183 rfl ?_
    obtain ⟨q35, hq35, hf⟩ := bnd hf
    refine s_callV G dX6_isDone_184 (c_X6_maySet hq35) lkM_X6_175 yk_X6_maySet yv_X6_maySet (by decide) rfl rfl _ [] rfl rfl rfl (Nat.le_of_ble_eq_true rfl) (by decide) ?_
    refine s_if_eq (tgt := 207) G dX6_isDone_187 (by decide) (fun c36 => ?_) (fun c36 => ?_)
    · replace hf := ifp c36 hf
      refine s_iconst G dX6_isDone_207 (v := 0) (by decide) ?_
      replace hf := Option.some.inj hf
      subst hf
      exact s_zret G hR dX6_isDone_208 (by decide) rfl rfl
    · replace hf := ifn c36 hf
      refine s_aload_n G dX6_isDone_190 rfl ?_
      refine s_iload_n G dX6_isDone_191 rfl ?_
      refine s_bipush G dX6_isDone_192 (v := 7) (by decide) ?_
      refine s_iload_n G dX6_isDone_194 rfl ?_
      refine s_isub G dX6_isDone_195 ?_
      refine s_iload_n G dX6_isDone_196 rfl ?_
      obtain ⟨q37, hq37, hf⟩ := bnd hf
      refine s_callV G dX6_isDone_197 (c_X6_becomes hq37) lkM_X6_171 yk_X6_becomes yv_X6_becomes (by decide) rfl rfl _ [] rfl rfl rfl (Nat.le_of_ble_eq_true rfl) (by decide) ?_
      refine s_if_lt (tgt := 207) G dX6_isDone_200 (by decide) (fun c38 => ?_) (fun c38 => ?_)
      · replace hf := ifp c38 hf
        refine s_iconst G dX6_isDone_207 (v := 0) (by decide) ?_
        replace hf := Option.some.inj hf
        subst hf
        exact s_zret G hR dX6_isDone_208 (by decide) rfl rfl
      · replace hf := ifn c38 hf
        refine s_iconst G dX6_isDone_203 (v := 1) (by decide) ?_
        refine s_goto (tgt := 208) G dX6_isDone_204 (by decide) ?_
        replace hf := Option.some.inj hf
        subst hf
        exact s_zret G hR dX6_isDone_208 (by decide) rfl rfl
  replace hf := ifn c34 hf
  by_cases c39 : a1 = 6
  · replace hf := ifp c39 hf
    refine s_tabIn (tgt := 209) G dX6_isDone_15 (by rw [c39]; decide) (by rw [c39]; decide) (by rw [c39]; rfl) (by decide) ?_
    refine s_aload_n G dX6_isDone_209 rfl ?_
    refine s_iload_n G dX6_isDone_210 rfl ?_
    obtain ⟨q40, hq40, hf⟩ := bnd hf
    refine s_callV G dX6_isDone_211 (c_X6_isLine hq40) lkM_X6_165 yk_X6_isLine yv_X6_isLine (by decide) rfl rfl _ [] rfl rfl rfl (Nat.le_of_ble_eq_true rfl) (by decide) ?_
    refine s_if_eq (tgt := 229) G dX6_isDone_214 (by decide) (fun c41 => ?_) (fun c41 => ?_)
    · replace hf := ifp c41 hf
      refine s_iconst G dX6_isDone_229 (v := 0) (by decide) ?_
      replace hf := Option.some.inj hf
      subst hf
      exact s_zret G hR dX6_isDone_230 (by decide) rfl rfl
    · replace hf := ifn c41 hf
      refine s_aload_n G dX6_isDone_217 rfl ?_
      refine s_iload_n G dX6_isDone_218 rfl ?_
      obtain ⟨q42, hq42, hf⟩ := bnd hf
      refine s_callV G dX6_isDone_219 (c_X6_dropsNow hq42) lkM_X6_168 yk_X6_dropsNow yv_X6_dropsNow (by decide) rfl rfl _ [] rfl rfl rfl (Nat.le_of_ble_eq_true rfl) (by decide) ?_
      refine s_if_lt (tgt := 229) G dX6_isDone_222 (by decide) (fun c43 => ?_) (fun c43 => ?_)
      · replace hf := ifp c43 hf
        refine s_iconst G dX6_isDone_229 (v := 0) (by decide) ?_
        replace hf := Option.some.inj hf
        subst hf
        exact s_zret G hR dX6_isDone_230 (by decide) rfl rfl
      · replace hf := ifn c43 hf
        refine s_iconst G dX6_isDone_225 (v := 1) (by decide) ?_
        refine s_goto (tgt := 230) G dX6_isDone_226 (by decide) ?_
        replace hf := Option.some.inj hf
        subst hf
        exact s_zret G hR dX6_isDone_230 (by decide) rfl rfl
  replace hf := ifn c39 hf
  refine s_tabOut (tgt := 231) G dX6_isDone_15 (tab_out 6 (by decide) (by intro k hk; match k, hk with | 0, _ => exact c3 | 1, _ => exact c10 | 2, _ => exact c19 | 3, _ => exact c24 | 4, _ => exact c29 | 5, _ => exact c34 | 6, _ => exact c39)) (by decide) ?_
  refine s_iload_n G dX6_isDone_231 rfl ?_
  obtain ⟨q44, hq44, hf⟩ := bnd hf
  refine s_callS G dX6_isDone_232 (c_X6_areBuses hq44) lkM_X6_127 yk_X6_areBuses ys_X6_areBuses _ [] rfl rfl rfl (Nat.le_of_ble_eq_true rfl) (by decide) ?_
  refine s_if_eq (tgt := 250) G dX6_isDone_235 (by decide) (fun c45 => ?_) (fun c45 => ?_)
  · replace hf := ifp c45 hf
    refine s_iconst G dX6_isDone_250 (v := 0) (by decide) ?_
    replace hf := Option.some.inj hf
    subst hf
    exact s_zret G hR dX6_isDone_251 (by decide) rfl rfl
  · replace hf := ifn c45 hf
    refine s_aload_n G dX6_isDone_238 rfl ?_
    refine s_iload_n G dX6_isDone_239 rfl ?_
    obtain ⟨q46, hq46, hf⟩ := bnd hf
    refine s_callV G dX6_isDone_240 (c_X6_beginsNow hq46) lkM_X6_140 yk_X6_beginsNow yv_X6_beginsNow (by decide) rfl rfl _ [] rfl rfl rfl (Nat.le_of_ble_eq_true rfl) (by decide) ?_
    refine s_if_lt (tgt := 250) G dX6_isDone_243 (by decide) (fun c47 => ?_) (fun c47 => ?_)
    · replace hf := ifp c47 hf
      refine s_iconst G dX6_isDone_250 (v := 0) (by decide) ?_
      replace hf := Option.some.inj hf
      subst hf
      exact s_zret G hR dX6_isDone_251 (by decide) rfl rfl
    · replace hf := ifn c47 hf
      refine s_iconst G dX6_isDone_246 (v := 1) (by decide) ?_
      refine s_goto (tgt := 251) G dX6_isDone_247 (by decide) ?_
      replace hf := Option.some.inj hf
      subst hf
      exact s_zret G hR dX6_isDone_251 (by decide) rfl rfl
def f_X6_order_14 (a1 : Int32) (q1 : Int32 × St) (k5 : St → Option (Int32 × St)) : Nat → Int32 → St → Option (Int32 × St)
  | 0, _, _ => none
  | n6 + 1, x3, σ4 =>
    (f_X6_manyOf q1.1 σ4).bind (fun q7 =>
    if q7.1 ≤ x3 then
      (k5 q7.2)
    else
      (jn (fun q9 : Int32 × St =>
        ((f_X6_number x3 q9.1 q9.2).bind (fun q11 =>
        if q11.1 = 0 then
          (some ((-1 : Int32), q11.2))
        else
          (f_X6_order_14 a1 q1 k5 n6 (x3 + 1) q11.2)))) (fun j10 =>
        if q1.1 = 0 then
          (if x3 = (1 : Int32) then
            (j10 ((1 : Int32), q7.2))
          else
            (j10 ((0 : Int32), q7.2)))
        else
          (j10 ((0 : Int32), q7.2)))))
def f_X6_order (a1 : Int32) (σ : St) : Option (Int32 × St) :=
(f_X6_word σ).bind (fun q1 =>
  if q1.1 = (-1 : Int32) then
    (some ((-1 : Int32), q1.2))
  else
    (f_X6_order_14 a1 q1 (fun (σ15 : St) =>
      (f_X6_here σ15).bind (fun q16 =>
      if q16.1 = (59 : Int32) then
        (nm (sI q16.2 87 7 ((q16.2.1 87 7) + (1 : Int32))) (fun σ18 : St =>
        if a1 = 0 then
          (some ((0 : Int32), σ18))
        else
          ((f_X6_isDone q1.1 σ18).bind (fun q20 =>
          if q20.1 = 0 then
            (some ((0 : Int32), q20.2))
          else
            (some ((1 : Int32), q20.2))))))
      else
        (some ((-1 : Int32), q16.2)))) 1000 (0 : Int32) q1.2))
abbrev mX6_order : Me := (yX6_order, cX6_order, 4, (some .int), 4, 94)
set_option maxRecDepth 100000 in
set_option maxHeartbeats 4000000 in
theorem l_X6_order_14 {Γ : Cxt} (G : OK Γ RX6 cX6_order 4 (some .int) 4 94) {res : Int32 × St} (hR : RetOK Γ (some (.int res.1)) res.2) (a1 : Int32) (q1 : Int32 × St) (k5 : St → Option (Int32 × St)) (hk : ∀ (z : St), k5 z = some res → WW Γ 52 [some (.ref 87), some (.int a1), some (.int q1.1), none] [] z) : ∀ (n6 : Nat) (x3 : Int32) (σ4 : St), f_X6_order_14 a1 q1 k5 n6 x3 σ4 = some res → WW Γ 14 [some (.ref 87), some (.int a1), some (.int q1.1), some (.int x3)] [] σ4 := by
  intro n6
  induction n6 with
  | zero =>
    intro x3 σ4 hf
    cases hf
  | succ n6 ih =>
    intro x3 σ4 hf
    unfold f_X6_order_14 at hf
    refine s_iload_n G dX6_order_14 rfl ?_
    refine s_iload_n G dX6_order_15 rfl ?_
    obtain ⟨q7, hq7, hf⟩ := bnd hf
    refine s_callS G dX6_order_16 (c_X6_manyOf hq7) lkM_X6_266 yk_X6_manyOf ys_X6_manyOf _ [.int x3] rfl rfl rfl (Nat.le_of_ble_eq_true rfl) (by decide) ?_
    refine s_icmp_ge (tgt := 52) G dX6_order_19 (by decide) (fun c8 => ?_) (fun c8 => ?_)
    · replace hf := ifp c8 hf
      refine s_fgt [true, true, true, false] rfl ?_
      exact hk q7.2 hf
    · replace hf := ifn c8 hf
      refine s_aload_n G dX6_order_22 rfl ?_
      refine s_iload_n G dX6_order_23 rfl ?_
      refine s_iload_n G dX6_order_24 rfl ?_
      refine jn_w (fun q9 : Int32 × St => WW Γ 38 [some (.ref 87), some (.int a1), some (.int q1.1), some (.int x3)] [.int q9.1, .int x3, .ref 87] q9.2) hf (fun q9 hf => ?_) (fun j10 hj10 hf => ?_)
      · obtain ⟨q11, hq11, hf⟩ := bnd hf
        refine s_callV G dX6_order_38 (c_X6_number hq11) lkM_X6_269 yk_X6_number yv_X6_number (by decide) rfl rfl _ [] rfl rfl rfl (Nat.le_of_ble_eq_true rfl) (by decide) ?_
        refine s_if_ne (tgt := 46) G dX6_order_41 (by decide) (fun c12 => ?_) (fun c12 => ?_)
        · replace hf := ifn c12 hf
          refine s_iinc G dX6_order_46 rfl (v := (x3 + 1)) rfl (by decide) rfl rfl ?_
          refine s_goto (tgt := 14) G dX6_order_49 (by decide) ?_
          exact ih (x3 + 1) q11.2 hf
        · replace hf := ifp c12 hf
          refine s_iconst G dX6_order_44 (v := -1) (by decide) ?_
          replace hf := Option.some.inj hf
          subst hf
          exact s_iret G hR dX6_order_45 rfl rfl
      · refine s_if_ne (tgt := 37) G dX6_order_25 (by decide) (fun c13 => ?_) (fun c13 => ?_)
        · replace hf := ifn c13 hf
          refine s_iconst G dX6_order_37 (v := 0) (by decide) ?_
          exact hj10 _ hf
        · replace hf := ifp c13 hf
          refine s_iload_n G dX6_order_28 rfl ?_
          refine s_iconst G dX6_order_29 (v := 1) (by decide) ?_
          refine s_icmp_ne (tgt := 37) G dX6_order_30 (by decide) (fun c14 => ?_) (fun c14 => ?_)
          · replace hf := ifn c14 hf
            refine s_iconst G dX6_order_37 (v := 0) (by decide) ?_
            exact hj10 _ hf
          · replace hf := ifp c14 hf
            refine s_iconst G dX6_order_33 (v := 1) (by decide) ?_
            refine s_goto (tgt := 38) G dX6_order_34 (by decide) ?_
            exact hj10 _ hf
set_option maxRecDepth 100000 in
set_option maxHeartbeats 4000000 in
theorem c_X6_order {a1 : Int32} {σ : St} {res : Int32 × St} (hf : f_X6_order a1 σ = some res) : Mt mX6_order [.ref 87, .int a1] σ (some (.int res.1)) res.2 := by
  unfold f_X6_order at hf
  refine mt_of (by decide) (Nat.le_of_ble_eq_true rfl) [some (.ref 87), some (.int a1), none, none] rfl (fun Γ G hR => ?_)
  have G : OK Γ RX6 cX6_order 4 (some .int) 4 94 := G
  refine s_aload_n G dX6_order_0 rfl ?_
  obtain ⟨q1, hq1, hf⟩ := bnd hf
  refine s_callV G dX6_order_1 (c_X6_word hq1) lkM_X6_263 yk_X6_word yv_X6_word (by decide) rfl rfl _ [] rfl rfl rfl (Nat.le_of_ble_eq_true rfl) (by decide) ?_
  refine s_istore_n G dX6_order_4 rfl (by decide) rfl rfl ?_
  refine s_iload_n G dX6_order_5 rfl ?_
  refine s_iconst G dX6_order_6 (v := -1) (by decide) ?_
  refine s_icmp_ne (tgt := 12) G dX6_order_7 (by decide) (fun c2 => ?_) (fun c2 => ?_)
  · replace hf := ifn c2 hf
    refine s_iconst G dX6_order_12 (v := 0) (by decide) ?_
    refine s_istore_n G dX6_order_13 rfl (by decide) rfl rfl ?_
    refine l_X6_order_14 G hR a1 q1 _ (fun σ15 hf => ?_) 1000 (0 : Int32) q1.2 hf
    refine s_aload_n G dX6_order_52 rfl ?_
    obtain ⟨q16, hq16, hf⟩ := bnd hf
    refine s_callV G dX6_order_53 (c_X6_here hq16) lkM_X6_254 yk_X6_here yv_X6_here (by decide) rfl rfl _ [] rfl rfl rfl (Nat.le_of_ble_eq_true rfl) (by decide) ?_
    refine s_bipush G dX6_order_56 (v := 59) (by decide) ?_
    refine s_icmp_eq (tgt := 63) G dX6_order_58 (by decide) (fun c17 => ?_) (fun c17 => ?_)
    · replace hf := ifp c17 hf
      refine s_aload_n G dX6_order_63 rfl ?_
      refine s_dup G dX6_order_64 rfl ?_
      refine s_getI (n := 0) G dX6_order_65 lkF_X6_243 (by decide) rfl rfl ?_
      refine s_iconst G dX6_order_68 (v := 1) (by decide) ?_
      refine s_iadd G dX6_order_69 ?_
      refine s_putI G dX6_order_70 lkP_X6_243 (by decide) rfl rfl ?_
      refine s_st (fun σ18 eσ18 => ?_)
      replace hf := nm_at eσ18 hf
      refine s_iload_n G dX6_order_73 rfl ?_
      refine s_if_eq (tgt := 89) G dX6_order_74 (by decide) (fun c19 => ?_) (fun c19 => ?_)
      · replace hf := ifp c19 hf
        refine s_iconst G dX6_order_89 (v := 0) (by decide) ?_
        replace hf := Option.some.inj hf
        subst hf
        exact s_iret G hR dX6_order_90 rfl rfl
      · replace hf := ifn c19 hf
        refine s_aload_n G dX6_order_77 rfl ?_
        refine s_iload_n G dX6_order_78 rfl ?_
        obtain ⟨q20, hq20, hf⟩ := bnd hf
        refine s_callV G dX6_order_79 (c_X6_isDone hq20) lkM_X6_273 yk_X6_isDone yv_X6_isDone (by decide) rfl rfl _ [] rfl rfl rfl (Nat.le_of_ble_eq_true rfl) (by decide) ?_
        refine s_if_eq (tgt := 89) G dX6_order_82 (by decide) (fun c21 => ?_) (fun c21 => ?_)
        · replace hf := ifp c21 hf
          refine s_iconst G dX6_order_89 (v := 0) (by decide) ?_
          replace hf := Option.some.inj hf
          subst hf
          exact s_iret G hR dX6_order_90 rfl rfl
        · replace hf := ifn c21 hf
          refine s_iconst G dX6_order_85 (v := 1) (by decide) ?_
          refine s_goto (tgt := 90) G dX6_order_86 (by decide) ?_
          replace hf := Option.some.inj hf
          subst hf
          exact s_iret G hR dX6_order_90 rfl rfl
    · replace hf := ifn c17 hf
      refine s_iconst G dX6_order_61 (v := -1) (by decide) ?_
      replace hf := Option.some.inj hf
      subst hf
      exact s_iret G hR dX6_order_62 rfl rfl
  · replace hf := ifp c2 hf
    refine s_iconst G dX6_order_10 (v := -1) (by decide) ?_
    replace hf := Option.some.inj hf
    subst hf
    exact s_iret G hR dX6_order_11 rfl rfl
def f_X6_does_7 (k4 : St → Option (Int32 × St)) : Nat → Int32 → St → Option (Int32 × St)
  | 0, _, _ => none
  | n5 + 1, x2, σ3 =>
    if x2 = 0 then
      (k4 σ3)
    else
      ((f_X6_order (0 : Int32) σ3).bind (fun q7 =>
      if 0 ≤ q7.1 then
        ((f_X6_here q7.2).bind (fun q9 =>
        if q9.1 = (-1 : Int32) then
          (f_X6_does_7 k4 n5 (0 : Int32) q9.2)
        else
          (f_X6_does_7 k4 n5 (1 : Int32) q9.2)))
      else
        (some (((-10 : Int32) - (q7.2.1 87 7)), q7.2))))
def f_X6_does_59 (k17 : Int32 → St → Option (Int32 × St)) : Nat → Int32 → St → Option (Int32 × St)
  | 0, _, _ => none
  | n18 + 1, x15, σ16 =>
    (f_X6_here σ16).bind (fun q19 =>
    if q19.1 = (-1 : Int32) then
      (k17 x15 q19.2)
    else
      ((f_X6_order (1 : Int32) q19.2).bind (fun q21 =>
      nm (x15 + q21.1) (fun x22 : Int32 =>
      f_X6_does_59 k17 n18 x22 q21.2))))
def f_X6_does (σ : St) : Option (Int32 × St) :=
nm (sI σ 87 7 (0 : Int32)) (fun σ1 : St =>
  f_X6_does_7 (fun (σ11 : St) =>
    (f_X6_aside σ11).bind (fun q12 =>
    (f_X6_keeps q12).bind (fun q13 =>
    nm (sI q13 87 7 (0 : Int32)) (fun σ14 : St =>
    f_X6_does_59 (fun (x23 : Int32) (σ24 : St) =>
      some (x23, σ24)) 1000 (0 : Int32) σ14)))) 1000 (1 : Int32) σ1)
abbrev mX6_does : Me := (yX6_does, cX6_does, 3, (some .int), 5, 117)
set_option maxRecDepth 100000 in
set_option maxHeartbeats 4000000 in
theorem l_X6_does_7 {Γ : Cxt} (G : OK Γ RX6 cX6_does 3 (some .int) 5 117) {res : Int32 × St} (hR : RetOK Γ (some (.int res.1)) res.2) (k4 : St → Option (Int32 × St)) (hk : ∀ (z : St), k4 z = some res → WW Γ 44 [some (.ref 87), none, none] [] z) : ∀ (n5 : Nat) (x2 : Int32) (σ3 : St), f_X6_does_7 k4 n5 x2 σ3 = some res → WW Γ 7 [some (.ref 87), some (.int x2), none] [] σ3 := by
  intro n5
  induction n5 with
  | zero =>
    intro x2 σ3 hf
    cases hf
  | succ n5 ih =>
    intro x2 σ3 hf
    unfold f_X6_does_7 at hf
    refine s_iload_n G dX6_does_7 rfl ?_
    refine s_if_eq (tgt := 44) G dX6_does_8 (by decide) (fun c6 => ?_) (fun c6 => ?_)
    · replace hf := ifp c6 hf
      refine s_fgt [true, false, true] rfl ?_
      exact hk σ3 hf
    · replace hf := ifn c6 hf
      refine s_aload_n G dX6_does_11 rfl ?_
      refine s_iconst G dX6_does_12 (v := 0) (by decide) ?_
      obtain ⟨q7, hq7, hf⟩ := bnd hf
      refine s_callV G dX6_does_13 (c_X6_order hq7) lkM_X6_276 yk_X6_order yv_X6_order (by decide) rfl rfl _ [] rfl rfl rfl (Nat.le_of_ble_eq_true rfl) (by decide) ?_
      refine s_if_ge (tgt := 27) G dX6_does_16 (by decide) (fun c8 => ?_) (fun c8 => ?_)
      · replace hf := ifp c8 hf
        refine s_aload_n G dX6_does_27 rfl ?_
        obtain ⟨q9, hq9, hf⟩ := bnd hf
        refine s_callV G dX6_does_28 (c_X6_here hq9) lkM_X6_254 yk_X6_here yv_X6_here (by decide) rfl rfl _ [] rfl rfl rfl (Nat.le_of_ble_eq_true rfl) (by decide) ?_
        refine s_iconst G dX6_does_31 (v := -1) (by decide) ?_
        refine s_icmp_eq (tgt := 39) G dX6_does_32 (by decide) (fun c10 => ?_) (fun c10 => ?_)
        · replace hf := ifp c10 hf
          refine s_iconst G dX6_does_39 (v := 0) (by decide) ?_
          refine s_istore_n G dX6_does_40 rfl (by decide) rfl rfl ?_
          refine s_goto (tgt := 7) G dX6_does_41 (by decide) ?_
          exact ih (0 : Int32) q9.2 hf
        · replace hf := ifn c10 hf
          refine s_iconst G dX6_does_35 (v := 1) (by decide) ?_
          refine s_goto (tgt := 40) G dX6_does_36 (by decide) ?_
          refine s_istore_n G dX6_does_40 rfl (by decide) rfl rfl ?_
          refine s_goto (tgt := 7) G dX6_does_41 (by decide) ?_
          exact ih (1 : Int32) q9.2 hf
      · replace hf := ifn c8 hf
        refine s_bipush G dX6_does_19 (v := -10) (by decide) ?_
        refine s_aload_n G dX6_does_21 rfl ?_
        refine s_getI (n := 0) G dX6_does_22 lkF_X6_243 (by decide) rfl rfl ?_
        refine s_isub G dX6_does_25 ?_
        replace hf := Option.some.inj hf
        subst hf
        exact s_iret G hR dX6_does_26 rfl rfl
set_option maxRecDepth 100000 in
set_option maxHeartbeats 4000000 in
theorem l_X6_does_59 {Γ : Cxt} (G : OK Γ RX6 cX6_does 3 (some .int) 5 117) {res : Int32 × St} (hR : RetOK Γ (some (.int res.1)) res.2) (k17 : Int32 → St → Option (Int32 × St)) (hk : ∀ (y2 : Int32) (z : St), k17 y2 z = some res → WW Γ 78 [none, none, some (.int y2)] [] z) : ∀ (n18 : Nat) (x15 : Int32) (σ16 : St), f_X6_does_59 k17 n18 x15 σ16 = some res → WW Γ 59 [some (.ref 87), none, some (.int x15)] [] σ16 := by
  intro n18
  induction n18 with
  | zero =>
    intro x15 σ16 hf
    cases hf
  | succ n18 ih =>
    intro x15 σ16 hf
    unfold f_X6_does_59 at hf
    refine s_aload_n G dX6_does_59 rfl ?_
    obtain ⟨q19, hq19, hf⟩ := bnd hf
    refine s_callV G dX6_does_60 (c_X6_here hq19) lkM_X6_254 yk_X6_here yv_X6_here (by decide) rfl rfl _ [] rfl rfl rfl (Nat.le_of_ble_eq_true rfl) (by decide) ?_
    refine s_iconst G dX6_does_63 (v := -1) (by decide) ?_
    refine s_icmp_eq (tgt := 78) G dX6_does_64 (by decide) (fun c20 => ?_) (fun c20 => ?_)
    · replace hf := ifp c20 hf
      refine s_fgt [false, true, true] rfl ?_
      exact hk x15 q19.2 hf
    · replace hf := ifn c20 hf
      refine s_iload_n G dX6_does_67 rfl ?_
      refine s_aload_n G dX6_does_68 rfl ?_
      refine s_iconst G dX6_does_69 (v := 1) (by decide) ?_
      obtain ⟨q21, hq21, hf⟩ := bnd hf
      refine s_callV G dX6_does_70 (c_X6_order hq21) lkM_X6_276 yk_X6_order yv_X6_order (by decide) rfl rfl _ [.int x15] rfl rfl rfl (Nat.le_of_ble_eq_true rfl) (by decide) ?_
      refine s_iadd G dX6_does_73 ?_
      refine s_topi (fun x22 ex22 => ?_)
      replace hf := nm_at ex22 hf
      refine s_istore_n G dX6_does_74 rfl (by decide) rfl rfl ?_
      refine s_goto (tgt := 59) G dX6_does_75 (by decide) ?_
      exact ih x22 q21.2 hf
set_option maxRecDepth 100000 in
set_option maxHeartbeats 4000000 in
theorem c_X6_does  {σ : St} {res : Int32 × St} (hf : f_X6_does σ = some res) : Mt mX6_does [.ref 87] σ (some (.int res.1)) res.2 := by
  unfold f_X6_does at hf
  refine mt_of (by decide) (Nat.le_of_ble_eq_true rfl) [some (.ref 87), none, none] rfl (fun Γ G hR => ?_)
  have G : OK Γ RX6 cX6_does 3 (some .int) 5 117 := G
  refine s_aload_n G dX6_does_0 rfl ?_
  refine s_iconst G dX6_does_1 (v := 0) (by decide) ?_
  refine s_putI G dX6_does_2 lkP_X6_243 (by decide) rfl rfl ?_
  refine s_st (fun σ1 eσ1 => ?_)
  replace hf := nm_at eσ1 hf
  refine s_iconst G dX6_does_5 (v := 1) (by decide) ?_
  refine s_istore_n G dX6_does_6 rfl (by decide) rfl rfl ?_
  refine l_X6_does_7 G hR _ (fun σ11 hf => ?_) 1000 (1 : Int32) σ1 hf
  refine s_aload_n G dX6_does_44 rfl ?_
  obtain ⟨q12, hq12, hf⟩ := bnd hf
  refine s_callV G dX6_does_45 (c_X6_aside hq12) lkM_X6_134 yk_X6_aside yv_X6_aside (by decide) rfl rfl _ [] rfl rfl rfl (Nat.le_of_ble_eq_true rfl) (by decide) ?_
  refine s_aload_n G dX6_does_48 rfl ?_
  obtain ⟨q13, hq13, hf⟩ := bnd hf
  refine s_callV G dX6_does_49 (c_X6_keeps hq13) lkM_X6_137 yk_X6_keeps yv_X6_keeps (by decide) rfl rfl _ [] rfl rfl rfl (Nat.le_of_ble_eq_true rfl) (by decide) ?_
  refine s_aload_n G dX6_does_52 rfl ?_
  refine s_iconst G dX6_does_53 (v := 0) (by decide) ?_
  refine s_putI G dX6_does_54 lkP_X6_243 (by decide) rfl rfl ?_
  refine s_st (fun σ14 eσ14 => ?_)
  replace hf := nm_at eσ14 hf
  refine s_iconst G dX6_does_57 (v := 0) (by decide) ?_
  refine s_istore_n G dX6_does_58 rfl (by decide) rfl rfl ?_
  refine l_X6_does_59 G hR _ (fun x23 σ24 hf => ?_) 1000 (0 : Int32) σ14 hf
  refine s_iload_n G dX6_does_78 rfl ?_
  replace hf := Option.some.inj hf
  subst hf
  exact s_iret G hR dX6_does_79 rfl rfl
def f_X6_back_26 (k5 : St → Option (Int32 × St)) : Nat → Int32 → St → Option (Int32 × St)
  | 0, _, _ => none
  | n6 + 1, x3, σ4 =>
    if (58 : Int32) ≤ x3 then
      (k5 σ4)
    else
      (chk (ib (((58 : Int32) * (σ4.1 87 3)) + x3) 464) (
      chk (ib x3 58) (
      nm (sI σ4 88 x3.toNatClampNeg (σ4.1 89 (((58 : Int32) * (σ4.1 87 3)) + x3).toNatClampNeg)) (fun σ10 : St =>
      f_X6_back_26 k5 n6 (x3 + 1) σ10))))
def f_X6_back (σ : St) : Option (Int32 × St) :=
if (σ.1 87 3) = 0 then
    ((f_X6_refuses (-3 : Int32) σ).bind (fun q12 =>
    some (q12.1, q12.2)))
  else
    (nm (sI σ 87 3 ((σ.1 87 3) - (1 : Int32))) (fun σ2 : St =>
    f_X6_back_26 (fun (σ11 : St) =>
      some ((σ11.1 87 3), σ11)) 1000 (0 : Int32) σ2))
abbrev mX6_back : Me := (yX6_back, cX6_back, 2, (some .int), 1, 21)
set_option maxRecDepth 100000 in
set_option maxHeartbeats 4000000 in
theorem l_X6_back_26 {Γ : Cxt} (G : OK Γ RX6 cX6_back 2 (some .int) 1 21) {res : Int32 × St} (hR : RetOK Γ (some (.int res.1)) res.2) (k5 : St → Option (Int32 × St)) (hk : ∀ (z : St), k5 z = some res → WW Γ 58 [some (.ref 87), none] [] z) : ∀ (n6 : Nat) (x3 : Int32) (σ4 : St), f_X6_back_26 k5 n6 x3 σ4 = some res → WW Γ 26 [some (.ref 87), some (.int x3)] [] σ4 := by
  intro n6
  induction n6 with
  | zero =>
    intro x3 σ4 hf
    cases hf
  | succ n6 ih =>
    intro x3 σ4 hf
    unfold f_X6_back_26 at hf
    refine s_iload_n G dX6_back_26 rfl ?_
    refine s_bipush G dX6_back_27 (v := 58) (by decide) ?_
    refine s_icmp_ge (tgt := 58) G dX6_back_29 (by decide) (fun c7 => ?_) (fun c7 => ?_)
    · replace hf := ifp c7 hf
      refine s_fgt [true, false] rfl ?_
      exact hk σ4 hf
    · replace hf := ifn c7 hf
      refine s_aload_n G dX6_back_32 rfl ?_
      refine s_getR G dX6_back_33 lkF_X6_7 (by decide) rfl rfl ?_
      refine s_iload_n G dX6_back_36 rfl ?_
      refine s_aload_n G dX6_back_37 rfl ?_
      refine s_getR G dX6_back_38 lkF_X6_13 (by decide) rfl rfl ?_
      refine s_bipush G dX6_back_41 (v := 58) (by decide) ?_
      refine s_aload_n G dX6_back_43 rfl ?_
      refine s_getI (n := 0) G dX6_back_44 lkF_X6_120 (by decide) rfl rfl ?_
      refine s_imul G dX6_back_47 ?_
      refine s_iload_n G dX6_back_48 rfl ?_
      refine s_iadd G dX6_back_49 ?_
      have h8 := chk_1 hf
      replace hf := chk_2 hf
      refine s_iald G dX6_back_50 (by decide) rfl h8 ?_
      have h9 := chk_1 hf
      replace hf := chk_2 hf
      refine s_iast G dX6_back_51 (by decide) rfl h9 ?_
      refine s_st (fun σ10 eσ10 => ?_)
      replace hf := nm_at eσ10 hf
      refine s_iinc G dX6_back_52 rfl (v := (x3 + 1)) rfl (by decide) rfl rfl ?_
      refine s_goto (tgt := 26) G dX6_back_55 (by decide) ?_
      exact ih (x3 + 1) σ10 hf
set_option maxRecDepth 100000 in
set_option maxHeartbeats 4000000 in
theorem c_X6_back  {σ : St} {res : Int32 × St} (hf : f_X6_back σ = some res) : Mt mX6_back [.ref 87] σ (some (.int res.1)) res.2 := by
  unfold f_X6_back at hf
  refine mt_of (by decide) (Nat.le_of_ble_eq_true rfl) [some (.ref 87), none] rfl (fun Γ G hR => ?_)
  have G : OK Γ RX6 cX6_back 2 (some .int) 1 21 := G
  refine s_aload_n G dX6_back_0 rfl ?_
  refine s_getI (n := 0) G dX6_back_1 lkF_X6_120 (by decide) rfl rfl ?_
  refine s_if_ne (tgt := 14) G dX6_back_4 (by decide) (fun c1 => ?_) (fun c1 => ?_)
  · replace hf := ifn c1 hf
    refine s_aload_n G dX6_back_14 rfl ?_
    refine s_dup G dX6_back_15 rfl ?_
    refine s_getI (n := 0) G dX6_back_16 lkF_X6_120 (by decide) rfl rfl ?_
    refine s_iconst G dX6_back_19 (v := 1) (by decide) ?_
    refine s_isub G dX6_back_20 ?_
    refine s_putI G dX6_back_21 lkP_X6_120 (by decide) rfl rfl ?_
    refine s_st (fun σ2 eσ2 => ?_)
    replace hf := nm_at eσ2 hf
    refine s_iconst G dX6_back_24 (v := 0) (by decide) ?_
    refine s_istore_n G dX6_back_25 rfl (by decide) rfl rfl ?_
    refine l_X6_back_26 G hR _ (fun σ11 hf => ?_) 1000 (0 : Int32) σ2 hf
    refine s_aload_n G dX6_back_58 rfl ?_
    refine s_getI (n := 0) G dX6_back_59 lkF_X6_120 (by decide) rfl rfl ?_
    replace hf := Option.some.inj hf
    subst hf
    exact s_iret G hR dX6_back_62 rfl rfl
  · replace hf := ifp c1 hf
    refine s_aload_n G dX6_back_7 rfl ?_
    refine s_bipush G dX6_back_8 (v := -3) (by decide) ?_
    obtain ⟨q12, hq12, hf⟩ := bnd hf
    refine s_callV G dX6_back_10 (c_X6_refuses hq12) lkM_X6_130 yk_X6_refuses yv_X6_refuses (by decide) rfl rfl _ [] rfl rfl rfl (Nat.le_of_ble_eq_true rfl) (by decide) ?_
    replace hf := Option.some.inj hf
    subst hf
    exact s_iret G hR dX6_back_13 rfl rfl
def f_X6_toldOf (a1 : Int32) (σ : St) : Option (Int32 × St) :=
if (3 : Int32) ≤ a1 then
    (if a1 = (3 : Int32) then
      (some ((σ.1 88 (0 : Int32).toNatClampNeg), σ))
    else
      (if a1 = (4 : Int32) then
        (some ((σ.1 88 (1 : Int32).toNatClampNeg), σ))
      else
        (if a1 = (5 : Int32) then
          (some ((σ.1 87 6), σ))
        else
          (some ((σ.1 87 3), σ)))))
  else
    (chk (ib a1 3) (
    some ((σ.1 91 a1.toNatClampNeg), σ)))
abbrev mX6_toldOf : Me := (yX6_toldOf, cX6_toldOf, 2, (some .int), 0, 0)
set_option maxRecDepth 100000 in
set_option maxHeartbeats 4000000 in
theorem c_X6_toldOf {a1 : Int32} {σ : St} {res : Int32 × St} (hf : f_X6_toldOf a1 σ = some res) : Mt mX6_toldOf [.ref 87, .int a1] σ (some (.int res.1)) res.2 := by
  unfold f_X6_toldOf at hf
  refine mt_of (by decide) (Nat.le_of_ble_eq_true rfl) [some (.ref 87), some (.int a1)] rfl (fun Γ G hR => ?_)
  have G : OK Γ RX6 cX6_toldOf 2 (some .int) 0 0 := G
  refine s_iload_n G dX6_toldOf_0 rfl ?_
  refine s_iconst G dX6_toldOf_1 (v := 3) (by decide) ?_
  refine s_icmp_ge (tgt := 14) G dX6_toldOf_2 (by decide) (fun c1 => ?_) (fun c1 => ?_)
  · replace hf := ifp c1 hf
    refine s_iload_n G dX6_toldOf_14 rfl ?_
    refine s_iconst G dX6_toldOf_15 (v := 3) (by decide) ?_
    refine s_icmp_ne (tgt := 28) G dX6_toldOf_16 (by decide) (fun c2 => ?_) (fun c2 => ?_)
    · replace hf := ifn c2 hf
      refine s_iload_n G dX6_toldOf_28 rfl ?_
      refine s_iconst G dX6_toldOf_29 (v := 4) (by decide) ?_
      refine s_icmp_ne (tgt := 42) G dX6_toldOf_30 (by decide) (fun c3 => ?_) (fun c3 => ?_)
      · replace hf := ifn c3 hf
        refine s_iload_n G dX6_toldOf_42 rfl ?_
        refine s_iconst G dX6_toldOf_43 (v := 5) (by decide) ?_
        refine s_icmp_ne (tgt := 54) G dX6_toldOf_44 (by decide) (fun c4 => ?_) (fun c4 => ?_)
        · replace hf := ifn c4 hf
          refine s_aload_n G dX6_toldOf_54 rfl ?_
          refine s_getI (n := 0) G dX6_toldOf_55 lkF_X6_120 (by decide) rfl rfl ?_
          replace hf := Option.some.inj hf
          subst hf
          exact s_iret G hR dX6_toldOf_58 rfl rfl
        · replace hf := ifp c4 hf
          refine s_aload_n G dX6_toldOf_47 rfl ?_
          refine s_getI (n := 0) G dX6_toldOf_48 lkF_X6_240 (by decide) rfl rfl ?_
          refine s_goto (tgt := 58) G dX6_toldOf_51 (by decide) ?_
          replace hf := Option.some.inj hf
          subst hf
          exact s_iret G hR dX6_toldOf_58 rfl rfl
      · replace hf := ifp c3 hf
        refine s_aload_n G dX6_toldOf_33 rfl ?_
        refine s_getR G dX6_toldOf_34 lkF_X6_7 (by decide) rfl rfl ?_
        refine s_iconst G dX6_toldOf_37 (v := 1) (by decide) ?_
        refine s_iald G dX6_toldOf_38 (by decide) rfl (by decide) ?_
        refine s_goto (tgt := 58) G dX6_toldOf_39 (by decide) ?_
        replace hf := Option.some.inj hf
        subst hf
        exact s_iret G hR dX6_toldOf_58 rfl rfl
    · replace hf := ifp c2 hf
      refine s_aload_n G dX6_toldOf_19 rfl ?_
      refine s_getR G dX6_toldOf_20 lkF_X6_7 (by decide) rfl rfl ?_
      refine s_iconst G dX6_toldOf_23 (v := 0) (by decide) ?_
      refine s_iald G dX6_toldOf_24 (by decide) rfl (by decide) ?_
      refine s_goto (tgt := 58) G dX6_toldOf_25 (by decide) ?_
      replace hf := Option.some.inj hf
      subst hf
      exact s_iret G hR dX6_toldOf_58 rfl rfl
  · replace hf := ifn c1 hf
    refine s_aload_n G dX6_toldOf_5 rfl ?_
    refine s_getR G dX6_toldOf_6 lkF_X6_19 (by decide) rfl rfl ?_
    refine s_iload_n G dX6_toldOf_9 rfl ?_
    have h5 := chk_1 hf
    replace hf := chk_2 hf
    refine s_iald G dX6_toldOf_10 (by decide) rfl h5 ?_
    refine s_goto (tgt := 58) G dX6_toldOf_11 (by decide) ?_
    replace hf := Option.some.inj hf
    subst hf
    exact s_iret G hR dX6_toldOf_58 rfl rfl
def f_X6_told (a1 : Int32) (σ : St) : Option (Int32 × St) :=
(f_X6_in a1.toInt64 (0 : Int64) (6 : Int64) σ).bind (fun q1 =>
  if q1.1 = 0 then
    ((f_X6_refuses (-2 : Int32) q1.2).bind (fun q3 =>
    some (q3.1, q3.2)))
  else
    ((f_X6_toldOf a1 q1.2).bind (fun q4 =>
    some (q4.1, q4.2))))
abbrev mX6_told : Me := (yX6_told, cX6_told, 2, (some .int), 1, 25)
set_option maxRecDepth 100000 in
set_option maxHeartbeats 4000000 in
theorem c_X6_told {a1 : Int32} {σ : St} {res : Int32 × St} (hf : f_X6_told a1 σ = some res) : Mt mX6_told [.ref 87, .int a1] σ (some (.int res.1)) res.2 := by
  unfold f_X6_told at hf
  refine mt_of (by decide) (Nat.le_of_ble_eq_true rfl) [some (.ref 87), some (.int a1)] rfl (fun Γ G hR => ?_)
  have G : OK Γ RX6 cX6_told 2 (some .int) 1 25 := G
  refine s_iload_n G dX6_told_0 rfl ?_
  refine s_i2l G dX6_told_1 ?_
  refine s_lconst G dX6_told_2 (v := 0) (by decide) ?_
  refine s_ldc2 G dX6_told_3 kc_X6_125 ?_
  obtain ⟨q1, hq1, hf⟩ := bnd hf
  refine s_callS G dX6_told_6 (c_X6_in hq1) lkM_X6_65 yk_X6_in ys_X6_in _ [] rfl rfl rfl (Nat.le_of_ble_eq_true rfl) (by decide) ?_
  refine s_if_eq (tgt := 20) G dX6_told_9 (by decide) (fun c2 => ?_) (fun c2 => ?_)
  · replace hf := ifp c2 hf
    refine s_aload_n G dX6_told_20 rfl ?_
    refine s_bipush G dX6_told_21 (v := -2) (by decide) ?_
    obtain ⟨q3, hq3, hf⟩ := bnd hf
    refine s_callV G dX6_told_23 (c_X6_refuses hq3) lkM_X6_130 yk_X6_refuses yv_X6_refuses (by decide) rfl rfl _ [] rfl rfl rfl (Nat.le_of_ble_eq_true rfl) (by decide) ?_
    replace hf := Option.some.inj hf
    subst hf
    exact s_iret G hR dX6_told_26 rfl rfl
  · replace hf := ifn c2 hf
    refine s_aload_n G dX6_told_12 rfl ?_
    refine s_iload_n G dX6_told_13 rfl ?_
    obtain ⟨q4, hq4, hf⟩ := bnd hf
    refine s_callV G dX6_told_14 (c_X6_toldOf hq4) lkM_X6_280 yk_X6_toldOf yv_X6_toldOf (by decide) rfl rfl _ [] rfl rfl rfl (Nat.le_of_ble_eq_true rfl) (by decide) ?_
    refine s_goto (tgt := 26) G dX6_told_17 (by decide) ?_
    replace hf := Option.some.inj hf
    subst hf
    exact s_iret G hR dX6_told_26 rfl rfl
def f_X6_digest_6 (k4 : Int64 → St → Option (Int64 × St)) : Nat → Int64 → Int32 → St → Option (Int64 × St)
  | 0, _, _, _ => none
  | n5 + 1, x1, x2, σ3 =>
    if (7 : Int32) ≤ x2 then
      (k4 x1 σ3)
    else
      ((f_X6_toldOf x2 σ3).bind (fun q7 =>
      nm (((31 : Int64) * x1) + q7.1.toInt64) (fun x8 : Int64 =>
      f_X6_digest_6 k4 n5 x8 (x2 + 1) q7.2)))
def f_X6_digest_41 (k16 : Int64 → St → Option (Int64 × St)) : Nat → Int64 → Int32 → St → Option (Int64 × St)
  | 0, _, _, _ => none
  | n17 + 1, x13, x14, σ15 =>
    if (σ15.1 88 (0 : Int32).toNatClampNeg) ≤ x14 then
      (k16 x13 σ15)
    else
      (chk (ib ((2 : Int32) + x14) 58) (
      nm (((31 : Int64) * x13) + (σ15.1 88 ((2 : Int32) + x14).toNatClampNeg).toInt64) (fun x20 : Int64 =>
      chk (ib x14 6) (
      nm (((31 : Int64) * x20) + (σ15.1 94 x14.toNatClampNeg).toInt64) (fun x22 : Int64 =>
      f_X6_digest_41 k16 n17 x22 (x14 + 1) σ15)))))
def f_X6_digest_102 (x26 : Int32) (k34 : Int64 → St → Option (Int64 × St)) : Nat → Int64 → Int32 → St → Option (Int64 × St)
  | 0, _, _, _ => none
  | n35 + 1, x31, x32, σ33 =>
    if (6 : Int32) ≤ x32 then
      (k34 x31 σ33)
    else
      (if (5 : Int32) ≤ x32 then
        ((f_X6_isBridge x26 σ33).bind (fun q38 =>
        if q38.1 = 0 then
          (nm (((31 : Int64) * x31) + (0 : Int32).toInt64) (fun x40 : Int64 =>
          f_X6_digest_102 x26 k34 n35 x40 (x32 + 1) q38.2))
        else
          (nm (((31 : Int64) * x31) + (1 : Int32).toInt64) (fun x41 : Int64 =>
          f_X6_digest_102 x26 k34 n35 x41 (x32 + 1) q38.2))))
      else
        ((f_X6_lineAt x26 x32 σ33).bind (fun q42 =>
        nm (((31 : Int64) * x31) + q42.1.toInt64) (fun x43 : Int64 =>
        f_X6_digest_102 x26 k34 n35 x43 (x32 + 1) q42.2))))
def f_X6_digest_89 (k28 : Int64 → St → Option (Int64 × St)) : Nat → Int64 → Int32 → St → Option (Int64 × St)
  | 0, _, _, _ => none
  | n29 + 1, x25, x26, σ27 =>
    if (σ27.1 88 (1 : Int32).toNatClampNeg) ≤ x26 then
      (k28 x25 σ27)
    else
      (f_X6_digest_102 x26 (fun (x44 : Int64) (σ45 : St) =>
        (f_X6_asTold σ45).bind (fun q46 =>
        (f_X6_inSet q46).bind (fun q47 =>
        (f_X6_solves q47.1 q47.2).bind (fun q48 =>
        (f_X6_inSet q48).bind (fun q49 =>
        (f_X6_flowTold x26 q49.1 (0 : Int32) q49.2).bind (fun q50 =>
        nm (((31 : Int64) * x44) + q50.1) (fun x51 : Int64 =>
        (f_X6_inSet q50.2).bind (fun q52 =>
        (f_X6_flowTold x26 q52.1 (1 : Int32) q52.2).bind (fun q53 =>
        nm (((31 : Int64) * x51) + q53.1) (fun x54 : Int64 =>
        f_X6_digest_89 k28 n29 x54 (x26 + 1) q53.2)))))))))) 1000 x25 (0 : Int32) σ27)
def f_X6_digest_226 (k63 : Int64 → St → Option (Int64 × St)) : Nat → Int64 → Int32 → St → Option (Int64 × St)
  | 0, _, _, _ => none
  | n64 + 1, x60, x61, σ62 =>
    if (6 : Int32) ≤ x61 then
      (k63 x60 σ62)
    else
      ((f_X6_countOf x61 σ62).bind (fun q66 =>
      nm (((31 : Int64) * x60) + q66.1.toInt64) (fun x67 : Int64 =>
      f_X6_digest_226 k63 n64 x67 (x61 + 1) q66.2)))
def f_X6_digest (σ : St) : Option (Int64 × St) :=
f_X6_digest_6 (fun (x9 : Int64) (σ10 : St) =>
    (f_X6_inSet σ10).bind (fun q11 =>
    (f_X6_parts q11.1 q11.2).bind (fun q12 =>
    f_X6_digest_41 (fun (x23 : Int64) (σ24 : St) =>
      f_X6_digest_89 (fun (x55 : Int64) (σ56 : St) =>
        (f_X6_inSet σ56).bind (fun q57 =>
        (f_X6_judges q57.1 q57.2).bind (fun q58 =>
        nm (((31 : Int64) * x55) + (q58.1 87 15).toInt64) (fun x59 : Int64 =>
        f_X6_digest_226 (fun (x68 : Int64) (σ69 : St) =>
          some (x68, σ69)) 1000 x59 (0 : Int32) q58)))) 1000 x23 (0 : Int32) σ24) 1000 x9 (0 : Int32) q12))) 1000 (1898 : Int64) (0 : Int32) σ
abbrev mX6_digest : Me := (yX6_digest, cX6_digest, 5, (some .long), 8, 197)
set_option maxRecDepth 100000 in
set_option maxHeartbeats 4000000 in
theorem l_X6_digest_6 {Γ : Cxt} (G : OK Γ RX6 cX6_digest 5 (some .long) 8 197) {res : Int64 × St} (hR : RetOK Γ (some (.long res.1)) res.2) (k4 : Int64 → St → Option (Int64 × St)) (hk : ∀ (y1 : Int64) (z : St), k4 y1 z = some res → WW Γ 31 [some (.ref 87), some (.long y1), none, none, none] [] z) : ∀ (n5 : Nat) (x1 : Int64) (x2 : Int32) (σ3 : St), f_X6_digest_6 k4 n5 x1 x2 σ3 = some res → WW Γ 6 [some (.ref 87), some (.long x1), none, some (.int x2), none] [] σ3 := by
  intro n5
  induction n5 with
  | zero =>
    intro x1 x2 σ3 hf
    cases hf
  | succ n5 ih =>
    intro x1 x2 σ3 hf
    unfold f_X6_digest_6 at hf
    refine s_iload_n G dX6_digest_6 rfl ?_
    refine s_bipush G dX6_digest_7 (v := 7) (by decide) ?_
    refine s_icmp_ge (tgt := 31) G dX6_digest_9 (by decide) (fun c6 => ?_) (fun c6 => ?_)
    · replace hf := ifp c6 hf
      refine s_fgt [true, true, true, false, true] rfl ?_
      exact hk x1 σ3 hf
    · replace hf := ifn c6 hf
      refine s_ldc2 G dX6_digest_12 kc_X6_285 ?_
      refine s_lload_n G dX6_digest_15 rfl ?_
      refine s_lmul G dX6_digest_16 ?_
      refine s_aload_n G dX6_digest_17 rfl ?_
      refine s_iload_n G dX6_digest_18 rfl ?_
      obtain ⟨q7, hq7, hf⟩ := bnd hf
      refine s_callV G dX6_digest_19 (c_X6_toldOf hq7) lkM_X6_280 yk_X6_toldOf yv_X6_toldOf (by decide) rfl rfl _ [.long ((31 : Int64) * x1)] rfl rfl rfl (Nat.le_of_ble_eq_true rfl) (by decide) ?_
      refine s_i2l G dX6_digest_22 ?_
      refine s_ladd G dX6_digest_23 ?_
      refine s_topl (fun x8 ex8 => ?_)
      replace hf := nm_at ex8 hf
      refine s_lstore_n G dX6_digest_24 rfl (by decide) rfl rfl ?_
      refine s_iinc G dX6_digest_25 rfl (v := (x2 + 1)) rfl (by decide) rfl rfl ?_
      refine s_goto (tgt := 6) G dX6_digest_28 (by decide) ?_
      exact ih x8 (x2 + 1) q7.2 hf
set_option maxRecDepth 100000 in
set_option maxHeartbeats 4000000 in
theorem l_X6_digest_41 {Γ : Cxt} (G : OK Γ RX6 cX6_digest 5 (some .long) 8 197) {res : Int64 × St} (hR : RetOK Γ (some (.long res.1)) res.2) (k16 : Int64 → St → Option (Int64 × St)) (hk : ∀ (y1 : Int64) (z : St), k16 y1 z = some res → WW Γ 87 [some (.ref 87), some (.long y1), none, none, none] [] z) : ∀ (n17 : Nat) (x13 : Int64) (x14 : Int32) (σ15 : St), f_X6_digest_41 k16 n17 x13 x14 σ15 = some res → WW Γ 41 [some (.ref 87), some (.long x13), none, some (.int x14), none] [] σ15 := by
  intro n17
  induction n17 with
  | zero =>
    intro x13 x14 σ15 hf
    cases hf
  | succ n17 ih =>
    intro x13 x14 σ15 hf
    unfold f_X6_digest_41 at hf
    refine s_iload_n G dX6_digest_41 rfl ?_
    refine s_aload_n G dX6_digest_42 rfl ?_
    refine s_getR G dX6_digest_43 lkF_X6_7 (by decide) rfl rfl ?_
    refine s_iconst G dX6_digest_46 (v := 0) (by decide) ?_
    refine s_iald G dX6_digest_47 (by decide) rfl (by decide) ?_
    refine s_icmp_ge (tgt := 87) G dX6_digest_48 (by decide) (fun c18 => ?_) (fun c18 => ?_)
    · replace hf := ifp c18 hf
      refine s_fgt [true, true, true, false, true] rfl ?_
      exact hk x13 σ15 hf
    · replace hf := ifn c18 hf
      refine s_ldc2 G dX6_digest_51 kc_X6_285 ?_
      refine s_lload_n G dX6_digest_54 rfl ?_
      refine s_lmul G dX6_digest_55 ?_
      refine s_aload_n G dX6_digest_56 rfl ?_
      refine s_getR G dX6_digest_57 lkF_X6_7 (by decide) rfl rfl ?_
      refine s_iconst G dX6_digest_60 (v := 2) (by decide) ?_
      refine s_iload_n G dX6_digest_61 rfl ?_
      refine s_iadd G dX6_digest_62 ?_
      have h19 := chk_1 hf
      replace hf := chk_2 hf
      refine s_iald G dX6_digest_63 (by decide) rfl h19 ?_
      refine s_i2l G dX6_digest_64 ?_
      refine s_ladd G dX6_digest_65 ?_
      refine s_topl (fun x20 ex20 => ?_)
      replace hf := nm_at ex20 hf
      refine s_lstore_n G dX6_digest_66 rfl (by decide) rfl rfl ?_
      refine s_ldc2 G dX6_digest_67 kc_X6_285 ?_
      refine s_lload_n G dX6_digest_70 rfl ?_
      refine s_lmul G dX6_digest_71 ?_
      refine s_aload_n G dX6_digest_72 rfl ?_
      refine s_getR G dX6_digest_73 lkF_X6_29 (by decide) rfl rfl ?_
      refine s_iload_n G dX6_digest_76 rfl ?_
      have h21 := chk_1 hf
      replace hf := chk_2 hf
      refine s_iald G dX6_digest_77 (by decide) rfl h21 ?_
      refine s_i2l G dX6_digest_78 ?_
      refine s_ladd G dX6_digest_79 ?_
      refine s_topl (fun x22 ex22 => ?_)
      replace hf := nm_at ex22 hf
      refine s_lstore_n G dX6_digest_80 rfl (by decide) rfl rfl ?_
      refine s_iinc G dX6_digest_81 rfl (v := (x14 + 1)) rfl (by decide) rfl rfl ?_
      refine s_goto (tgt := 41) G dX6_digest_84 (by decide) ?_
      exact ih x22 (x14 + 1) σ15 hf
set_option maxRecDepth 100000 in
set_option maxHeartbeats 4000000 in
theorem l_X6_digest_102 {Γ : Cxt} (G : OK Γ RX6 cX6_digest 5 (some .long) 8 197) {res : Int64 × St} (hR : RetOK Γ (some (.long res.1)) res.2) (x26 : Int32) (k34 : Int64 → St → Option (Int64 × St)) (hk : ∀ (y1 : Int64) (z : St), k34 y1 z = some res → WW Γ 152 [some (.ref 87), some (.long y1), none, some (.int x26), none] [] z) : ∀ (n35 : Nat) (x31 : Int64) (x32 : Int32) (σ33 : St), f_X6_digest_102 x26 k34 n35 x31 x32 σ33 = some res → WW Γ 102 [some (.ref 87), some (.long x31), none, some (.int x26), some (.int x32)] [] σ33 := by
  intro n35
  induction n35 with
  | zero =>
    intro x31 x32 σ33 hf
    cases hf
  | succ n35 ih =>
    intro x31 x32 σ33 hf
    unfold f_X6_digest_102 at hf
    refine s_iload G dX6_digest_102 rfl ?_
    refine s_bipush G dX6_digest_104 (v := 6) (by decide) ?_
    refine s_icmp_ge (tgt := 152) G dX6_digest_106 (by decide) (fun c36 => ?_) (fun c36 => ?_)
    · replace hf := ifp c36 hf
      refine s_fgt [true, true, true, true, false] rfl ?_
      exact hk x31 σ33 hf
    · replace hf := ifn c36 hf
      refine s_ldc2 G dX6_digest_109 kc_X6_285 ?_
      refine s_lload_n G dX6_digest_112 rfl ?_
      refine s_lmul G dX6_digest_113 ?_
      refine s_iload G dX6_digest_114 rfl ?_
      refine s_iconst G dX6_digest_116 (v := 5) (by decide) ?_
      refine s_icmp_ge (tgt := 130) G dX6_digest_117 (by decide) (fun c37 => ?_) (fun c37 => ?_)
      · replace hf := ifp c37 hf
        refine s_aload_n G dX6_digest_130 rfl ?_
        refine s_iload_n G dX6_digest_131 rfl ?_
        obtain ⟨q38, hq38, hf⟩ := bnd hf
        refine s_callV G dX6_digest_132 (c_X6_isBridge hq38) lkM_X6_183 yk_X6_isBridge yv_X6_isBridge (by decide) rfl rfl _ [.long ((31 : Int64) * x31)] rfl rfl rfl (Nat.le_of_ble_eq_true rfl) (by decide) ?_
        refine s_if_eq (tgt := 142) G dX6_digest_135 (by decide) (fun c39 => ?_) (fun c39 => ?_)
        · replace hf := ifp c39 hf
          refine s_iconst G dX6_digest_142 (v := 0) (by decide) ?_
          refine s_i2l G dX6_digest_143 ?_
          refine s_ladd G dX6_digest_144 ?_
          refine s_topl (fun x40 ex40 => ?_)
          replace hf := nm_at ex40 hf
          refine s_lstore_n G dX6_digest_145 rfl (by decide) rfl rfl ?_
          refine s_iinc G dX6_digest_146 rfl (v := (x32 + 1)) rfl (by decide) rfl rfl ?_
          refine s_goto (tgt := 102) G dX6_digest_149 (by decide) ?_
          exact ih x40 (x32 + 1) q38.2 hf
        · replace hf := ifn c39 hf
          refine s_iconst G dX6_digest_138 (v := 1) (by decide) ?_
          refine s_goto (tgt := 143) G dX6_digest_139 (by decide) ?_
          refine s_i2l G dX6_digest_143 ?_
          refine s_ladd G dX6_digest_144 ?_
          refine s_topl (fun x41 ex41 => ?_)
          replace hf := nm_at ex41 hf
          refine s_lstore_n G dX6_digest_145 rfl (by decide) rfl rfl ?_
          refine s_iinc G dX6_digest_146 rfl (v := (x32 + 1)) rfl (by decide) rfl rfl ?_
          refine s_goto (tgt := 102) G dX6_digest_149 (by decide) ?_
          exact ih x41 (x32 + 1) q38.2 hf
      · replace hf := ifn c37 hf
        refine s_aload_n G dX6_digest_120 rfl ?_
        refine s_iload_n G dX6_digest_121 rfl ?_
        refine s_iload G dX6_digest_122 rfl ?_
        obtain ⟨q42, hq42, hf⟩ := bnd hf
        refine s_callV G dX6_digest_124 (c_X6_lineAt hq42) lkM_X6_69 yk_X6_lineAt yv_X6_lineAt (by decide) rfl rfl _ [.long ((31 : Int64) * x31)] rfl rfl rfl (Nat.le_of_ble_eq_true rfl) (by decide) ?_
        refine s_goto (tgt := 143) G dX6_digest_127 (by decide) ?_
        refine s_i2l G dX6_digest_143 ?_
        refine s_ladd G dX6_digest_144 ?_
        refine s_topl (fun x43 ex43 => ?_)
        replace hf := nm_at ex43 hf
        refine s_lstore_n G dX6_digest_145 rfl (by decide) rfl rfl ?_
        refine s_iinc G dX6_digest_146 rfl (v := (x32 + 1)) rfl (by decide) rfl rfl ?_
        refine s_goto (tgt := 102) G dX6_digest_149 (by decide) ?_
        exact ih x43 (x32 + 1) q42.2 hf
set_option maxRecDepth 100000 in
set_option maxHeartbeats 4000000 in
theorem l_X6_digest_89 {Γ : Cxt} (G : OK Γ RX6 cX6_digest 5 (some .long) 8 197) {res : Int64 × St} (hR : RetOK Γ (some (.long res.1)) res.2) (k28 : Int64 → St → Option (Int64 × St)) (hk : ∀ (y1 : Int64) (z : St), k28 y1 z = some res → WW Γ 204 [some (.ref 87), some (.long y1), none, none, none] [] z) : ∀ (n29 : Nat) (x25 : Int64) (x26 : Int32) (σ27 : St), f_X6_digest_89 k28 n29 x25 x26 σ27 = some res → WW Γ 89 [some (.ref 87), some (.long x25), none, some (.int x26), none] [] σ27 := by
  intro n29
  induction n29 with
  | zero =>
    intro x25 x26 σ27 hf
    cases hf
  | succ n29 ih =>
    intro x25 x26 σ27 hf
    unfold f_X6_digest_89 at hf
    refine s_iload_n G dX6_digest_89 rfl ?_
    refine s_aload_n G dX6_digest_90 rfl ?_
    refine s_getR G dX6_digest_91 lkF_X6_7 (by decide) rfl rfl ?_
    refine s_iconst G dX6_digest_94 (v := 1) (by decide) ?_
    refine s_iald G dX6_digest_95 (by decide) rfl (by decide) ?_
    refine s_icmp_ge (tgt := 204) G dX6_digest_96 (by decide) (fun c30 => ?_) (fun c30 => ?_)
    · replace hf := ifp c30 hf
      refine s_fgt [true, true, true, false, true] rfl ?_
      exact hk x25 σ27 hf
    · replace hf := ifn c30 hf
      refine s_iconst G dX6_digest_99 (v := 0) (by decide) ?_
      refine s_istore G dX6_digest_100 (by decide) rfl rfl ?_
      refine l_X6_digest_102 G hR x26 _ (fun x44 σ45 hf => ?_) 1000 x25 (0 : Int32) σ27 hf
      refine s_aload_n G dX6_digest_152 rfl ?_
      obtain ⟨q46, hq46, hf⟩ := bnd hf
      refine s_callV G dX6_digest_153 (c_X6_asTold hq46) lkM_X6_186 yk_X6_asTold yv_X6_asTold (by decide) rfl rfl _ [] rfl rfl rfl (Nat.le_of_ble_eq_true rfl) (by decide) ?_
      refine s_aload_n G dX6_digest_156 rfl ?_
      refine s_aload_n G dX6_digest_157 rfl ?_
      obtain ⟨q47, hq47, hf⟩ := bnd hf
      refine s_callV G dX6_digest_158 (c_X6_inSet hq47) lkM_X6_179 yk_X6_inSet yv_X6_inSet (by decide) rfl rfl _ [.ref 87] rfl rfl rfl (Nat.le_of_ble_eq_true rfl) (by decide) ?_
      obtain ⟨q48, hq48, hf⟩ := bnd hf
      refine s_callV G dX6_digest_161 (c_X6_solves hq48) lkM_X6_189 yk_X6_solves yv_X6_solves (by decide) rfl rfl _ [] rfl rfl rfl (Nat.le_of_ble_eq_true rfl) (by decide) ?_
      refine s_ldc2 G dX6_digest_164 kc_X6_285 ?_
      refine s_lload_n G dX6_digest_167 rfl ?_
      refine s_lmul G dX6_digest_168 ?_
      refine s_aload_n G dX6_digest_169 rfl ?_
      refine s_iload_n G dX6_digest_170 rfl ?_
      refine s_aload_n G dX6_digest_171 rfl ?_
      obtain ⟨q49, hq49, hf⟩ := bnd hf
      refine s_callV G dX6_digest_172 (c_X6_inSet hq49) lkM_X6_179 yk_X6_inSet yv_X6_inSet (by decide) rfl rfl _ [.int x26, .ref 87, .long ((31 : Int64) * x44)] rfl rfl rfl (Nat.le_of_ble_eq_true rfl) (by decide) ?_
      refine s_iconst G dX6_digest_175 (v := 0) (by decide) ?_
      obtain ⟨q50, hq50, hf⟩ := bnd hf
      refine s_callV G dX6_digest_176 (c_X6_flowTold hq50) lkM_X6_192 yk_X6_flowTold yv_X6_flowTold (by decide) rfl rfl _ [.long ((31 : Int64) * x44)] rfl rfl rfl (Nat.le_of_ble_eq_true rfl) (by decide) ?_
      refine s_ladd G dX6_digest_179 ?_
      refine s_topl (fun x51 ex51 => ?_)
      replace hf := nm_at ex51 hf
      refine s_lstore_n G dX6_digest_180 rfl (by decide) rfl rfl ?_
      refine s_ldc2 G dX6_digest_181 kc_X6_285 ?_
      refine s_lload_n G dX6_digest_184 rfl ?_
      refine s_lmul G dX6_digest_185 ?_
      refine s_aload_n G dX6_digest_186 rfl ?_
      refine s_iload_n G dX6_digest_187 rfl ?_
      refine s_aload_n G dX6_digest_188 rfl ?_
      obtain ⟨q52, hq52, hf⟩ := bnd hf
      refine s_callV G dX6_digest_189 (c_X6_inSet hq52) lkM_X6_179 yk_X6_inSet yv_X6_inSet (by decide) rfl rfl _ [.int x26, .ref 87, .long ((31 : Int64) * x51)] rfl rfl rfl (Nat.le_of_ble_eq_true rfl) (by decide) ?_
      refine s_iconst G dX6_digest_192 (v := 1) (by decide) ?_
      obtain ⟨q53, hq53, hf⟩ := bnd hf
      refine s_callV G dX6_digest_193 (c_X6_flowTold hq53) lkM_X6_192 yk_X6_flowTold yv_X6_flowTold (by decide) rfl rfl _ [.long ((31 : Int64) * x51)] rfl rfl rfl (Nat.le_of_ble_eq_true rfl) (by decide) ?_
      refine s_ladd G dX6_digest_196 ?_
      refine s_topl (fun x54 ex54 => ?_)
      replace hf := nm_at ex54 hf
      refine s_lstore_n G dX6_digest_197 rfl (by decide) rfl rfl ?_
      refine s_iinc G dX6_digest_198 rfl (v := (x26 + 1)) rfl (by decide) rfl rfl ?_
      refine s_goto (tgt := 89) G dX6_digest_201 (by decide) ?_
      exact ih x54 (x26 + 1) q53.2 hf
set_option maxRecDepth 100000 in
set_option maxHeartbeats 4000000 in
theorem l_X6_digest_226 {Γ : Cxt} (G : OK Γ RX6 cX6_digest 5 (some .long) 8 197) {res : Int64 × St} (hR : RetOK Γ (some (.long res.1)) res.2) (k63 : Int64 → St → Option (Int64 × St)) (hk : ∀ (y1 : Int64) (z : St), k63 y1 z = some res → WW Γ 251 [none, some (.long y1), none, none, none] [] z) : ∀ (n64 : Nat) (x60 : Int64) (x61 : Int32) (σ62 : St), f_X6_digest_226 k63 n64 x60 x61 σ62 = some res → WW Γ 226 [some (.ref 87), some (.long x60), none, some (.int x61), none] [] σ62 := by
  intro n64
  induction n64 with
  | zero =>
    intro x60 x61 σ62 hf
    cases hf
  | succ n64 ih =>
    intro x60 x61 σ62 hf
    unfold f_X6_digest_226 at hf
    refine s_iload_n G dX6_digest_226 rfl ?_
    refine s_bipush G dX6_digest_227 (v := 6) (by decide) ?_
    refine s_icmp_ge (tgt := 251) G dX6_digest_229 (by decide) (fun c65 => ?_) (fun c65 => ?_)
    · replace hf := ifp c65 hf
      refine s_fgt [false, true, true, false, true] rfl ?_
      exact hk x60 σ62 hf
    · replace hf := ifn c65 hf
      refine s_ldc2 G dX6_digest_232 kc_X6_285 ?_
      refine s_lload_n G dX6_digest_235 rfl ?_
      refine s_lmul G dX6_digest_236 ?_
      refine s_aload_n G dX6_digest_237 rfl ?_
      refine s_iload_n G dX6_digest_238 rfl ?_
      obtain ⟨q66, hq66, hf⟩ := bnd hf
      refine s_callV G dX6_digest_239 (c_X6_countOf hq66) lkM_X6_235 yk_X6_countOf yv_X6_countOf (by decide) rfl rfl _ [.long ((31 : Int64) * x60)] rfl rfl rfl (Nat.le_of_ble_eq_true rfl) (by decide) ?_
      refine s_i2l G dX6_digest_242 ?_
      refine s_ladd G dX6_digest_243 ?_
      refine s_topl (fun x67 ex67 => ?_)
      replace hf := nm_at ex67 hf
      refine s_lstore_n G dX6_digest_244 rfl (by decide) rfl rfl ?_
      refine s_iinc G dX6_digest_245 rfl (v := (x61 + 1)) rfl (by decide) rfl rfl ?_
      refine s_goto (tgt := 226) G dX6_digest_248 (by decide) ?_
      exact ih x67 (x61 + 1) q66.2 hf
set_option maxRecDepth 100000 in
set_option maxHeartbeats 4000000 in
theorem c_X6_digest  {σ : St} {res : Int64 × St} (hf : f_X6_digest σ = some res) : Mt mX6_digest [.ref 87] σ (some (.long res.1)) res.2 := by
  unfold f_X6_digest at hf
  refine mt_of (by decide) (Nat.le_of_ble_eq_true rfl) [some (.ref 87), none, none, none, none] rfl (fun Γ G hR => ?_)
  have G : OK Γ RX6 cX6_digest 5 (some .long) 8 197 := G
  refine s_ldc2 G dX6_digest_0 kc_X6_283 ?_
  refine s_lstore_n G dX6_digest_3 rfl (by decide) rfl rfl ?_
  refine s_iconst G dX6_digest_4 (v := 0) (by decide) ?_
  refine s_istore_n G dX6_digest_5 rfl (by decide) rfl rfl ?_
  refine l_X6_digest_6 G hR _ (fun x9 σ10 hf => ?_) 1000 (1898 : Int64) (0 : Int32) σ hf
  refine s_aload_n G dX6_digest_31 rfl ?_
  refine s_aload_n G dX6_digest_32 rfl ?_
  obtain ⟨q11, hq11, hf⟩ := bnd hf
  refine s_callV G dX6_digest_33 (c_X6_inSet hq11) lkM_X6_179 yk_X6_inSet yv_X6_inSet (by decide) rfl rfl _ [.ref 87] rfl rfl rfl (Nat.le_of_ble_eq_true rfl) (by decide) ?_
  obtain ⟨q12, hq12, hf⟩ := bnd hf
  refine s_callV G dX6_digest_36 (c_X6_parts hq12) lkM_X6_104 yk_X6_parts yv_X6_parts (by decide) rfl rfl _ [] rfl rfl rfl (Nat.le_of_ble_eq_true rfl) (by decide) ?_
  refine s_iconst G dX6_digest_39 (v := 0) (by decide) ?_
  refine s_istore_n G dX6_digest_40 rfl (by decide) rfl rfl ?_
  refine l_X6_digest_41 G hR _ (fun x23 σ24 hf => ?_) 1000 x9 (0 : Int32) q12 hf
  refine s_iconst G dX6_digest_87 (v := 0) (by decide) ?_
  refine s_istore_n G dX6_digest_88 rfl (by decide) rfl rfl ?_
  refine l_X6_digest_89 G hR _ (fun x55 σ56 hf => ?_) 1000 x23 (0 : Int32) σ24 hf
  refine s_aload_n G dX6_digest_204 rfl ?_
  refine s_aload_n G dX6_digest_205 rfl ?_
  obtain ⟨q57, hq57, hf⟩ := bnd hf
  refine s_callV G dX6_digest_206 (c_X6_inSet hq57) lkM_X6_179 yk_X6_inSet yv_X6_inSet (by decide) rfl rfl _ [.ref 87] rfl rfl rfl (Nat.le_of_ble_eq_true rfl) (by decide) ?_
  obtain ⟨q58, hq58, hf⟩ := bnd hf
  refine s_callV G dX6_digest_209 (c_X6_judges hq58) lkM_X6_215 yk_X6_judges yv_X6_judges (by decide) rfl rfl _ [] rfl rfl rfl (Nat.le_of_ble_eq_true rfl) (by decide) ?_
  refine s_ldc2 G dX6_digest_212 kc_X6_285 ?_
  refine s_lload_n G dX6_digest_215 rfl ?_
  refine s_lmul G dX6_digest_216 ?_
  refine s_aload_n G dX6_digest_217 rfl ?_
  refine s_getI (n := 0) G dX6_digest_218 lkF_X6_200 (by decide) rfl rfl ?_
  refine s_i2l G dX6_digest_221 ?_
  refine s_ladd G dX6_digest_222 ?_
  refine s_topl (fun x59 ex59 => ?_)
  replace hf := nm_at ex59 hf
  refine s_lstore_n G dX6_digest_223 rfl (by decide) rfl rfl ?_
  refine s_iconst G dX6_digest_224 (v := 0) (by decide) ?_
  refine s_istore_n G dX6_digest_225 rfl (by decide) rfl rfl ?_
  refine l_X6_digest_226 G hR _ (fun x68 σ69 hf => ?_) 1000 x59 (0 : Int32) q58 hf
  refine s_lload_n G dX6_digest_251 rfl ?_
  replace hf := Option.some.inj hf
  subst hf
  exact s_lret G hR dX6_digest_252 rfl rfl
