def f_X5_within (a1 : Int32) (a2 : Int32) (a3 : Int32) (σ : St) : Option (Int32 × St) :=
if a1 < a2 then
    (some ((0 : Int32), σ))
  else
    (if a3 < a1 then
      (some ((0 : Int32), σ))
    else
      (some ((1 : Int32), σ)))
abbrev mX5_within : Me := (yX5_within, cX5_within, 3, (some .boolean), 0, 0)
set_option maxRecDepth 100000 in
set_option maxHeartbeats 4000000 in
theorem c_X5_within {a1 : Int32} {a2 : Int32} {a3 : Int32} {σ : St} {res : Int32 × St} (hf : f_X5_within a1 a2 a3 σ = some res) : Mt mX5_within [.int a1, .int a2, .int a3] σ (some (.int res.1)) res.2 := by
  unfold f_X5_within at hf
  refine mt_of (by decide) (Nat.le_of_ble_eq_true rfl) [some (.int a1), some (.int a2), some (.int a3)] rfl (fun Γ G hR => ?_)
  have G : OK Γ RX5 cX5_within 3 (some .boolean) 0 0 := G
  refine s_iload_n G dX5_within_0 rfl ?_
  refine s_iload_n G dX5_within_1 rfl ?_
  refine s_icmp_lt (tgt := 14) G dX5_within_2 (by decide) (fun c1 => ?_) (fun c1 => ?_)
  · replace hf := ifp c1 hf
    refine s_iconst G dX5_within_14 (v := 0) (by decide) ?_
    replace hf := Option.some.inj hf
    subst hf
    exact s_zret G hR dX5_within_15 (by decide) rfl rfl
  · replace hf := ifn c1 hf
    refine s_iload_n G dX5_within_5 rfl ?_
    refine s_iload_n G dX5_within_6 rfl ?_
    refine s_icmp_gt (tgt := 14) G dX5_within_7 (by decide) (fun c2 => ?_) (fun c2 => ?_)
    · replace hf := ifp c2 hf
      refine s_iconst G dX5_within_14 (v := 0) (by decide) ?_
      replace hf := Option.some.inj hf
      subst hf
      exact s_zret G hR dX5_within_15 (by decide) rfl rfl
    · replace hf := ifn c2 hf
      refine s_iconst G dX5_within_10 (v := 1) (by decide) ?_
      refine s_goto (tgt := 15) G dX5_within_11 (by decide) ?_
      replace hf := Option.some.inj hf
      subst hf
      exact s_zret G hR dX5_within_15 (by decide) rfl rfl
def f_X0_canHave (a1 : Int32) (σ : St) : Option (Int32 × St) :=
(f_X5_within a1 (2 : Int32) (6 : Int32) σ).bind (fun q1 =>
  chk (decide (q1.1 = 0 ∨ q1.1 = 1)) (
  some (q1.1, q1.2)))
abbrev mX0_canHave : Me := (yX0_canHave, cX0_canHave, 1, (some .boolean), 1, 22)
set_option maxRecDepth 100000 in
set_option maxHeartbeats 4000000 in
theorem c_X0_canHave {a1 : Int32} {σ : St} {res : Int32 × St} (hf : f_X0_canHave a1 σ = some res) : Mt mX0_canHave [.int a1] σ (some (.int res.1)) res.2 := by
  unfold f_X0_canHave at hf
  refine mt_of (by decide) (Nat.le_of_ble_eq_true rfl) [some (.int a1)] rfl (fun Γ G hR => ?_)
  have G : OK Γ RX0 cX0_canHave 1 (some .boolean) 1 22 := G
  refine s_iload_n G dX0_canHave_0 rfl ?_
  refine s_iconst G dX0_canHave_1 (v := 2) (by decide) ?_
  refine s_bipush G dX0_canHave_2 (v := 6) (by decide) ?_
  obtain ⟨q1, hq1, hf⟩ := bnd hf
  refine s_callS G dX0_canHave_4 (c_X5_within hq1) lkM_X0_38 yk_X5_within ys_X5_within _ [] rfl rfl rfl (Nat.le_of_ble_eq_true rfl) (by decide) ?_
  have h2 := chk_1 hf
  replace hf := chk_2 hf
  replace hf := Option.some.inj hf
  subst hf
  exact s_zret G hR dX0_canHave_7 h2 rfl rfl
def f_X0_copy_18 (γ : Nat) (γ2 : Nat) (k5 : St → Option (St)) : Nat → Int32 → St → Option (St)
  | 0, _, _ => none
  | n6 + 1, x3, σ4 =>
    if (6 : Int32) ≤ x3 then
      (k5 σ4)
    else
      (chk (ib x3 6) (
      nm (sI σ4 (24 + 7 * γ + 1) x3.toNatClampNeg (σ4.1 (24 + 7 * γ2 + 1) x3.toNatClampNeg)) (fun σ9 : St =>
      f_X0_copy_18 γ γ2 k5 n6 (x3 + 1) σ9)))
def f_X0_copy_44 (γ : Nat) (γ2 : Nat) (k13 : St → Option (St)) : Nat → Int32 → St → Option (St)
  | 0, _, _ => none
  | n14 + 1, x11, σ12 =>
    if (10 : Int32) ≤ x11 then
      (k13 σ12)
    else
      (chk (ib x11 10) (
      nm (sI σ12 (24 + 7 * γ + 2) x11.toNatClampNeg (σ12.1 (24 + 7 * γ2 + 2) x11.toNatClampNeg)) (fun σ17 : St =>
      nm (sI σ17 (24 + 7 * γ + 3) x11.toNatClampNeg (σ17.1 (24 + 7 * γ2 + 3) x11.toNatClampNeg)) (fun σ18 : St =>
      nm (sI σ18 (24 + 7 * γ + 4) x11.toNatClampNeg (σ18.1 (24 + 7 * γ2 + 4) x11.toNatClampNeg)) (fun σ19 : St =>
      nm (sI σ19 (24 + 7 * γ + 5) x11.toNatClampNeg (σ19.1 (24 + 7 * γ2 + 5) x11.toNatClampNeg)) (fun σ20 : St =>
      nm (sI σ20 (24 + 7 * γ + 6) x11.toNatClampNeg (vp_nar .boolean (σ20.1 (24 + 7 * γ2 + 6) x11.toNatClampNeg))) (fun σ21 : St =>
      f_X0_copy_44 γ γ2 k13 n14 (x11 + 1) σ21)))))))
def f_X0_copy (γ : Nat) (γ2 : Nat) (σ : St) : Option (St) :=
nm (sI σ (24 + 7 * γ) 6 (σ.1 (24 + 7 * γ2) 6)) (fun σ1 : St =>
  nm (sI σ1 (24 + 7 * γ) 7 (σ1.1 (24 + 7 * γ2) 7)) (fun σ2 : St =>
  f_X0_copy_18 γ γ2 (fun (σ10 : St) =>
    f_X0_copy_44 γ γ2 (fun (σ22 : St) =>
      some σ22) 1000 (0 : Int32) σ10) 1000 (0 : Int32) σ2))
abbrev mX0_copy : Me := (yX0_copy, cX0_copy, 3, none, 0, 0)
set_option maxRecDepth 100000 in
set_option maxHeartbeats 4000000 in
theorem l_X0_copy_18 {Γ : Cxt} (G : OK Γ RX0 cX0_copy 3 none 0 0) {res : St} (hR : RetOK Γ none res) (γ : Nat) (γ2 : Nat) (hγ : γ < 9) (hγ2 : γ2 < 9) (k5 : St → Option (St)) (hk : ∀ (z : St), k5 z = some res → WW Γ 42 [some (.ref (24 + 7 * γ)), some (.ref (24 + 7 * γ2)), none] [] z) : ∀ (n6 : Nat) (x3 : Int32) (σ4 : St), f_X0_copy_18 γ γ2 k5 n6 x3 σ4 = some res → WW Γ 18 [some (.ref (24 + 7 * γ)), some (.ref (24 + 7 * γ2)), some (.int x3)] [] σ4 := by
  intro n6
  induction n6 with
  | zero =>
    intro x3 σ4 hf
    cases hf
  | succ n6 ih =>
    intro x3 σ4 hf
    unfold f_X0_copy_18 at hf
    refine s_iload_n G dX0_copy_18 rfl ?_
    refine s_bipush G dX0_copy_19 (v := 6) (by decide) ?_
    refine s_icmp_ge (tgt := 42) G dX0_copy_21 (by decide) (fun c7 => ?_) (fun c7 => ?_)
    · replace hf := ifp c7 hf
      refine s_fgt [true, true, false] rfl ?_
      exact hk σ4 hf
    · replace hf := ifn c7 hf
      refine s_aload_n G dX0_copy_24 rfl ?_
      refine s_getR G dX0_copy_25 lkF_X0_9 (g_lt hγ) (kd_g0 hγ) rfl ?_
      refine s_iload_n G dX0_copy_28 rfl ?_
      refine s_aload_n G dX0_copy_29 rfl ?_
      refine s_getR G dX0_copy_30 lkF_X0_9 (g_lt hγ2) (kd_g0 hγ2) rfl ?_
      refine s_iload_n G dX0_copy_33 rfl ?_
      have h8 := chk_1 hf
      replace hf := chk_2 hf
      refine s_iald G dX0_copy_34 (ga_lt hγ2 (by decide)) (kd_ga hγ2 (by decide) (by decide)) h8 ?_
      refine s_iast G dX0_copy_35 (ga_lt hγ (by decide)) (kd_ga hγ (by decide) (by decide)) h8 ?_
      refine s_st (fun σ9 eσ9 => ?_)
      replace hf := nm_at eσ9 hf
      refine s_iinc G dX0_copy_36 rfl (v := (x3 + 1)) rfl (by decide) rfl rfl ?_
      refine s_goto (tgt := 18) G dX0_copy_39 (by decide) ?_
      exact ih (x3 + 1) σ9 hf
set_option maxRecDepth 100000 in
set_option maxHeartbeats 4000000 in
theorem l_X0_copy_44 {Γ : Cxt} (G : OK Γ RX0 cX0_copy 3 none 0 0) {res : St} (hR : RetOK Γ none res) (γ : Nat) (γ2 : Nat) (hγ : γ < 9) (hγ2 : γ2 < 9) (k13 : St → Option (St)) (hk : ∀ (z : St), k13 z = some res → WW Γ 116 [none, none, none] [] z) : ∀ (n14 : Nat) (x11 : Int32) (σ12 : St), f_X0_copy_44 γ γ2 k13 n14 x11 σ12 = some res → WW Γ 44 [some (.ref (24 + 7 * γ)), some (.ref (24 + 7 * γ2)), some (.int x11)] [] σ12 := by
  intro n14
  induction n14 with
  | zero =>
    intro x11 σ12 hf
    cases hf
  | succ n14 ih =>
    intro x11 σ12 hf
    unfold f_X0_copy_44 at hf
    refine s_iload_n G dX0_copy_44 rfl ?_
    refine s_bipush G dX0_copy_45 (v := 10) (by decide) ?_
    refine s_icmp_ge (tgt := 116) G dX0_copy_47 (by decide) (fun c15 => ?_) (fun c15 => ?_)
    · replace hf := ifp c15 hf
      refine s_fgt [false, false, false] rfl ?_
      exact hk σ12 hf
    · replace hf := ifn c15 hf
      refine s_aload_n G dX0_copy_50 rfl ?_
      refine s_getR G dX0_copy_51 lkF_X0_15 (g_lt hγ) (kd_g0 hγ) rfl ?_
      refine s_iload_n G dX0_copy_54 rfl ?_
      refine s_aload_n G dX0_copy_55 rfl ?_
      refine s_getR G dX0_copy_56 lkF_X0_15 (g_lt hγ2) (kd_g0 hγ2) rfl ?_
      refine s_iload_n G dX0_copy_59 rfl ?_
      have h16 := chk_1 hf
      replace hf := chk_2 hf
      refine s_iald G dX0_copy_60 (ga_lt hγ2 (by decide)) (kd_ga hγ2 (by decide) (by decide)) h16 ?_
      refine s_iast G dX0_copy_61 (ga_lt hγ (by decide)) (kd_ga hγ (by decide) (by decide)) h16 ?_
      refine s_st (fun σ17 eσ17 => ?_)
      replace hf := nm_at eσ17 hf
      refine s_aload_n G dX0_copy_62 rfl ?_
      refine s_getR G dX0_copy_63 lkF_X0_18 (g_lt hγ) (kd_g0 hγ) rfl ?_
      refine s_iload_n G dX0_copy_66 rfl ?_
      refine s_aload_n G dX0_copy_67 rfl ?_
      refine s_getR G dX0_copy_68 lkF_X0_18 (g_lt hγ2) (kd_g0 hγ2) rfl ?_
      refine s_iload_n G dX0_copy_71 rfl ?_
      refine s_iald G dX0_copy_72 (ga_lt hγ2 (by decide)) (kd_ga hγ2 (by decide) (by decide)) h16 ?_
      refine s_iast G dX0_copy_73 (ga_lt hγ (by decide)) (kd_ga hγ (by decide) (by decide)) h16 ?_
      refine s_st (fun σ18 eσ18 => ?_)
      replace hf := nm_at eσ18 hf
      refine s_aload_n G dX0_copy_74 rfl ?_
      refine s_getR G dX0_copy_75 lkF_X0_21 (g_lt hγ) (kd_g0 hγ) rfl ?_
      refine s_iload_n G dX0_copy_78 rfl ?_
      refine s_aload_n G dX0_copy_79 rfl ?_
      refine s_getR G dX0_copy_80 lkF_X0_21 (g_lt hγ2) (kd_g0 hγ2) rfl ?_
      refine s_iload_n G dX0_copy_83 rfl ?_
      refine s_iald G dX0_copy_84 (ga_lt hγ2 (by decide)) (kd_ga hγ2 (by decide) (by decide)) h16 ?_
      refine s_iast G dX0_copy_85 (ga_lt hγ (by decide)) (kd_ga hγ (by decide) (by decide)) h16 ?_
      refine s_st (fun σ19 eσ19 => ?_)
      replace hf := nm_at eσ19 hf
      refine s_aload_n G dX0_copy_86 rfl ?_
      refine s_getR G dX0_copy_87 lkF_X0_24 (g_lt hγ) (kd_g0 hγ) rfl ?_
      refine s_iload_n G dX0_copy_90 rfl ?_
      refine s_aload_n G dX0_copy_91 rfl ?_
      refine s_getR G dX0_copy_92 lkF_X0_24 (g_lt hγ2) (kd_g0 hγ2) rfl ?_
      refine s_iload_n G dX0_copy_95 rfl ?_
      refine s_iald G dX0_copy_96 (ga_lt hγ2 (by decide)) (kd_ga hγ2 (by decide) (by decide)) h16 ?_
      refine s_iast G dX0_copy_97 (ga_lt hγ (by decide)) (kd_ga hγ (by decide) (by decide)) h16 ?_
      refine s_st (fun σ20 eσ20 => ?_)
      replace hf := nm_at eσ20 hf
      refine s_aload_n G dX0_copy_98 rfl ?_
      refine s_getR G dX0_copy_99 lkF_X0_27 (g_lt hγ) (kd_g0 hγ) rfl ?_
      refine s_iload_n G dX0_copy_102 rfl ?_
      refine s_aload_n G dX0_copy_103 rfl ?_
      refine s_getR G dX0_copy_104 lkF_X0_27 (g_lt hγ2) (kd_g0 hγ2) rfl ?_
      refine s_iload_n G dX0_copy_107 rfl ?_
      refine s_zald G dX0_copy_108 (ga_lt hγ2 (by decide)) (kd_ga hγ2 (by decide) (by decide)) h16 ?_
      refine s_zast G dX0_copy_109 (ga_lt hγ (by decide)) (kd_ga hγ (by decide) (by decide)) h16 ?_
      refine s_st (fun σ21 eσ21 => ?_)
      replace hf := nm_at eσ21 hf
      refine s_iinc G dX0_copy_110 rfl (v := (x11 + 1)) rfl (by decide) rfl rfl ?_
      refine s_goto (tgt := 44) G dX0_copy_113 (by decide) ?_
      exact ih (x11 + 1) σ21 hf
set_option maxRecDepth 100000 in
set_option maxHeartbeats 4000000 in
theorem c_X0_copy {γ : Nat} {γ2 : Nat} {σ : St} {res : St} (hγ : γ < 9) (hγ2 : γ2 < 9) (hf : f_X0_copy γ γ2 σ = some res) : Mt mX0_copy [.ref (24 + 7 * γ), .ref (24 + 7 * γ2)] σ none res := by
  unfold f_X0_copy at hf
  refine mt_of (by decide) (Nat.le_of_ble_eq_true rfl) [some (.ref (24 + 7 * γ)), some (.ref (24 + 7 * γ2)), none] rfl (fun Γ G hR => ?_)
  have G : OK Γ RX0 cX0_copy 3 none 0 0 := G
  refine s_aload_n G dX0_copy_0 rfl ?_
  refine s_aload_n G dX0_copy_1 rfl ?_
  refine s_getI (n := 0) G dX0_copy_2 lkF_X0_31 (g_lt hγ2) (kd_g0 hγ2) rfl ?_
  refine s_putI G dX0_copy_5 lkP_X0_31 (g_lt hγ) (kd_g0 hγ) rfl ?_
  refine s_st (fun σ1 eσ1 => ?_)
  replace hf := nm_at eσ1 hf
  refine s_aload_n G dX0_copy_8 rfl ?_
  refine s_aload_n G dX0_copy_9 rfl ?_
  refine s_getI (n := 0) G dX0_copy_10 lkF_X0_35 (g_lt hγ2) (kd_g0 hγ2) rfl ?_
  refine s_putI G dX0_copy_13 lkP_X0_35 (g_lt hγ) (kd_g0 hγ) rfl ?_
  refine s_st (fun σ2 eσ2 => ?_)
  replace hf := nm_at eσ2 hf
  refine s_iconst G dX0_copy_16 (v := 0) (by decide) ?_
  refine s_istore_n G dX0_copy_17 rfl (by decide) rfl rfl ?_
  refine l_X0_copy_18 G hR γ γ2 hγ hγ2 _ (fun σ10 hf => ?_) 1000 (0 : Int32) σ2 hf
  refine s_iconst G dX0_copy_42 (v := 0) (by decide) ?_
  refine s_istore_n G dX0_copy_43 rfl (by decide) rfl rfl ?_
  refine l_X0_copy_44 G hR γ γ2 hγ hγ2 _ (fun σ22 hf => ?_) 1000 (0 : Int32) σ10 hf
  replace hf := Option.some.inj hf
  subst hf
  exact s_vret G hR dX0_copy_116 rfl rfl
def f_X0_restart_17 (γ : Nat) (x1 : Int32) (k6 : St → Option (Int32 × St)) : Nat → Int32 → St → Option (Int32 × St)
  | 0, _, _ => none
  | n7 + 1, x4, σ5 =>
    if (6 : Int32) ≤ x4 then
      (k6 σ5)
    else
      (chk (ib x4 6) (
      nm (sI σ5 (24 + 7 * γ + 1) x4.toNatClampNeg (0 : Int32)) (fun σ10 : St =>
      f_X0_restart_17 γ x1 k6 n7 (x4 + 1) σ10)))
def f_X0_restart (γ : Nat) (a1 : Int32) (σ : St) : Option (Int32 × St) :=
nm (σ.1 (24 + 7 * γ) 6) (fun x1 : Int32 =>
  nm (sI σ (24 + 7 * γ) 6 a1) (fun σ2 : St =>
  nm (sI σ2 (24 + 7 * γ) 7 (0 : Int32)) (fun σ3 : St =>
  f_X0_restart_17 γ x1 (fun (σ11 : St) =>
    some (x1, σ11)) 1000 (0 : Int32) σ3)))
abbrev mX0_restart : Me := (yX0_restart, cX0_restart, 4, (some .int), 0, 0)
set_option maxRecDepth 100000 in
set_option maxHeartbeats 4000000 in
theorem l_X0_restart_17 {Γ : Cxt} (G : OK Γ RX0 cX0_restart 4 (some .int) 0 0) {res : Int32 × St} (hR : RetOK Γ (some (.int res.1)) res.2) (γ : Nat) (x1 : Int32) (hγ : γ < 9) (k6 : St → Option (Int32 × St)) (hk : ∀ (z : St), k6 z = some res → WW Γ 36 [none, none, some (.int x1), none] [] z) : ∀ (n7 : Nat) (x4 : Int32) (σ5 : St), f_X0_restart_17 γ x1 k6 n7 x4 σ5 = some res → WW Γ 17 [some (.ref (24 + 7 * γ)), none, some (.int x1), some (.int x4)] [] σ5 := by
  intro n7
  induction n7 with
  | zero =>
    intro x4 σ5 hf
    cases hf
  | succ n7 ih =>
    intro x4 σ5 hf
    unfold f_X0_restart_17 at hf
    refine s_iload_n G dX0_restart_17 rfl ?_
    refine s_bipush G dX0_restart_18 (v := 6) (by decide) ?_
    refine s_icmp_ge (tgt := 36) G dX0_restart_20 (by decide) (fun c8 => ?_) (fun c8 => ?_)
    · replace hf := ifp c8 hf
      refine s_fgt [false, true, true, false] rfl ?_
      exact hk σ5 hf
    · replace hf := ifn c8 hf
      refine s_aload_n G dX0_restart_23 rfl ?_
      refine s_getR G dX0_restart_24 lkF_X0_9 (g_lt hγ) (kd_g0 hγ) rfl ?_
      refine s_iload_n G dX0_restart_27 rfl ?_
      refine s_iconst G dX0_restart_28 (v := 0) (by decide) ?_
      have h9 := chk_1 hf
      replace hf := chk_2 hf
      refine s_iast G dX0_restart_29 (ga_lt hγ (by decide)) (kd_ga hγ (by decide) (by decide)) h9 ?_
      refine s_st (fun σ10 eσ10 => ?_)
      replace hf := nm_at eσ10 hf
      refine s_iinc G dX0_restart_30 rfl (v := (x4 + 1)) rfl (by decide) rfl rfl ?_
      refine s_goto (tgt := 17) G dX0_restart_33 (by decide) ?_
      exact ih (x4 + 1) σ10 hf
set_option maxRecDepth 100000 in
set_option maxHeartbeats 4000000 in
theorem c_X0_restart {γ : Nat} {a1 : Int32} {σ : St} {res : Int32 × St} (hγ : γ < 9) (hf : f_X0_restart γ a1 σ = some res) : Mt mX0_restart [.ref (24 + 7 * γ), .int a1] σ (some (.int res.1)) res.2 := by
  unfold f_X0_restart at hf
  refine mt_of (by decide) (Nat.le_of_ble_eq_true rfl) [some (.ref (24 + 7 * γ)), some (.int a1), none, none] rfl (fun Γ G hR => ?_)
  have G : OK Γ RX0 cX0_restart 4 (some .int) 0 0 := G
  refine s_aload_n G dX0_restart_0 rfl ?_
  refine s_getI (n := 0) G dX0_restart_1 lkF_X0_31 (g_lt hγ) (kd_g0 hγ) rfl ?_
  refine s_topi (fun x1 ex1 => ?_)
  replace hf := nm_at ex1 hf
  refine s_istore_n G dX0_restart_4 rfl (by decide) rfl rfl ?_
  refine s_aload_n G dX0_restart_5 rfl ?_
  refine s_iload_n G dX0_restart_6 rfl ?_
  refine s_putI G dX0_restart_7 lkP_X0_31 (g_lt hγ) (kd_g0 hγ) rfl ?_
  refine s_st (fun σ2 eσ2 => ?_)
  replace hf := nm_at eσ2 hf
  refine s_aload_n G dX0_restart_10 rfl ?_
  refine s_iconst G dX0_restart_11 (v := 0) (by decide) ?_
  refine s_putI G dX0_restart_12 lkP_X0_35 (g_lt hγ) (kd_g0 hγ) rfl ?_
  refine s_st (fun σ3 eσ3 => ?_)
  replace hf := nm_at eσ3 hf
  refine s_iconst G dX0_restart_15 (v := 0) (by decide) ?_
  refine s_istore_n G dX0_restart_16 rfl (by decide) rfl rfl ?_
  refine s_fgt [true, false, true, true] rfl ?_
  refine l_X0_restart_17 G hR γ x1 hγ _ (fun σ11 hf => ?_) 1000 (0 : Int32) σ3 hf
  refine s_iload_n G dX0_restart_36 rfl ?_
  replace hf := Option.some.inj hf
  subst hf
  exact s_iret G hR dX0_restart_37 rfl rfl
def f_X0_hasBus (γ : Nat) (a1 : Int32) (σ : St) : Option (Int32 × St) :=
if a1 < 0 then
    (some ((0 : Int32), σ))
  else
    (if (σ.1 (24 + 7 * γ) 6) ≤ a1 then
      (some ((0 : Int32), σ))
    else
      (some ((1 : Int32), σ)))
abbrev mX0_hasBus : Me := (yX0_hasBus, cX0_hasBus, 2, (some .boolean), 0, 0)
set_option maxRecDepth 100000 in
set_option maxHeartbeats 4000000 in
theorem c_X0_hasBus {γ : Nat} {a1 : Int32} {σ : St} {res : Int32 × St} (hγ : γ < 9) (hf : f_X0_hasBus γ a1 σ = some res) : Mt mX0_hasBus [.ref (24 + 7 * γ), .int a1] σ (some (.int res.1)) res.2 := by
  unfold f_X0_hasBus at hf
  refine mt_of (by decide) (Nat.le_of_ble_eq_true rfl) [some (.ref (24 + 7 * γ)), some (.int a1)] rfl (fun Γ G hR => ?_)
  have G : OK Γ RX0 cX0_hasBus 2 (some .boolean) 0 0 := G
  refine s_iload_n G dX0_hasBus_0 rfl ?_
  refine s_if_lt (tgt := 16) G dX0_hasBus_1 (by decide) (fun c1 => ?_) (fun c1 => ?_)
  · replace hf := ifp c1 hf
    refine s_iconst G dX0_hasBus_16 (v := 0) (by decide) ?_
    replace hf := Option.some.inj hf
    subst hf
    exact s_zret G hR dX0_hasBus_17 (by decide) rfl rfl
  · replace hf := ifn c1 hf
    refine s_iload_n G dX0_hasBus_4 rfl ?_
    refine s_aload_n G dX0_hasBus_5 rfl ?_
    refine s_getI (n := 0) G dX0_hasBus_6 lkF_X0_31 (g_lt hγ) (kd_g0 hγ) rfl ?_
    refine s_icmp_ge (tgt := 16) G dX0_hasBus_9 (by decide) (fun c2 => ?_) (fun c2 => ?_)
    · replace hf := ifp c2 hf
      refine s_iconst G dX0_hasBus_16 (v := 0) (by decide) ?_
      replace hf := Option.some.inj hf
      subst hf
      exact s_zret G hR dX0_hasBus_17 (by decide) rfl rfl
    · replace hf := ifn c2 hf
      refine s_iconst G dX0_hasBus_12 (v := 1) (by decide) ?_
      refine s_goto (tgt := 17) G dX0_hasBus_13 (by decide) ?_
      replace hf := Option.some.inj hf
      subst hf
      exact s_zret G hR dX0_hasBus_17 (by decide) rfl rfl
def f_X0_canInject (γ : Nat) (a1 : Int32) (a2 : Int32) (σ : St) : Option (Int32 × St) :=
(f_X0_hasBus γ a1 σ).bind (fun q1 =>
  if q1.1 = 0 then
    (some ((0 : Int32), q1.2))
  else
    ((f_X5_within a2 (-99 : Int32) (99 : Int32) q1.2).bind (fun q3 =>
    if q3.1 = 0 then
      (some ((0 : Int32), q3.2))
    else
      (some ((1 : Int32), q3.2)))))
abbrev mX0_canInject : Me := (yX0_canInject, cX0_canInject, 3, (some .boolean), 1, 22)
set_option maxRecDepth 100000 in
set_option maxHeartbeats 4000000 in
theorem c_X0_canInject {γ : Nat} {a1 : Int32} {a2 : Int32} {σ : St} {res : Int32 × St} (hγ : γ < 9) (hf : f_X0_canInject γ a1 a2 σ = some res) : Mt mX0_canInject [.ref (24 + 7 * γ), .int a1, .int a2] σ (some (.int res.1)) res.2 := by
  unfold f_X0_canInject at hf
  refine mt_of (by decide) (Nat.le_of_ble_eq_true rfl) [some (.ref (24 + 7 * γ)), some (.int a1), some (.int a2)] rfl (fun Γ G hR => ?_)
  have G : OK Γ RX0 cX0_canInject 3 (some .boolean) 1 22 := G
  refine s_aload_n G dX0_canInject_0 rfl ?_
  refine s_iload_n G dX0_canInject_1 rfl ?_
  obtain ⟨q1, hq1, hf⟩ := bnd hf
  refine s_callV G dX0_canInject_2 (c_X0_hasBus hγ hq1) lkM_X0_42 yk_X0_hasBus yv_X0_hasBus (g_lt hγ) (kd_g0 hγ) rfl _ [] rfl rfl rfl (Nat.le_of_ble_eq_true rfl) (by decide) ?_
  refine s_if_eq (tgt := 23) G dX0_canInject_5 (by decide) (fun c2 => ?_) (fun c2 => ?_)
  · replace hf := ifp c2 hf
    refine s_iconst G dX0_canInject_23 (v := 0) (by decide) ?_
    replace hf := Option.some.inj hf
    subst hf
    exact s_zret G hR dX0_canInject_24 (by decide) rfl rfl
  · replace hf := ifn c2 hf
    refine s_iload_n G dX0_canInject_8 rfl ?_
    refine s_bipush G dX0_canInject_9 (v := -99) (by decide) ?_
    refine s_bipush G dX0_canInject_11 (v := 99) (by decide) ?_
    obtain ⟨q3, hq3, hf⟩ := bnd hf
    refine s_callS G dX0_canInject_13 (c_X5_within hq3) lkM_X0_38 yk_X5_within ys_X5_within _ [] rfl rfl rfl (Nat.le_of_ble_eq_true rfl) (by decide) ?_
    refine s_if_eq (tgt := 23) G dX0_canInject_16 (by decide) (fun c4 => ?_) (fun c4 => ?_)
    · replace hf := ifp c4 hf
      refine s_iconst G dX0_canInject_23 (v := 0) (by decide) ?_
      replace hf := Option.some.inj hf
      subst hf
      exact s_zret G hR dX0_canInject_24 (by decide) rfl rfl
    · replace hf := ifn c4 hf
      refine s_iconst G dX0_canInject_19 (v := 1) (by decide) ?_
      refine s_goto (tgt := 24) G dX0_canInject_20 (by decide) ?_
      replace hf := Option.some.inj hf
      subst hf
      exact s_zret G hR dX0_canInject_24 (by decide) rfl rfl
def f_X0_inject (γ : Nat) (a1 : Int32) (a2 : Int32) (σ : St) : Option (Int32 × St) :=
chk (ib a1 6) (
  nm (σ.1 (24 + 7 * γ + 1) a1.toNatClampNeg) (fun x2 : Int32 =>
  nm (sI σ (24 + 7 * γ + 1) a1.toNatClampNeg a2) (fun σ3 : St =>
  some (x2, σ3))))
abbrev mX0_inject : Me := (yX0_inject, cX0_inject, 4, (some .int), 0, 0)
set_option maxRecDepth 100000 in
set_option maxHeartbeats 4000000 in
theorem c_X0_inject {γ : Nat} {a1 : Int32} {a2 : Int32} {σ : St} {res : Int32 × St} (hγ : γ < 9) (hf : f_X0_inject γ a1 a2 σ = some res) : Mt mX0_inject [.ref (24 + 7 * γ), .int a1, .int a2] σ (some (.int res.1)) res.2 := by
  unfold f_X0_inject at hf
  refine mt_of (by decide) (Nat.le_of_ble_eq_true rfl) [some (.ref (24 + 7 * γ)), some (.int a1), some (.int a2), none] rfl (fun Γ G hR => ?_)
  have G : OK Γ RX0 cX0_inject 4 (some .int) 0 0 := G
  refine s_aload_n G dX0_inject_0 rfl ?_
  refine s_getR G dX0_inject_1 lkF_X0_9 (g_lt hγ) (kd_g0 hγ) rfl ?_
  refine s_iload_n G dX0_inject_4 rfl ?_
  have h1 := chk_1 hf
  replace hf := chk_2 hf
  refine s_iald G dX0_inject_5 (ga_lt hγ (by decide)) (kd_ga hγ (by decide) (by decide)) h1 ?_
  refine s_topi (fun x2 ex2 => ?_)
  replace hf := nm_at ex2 hf
  refine s_istore_n G dX0_inject_6 rfl (by decide) rfl rfl ?_
  refine s_aload_n G dX0_inject_7 rfl ?_
  refine s_getR G dX0_inject_8 lkF_X0_9 (g_lt hγ) (kd_g0 hγ) rfl ?_
  refine s_iload_n G dX0_inject_11 rfl ?_
  refine s_iload_n G dX0_inject_12 rfl ?_
  refine s_iast G dX0_inject_13 (ga_lt hγ (by decide)) (kd_ga hγ (by decide) (by decide)) h1 ?_
  refine s_st (fun σ3 eσ3 => ?_)
  replace hf := nm_at eσ3 hf
  refine s_iload_n G dX0_inject_14 rfl ?_
  replace hf := Option.some.inj hf
  subst hf
  exact s_iret G hR dX0_inject_15 rfl rfl
def f_X0_canJoin (γ : Nat) (a1 : Int32) (a2 : Int32) (a3 : Int32) (a4 : Int32) (σ : St) : Option (Int32 × St) :=
(f_X0_hasBus γ a1 σ).bind (fun q1 =>
  if q1.1 = 0 then
    (some ((0 : Int32), q1.2))
  else
    ((f_X0_hasBus γ a2 q1.2).bind (fun q3 =>
    if q3.1 = 0 then
      (some ((0 : Int32), q3.2))
    else
      (if a1 = a2 then
        (some ((0 : Int32), q3.2))
      else
        ((f_X5_within a3 (1 : Int32) (5 : Int32) q3.2).bind (fun q6 =>
        if q6.1 = 0 then
          (some ((0 : Int32), q6.2))
        else
          ((f_X5_within a4 (1 : Int32) (999 : Int32) q6.2).bind (fun q8 =>
          if q8.1 = 0 then
            (some ((0 : Int32), q8.2))
          else
            (some ((1 : Int32), q8.2))))))))))
abbrev mX0_canJoin : Me := (yX0_canJoin, cX0_canJoin, 5, (some .boolean), 1, 22)
set_option maxRecDepth 100000 in
set_option maxHeartbeats 4000000 in
theorem c_X0_canJoin {γ : Nat} {a1 : Int32} {a2 : Int32} {a3 : Int32} {a4 : Int32} {σ : St} {res : Int32 × St} (hγ : γ < 9) (hf : f_X0_canJoin γ a1 a2 a3 a4 σ = some res) : Mt mX0_canJoin [.ref (24 + 7 * γ), .int a1, .int a2, .int a3, .int a4] σ (some (.int res.1)) res.2 := by
  unfold f_X0_canJoin at hf
  refine mt_of (by decide) (Nat.le_of_ble_eq_true rfl) [some (.ref (24 + 7 * γ)), some (.int a1), some (.int a2), some (.int a3), some (.int a4)] rfl (fun Γ G hR => ?_)
  have G : OK Γ RX0 cX0_canJoin 5 (some .boolean) 1 22 := G
  refine s_aload_n G dX0_canJoin_0 rfl ?_
  refine s_iload_n G dX0_canJoin_1 rfl ?_
  obtain ⟨q1, hq1, hf⟩ := bnd hf
  refine s_callV G dX0_canJoin_2 (c_X0_hasBus hγ hq1) lkM_X0_42 yk_X0_hasBus yv_X0_hasBus (g_lt hγ) (kd_g0 hγ) rfl _ [] rfl rfl rfl (Nat.le_of_ble_eq_true rfl) (by decide) ?_
  refine s_if_eq (tgt := 46) G dX0_canJoin_5 (by decide) (fun c2 => ?_) (fun c2 => ?_)
  · replace hf := ifp c2 hf
    refine s_iconst G dX0_canJoin_46 (v := 0) (by decide) ?_
    replace hf := Option.some.inj hf
    subst hf
    exact s_zret G hR dX0_canJoin_47 (by decide) rfl rfl
  · replace hf := ifn c2 hf
    refine s_aload_n G dX0_canJoin_8 rfl ?_
    refine s_iload_n G dX0_canJoin_9 rfl ?_
    obtain ⟨q3, hq3, hf⟩ := bnd hf
    refine s_callV G dX0_canJoin_10 (c_X0_hasBus hγ hq3) lkM_X0_42 yk_X0_hasBus yv_X0_hasBus (g_lt hγ) (kd_g0 hγ) rfl _ [] rfl rfl rfl (Nat.le_of_ble_eq_true rfl) (by decide) ?_
    refine s_if_eq (tgt := 46) G dX0_canJoin_13 (by decide) (fun c4 => ?_) (fun c4 => ?_)
    · replace hf := ifp c4 hf
      refine s_iconst G dX0_canJoin_46 (v := 0) (by decide) ?_
      replace hf := Option.some.inj hf
      subst hf
      exact s_zret G hR dX0_canJoin_47 (by decide) rfl rfl
    · replace hf := ifn c4 hf
      refine s_iload_n G dX0_canJoin_16 rfl ?_
      refine s_iload_n G dX0_canJoin_17 rfl ?_
      refine s_icmp_eq (tgt := 46) G dX0_canJoin_18 (by decide) (fun c5 => ?_) (fun c5 => ?_)
      · replace hf := ifp c5 hf
        refine s_iconst G dX0_canJoin_46 (v := 0) (by decide) ?_
        replace hf := Option.some.inj hf
        subst hf
        exact s_zret G hR dX0_canJoin_47 (by decide) rfl rfl
      · replace hf := ifn c5 hf
        refine s_iload_n G dX0_canJoin_21 rfl ?_
        refine s_iconst G dX0_canJoin_22 (v := 1) (by decide) ?_
        refine s_iconst G dX0_canJoin_23 (v := 5) (by decide) ?_
        obtain ⟨q6, hq6, hf⟩ := bnd hf
        refine s_callS G dX0_canJoin_24 (c_X5_within hq6) lkM_X0_38 yk_X5_within ys_X5_within _ [] rfl rfl rfl (Nat.le_of_ble_eq_true rfl) (by decide) ?_
        refine s_if_eq (tgt := 46) G dX0_canJoin_27 (by decide) (fun c7 => ?_) (fun c7 => ?_)
        · replace hf := ifp c7 hf
          refine s_iconst G dX0_canJoin_46 (v := 0) (by decide) ?_
          replace hf := Option.some.inj hf
          subst hf
          exact s_zret G hR dX0_canJoin_47 (by decide) rfl rfl
        · replace hf := ifn c7 hf
          refine s_iload G dX0_canJoin_30 rfl ?_
          refine s_iconst G dX0_canJoin_32 (v := 1) (by decide) ?_
          refine s_sipush G dX0_canJoin_33 (v := 999) (by decide) ?_
          obtain ⟨q8, hq8, hf⟩ := bnd hf
          refine s_callS G dX0_canJoin_36 (c_X5_within hq8) lkM_X0_38 yk_X5_within ys_X5_within _ [] rfl rfl rfl (Nat.le_of_ble_eq_true rfl) (by decide) ?_
          refine s_if_eq (tgt := 46) G dX0_canJoin_39 (by decide) (fun c9 => ?_) (fun c9 => ?_)
          · replace hf := ifp c9 hf
            refine s_iconst G dX0_canJoin_46 (v := 0) (by decide) ?_
            replace hf := Option.some.inj hf
            subst hf
            exact s_zret G hR dX0_canJoin_47 (by decide) rfl rfl
          · replace hf := ifn c9 hf
            refine s_iconst G dX0_canJoin_42 (v := 1) (by decide) ?_
            refine s_goto (tgt := 47) G dX0_canJoin_43 (by decide) ?_
            replace hf := Option.some.inj hf
            subst hf
            exact s_zret G hR dX0_canJoin_47 (by decide) rfl rfl
def f_X0_isFull (γ : Nat) (σ : St) : Option (Int32 × St) :=
if (σ.1 (24 + 7 * γ) 7) < (10 : Int32) then
    (some ((0 : Int32), σ))
  else
    (some ((1 : Int32), σ))
abbrev mX0_isFull : Me := (yX0_isFull, cX0_isFull, 1, (some .boolean), 0, 0)
set_option maxRecDepth 100000 in
set_option maxHeartbeats 4000000 in
theorem c_X0_isFull {γ : Nat} {σ : St} {res : Int32 × St} (hγ : γ < 9) (hf : f_X0_isFull γ σ = some res) : Mt mX0_isFull [.ref (24 + 7 * γ)] σ (some (.int res.1)) res.2 := by
  unfold f_X0_isFull at hf
  refine mt_of (by decide) (Nat.le_of_ble_eq_true rfl) [some (.ref (24 + 7 * γ))] rfl (fun Γ G hR => ?_)
  have G : OK Γ RX0 cX0_isFull 1 (some .boolean) 0 0 := G
  refine s_aload_n G dX0_isFull_0 rfl ?_
  refine s_getI (n := 0) G dX0_isFull_1 lkF_X0_35 (g_lt hγ) (kd_g0 hγ) rfl ?_
  refine s_bipush G dX0_isFull_4 (v := 10) (by decide) ?_
  refine s_icmp_lt (tgt := 13) G dX0_isFull_6 (by decide) (fun c1 => ?_) (fun c1 => ?_)
  · replace hf := ifp c1 hf
    refine s_iconst G dX0_isFull_13 (v := 0) (by decide) ?_
    replace hf := Option.some.inj hf
    subst hf
    exact s_zret G hR dX0_isFull_14 (by decide) rfl rfl
  · replace hf := ifn c1 hf
    refine s_iconst G dX0_isFull_9 (v := 1) (by decide) ?_
    refine s_goto (tgt := 14) G dX0_isFull_10 (by decide) ?_
    replace hf := Option.some.inj hf
    subst hf
    exact s_zret G hR dX0_isFull_14 (by decide) rfl rfl
def f_X0_join (γ : Nat) (a1 : Int32) (a2 : Int32) (a3 : Int32) (a4 : Int32) (σ : St) : Option (Int32 × St) :=
nm (σ.1 (24 + 7 * γ) 7) (fun x1 : Int32 =>
  chk (ib x1 10) (
  nm (sI σ (24 + 7 * γ + 2) x1.toNatClampNeg a1) (fun σ3 : St =>
  nm (sI σ3 (24 + 7 * γ + 3) x1.toNatClampNeg a2) (fun σ4 : St =>
  nm (sI σ4 (24 + 7 * γ + 4) x1.toNatClampNeg a3) (fun σ5 : St =>
  nm (sI σ5 (24 + 7 * γ + 5) x1.toNatClampNeg a4) (fun σ6 : St =>
  nm (sI σ6 (24 + 7 * γ + 6) x1.toNatClampNeg (vp_nar .boolean (1 : Int32))) (fun σ7 : St =>
  nm (sI σ7 (24 + 7 * γ) 7 ((σ7.1 (24 + 7 * γ) 7) + (1 : Int32))) (fun σ8 : St =>
  some (x1, σ8)))))))))
abbrev mX0_join : Me := (yX0_join, cX0_join, 6, (some .int), 0, 0)
set_option maxRecDepth 100000 in
set_option maxHeartbeats 4000000 in
theorem c_X0_join {γ : Nat} {a1 : Int32} {a2 : Int32} {a3 : Int32} {a4 : Int32} {σ : St} {res : Int32 × St} (hγ : γ < 9) (hf : f_X0_join γ a1 a2 a3 a4 σ = some res) : Mt mX0_join [.ref (24 + 7 * γ), .int a1, .int a2, .int a3, .int a4] σ (some (.int res.1)) res.2 := by
  unfold f_X0_join at hf
  refine mt_of (by decide) (Nat.le_of_ble_eq_true rfl) [some (.ref (24 + 7 * γ)), some (.int a1), some (.int a2), some (.int a3), some (.int a4), none] rfl (fun Γ G hR => ?_)
  have G : OK Γ RX0 cX0_join 6 (some .int) 0 0 := G
  refine s_aload_n G dX0_join_0 rfl ?_
  refine s_getI (n := 0) G dX0_join_1 lkF_X0_35 (g_lt hγ) (kd_g0 hγ) rfl ?_
  refine s_topi (fun x1 ex1 => ?_)
  replace hf := nm_at ex1 hf
  refine s_istore G dX0_join_4 (by decide) rfl rfl ?_
  refine s_aload_n G dX0_join_6 rfl ?_
  refine s_getR G dX0_join_7 lkF_X0_15 (g_lt hγ) (kd_g0 hγ) rfl ?_
  refine s_iload G dX0_join_10 rfl ?_
  refine s_iload_n G dX0_join_12 rfl ?_
  have h2 := chk_1 hf
  replace hf := chk_2 hf
  refine s_iast G dX0_join_13 (ga_lt hγ (by decide)) (kd_ga hγ (by decide) (by decide)) h2 ?_
  refine s_st (fun σ3 eσ3 => ?_)
  replace hf := nm_at eσ3 hf
  refine s_aload_n G dX0_join_14 rfl ?_
  refine s_getR G dX0_join_15 lkF_X0_18 (g_lt hγ) (kd_g0 hγ) rfl ?_
  refine s_iload G dX0_join_18 rfl ?_
  refine s_iload_n G dX0_join_20 rfl ?_
  refine s_iast G dX0_join_21 (ga_lt hγ (by decide)) (kd_ga hγ (by decide) (by decide)) h2 ?_
  refine s_st (fun σ4 eσ4 => ?_)
  replace hf := nm_at eσ4 hf
  refine s_aload_n G dX0_join_22 rfl ?_
  refine s_getR G dX0_join_23 lkF_X0_21 (g_lt hγ) (kd_g0 hγ) rfl ?_
  refine s_iload G dX0_join_26 rfl ?_
  refine s_iload_n G dX0_join_28 rfl ?_
  refine s_iast G dX0_join_29 (ga_lt hγ (by decide)) (kd_ga hγ (by decide) (by decide)) h2 ?_
  refine s_st (fun σ5 eσ5 => ?_)
  replace hf := nm_at eσ5 hf
  refine s_aload_n G dX0_join_30 rfl ?_
  refine s_getR G dX0_join_31 lkF_X0_24 (g_lt hγ) (kd_g0 hγ) rfl ?_
  refine s_iload G dX0_join_34 rfl ?_
  refine s_iload G dX0_join_36 rfl ?_
  refine s_iast G dX0_join_38 (ga_lt hγ (by decide)) (kd_ga hγ (by decide) (by decide)) h2 ?_
  refine s_st (fun σ6 eσ6 => ?_)
  replace hf := nm_at eσ6 hf
  refine s_aload_n G dX0_join_39 rfl ?_
  refine s_getR G dX0_join_40 lkF_X0_27 (g_lt hγ) (kd_g0 hγ) rfl ?_
  refine s_iload G dX0_join_43 rfl ?_
  refine s_iconst G dX0_join_45 (v := 1) (by decide) ?_
  refine s_zast G dX0_join_46 (ga_lt hγ (by decide)) (kd_ga hγ (by decide) (by decide)) h2 ?_
  refine s_st (fun σ7 eσ7 => ?_)
  replace hf := nm_at eσ7 hf
  refine s_aload_n G dX0_join_47 rfl ?_
  refine s_dup G dX0_join_48 rfl ?_
  refine s_getI (n := 0) G dX0_join_49 lkF_X0_35 (g_lt hγ) (kd_g0 hγ) rfl ?_
  refine s_iconst G dX0_join_52 (v := 1) (by decide) ?_
  refine s_iadd G dX0_join_53 ?_
  refine s_putI G dX0_join_54 lkP_X0_35 (g_lt hγ) (kd_g0 hγ) rfl ?_
  refine s_st (fun σ8 eσ8 => ?_)
  replace hf := nm_at eσ8 hf
  refine s_iload G dX0_join_57 rfl ?_
  replace hf := Option.some.inj hf
  subst hf
  exact s_iret G hR dX0_join_59 rfl rfl
def f_X0_hasLine (γ : Nat) (a1 : Int32) (σ : St) : Option (Int32 × St) :=
if a1 < 0 then
    (some ((0 : Int32), σ))
  else
    (if (σ.1 (24 + 7 * γ) 7) ≤ a1 then
      (some ((0 : Int32), σ))
    else
      (some ((1 : Int32), σ)))
abbrev mX0_hasLine : Me := (yX0_hasLine, cX0_hasLine, 2, (some .boolean), 0, 0)
set_option maxRecDepth 100000 in
set_option maxHeartbeats 4000000 in
theorem c_X0_hasLine {γ : Nat} {a1 : Int32} {σ : St} {res : Int32 × St} (hγ : γ < 9) (hf : f_X0_hasLine γ a1 σ = some res) : Mt mX0_hasLine [.ref (24 + 7 * γ), .int a1] σ (some (.int res.1)) res.2 := by
  unfold f_X0_hasLine at hf
  refine mt_of (by decide) (Nat.le_of_ble_eq_true rfl) [some (.ref (24 + 7 * γ)), some (.int a1)] rfl (fun Γ G hR => ?_)
  have G : OK Γ RX0 cX0_hasLine 2 (some .boolean) 0 0 := G
  refine s_iload_n G dX0_hasLine_0 rfl ?_
  refine s_if_lt (tgt := 16) G dX0_hasLine_1 (by decide) (fun c1 => ?_) (fun c1 => ?_)
  · replace hf := ifp c1 hf
    refine s_iconst G dX0_hasLine_16 (v := 0) (by decide) ?_
    replace hf := Option.some.inj hf
    subst hf
    exact s_zret G hR dX0_hasLine_17 (by decide) rfl rfl
  · replace hf := ifn c1 hf
    refine s_iload_n G dX0_hasLine_4 rfl ?_
    refine s_aload_n G dX0_hasLine_5 rfl ?_
    refine s_getI (n := 0) G dX0_hasLine_6 lkF_X0_35 (g_lt hγ) (kd_g0 hγ) rfl ?_
    refine s_icmp_ge (tgt := 16) G dX0_hasLine_9 (by decide) (fun c2 => ?_) (fun c2 => ?_)
    · replace hf := ifp c2 hf
      refine s_iconst G dX0_hasLine_16 (v := 0) (by decide) ?_
      replace hf := Option.some.inj hf
      subst hf
      exact s_zret G hR dX0_hasLine_17 (by decide) rfl rfl
    · replace hf := ifn c2 hf
      refine s_iconst G dX0_hasLine_12 (v := 1) (by decide) ?_
      refine s_goto (tgt := 17) G dX0_hasLine_13 (by decide) ?_
      replace hf := Option.some.inj hf
      subst hf
      exact s_zret G hR dX0_hasLine_17 (by decide) rfl rfl
def f_X0_remove_2 (γ : Nat) (k3 : St → Option (Int32 × St)) : Nat → Int32 → St → Option (Int32 × St)
  | 0, _, _ => none
  | n4 + 1, x1, σ2 =>
    if (σ2.1 (24 + 7 * γ) 7) ≤ (x1 + (1 : Int32)) then
      (k3 σ2)
    else
      (chk (ib (x1 + (1 : Int32)) 10) (
      chk (ib x1 10) (
      nm (sI σ2 (24 + 7 * γ + 2) x1.toNatClampNeg (σ2.1 (24 + 7 * γ + 2) (x1 + (1 : Int32)).toNatClampNeg)) (fun σ8 : St =>
      nm (sI σ8 (24 + 7 * γ + 3) x1.toNatClampNeg (σ8.1 (24 + 7 * γ + 3) (x1 + (1 : Int32)).toNatClampNeg)) (fun σ9 : St =>
      nm (sI σ9 (24 + 7 * γ + 4) x1.toNatClampNeg (σ9.1 (24 + 7 * γ + 4) (x1 + (1 : Int32)).toNatClampNeg)) (fun σ10 : St =>
      nm (sI σ10 (24 + 7 * γ + 5) x1.toNatClampNeg (σ10.1 (24 + 7 * γ + 5) (x1 + (1 : Int32)).toNatClampNeg)) (fun σ11 : St =>
      nm (sI σ11 (24 + 7 * γ + 6) x1.toNatClampNeg (vp_nar .boolean (σ11.1 (24 + 7 * γ + 6) (x1 + (1 : Int32)).toNatClampNeg))) (fun σ12 : St =>
      f_X0_remove_2 γ k3 n4 (x1 + 1) σ12))))))))
def f_X0_remove (γ : Nat) (a1 : Int32) (σ : St) : Option (Int32 × St) :=
f_X0_remove_2 γ (fun (σ13 : St) =>
    nm (sI σ13 (24 + 7 * γ) 7 ((σ13.1 (24 + 7 * γ) 7) - (1 : Int32))) (fun σ14 : St =>
    some ((σ14.1 (24 + 7 * γ) 7), σ14))) 1000 a1 σ
abbrev mX0_remove : Me := (yX0_remove, cX0_remove, 3, (some .int), 0, 0)
set_option maxRecDepth 100000 in
set_option maxHeartbeats 4000000 in
theorem l_X0_remove_2 {Γ : Cxt} (G : OK Γ RX0 cX0_remove 3 (some .int) 0 0) {res : Int32 × St} (hR : RetOK Γ (some (.int res.1)) res.2) (γ : Nat) (hγ : γ < 9) (k3 : St → Option (Int32 × St)) (hk : ∀ (z : St), k3 z = some res → WW Γ 88 [some (.ref (24 + 7 * γ)), none, none] [] z) : ∀ (n4 : Nat) (x1 : Int32) (σ2 : St), f_X0_remove_2 γ k3 n4 x1 σ2 = some res → WW Γ 2 [some (.ref (24 + 7 * γ)), none, some (.int x1)] [] σ2 := by
  intro n4
  induction n4 with
  | zero =>
    intro x1 σ2 hf
    cases hf
  | succ n4 ih =>
    intro x1 σ2 hf
    unfold f_X0_remove_2 at hf
    refine s_iload_n G dX0_remove_2 rfl ?_
    refine s_iconst G dX0_remove_3 (v := 1) (by decide) ?_
    refine s_iadd G dX0_remove_4 ?_
    refine s_aload_n G dX0_remove_5 rfl ?_
    refine s_getI (n := 0) G dX0_remove_6 lkF_X0_35 (g_lt hγ) (kd_g0 hγ) rfl ?_
    refine s_icmp_ge (tgt := 88) G dX0_remove_9 (by decide) (fun c5 => ?_) (fun c5 => ?_)
    · replace hf := ifp c5 hf
      refine s_fgt [true, true, false] rfl ?_
      exact hk σ2 hf
    · replace hf := ifn c5 hf
      refine s_aload_n G dX0_remove_12 rfl ?_
      refine s_getR G dX0_remove_13 lkF_X0_15 (g_lt hγ) (kd_g0 hγ) rfl ?_
      refine s_iload_n G dX0_remove_16 rfl ?_
      refine s_aload_n G dX0_remove_17 rfl ?_
      refine s_getR G dX0_remove_18 lkF_X0_15 (g_lt hγ) (kd_g0 hγ) rfl ?_
      refine s_iload_n G dX0_remove_21 rfl ?_
      refine s_iconst G dX0_remove_22 (v := 1) (by decide) ?_
      refine s_iadd G dX0_remove_23 ?_
      have h6 := chk_1 hf
      replace hf := chk_2 hf
      refine s_iald G dX0_remove_24 (ga_lt hγ (by decide)) (kd_ga hγ (by decide) (by decide)) h6 ?_
      have h7 := chk_1 hf
      replace hf := chk_2 hf
      refine s_iast G dX0_remove_25 (ga_lt hγ (by decide)) (kd_ga hγ (by decide) (by decide)) h7 ?_
      refine s_st (fun σ8 eσ8 => ?_)
      replace hf := nm_at eσ8 hf
      refine s_aload_n G dX0_remove_26 rfl ?_
      refine s_getR G dX0_remove_27 lkF_X0_18 (g_lt hγ) (kd_g0 hγ) rfl ?_
      refine s_iload_n G dX0_remove_30 rfl ?_
      refine s_aload_n G dX0_remove_31 rfl ?_
      refine s_getR G dX0_remove_32 lkF_X0_18 (g_lt hγ) (kd_g0 hγ) rfl ?_
      refine s_iload_n G dX0_remove_35 rfl ?_
      refine s_iconst G dX0_remove_36 (v := 1) (by decide) ?_
      refine s_iadd G dX0_remove_37 ?_
      refine s_iald G dX0_remove_38 (ga_lt hγ (by decide)) (kd_ga hγ (by decide) (by decide)) h6 ?_
      refine s_iast G dX0_remove_39 (ga_lt hγ (by decide)) (kd_ga hγ (by decide) (by decide)) h7 ?_
      refine s_st (fun σ9 eσ9 => ?_)
      replace hf := nm_at eσ9 hf
      refine s_aload_n G dX0_remove_40 rfl ?_
      refine s_getR G dX0_remove_41 lkF_X0_21 (g_lt hγ) (kd_g0 hγ) rfl ?_
      refine s_iload_n G dX0_remove_44 rfl ?_
      refine s_aload_n G dX0_remove_45 rfl ?_
      refine s_getR G dX0_remove_46 lkF_X0_21 (g_lt hγ) (kd_g0 hγ) rfl ?_
      refine s_iload_n G dX0_remove_49 rfl ?_
      refine s_iconst G dX0_remove_50 (v := 1) (by decide) ?_
      refine s_iadd G dX0_remove_51 ?_
      refine s_iald G dX0_remove_52 (ga_lt hγ (by decide)) (kd_ga hγ (by decide) (by decide)) h6 ?_
      refine s_iast G dX0_remove_53 (ga_lt hγ (by decide)) (kd_ga hγ (by decide) (by decide)) h7 ?_
      refine s_st (fun σ10 eσ10 => ?_)
      replace hf := nm_at eσ10 hf
      refine s_aload_n G dX0_remove_54 rfl ?_
      refine s_getR G dX0_remove_55 lkF_X0_24 (g_lt hγ) (kd_g0 hγ) rfl ?_
      refine s_iload_n G dX0_remove_58 rfl ?_
      refine s_aload_n G dX0_remove_59 rfl ?_
      refine s_getR G dX0_remove_60 lkF_X0_24 (g_lt hγ) (kd_g0 hγ) rfl ?_
      refine s_iload_n G dX0_remove_63 rfl ?_
      refine s_iconst G dX0_remove_64 (v := 1) (by decide) ?_
      refine s_iadd G dX0_remove_65 ?_
      refine s_iald G dX0_remove_66 (ga_lt hγ (by decide)) (kd_ga hγ (by decide) (by decide)) h6 ?_
      refine s_iast G dX0_remove_67 (ga_lt hγ (by decide)) (kd_ga hγ (by decide) (by decide)) h7 ?_
      refine s_st (fun σ11 eσ11 => ?_)
      replace hf := nm_at eσ11 hf
      refine s_aload_n G dX0_remove_68 rfl ?_
      refine s_getR G dX0_remove_69 lkF_X0_27 (g_lt hγ) (kd_g0 hγ) rfl ?_
      refine s_iload_n G dX0_remove_72 rfl ?_
      refine s_aload_n G dX0_remove_73 rfl ?_
      refine s_getR G dX0_remove_74 lkF_X0_27 (g_lt hγ) (kd_g0 hγ) rfl ?_
      refine s_iload_n G dX0_remove_77 rfl ?_
      refine s_iconst G dX0_remove_78 (v := 1) (by decide) ?_
      refine s_iadd G dX0_remove_79 ?_
      refine s_zald G dX0_remove_80 (ga_lt hγ (by decide)) (kd_ga hγ (by decide) (by decide)) h6 ?_
      refine s_zast G dX0_remove_81 (ga_lt hγ (by decide)) (kd_ga hγ (by decide) (by decide)) h7 ?_
      refine s_st (fun σ12 eσ12 => ?_)
      replace hf := nm_at eσ12 hf
      refine s_iinc G dX0_remove_82 rfl (v := (x1 + 1)) rfl (by decide) rfl rfl ?_
      refine s_goto (tgt := 2) G dX0_remove_85 (by decide) ?_
      exact ih (x1 + 1) σ12 hf
set_option maxRecDepth 100000 in
set_option maxHeartbeats 4000000 in
theorem c_X0_remove {γ : Nat} {a1 : Int32} {σ : St} {res : Int32 × St} (hγ : γ < 9) (hf : f_X0_remove γ a1 σ = some res) : Mt mX0_remove [.ref (24 + 7 * γ), .int a1] σ (some (.int res.1)) res.2 := by
  unfold f_X0_remove at hf
  refine mt_of (by decide) (Nat.le_of_ble_eq_true rfl) [some (.ref (24 + 7 * γ)), some (.int a1), none] rfl (fun Γ G hR => ?_)
  have G : OK Γ RX0 cX0_remove 3 (some .int) 0 0 := G
  refine s_iload_n G dX0_remove_0 rfl ?_
  refine s_istore_n G dX0_remove_1 rfl (by decide) rfl rfl ?_
  refine s_fgt [true, false, true] rfl ?_
  refine l_X0_remove_2 G hR γ hγ _ (fun σ13 hf => ?_) 1000 a1 σ hf
  refine s_aload_n G dX0_remove_88 rfl ?_
  refine s_dup G dX0_remove_89 rfl ?_
  refine s_getI (n := 0) G dX0_remove_90 lkF_X0_35 (g_lt hγ) (kd_g0 hγ) rfl ?_
  refine s_iconst G dX0_remove_93 (v := 1) (by decide) ?_
  refine s_isub G dX0_remove_94 ?_
  refine s_putI G dX0_remove_95 lkP_X0_35 (g_lt hγ) (kd_g0 hγ) rfl ?_
  refine s_st (fun σ14 eσ14 => ?_)
  replace hf := nm_at eσ14 hf
  refine s_aload_n G dX0_remove_98 rfl ?_
  refine s_getI (n := 0) G dX0_remove_99 lkF_X0_35 (g_lt hγ) (kd_g0 hγ) rfl ?_
  replace hf := Option.some.inj hf
  subst hf
  exact s_iret G hR dX0_remove_102 rfl rfl
def f_X0_turn (γ : Nat) (a1 : Int32) (a2 : Int32) (σ : St) : Option (Int32 × St) :=
chk (ib a1 10) (
  if (σ.1 (24 + 7 * γ + 6) a1.toNatClampNeg) = 0 then
    (nm (sI σ (24 + 7 * γ + 6) a1.toNatClampNeg (vp_nar .boolean a2)) (fun σ3 : St =>
    some ((0 : Int32), σ3)))
  else
    (nm (sI σ (24 + 7 * γ + 6) a1.toNatClampNeg (vp_nar .boolean a2)) (fun σ4 : St =>
    some ((1 : Int32), σ4))))
abbrev mX0_turn : Me := (yX0_turn, cX0_turn, 4, (some .int), 0, 0)
set_option maxRecDepth 100000 in
set_option maxHeartbeats 4000000 in
theorem c_X0_turn {γ : Nat} {a1 : Int32} {a2 : Int32} {σ : St} {res : Int32 × St} (hγ : γ < 9) (hf : f_X0_turn γ a1 a2 σ = some res) : Mt mX0_turn [.ref (24 + 7 * γ), .int a1, .int a2] σ (some (.int res.1)) res.2 := by
  unfold f_X0_turn at hf
  refine mt_of (by decide) (Nat.le_of_ble_eq_true rfl) [some (.ref (24 + 7 * γ)), some (.int a1), some (.int a2), none] rfl (fun Γ G hR => ?_)
  have G : OK Γ RX0 cX0_turn 4 (some .int) 0 0 := G
  refine s_aload_n G dX0_turn_0 rfl ?_
  refine s_getR G dX0_turn_1 lkF_X0_27 (g_lt hγ) (kd_g0 hγ) rfl ?_
  refine s_iload_n G dX0_turn_4 rfl ?_
  have h1 := chk_1 hf
  replace hf := chk_2 hf
  refine s_zald G dX0_turn_5 (ga_lt hγ (by decide)) (kd_ga hγ (by decide) (by decide)) h1 ?_
  refine s_if_eq (tgt := 13) G dX0_turn_6 (by decide) (fun c2 => ?_) (fun c2 => ?_)
  · replace hf := ifp c2 hf
    refine s_iconst G dX0_turn_13 (v := 0) (by decide) ?_
    refine s_istore_n G dX0_turn_14 rfl (by decide) rfl rfl ?_
    refine s_aload_n G dX0_turn_15 rfl ?_
    refine s_getR G dX0_turn_16 lkF_X0_27 (g_lt hγ) (kd_g0 hγ) rfl ?_
    refine s_iload_n G dX0_turn_19 rfl ?_
    refine s_iload_n G dX0_turn_20 rfl ?_
    refine s_zast G dX0_turn_21 (ga_lt hγ (by decide)) (kd_ga hγ (by decide) (by decide)) h1 ?_
    refine s_st (fun σ3 eσ3 => ?_)
    replace hf := nm_at eσ3 hf
    refine s_iload_n G dX0_turn_22 rfl ?_
    replace hf := Option.some.inj hf
    subst hf
    exact s_iret G hR dX0_turn_23 rfl rfl
  · replace hf := ifn c2 hf
    refine s_iconst G dX0_turn_9 (v := 1) (by decide) ?_
    refine s_goto (tgt := 14) G dX0_turn_10 (by decide) ?_
    refine s_istore_n G dX0_turn_14 rfl (by decide) rfl rfl ?_
    refine s_aload_n G dX0_turn_15 rfl ?_
    refine s_getR G dX0_turn_16 lkF_X0_27 (g_lt hγ) (kd_g0 hγ) rfl ?_
    refine s_iload_n G dX0_turn_19 rfl ?_
    refine s_iload_n G dX0_turn_20 rfl ?_
    refine s_zast G dX0_turn_21 (ga_lt hγ (by decide)) (kd_ga hγ (by decide) (by decide)) h1 ?_
    refine s_st (fun σ4 eσ4 => ?_)
    replace hf := nm_at eσ4 hf
    refine s_iload_n G dX0_turn_22 rfl ?_
    replace hf := Option.some.inj hf
    subst hf
    exact s_iret G hR dX0_turn_23 rfl rfl
def f_X0_canStrengthen (γ : Nat) (a1 : Int32) (a2 : Int32) (σ : St) : Option (Int32 × St) :=
(f_X0_hasLine γ a1 σ).bind (fun q1 =>
  if q1.1 = 0 then
    (some ((0 : Int32), q1.2))
  else
    ((f_X5_within a2 (1 : Int32) (5 : Int32) q1.2).bind (fun q3 =>
    if q3.1 = 0 then
      (some ((0 : Int32), q3.2))
    else
      (some ((1 : Int32), q3.2)))))
abbrev mX0_canStrengthen : Me := (yX0_canStrengthen, cX0_canStrengthen, 3, (some .boolean), 1, 22)
set_option maxRecDepth 100000 in
set_option maxHeartbeats 4000000 in
theorem c_X0_canStrengthen {γ : Nat} {a1 : Int32} {a2 : Int32} {σ : St} {res : Int32 × St} (hγ : γ < 9) (hf : f_X0_canStrengthen γ a1 a2 σ = some res) : Mt mX0_canStrengthen [.ref (24 + 7 * γ), .int a1, .int a2] σ (some (.int res.1)) res.2 := by
  unfold f_X0_canStrengthen at hf
  refine mt_of (by decide) (Nat.le_of_ble_eq_true rfl) [some (.ref (24 + 7 * γ)), some (.int a1), some (.int a2)] rfl (fun Γ G hR => ?_)
  have G : OK Γ RX0 cX0_canStrengthen 3 (some .boolean) 1 22 := G
  refine s_aload_n G dX0_canStrengthen_0 rfl ?_
  refine s_iload_n G dX0_canStrengthen_1 rfl ?_
  obtain ⟨q1, hq1, hf⟩ := bnd hf
  refine s_callV G dX0_canStrengthen_2 (c_X0_hasLine hγ hq1) lkM_X0_46 yk_X0_hasLine yv_X0_hasLine (g_lt hγ) (kd_g0 hγ) rfl _ [] rfl rfl rfl (Nat.le_of_ble_eq_true rfl) (by decide) ?_
  refine s_if_eq (tgt := 21) G dX0_canStrengthen_5 (by decide) (fun c2 => ?_) (fun c2 => ?_)
  · replace hf := ifp c2 hf
    refine s_iconst G dX0_canStrengthen_21 (v := 0) (by decide) ?_
    replace hf := Option.some.inj hf
    subst hf
    exact s_zret G hR dX0_canStrengthen_22 (by decide) rfl rfl
  · replace hf := ifn c2 hf
    refine s_iload_n G dX0_canStrengthen_8 rfl ?_
    refine s_iconst G dX0_canStrengthen_9 (v := 1) (by decide) ?_
    refine s_iconst G dX0_canStrengthen_10 (v := 5) (by decide) ?_
    obtain ⟨q3, hq3, hf⟩ := bnd hf
    refine s_callS G dX0_canStrengthen_11 (c_X5_within hq3) lkM_X0_38 yk_X5_within ys_X5_within _ [] rfl rfl rfl (Nat.le_of_ble_eq_true rfl) (by decide) ?_
    refine s_if_eq (tgt := 21) G dX0_canStrengthen_14 (by decide) (fun c4 => ?_) (fun c4 => ?_)
    · replace hf := ifp c4 hf
      refine s_iconst G dX0_canStrengthen_21 (v := 0) (by decide) ?_
      replace hf := Option.some.inj hf
      subst hf
      exact s_zret G hR dX0_canStrengthen_22 (by decide) rfl rfl
    · replace hf := ifn c4 hf
      refine s_iconst G dX0_canStrengthen_17 (v := 1) (by decide) ?_
      refine s_goto (tgt := 22) G dX0_canStrengthen_18 (by decide) ?_
      replace hf := Option.some.inj hf
      subst hf
      exact s_zret G hR dX0_canStrengthen_22 (by decide) rfl rfl
def f_X0_strengthen (γ : Nat) (a1 : Int32) (a2 : Int32) (σ : St) : Option (Int32 × St) :=
chk (ib a1 10) (
  nm (σ.1 (24 + 7 * γ + 4) a1.toNatClampNeg) (fun x2 : Int32 =>
  nm (sI σ (24 + 7 * γ + 4) a1.toNatClampNeg a2) (fun σ3 : St =>
  some (x2, σ3))))
abbrev mX0_strengthen : Me := (yX0_strengthen, cX0_strengthen, 4, (some .int), 0, 0)
set_option maxRecDepth 100000 in
set_option maxHeartbeats 4000000 in
theorem c_X0_strengthen {γ : Nat} {a1 : Int32} {a2 : Int32} {σ : St} {res : Int32 × St} (hγ : γ < 9) (hf : f_X0_strengthen γ a1 a2 σ = some res) : Mt mX0_strengthen [.ref (24 + 7 * γ), .int a1, .int a2] σ (some (.int res.1)) res.2 := by
  unfold f_X0_strengthen at hf
  refine mt_of (by decide) (Nat.le_of_ble_eq_true rfl) [some (.ref (24 + 7 * γ)), some (.int a1), some (.int a2), none] rfl (fun Γ G hR => ?_)
  have G : OK Γ RX0 cX0_strengthen 4 (some .int) 0 0 := G
  refine s_aload_n G dX0_strengthen_0 rfl ?_
  refine s_getR G dX0_strengthen_1 lkF_X0_21 (g_lt hγ) (kd_g0 hγ) rfl ?_
  refine s_iload_n G dX0_strengthen_4 rfl ?_
  have h1 := chk_1 hf
  replace hf := chk_2 hf
  refine s_iald G dX0_strengthen_5 (ga_lt hγ (by decide)) (kd_ga hγ (by decide) (by decide)) h1 ?_
  refine s_topi (fun x2 ex2 => ?_)
  replace hf := nm_at ex2 hf
  refine s_istore_n G dX0_strengthen_6 rfl (by decide) rfl rfl ?_
  refine s_aload_n G dX0_strengthen_7 rfl ?_
  refine s_getR G dX0_strengthen_8 lkF_X0_21 (g_lt hγ) (kd_g0 hγ) rfl ?_
  refine s_iload_n G dX0_strengthen_11 rfl ?_
  refine s_iload_n G dX0_strengthen_12 rfl ?_
  refine s_iast G dX0_strengthen_13 (ga_lt hγ (by decide)) (kd_ga hγ (by decide) (by decide)) h1 ?_
  refine s_st (fun σ3 eσ3 => ?_)
  replace hf := nm_at eσ3 hf
  refine s_iload_n G dX0_strengthen_14 rfl ?_
  replace hf := Option.some.inj hf
  subst hf
  exact s_iret G hR dX0_strengthen_15 rfl rfl
def f_X0_canBound (γ : Nat) (a1 : Int32) (a2 : Int32) (σ : St) : Option (Int32 × St) :=
(f_X0_hasLine γ a1 σ).bind (fun q1 =>
  if q1.1 = 0 then
    (some ((0 : Int32), q1.2))
  else
    ((f_X5_within a2 (1 : Int32) (999 : Int32) q1.2).bind (fun q3 =>
    if q3.1 = 0 then
      (some ((0 : Int32), q3.2))
    else
      (some ((1 : Int32), q3.2)))))
abbrev mX0_canBound : Me := (yX0_canBound, cX0_canBound, 3, (some .boolean), 1, 22)
set_option maxRecDepth 100000 in
set_option maxHeartbeats 4000000 in
theorem c_X0_canBound {γ : Nat} {a1 : Int32} {a2 : Int32} {σ : St} {res : Int32 × St} (hγ : γ < 9) (hf : f_X0_canBound γ a1 a2 σ = some res) : Mt mX0_canBound [.ref (24 + 7 * γ), .int a1, .int a2] σ (some (.int res.1)) res.2 := by
  unfold f_X0_canBound at hf
  refine mt_of (by decide) (Nat.le_of_ble_eq_true rfl) [some (.ref (24 + 7 * γ)), some (.int a1), some (.int a2)] rfl (fun Γ G hR => ?_)
  have G : OK Γ RX0 cX0_canBound 3 (some .boolean) 1 22 := G
  refine s_aload_n G dX0_canBound_0 rfl ?_
  refine s_iload_n G dX0_canBound_1 rfl ?_
  obtain ⟨q1, hq1, hf⟩ := bnd hf
  refine s_callV G dX0_canBound_2 (c_X0_hasLine hγ hq1) lkM_X0_46 yk_X0_hasLine yv_X0_hasLine (g_lt hγ) (kd_g0 hγ) rfl _ [] rfl rfl rfl (Nat.le_of_ble_eq_true rfl) (by decide) ?_
  refine s_if_eq (tgt := 23) G dX0_canBound_5 (by decide) (fun c2 => ?_) (fun c2 => ?_)
  · replace hf := ifp c2 hf
    refine s_iconst G dX0_canBound_23 (v := 0) (by decide) ?_
    replace hf := Option.some.inj hf
    subst hf
    exact s_zret G hR dX0_canBound_24 (by decide) rfl rfl
  · replace hf := ifn c2 hf
    refine s_iload_n G dX0_canBound_8 rfl ?_
    refine s_iconst G dX0_canBound_9 (v := 1) (by decide) ?_
    refine s_sipush G dX0_canBound_10 (v := 999) (by decide) ?_
    obtain ⟨q3, hq3, hf⟩ := bnd hf
    refine s_callS G dX0_canBound_13 (c_X5_within hq3) lkM_X0_38 yk_X5_within ys_X5_within _ [] rfl rfl rfl (Nat.le_of_ble_eq_true rfl) (by decide) ?_
    refine s_if_eq (tgt := 23) G dX0_canBound_16 (by decide) (fun c4 => ?_) (fun c4 => ?_)
    · replace hf := ifp c4 hf
      refine s_iconst G dX0_canBound_23 (v := 0) (by decide) ?_
      replace hf := Option.some.inj hf
      subst hf
      exact s_zret G hR dX0_canBound_24 (by decide) rfl rfl
    · replace hf := ifn c4 hf
      refine s_iconst G dX0_canBound_19 (v := 1) (by decide) ?_
      refine s_goto (tgt := 24) G dX0_canBound_20 (by decide) ?_
      replace hf := Option.some.inj hf
      subst hf
      exact s_zret G hR dX0_canBound_24 (by decide) rfl rfl
def f_X0_bound (γ : Nat) (a1 : Int32) (a2 : Int32) (σ : St) : Option (Int32 × St) :=
chk (ib a1 10) (
  nm (σ.1 (24 + 7 * γ + 5) a1.toNatClampNeg) (fun x2 : Int32 =>
  nm (sI σ (24 + 7 * γ + 5) a1.toNatClampNeg a2) (fun σ3 : St =>
  some (x2, σ3))))
abbrev mX0_bound : Me := (yX0_bound, cX0_bound, 4, (some .int), 0, 0)
set_option maxRecDepth 100000 in
set_option maxHeartbeats 4000000 in
theorem c_X0_bound {γ : Nat} {a1 : Int32} {a2 : Int32} {σ : St} {res : Int32 × St} (hγ : γ < 9) (hf : f_X0_bound γ a1 a2 σ = some res) : Mt mX0_bound [.ref (24 + 7 * γ), .int a1, .int a2] σ (some (.int res.1)) res.2 := by
  unfold f_X0_bound at hf
  refine mt_of (by decide) (Nat.le_of_ble_eq_true rfl) [some (.ref (24 + 7 * γ)), some (.int a1), some (.int a2), none] rfl (fun Γ G hR => ?_)
  have G : OK Γ RX0 cX0_bound 4 (some .int) 0 0 := G
  refine s_aload_n G dX0_bound_0 rfl ?_
  refine s_getR G dX0_bound_1 lkF_X0_24 (g_lt hγ) (kd_g0 hγ) rfl ?_
  refine s_iload_n G dX0_bound_4 rfl ?_
  have h1 := chk_1 hf
  replace hf := chk_2 hf
  refine s_iald G dX0_bound_5 (ga_lt hγ (by decide)) (kd_ga hγ (by decide) (by decide)) h1 ?_
  refine s_topi (fun x2 ex2 => ?_)
  replace hf := nm_at ex2 hf
  refine s_istore_n G dX0_bound_6 rfl (by decide) rfl rfl ?_
  refine s_aload_n G dX0_bound_7 rfl ?_
  refine s_getR G dX0_bound_8 lkF_X0_24 (g_lt hγ) (kd_g0 hγ) rfl ?_
  refine s_iload_n G dX0_bound_11 rfl ?_
  refine s_iload_n G dX0_bound_12 rfl ?_
  refine s_iast G dX0_bound_13 (ga_lt hγ (by decide)) (kd_ga hγ (by decide) (by decide)) h1 ?_
  refine s_st (fun σ3 eσ3 => ?_)
  replace hf := nm_at eσ3 hf
  refine s_iload_n G dX0_bound_14 rfl ?_
  replace hf := Option.some.inj hf
  subst hf
  exact s_iret G hR dX0_bound_15 rfl rfl
def f_X0_serving_4 (γ : Nat) (k4 : Int32 → St → Option (Int32 × St)) : Nat → Int32 → Int32 → St → Option (Int32 × St)
  | 0, _, _, _ => none
  | n5 + 1, x1, x2, σ3 =>
    if (σ3.1 (24 + 7 * γ) 7) ≤ x2 then
      (k4 x1 σ3)
    else
      (chk (ib x2 10) (
      if (σ3.1 (24 + 7 * γ + 6) x2.toNatClampNeg) = 0 then
        (f_X0_serving_4 γ k4 n5 x1 (x2 + 1) σ3)
      else
        (f_X0_serving_4 γ k4 n5 (x1 + 1) (x2 + 1) σ3)))
def f_X0_serving (γ : Nat) (σ : St) : Option (Int32 × St) :=
f_X0_serving_4 γ (fun (x9 : Int32) (σ10 : St) =>
    some (x9, σ10)) 1000 (0 : Int32) (0 : Int32) σ
abbrev mX0_serving : Me := (yX0_serving, cX0_serving, 3, (some .int), 0, 0)
set_option maxRecDepth 100000 in
set_option maxHeartbeats 4000000 in
theorem l_X0_serving_4 {Γ : Cxt} (G : OK Γ RX0 cX0_serving 3 (some .int) 0 0) {res : Int32 × St} (hR : RetOK Γ (some (.int res.1)) res.2) (γ : Nat) (hγ : γ < 9) (k4 : Int32 → St → Option (Int32 × St)) (hk : ∀ (y1 : Int32) (z : St), k4 y1 z = some res → WW Γ 30 [none, some (.int y1), none] [] z) : ∀ (n5 : Nat) (x1 : Int32) (x2 : Int32) (σ3 : St), f_X0_serving_4 γ k4 n5 x1 x2 σ3 = some res → WW Γ 4 [some (.ref (24 + 7 * γ)), some (.int x1), some (.int x2)] [] σ3 := by
  intro n5
  induction n5 with
  | zero =>
    intro x1 x2 σ3 hf
    cases hf
  | succ n5 ih =>
    intro x1 x2 σ3 hf
    unfold f_X0_serving_4 at hf
    refine s_iload_n G dX0_serving_4 rfl ?_
    refine s_aload_n G dX0_serving_5 rfl ?_
    refine s_getI (n := 0) G dX0_serving_6 lkF_X0_35 (g_lt hγ) (kd_g0 hγ) rfl ?_
    refine s_icmp_ge (tgt := 30) G dX0_serving_9 (by decide) (fun c6 => ?_) (fun c6 => ?_)
    · replace hf := ifp c6 hf
      refine s_fgt [false, true, false] rfl ?_
      exact hk x1 σ3 hf
    · replace hf := ifn c6 hf
      refine s_aload_n G dX0_serving_12 rfl ?_
      refine s_getR G dX0_serving_13 lkF_X0_27 (g_lt hγ) (kd_g0 hγ) rfl ?_
      refine s_iload_n G dX0_serving_16 rfl ?_
      have h7 := chk_1 hf
      replace hf := chk_2 hf
      refine s_zald G dX0_serving_17 (ga_lt hγ (by decide)) (kd_ga hγ (by decide) (by decide)) h7 ?_
      refine s_if_eq (tgt := 24) G dX0_serving_18 (by decide) (fun c8 => ?_) (fun c8 => ?_)
      · replace hf := ifp c8 hf
        refine s_iinc G dX0_serving_24 rfl (v := (x2 + 1)) rfl (by decide) rfl rfl ?_
        refine s_goto (tgt := 4) G dX0_serving_27 (by decide) ?_
        exact ih x1 (x2 + 1) σ3 hf
      · replace hf := ifn c8 hf
        refine s_iinc G dX0_serving_21 rfl (v := (x1 + 1)) rfl (by decide) rfl rfl ?_
        refine s_iinc G dX0_serving_24 rfl (v := (x2 + 1)) rfl (by decide) rfl rfl ?_
        refine s_goto (tgt := 4) G dX0_serving_27 (by decide) ?_
        exact ih (x1 + 1) (x2 + 1) σ3 hf
set_option maxRecDepth 100000 in
set_option maxHeartbeats 4000000 in
theorem c_X0_serving {γ : Nat} {σ : St} {res : Int32 × St} (hγ : γ < 9) (hf : f_X0_serving γ σ = some res) : Mt mX0_serving [.ref (24 + 7 * γ)] σ (some (.int res.1)) res.2 := by
  unfold f_X0_serving at hf
  refine mt_of (by decide) (Nat.le_of_ble_eq_true rfl) [some (.ref (24 + 7 * γ)), none, none] rfl (fun Γ G hR => ?_)
  have G : OK Γ RX0 cX0_serving 3 (some .int) 0 0 := G
  refine s_iconst G dX0_serving_0 (v := 0) (by decide) ?_
  refine s_istore_n G dX0_serving_1 rfl (by decide) rfl rfl ?_
  refine s_iconst G dX0_serving_2 (v := 0) (by decide) ?_
  refine s_istore_n G dX0_serving_3 rfl (by decide) rfl rfl ?_
  refine l_X0_serving_4 G hR γ hγ _ (fun x9 σ10 hf => ?_) 1000 (0 : Int32) (0 : Int32) σ hf
  refine s_iload_n G dX0_serving_30 rfl ?_
  replace hf := Option.some.inj hf
  subst hf
  exact s_iret G hR dX0_serving_31 rfl rfl
