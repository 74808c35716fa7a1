def f_X1_keep (σ : St) : Option (St) :=
jn (fun q1 : St =>
    (chk (ib (((q1.1 1 1) + (q1.1 1 2)) - ((q1.1 1 1) + (q1.1 1 2)) / (8 : Int32) * (8 : Int32)) 8) (
    (f_X0_copy ((((q1.1 1 1) + (q1.1 1 2)) - ((q1.1 1 1) + (q1.1 1 2)) / (8 : Int32) * (8 : Int32)).toNatClampNeg + 1) 0 q1).bind (fun q4 =>
    nm (sI q4 1 2 ((q4.1 1 2) + (1 : Int32))) (fun σ5 : St =>
    some σ5))))) (fun j2 =>
    if (σ.1 1 2) = (8 : Int32) then
      (nm (sI σ 1 1 (((σ.1 1 1) + (1 : Int32)) - ((σ.1 1 1) + (1 : Int32)) / (8 : Int32) * (8 : Int32))) (fun σ7 : St =>
      nm (sI σ7 1 2 ((σ7.1 1 2) - (1 : Int32))) (fun σ8 : St =>
      j2 σ8)))
    else
      (j2 σ))
abbrev mX1_keep : Me := (yX1_keep, cX1_keep, 3, none, 1, 22)
set_option maxRecDepth 100000 in
set_option maxHeartbeats 4000000 in
theorem c_X1_keep  {σ : St} {res : St} (hf : f_X1_keep σ = some res) : Mt mX1_keep [.ref 1, .ref 24] σ none res := by
  unfold f_X1_keep at hf
  refine mt_of (by decide) (Nat.le_of_ble_eq_true rfl) [some (.ref 1), some (.ref 24), none] rfl (fun Γ G hR => ?_)
  have G : OK Γ RX1 cX1_keep 3 none 1 22 := G
  refine s_aload_n G dX1_keep_0 rfl ?_
  refine s_getI (n := 0) G dX1_keep_1 lkF_X1_18 (by decide) rfl rfl ?_
  refine s_bipush G dX1_keep_4 (v := 8) (by decide) ?_
  refine jn_w (fun q1 : St => WW Γ 32 [some (.ref 1), some (.ref 24), none] [] q1) hf (fun q1 hf => ?_) (fun j2 hj2 hf => ?_)
  · refine s_aload_n G dX1_keep_32 rfl ?_
    refine s_getR G dX1_keep_33 lkF_X1_11 (by decide) rfl rfl ?_
    refine s_aload_n G dX1_keep_36 rfl ?_
    refine s_getI (n := 0) G dX1_keep_37 lkF_X1_22 (by decide) rfl rfl ?_
    refine s_aload_n G dX1_keep_40 rfl ?_
    refine s_getI (n := 0) G dX1_keep_41 lkF_X1_18 (by decide) rfl rfl ?_
    refine s_iadd G dX1_keep_44 ?_
    refine s_bipush G dX1_keep_45 (v := 8) (by decide) ?_
    refine s_irem G dX1_keep_47 (by decide) ?_
    have h3 := chk_1 hf
    replace hf := chk_2 hf
    refine s_aald G dX1_keep_48 (by decide) rfl h3 ?_
    refine s_astore_n G dX1_keep_49 rfl (by decide) rfl rfl ?_
    refine s_aload_n G dX1_keep_50 rfl ?_
    refine s_ifnull G dX1_keep_51 ?_
    refine s_aload_n G dX1_keep_54 rfl ?_
    refine s_aload_n G dX1_keep_55 rfl ?_
    obtain ⟨q4, hq4, hf⟩ := bnd hf
    refine s_callV G dX1_keep_56 (c_X0_copy (kp_lt h3) (by decide) hq4) lkM_X1_25 yk_X0_copy yv_X0_copy (g_lt (kp_lt h3)) (kd_g0 (kp_lt h3)) rfl _ [] rfl rfl rfl (Nat.le_of_ble_eq_true rfl) (by decide) ?_
    refine s_aload_n G dX1_keep_59 rfl ?_
    refine s_dup G dX1_keep_60 rfl ?_
    refine s_getI (n := 0) G dX1_keep_61 lkF_X1_18 (by decide) rfl rfl ?_
    refine s_iconst G dX1_keep_64 (v := 1) (by decide) ?_
    refine s_iadd G dX1_keep_65 ?_
    refine s_putI G dX1_keep_66 lkP_X1_18 (by decide) rfl rfl ?_
    refine s_st (fun σ5 eσ5 => ?_)
    replace hf := nm_at eσ5 hf
    replace hf := Option.some.inj hf
    subst hf
    exact s_vret G hR dX1_keep_69 rfl rfl
  · refine s_icmp_ne (tgt := 32) G dX1_keep_6 (by decide) (fun c6 => ?_) (fun c6 => ?_)
    · replace hf := ifn c6 hf
      exact hj2 _ hf
    · replace hf := ifp c6 hf
      refine s_aload_n G dX1_keep_9 rfl ?_
      refine s_aload_n G dX1_keep_10 rfl ?_
      refine s_getI (n := 0) G dX1_keep_11 lkF_X1_22 (by decide) rfl rfl ?_
      refine s_iconst G dX1_keep_14 (v := 1) (by decide) ?_
      refine s_iadd G dX1_keep_15 ?_
      refine s_bipush G dX1_keep_16 (v := 8) (by decide) ?_
      refine s_irem G dX1_keep_18 (by decide) ?_
      refine s_putI G dX1_keep_19 lkP_X1_22 (by decide) rfl rfl ?_
      refine s_st (fun σ7 eσ7 => ?_)
      replace hf := nm_at eσ7 hf
      refine s_aload_n G dX1_keep_22 rfl ?_
      refine s_dup G dX1_keep_23 rfl ?_
      refine s_getI (n := 0) G dX1_keep_24 lkF_X1_18 (by decide) rfl rfl ?_
      refine s_iconst G dX1_keep_27 (v := 1) (by decide) ?_
      refine s_isub G dX1_keep_28 ?_
      refine s_putI G dX1_keep_29 lkP_X1_18 (by decide) rfl rfl ?_
      refine s_st (fun σ8 eσ8 => ?_)
      replace hf := nm_at eσ8 hf
      exact hj2 _ hf
def f_X4_merge_26 (q1 : Int32 × St) (q3 : Int32 × St) (k7 : St → Option (St)) : Nat → Int32 → St → Option (St)
  | 0, _, _ => none
  | n8 + 1, x5, σ6 =>
    if (σ6.1 24 6) ≤ x5 then
      (k7 σ6)
    else
      (chk (ib x5 6) (
      if (σ6.1 8 x5.toNatClampNeg) = q3.1 then
        (nm (sI σ6 8 x5.toNatClampNeg q1.1) (fun σ12 : St =>
        f_X4_merge_26 q1 q3 k7 n8 (x5 + 1) σ12))
      else
        (f_X4_merge_26 q1 q3 k7 n8 (x5 + 1) σ6)))
def f_X4_merge (a1 : Int32) (a2 : Int32) (σ : St) : Option (St) :=
jn (fun q1 : Int32 × St =>
    (jn (fun q3 : Int32 × St =>
      (f_X4_merge_26 q1 q3 (fun (σ13 : St) =>
        some σ13) 1000 (0 : Int32) q3.2)) (fun j4 =>
      if a2 ≤ a1 then
        (j4 (a1, q1.2))
      else
        (j4 (a2, q1.2))))) (fun j2 =>
    if a2 ≤ a1 then
      (j2 (a2, σ))
    else
      (j2 (a1, σ)))
abbrev mX4_merge : Me := (yX4_merge, cX4_merge, 6, none, 0, 0)
set_option maxRecDepth 100000 in
set_option maxHeartbeats 4000000 in
theorem l_X4_merge_26 {Γ : Cxt} (G : OK Γ RX4 cX4_merge 6 none 0 0) {res : St} (hR : RetOK Γ none res) (q1 : Int32 × St) (q3 : Int32 × St) (k7 : St → Option (St)) (hk : ∀ (z : St), k7 z = some res → WW Γ 64 [none, none, none, none, none, none] [] z) : ∀ (n8 : Nat) (x5 : Int32) (σ6 : St), f_X4_merge_26 q1 q3 k7 n8 x5 σ6 = some res → WW Γ 26 [some (.ref 6), none, none, some (.int q1.1), some (.int q3.1), some (.int x5)] [] σ6 := by
  intro n8
  induction n8 with
  | zero =>
    intro x5 σ6 hf
    cases hf
  | succ n8 ih =>
    intro x5 σ6 hf
    unfold f_X4_merge_26 at hf
    refine s_iload G dX4_merge_26 rfl ?_
    refine s_aload_n G dX4_merge_28 rfl ?_
    refine s_getR G dX4_merge_29 lkF_X4_45 (by decide) rfl rfl ?_
    refine s_getI (n := 0) G dX4_merge_32 lkF_X4_70 (by decide) rfl rfl ?_
    refine s_icmp_ge (tgt := 64) G dX4_merge_35 (by decide) (fun c9 => ?_) (fun c9 => ?_)
    · replace hf := ifp c9 hf
      refine s_fgt [false, true, true, false, false, false] rfl ?_
      exact hk σ6 hf
    · replace hf := ifn c9 hf
      refine s_aload_n G dX4_merge_38 rfl ?_
      refine s_getR G dX4_merge_39 lkF_X4_15 (by decide) rfl rfl ?_
      refine s_iload G dX4_merge_42 rfl ?_
      have h10 := chk_1 hf
      replace hf := chk_2 hf
      refine s_iald G dX4_merge_44 (by decide) rfl h10 ?_
      refine s_iload G dX4_merge_45 rfl ?_
      refine s_icmp_ne (tgt := 58) G dX4_merge_47 (by decide) (fun c11 => ?_) (fun c11 => ?_)
      · replace hf := ifn c11 hf
        refine s_iinc G dX4_merge_58 rfl (v := (x5 + 1)) rfl (by decide) rfl rfl ?_
        refine s_goto (tgt := 26) G dX4_merge_61 (by decide) ?_
        exact ih (x5 + 1) σ6 hf
      · replace hf := ifp c11 hf
        refine s_aload_n G dX4_merge_50 rfl ?_
        refine s_getR G dX4_merge_51 lkF_X4_15 (by decide) rfl rfl ?_
        refine s_iload G dX4_merge_54 rfl ?_
        refine s_iload_n G dX4_merge_56 rfl ?_
        refine s_iast G dX4_merge_57 (by decide) rfl h10 ?_
        refine s_st (fun σ12 eσ12 => ?_)
        replace hf := nm_at eσ12 hf
        refine s_iinc G dX4_merge_58 rfl (v := (x5 + 1)) rfl (by decide) rfl rfl ?_
        refine s_goto (tgt := 26) G dX4_merge_61 (by decide) ?_
        exact ih (x5 + 1) σ12 hf
set_option maxRecDepth 100000 in
set_option maxHeartbeats 4000000 in
theorem c_X4_merge {a1 : Int32} {a2 : Int32} {σ : St} {res : St} (hf : f_X4_merge a1 a2 σ = some res) : Mt mX4_merge [.ref 6, .int a1, .int a2] σ none res := by
  unfold f_X4_merge at hf
  refine mt_of (by decide) (Nat.le_of_ble_eq_true rfl) [some (.ref 6), some (.int a1), some (.int a2), none, none, none] rfl (fun Γ G hR => ?_)
  have G : OK Γ RX4 cX4_merge 6 none 0 0 := G
  refine s_iload_n G dX4_merge_0 rfl ?_
  refine s_iload_n G dX4_merge_1 rfl ?_
  refine jn_w (fun q1 : Int32 × St => WW Γ 10 [some (.ref 6), some (.int a1), some (.int a2), none, none, none] [.int q1.1] q1.2) hf (fun q1 hf => ?_) (fun j2 hj2 hf => ?_)
  · refine s_istore_n G dX4_merge_10 rfl (by decide) rfl rfl ?_
    refine s_iload_n G dX4_merge_11 rfl ?_
    refine s_iload_n G dX4_merge_12 rfl ?_
    refine jn_w (fun q3 : Int32 × St => WW Γ 21 [some (.ref 6), none, none, some (.int q1.1), none, none] [.int q3.1] q3.2) hf (fun q3 hf => ?_) (fun j4 hj4 hf => ?_)
    · refine s_istore G dX4_merge_21 (by decide) rfl rfl ?_
      refine s_iconst G dX4_merge_23 (v := 0) (by decide) ?_
      refine s_istore G dX4_merge_24 (by decide) rfl rfl ?_
      refine l_X4_merge_26 G hR q1 q3 _ (fun σ13 hf => ?_) 1000 (0 : Int32) q3.2 hf
      replace hf := Option.some.inj hf
      subst hf
      exact s_vret G hR dX4_merge_64 rfl rfl
    · refine s_icmp_ge (tgt := 20) G dX4_merge_13 (by decide) (fun c14 => ?_) (fun c14 => ?_)
      · replace hf := ifp c14 hf
        refine s_iload_n G dX4_merge_20 rfl ?_
        refine s_fgt [true, false, false, true, true, true] rfl ?_
        exact hj4 _ hf
      · replace hf := ifn c14 hf
        refine s_iload_n G dX4_merge_16 rfl ?_
        refine s_goto (tgt := 21) G dX4_merge_17 (by decide) ?_
        refine s_fgt [true, false, false, true, true, true] rfl ?_
        exact hj4 _ hf
  · refine s_icmp_ge (tgt := 9) G dX4_merge_2 (by decide) (fun c15 => ?_) (fun c15 => ?_)
    · replace hf := ifp c15 hf
      refine s_iload_n G dX4_merge_9 rfl ?_
      exact hj2 _ hf
    · replace hf := ifn c15 hf
      refine s_iload_n G dX4_merge_5 rfl ?_
      refine s_goto (tgt := 10) G dX4_merge_6 (by decide) ?_
      exact hj2 _ hf
def f_X4_findIslands_2 (k3 : St → Option (St)) : Nat → Int32 → St → Option (St)
  | 0, _, _ => none
  | n4 + 1, x1, σ2 =>
    if (6 : Int32) ≤ x1 then
      (k3 σ2)
    else
      (chk (ib x1 6) (
      nm (sI σ2 8 x1.toNatClampNeg x1) (fun σ7 : St =>
      f_X4_findIslands_2 k3 n4 (x1 + 1) σ7)))
def f_X4_findIslands_23 (k11 : St → Option (St)) : Nat → Int32 → St → Option (St)
  | 0, _, _ => none
  | n12 + 1, x9, σ10 =>
    if (σ10.1 24 7) ≤ x9 then
      (k11 σ10)
    else
      (chk (ib x9 10) (
      if (σ10.1 7 x9.toNatClampNeg) = 0 then
        (f_X4_findIslands_23 k11 n12 (x9 + 1) σ10)
      else
        (chk (ib (σ10.1 26 x9.toNatClampNeg) 6) (
        chk (ib (σ10.1 27 x9.toNatClampNeg) 6) (
        (f_X4_merge (σ10.1 8 (σ10.1 26 x9.toNatClampNeg).toNatClampNeg) (σ10.1 8 (σ10.1 27 x9.toNatClampNeg).toNatClampNeg) σ10).bind (fun q18 =>
        f_X4_findIslands_23 k11 n12 (x9 + 1) q18))))))
def f_X4_findIslands (σ : St) : Option (St) :=
f_X4_findIslands_2 (fun (σ8 : St) =>
    f_X4_findIslands_23 (fun (σ19 : St) =>
      some σ19) 1000 (0 : Int32) σ8) 1000 (0 : Int32) σ
abbrev mX4_findIslands : Me := (yX4_findIslands, cX4_findIslands, 2, none, 1, 25)
set_option maxRecDepth 100000 in
set_option maxHeartbeats 4000000 in
theorem l_X4_findIslands_2 {Γ : Cxt} (G : OK Γ RX4 cX4_findIslands 2 none 1 25) {res : St} (hR : RetOK Γ none res) (k3 : St → Option (St)) (hk : ∀ (z : St), k3 z = some res → WW Γ 21 [some (.ref 6), none] [] z) : ∀ (n4 : Nat) (x1 : Int32) (σ2 : St), f_X4_findIslands_2 k3 n4 x1 σ2 = some res → WW Γ 2 [some (.ref 6), some (.int x1)] [] σ2 := by
  intro n4
  induction n4 with
  | zero =>
    intro x1 σ2 hf
    cases hf
  | succ n4 ih =>
    intro x1 σ2 hf
    unfold f_X4_findIslands_2 at hf
    refine s_iload_n G dX4_findIslands_2 rfl ?_
    refine s_bipush G dX4_findIslands_3 (v := 6) (by decide) ?_
    refine s_icmp_ge (tgt := 21) G dX4_findIslands_5 (by decide) (fun c5 => ?_) (fun c5 => ?_)
    · replace hf := ifp c5 hf
      refine s_fgt [true, false] rfl ?_
      exact hk σ2 hf
    · replace hf := ifn c5 hf
      refine s_aload_n G dX4_findIslands_8 rfl ?_
      refine s_getR G dX4_findIslands_9 lkF_X4_15 (by decide) rfl rfl ?_
      refine s_iload_n G dX4_findIslands_12 rfl ?_
      refine s_iload_n G dX4_findIslands_13 rfl ?_
      have h6 := chk_1 hf
      replace hf := chk_2 hf
      refine s_iast G dX4_findIslands_14 (by decide) rfl h6 ?_
      refine s_st (fun σ7 eσ7 => ?_)
      replace hf := nm_at eσ7 hf
      refine s_iinc G dX4_findIslands_15 rfl (v := (x1 + 1)) rfl (by decide) rfl rfl ?_
      refine s_goto (tgt := 2) G dX4_findIslands_18 (by decide) ?_
      exact ih (x1 + 1) σ7 hf
set_option maxRecDepth 100000 in
set_option maxHeartbeats 4000000 in
theorem l_X4_findIslands_23 {Γ : Cxt} (G : OK Γ RX4 cX4_findIslands 2 none 1 25) {res : St} (hR : RetOK Γ none res) (k11 : St → Option (St)) (hk : ∀ (z : St), k11 z = some res → WW Γ 81 [none, none] [] z) : ∀ (n12 : Nat) (x9 : Int32) (σ10 : St), f_X4_findIslands_23 k11 n12 x9 σ10 = some res → WW Γ 23 [some (.ref 6), some (.int x9)] [] σ10 := by
  intro n12
  induction n12 with
  | zero =>
    intro x9 σ10 hf
    cases hf
  | succ n12 ih =>
    intro x9 σ10 hf
    unfold f_X4_findIslands_23 at hf
    refine s_iload_n G dX4_findIslands_23 rfl ?_
    refine s_aload_n G dX4_findIslands_24 rfl ?_
    refine s_getR G dX4_findIslands_25 lkF_X4_45 (by decide) rfl rfl ?_
    refine s_getI (n := 0) G dX4_findIslands_28 lkF_X4_49 (by decide) rfl rfl ?_
    refine s_icmp_ge (tgt := 81) G dX4_findIslands_31 (by decide) (fun c13 => ?_) (fun c13 => ?_)
    · replace hf := ifp c13 hf
      refine s_fgt [false, false] rfl ?_
      exact hk σ10 hf
    · replace hf := ifn c13 hf
      refine s_aload_n G dX4_findIslands_34 rfl ?_
      refine s_getR G dX4_findIslands_35 lkF_X4_9 (by decide) rfl rfl ?_
      refine s_iload_n G dX4_findIslands_38 rfl ?_
      have h14 := chk_1 hf
      replace hf := chk_2 hf
      refine s_zald G dX4_findIslands_39 (by decide) rfl h14 ?_
      refine s_if_eq (tgt := 75) G dX4_findIslands_40 (by decide) (fun c15 => ?_) (fun c15 => ?_)
      · replace hf := ifp c15 hf
        refine s_iinc G dX4_findIslands_75 rfl (v := (x9 + 1)) rfl (by decide) rfl rfl ?_
        refine s_goto (tgt := 23) G dX4_findIslands_78 (by decide) ?_
        exact ih (x9 + 1) σ10 hf
      · replace hf := ifn c15 hf
        refine s_aload_n G dX4_findIslands_43 rfl ?_
        refine s_aload_n G dX4_findIslands_44 rfl ?_
        refine s_getR G dX4_findIslands_45 lkF_X4_15 (by decide) rfl rfl ?_
        refine s_aload_n G dX4_findIslands_48 rfl ?_
        refine s_getR G dX4_findIslands_49 lkF_X4_45 (by decide) rfl rfl ?_
        refine s_getR G dX4_findIslands_52 lkF_X4_60 (by decide) rfl rfl ?_
        refine s_iload_n G dX4_findIslands_55 rfl ?_
        refine s_iald G dX4_findIslands_56 (by decide) rfl h14 ?_
        have h16 := chk_1 hf
        replace hf := chk_2 hf
        refine s_iald G dX4_findIslands_57 (by decide) rfl h16 ?_
        refine s_aload_n G dX4_findIslands_58 rfl ?_
        refine s_getR G dX4_findIslands_59 lkF_X4_15 (by decide) rfl rfl ?_
        refine s_aload_n G dX4_findIslands_62 rfl ?_
        refine s_getR G dX4_findIslands_63 lkF_X4_45 (by decide) rfl rfl ?_
        refine s_getR G dX4_findIslands_66 lkF_X4_63 (by decide) rfl rfl ?_
        refine s_iload_n G dX4_findIslands_69 rfl ?_
        refine s_iald G dX4_findIslands_70 (by decide) rfl h14 ?_
        have h17 := chk_1 hf
        replace hf := chk_2 hf
        refine s_iald G dX4_findIslands_71 (by decide) rfl h17 ?_
        obtain ⟨q18, hq18, hf⟩ := bnd hf
        refine s_callV G dX4_findIslands_72 (c_X4_merge hq18) lkM_X4_66 yk_X4_merge yv_X4_merge (by decide) rfl rfl _ [] rfl rfl rfl (Nat.le_of_ble_eq_true rfl) (by decide) ?_
        refine s_iinc G dX4_findIslands_75 rfl (v := (x9 + 1)) rfl (by decide) rfl rfl ?_
        refine s_goto (tgt := 23) G dX4_findIslands_78 (by decide) ?_
        exact ih (x9 + 1) q18 hf
set_option maxRecDepth 100000 in
set_option maxHeartbeats 4000000 in
theorem c_X4_findIslands  {σ : St} {res : St} (hf : f_X4_findIslands σ = some res) : Mt mX4_findIslands [.ref 6] σ none res := by
  unfold f_X4_findIslands at hf
  refine mt_of (by decide) (Nat.le_of_ble_eq_true rfl) [some (.ref 6), none] rfl (fun Γ G hR => ?_)
  have G : OK Γ RX4 cX4_findIslands 2 none 1 25 := G
  refine s_iconst G dX4_findIslands_0 (v := 0) (by decide) ?_
  refine s_istore_n G dX4_findIslands_1 rfl (by decide) rfl rfl ?_
  refine l_X4_findIslands_2 G hR _ (fun σ8 hf => ?_) 1000 (0 : Int32) σ hf
  refine s_iconst G dX4_findIslands_21 (v := 0) (by decide) ?_
  refine s_istore_n G dX4_findIslands_22 rfl (by decide) rfl rfl ?_
  refine l_X4_findIslands_23 G hR _ (fun σ19 hf => ?_) 1000 (0 : Int32) σ8 hf
  replace hf := Option.some.inj hf
  subst hf
  exact s_vret G hR dX4_findIslands_81 rfl rfl
def f_X4_take_2 (a1 : Int32) (a2 : Int32) (k3 : St → Option (St)) : Nat → Int32 → St → Option (St)
  | 0, _, _ => none
  | n4 + 1, x1, σ2 =>
    if (10 : Int32) ≤ x1 then
      (k3 σ2)
    else
      (if (σ2.1 24 7) ≤ x1 then
        (chk (ib x1 10) (
        nm (sI σ2 7 x1.toNatClampNeg (vp_nar .boolean (0 : Int32))) (fun σ8 : St =>
        f_X4_take_2 a1 a2 k3 n4 (x1 + 1) σ8)))
      else
        (chk (ib x1 10) (
        if (σ2.1 30 x1.toNatClampNeg) = 0 then
          (nm (sI σ2 7 x1.toNatClampNeg (vp_nar .boolean (0 : Int32))) (fun σ11 : St =>
          f_X4_take_2 a1 a2 k3 n4 (x1 + 1) σ11))
        else
          (if x1 = a1 then
            (nm (sI σ2 7 x1.toNatClampNeg (vp_nar .boolean (0 : Int32))) (fun σ13 : St =>
            f_X4_take_2 a1 a2 k3 n4 (x1 + 1) σ13))
          else
            (if x1 = a2 then
              (nm (sI σ2 7 x1.toNatClampNeg (vp_nar .boolean (0 : Int32))) (fun σ15 : St =>
              f_X4_take_2 a1 a2 k3 n4 (x1 + 1) σ15))
            else
              (nm (sI σ2 7 x1.toNatClampNeg (vp_nar .boolean (1 : Int32))) (fun σ16 : St =>
              f_X4_take_2 a1 a2 k3 n4 (x1 + 1) σ16)))))))
def f_X4_take (a1 : Int32) (a2 : Int32) (σ : St) : Option (St) :=
f_X4_take_2 a1 a2 (fun (σ17 : St) =>
    (f_X4_findIslands σ17).bind (fun q18 =>
    some q18)) 1000 (0 : Int32) σ
abbrev mX4_take : Me := (yX4_take, cX4_take, 4, none, 2, 46)
set_option maxRecDepth 100000 in
set_option maxHeartbeats 4000000 in
theorem l_X4_take_2 {Γ : Cxt} (G : OK Γ RX4 cX4_take 4 none 2 46) {res : St} (hR : RetOK Γ none res) (a1 : Int32) (a2 : Int32) (k3 : St → Option (St)) (hk : ∀ (z : St), k3 z = some res → WW Γ 58 [some (.ref 6), none, none, none] [] z) : ∀ (n4 : Nat) (x1 : Int32) (σ2 : St), f_X4_take_2 a1 a2 k3 n4 x1 σ2 = some res → WW Γ 2 [some (.ref 6), some (.int a1), some (.int a2), some (.int x1)] [] σ2 := by
  intro n4
  induction n4 with
  | zero =>
    intro x1 σ2 hf
    cases hf
  | succ n4 ih =>
    intro x1 σ2 hf
    unfold f_X4_take_2 at hf
    refine s_iload_n G dX4_take_2 rfl ?_
    refine s_bipush G dX4_take_3 (v := 10) (by decide) ?_
    refine s_icmp_ge (tgt := 58) G dX4_take_5 (by decide) (fun c5 => ?_) (fun c5 => ?_)
    · replace hf := ifp c5 hf
      refine s_fgt [true, false, false, false] rfl ?_
      exact hk σ2 hf
    · replace hf := ifn c5 hf
      refine s_aload_n G dX4_take_8 rfl ?_
      refine s_getR G dX4_take_9 lkF_X4_9 (by decide) rfl rfl ?_
      refine s_iload_n G dX4_take_12 rfl ?_
      refine s_iload_n G dX4_take_13 rfl ?_
      refine s_aload_n G dX4_take_14 rfl ?_
      refine s_getR G dX4_take_15 lkF_X4_45 (by decide) rfl rfl ?_
      refine s_getI (n := 0) G dX4_take_18 lkF_X4_49 (by decide) rfl rfl ?_
      refine s_icmp_ge (tgt := 50) G dX4_take_21 (by decide) (fun c6 => ?_) (fun c6 => ?_)
      · replace hf := ifp c6 hf
        refine s_iconst G dX4_take_50 (v := 0) (by decide) ?_
        have h7 := chk_1 hf
        replace hf := chk_2 hf
        refine s_zast G dX4_take_51 (by decide) rfl h7 ?_
        refine s_st (fun σ8 eσ8 => ?_)
        replace hf := nm_at eσ8 hf
        refine s_iinc G dX4_take_52 rfl (v := (x1 + 1)) rfl (by decide) rfl rfl ?_
        refine s_goto (tgt := 2) G dX4_take_55 (by decide) ?_
        exact ih (x1 + 1) σ8 hf
      · replace hf := ifn c6 hf
        refine s_aload_n G dX4_take_24 rfl ?_
        refine s_getR G dX4_take_25 lkF_X4_45 (by decide) rfl rfl ?_
        refine s_getR G dX4_take_28 lkF_X4_54 (by decide) rfl rfl ?_
        refine s_iload_n G dX4_take_31 rfl ?_
        have h9 := chk_1 hf
        replace hf := chk_2 hf
        refine s_zald G dX4_take_32 (by decide) rfl h9 ?_
        refine s_if_eq (tgt := 50) G dX4_take_33 (by decide) (fun c10 => ?_) (fun c10 => ?_)
        · replace hf := ifp c10 hf
          refine s_iconst G dX4_take_50 (v := 0) (by decide) ?_
          refine s_zast G dX4_take_51 (by decide) rfl h9 ?_
          refine s_st (fun σ11 eσ11 => ?_)
          replace hf := nm_at eσ11 hf
          refine s_iinc G dX4_take_52 rfl (v := (x1 + 1)) rfl (by decide) rfl rfl ?_
          refine s_goto (tgt := 2) G dX4_take_55 (by decide) ?_
          exact ih (x1 + 1) σ11 hf
        · replace hf := ifn c10 hf
          refine s_iload_n G dX4_take_36 rfl ?_
          refine s_iload_n G dX4_take_37 rfl ?_
          refine s_icmp_eq (tgt := 50) G dX4_take_38 (by decide) (fun c12 => ?_) (fun c12 => ?_)
          · replace hf := ifp c12 hf
            refine s_iconst G dX4_take_50 (v := 0) (by decide) ?_
            refine s_zast G dX4_take_51 (by decide) rfl h9 ?_
            refine s_st (fun σ13 eσ13 => ?_)
            replace hf := nm_at eσ13 hf
            refine s_iinc G dX4_take_52 rfl (v := (x1 + 1)) rfl (by decide) rfl rfl ?_
            refine s_goto (tgt := 2) G dX4_take_55 (by decide) ?_
            exact ih (x1 + 1) σ13 hf
          · replace hf := ifn c12 hf
            refine s_iload_n G dX4_take_41 rfl ?_
            refine s_iload_n G dX4_take_42 rfl ?_
            refine s_icmp_eq (tgt := 50) G dX4_take_43 (by decide) (fun c14 => ?_) (fun c14 => ?_)
            · replace hf := ifp c14 hf
              refine s_iconst G dX4_take_50 (v := 0) (by decide) ?_
              refine s_zast G dX4_take_51 (by decide) rfl h9 ?_
              refine s_st (fun σ15 eσ15 => ?_)
              replace hf := nm_at eσ15 hf
              refine s_iinc G dX4_take_52 rfl (v := (x1 + 1)) rfl (by decide) rfl rfl ?_
              refine s_goto (tgt := 2) G dX4_take_55 (by decide) ?_
              exact ih (x1 + 1) σ15 hf
            · replace hf := ifn c14 hf
              refine s_iconst G dX4_take_46 (v := 1) (by decide) ?_
              refine s_goto (tgt := 51) G dX4_take_47 (by decide) ?_
              refine s_zast G dX4_take_51 (by decide) rfl h9 ?_
              refine s_st (fun σ16 eσ16 => ?_)
              replace hf := nm_at eσ16 hf
              refine s_iinc G dX4_take_52 rfl (v := (x1 + 1)) rfl (by decide) rfl rfl ?_
              refine s_goto (tgt := 2) G dX4_take_55 (by decide) ?_
              exact ih (x1 + 1) σ16 hf
set_option maxRecDepth 100000 in
set_option maxHeartbeats 4000000 in
theorem c_X4_take {a1 : Int32} {a2 : Int32} {σ : St} {res : St} (hf : f_X4_take a1 a2 σ = some res) : Mt mX4_take [.ref 6, .int a1, .int a2] σ none res := by
  unfold f_X4_take at hf
  refine mt_of (by decide) (Nat.le_of_ble_eq_true rfl) [some (.ref 6), some (.int a1), some (.int a2), none] rfl (fun Γ G hR => ?_)
  have G : OK Γ RX4 cX4_take 4 none 2 46 := G
  refine s_iconst G dX4_take_0 (v := 0) (by decide) ?_
  refine s_istore_n G dX4_take_1 rfl (by decide) rfl rfl ?_
  refine l_X4_take_2 G hR a1 a2 _ (fun σ17 hf => ?_) 1000 (0 : Int32) σ hf
  refine s_aload_n G dX4_take_58 rfl ?_
  obtain ⟨q18, hq18, hf⟩ := bnd hf
  refine s_callV G dX4_take_59 (c_X4_findIslands hq18) lkM_X4_57 yk_X4_findIslands yv_X4_findIslands (by decide) rfl rfl _ [] rfl rfl rfl (Nat.le_of_ble_eq_true rfl) (by decide) ?_
  replace hf := Option.some.inj hf
  subst hf
  exact s_vret G hR dX4_take_62 rfl rfl
def f_X4_joins (a1 : Int32) (a2 : Int32) (σ : St) : Option (Int32 × St) :=
chk (ib a1 6) (
  chk (ib a2 6) (
  if (σ.1 8 a1.toNatClampNeg) = (σ.1 8 a2.toNatClampNeg) then
    (some ((1 : Int32), σ))
  else
    (some ((0 : Int32), σ))))
abbrev mX4_joins : Me := (yX4_joins, cX4_joins, 3, (some .boolean), 0, 0)
set_option maxRecDepth 100000 in
set_option maxHeartbeats 4000000 in
theorem c_X4_joins {a1 : Int32} {a2 : Int32} {σ : St} {res : Int32 × St} (hf : f_X4_joins a1 a2 σ = some res) : Mt mX4_joins [.ref 6, .int a1, .int a2] σ (some (.int res.1)) res.2 := by
  unfold f_X4_joins at hf
  refine mt_of (by decide) (Nat.le_of_ble_eq_true rfl) [some (.ref 6), some (.int a1), some (.int a2)] rfl (fun Γ G hR => ?_)
  have G : OK Γ RX4 cX4_joins 3 (some .boolean) 0 0 := G
  refine s_aload_n G dX4_joins_0 rfl ?_
  refine s_getR G dX4_joins_1 lkF_X4_15 (by decide) rfl rfl ?_
  refine s_iload_n G dX4_joins_4 rfl ?_
  have h1 := chk_1 hf
  replace hf := chk_2 hf
  refine s_iald G dX4_joins_5 (by decide) rfl h1 ?_
  refine s_aload_n G dX4_joins_6 rfl ?_
  refine s_getR G dX4_joins_7 lkF_X4_15 (by decide) rfl rfl ?_
  refine s_iload_n G dX4_joins_10 rfl ?_
  have h2 := chk_1 hf
  replace hf := chk_2 hf
  refine s_iald G dX4_joins_11 (by decide) rfl h2 ?_
  refine s_icmp_ne (tgt := 19) G dX4_joins_12 (by decide) (fun c3 => ?_) (fun c3 => ?_)
  · replace hf := ifn c3 hf
    refine s_iconst G dX4_joins_19 (v := 0) (by decide) ?_
    replace hf := Option.some.inj hf
    subst hf
    exact s_zret G hR dX4_joins_20 (by decide) rfl rfl
  · replace hf := ifp c3 hf
    refine s_iconst G dX4_joins_15 (v := 1) (by decide) ?_
    refine s_goto (tgt := 20) G dX4_joins_16 (by decide) ?_
    replace hf := Option.some.inj hf
    subst hf
    exact s_zret G hR dX4_joins_20 (by decide) rfl rfl
def f_X4_startRow_29 (a1 : Int32) (a2 : Int32) (a3 : Int32) (x1 : Int32) (q3 : Int32 × St) (k7 : St → Option (St)) : Nat → Int32 → St → Option (St)
  | 0, _, _ => none
  | n8 + 1, x5, σ6 =>
    if x1 ≤ x5 then
      (k7 σ6)
    else
      (chk (ib a1 6) (
      if q3.1 = 0 then
        (chk (ib x5 8) (
        nm (sL σ6 (9 + 1 * (a1.toNatClampNeg + 1)) x5.toNatClampNeg (0 : Int64)) (fun σ13 : St =>
        f_X4_startRow_29 a1 a2 a3 x1 q3 k7 n8 (x5 + 1) σ13)))
      else
        (if x5 = a1 then
          (chk (ib x5 8) (
          nm (sL σ6 (9 + 1 * (a1.toNatClampNeg + 1)) x5.toNatClampNeg (1 : Int64)) (fun σ18 : St =>
          f_X4_startRow_29 a1 a2 a3 x1 q3 k7 n8 (x5 + 1) σ18)))
        else
          (chk (ib x5 8) (
          nm (sL σ6 (9 + 1 * (a1.toNatClampNeg + 1)) x5.toNatClampNeg (0 : Int64)) (fun σ16 : St =>
          f_X4_startRow_29 a1 a2 a3 x1 q3 k7 n8 (x5 + 1) σ16))))))
def f_X4_startRow (a1 : Int32) (a2 : Int32) (a3 : Int32) (σ : St) : Option (St) :=
nm (σ.1 24 6) (fun x1 : Int32 =>
  chk (ib a1 6) (
  jn (fun q3 : Int32 × St =>
    (f_X4_startRow_29 a1 a2 a3 x1 q3 (fun (σ19 : St) =>
      chk (ib a1 6) (
      jn (fun q21 : Int64 × St =>
        (chk (ib x1 8) (
        nm (sL q21.2 (9 + 1 * (a1.toNatClampNeg + 1)) x1.toNatClampNeg q21.1) (fun σ24 : St =>
        if q3.1 = 0 then
          (jn (fun q26 : Int32 × St =>
            (if a1 = a3 then
              (chk (ib (x1 + (1 : Int32)) 8) (
              nm (sL q26.2 (9 + 1 * (a1.toNatClampNeg + 1)) (x1 + (1 : Int32)).toNatClampNeg (q26.1 - (1 : Int32)).toInt64) (fun σ32 : St =>
              some σ32)))
            else
              (chk (ib (x1 + (1 : Int32)) 8) (
              nm (sL q26.2 (9 + 1 * (a1.toNatClampNeg + 1)) (x1 + (1 : Int32)).toNatClampNeg (q26.1 - (0 : Int32)).toInt64) (fun σ30 : St =>
              some σ30))))) (fun j27 =>
            if a1 = a2 then
              (j27 ((1 : Int32), σ24))
            else
              (j27 ((0 : Int32), σ24))))
        else
          (chk (ib (x1 + (1 : Int32)) 8) (
          nm (sL σ24 (9 + 1 * (a1.toNatClampNeg + 1)) (x1 + (1 : Int32)).toNatClampNeg (0 : Int64)) (fun σ35 : St =>
          some σ35))))))) (fun j22 =>
        if q3.1 = 0 then
          (j22 ((σ19.1 25 a1.toNatClampNeg).toInt64, σ19))
        else
          (j22 ((0 : Int64), σ19))))) 1000 (0 : Int32) q3.2)) (fun j4 =>
    if (σ.1 8 a1.toNatClampNeg) = a1 then
      (j4 ((1 : Int32), σ))
    else
      (j4 ((0 : Int32), σ)))))
abbrev mX4_startRow : Me := (yX4_startRow, cX4_startRow, 7, none, 0, 0)
set_option maxRecDepth 100000 in
set_option maxHeartbeats 4000000 in
theorem l_X4_startRow_29 {Γ : Cxt} (G : OK Γ RX4 cX4_startRow 7 none 0 0) {res : St} (hR : RetOK Γ none res) (a1 : Int32) (a2 : Int32) (a3 : Int32) (x1 : Int32) (q3 : Int32 × St) (k7 : St → Option (St)) (hk : ∀ (z : St), k7 z = some res → WW Γ 67 [some (.ref 6), some (.int a1), some (.int a2), some (.int a3), some (.int x1), some (.int q3.1), none] [] z) : ∀ (n8 : Nat) (x5 : Int32) (σ6 : St), f_X4_startRow_29 a1 a2 a3 x1 q3 k7 n8 x5 σ6 = some res → WW Γ 29 [some (.ref 6), some (.int a1), some (.int a2), some (.int a3), some (.int x1), some (.int q3.1), some (.int x5)] [] σ6 := by
  intro n8
  induction n8 with
  | zero =>
    intro x5 σ6 hf
    cases hf
  | succ n8 ih =>
    intro x5 σ6 hf
    unfold f_X4_startRow_29 at hf
    refine s_iload G dX4_startRow_29 rfl ?_
    refine s_iload G dX4_startRow_31 rfl ?_
    refine s_icmp_ge (tgt := 67) G dX4_startRow_33 (by decide) (fun c9 => ?_) (fun c9 => ?_)
    · replace hf := ifp c9 hf
      refine s_fgt [true, true, true, true, true, true, false] rfl ?_
      exact hk σ6 hf
    · replace hf := ifn c9 hf
      refine s_aload_n G dX4_startRow_36 rfl ?_
      refine s_getR G dX4_startRow_37 lkF_X4_21 (by decide) rfl rfl ?_
      refine s_iload_n G dX4_startRow_40 rfl ?_
      have h10 := chk_1 hf
      replace hf := chk_2 hf
      refine s_aald G dX4_startRow_41 (by decide) rfl h10 ?_
      refine s_iload G dX4_startRow_42 rfl ?_
      refine s_iload G dX4_startRow_44 rfl ?_
      refine s_if_eq (tgt := 59) G dX4_startRow_46 (by decide) (fun c11 => ?_) (fun c11 => ?_)
      · replace hf := ifp c11 hf
        refine s_lconst G dX4_startRow_59 (v := 0) (by decide) ?_
        have h12 := chk_1 hf
        replace hf := chk_2 hf
        refine s_last G dX4_startRow_60 (row_lt (ib_lt h10)) (kd_row (ib_lt h10)) h12 ?_
        refine s_st (fun σ13 eσ13 => ?_)
        replace hf := nm_at eσ13 hf
        refine s_iinc G dX4_startRow_61 rfl (v := (x5 + 1)) rfl (by decide) rfl rfl ?_
        refine s_goto (tgt := 29) G dX4_startRow_64 (by decide) ?_
        exact ih (x5 + 1) σ13 hf
      · replace hf := ifn c11 hf
        refine s_iload G dX4_startRow_49 rfl ?_
        refine s_iload_n G dX4_startRow_51 rfl ?_
        refine s_icmp_ne (tgt := 59) G dX4_startRow_52 (by decide) (fun c14 => ?_) (fun c14 => ?_)
        · replace hf := ifn c14 hf
          refine s_lconst G dX4_startRow_59 (v := 0) (by decide) ?_
          have h15 := chk_1 hf
          replace hf := chk_2 hf
          refine s_last G dX4_startRow_60 (row_lt (ib_lt h10)) (kd_row (ib_lt h10)) h15 ?_
          refine s_st (fun σ16 eσ16 => ?_)
          replace hf := nm_at eσ16 hf
          refine s_iinc G dX4_startRow_61 rfl (v := (x5 + 1)) rfl (by decide) rfl rfl ?_
          refine s_goto (tgt := 29) G dX4_startRow_64 (by decide) ?_
          exact ih (x5 + 1) σ16 hf
        · replace hf := ifp c14 hf
          refine s_lconst G dX4_startRow_55 (v := 1) (by decide) ?_
          refine s_goto (tgt := 60) G dX4_startRow_56 (by decide) ?_
          have h17 := chk_1 hf
          replace hf := chk_2 hf
          refine s_last G dX4_startRow_60 (row_lt (ib_lt h10)) (kd_row (ib_lt h10)) h17 ?_
          refine s_st (fun σ18 eσ18 => ?_)
          replace hf := nm_at eσ18 hf
          refine s_iinc G dX4_startRow_61 rfl (v := (x5 + 1)) rfl (by decide) rfl rfl ?_
          refine s_goto (tgt := 29) G dX4_startRow_64 (by decide) ?_
          exact ih (x5 + 1) σ18 hf
set_option maxRecDepth 100000 in
set_option maxHeartbeats 4000000 in
theorem c_X4_startRow {a1 : Int32} {a2 : Int32} {a3 : Int32} {σ : St} {res : St} (hf : f_X4_startRow a1 a2 a3 σ = some res) : Mt mX4_startRow [.ref 6, .int a1, .int a2, .int a3] σ none res := by
  unfold f_X4_startRow at hf
  refine mt_of (by decide) (Nat.le_of_ble_eq_true rfl) [some (.ref 6), some (.int a1), some (.int a2), some (.int a3), none, none, none] rfl (fun Γ G hR => ?_)
  have G : OK Γ RX4 cX4_startRow 7 none 0 0 := G
  refine s_aload_n G dX4_startRow_0 rfl ?_
  refine s_getR G dX4_startRow_1 lkF_X4_45 (by decide) rfl rfl ?_
  refine s_getI (n := 0) G dX4_startRow_4 lkF_X4_70 (by decide) rfl rfl ?_
  refine s_topi (fun x1 ex1 => ?_)
  replace hf := nm_at ex1 hf
  refine s_istore G dX4_startRow_7 (by decide) rfl rfl ?_
  refine s_aload_n G dX4_startRow_9 rfl ?_
  refine s_getR G dX4_startRow_10 lkF_X4_15 (by decide) rfl rfl ?_
  refine s_iload_n G dX4_startRow_13 rfl ?_
  have h2 := chk_1 hf
  replace hf := chk_2 hf
  refine s_iald G dX4_startRow_14 (by decide) rfl h2 ?_
  refine s_iload_n G dX4_startRow_15 rfl ?_
  refine jn_w (fun q3 : Int32 × St => WW Γ 24 [some (.ref 6), some (.int a1), some (.int a2), some (.int a3), some (.int x1), none, none] [.int q3.1] q3.2) hf (fun q3 hf => ?_) (fun j4 hj4 hf => ?_)
  · refine s_istore G dX4_startRow_24 (by decide) rfl rfl ?_
    refine s_iconst G dX4_startRow_26 (v := 0) (by decide) ?_
    refine s_istore G dX4_startRow_27 (by decide) rfl rfl ?_
    refine l_X4_startRow_29 G hR a1 a2 a3 x1 q3 _ (fun σ19 hf => ?_) 1000 (0 : Int32) q3.2 hf
    refine s_aload_n G dX4_startRow_67 rfl ?_
    refine s_getR G dX4_startRow_68 lkF_X4_21 (by decide) rfl rfl ?_
    refine s_iload_n G dX4_startRow_71 rfl ?_
    have h20 := chk_1 hf
    replace hf := chk_2 hf
    refine s_aald G dX4_startRow_72 (by decide) rfl h20 ?_
    refine s_iload G dX4_startRow_73 rfl ?_
    refine s_iload G dX4_startRow_75 rfl ?_
    refine jn_w (fun q21 : Int64 × St => WW Γ 94 [some (.ref 6), some (.int a1), some (.int a2), some (.int a3), some (.int x1), some (.int q3.1), none] [.long q21.1, .int x1, .ref (9 + 1 * (a1.toNatClampNeg + 1))] q21.2) hf (fun q21 hf => ?_) (fun j22 hj22 hf => ?_)
    · have h23 := chk_1 hf
      replace hf := chk_2 hf
      refine s_last G dX4_startRow_94 (row_lt (ib_lt h20)) (kd_row (ib_lt h20)) h23 ?_
      refine s_st (fun σ24 eσ24 => ?_)
      replace hf := nm_at eσ24 hf
      refine s_aload_n G dX4_startRow_95 rfl ?_
      refine s_getR G dX4_startRow_96 lkF_X4_21 (by decide) rfl rfl ?_
      refine s_iload_n G dX4_startRow_99 rfl ?_
      refine s_aald G dX4_startRow_100 (by decide) rfl h20 ?_
      refine s_iload G dX4_startRow_101 rfl ?_
      refine s_iconst G dX4_startRow_103 (v := 1) (by decide) ?_
      refine s_iadd G dX4_startRow_104 ?_
      refine s_iload G dX4_startRow_105 rfl ?_
      refine s_if_eq (tgt := 114) G dX4_startRow_107 (by decide) (fun c25 => ?_) (fun c25 => ?_)
      · replace hf := ifp c25 hf
        refine s_iload_n G dX4_startRow_114 rfl ?_
        refine s_iload_n G dX4_startRow_115 rfl ?_
        refine jn_w (fun q26 : Int32 × St => WW Γ 124 [none, some (.int a1), none, some (.int a3), none, none, none] [.int q26.1, .int (x1 + (1 : Int32)), .ref (9 + 1 * (a1.toNatClampNeg + 1))] q26.2) hf (fun q26 hf => ?_) (fun j27 hj27 hf => ?_)
        · refine s_iload_n G dX4_startRow_124 rfl ?_
          refine s_iload_n G dX4_startRow_125 rfl ?_
          refine s_icmp_ne (tgt := 133) G dX4_startRow_126 (by decide) (fun c28 => ?_) (fun c28 => ?_)
          · replace hf := ifn c28 hf
            refine s_iconst G dX4_startRow_133 (v := 0) (by decide) ?_
            refine s_isub G dX4_startRow_134 ?_
            refine s_i2l G dX4_startRow_135 ?_
            have h29 := chk_1 hf
            replace hf := chk_2 hf
            refine s_last G dX4_startRow_136 (row_lt (ib_lt h20)) (kd_row (ib_lt h20)) h29 ?_
            refine s_st (fun σ30 eσ30 => ?_)
            replace hf := nm_at eσ30 hf
            replace hf := Option.some.inj hf
            subst hf
            exact s_vret G hR dX4_startRow_137 rfl rfl
          · replace hf := ifp c28 hf
            refine s_iconst G dX4_startRow_129 (v := 1) (by decide) ?_
            refine s_goto (tgt := 134) G dX4_startRow_130 (by decide) ?_
            refine s_isub G dX4_startRow_134 ?_
            refine s_i2l G dX4_startRow_135 ?_
            have h31 := chk_1 hf
            replace hf := chk_2 hf
            refine s_last G dX4_startRow_136 (row_lt (ib_lt h20)) (kd_row (ib_lt h20)) h31 ?_
            refine s_st (fun σ32 eσ32 => ?_)
            replace hf := nm_at eσ32 hf
            replace hf := Option.some.inj hf
            subst hf
            exact s_vret G hR dX4_startRow_137 rfl rfl
        · refine s_icmp_ne (tgt := 123) G dX4_startRow_116 (by decide) (fun c33 => ?_) (fun c33 => ?_)
          · replace hf := ifn c33 hf
            refine s_iconst G dX4_startRow_123 (v := 0) (by decide) ?_
            refine s_fgt [false, true, false, true, false, false, true] rfl ?_
            exact hj27 _ hf
          · replace hf := ifp c33 hf
            refine s_iconst G dX4_startRow_119 (v := 1) (by decide) ?_
            refine s_goto (tgt := 124) G dX4_startRow_120 (by decide) ?_
            refine s_fgt [false, true, false, true, false, false, true] rfl ?_
            exact hj27 _ hf
      · replace hf := ifn c25 hf
        refine s_lconst G dX4_startRow_110 (v := 0) (by decide) ?_
        refine s_goto (tgt := 136) G dX4_startRow_111 (by decide) ?_
        have h34 := chk_1 hf
        replace hf := chk_2 hf
        refine s_last G dX4_startRow_136 (row_lt (ib_lt h20)) (kd_row (ib_lt h20)) h34 ?_
        refine s_st (fun σ35 eσ35 => ?_)
        replace hf := nm_at eσ35 hf
        replace hf := Option.some.inj hf
        subst hf
        exact s_vret G hR dX4_startRow_137 rfl rfl
    · refine s_if_eq (tgt := 84) G dX4_startRow_77 (by decide) (fun c36 => ?_) (fun c36 => ?_)
      · replace hf := ifp c36 hf
        refine s_aload_n G dX4_startRow_84 rfl ?_
        refine s_getR G dX4_startRow_85 lkF_X4_45 (by decide) rfl rfl ?_
        refine s_getR G dX4_startRow_88 lkF_X4_73 (by decide) rfl rfl ?_
        refine s_iload_n G dX4_startRow_91 rfl ?_
        refine s_iald G dX4_startRow_92 (by decide) rfl h20 ?_
        refine s_i2l G dX4_startRow_93 ?_
        exact hj22 _ hf
      · replace hf := ifn c36 hf
        refine s_lconst G dX4_startRow_80 (v := 0) (by decide) ?_
        refine s_goto (tgt := 94) G dX4_startRow_81 (by decide) ?_
        exact hj22 _ hf
  · refine s_icmp_ne (tgt := 23) G dX4_startRow_16 (by decide) (fun c37 => ?_) (fun c37 => ?_)
    · replace hf := ifn c37 hf
      refine s_iconst G dX4_startRow_23 (v := 0) (by decide) ?_
      exact hj4 _ hf
    · replace hf := ifp c37 hf
      refine s_iconst G dX4_startRow_19 (v := 1) (by decide) ?_
      refine s_goto (tgt := 24) G dX4_startRow_20 (by decide) ?_
      exact hj4 _ hf
def f_X4_addTerms (a1 : Int32) (a2 : Int32) (a3 : Int32) (σ : St) : Option (St) :=
chk (ib a1 6) (
  if (σ.1 8 a1.toNatClampNeg) = a1 then
    (some σ)
  else
    (chk (ib a1 8) (
    nm (sL σ (9 + 1 * (a1.toNatClampNeg + 1)) a1.toNatClampNeg ((σ.2 (9 + 1 * (a1.toNatClampNeg + 1)) a1.toNatClampNeg) + a3.toInt64)) (fun σ4 : St =>
    chk (ib a2 6) (
    if (σ4.1 8 a2.toNatClampNeg) = a2 then
      (some σ4)
    else
      (chk (ib a2 8) (
      nm (sL σ4 (9 + 1 * (a1.toNatClampNeg + 1)) a2.toNatClampNeg ((σ4.2 (9 + 1 * (a1.toNatClampNeg + 1)) a2.toNatClampNeg) - a3.toInt64)) (fun σ8 : St =>
      some σ8))))))))
abbrev mX4_addTerms : Me := (yX4_addTerms, cX4_addTerms, 4, none, 0, 0)
set_option maxRecDepth 100000 in
set_option maxHeartbeats 4000000 in
theorem c_X4_addTerms {a1 : Int32} {a2 : Int32} {a3 : Int32} {σ : St} {res : St} (hf : f_X4_addTerms a1 a2 a3 σ = some res) : Mt mX4_addTerms [.ref 6, .int a1, .int a2, .int a3] σ none res := by
  unfold f_X4_addTerms at hf
  refine mt_of (by decide) (Nat.le_of_ble_eq_true rfl) [some (.ref 6), some (.int a1), some (.int a2), some (.int a3)] rfl (fun Γ G hR => ?_)
  have G : OK Γ RX4 cX4_addTerms 4 none 0 0 := G
  refine s_aload_n G dX4_addTerms_0 rfl ?_
  refine s_getR G dX4_addTerms_1 lkF_X4_15 (by decide) rfl rfl ?_
  refine s_iload_n G dX4_addTerms_4 rfl ?_
  have h1 := chk_1 hf
  replace hf := chk_2 hf
  refine s_iald G dX4_addTerms_5 (by decide) rfl h1 ?_
  refine s_iload_n G dX4_addTerms_6 rfl ?_
  refine s_icmp_ne (tgt := 11) G dX4_addTerms_7 (by decide) (fun c2 => ?_) (fun c2 => ?_)
  · replace hf := ifn c2 hf
    refine s_aload_n G dX4_addTerms_11 rfl ?_
    refine s_getR G dX4_addTerms_12 lkF_X4_21 (by decide) rfl rfl ?_
    refine s_iload_n G dX4_addTerms_15 rfl ?_
    refine s_aald G dX4_addTerms_16 (by decide) rfl h1 ?_
    refine s_iload_n G dX4_addTerms_17 rfl ?_
    refine s_dup2 G dX4_addTerms_18 rfl rfl ?_
    have h3 := chk_1 hf
    replace hf := chk_2 hf
    refine s_lald G dX4_addTerms_19 (row_lt (ib_lt h1)) (kd_row (ib_lt h1)) h3 ?_
    refine s_iload_n G dX4_addTerms_20 rfl ?_
    refine s_i2l G dX4_addTerms_21 ?_
    refine s_ladd G dX4_addTerms_22 ?_
    refine s_last G dX4_addTerms_23 (row_lt (ib_lt h1)) (kd_row (ib_lt h1)) h3 ?_
    refine s_st (fun σ4 eσ4 => ?_)
    replace hf := nm_at eσ4 hf
    refine s_aload_n G dX4_addTerms_24 rfl ?_
    refine s_getR G dX4_addTerms_25 lkF_X4_15 (by decide) rfl rfl ?_
    refine s_iload_n G dX4_addTerms_28 rfl ?_
    have h5 := chk_1 hf
    replace hf := chk_2 hf
    refine s_iald G dX4_addTerms_29 (by decide) rfl h5 ?_
    refine s_iload_n G dX4_addTerms_30 rfl ?_
    refine s_icmp_eq (tgt := 47) G dX4_addTerms_31 (by decide) (fun c6 => ?_) (fun c6 => ?_)
    · replace hf := ifp c6 hf
      replace hf := Option.some.inj hf
      subst hf
      exact s_vret G hR dX4_addTerms_47 rfl rfl
    · replace hf := ifn c6 hf
      refine s_aload_n G dX4_addTerms_34 rfl ?_
      refine s_getR G dX4_addTerms_35 lkF_X4_21 (by decide) rfl rfl ?_
      refine s_iload_n G dX4_addTerms_38 rfl ?_
      refine s_aald G dX4_addTerms_39 (by decide) rfl h1 ?_
      refine s_iload_n G dX4_addTerms_40 rfl ?_
      refine s_dup2 G dX4_addTerms_41 rfl rfl ?_
      have h7 := chk_1 hf
      replace hf := chk_2 hf
      refine s_lald G dX4_addTerms_42 (row_lt (ib_lt h1)) (kd_row (ib_lt h1)) h7 ?_
      refine s_iload_n G dX4_addTerms_43 rfl ?_
      refine s_i2l G dX4_addTerms_44 ?_
      refine s_lsub G dX4_addTerms_45 ?_
      refine s_last G dX4_addTerms_46 (row_lt (ib_lt h1)) (kd_row (ib_lt h1)) h7 ?_
      refine s_st (fun σ8 eσ8 => ?_)
      replace hf := nm_at eσ8 hf
      replace hf := Option.some.inj hf
      subst hf
      exact s_vret G hR dX4_addTerms_47 rfl rfl
  · replace hf := ifp c2 hf
    replace hf := Option.some.inj hf
    subst hf
    exact s_vret G hR dX4_addTerms_10 rfl rfl
def f_X4_eliminate_63 (x2 : Int32) (x3 : Int32) (x11 : Int64) (x12 : Int32) (x19 : Int64) (k23 : St → Option (St)) : Nat → Int32 → St → Option (St)
  | 0, _, _ => none
  | n24 + 1, x21, σ22 =>
    if x12 = x3 then
      (k23 σ22)
    else
      (if (x2 + (2 : Int32)) ≤ x21 then
        (k23 σ22)
      else
        (chk (ib x12 6) (
        chk (ib x21 8) (
        chk (ib x3 6) (
        chk (decide (¬ (σ22.2 6 7) = 0)) (
        nm (sL σ22 (9 + 1 * (x12.toNatClampNeg + 1)) x21.toNatClampNeg (((x11 * (σ22.2 (9 + 1 * (x12.toNatClampNeg + 1)) x21.toNatClampNeg)) - (x19 * (σ22.2 (9 + 1 * (x3.toNatClampNeg + 1)) x21.toNatClampNeg))) / (σ22.2 6 7))) (fun σ31 : St =>
        f_X4_eliminate_63 x2 x3 x11 x12 x19 k23 n24 (x21 + 1) σ31)))))))
def f_X4_eliminate_41 (x2 : Int32) (x3 : Int32) (x11 : Int64) (k14 : St → Option (St)) : Nat → Int32 → St → Option (St)
  | 0, _, _ => none
  | n15 + 1, x12, σ13 =>
    if x2 ≤ x12 then
      (k14 σ13)
    else
      (chk (ib x12 6) (
      chk (ib x3 8) (
      nm (σ13.2 (9 + 1 * (x12.toNatClampNeg + 1)) x3.toNatClampNeg) (fun x19 : Int64 =>
      nm (x3 + (1 : Int32)) (fun x20 : Int32 =>
      f_X4_eliminate_63 x2 x3 x11 x12 x19 (fun (σ32 : St) =>
        f_X4_eliminate_41 x2 x3 x11 k14 n15 (x12 + 1) σ32) 1000 x20 σ13)))))
def f_X4_eliminate_15 (x2 : Int32) (k5 : St → Option (St)) : Nat → Int32 → St → Option (St)
  | 0, _, _ => none
  | n6 + 1, x3, σ4 =>
    if x2 ≤ x3 then
      (k5 σ4)
    else
      (if (σ4.2 6 7) = (0 : Int64) then
        (k5 σ4)
      else
        (chk (ib x3 6) (
        chk (ib x3 8) (
        nm (σ4.2 (9 + 1 * (x3.toNatClampNeg + 1)) x3.toNatClampNeg) (fun x11 : Int64 =>
        f_X4_eliminate_41 x2 x3 x11 (fun (σ33 : St) =>
          nm (sL σ33 6 7 x11) (fun σ34 : St =>
          f_X4_eliminate_15 x2 k5 n6 (x3 + 1) σ34)) 1000 (0 : Int32) σ4)))))
def f_X4_eliminate (σ : St) : Option (St) :=
nm (sL σ 6 7 (1 : Int64)) (fun σ1 : St =>
  nm (σ1.1 24 6) (fun x2 : Int32 =>
  f_X4_eliminate_15 x2 (fun (σ35 : St) =>
    some σ35) 1000 (0 : Int32) σ1))
abbrev mX4_eliminate : Me := (yX4_eliminate, cX4_eliminate, 9, none, 0, 0)
set_option maxRecDepth 100000 in
set_option maxHeartbeats 4000000 in
theorem l_X4_eliminate_63 {Γ : Cxt} (G : OK Γ RX4 cX4_eliminate 9 none 0 0) {res : St} (hR : RetOK Γ none res) (x2 : Int32) (x3 : Int32) (x11 : Int64) (x12 : Int32) (x19 : Int64) (k23 : St → Option (St)) (hk : ∀ (z : St), k23 z = some res → WW Γ 123 [some (.ref 6), some (.int x2), some (.int x3), some (.long x11), none, some (.int x12), none, none, none] [] z) : ∀ (n24 : Nat) (x21 : Int32) (σ22 : St), f_X4_eliminate_63 x2 x3 x11 x12 x19 k23 n24 x21 σ22 = some res → WW Γ 63 [some (.ref 6), some (.int x2), some (.int x3), some (.long x11), none, some (.int x12), some (.long x19), none, some (.int x21)] [] σ22 := by
  intro n24
  induction n24 with
  | zero =>
    intro x21 σ22 hf
    cases hf
  | succ n24 ih =>
    intro x21 σ22 hf
    unfold f_X4_eliminate_63 at hf
    refine s_iload G dX4_eliminate_63 rfl ?_
    refine s_iload_n G dX4_eliminate_65 rfl ?_
    refine s_icmp_eq (tgt := 123) G dX4_eliminate_66 (by decide) (fun c25 => ?_) (fun c25 => ?_)
    · replace hf := ifp c25 hf
      refine s_fgt [true, true, true, true, true, true, false, true, false] rfl ?_
      exact hk σ22 hf
    · replace hf := ifn c25 hf
      refine s_iload G dX4_eliminate_69 rfl ?_
      refine s_iload_n G dX4_eliminate_71 rfl ?_
      refine s_iconst G dX4_eliminate_72 (v := 2) (by decide) ?_
      refine s_iadd G dX4_eliminate_73 ?_
      refine s_icmp_ge (tgt := 123) G dX4_eliminate_74 (by decide) (fun c26 => ?_) (fun c26 => ?_)
      · replace hf := ifp c26 hf
        refine s_fgt [true, true, true, true, true, true, false, true, false] rfl ?_
        exact hk σ22 hf
      · replace hf := ifn c26 hf
        refine s_aload_n G dX4_eliminate_77 rfl ?_
        refine s_getR G dX4_eliminate_78 lkF_X4_21 (by decide) rfl rfl ?_
        refine s_iload G dX4_eliminate_81 rfl ?_
        have h27 := chk_1 hf
        replace hf := chk_2 hf
        refine s_aald G dX4_eliminate_83 (by decide) rfl h27 ?_
        refine s_iload G dX4_eliminate_84 rfl ?_
        refine s_lload_n G dX4_eliminate_86 rfl ?_
        refine s_aload_n G dX4_eliminate_87 rfl ?_
        refine s_getR G dX4_eliminate_88 lkF_X4_21 (by decide) rfl rfl ?_
        refine s_iload G dX4_eliminate_91 rfl ?_
        refine s_aald G dX4_eliminate_93 (by decide) rfl h27 ?_
        refine s_iload G dX4_eliminate_94 rfl ?_
        have h28 := chk_1 hf
        replace hf := chk_2 hf
        refine s_lald G dX4_eliminate_96 (row_lt (ib_lt h27)) (kd_row (ib_lt h27)) h28 ?_
        refine s_lmul G dX4_eliminate_97 ?_
        refine s_lload G dX4_eliminate_98 rfl ?_
        refine s_aload_n G dX4_eliminate_100 rfl ?_
        refine s_getR G dX4_eliminate_101 lkF_X4_21 (by decide) rfl rfl ?_
        refine s_iload_n G dX4_eliminate_104 rfl ?_
        have h29 := chk_1 hf
        replace hf := chk_2 hf
        refine s_aald G dX4_eliminate_105 (by decide) rfl h29 ?_
        refine s_iload G dX4_eliminate_106 rfl ?_
        refine s_lald G dX4_eliminate_108 (row_lt (ib_lt h29)) (kd_row (ib_lt h29)) h28 ?_
        refine s_lmul G dX4_eliminate_109 ?_
        refine s_lsub G dX4_eliminate_110 ?_
        refine s_aload_n G dX4_eliminate_111 rfl ?_
        refine s_getL (n := 0) G dX4_eliminate_112 lkF_X4_34 (by decide) rfl rfl ?_
        have h30 := chk_1 hf
        replace hf := chk_2 hf
        refine s_ldiv G dX4_eliminate_115 h30 ?_
        refine s_last G dX4_eliminate_116 (row_lt (ib_lt h27)) (kd_row (ib_lt h27)) h28 ?_
        refine s_st (fun σ31 eσ31 => ?_)
        replace hf := nm_at eσ31 hf
        refine s_iinc G dX4_eliminate_117 rfl (v := (x21 + 1)) rfl (by decide) rfl rfl ?_
        refine s_goto (tgt := 63) G dX4_eliminate_120 (by decide) ?_
        exact ih (x21 + 1) σ31 hf
set_option maxRecDepth 100000 in
set_option maxHeartbeats 4000000 in
theorem l_X4_eliminate_41 {Γ : Cxt} (G : OK Γ RX4 cX4_eliminate 9 none 0 0) {res : St} (hR : RetOK Γ none res) (x2 : Int32) (x3 : Int32) (x11 : Int64) (k14 : St → Option (St)) (hk : ∀ (z : St), k14 z = some res → WW Γ 129 [some (.ref 6), some (.int x2), some (.int x3), some (.long x11), none, none, none, none, none] [] z) : ∀ (n15 : Nat) (x12 : Int32) (σ13 : St), f_X4_eliminate_41 x2 x3 x11 k14 n15 x12 σ13 = some res → WW Γ 41 [some (.ref 6), some (.int x2), some (.int x3), some (.long x11), none, some (.int x12), none, none, none] [] σ13 := by
  intro n15
  induction n15 with
  | zero =>
    intro x12 σ13 hf
    cases hf
  | succ n15 ih =>
    intro x12 σ13 hf
    unfold f_X4_eliminate_41 at hf
    refine s_iload G dX4_eliminate_41 rfl ?_
    refine s_iload_n G dX4_eliminate_43 rfl ?_
    refine s_icmp_ge (tgt := 129) G dX4_eliminate_44 (by decide) (fun c16 => ?_) (fun c16 => ?_)
    · replace hf := ifp c16 hf
      refine s_fgt [true, true, true, true, true, false, true, true, true] rfl ?_
      exact hk σ13 hf
    · replace hf := ifn c16 hf
      refine s_aload_n G dX4_eliminate_47 rfl ?_
      refine s_getR G dX4_eliminate_48 lkF_X4_21 (by decide) rfl rfl ?_
      refine s_iload G dX4_eliminate_51 rfl ?_
      have h17 := chk_1 hf
      replace hf := chk_2 hf
      refine s_aald G dX4_eliminate_53 (by decide) rfl h17 ?_
      refine s_iload_n G dX4_eliminate_54 rfl ?_
      have h18 := chk_1 hf
      replace hf := chk_2 hf
      refine s_lald G dX4_eliminate_55 (row_lt (ib_lt h17)) (kd_row (ib_lt h17)) h18 ?_
      refine s_topl (fun x19 ex19 => ?_)
      replace hf := nm_at ex19 hf
      refine s_lstore G dX4_eliminate_56 (by decide) rfl rfl ?_
      refine s_iload_n G dX4_eliminate_58 rfl ?_
      refine s_iconst G dX4_eliminate_59 (v := 1) (by decide) ?_
      refine s_iadd G dX4_eliminate_60 ?_
      refine s_topi (fun x20 ex20 => ?_)
      replace hf := nm_at ex20 hf
      refine s_istore G dX4_eliminate_61 (by decide) rfl rfl ?_
      refine l_X4_eliminate_63 G hR x2 x3 x11 x12 x19 _ (fun σ32 hf => ?_) 1000 x20 σ13 hf
      refine s_iinc G dX4_eliminate_123 rfl (v := (x12 + 1)) rfl (by decide) rfl rfl ?_
      refine s_goto (tgt := 41) G dX4_eliminate_126 (by decide) ?_
      exact ih (x12 + 1) σ32 hf
set_option maxRecDepth 100000 in
set_option maxHeartbeats 4000000 in
theorem l_X4_eliminate_15 {Γ : Cxt} (G : OK Γ RX4 cX4_eliminate 9 none 0 0) {res : St} (hR : RetOK Γ none res) (x2 : Int32) (k5 : St → Option (St)) (hk : ∀ (z : St), k5 z = some res → WW Γ 140 [none, none, none, none, none, none, none, none, none] [] z) : ∀ (n6 : Nat) (x3 : Int32) (σ4 : St), f_X4_eliminate_15 x2 k5 n6 x3 σ4 = some res → WW Γ 15 [some (.ref 6), some (.int x2), some (.int x3), none, none, none, none, none, none] [] σ4 := by
  intro n6
  induction n6 with
  | zero =>
    intro x3 σ4 hf
    cases hf
  | succ n6 ih =>
    intro x3 σ4 hf
    unfold f_X4_eliminate_15 at hf
    refine s_iload_n G dX4_eliminate_15 rfl ?_
    refine s_iload_n G dX4_eliminate_16 rfl ?_
    refine s_icmp_ge (tgt := 140) G dX4_eliminate_17 (by decide) (fun c7 => ?_) (fun c7 => ?_)
    · replace hf := ifp c7 hf
      refine s_fgt [false, false, false, true, true, true, true, true, true] rfl ?_
      exact hk σ4 hf
    · replace hf := ifn c7 hf
      refine s_aload_n G dX4_eliminate_20 rfl ?_
      refine s_getL (n := 0) G dX4_eliminate_21 lkF_X4_34 (by decide) rfl rfl ?_
      refine s_lconst G dX4_eliminate_24 (v := 0) (by decide) ?_
      refine s_lif_eq (tgt := 140) (pc2 := 0) G dX4_eliminate_25 dX4_eliminate_26 (by decide) (fun c8 => ?_) (fun c8 => ?_)
      · replace hf := ifp c8 hf
        refine s_fgt [false, false, false, true, true, true, true, true, true] rfl ?_
        exact hk σ4 hf
      · replace hf := ifn c8 hf
        refine s_aload_n G dX4_eliminate_29 rfl ?_
        refine s_getR G dX4_eliminate_30 lkF_X4_21 (by decide) rfl rfl ?_
        refine s_iload_n G dX4_eliminate_33 rfl ?_
        have h9 := chk_1 hf
        replace hf := chk_2 hf
        refine s_aald G dX4_eliminate_34 (by decide) rfl h9 ?_
        refine s_iload_n G dX4_eliminate_35 rfl ?_
        have h10 := chk_1 hf
        replace hf := chk_2 hf
        refine s_lald G dX4_eliminate_36 (row_lt (ib_lt h9)) (kd_row (ib_lt h9)) h10 ?_
        refine s_topl (fun x11 ex11 => ?_)
        replace hf := nm_at ex11 hf
        refine s_lstore_n G dX4_eliminate_37 rfl (by decide) rfl rfl ?_
        refine s_iconst G dX4_eliminate_38 (v := 0) (by decide) ?_
        refine s_istore G dX4_eliminate_39 (by decide) rfl rfl ?_
        refine l_X4_eliminate_41 G hR x2 x3 x11 _ (fun σ33 hf => ?_) 1000 (0 : Int32) σ4 hf
        refine s_aload_n G dX4_eliminate_129 rfl ?_
        refine s_lload_n G dX4_eliminate_130 rfl ?_
        refine s_putL G dX4_eliminate_131 lkP_X4_34 (by decide) rfl rfl ?_
        refine s_st (fun σ34 eσ34 => ?_)
        replace hf := nm_at eσ34 hf
        refine s_iinc G dX4_eliminate_134 rfl (v := (x3 + 1)) rfl (by decide) rfl rfl ?_
        refine s_goto (tgt := 15) G dX4_eliminate_137 (by decide) ?_
        refine s_fgt [true, true, true, false, true, true, true, true, true] rfl ?_
        exact ih (x3 + 1) σ34 hf
set_option maxRecDepth 100000 in
set_option maxHeartbeats 4000000 in
theorem c_X4_eliminate  {σ : St} {res : St} (hf : f_X4_eliminate σ = some res) : Mt mX4_eliminate [.ref 6] σ none res := by
  unfold f_X4_eliminate at hf
  refine mt_of (by decide) (Nat.le_of_ble_eq_true rfl) [some (.ref 6), none, none, none, none, none, none, none, none] rfl (fun Γ G hR => ?_)
  have G : OK Γ RX4 cX4_eliminate 9 none 0 0 := G
  refine s_aload_n G dX4_eliminate_0 rfl ?_
  refine s_lconst G dX4_eliminate_1 (v := 1) (by decide) ?_
  refine s_putL G dX4_eliminate_2 lkP_X4_34 (by decide) rfl rfl ?_
  refine s_st (fun σ1 eσ1 => ?_)
  replace hf := nm_at eσ1 hf
  refine s_aload_n G dX4_eliminate_5 rfl ?_
  refine s_getR G dX4_eliminate_6 lkF_X4_45 (by decide) rfl rfl ?_
  refine s_getI (n := 0) G dX4_eliminate_9 lkF_X4_70 (by decide) rfl rfl ?_
  refine s_topi (fun x2 ex2 => ?_)
  replace hf := nm_at ex2 hf
  refine s_istore_n G dX4_eliminate_12 rfl (by decide) rfl rfl ?_
  refine s_iconst G dX4_eliminate_13 (v := 0) (by decide) ?_
  refine s_istore_n G dX4_eliminate_14 rfl (by decide) rfl rfl ?_
  refine l_X4_eliminate_15 G hR x2 _ (fun σ35 hf => ?_) 1000 (0 : Int32) σ1 hf
  replace hf := Option.some.inj hf
  subst hf
  exact s_vret G hR dX4_eliminate_140 rfl rfl
def f_X4_across (a1 : Int32) (a2 : Int32) (σ : St) : Option (Int64 × St) :=
chk (ib a1 10) (
  chk (ib (σ.1 26 a1.toNatClampNeg) 6) (
  chk (ib a2 8) (
  chk (ib (σ.1 27 a1.toNatClampNeg) 6) (
  some (((σ.1 28 a1.toNatClampNeg).toInt64 * ((σ.2 (9 + 1 * ((σ.1 26 a1.toNatClampNeg).toNatClampNeg + 1)) a2.toNatClampNeg) - (σ.2 (9 + 1 * ((σ.1 27 a1.toNatClampNeg).toNatClampNeg + 1)) a2.toNatClampNeg))), σ)))))
abbrev mX4_across : Me := (yX4_across, cX4_across, 3, (some .long), 0, 0)
set_option maxRecDepth 100000 in
set_option maxHeartbeats 4000000 in
theorem c_X4_across {a1 : Int32} {a2 : Int32} {σ : St} {res : Int64 × St} (hf : f_X4_across a1 a2 σ = some res) : Mt mX4_across [.ref 6, .int a1, .int a2] σ (some (.long res.1)) res.2 := by
  unfold f_X4_across at hf
  refine mt_of (by decide) (Nat.le_of_ble_eq_true rfl) [some (.ref 6), some (.int a1), some (.int a2)] rfl (fun Γ G hR => ?_)
  have G : OK Γ RX4 cX4_across 3 (some .long) 0 0 := G
  refine s_aload_n G dX4_across_0 rfl ?_
  refine s_getR G dX4_across_1 lkF_X4_45 (by decide) rfl rfl ?_
  refine s_getR G dX4_across_4 lkF_X4_80 (by decide) rfl rfl ?_
  refine s_iload_n G dX4_across_7 rfl ?_
  have h1 := chk_1 hf
  replace hf := chk_2 hf
  refine s_iald G dX4_across_8 (by decide) rfl h1 ?_
  refine s_i2l G dX4_across_9 ?_
  refine s_aload_n G dX4_across_10 rfl ?_
  refine s_getR G dX4_across_11 lkF_X4_21 (by decide) rfl rfl ?_
  refine s_aload_n G dX4_across_14 rfl ?_
  refine s_getR G dX4_across_15 lkF_X4_45 (by decide) rfl rfl ?_
  refine s_getR G dX4_across_18 lkF_X4_60 (by decide) rfl rfl ?_
  refine s_iload_n G dX4_across_21 rfl ?_
  refine s_iald G dX4_across_22 (by decide) rfl h1 ?_
  have h2 := chk_1 hf
  replace hf := chk_2 hf
  refine s_aald G dX4_across_23 (by decide) rfl h2 ?_
  refine s_iload_n G dX4_across_24 rfl ?_
  have h3 := chk_1 hf
  replace hf := chk_2 hf
  refine s_lald G dX4_across_25 (row_lt (ib_lt h2)) (kd_row (ib_lt h2)) h3 ?_
  refine s_aload_n G dX4_across_26 rfl ?_
  refine s_getR G dX4_across_27 lkF_X4_21 (by decide) rfl rfl ?_
  refine s_aload_n G dX4_across_30 rfl ?_
  refine s_getR G dX4_across_31 lkF_X4_45 (by decide) rfl rfl ?_
  refine s_getR G dX4_across_34 lkF_X4_63 (by decide) rfl rfl ?_
  refine s_iload_n G dX4_across_37 rfl ?_
  refine s_iald G dX4_across_38 (by decide) rfl h1 ?_
  have h4 := chk_1 hf
  replace hf := chk_2 hf
  refine s_aald G dX4_across_39 (by decide) rfl h4 ?_
  refine s_iload_n G dX4_across_40 rfl ?_
  refine s_lald G dX4_across_41 (row_lt (ib_lt h4)) (kd_row (ib_lt h4)) h3 ?_
  refine s_lsub G dX4_across_42 ?_
  refine s_lmul G dX4_across_43 ?_
  replace hf := Option.some.inj hf
  subst hf
  exact s_lret G hR dX4_across_44 rfl rfl
def f_X4_readFlows_10 (x1 : Int32) (k4 : St → Option (St)) : Nat → Int32 → St → Option (St)
  | 0, _, _ => none
  | n5 + 1, x2, σ3 =>
    if x1 ≤ x2 then
      (k4 σ3)
    else
      (chk (ib x2 6) (
      chk (ib x1 8) (
      nm (sL σ3 16 x2.toNatClampNeg (σ3.2 (9 + 1 * (x2.toNatClampNeg + 1)) x1.toNatClampNeg)) (fun σ9 : St =>
      f_X4_readFlows_10 x1 k4 n5 (x2 + 1) σ9))))
def f_X4_readFlows_37 (x1 : Int32) (k13 : St → Option (St)) : Nat → Int32 → St → Option (St)
  | 0, _, _ => none
  | n14 + 1, x11, σ12 =>
    if (σ12.1 24 7) ≤ x11 then
      (k13 σ12)
    else
      (chk (ib x11 10) (
      jn (fun q17 : Int64 × St =>
        (nm (sL q17.2 17 x11.toNatClampNeg q17.1) (fun σ19 : St =>
        if (σ19.1 7 x11.toNatClampNeg) = 0 then
          (nm (sL σ19 18 x11.toNatClampNeg (0 : Int64)) (fun σ21 : St =>
          f_X4_readFlows_37 x1 k13 n14 (x11 + 1) σ21))
        else
          ((f_X4_across x11 (x1 + (1 : Int32)) σ19).bind (fun q22 =>
          nm (sL q22.2 18 x11.toNatClampNeg q22.1) (fun σ23 : St =>
          f_X4_readFlows_37 x1 k13 n14 (x11 + 1) σ23)))))) (fun j18 =>
        if (σ12.1 7 x11.toNatClampNeg) = 0 then
          (j18 ((0 : Int64), σ12))
        else
          ((f_X4_across x11 x1 σ12).bind (fun q25 =>
          j18 (q25.1, q25.2))))))
def f_X4_readFlows (σ : St) : Option (St) :=
nm (σ.1 24 6) (fun x1 : Int32 =>
  f_X4_readFlows_10 x1 (fun (σ10 : St) =>
    f_X4_readFlows_37 x1 (fun (σ26 : St) =>
      some σ26) 1000 (0 : Int32) σ10) 1000 (0 : Int32) σ)
abbrev mX4_readFlows : Me := (yX4_readFlows, cX4_readFlows, 3, none, 1, 22)
set_option maxRecDepth 100000 in
set_option maxHeartbeats 4000000 in
theorem l_X4_readFlows_10 {Γ : Cxt} (G : OK Γ RX4 cX4_readFlows 3 none 1 22) {res : St} (hR : RetOK Γ none res) (x1 : Int32) (k4 : St → Option (St)) (hk : ∀ (z : St), k4 z = some res → WW Γ 35 [some (.ref 6), some (.int x1), none] [] z) : ∀ (n5 : Nat) (x2 : Int32) (σ3 : St), f_X4_readFlows_10 x1 k4 n5 x2 σ3 = some res → WW Γ 10 [some (.ref 6), some (.int x1), some (.int x2)] [] σ3 := by
  intro n5
  induction n5 with
  | zero =>
    intro x2 σ3 hf
    cases hf
  | succ n5 ih =>
    intro x2 σ3 hf
    unfold f_X4_readFlows_10 at hf
    refine s_iload_n G dX4_readFlows_10 rfl ?_
    refine s_iload_n G dX4_readFlows_11 rfl ?_
    refine s_icmp_ge (tgt := 35) G dX4_readFlows_12 (by decide) (fun c6 => ?_) (fun c6 => ?_)
    · replace hf := ifp c6 hf
      refine s_fgt [true, true, false] rfl ?_
      exact hk σ3 hf
    · replace hf := ifn c6 hf
      refine s_aload_n G dX4_readFlows_15 rfl ?_
      refine s_getR G dX4_readFlows_16 lkF_X4_24 (by decide) rfl rfl ?_
      refine s_iload_n G dX4_readFlows_19 rfl ?_
      refine s_aload_n G dX4_readFlows_20 rfl ?_
      refine s_getR G dX4_readFlows_21 lkF_X4_21 (by decide) rfl rfl ?_
      refine s_iload_n G dX4_readFlows_24 rfl ?_
      have h7 := chk_1 hf
      replace hf := chk_2 hf
      refine s_aald G dX4_readFlows_25 (by decide) rfl h7 ?_
      refine s_iload_n G dX4_readFlows_26 rfl ?_
      have h8 := chk_1 hf
      replace hf := chk_2 hf
      refine s_lald G dX4_readFlows_27 (row_lt (ib_lt h7)) (kd_row (ib_lt h7)) h8 ?_
      refine s_last G dX4_readFlows_28 (by decide) rfl h7 ?_
      refine s_st (fun σ9 eσ9 => ?_)
      replace hf := nm_at eσ9 hf
      refine s_iinc G dX4_readFlows_29 rfl (v := (x2 + 1)) rfl (by decide) rfl rfl ?_
      refine s_goto (tgt := 10) G dX4_readFlows_32 (by decide) ?_
      exact ih (x2 + 1) σ9 hf
set_option maxRecDepth 100000 in
set_option maxHeartbeats 4000000 in
theorem l_X4_readFlows_37 {Γ : Cxt} (G : OK Γ RX4 cX4_readFlows 3 none 1 22) {res : St} (hR : RetOK Γ none res) (x1 : Int32) (k13 : St → Option (St)) (hk : ∀ (z : St), k13 z = some res → WW Γ 106 [none, none, none] [] z) : ∀ (n14 : Nat) (x11 : Int32) (σ12 : St), f_X4_readFlows_37 x1 k13 n14 x11 σ12 = some res → WW Γ 37 [some (.ref 6), some (.int x1), some (.int x11)] [] σ12 := by
  intro n14
  induction n14 with
  | zero =>
    intro x11 σ12 hf
    cases hf
  | succ n14 ih =>
    intro x11 σ12 hf
    unfold f_X4_readFlows_37 at hf
    refine s_iload_n G dX4_readFlows_37 rfl ?_
    refine s_aload_n G dX4_readFlows_38 rfl ?_
    refine s_getR G dX4_readFlows_39 lkF_X4_45 (by decide) rfl rfl ?_
    refine s_getI (n := 0) G dX4_readFlows_42 lkF_X4_49 (by decide) rfl rfl ?_
    refine s_icmp_ge (tgt := 106) G dX4_readFlows_45 (by decide) (fun c15 => ?_) (fun c15 => ?_)
    · replace hf := ifp c15 hf
      refine s_fgt [false, false, false] rfl ?_
      exact hk σ12 hf
    · replace hf := ifn c15 hf
      refine s_aload_n G dX4_readFlows_48 rfl ?_
      refine s_getR G dX4_readFlows_49 lkF_X4_28 (by decide) rfl rfl ?_
      refine s_iload_n G dX4_readFlows_52 rfl ?_
      refine s_aload_n G dX4_readFlows_53 rfl ?_
      refine s_getR G dX4_readFlows_54 lkF_X4_9 (by decide) rfl rfl ?_
      refine s_iload_n G dX4_readFlows_57 rfl ?_
      have h16 := chk_1 hf
      replace hf := chk_2 hf
      refine s_zald G dX4_readFlows_58 (by decide) rfl h16 ?_
      refine jn_w (fun q17 : Int64 × St => WW Γ 72 [some (.ref 6), some (.int x1), some (.int x11)] [.long q17.1, .int x11, .ref 17] q17.2) hf (fun q17 hf => ?_) (fun j18 hj18 hf => ?_)
      · refine s_last G dX4_readFlows_72 (by decide) rfl h16 ?_
        refine s_st (fun σ19 eσ19 => ?_)
        replace hf := nm_at eσ19 hf
        refine s_aload_n G dX4_readFlows_73 rfl ?_
        refine s_getR G dX4_readFlows_74 lkF_X4_31 (by decide) rfl rfl ?_
        refine s_iload_n G dX4_readFlows_77 rfl ?_
        refine s_aload_n G dX4_readFlows_78 rfl ?_
        refine s_getR G dX4_readFlows_79 lkF_X4_9 (by decide) rfl rfl ?_
        refine s_iload_n G dX4_readFlows_82 rfl ?_
        refine s_zald G dX4_readFlows_83 (by decide) rfl h16 ?_
        refine s_if_eq (tgt := 98) G dX4_readFlows_84 (by decide) (fun c20 => ?_) (fun c20 => ?_)
        · replace hf := ifp c20 hf
          refine s_lconst G dX4_readFlows_98 (v := 0) (by decide) ?_
          refine s_last G dX4_readFlows_99 (by decide) rfl h16 ?_
          refine s_st (fun σ21 eσ21 => ?_)
          replace hf := nm_at eσ21 hf
          refine s_iinc G dX4_readFlows_100 rfl (v := (x11 + 1)) rfl (by decide) rfl rfl ?_
          refine s_goto (tgt := 37) G dX4_readFlows_103 (by decide) ?_
          exact ih (x11 + 1) σ21 hf
        · replace hf := ifn c20 hf
          refine s_aload_n G dX4_readFlows_87 rfl ?_
          refine s_iload_n G dX4_readFlows_88 rfl ?_
          refine s_iload_n G dX4_readFlows_89 rfl ?_
          refine s_iconst G dX4_readFlows_90 (v := 1) (by decide) ?_
          refine s_iadd G dX4_readFlows_91 ?_
          obtain ⟨q22, hq22, hf⟩ := bnd hf
          refine s_callV G dX4_readFlows_92 (c_X4_across hq22) lkM_X4_92 yk_X4_across yv_X4_across (by decide) rfl rfl _ [.int x11, .ref 18] rfl rfl rfl (Nat.le_of_ble_eq_true rfl) (by decide) ?_
          refine s_goto (tgt := 99) G dX4_readFlows_95 (by decide) ?_
          refine s_last G dX4_readFlows_99 (by decide) rfl h16 ?_
          refine s_st (fun σ23 eσ23 => ?_)
          replace hf := nm_at eσ23 hf
          refine s_iinc G dX4_readFlows_100 rfl (v := (x11 + 1)) rfl (by decide) rfl rfl ?_
          refine s_goto (tgt := 37) G dX4_readFlows_103 (by decide) ?_
          exact ih (x11 + 1) σ23 hf
      · refine s_if_eq (tgt := 71) G dX4_readFlows_59 (by decide) (fun c24 => ?_) (fun c24 => ?_)
        · replace hf := ifp c24 hf
          refine s_lconst G dX4_readFlows_71 (v := 0) (by decide) ?_
          exact hj18 _ hf
        · replace hf := ifn c24 hf
          refine s_aload_n G dX4_readFlows_62 rfl ?_
          refine s_iload_n G dX4_readFlows_63 rfl ?_
          refine s_iload_n G dX4_readFlows_64 rfl ?_
          obtain ⟨q25, hq25, hf⟩ := bnd hf
          refine s_callV G dX4_readFlows_65 (c_X4_across hq25) lkM_X4_92 yk_X4_across yv_X4_across (by decide) rfl rfl _ [.int x11, .ref 17] rfl rfl rfl (Nat.le_of_ble_eq_true rfl) (by decide) ?_
          refine s_goto (tgt := 72) G dX4_readFlows_68 (by decide) ?_
          exact hj18 _ hf
set_option maxRecDepth 100000 in
set_option maxHeartbeats 4000000 in
theorem c_X4_readFlows  {σ : St} {res : St} (hf : f_X4_readFlows σ = some res) : Mt mX4_readFlows [.ref 6] σ none res := by
  unfold f_X4_readFlows at hf
  refine mt_of (by decide) (Nat.le_of_ble_eq_true rfl) [some (.ref 6), none, none] rfl (fun Γ G hR => ?_)
  have G : OK Γ RX4 cX4_readFlows 3 none 1 22 := G
  refine s_aload_n G dX4_readFlows_0 rfl ?_
  refine s_getR G dX4_readFlows_1 lkF_X4_45 (by decide) rfl rfl ?_
  refine s_getI (n := 0) G dX4_readFlows_4 lkF_X4_70 (by decide) rfl rfl ?_
  refine s_topi (fun x1 ex1 => ?_)
  replace hf := nm_at ex1 hf
  refine s_istore_n G dX4_readFlows_7 rfl (by decide) rfl rfl ?_
  refine s_iconst G dX4_readFlows_8 (v := 0) (by decide) ?_
  refine s_istore_n G dX4_readFlows_9 rfl (by decide) rfl rfl ?_
  refine l_X4_readFlows_10 G hR x1 _ (fun σ10 hf => ?_) 1000 (0 : Int32) σ hf
  refine s_iconst G dX4_readFlows_35 (v := 0) (by decide) ?_
  refine s_istore_n G dX4_readFlows_36 rfl (by decide) rfl rfl ?_
  refine l_X4_readFlows_37 G hR x1 _ (fun σ26 hf => ?_) 1000 (0 : Int32) σ10 hf
  replace hf := Option.some.inj hf
  subst hf
  exact s_vret G hR dX4_readFlows_106 rfl rfl
def f_X4_solve_2 (a1 : Int32) (a2 : Int32) (k3 : St → Option (St)) : Nat → Int32 → St → Option (St)
  | 0, _, _ => none
  | n4 + 1, x1, σ2 =>
    if (σ2.1 24 6) ≤ x1 then
      (k3 σ2)
    else
      ((f_X4_startRow x1 a1 a2 σ2).bind (fun q6 =>
      f_X4_solve_2 a1 a2 k3 n4 (x1 + 1) q6))
def f_X4_solve_28 (k10 : St → Option (St)) : Nat → Int32 → St → Option (St)
  | 0, _, _ => none
  | n11 + 1, x8, σ9 =>
    if (σ9.1 24 7) ≤ x8 then
      (k10 σ9)
    else
      (chk (ib x8 10) (
      if (σ9.1 7 x8.toNatClampNeg) = 0 then
        (f_X4_solve_28 k10 n11 (x8 + 1) σ9)
      else
        ((f_X4_addTerms (σ9.1 26 x8.toNatClampNeg) (σ9.1 27 x8.toNatClampNeg) (σ9.1 28 x8.toNatClampNeg) σ9).bind (fun q15 =>
        (f_X4_addTerms (q15.1 27 x8.toNatClampNeg) (q15.1 26 x8.toNatClampNeg) (q15.1 28 x8.toNatClampNeg) q15).bind (fun q16 =>
        f_X4_solve_28 k10 n11 (x8 + 1) q16)))))
def f_X4_solve (a1 : Int32) (a2 : Int32) (σ : St) : Option (St) :=
f_X4_solve_2 a1 a2 (fun (σ7 : St) =>
    f_X4_solve_28 (fun (σ17 : St) =>
      (f_X4_eliminate σ17).bind (fun q18 =>
      (f_X4_readFlows q18).bind (fun q19 =>
      some q19))) 1000 (0 : Int32) σ7) 1000 (0 : Int32) σ
abbrev mX4_solve : Me := (yX4_solve, cX4_solve, 4, none, 2, 44)
set_option maxRecDepth 100000 in
set_option maxHeartbeats 4000000 in
theorem l_X4_solve_2 {Γ : Cxt} (G : OK Γ RX4 cX4_solve 4 none 2 44) {res : St} (hR : RetOK Γ none res) (a1 : Int32) (a2 : Int32) (k3 : St → Option (St)) (hk : ∀ (z : St), k3 z = some res → WW Γ 26 [some (.ref 6), none, none, none] [] z) : ∀ (n4 : Nat) (x1 : Int32) (σ2 : St), f_X4_solve_2 a1 a2 k3 n4 x1 σ2 = some res → WW Γ 2 [some (.ref 6), some (.int a1), some (.int a2), some (.int x1)] [] σ2 := by
  intro n4
  induction n4 with
  | zero =>
    intro x1 σ2 hf
    cases hf
  | succ n4 ih =>
    intro x1 σ2 hf
    unfold f_X4_solve_2 at hf
    refine s_iload_n G dX4_solve_2 rfl ?_
    refine s_aload_n G dX4_solve_3 rfl ?_
    refine s_getR G dX4_solve_4 lkF_X4_45 (by decide) rfl rfl ?_
    refine s_getI (n := 0) G dX4_solve_7 lkF_X4_70 (by decide) rfl rfl ?_
    refine s_icmp_ge (tgt := 26) G dX4_solve_10 (by decide) (fun c5 => ?_) (fun c5 => ?_)
    · replace hf := ifp c5 hf
      refine s_fgt [true, false, false, false] rfl ?_
      exact hk σ2 hf
    · replace hf := ifn c5 hf
      refine s_aload_n G dX4_solve_13 rfl ?_
      refine s_iload_n G dX4_solve_14 rfl ?_
      refine s_iload_n G dX4_solve_15 rfl ?_
      refine s_iload_n G dX4_solve_16 rfl ?_
      obtain ⟨q6, hq6, hf⟩ := bnd hf
      refine s_callV G dX4_solve_17 (c_X4_startRow hq6) lkM_X4_76 yk_X4_startRow yv_X4_startRow (by decide) rfl rfl _ [] rfl rfl rfl (Nat.le_of_ble_eq_true rfl) (by decide) ?_
      refine s_iinc G dX4_solve_20 rfl (v := (x1 + 1)) rfl (by decide) rfl rfl ?_
      refine s_goto (tgt := 2) G dX4_solve_23 (by decide) ?_
      exact ih (x1 + 1) q6 hf
set_option maxRecDepth 100000 in
set_option maxHeartbeats 4000000 in
theorem l_X4_solve_28 {Γ : Cxt} (G : OK Γ RX4 cX4_solve 4 none 2 44) {res : St} (hR : RetOK Γ none res) (k10 : St → Option (St)) (hk : ∀ (z : St), k10 z = some res → WW Γ 116 [some (.ref 6), none, none, none] [] z) : ∀ (n11 : Nat) (x8 : Int32) (σ9 : St), f_X4_solve_28 k10 n11 x8 σ9 = some res → WW Γ 28 [some (.ref 6), none, none, some (.int x8)] [] σ9 := by
  intro n11
  induction n11 with
  | zero =>
    intro x8 σ9 hf
    cases hf
  | succ n11 ih =>
    intro x8 σ9 hf
    unfold f_X4_solve_28 at hf
    refine s_iload_n G dX4_solve_28 rfl ?_
    refine s_aload_n G dX4_solve_29 rfl ?_
    refine s_getR G dX4_solve_30 lkF_X4_45 (by decide) rfl rfl ?_
    refine s_getI (n := 0) G dX4_solve_33 lkF_X4_49 (by decide) rfl rfl ?_
    refine s_icmp_ge (tgt := 116) G dX4_solve_36 (by decide) (fun c12 => ?_) (fun c12 => ?_)
    · replace hf := ifp c12 hf
      refine s_fgt [true, true, true, false] rfl ?_
      exact hk σ9 hf
    · replace hf := ifn c12 hf
      refine s_aload_n G dX4_solve_39 rfl ?_
      refine s_getR G dX4_solve_40 lkF_X4_9 (by decide) rfl rfl ?_
      refine s_iload_n G dX4_solve_43 rfl ?_
      have h13 := chk_1 hf
      replace hf := chk_2 hf
      refine s_zald G dX4_solve_44 (by decide) rfl h13 ?_
      refine s_if_eq (tgt := 110) G dX4_solve_45 (by decide) (fun c14 => ?_) (fun c14 => ?_)
      · replace hf := ifp c14 hf
        refine s_iinc G dX4_solve_110 rfl (v := (x8 + 1)) rfl (by decide) rfl rfl ?_
        refine s_goto (tgt := 28) G dX4_solve_113 (by decide) ?_
        exact ih (x8 + 1) σ9 hf
      · replace hf := ifn c14 hf
        refine s_aload_n G dX4_solve_48 rfl ?_
        refine s_aload_n G dX4_solve_49 rfl ?_
        refine s_getR G dX4_solve_50 lkF_X4_45 (by decide) rfl rfl ?_
        refine s_getR G dX4_solve_53 lkF_X4_60 (by decide) rfl rfl ?_
        refine s_iload_n G dX4_solve_56 rfl ?_
        refine s_iald G dX4_solve_57 (by decide) rfl h13 ?_
        refine s_aload_n G dX4_solve_58 rfl ?_
        refine s_getR G dX4_solve_59 lkF_X4_45 (by decide) rfl rfl ?_
        refine s_getR G dX4_solve_62 lkF_X4_63 (by decide) rfl rfl ?_
        refine s_iload_n G dX4_solve_65 rfl ?_
        refine s_iald G dX4_solve_66 (by decide) rfl h13 ?_
        refine s_aload_n G dX4_solve_67 rfl ?_
        refine s_getR G dX4_solve_68 lkF_X4_45 (by decide) rfl rfl ?_
        refine s_getR G dX4_solve_71 lkF_X4_80 (by decide) rfl rfl ?_
        refine s_iload_n G dX4_solve_74 rfl ?_
        refine s_iald G dX4_solve_75 (by decide) rfl h13 ?_
        obtain ⟨q15, hq15, hf⟩ := bnd hf
        refine s_callV G dX4_solve_76 (c_X4_addTerms hq15) lkM_X4_83 yk_X4_addTerms yv_X4_addTerms (by decide) rfl rfl _ [] rfl rfl rfl (Nat.le_of_ble_eq_true rfl) (by decide) ?_
        refine s_aload_n G dX4_solve_79 rfl ?_
        refine s_aload_n G dX4_solve_80 rfl ?_
        refine s_getR G dX4_solve_81 lkF_X4_45 (by decide) rfl rfl ?_
        refine s_getR G dX4_solve_84 lkF_X4_63 (by decide) rfl rfl ?_
        refine s_iload_n G dX4_solve_87 rfl ?_
        refine s_iald G dX4_solve_88 (by decide) rfl h13 ?_
        refine s_aload_n G dX4_solve_89 rfl ?_
        refine s_getR G dX4_solve_90 lkF_X4_45 (by decide) rfl rfl ?_
        refine s_getR G dX4_solve_93 lkF_X4_60 (by decide) rfl rfl ?_
        refine s_iload_n G dX4_solve_96 rfl ?_
        refine s_iald G dX4_solve_97 (by decide) rfl h13 ?_
        refine s_aload_n G dX4_solve_98 rfl ?_
        refine s_getR G dX4_solve_99 lkF_X4_45 (by decide) rfl rfl ?_
        refine s_getR G dX4_solve_102 lkF_X4_80 (by decide) rfl rfl ?_
        refine s_iload_n G dX4_solve_105 rfl ?_
        refine s_iald G dX4_solve_106 (by decide) rfl h13 ?_
        obtain ⟨q16, hq16, hf⟩ := bnd hf
        refine s_callV G dX4_solve_107 (c_X4_addTerms hq16) lkM_X4_83 yk_X4_addTerms yv_X4_addTerms (by decide) rfl rfl _ [] rfl rfl rfl (Nat.le_of_ble_eq_true rfl) (by decide) ?_
        refine s_iinc G dX4_solve_110 rfl (v := (x8 + 1)) rfl (by decide) rfl rfl ?_
        refine s_goto (tgt := 28) G dX4_solve_113 (by decide) ?_
        exact ih (x8 + 1) q16 hf
set_option maxRecDepth 100000 in
set_option maxHeartbeats 4000000 in
theorem c_X4_solve {a1 : Int32} {a2 : Int32} {σ : St} {res : St} (hf : f_X4_solve a1 a2 σ = some res) : Mt mX4_solve [.ref 6, .int a1, .int a2] σ none res := by
  unfold f_X4_solve at hf
  refine mt_of (by decide) (Nat.le_of_ble_eq_true rfl) [some (.ref 6), some (.int a1), some (.int a2), none] rfl (fun Γ G hR => ?_)
  have G : OK Γ RX4 cX4_solve 4 none 2 44 := G
  refine s_iconst G dX4_solve_0 (v := 0) (by decide) ?_
  refine s_istore_n G dX4_solve_1 rfl (by decide) rfl rfl ?_
  refine l_X4_solve_2 G hR a1 a2 _ (fun σ7 hf => ?_) 1000 (0 : Int32) σ hf
  refine s_iconst G dX4_solve_26 (v := 0) (by decide) ?_
  refine s_istore_n G dX4_solve_27 rfl (by decide) rfl rfl ?_
  refine l_X4_solve_28 G hR _ (fun σ17 hf => ?_) 1000 (0 : Int32) σ7 hf
  refine s_aload_n G dX4_solve_116 rfl ?_
  obtain ⟨q18, hq18, hf⟩ := bnd hf
  refine s_callV G dX4_solve_117 (c_X4_eliminate hq18) lkM_X4_86 yk_X4_eliminate yv_X4_eliminate (by decide) rfl rfl _ [] rfl rfl rfl (Nat.le_of_ble_eq_true rfl) (by decide) ?_
  refine s_aload_n G dX4_solve_120 rfl ?_
  obtain ⟨q19, hq19, hf⟩ := bnd hf
  refine s_callV G dX4_solve_121 (c_X4_readFlows hq19) lkM_X4_89 yk_X4_readFlows yv_X4_readFlows (by decide) rfl rfl _ [] rfl rfl rfl (Nat.le_of_ble_eq_true rfl) (by decide) ?_
  replace hf := Option.some.inj hf
  subst hf
  exact s_vret G hR dX4_solve_124 rfl rfl
def f_X4_narrow_9 (x2 : Int32) (k5 : St → Option (St)) : Nat → Int32 → St → Option (St)
  | 0, _, _ => none
  | n6 + 1, x3, σ4 =>
    if (σ4.1 24 7) ≤ x3 then
      (k5 σ4)
    else
      (chk (ib x3 10) (
      if (σ4.1 7 x3.toNatClampNeg) = 0 then
        (nm (sI σ4 7 x3.toNatClampNeg (vp_nar .boolean (0 : Int32))) (fun σ10 : St =>
        f_X4_narrow_9 x2 k5 n6 (x3 + 1) σ10))
      else
        (chk (ib (σ4.1 26 x3.toNatClampNeg) 6) (
        if (σ4.1 8 (σ4.1 26 x3.toNatClampNeg).toNatClampNeg) = x2 then
          (nm (sI σ4 7 x3.toNatClampNeg (vp_nar .boolean (1 : Int32))) (fun σ14 : St =>
          f_X4_narrow_9 x2 k5 n6 (x3 + 1) σ14))
        else
          (nm (sI σ4 7 x3.toNatClampNeg (vp_nar .boolean (0 : Int32))) (fun σ13 : St =>
          f_X4_narrow_9 x2 k5 n6 (x3 + 1) σ13))))))
def f_X4_narrow (a1 : Int32) (σ : St) : Option (St) :=
chk (ib a1 6) (
  nm (σ.1 8 a1.toNatClampNeg) (fun x2 : Int32 =>
  f_X4_narrow_9 x2 (fun (σ15 : St) =>
    (f_X4_findIslands σ15).bind (fun q16 =>
    some q16)) 1000 (0 : Int32) σ))
abbrev mX4_narrow : Me := (yX4_narrow, cX4_narrow, 4, none, 2, 46)
set_option maxRecDepth 100000 in
set_option maxHeartbeats 4000000 in
theorem l_X4_narrow_9 {Γ : Cxt} (G : OK Γ RX4 cX4_narrow 4 none 2 46) {res : St} (hR : RetOK Γ none res) (x2 : Int32) (k5 : St → Option (St)) (hk : ∀ (z : St), k5 z = some res → WW Γ 64 [some (.ref 6), none, none, none] [] z) : ∀ (n6 : Nat) (x3 : Int32) (σ4 : St), f_X4_narrow_9 x2 k5 n6 x3 σ4 = some res → WW Γ 9 [some (.ref 6), none, some (.int x2), some (.int x3)] [] σ4 := by
  intro n6
  induction n6 with
  | zero =>
    intro x3 σ4 hf
    cases hf
  | succ n6 ih =>
    intro x3 σ4 hf
    unfold f_X4_narrow_9 at hf
    refine s_iload_n G dX4_narrow_9 rfl ?_
    refine s_aload_n G dX4_narrow_10 rfl ?_
    refine s_getR G dX4_narrow_11 lkF_X4_45 (by decide) rfl rfl ?_
    refine s_getI (n := 0) G dX4_narrow_14 lkF_X4_49 (by decide) rfl rfl ?_
    refine s_icmp_ge (tgt := 64) G dX4_narrow_17 (by decide) (fun c7 => ?_) (fun c7 => ?_)
    · replace hf := ifp c7 hf
      refine s_fgt [true, true, false, false] rfl ?_
      exact hk σ4 hf
    · replace hf := ifn c7 hf
      refine s_aload_n G dX4_narrow_20 rfl ?_
      refine s_getR G dX4_narrow_21 lkF_X4_9 (by decide) rfl rfl ?_
      refine s_iload_n G dX4_narrow_24 rfl ?_
      refine s_aload_n G dX4_narrow_25 rfl ?_
      refine s_getR G dX4_narrow_26 lkF_X4_9 (by decide) rfl rfl ?_
      refine s_iload_n G dX4_narrow_29 rfl ?_
      have h8 := chk_1 hf
      replace hf := chk_2 hf
      refine s_zald G dX4_narrow_30 (by decide) rfl h8 ?_
      refine s_if_eq (tgt := 56) G dX4_narrow_31 (by decide) (fun c9 => ?_) (fun c9 => ?_)
      · replace hf := ifp c9 hf
        refine s_iconst G dX4_narrow_56 (v := 0) (by decide) ?_
        refine s_zast G dX4_narrow_57 (by decide) rfl h8 ?_
        refine s_st (fun σ10 eσ10 => ?_)
        replace hf := nm_at eσ10 hf
        refine s_iinc G dX4_narrow_58 rfl (v := (x3 + 1)) rfl (by decide) rfl rfl ?_
        refine s_goto (tgt := 9) G dX4_narrow_61 (by decide) ?_
        exact ih (x3 + 1) σ10 hf
      · replace hf := ifn c9 hf
        refine s_aload_n G dX4_narrow_34 rfl ?_
        refine s_getR G dX4_narrow_35 lkF_X4_15 (by decide) rfl rfl ?_
        refine s_aload_n G dX4_narrow_38 rfl ?_
        refine s_getR G dX4_narrow_39 lkF_X4_45 (by decide) rfl rfl ?_
        refine s_getR G dX4_narrow_42 lkF_X4_60 (by decide) rfl rfl ?_
        refine s_iload_n G dX4_narrow_45 rfl ?_
        refine s_iald G dX4_narrow_46 (by decide) rfl h8 ?_
        have h11 := chk_1 hf
        replace hf := chk_2 hf
        refine s_iald G dX4_narrow_47 (by decide) rfl h11 ?_
        refine s_iload_n G dX4_narrow_48 rfl ?_
        refine s_icmp_ne (tgt := 56) G dX4_narrow_49 (by decide) (fun c12 => ?_) (fun c12 => ?_)
        · replace hf := ifn c12 hf
          refine s_iconst G dX4_narrow_56 (v := 0) (by decide) ?_
          refine s_zast G dX4_narrow_57 (by decide) rfl h8 ?_
          refine s_st (fun σ13 eσ13 => ?_)
          replace hf := nm_at eσ13 hf
          refine s_iinc G dX4_narrow_58 rfl (v := (x3 + 1)) rfl (by decide) rfl rfl ?_
          refine s_goto (tgt := 9) G dX4_narrow_61 (by decide) ?_
          exact ih (x3 + 1) σ13 hf
        · replace hf := ifp c12 hf
          refine s_iconst G dX4_narrow_52 (v := 1) (by decide) ?_
          refine s_goto (tgt := 57) G dX4_narrow_53 (by decide) ?_
          refine s_zast G dX4_narrow_57 (by decide) rfl h8 ?_
          refine s_st (fun σ14 eσ14 => ?_)
          replace hf := nm_at eσ14 hf
          refine s_iinc G dX4_narrow_58 rfl (v := (x3 + 1)) rfl (by decide) rfl rfl ?_
          refine s_goto (tgt := 9) G dX4_narrow_61 (by decide) ?_
          exact ih (x3 + 1) σ14 hf
set_option maxRecDepth 100000 in
set_option maxHeartbeats 4000000 in
theorem c_X4_narrow {a1 : Int32} {σ : St} {res : St} (hf : f_X4_narrow a1 σ = some res) : Mt mX4_narrow [.ref 6, .int a1] σ none res := by
  unfold f_X4_narrow at hf
  refine mt_of (by decide) (Nat.le_of_ble_eq_true rfl) [some (.ref 6), some (.int a1), none, none] rfl (fun Γ G hR => ?_)
  have G : OK Γ RX4 cX4_narrow 4 none 2 46 := G
  refine s_aload_n G dX4_narrow_0 rfl ?_
  refine s_getR G dX4_narrow_1 lkF_X4_15 (by decide) rfl rfl ?_
  refine s_iload_n G dX4_narrow_4 rfl ?_
  have h1 := chk_1 hf
  replace hf := chk_2 hf
  refine s_iald G dX4_narrow_5 (by decide) rfl h1 ?_
  refine s_topi (fun x2 ex2 => ?_)
  replace hf := nm_at ex2 hf
  refine s_istore_n G dX4_narrow_6 rfl (by decide) rfl rfl ?_
  refine s_iconst G dX4_narrow_7 (v := 0) (by decide) ?_
  refine s_istore_n G dX4_narrow_8 rfl (by decide) rfl rfl ?_
  refine s_fgt [true, false, true, true] rfl ?_
  refine l_X4_narrow_9 G hR x2 _ (fun σ15 hf => ?_) 1000 (0 : Int32) σ hf
  refine s_aload_n G dX4_narrow_64 rfl ?_
  obtain ⟨q16, hq16, hf⟩ := bnd hf
  refine s_callV G dX4_narrow_65 (c_X4_findIslands hq16) lkM_X4_57 yk_X4_findIslands yv_X4_findIslands (by decide) rfl rfl _ [] rfl rfl rfl (Nat.le_of_ble_eq_true rfl) (by decide) ?_
  replace hf := Option.some.inj hf
  subst hf
  exact s_vret G hR dX4_narrow_68 rfl rfl
def f_X4_ownSum_4 (a1 : Int32) (k4 : Int32 → St → Option (Int32 × St)) : Nat → Int32 → Int32 → St → Option (Int32 × St)
  | 0, _, _, _ => none
  | n5 + 1, x1, x2, σ3 =>
    if (σ3.1 24 6) ≤ x2 then
      (k4 x1 σ3)
    else
      (chk (ib x2 6) (
      if (σ3.1 8 x2.toNatClampNeg) = a1 then
        (nm (x1 + (σ3.1 25 x2.toNatClampNeg)) (fun x9 : Int32 =>
        f_X4_ownSum_4 a1 k4 n5 x9 (x2 + 1) σ3))
      else
        (f_X4_ownSum_4 a1 k4 n5 x1 (x2 + 1) σ3)))
def f_X4_ownSum (a1 : Int32) (σ : St) : Option (Int32 × St) :=
f_X4_ownSum_4 a1 (fun (x10 : Int32) (σ11 : St) =>
    some (x10, σ11)) 1000 (0 : Int32) (0 : Int32) σ
abbrev mX4_ownSum : Me := (yX4_ownSum, cX4_ownSum, 4, (some .int), 0, 0)
set_option maxRecDepth 100000 in
set_option maxHeartbeats 4000000 in
theorem l_X4_ownSum_4 {Γ : Cxt} (G : OK Γ RX4 cX4_ownSum 4 (some .int) 0 0) {res : Int32 × St} (hR : RetOK Γ (some (.int res.1)) res.2) (a1 : Int32) (k4 : Int32 → St → Option (Int32 × St)) (hk : ∀ (y2 : Int32) (z : St), k4 y2 z = some res → WW Γ 43 [none, none, some (.int y2), none] [] z) : ∀ (n5 : Nat) (x1 : Int32) (x2 : Int32) (σ3 : St), f_X4_ownSum_4 a1 k4 n5 x1 x2 σ3 = some res → WW Γ 4 [some (.ref 6), some (.int a1), some (.int x1), some (.int x2)] [] σ3 := by
  intro n5
  induction n5 with
  | zero =>
    intro x1 x2 σ3 hf
    cases hf
  | succ n5 ih =>
    intro x1 x2 σ3 hf
    unfold f_X4_ownSum_4 at hf
    refine s_iload_n G dX4_ownSum_4 rfl ?_
    refine s_aload_n G dX4_ownSum_5 rfl ?_
    refine s_getR G dX4_ownSum_6 lkF_X4_45 (by decide) rfl rfl ?_
    refine s_getI (n := 0) G dX4_ownSum_9 lkF_X4_70 (by decide) rfl rfl ?_
    refine s_icmp_ge (tgt := 43) G dX4_ownSum_12 (by decide) (fun c6 => ?_) (fun c6 => ?_)
    · replace hf := ifp c6 hf
      refine s_fgt [false, false, true, false] rfl ?_
      exact hk x1 σ3 hf
    · replace hf := ifn c6 hf
      refine s_aload_n G dX4_ownSum_15 rfl ?_
      refine s_getR G dX4_ownSum_16 lkF_X4_15 (by decide) rfl rfl ?_
      refine s_iload_n G dX4_ownSum_19 rfl ?_
      have h7 := chk_1 hf
      replace hf := chk_2 hf
      refine s_iald G dX4_ownSum_20 (by decide) rfl h7 ?_
      refine s_iload_n G dX4_ownSum_21 rfl ?_
      refine s_icmp_ne (tgt := 37) G dX4_ownSum_22 (by decide) (fun c8 => ?_) (fun c8 => ?_)
      · replace hf := ifn c8 hf
        refine s_iinc G dX4_ownSum_37 rfl (v := (x2 + 1)) rfl (by decide) rfl rfl ?_
        refine s_goto (tgt := 4) G dX4_ownSum_40 (by decide) ?_
        exact ih x1 (x2 + 1) σ3 hf
      · replace hf := ifp c8 hf
        refine s_iload_n G dX4_ownSum_25 rfl ?_
        refine s_aload_n G dX4_ownSum_26 rfl ?_
        refine s_getR G dX4_ownSum_27 lkF_X4_45 (by decide) rfl rfl ?_
        refine s_getR G dX4_ownSum_30 lkF_X4_73 (by decide) rfl rfl ?_
        refine s_iload_n G dX4_ownSum_33 rfl ?_
        refine s_iald G dX4_ownSum_34 (by decide) rfl h7 ?_
        refine s_iadd G dX4_ownSum_35 ?_
        refine s_topi (fun x9 ex9 => ?_)
        replace hf := nm_at ex9 hf
        refine s_istore_n G dX4_ownSum_36 rfl (by decide) rfl rfl ?_
        refine s_iinc G dX4_ownSum_37 rfl (v := (x2 + 1)) rfl (by decide) rfl rfl ?_
        refine s_goto (tgt := 4) G dX4_ownSum_40 (by decide) ?_
        exact ih x9 (x2 + 1) σ3 hf
set_option maxRecDepth 100000 in
set_option maxHeartbeats 4000000 in
theorem c_X4_ownSum {a1 : Int32} {σ : St} {res : Int32 × St} (hf : f_X4_ownSum a1 σ = some res) : Mt mX4_ownSum [.ref 6, .int a1] σ (some (.int res.1)) res.2 := by
  unfold f_X4_ownSum at hf
  refine mt_of (by decide) (Nat.le_of_ble_eq_true rfl) [some (.ref 6), some (.int a1), none, none] rfl (fun Γ G hR => ?_)
  have G : OK Γ RX4 cX4_ownSum 4 (some .int) 0 0 := G
  refine s_iconst G dX4_ownSum_0 (v := 0) (by decide) ?_
  refine s_istore_n G dX4_ownSum_1 rfl (by decide) rfl rfl ?_
  refine s_iconst G dX4_ownSum_2 (v := 0) (by decide) ?_
  refine s_istore_n G dX4_ownSum_3 rfl (by decide) rfl rfl ?_
  refine l_X4_ownSum_4 G hR a1 _ (fun x10 σ11 hf => ?_) 1000 (0 : Int32) (0 : Int32) σ hf
  refine s_iload_n G dX4_ownSum_43 rfl ?_
  replace hf := Option.some.inj hf
  subst hf
  exact s_iret G hR dX4_ownSum_44 rfl rfl
def f_X5_isGreater (a1 : Int64) (a2 : Int64) (a3 : Int64) (a4 : Int64) (σ : St) : Option (Int32 × St) :=
if (a1 * a4) ≤ (a3 * a2) then
    (some ((0 : Int32), σ))
  else
    (some ((1 : Int32), σ))
abbrev mX5_isGreater : Me := (yX5_isGreater, cX5_isGreater, 8, (some .boolean), 0, 0)
set_option maxRecDepth 100000 in
set_option maxHeartbeats 4000000 in
theorem c_X5_isGreater {a1 : Int64} {a2 : Int64} {a3 : Int64} {a4 : Int64} {σ : St} {res : Int32 × St} (hf : f_X5_isGreater a1 a2 a3 a4 σ = some res) : Mt mX5_isGreater [.long a1, .long a2, .long a3, .long a4] σ (some (.int res.1)) res.2 := by
  unfold f_X5_isGreater at hf
  refine mt_of (by decide) (Nat.le_of_ble_eq_true rfl) [some (.long a1), none, some (.long a2), none, some (.long a3), none, some (.long a4), none] rfl (fun Γ G hR => ?_)
  have G : OK Γ RX5 cX5_isGreater 8 (some .boolean) 0 0 := G
  refine s_lload_n G dX5_isGreater_0 rfl ?_
  refine s_lload G dX5_isGreater_1 rfl ?_
  refine s_lmul G dX5_isGreater_3 ?_
  refine s_lload G dX5_isGreater_4 rfl ?_
  refine s_lload_n G dX5_isGreater_6 rfl ?_
  refine s_lmul G dX5_isGreater_7 ?_
  refine s_lif_le (tgt := 16) (pc2 := 0) G dX5_isGreater_8 dX5_isGreater_9 (by decide) (fun c1 => ?_) (fun c1 => ?_)
  · replace hf := ifp c1 hf
    refine s_iconst G dX5_isGreater_16 (v := 0) (by decide) ?_
    replace hf := Option.some.inj hf
    subst hf
    exact s_zret G hR dX5_isGreater_17 (by decide) rfl rfl
  · replace hf := ifn c1 hf
    refine s_iconst G dX5_isGreater_12 (v := 1) (by decide) ?_
    refine s_goto (tgt := 17) G dX5_isGreater_13 (by decide) ?_
    replace hf := Option.some.inj hf
    subst hf
    exact s_zret G hR dX5_isGreater_17 (by decide) rfl rfl
def f_X4_weigh (a1 : Int32) (a2 : Int64) (a3 : Int64) (σ : St) : Option (St) :=
jn (fun q1 : St =>
    (if a2 ≤ a3 then
      (some q1)
    else
      (nm (sI q1 6 11 ((q1.1 6 11) + (1 : Int32))) (fun σ4 : St =>
      some σ4)))) (fun j2 =>
    if (σ.1 6 8) = (-1 : Int32) then
      (nm (sI σ 6 8 a1) (fun σ6 : St =>
      nm (sL σ6 6 9 a2) (fun σ7 : St =>
      nm (sL σ7 6 10 a3) (fun σ8 : St =>
      j2 σ8))))
    else
      ((f_X5_isGreater a2 a3 (σ.2 6 9) (σ.2 6 10) σ).bind (fun q9 =>
      if q9.1 = 0 then
        (j2 q9.2)
      else
        (nm (sI q9.2 6 8 a1) (fun σ11 : St =>
        nm (sL σ11 6 9 a2) (fun σ12 : St =>
        nm (sL σ12 6 10 a3) (fun σ13 : St =>
        j2 σ13)))))))
abbrev mX4_weigh : Me := (yX4_weigh, cX4_weigh, 6, none, 1, 27)
set_option maxRecDepth 100000 in
set_option maxHeartbeats 4000000 in
theorem c_X4_weigh {a1 : Int32} {a2 : Int64} {a3 : Int64} {σ : St} {res : St} (hf : f_X4_weigh a1 a2 a3 σ = some res) : Mt mX4_weigh [.ref 6, .int a1, .long a2, .long a3] σ none res := by
  unfold f_X4_weigh at hf
  refine mt_of (by decide) (Nat.le_of_ble_eq_true rfl) [some (.ref 6), some (.int a1), some (.long a2), none, some (.long a3), none] rfl (fun Γ G hR => ?_)
  have G : OK Γ RX4 cX4_weigh 6 none 1 27 := G
  refine s_aload_n G dX4_weigh_0 rfl ?_
  refine s_getI (n := 0) G dX4_weigh_1 lkF_X4_38 (by decide) rfl rfl ?_
  refine s_iconst G dX4_weigh_4 (v := -1) (by decide) ?_
  refine jn_w (fun q1 : St => WW Γ 41 [some (.ref 6), none, some (.long a2), none, some (.long a3), none] [] q1) hf (fun q1 hf => ?_) (fun j2 hj2 hf => ?_)
  · refine s_lload_n G dX4_weigh_41 rfl ?_
    refine s_lload G dX4_weigh_42 rfl ?_
    refine s_lif_le (tgt := 58) (pc2 := 0) G dX4_weigh_44 dX4_weigh_45 (by decide) (fun c3 => ?_) (fun c3 => ?_)
    · replace hf := ifp c3 hf
      replace hf := Option.some.inj hf
      subst hf
      exact s_vret G hR dX4_weigh_58 rfl rfl
    · replace hf := ifn c3 hf
      refine s_aload_n G dX4_weigh_48 rfl ?_
      refine s_dup G dX4_weigh_49 rfl ?_
      refine s_getI (n := 0) G dX4_weigh_50 lkF_X4_102 (by decide) rfl rfl ?_
      refine s_iconst G dX4_weigh_53 (v := 1) (by decide) ?_
      refine s_iadd G dX4_weigh_54 ?_
      refine s_putI G dX4_weigh_55 lkP_X4_102 (by decide) rfl rfl ?_
      refine s_st (fun σ4 eσ4 => ?_)
      replace hf := nm_at eσ4 hf
      replace hf := Option.some.inj hf
      subst hf
      exact s_vret G hR dX4_weigh_58 rfl rfl
  · refine s_icmp_eq (tgt := 25) G dX4_weigh_5 (by decide) (fun c5 => ?_) (fun c5 => ?_)
    · replace hf := ifp c5 hf
      refine s_aload_n G dX4_weigh_25 rfl ?_
      refine s_iload_n G dX4_weigh_26 rfl ?_
      refine s_putI G dX4_weigh_27 lkP_X4_38 (by decide) rfl rfl ?_
      refine s_st (fun σ6 eσ6 => ?_)
      replace hf := nm_at eσ6 hf
      refine s_aload_n G dX4_weigh_30 rfl ?_
      refine s_lload_n G dX4_weigh_31 rfl ?_
      refine s_putL G dX4_weigh_32 lkP_X4_99 (by decide) rfl rfl ?_
      refine s_st (fun σ7 eσ7 => ?_)
      replace hf := nm_at eσ7 hf
      refine s_aload_n G dX4_weigh_35 rfl ?_
      refine s_lload G dX4_weigh_36 rfl ?_
      refine s_putL G dX4_weigh_38 lkP_X4_42 (by decide) rfl rfl ?_
      refine s_st (fun σ8 eσ8 => ?_)
      replace hf := nm_at eσ8 hf
      refine s_fgt [true, false, true, true, true, true] rfl ?_
      exact hj2 _ hf
    · replace hf := ifn c5 hf
      refine s_lload_n G dX4_weigh_8 rfl ?_
      refine s_lload G dX4_weigh_9 rfl ?_
      refine s_aload_n G dX4_weigh_11 rfl ?_
      refine s_getL (n := 0) G dX4_weigh_12 lkF_X4_99 (by decide) rfl rfl ?_
      refine s_aload_n G dX4_weigh_15 rfl ?_
      refine s_getL (n := 0) G dX4_weigh_16 lkF_X4_42 (by decide) rfl rfl ?_
      obtain ⟨q9, hq9, hf⟩ := bnd hf
      refine s_callS G dX4_weigh_19 (c_X5_isGreater hq9) lkM_X4_118 yk_X5_isGreater ys_X5_isGreater _ [] rfl rfl rfl (Nat.le_of_ble_eq_true rfl) (by decide) ?_
      refine s_if_eq (tgt := 41) G dX4_weigh_22 (by decide) (fun c10 => ?_) (fun c10 => ?_)
      · replace hf := ifp c10 hf
        refine s_fgt [true, false, true, true, true, true] rfl ?_
        exact hj2 _ hf
      · replace hf := ifn c10 hf
        refine s_aload_n G dX4_weigh_25 rfl ?_
        refine s_iload_n G dX4_weigh_26 rfl ?_
        refine s_putI G dX4_weigh_27 lkP_X4_38 (by decide) rfl rfl ?_
        refine s_st (fun σ11 eσ11 => ?_)
        replace hf := nm_at eσ11 hf
        refine s_aload_n G dX4_weigh_30 rfl ?_
        refine s_lload_n G dX4_weigh_31 rfl ?_
        refine s_putL G dX4_weigh_32 lkP_X4_99 (by decide) rfl rfl ?_
        refine s_st (fun σ12 eσ12 => ?_)
        replace hf := nm_at eσ12 hf
        refine s_aload_n G dX4_weigh_35 rfl ?_
        refine s_lload G dX4_weigh_36 rfl ?_
        refine s_putL G dX4_weigh_38 lkP_X4_42 (by decide) rfl rfl ?_
        refine s_st (fun σ13 eσ13 => ?_)
        replace hf := nm_at eσ13 hf
        refine s_fgt [true, false, true, true, true, true] rfl ?_
        exact hj2 _ hf
def f_X4_load_28 (k8 : St → Option (St)) : Nat → Int32 → St → Option (St)
  | 0, _, _ => none
  | n9 + 1, x6, σ7 =>
    if (σ7.1 24 7) ≤ x6 then
      (k8 σ7)
    else
      (chk (ib x6 10) (
      if (σ7.1 7 x6.toNatClampNeg) = 0 then
        (f_X4_load_28 k8 n9 (x6 + 1) σ7)
      else
        ((f_X4_weigh x6 (if 0 < (σ7.2 17 x6.toNatClampNeg) then (σ7.2 17 x6.toNatClampNeg) else -(σ7.2 17 x6.toNatClampNeg)) ((σ7.2 6 7) * (σ7.1 29 x6.toNatClampNeg).toInt64) σ7).bind (fun q13 =>
        f_X4_load_28 k8 n9 (x6 + 1) q13))))
def f_X4_load (σ : St) : Option (St) :=
(f_X4_solve (-1 : Int32) (-1 : Int32) σ).bind (fun q1 =>
  nm (sI q1 6 8 (-1 : Int32)) (fun σ2 : St =>
  nm (sL σ2 6 9 (0 : Int64)) (fun σ3 : St =>
  nm (sL σ3 6 10 (1 : Int64)) (fun σ4 : St =>
  nm (sI σ4 6 11 (0 : Int32)) (fun σ5 : St =>
  f_X4_load_28 (fun (σ14 : St) =>
    some σ14) 1000 (0 : Int32) σ5)))))
abbrev mX4_load : Me := (yX4_load, cX4_load, 2, none, 3, 67)
set_option maxRecDepth 100000 in
set_option maxHeartbeats 4000000 in
theorem l_X4_load_28 {Γ : Cxt} (G : OK Γ RX4 cX4_load 2 none 3 67) {res : St} (hR : RetOK Γ none res) (k8 : St → Option (St)) (hk : ∀ (z : St), k8 z = some res → WW Γ 83 [none, none] [] z) : ∀ (n9 : Nat) (x6 : Int32) (σ7 : St), f_X4_load_28 k8 n9 x6 σ7 = some res → WW Γ 28 [some (.ref 6), some (.int x6)] [] σ7 := by
  intro n9
  induction n9 with
  | zero =>
    intro x6 σ7 hf
    cases hf
  | succ n9 ih =>
    intro x6 σ7 hf
    unfold f_X4_load_28 at hf
    refine s_iload_n G dX4_load_28 rfl ?_
    refine s_aload_n G dX4_load_29 rfl ?_
    refine s_getR G dX4_load_30 lkF_X4_45 (by decide) rfl rfl ?_
    refine s_getI (n := 0) G dX4_load_33 lkF_X4_49 (by decide) rfl rfl ?_
    refine s_icmp_ge (tgt := 83) G dX4_load_36 (by decide) (fun c10 => ?_) (fun c10 => ?_)
    · replace hf := ifp c10 hf
      refine s_fgt [false, false] rfl ?_
      exact hk σ7 hf
    · replace hf := ifn c10 hf
      refine s_aload_n G dX4_load_39 rfl ?_
      refine s_getR G dX4_load_40 lkF_X4_9 (by decide) rfl rfl ?_
      refine s_iload_n G dX4_load_43 rfl ?_
      have h11 := chk_1 hf
      replace hf := chk_2 hf
      refine s_zald G dX4_load_44 (by decide) rfl h11 ?_
      refine s_if_eq (tgt := 77) G dX4_load_45 (by decide) (fun c12 => ?_) (fun c12 => ?_)
      · replace hf := ifp c12 hf
        refine s_iinc G dX4_load_77 rfl (v := (x6 + 1)) rfl (by decide) rfl rfl ?_
        refine s_goto (tgt := 28) G dX4_load_80 (by decide) ?_
        exact ih (x6 + 1) σ7 hf
      · replace hf := ifn c12 hf
        refine s_aload_n G dX4_load_48 rfl ?_
        refine s_iload_n G dX4_load_49 rfl ?_
        refine s_aload_n G dX4_load_50 rfl ?_
        refine s_getR G dX4_load_51 lkF_X4_28 (by decide) rfl rfl ?_
        refine s_iload_n G dX4_load_54 rfl ?_
        refine s_lald G dX4_load_55 (by decide) rfl h11 ?_
        refine s_mabsL G dX4_load_56 lkJ_X4_105 (Nat.le_of_ble_eq_true rfl) (by decide) ?_
        refine s_aload_n G dX4_load_59 rfl ?_
        refine s_getL (n := 0) G dX4_load_60 lkF_X4_34 (by decide) rfl rfl ?_
        refine s_aload_n G dX4_load_63 rfl ?_
        refine s_getR G dX4_load_64 lkF_X4_45 (by decide) rfl rfl ?_
        refine s_getR G dX4_load_67 lkF_X4_111 (by decide) rfl rfl ?_
        refine s_iload_n G dX4_load_70 rfl ?_
        refine s_iald G dX4_load_71 (by decide) rfl h11 ?_
        refine s_i2l G dX4_load_72 ?_
        refine s_lmul G dX4_load_73 ?_
        obtain ⟨q13, hq13, hf⟩ := bnd hf
        refine s_callV G dX4_load_74 (c_X4_weigh hq13) lkM_X4_114 yk_X4_weigh yv_X4_weigh (by decide) rfl rfl _ [] rfl rfl rfl (Nat.le_of_ble_eq_true rfl) (by decide) ?_
        refine s_iinc G dX4_load_77 rfl (v := (x6 + 1)) rfl (by decide) rfl rfl ?_
        refine s_goto (tgt := 28) G dX4_load_80 (by decide) ?_
        exact ih (x6 + 1) q13 hf
set_option maxRecDepth 100000 in
set_option maxHeartbeats 4000000 in
theorem c_X4_load  {σ : St} {res : St} (hf : f_X4_load σ = some res) : Mt mX4_load [.ref 6] σ none res := by
  unfold f_X4_load at hf
  refine mt_of (by decide) (Nat.le_of_ble_eq_true rfl) [some (.ref 6), none] rfl (fun Γ G hR => ?_)
  have G : OK Γ RX4 cX4_load 2 none 3 67 := G
  refine s_aload_n G dX4_load_0 rfl ?_
  refine s_iconst G dX4_load_1 (v := -1) (by decide) ?_
  refine s_iconst G dX4_load_2 (v := -1) (by decide) ?_
  obtain ⟨q1, hq1, hf⟩ := bnd hf
  refine s_callV G dX4_load_3 (c_X4_solve hq1) lkM_X4_96 yk_X4_solve yv_X4_solve (by decide) rfl rfl _ [] rfl rfl rfl (Nat.le_of_ble_eq_true rfl) (by decide) ?_
  refine s_aload_n G dX4_load_6 rfl ?_
  refine s_iconst G dX4_load_7 (v := -1) (by decide) ?_
  refine s_putI G dX4_load_8 lkP_X4_38 (by decide) rfl rfl ?_
  refine s_st (fun σ2 eσ2 => ?_)
  replace hf := nm_at eσ2 hf
  refine s_aload_n G dX4_load_11 rfl ?_
  refine s_lconst G dX4_load_12 (v := 0) (by decide) ?_
  refine s_putL G dX4_load_13 lkP_X4_99 (by decide) rfl rfl ?_
  refine s_st (fun σ3 eσ3 => ?_)
  replace hf := nm_at eσ3 hf
  refine s_aload_n G dX4_load_16 rfl ?_
  refine s_lconst G dX4_load_17 (v := 1) (by decide) ?_
  refine s_putL G dX4_load_18 lkP_X4_42 (by decide) rfl rfl ?_
  refine s_st (fun σ4 eσ4 => ?_)
  replace hf := nm_at eσ4 hf
  refine s_aload_n G dX4_load_21 rfl ?_
  refine s_iconst G dX4_load_22 (v := 0) (by decide) ?_
  refine s_putI G dX4_load_23 lkP_X4_102 (by decide) rfl rfl ?_
  refine s_st (fun σ5 eσ5 => ?_)
  replace hf := nm_at eσ5 hf
  refine s_iconst G dX4_load_26 (v := 0) (by decide) ?_
  refine s_istore_n G dX4_load_27 rfl (by decide) rfl rfl ?_
  refine l_X4_load_28 G hR _ (fun σ14 hf => ?_) 1000 (0 : Int32) σ5 hf
  replace hf := Option.some.inj hf
  subst hf
  exact s_vret G hR dX4_load_83 rfl rfl
def f_X2_insert_16 (a1 : Int32) (a2 : Int32) (a3 : Int64) (a4 : Int64) (k5 : Int32 → St → Option (St)) : Nat → Int32 → St → Option (St)
  | 0, _, _ => none
  | n6 + 1, x3, σ4 =>
    if x3 ≤ 0 then
      (k5 x3 σ4)
    else
      (chk (ib (x3 - (1 : Int32)) 45) (
      (f_X5_isGreater a3 a4 (σ4.2 22 (x3 - (1 : Int32)).toNatClampNeg) (σ4.2 23 (x3 - (1 : Int32)).toNatClampNeg) σ4).bind (fun q9 =>
      if q9.1 = 0 then
        (k5 x3 q9.2)
      else
        (chk (ib x3 45) (
        nm (sI q9.2 20 x3.toNatClampNeg (q9.2.1 20 (x3 - (1 : Int32)).toNatClampNeg)) (fun σ12 : St =>
        nm (sI σ12 21 x3.toNatClampNeg (σ12.1 21 (x3 - (1 : Int32)).toNatClampNeg)) (fun σ13 : St =>
        nm (sL σ13 22 x3.toNatClampNeg (σ13.2 22 (x3 - (1 : Int32)).toNatClampNeg)) (fun σ14 : St =>
        nm (sL σ14 23 x3.toNatClampNeg (σ14.2 23 (x3 - (1 : Int32)).toNatClampNeg)) (fun σ15 : St =>
        f_X2_insert_16 a1 a2 a3 a4 k5 n6 (x3 + (-1)) σ15)))))))))
def f_X2_insert (a1 : Int32) (a2 : Int32) (a3 : Int64) (a4 : Int64) (σ : St) : Option (St) :=
if (σ.1 19 4) < (45 : Int32) then
    (nm (σ.1 19 4) (fun x2 : Int32 =>
    f_X2_insert_16 a1 a2 a3 a4 (fun (x16 : Int32) (σ17 : St) =>
      chk (ib x16 45) (
      nm (sI σ17 20 x16.toNatClampNeg a1) (fun σ19 : St =>
      nm (sI σ19 21 x16.toNatClampNeg a2) (fun σ20 : St =>
      nm (sL σ20 22 x16.toNatClampNeg a3) (fun σ21 : St =>
      nm (sL σ21 23 x16.toNatClampNeg a4) (fun σ22 : St =>
      nm (sI σ22 19 4 ((σ22.1 19 4) + (1 : Int32))) (fun σ23 : St =>
      some σ23))))))) 1000 x2 σ))
  else
    (some σ)
abbrev mX2_insert : Me := (yX2_insert, cX2_insert, 8, none, 1, 27)
set_option maxRecDepth 100000 in
set_option maxHeartbeats 4000000 in
theorem l_X2_insert_16 {Γ : Cxt} (G : OK Γ RX2 cX2_insert 8 none 1 27) {res : St} (hR : RetOK Γ none res) (a1 : Int32) (a2 : Int32) (a3 : Int64) (a4 : Int64) (k5 : Int32 → St → Option (St)) (hk : ∀ (y7 : Int32) (z : St), k5 y7 z = some res → WW Γ 118 [some (.ref 19), some (.int a1), some (.int a2), some (.long a3), none, some (.long a4), none, some (.int y7)] [] z) : ∀ (n6 : Nat) (x3 : Int32) (σ4 : St), f_X2_insert_16 a1 a2 a3 a4 k5 n6 x3 σ4 = some res → WW Γ 16 [some (.ref 19), some (.int a1), some (.int a2), some (.long a3), none, some (.long a4), none, some (.int x3)] [] σ4 := by
  intro n6
  induction n6 with
  | zero =>
    intro x3 σ4 hf
    cases hf
  | succ n6 ih =>
    intro x3 σ4 hf
    unfold f_X2_insert_16 at hf
    refine s_iload G dX2_insert_16 rfl ?_
    refine s_if_le (tgt := 118) G dX2_insert_18 (by decide) (fun c7 => ?_) (fun c7 => ?_)
    · replace hf := ifp c7 hf
      exact hk x3 σ4 hf
    · replace hf := ifn c7 hf
      refine s_lload_n G dX2_insert_21 rfl ?_
      refine s_lload G dX2_insert_22 rfl ?_
      refine s_aload_n G dX2_insert_24 rfl ?_
      refine s_getR G dX2_insert_25 lkF_X2_18 (by decide) rfl rfl ?_
      refine s_iload G dX2_insert_28 rfl ?_
      refine s_iconst G dX2_insert_30 (v := 1) (by decide) ?_
      refine s_isub G dX2_insert_31 ?_
      have h8 := chk_1 hf
      replace hf := chk_2 hf
      refine s_lald G dX2_insert_32 (by decide) rfl h8 ?_
      refine s_aload_n G dX2_insert_33 rfl ?_
      refine s_getR G dX2_insert_34 lkF_X2_22 (by decide) rfl rfl ?_
      refine s_iload G dX2_insert_37 rfl ?_
      refine s_iconst G dX2_insert_39 (v := 1) (by decide) ?_
      refine s_isub G dX2_insert_40 ?_
      refine s_lald G dX2_insert_41 (by decide) rfl h8 ?_
      obtain ⟨q9, hq9, hf⟩ := bnd hf
      refine s_callS G dX2_insert_42 (c_X5_isGreater hq9) lkM_X2_29 yk_X5_isGreater ys_X5_isGreater _ [] rfl rfl rfl (Nat.le_of_ble_eq_true rfl) (by decide) ?_
      refine s_if_eq (tgt := 118) G dX2_insert_45 (by decide) (fun c10 => ?_) (fun c10 => ?_)
      · replace hf := ifp c10 hf
        exact hk x3 q9.2 hf
      · replace hf := ifn c10 hf
        refine s_aload_n G dX2_insert_48 rfl ?_
        refine s_getR G dX2_insert_49 lkF_X2_9 (by decide) rfl rfl ?_
        refine s_iload G dX2_insert_52 rfl ?_
        refine s_aload_n G dX2_insert_54 rfl ?_
        refine s_getR G dX2_insert_55 lkF_X2_9 (by decide) rfl rfl ?_
        refine s_iload G dX2_insert_58 rfl ?_
        refine s_iconst G dX2_insert_60 (v := 1) (by decide) ?_
        refine s_isub G dX2_insert_61 ?_
        refine s_iald G dX2_insert_62 (by decide) rfl h8 ?_
        have h11 := chk_1 hf
        replace hf := chk_2 hf
        refine s_iast G dX2_insert_63 (by decide) rfl h11 ?_
        refine s_st (fun σ12 eσ12 => ?_)
        replace hf := nm_at eσ12 hf
        refine s_aload_n G dX2_insert_64 rfl ?_
        refine s_getR G dX2_insert_65 lkF_X2_15 (by decide) rfl rfl ?_
        refine s_iload G dX2_insert_68 rfl ?_
        refine s_aload_n G dX2_insert_70 rfl ?_
        refine s_getR G dX2_insert_71 lkF_X2_15 (by decide) rfl rfl ?_
        refine s_iload G dX2_insert_74 rfl ?_
        refine s_iconst G dX2_insert_76 (v := 1) (by decide) ?_
        refine s_isub G dX2_insert_77 ?_
        refine s_iald G dX2_insert_78 (by decide) rfl h8 ?_
        refine s_iast G dX2_insert_79 (by decide) rfl h11 ?_
        refine s_st (fun σ13 eσ13 => ?_)
        replace hf := nm_at eσ13 hf
        refine s_aload_n G dX2_insert_80 rfl ?_
        refine s_getR G dX2_insert_81 lkF_X2_18 (by decide) rfl rfl ?_
        refine s_iload G dX2_insert_84 rfl ?_
        refine s_aload_n G dX2_insert_86 rfl ?_
        refine s_getR G dX2_insert_87 lkF_X2_18 (by decide) rfl rfl ?_
        refine s_iload G dX2_insert_90 rfl ?_
        refine s_iconst G dX2_insert_92 (v := 1) (by decide) ?_
        refine s_isub G dX2_insert_93 ?_
        refine s_lald G dX2_insert_94 (by decide) rfl h8 ?_
        refine s_last G dX2_insert_95 (by decide) rfl h11 ?_
        refine s_st (fun σ14 eσ14 => ?_)
        replace hf := nm_at eσ14 hf
        refine s_aload_n G dX2_insert_96 rfl ?_
        refine s_getR G dX2_insert_97 lkF_X2_22 (by decide) rfl rfl ?_
        refine s_iload G dX2_insert_100 rfl ?_
        refine s_aload_n G dX2_insert_102 rfl ?_
        refine s_getR G dX2_insert_103 lkF_X2_22 (by decide) rfl rfl ?_
        refine s_iload G dX2_insert_106 rfl ?_
        refine s_iconst G dX2_insert_108 (v := 1) (by decide) ?_
        refine s_isub G dX2_insert_109 ?_
        refine s_lald G dX2_insert_110 (by decide) rfl h8 ?_
        refine s_last G dX2_insert_111 (by decide) rfl h11 ?_
        refine s_st (fun σ15 eσ15 => ?_)
        replace hf := nm_at eσ15 hf
        refine s_iinc G dX2_insert_112 rfl (v := (x3 + (-1))) rfl (by decide) rfl rfl ?_
        refine s_goto (tgt := 16) G dX2_insert_115 (by decide) ?_
        exact ih (x3 + (-1)) σ15 hf
set_option maxRecDepth 100000 in
set_option maxHeartbeats 4000000 in
theorem c_X2_insert {a1 : Int32} {a2 : Int32} {a3 : Int64} {a4 : Int64} {σ : St} {res : St} (hf : f_X2_insert a1 a2 a3 a4 σ = some res) : Mt mX2_insert [.ref 19, .int a1, .int a2, .long a3, .long a4] σ none res := by
  unfold f_X2_insert at hf
  refine mt_of (by decide) (Nat.le_of_ble_eq_true rfl) [some (.ref 19), some (.int a1), some (.int a2), some (.long a3), none, some (.long a4), none, none] rfl (fun Γ G hR => ?_)
  have G : OK Γ RX2 cX2_insert 8 none 1 27 := G
  refine s_aload_n G dX2_insert_0 rfl ?_
  refine s_getI (n := 0) G dX2_insert_1 lkF_X2_25 (by decide) rfl rfl ?_
  refine s_bipush G dX2_insert_4 (v := 45) (by decide) ?_
  refine s_icmp_lt (tgt := 10) G dX2_insert_6 (by decide) (fun c1 => ?_) (fun c1 => ?_)
  · replace hf := ifp c1 hf
    refine s_aload_n G dX2_insert_10 rfl ?_
    refine s_getI (n := 0) G dX2_insert_11 lkF_X2_25 (by decide) rfl rfl ?_
    refine s_topi (fun x2 ex2 => ?_)
    replace hf := nm_at ex2 hf
    refine s_istore G dX2_insert_14 (by decide) rfl rfl ?_
    refine l_X2_insert_16 G hR a1 a2 a3 a4 _ (fun x16 σ17 hf => ?_) 1000 x2 σ hf
    refine s_aload_n G dX2_insert_118 rfl ?_
    refine s_getR G dX2_insert_119 lkF_X2_9 (by decide) rfl rfl ?_
    refine s_iload G dX2_insert_122 rfl ?_
    refine s_iload_n G dX2_insert_124 rfl ?_
    have h18 := chk_1 hf
    replace hf := chk_2 hf
    refine s_iast G dX2_insert_125 (by decide) rfl h18 ?_
    refine s_st (fun σ19 eσ19 => ?_)
    replace hf := nm_at eσ19 hf
    refine s_aload_n G dX2_insert_126 rfl ?_
    refine s_getR G dX2_insert_127 lkF_X2_15 (by decide) rfl rfl ?_
    refine s_iload G dX2_insert_130 rfl ?_
    refine s_iload_n G dX2_insert_132 rfl ?_
    refine s_iast G dX2_insert_133 (by decide) rfl h18 ?_
    refine s_st (fun σ20 eσ20 => ?_)
    replace hf := nm_at eσ20 hf
    refine s_aload_n G dX2_insert_134 rfl ?_
    refine s_getR G dX2_insert_135 lkF_X2_18 (by decide) rfl rfl ?_
    refine s_iload G dX2_insert_138 rfl ?_
    refine s_lload_n G dX2_insert_140 rfl ?_
    refine s_last G dX2_insert_141 (by decide) rfl h18 ?_
    refine s_st (fun σ21 eσ21 => ?_)
    replace hf := nm_at eσ21 hf
    refine s_aload_n G dX2_insert_142 rfl ?_
    refine s_getR G dX2_insert_143 lkF_X2_22 (by decide) rfl rfl ?_
    refine s_iload G dX2_insert_146 rfl ?_
    refine s_lload G dX2_insert_148 rfl ?_
    refine s_last G dX2_insert_150 (by decide) rfl h18 ?_
    refine s_st (fun σ22 eσ22 => ?_)
    replace hf := nm_at eσ22 hf
    refine s_aload_n G dX2_insert_151 rfl ?_
    refine s_dup G dX2_insert_152 rfl ?_
    refine s_getI (n := 0) G dX2_insert_153 lkF_X2_25 (by decide) rfl rfl ?_
    refine s_iconst G dX2_insert_156 (v := 1) (by decide) ?_
    refine s_iadd G dX2_insert_157 ?_
    refine s_putI G dX2_insert_158 lkP_X2_25 (by decide) rfl rfl ?_
    refine s_st (fun σ23 eσ23 => ?_)
    replace hf := nm_at eσ23 hf
    replace hf := Option.some.inj hf
    subst hf
    exact s_vret G hR dX2_insert_161 rfl rfl
  · replace hf := ifn c1 hf
    replace hf := Option.some.inj hf
    subst hf
    exact s_vret G hR dX2_insert_9 rfl rfl
def f_X2_has (a1 : Int32) (σ : St) : Option (Int32 × St) :=
if a1 < 0 then
    (some ((0 : Int32), σ))
  else
    (if (σ.1 19 4) ≤ a1 then
      (some ((0 : Int32), σ))
    else
      (some ((1 : Int32), σ)))
abbrev mX2_has : Me := (yX2_has, cX2_has, 2, (some .boolean), 0, 0)
set_option maxRecDepth 100000 in
set_option maxHeartbeats 4000000 in
theorem c_X2_has {a1 : Int32} {σ : St} {res : Int32 × St} (hf : f_X2_has a1 σ = some res) : Mt mX2_has [.ref 19, .int a1] σ (some (.int res.1)) res.2 := by
  unfold f_X2_has at hf
  refine mt_of (by decide) (Nat.le_of_ble_eq_true rfl) [some (.ref 19), some (.int a1)] rfl (fun Γ G hR => ?_)
  have G : OK Γ RX2 cX2_has 2 (some .boolean) 0 0 := G
  refine s_iload_n G dX2_has_0 rfl ?_
  refine s_if_lt (tgt := 16) G dX2_has_1 (by decide) (fun c1 => ?_) (fun c1 => ?_)
  · replace hf := ifp c1 hf
    refine s_iconst G dX2_has_16 (v := 0) (by decide) ?_
    replace hf := Option.some.inj hf
    subst hf
    exact s_zret G hR dX2_has_17 (by decide) rfl rfl
  · replace hf := ifn c1 hf
    refine s_iload_n G dX2_has_4 rfl ?_
    refine s_aload_n G dX2_has_5 rfl ?_
    refine s_getI (n := 0) G dX2_has_6 lkF_X2_25 (by decide) rfl rfl ?_
    refine s_icmp_ge (tgt := 16) G dX2_has_9 (by decide) (fun c2 => ?_) (fun c2 => ?_)
    · replace hf := ifp c2 hf
      refine s_iconst G dX2_has_16 (v := 0) (by decide) ?_
      replace hf := Option.some.inj hf
      subst hf
      exact s_zret G hR dX2_has_17 (by decide) rfl rfl
    · replace hf := ifn c2 hf
      refine s_iconst G dX2_has_12 (v := 1) (by decide) ?_
      refine s_goto (tgt := 17) G dX2_has_13 (by decide) ?_
      replace hf := Option.some.inj hf
      subst hf
      exact s_zret G hR dX2_has_17 (by decide) rfl rfl
def f_X4_roomOf (a1 : Int64) (a2 : Int64) (a3 : Int64) (σ : St) : Option (Int64 × St) :=
if (if 0 < a1 then a1 else -a1) ≤ a3 then
    (if a2 ≤ (0 : Int64) then
      (if (0 : Int64) ≤ a2 then
        (some ((9999 : Int64), σ))
      else
        (chk (decide (¬ (-a2) = 0)) (
        some (((a3 + a1) / (-a2)), σ))))
    else
      (chk (decide (¬ a2 = 0)) (
      some (((a3 - a1) / a2), σ))))
  else
    (some ((-1 : Int64), σ))
abbrev mX4_roomOf : Me := (yX4_roomOf, cX4_roomOf, 6, (some .long), 1, 23)
set_option maxRecDepth 100000 in
set_option maxHeartbeats 4000000 in
theorem c_X4_roomOf {a1 : Int64} {a2 : Int64} {a3 : Int64} {σ : St} {res : Int64 × St} (hf : f_X4_roomOf a1 a2 a3 σ = some res) : Mt mX4_roomOf [.long a1, .long a2, .long a3] σ (some (.long res.1)) res.2 := by
  unfold f_X4_roomOf at hf
  refine mt_of (by decide) (Nat.le_of_ble_eq_true rfl) [some (.long a1), none, some (.long a2), none, some (.long a3), none] rfl (fun Γ G hR => ?_)
  have G : OK Γ RX4 cX4_roomOf 6 (some .long) 1 23 := G
  refine s_lload_n G dX4_roomOf_0 rfl ?_
  refine s_mabsL G dX4_roomOf_1 lkJ_X4_105 (Nat.le_of_ble_eq_true rfl) (by decide) ?_
  refine s_lload G dX4_roomOf_4 rfl ?_
  refine s_lif_le (tgt := 14) (pc2 := 0) G dX4_roomOf_6 dX4_roomOf_7 (by decide) (fun c1 => ?_) (fun c1 => ?_)
  · replace hf := ifp c1 hf
    refine s_lload_n G dX4_roomOf_14 rfl ?_
    refine s_lconst G dX4_roomOf_15 (v := 0) (by decide) ?_
    refine s_lif_le (tgt := 27) (pc2 := 0) G dX4_roomOf_16 dX4_roomOf_17 (by decide) (fun c2 => ?_) (fun c2 => ?_)
    · replace hf := ifp c2 hf
      refine s_lload_n G dX4_roomOf_27 rfl ?_
      refine s_lconst G dX4_roomOf_28 (v := 0) (by decide) ?_
      refine s_lif_ge (tgt := 41) (pc2 := 0) G dX4_roomOf_29 dX4_roomOf_30 (by decide) (fun c3 => ?_) (fun c3 => ?_)
      · replace hf := ifp c3 hf
        refine s_ldc2 G dX4_roomOf_41 kc_X4_122 ?_
        replace hf := Option.some.inj hf
        subst hf
        exact s_lret G hR dX4_roomOf_44 rfl rfl
      · replace hf := ifn c3 hf
        refine s_lload G dX4_roomOf_33 rfl ?_
        refine s_lload_n G dX4_roomOf_35 rfl ?_
        refine s_ladd G dX4_roomOf_36 ?_
        refine s_lload_n G dX4_roomOf_37 rfl ?_
        refine s_lneg G dX4_roomOf_38 ?_
        have h4 := chk_1 hf
        replace hf := chk_2 hf
        refine s_ldiv G dX4_roomOf_39 h4 ?_
        replace hf := Option.some.inj hf
        subst hf
        exact s_lret G hR dX4_roomOf_40 rfl rfl
    · replace hf := ifn c2 hf
      refine s_lload G dX4_roomOf_20 rfl ?_
      refine s_lload_n G dX4_roomOf_22 rfl ?_
      refine s_lsub G dX4_roomOf_23 ?_
      refine s_lload_n G dX4_roomOf_24 rfl ?_
      have h5 := chk_1 hf
      replace hf := chk_2 hf
      refine s_ldiv G dX4_roomOf_25 h5 ?_
      replace hf := Option.some.inj hf
      subst hf
      exact s_lret G hR dX4_roomOf_26 rfl rfl
  · replace hf := ifn c1 hf
    refine s_ldc2 G dX4_roomOf_10 kc_X4_132 ?_
    replace hf := Option.some.inj hf
    subst hf
    exact s_lret G hR dX4_roomOf_13 rfl rfl
def f_X4_room_13 (k5 : Int64 → St → Option (Int32 × St)) : Nat → Int64 → Int32 → St → Option (Int32 × St)
  | 0, _, _, _ => none
  | n6 + 1, x2, x3, σ4 =>
    if (σ4.1 24 7) ≤ x3 then
      (k5 x2 σ4)
    else
      (chk (ib x3 10) (
      if (σ4.1 7 x3.toNatClampNeg) = 0 then
        (f_X4_room_13 k5 n6 x2 (x3 + 1) σ4)
      else
        ((f_X4_roomOf (σ4.2 17 x3.toNatClampNeg) (σ4.2 18 x3.toNatClampNeg) ((σ4.2 6 7) * (σ4.1 29 x3.toNatClampNeg).toInt64) σ4).bind (fun q10 =>
        nm (if q10.1 < x2 then q10.1 else x2) (fun x11 : Int64 =>
        f_X4_room_13 k5 n6 x11 (x3 + 1) q10.2)))))
def f_X4_room (a1 : Int32) (a2 : Int32) (σ : St) : Option (Int32 × St) :=
(f_X4_solve a1 a2 σ).bind (fun q1 =>
  f_X4_room_13 (fun (x12 : Int64) (σ13 : St) =>
    some (x12.toInt32, σ13)) 1000 (9999 : Int64) (0 : Int32) q1)
abbrev mX4_room : Me := (yX4_room, cX4_room, 6, (some .int), 3, 67)
set_option maxRecDepth 100000 in
set_option maxHeartbeats 4000000 in
theorem l_X4_room_13 {Γ : Cxt} (G : OK Γ RX4 cX4_room 6 (some .int) 3 67) {res : Int32 × St} (hR : RetOK Γ (some (.int res.1)) res.2) (k5 : Int64 → St → Option (Int32 × St)) (hk : ∀ (y3 : Int64) (z : St), k5 y3 z = some res → WW Γ 79 [none, none, none, some (.long y3), none, none] [] z) : ∀ (n6 : Nat) (x2 : Int64) (x3 : Int32) (σ4 : St), f_X4_room_13 k5 n6 x2 x3 σ4 = some res → WW Γ 13 [some (.ref 6), none, none, some (.long x2), none, some (.int x3)] [] σ4 := by
  intro n6
  induction n6 with
  | zero =>
    intro x2 x3 σ4 hf
    cases hf
  | succ n6 ih =>
    intro x2 x3 σ4 hf
    unfold f_X4_room_13 at hf
    refine s_iload G dX4_room_13 rfl ?_
    refine s_aload_n G dX4_room_15 rfl ?_
    refine s_getR G dX4_room_16 lkF_X4_45 (by decide) rfl rfl ?_
    refine s_getI (n := 0) G dX4_room_19 lkF_X4_49 (by decide) rfl rfl ?_
    refine s_icmp_ge (tgt := 79) G dX4_room_22 (by decide) (fun c7 => ?_) (fun c7 => ?_)
    · replace hf := ifp c7 hf
      refine s_fgt [false, true, true, true, true, false] rfl ?_
      exact hk x2 σ4 hf
    · replace hf := ifn c7 hf
      refine s_aload_n G dX4_room_25 rfl ?_
      refine s_getR G dX4_room_26 lkF_X4_9 (by decide) rfl rfl ?_
      refine s_iload G dX4_room_29 rfl ?_
      have h8 := chk_1 hf
      replace hf := chk_2 hf
      refine s_zald G dX4_room_31 (by decide) rfl h8 ?_
      refine s_if_eq (tgt := 73) G dX4_room_32 (by decide) (fun c9 => ?_) (fun c9 => ?_)
      · replace hf := ifp c9 hf
        refine s_iinc G dX4_room_73 rfl (v := (x3 + 1)) rfl (by decide) rfl rfl ?_
        refine s_goto (tgt := 13) G dX4_room_76 (by decide) ?_
        exact ih x2 (x3 + 1) σ4 hf
      · replace hf := ifn c9 hf
        refine s_lload_n G dX4_room_35 rfl ?_
        refine s_aload_n G dX4_room_36 rfl ?_
        refine s_getR G dX4_room_37 lkF_X4_28 (by decide) rfl rfl ?_
        refine s_iload G dX4_room_40 rfl ?_
        refine s_lald G dX4_room_42 (by decide) rfl h8 ?_
        refine s_aload_n G dX4_room_43 rfl ?_
        refine s_getR G dX4_room_44 lkF_X4_31 (by decide) rfl rfl ?_
        refine s_iload G dX4_room_47 rfl ?_
        refine s_lald G dX4_room_49 (by decide) rfl h8 ?_
        refine s_aload_n G dX4_room_50 rfl ?_
        refine s_getL (n := 0) G dX4_room_51 lkF_X4_34 (by decide) rfl rfl ?_
        refine s_aload_n G dX4_room_54 rfl ?_
        refine s_getR G dX4_room_55 lkF_X4_45 (by decide) rfl rfl ?_
        refine s_getR G dX4_room_58 lkF_X4_111 (by decide) rfl rfl ?_
        refine s_iload G dX4_room_61 rfl ?_
        refine s_iald G dX4_room_63 (by decide) rfl h8 ?_
        refine s_i2l G dX4_room_64 ?_
        refine s_lmul G dX4_room_65 ?_
        obtain ⟨q10, hq10, hf⟩ := bnd hf
        refine s_callS G dX4_room_66 (c_X4_roomOf hq10) lkM_X4_124 yk_X4_roomOf ys_X4_roomOf _ [.long x2] rfl rfl rfl (Nat.le_of_ble_eq_true rfl) (by decide) ?_
        refine s_mminL G dX4_room_69 lkJ_X4_128 (Nat.le_of_ble_eq_true rfl) (by decide) ?_
        refine s_topl (fun x11 ex11 => ?_)
        replace hf := nm_at ex11 hf
        refine s_lstore_n G dX4_room_72 rfl (by decide) rfl rfl ?_
        refine s_iinc G dX4_room_73 rfl (v := (x3 + 1)) rfl (by decide) rfl rfl ?_
        refine s_goto (tgt := 13) G dX4_room_76 (by decide) ?_
        exact ih x11 (x3 + 1) q10.2 hf
set_option maxRecDepth 100000 in
set_option maxHeartbeats 4000000 in
theorem c_X4_room {a1 : Int32} {a2 : Int32} {σ : St} {res : Int32 × St} (hf : f_X4_room a1 a2 σ = some res) : Mt mX4_room [.ref 6, .int a1, .int a2] σ (some (.int res.1)) res.2 := by
  unfold f_X4_room at hf
  refine mt_of (by decide) (Nat.le_of_ble_eq_true rfl) [some (.ref 6), some (.int a1), some (.int a2), none, none, none] rfl (fun Γ G hR => ?_)
  have G : OK Γ RX4 cX4_room 6 (some .int) 3 67 := G
  refine s_aload_n G dX4_room_0 rfl ?_
  refine s_iload_n G dX4_room_1 rfl ?_
  refine s_iload_n G dX4_room_2 rfl ?_
  obtain ⟨q1, hq1, hf⟩ := bnd hf
  refine s_callV G dX4_room_3 (c_X4_solve hq1) lkM_X4_96 yk_X4_solve yv_X4_solve (by decide) rfl rfl _ [] rfl rfl rfl (Nat.le_of_ble_eq_true rfl) (by decide) ?_
  refine s_ldc2 G dX4_room_6 kc_X4_122 ?_
  refine s_lstore_n G dX4_room_9 rfl (by decide) rfl rfl ?_
  refine s_iconst G dX4_room_10 (v := 0) (by decide) ?_
  refine s_istore G dX4_room_11 (by decide) rfl rfl ?_
  refine s_fgt [true, false, false, true, true, true] rfl ?_
  refine l_X4_room_13 G hR _ (fun x12 σ13 hf => ?_) 1000 (9999 : Int64) (0 : Int32) q1 hf
  refine s_lload_n G dX4_room_79 rfl ?_
  refine s_l2i G dX4_room_80 ?_
  replace hf := Option.some.inj hf
  subst hf
  exact s_iret G hR dX4_room_81 rfl rfl
def f_X4_islands_4 (k4 : Int32 → St → Option (Int32 × St)) : Nat → Int32 → Int32 → St → Option (Int32 × St)
  | 0, _, _, _ => none
  | n5 + 1, x1, x2, σ3 =>
    if (σ3.1 24 6) ≤ x2 then
      (k4 x1 σ3)
    else
      (chk (ib x2 6) (
      if (σ3.1 8 x2.toNatClampNeg) = x2 then
        (f_X4_islands_4 k4 n5 (x1 + 1) (x2 + 1) σ3)
      else
        (f_X4_islands_4 k4 n5 x1 (x2 + 1) σ3)))
def f_X4_islands (σ : St) : Option (Int32 × St) :=
f_X4_islands_4 (fun (x9 : Int32) (σ10 : St) =>
    some (x9, σ10)) 1000 (0 : Int32) (0 : Int32) σ
abbrev mX4_islands : Me := (yX4_islands, cX4_islands, 3, (some .int), 0, 0)
set_option maxRecDepth 100000 in
set_option maxHeartbeats 4000000 in
theorem l_X4_islands_4 {Γ : Cxt} (G : OK Γ RX4 cX4_islands 3 (some .int) 0 0) {res : Int32 × St} (hR : RetOK Γ (some (.int res.1)) res.2) (k4 : Int32 → St → Option (Int32 × St)) (hk : ∀ (y1 : Int32) (z : St), k4 y1 z = some res → WW Γ 34 [none, some (.int y1), none] [] z) : ∀ (n5 : Nat) (x1 : Int32) (x2 : Int32) (σ3 : St), f_X4_islands_4 k4 n5 x1 x2 σ3 = some res → WW Γ 4 [some (.ref 6), some (.int x1), some (.int x2)] [] σ3 := by
  intro n5
  induction n5 with
  | zero =>
    intro x1 x2 σ3 hf
    cases hf
  | succ n5 ih =>
    intro x1 x2 σ3 hf
    unfold f_X4_islands_4 at hf
    refine s_iload_n G dX4_islands_4 rfl ?_
    refine s_aload_n G dX4_islands_5 rfl ?_
    refine s_getR G dX4_islands_6 lkF_X4_45 (by decide) rfl rfl ?_
    refine s_getI (n := 0) G dX4_islands_9 lkF_X4_70 (by decide) rfl rfl ?_
    refine s_icmp_ge (tgt := 34) G dX4_islands_12 (by decide) (fun c6 => ?_) (fun c6 => ?_)
    · replace hf := ifp c6 hf
      refine s_fgt [false, true, false] rfl ?_
      exact hk x1 σ3 hf
    · replace hf := ifn c6 hf
      refine s_aload_n G dX4_islands_15 rfl ?_
      refine s_getR G dX4_islands_16 lkF_X4_15 (by decide) rfl rfl ?_
      refine s_iload_n G dX4_islands_19 rfl ?_
      have h7 := chk_1 hf
      replace hf := chk_2 hf
      refine s_iald G dX4_islands_20 (by decide) rfl h7 ?_
      refine s_iload_n G dX4_islands_21 rfl ?_
      refine s_icmp_ne (tgt := 28) G dX4_islands_22 (by decide) (fun c8 => ?_) (fun c8 => ?_)
      · replace hf := ifn c8 hf
        refine s_iinc G dX4_islands_28 rfl (v := (x2 + 1)) rfl (by decide) rfl rfl ?_
        refine s_goto (tgt := 4) G dX4_islands_31 (by decide) ?_
        exact ih x1 (x2 + 1) σ3 hf
      · replace hf := ifp c8 hf
        refine s_iinc G dX4_islands_25 rfl (v := (x1 + 1)) rfl (by decide) rfl rfl ?_
        refine s_iinc G dX4_islands_28 rfl (v := (x2 + 1)) rfl (by decide) rfl rfl ?_
        refine s_goto (tgt := 4) G dX4_islands_31 (by decide) ?_
        exact ih (x1 + 1) (x2 + 1) σ3 hf
set_option maxRecDepth 100000 in
set_option maxHeartbeats 4000000 in
theorem c_X4_islands  {σ : St} {res : Int32 × St} (hf : f_X4_islands σ = some res) : Mt mX4_islands [.ref 6] σ (some (.int res.1)) res.2 := by
  unfold f_X4_islands at hf
  refine mt_of (by decide) (Nat.le_of_ble_eq_true rfl) [some (.ref 6), none, none] rfl (fun Γ G hR => ?_)
  have G : OK Γ RX4 cX4_islands 3 (some .int) 0 0 := G
  refine s_iconst G dX4_islands_0 (v := 0) (by decide) ?_
  refine s_istore_n G dX4_islands_1 rfl (by decide) rfl rfl ?_
  refine s_iconst G dX4_islands_2 (v := 0) (by decide) ?_
  refine s_istore_n G dX4_islands_3 rfl (by decide) rfl rfl ?_
  refine l_X4_islands_4 G hR _ (fun x9 σ10 hf => ?_) 1000 (0 : Int32) (0 : Int32) σ hf
  refine s_iload_n G dX4_islands_34 rfl ?_
  replace hf := Option.some.inj hf
  subst hf
  exact s_iret G hR dX4_islands_35 rfl rfl
def f_X2_overloaded_4 (k4 : Int32 → St → Option (Int32 × St)) : Nat → Int32 → Int32 → St → Option (Int32 × St)
  | 0, _, _, _ => none
  | n5 + 1, x1, x2, σ3 =>
    if (σ3.1 19 4) ≤ x2 then
      (k4 x1 σ3)
    else
      (chk (ib x2 45) (
      if (σ3.2 22 x2.toNatClampNeg) ≤ (σ3.2 23 x2.toNatClampNeg) then
        (f_X2_overloaded_4 k4 n5 x1 (x2 + 1) σ3)
      else
        (f_X2_overloaded_4 k4 n5 (x1 + 1) (x2 + 1) σ3)))
def f_X2_overloaded (σ : St) : Option (Int32 × St) :=
f_X2_overloaded_4 (fun (x9 : Int32) (σ10 : St) =>
    some (x9, σ10)) 1000 (0 : Int32) (0 : Int32) σ
abbrev mX2_overloaded : Me := (yX2_overloaded, cX2_overloaded, 3, (some .int), 0, 0)
set_option maxRecDepth 100000 in
set_option maxHeartbeats 4000000 in
theorem l_X2_overloaded_4 {Γ : Cxt} (G : OK Γ RX2 cX2_overloaded 3 (some .int) 0 0) {res : Int32 × St} (hR : RetOK Γ (some (.int res.1)) res.2) (k4 : Int32 → St → Option (Int32 × St)) (hk : ∀ (y1 : Int32) (z : St), k4 y1 z = some res → WW Γ 37 [none, some (.int y1), none] [] z) : ∀ (n5 : Nat) (x1 : Int32) (x2 : Int32) (σ3 : St), f_X2_overloaded_4 k4 n5 x1 x2 σ3 = some res → WW Γ 4 [some (.ref 19), some (.int x1), some (.int x2)] [] σ3 := by
  intro n5
  induction n5 with
  | zero =>
    intro x1 x2 σ3 hf
    cases hf
  | succ n5 ih =>
    intro x1 x2 σ3 hf
    unfold f_X2_overloaded_4 at hf
    refine s_iload_n G dX2_overloaded_4 rfl ?_
    refine s_aload_n G dX2_overloaded_5 rfl ?_
    refine s_getI (n := 0) G dX2_overloaded_6 lkF_X2_25 (by decide) rfl rfl ?_
    refine s_icmp_ge (tgt := 37) G dX2_overloaded_9 (by decide) (fun c6 => ?_) (fun c6 => ?_)
    · replace hf := ifp c6 hf
      refine s_fgt [false, true, false] rfl ?_
      exact hk x1 σ3 hf
    · replace hf := ifn c6 hf
      refine s_aload_n G dX2_overloaded_12 rfl ?_
      refine s_getR G dX2_overloaded_13 lkF_X2_18 (by decide) rfl rfl ?_
      refine s_iload_n G dX2_overloaded_16 rfl ?_
      have h7 := chk_1 hf
      replace hf := chk_2 hf
      refine s_lald G dX2_overloaded_17 (by decide) rfl h7 ?_
      refine s_aload_n G dX2_overloaded_18 rfl ?_
      refine s_getR G dX2_overloaded_19 lkF_X2_22 (by decide) rfl rfl ?_
      refine s_iload_n G dX2_overloaded_22 rfl ?_
      refine s_lald G dX2_overloaded_23 (by decide) rfl h7 ?_
      refine s_lif_le (tgt := 31) (pc2 := 0) G dX2_overloaded_24 dX2_overloaded_25 (by decide) (fun c8 => ?_) (fun c8 => ?_)
      · replace hf := ifp c8 hf
        refine s_iinc G dX2_overloaded_31 rfl (v := (x2 + 1)) rfl (by decide) rfl rfl ?_
        refine s_goto (tgt := 4) G dX2_overloaded_34 (by decide) ?_
        exact ih x1 (x2 + 1) σ3 hf
      · replace hf := ifn c8 hf
        refine s_iinc G dX2_overloaded_28 rfl (v := (x1 + 1)) rfl (by decide) rfl rfl ?_
        refine s_iinc G dX2_overloaded_31 rfl (v := (x2 + 1)) rfl (by decide) rfl rfl ?_
        refine s_goto (tgt := 4) G dX2_overloaded_34 (by decide) ?_
        exact ih (x1 + 1) (x2 + 1) σ3 hf
set_option maxRecDepth 100000 in
set_option maxHeartbeats 4000000 in
theorem c_X2_overloaded  {σ : St} {res : Int32 × St} (hf : f_X2_overloaded σ = some res) : Mt mX2_overloaded [.ref 19] σ (some (.int res.1)) res.2 := by
  unfold f_X2_overloaded at hf
  refine mt_of (by decide) (Nat.le_of_ble_eq_true rfl) [some (.ref 19), none, none] rfl (fun Γ G hR => ?_)
  have G : OK Γ RX2 cX2_overloaded 3 (some .int) 0 0 := G
  refine s_iconst G dX2_overloaded_0 (v := 0) (by decide) ?_
  refine s_istore_n G dX2_overloaded_1 rfl (by decide) rfl rfl ?_
  refine s_iconst G dX2_overloaded_2 (v := 0) (by decide) ?_
  refine s_istore_n G dX2_overloaded_3 rfl (by decide) rfl rfl ?_
  refine l_X2_overloaded_4 G hR _ (fun x9 σ10 hf => ?_) 1000 (0 : Int32) (0 : Int32) σ hf
  refine s_iload_n G dX2_overloaded_37 rfl ?_
  replace hf := Option.some.inj hf
  subst hf
  exact s_iret G hR dX2_overloaded_38 rfl rfl
def f_X3_isFull (σ : St) : Option (Int32 × St) :=
if (σ.1 3 2) < (120 : Int32) then
    (some ((0 : Int32), σ))
  else
    (some ((1 : Int32), σ))
abbrev mX3_isFull : Me := (yX3_isFull, cX3_isFull, 1, (some .boolean), 0, 0)
set_option maxRecDepth 100000 in
set_option maxHeartbeats 4000000 in
theorem c_X3_isFull  {σ : St} {res : Int32 × St} (hf : f_X3_isFull σ = some res) : Mt mX3_isFull [.ref 3] σ (some (.int res.1)) res.2 := by
  unfold f_X3_isFull at hf
  refine mt_of (by decide) (Nat.le_of_ble_eq_true rfl) [some (.ref 3)] rfl (fun Γ G hR => ?_)
  have G : OK Γ RX3 cX3_isFull 1 (some .boolean) 0 0 := G
  refine s_aload_n G dX3_isFull_0 rfl ?_
  refine s_getI (n := 0) G dX3_isFull_1 lkF_X3_18 (by decide) rfl rfl ?_
  refine s_bipush G dX3_isFull_4 (v := 120) (by decide) ?_
  refine s_icmp_lt (tgt := 13) G dX3_isFull_6 (by decide) (fun c1 => ?_) (fun c1 => ?_)
  · replace hf := ifp c1 hf
    refine s_iconst G dX3_isFull_13 (v := 0) (by decide) ?_
    replace hf := Option.some.inj hf
    subst hf
    exact s_zret G hR dX3_isFull_14 (by decide) rfl rfl
  · replace hf := ifn c1 hf
    refine s_iconst G dX3_isFull_9 (v := 1) (by decide) ?_
    refine s_goto (tgt := 14) G dX3_isFull_10 (by decide) ?_
    replace hf := Option.some.inj hf
    subst hf
    exact s_zret G hR dX3_isFull_14 (by decide) rfl rfl
def f_X3_append (a1 : Int32) (σ : St) : Option (Int32 × St) :=
chk (ib (σ.1 3 2) 120) (
  nm (sI σ 4 (σ.1 3 2).toNatClampNeg a1) (fun σ2 : St =>
  nm (sI σ2 3 2 ((σ2.1 3 2) + (1 : Int32))) (fun σ3 : St =>
  some ((σ3.1 3 2), σ3))))
abbrev mX3_append : Me := (yX3_append, cX3_append, 2, (some .int), 0, 0)
set_option maxRecDepth 100000 in
set_option maxHeartbeats 4000000 in
theorem c_X3_append {a1 : Int32} {σ : St} {res : Int32 × St} (hf : f_X3_append a1 σ = some res) : Mt mX3_append [.ref 3, .int a1] σ (some (.int res.1)) res.2 := by
  unfold f_X3_append at hf
  refine mt_of (by decide) (Nat.le_of_ble_eq_true rfl) [some (.ref 3), some (.int a1)] rfl (fun Γ G hR => ?_)
  have G : OK Γ RX3 cX3_append 2 (some .int) 0 0 := G
  refine s_aload_n G dX3_append_0 rfl ?_
  refine s_getR G dX3_append_1 lkF_X3_9 (by decide) rfl rfl ?_
  refine s_aload_n G dX3_append_4 rfl ?_
  refine s_getI (n := 0) G dX3_append_5 lkF_X3_18 (by decide) rfl rfl ?_
  refine s_iload_n G dX3_append_8 rfl ?_
  have h1 := chk_1 hf
  replace hf := chk_2 hf
  refine s_iast G dX3_append_9 (by decide) rfl h1 ?_
  refine s_st (fun σ2 eσ2 => ?_)
  replace hf := nm_at eσ2 hf
  refine s_aload_n G dX3_append_10 rfl ?_
  refine s_dup G dX3_append_11 rfl ?_
  refine s_getI (n := 0) G dX3_append_12 lkF_X3_18 (by decide) rfl rfl ?_
  refine s_iconst G dX3_append_15 (v := 1) (by decide) ?_
  refine s_iadd G dX3_append_16 ?_
  refine s_putI G dX3_append_17 lkP_X3_18 (by decide) rfl rfl ?_
  refine s_st (fun σ3 eσ3 => ?_)
  replace hf := nm_at eσ3 hf
  refine s_aload_n G dX3_append_20 rfl ?_
  refine s_getI (n := 0) G dX3_append_21 lkF_X3_18 (by decide) rfl rfl ?_
  replace hf := Option.some.inj hf
  subst hf
  exact s_iret G hR dX3_append_24 rfl rfl
def f_X3_empty (σ : St) : Option (Int32 × St) :=
nm (σ.1 3 2) (fun x1 : Int32 =>
  nm (sI σ 3 2 (0 : Int32)) (fun σ2 : St =>
  some (x1, σ2)))
abbrev mX3_empty : Me := (yX3_empty, cX3_empty, 2, (some .int), 0, 0)
set_option maxRecDepth 100000 in
set_option maxHeartbeats 4000000 in
theorem c_X3_empty  {σ : St} {res : Int32 × St} (hf : f_X3_empty σ = some res) : Mt mX3_empty [.ref 3] σ (some (.int res.1)) res.2 := by
  unfold f_X3_empty at hf
  refine mt_of (by decide) (Nat.le_of_ble_eq_true rfl) [some (.ref 3), none] rfl (fun Γ G hR => ?_)
  have G : OK Γ RX3 cX3_empty 2 (some .int) 0 0 := G
  refine s_aload_n G dX3_empty_0 rfl ?_
  refine s_getI (n := 0) G dX3_empty_1 lkF_X3_18 (by decide) rfl rfl ?_
  refine s_topi (fun x1 ex1 => ?_)
  replace hf := nm_at ex1 hf
  refine s_istore_n G dX3_empty_4 rfl (by decide) rfl rfl ?_
  refine s_aload_n G dX3_empty_5 rfl ?_
  refine s_iconst G dX3_empty_6 (v := 0) (by decide) ?_
  refine s_putI G dX3_empty_7 lkP_X3_18 (by decide) rfl rfl ?_
  refine s_st (fun σ2 eσ2 => ?_)
  replace hf := nm_at eσ2 hf
  refine s_iload_n G dX3_empty_10 rfl ?_
  replace hf := Option.some.inj hf
  subst hf
  exact s_iret G hR dX3_empty_11 rfl rfl
def f_X3_rewind (σ : St) : Option (St) :=
nm (sI σ 3 3 (0 : Int32)) (fun σ1 : St =>
  some σ1)
abbrev mX3_rewind : Me := (yX3_rewind, cX3_rewind, 1, none, 0, 0)
set_option maxRecDepth 100000 in
set_option maxHeartbeats 4000000 in
theorem c_X3_rewind  {σ : St} {res : St} (hf : f_X3_rewind σ = some res) : Mt mX3_rewind [.ref 3] σ none res := by
  unfold f_X3_rewind at hf
  refine mt_of (by decide) (Nat.le_of_ble_eq_true rfl) [some (.ref 3)] rfl (fun Γ G hR => ?_)
  have G : OK Γ RX3 cX3_rewind 1 none 0 0 := G
  refine s_aload_n G dX3_rewind_0 rfl ?_
  refine s_iconst G dX3_rewind_1 (v := 0) (by decide) ?_
  refine s_putI G dX3_rewind_2 lkP_X3_22 (by decide) rfl rfl ?_
  refine s_st (fun σ1 eσ1 => ?_)
  replace hf := nm_at eσ1 hf
  replace hf := Option.some.inj hf
  subst hf
  exact s_vret G hR dX3_rewind_5 rfl rfl
def f_X3_skipBlanks_0 (k2 : St → Option (St)) : Nat → St → Option (St)
  | 0, _ => none
  | n3 + 1, σ1 =>
    if (σ1.1 3 2) ≤ (σ1.1 3 3) then
      (k2 σ1)
    else
      (chk (ib (σ1.1 3 3) 120) (
      if (σ1.1 4 (σ1.1 3 3).toNatClampNeg) = (32 : Int32) then
        (nm (sI σ1 3 3 ((σ1.1 3 3) + (1 : Int32))) (fun σ7 : St =>
        f_X3_skipBlanks_0 k2 n3 σ7))
      else
        (k2 σ1)))
def f_X3_skipBlanks (σ : St) : Option (St) :=
f_X3_skipBlanks_0 (fun (σ8 : St) =>
    some σ8) 1000 σ
abbrev mX3_skipBlanks : Me := (yX3_skipBlanks, cX3_skipBlanks, 1, none, 0, 0)
set_option maxRecDepth 100000 in
set_option maxHeartbeats 4000000 in
theorem l_X3_skipBlanks_0 {Γ : Cxt} (G : OK Γ RX3 cX3_skipBlanks 1 none 0 0) {res : St} (hR : RetOK Γ none res) (k2 : St → Option (St)) (hk : ∀ (z : St), k2 z = some res → WW Γ 38 [none] [] z) : ∀ (n3 : Nat) (σ1 : St), f_X3_skipBlanks_0 k2 n3 σ1 = some res → WW Γ 0 [some (.ref 3)] [] σ1 := by
  intro n3
  induction n3 with
  | zero =>
    intro σ1 hf
    cases hf
  | succ n3 ih =>
    intro σ1 hf
    unfold f_X3_skipBlanks_0 at hf
    refine s_aload_n G dX3_skipBlanks_0 rfl ?_
    refine s_getI (n := 0) G dX3_skipBlanks_1 lkF_X3_22 (by decide) rfl rfl ?_
    refine s_aload_n G dX3_skipBlanks_4 rfl ?_
    refine s_getI (n := 0) G dX3_skipBlanks_5 lkF_X3_18 (by decide) rfl rfl ?_
    refine s_icmp_ge (tgt := 38) G dX3_skipBlanks_8 (by decide) (fun c4 => ?_) (fun c4 => ?_)
    · replace hf := ifp c4 hf
      refine s_fgt [false] rfl ?_
      exact hk σ1 hf
    · replace hf := ifn c4 hf
      refine s_aload_n G dX3_skipBlanks_11 rfl ?_
      refine s_getR G dX3_skipBlanks_12 lkF_X3_9 (by decide) rfl rfl ?_
      refine s_aload_n G dX3_skipBlanks_15 rfl ?_
      refine s_getI (n := 0) G dX3_skipBlanks_16 lkF_X3_22 (by decide) rfl rfl ?_
      have h5 := chk_1 hf
      replace hf := chk_2 hf
      refine s_iald G dX3_skipBlanks_19 (by decide) rfl h5 ?_
      refine s_bipush G dX3_skipBlanks_20 (v := 32) (by decide) ?_
      refine s_icmp_ne (tgt := 38) G dX3_skipBlanks_22 (by decide) (fun c6 => ?_) (fun c6 => ?_)
      · replace hf := ifn c6 hf
        refine s_fgt [false] rfl ?_
        exact hk σ1 hf
      · replace hf := ifp c6 hf
        refine s_aload_n G dX3_skipBlanks_25 rfl ?_
        refine s_dup G dX3_skipBlanks_26 rfl ?_
        refine s_getI (n := 0) G dX3_skipBlanks_27 lkF_X3_22 (by decide) rfl rfl ?_
        refine s_iconst G dX3_skipBlanks_30 (v := 1) (by decide) ?_
        refine s_iadd G dX3_skipBlanks_31 ?_
        refine s_putI G dX3_skipBlanks_32 lkP_X3_22 (by decide) rfl rfl ?_
        refine s_st (fun σ7 eσ7 => ?_)
        replace hf := nm_at eσ7 hf
        refine s_goto (tgt := 0) G dX3_skipBlanks_35 (by decide) ?_
        exact ih σ7 hf
set_option maxRecDepth 100000 in
set_option maxHeartbeats 4000000 in
theorem c_X3_skipBlanks  {σ : St} {res : St} (hf : f_X3_skipBlanks σ = some res) : Mt mX3_skipBlanks [.ref 3] σ none res := by
  unfold f_X3_skipBlanks at hf
  refine mt_of (by decide) (Nat.le_of_ble_eq_true rfl) [some (.ref 3)] rfl (fun Γ G hR => ?_)
  have G : OK Γ RX3 cX3_skipBlanks 1 none 0 0 := G
  refine l_X3_skipBlanks_0 G hR _ (fun σ8 hf => ?_) 1000 σ hf
  replace hf := Option.some.inj hf
  subst hf
  exact s_vret G hR dX3_skipBlanks_38 rfl rfl
def f_X3_hasMore (σ : St) : Option (Int32 × St) :=
(f_X3_skipBlanks σ).bind (fun q1 =>
  if (q1.1 3 2) ≤ (q1.1 3 3) then
    (some ((0 : Int32), q1))
  else
    (some ((1 : Int32), q1)))
abbrev mX3_hasMore : Me := (yX3_hasMore, cX3_hasMore, 1, (some .boolean), 1, 20)
set_option maxRecDepth 100000 in
set_option maxHeartbeats 4000000 in
theorem c_X3_hasMore  {σ : St} {res : Int32 × St} (hf : f_X3_hasMore σ = some res) : Mt mX3_hasMore [.ref 3] σ (some (.int res.1)) res.2 := by
  unfold f_X3_hasMore at hf
  refine mt_of (by decide) (Nat.le_of_ble_eq_true rfl) [some (.ref 3)] rfl (fun Γ G hR => ?_)
  have G : OK Γ RX3 cX3_hasMore 1 (some .boolean) 1 20 := G
  refine s_aload_n G dX3_hasMore_0 rfl ?_
  obtain ⟨q1, hq1, hf⟩ := bnd hf
  refine s_callV G dX3_hasMore_1 (c_X3_skipBlanks hq1) lkM_X3_35 yk_X3_skipBlanks yv_X3_skipBlanks (by decide) rfl rfl _ [] rfl rfl rfl (Nat.le_of_ble_eq_true rfl) (by decide) ?_
  refine s_aload_n G dX3_hasMore_4 rfl ?_
  refine s_getI (n := 0) G dX3_hasMore_5 lkF_X3_22 (by decide) rfl rfl ?_
  refine s_aload_n G dX3_hasMore_8 rfl ?_
  refine s_getI (n := 0) G dX3_hasMore_9 lkF_X3_18 (by decide) rfl rfl ?_
  refine s_icmp_ge (tgt := 19) G dX3_hasMore_12 (by decide) (fun c2 => ?_) (fun c2 => ?_)
  · replace hf := ifp c2 hf
    refine s_iconst G dX3_hasMore_19 (v := 0) (by decide) ?_
    replace hf := Option.some.inj hf
    subst hf
    exact s_zret G hR dX3_hasMore_20 (by decide) rfl rfl
  · replace hf := ifn c2 hf
    refine s_iconst G dX3_hasMore_15 (v := 1) (by decide) ?_
    refine s_goto (tgt := 20) G dX3_hasMore_16 (by decide) ?_
    replace hf := Option.some.inj hf
    subst hf
    exact s_zret G hR dX3_hasMore_20 (by decide) rfl rfl
def f_X3_isLetter (a1 : Int32) (σ : St) : Option (Int32 × St) :=
(f_X5_within a1 (97 : Int32) (122 : Int32) σ).bind (fun q1 =>
  chk (decide (q1.1 = 0 ∨ q1.1 = 1)) (
  some (q1.1, q1.2)))
abbrev mX3_isLetter : Me := (yX3_isLetter, cX3_isLetter, 1, (some .boolean), 1, 22)
set_option maxRecDepth 100000 in
set_option maxHeartbeats 4000000 in
theorem c_X3_isLetter {a1 : Int32} {σ : St} {res : Int32 × St} (hf : f_X3_isLetter a1 σ = some res) : Mt mX3_isLetter [.int a1] σ (some (.int res.1)) res.2 := by
  unfold f_X3_isLetter at hf
  refine mt_of (by decide) (Nat.le_of_ble_eq_true rfl) [some (.int a1)] rfl (fun Γ G hR => ?_)
  have G : OK Γ RX3 cX3_isLetter 1 (some .boolean) 1 22 := G
  refine s_iload_n G dX3_isLetter_0 rfl ?_
  refine s_bipush G dX3_isLetter_1 (v := 97) (by decide) ?_
  refine s_bipush G dX3_isLetter_3 (v := 122) (by decide) ?_
  obtain ⟨q1, hq1, hf⟩ := bnd hf
  refine s_callS G dX3_isLetter_5 (c_X5_within hq1) lkM_X3_79 yk_X5_within ys_X5_within _ [] rfl rfl rfl (Nat.le_of_ble_eq_true rfl) (by decide) ?_
  have h2 := chk_1 hf
  replace hf := chk_2 hf
  replace hf := Option.some.inj hf
  subst hf
  exact s_zret G hR dX3_isLetter_8 h2 rfl rfl
def f_X3_wordOf (a1 : Int32) (σ : St) : Option (Nat × St) :=
if a1 = 0 then
    (some (0, σ))
  else (if a1 = 1 then
    (some (1, σ))
  else (if a1 = 2 then
    (some (2, σ))
  else (if a1 = 3 then
    (some (3, σ))
  else (if a1 = 4 then
    (some (4, σ))
  else (if a1 = 5 then
    (some (5, σ))
  else (if a1 = 6 then
    (some (6, σ))
  else (some (7, σ))))))))
abbrev mX3_wordOf : Me := (yX3_wordOf, cX3_wordOf, 1, (some (.object "java/lang/String")), 0, 0)
set_option maxRecDepth 100000 in
set_option maxHeartbeats 4000000 in
theorem c_X3_wordOf {a1 : Int32} {σ : St} {res : Nat × St} (hf : f_X3_wordOf a1 σ = some res) : Mt mX3_wordOf [.int a1] σ (some (.ref (200 + res.1))) res.2 := by
  unfold f_X3_wordOf at hf
  refine mt_of (by decide) (Nat.le_of_ble_eq_true rfl) [some (.int a1)] rfl (fun Γ G hR => ?_)
  have G : OK Γ RX3 cX3_wordOf 1 (some (.object "java/lang/String")) 0 0 := G
  refine s_iload_n G dX3_wordOf_0 rfl ?_
  by_cases c1 : a1 = 0
  · replace hf := ifp c1 hf
    refine s_tabIn (tgt := 44) G dX3_wordOf_1 (by rw [c1]; decide) (by rw [c1]; decide) (by rw [c1]; rfl) (by decide) ?_
    refine s_ldcS (i := 0) G dX3_wordOf_44 (by decide) rfl ?_
    replace hf := Option.some.inj hf
    subst hf
    exact s_aret G hR dX3_wordOf_46 rfl rfl
  replace hf := ifn c1 hf
  by_cases c2 : a1 = 1
  · replace hf := ifp c2 hf
    refine s_tabIn (tgt := 47) G dX3_wordOf_1 (by rw [c2]; decide) (by rw [c2]; decide) (by rw [c2]; rfl) (by decide) ?_
    refine s_ldcS (i := 1) G dX3_wordOf_47 (by decide) rfl ?_
    replace hf := Option.some.inj hf
    subst hf
    exact s_aret G hR dX3_wordOf_49 rfl rfl
  replace hf := ifn c2 hf
  by_cases c3 : a1 = 2
  · replace hf := ifp c3 hf
    refine s_tabIn (tgt := 50) G dX3_wordOf_1 (by rw [c3]; decide) (by rw [c3]; decide) (by rw [c3]; rfl) (by decide) ?_
    refine s_ldcS (i := 2) G dX3_wordOf_50 (by decide) rfl ?_
    replace hf := Option.some.inj hf
    subst hf
    exact s_aret G hR dX3_wordOf_52 rfl rfl
  replace hf := ifn c3 hf
  by_cases c4 : a1 = 3
  · replace hf := ifp c4 hf
    refine s_tabIn (tgt := 53) G dX3_wordOf_1 (by rw [c4]; decide) (by rw [c4]; decide) (by rw [c4]; rfl) (by decide) ?_
    refine s_ldcS (i := 3) G dX3_wordOf_53 (by decide) rfl ?_
    replace hf := Option.some.inj hf
    subst hf
    exact s_aret G hR dX3_wordOf_55 rfl rfl
  replace hf := ifn c4 hf
  by_cases c5 : a1 = 4
  · replace hf := ifp c5 hf
    refine s_tabIn (tgt := 56) G dX3_wordOf_1 (by rw [c5]; decide) (by rw [c5]; decide) (by rw [c5]; rfl) (by decide) ?_
    refine s_ldcS (i := 4) G dX3_wordOf_56 (by decide) rfl ?_
    replace hf := Option.some.inj hf
    subst hf
    exact s_aret G hR dX3_wordOf_58 rfl rfl
  replace hf := ifn c5 hf
  by_cases c6 : a1 = 5
  · replace hf := ifp c6 hf
    refine s_tabIn (tgt := 59) G dX3_wordOf_1 (by rw [c6]; decide) (by rw [c6]; decide) (by rw [c6]; rfl) (by decide) ?_
    refine s_ldcS (i := 5) G dX3_wordOf_59 (by decide) rfl ?_
    replace hf := Option.some.inj hf
    subst hf
    exact s_aret G hR dX3_wordOf_61 rfl rfl
  replace hf := ifn c6 hf
  by_cases c7 : a1 = 6
  · replace hf := ifp c7 hf
    refine s_tabIn (tgt := 62) G dX3_wordOf_1 (by rw [c7]; decide) (by rw [c7]; decide) (by rw [c7]; rfl) (by decide) ?_
    refine s_ldcS (i := 6) G dX3_wordOf_62 (by decide) rfl ?_
    replace hf := Option.some.inj hf
    subst hf
    exact s_aret G hR dX3_wordOf_64 rfl rfl
  replace hf := ifn c7 hf
  refine s_tabOut (tgt := 65) G dX3_wordOf_1 (tab_out 6 (by decide) (by intro k hk; match k, hk with | 0, _ => exact c1 | 1, _ => exact c2 | 2, _ => exact c3 | 3, _ => exact c4 | 4, _ => exact c5 | 5, _ => exact c6 | 6, _ => exact c7)) (by decide) ?_
  refine s_ldcS (i := 7) G dX3_wordOf_65 (by decide) rfl ?_
  replace hf := Option.some.inj hf
  subst hf
  exact s_aret G hR dX3_wordOf_67 rfl rfl
def f_X3_isWord_17 (w : Nat) (k4 : St → Option (Int32 × St)) : Nat → Int32 → St → Option (Int32 × St)
  | 0, _, _ => none
  | n5 + 1, x2, σ3 =>
    if (nI (lenS.getD w 0)) ≤ x2 then
      (k4 σ3)
    else
      (chk (ib ((σ3.1 3 3) + x2) 120) (
      chk (ib x2 (lenS.getD w 0)) (
      if (σ3.1 4 ((σ3.1 3 3) + x2).toNatClampNeg) = ((bytS.getD w []).getD x2.toNatClampNeg 0) then
        (f_X3_isWord_17 w k4 n5 (x2 + 1) σ3)
      else
        (some ((0 : Int32), σ3)))))
def f_X3_isWord (w : Nat) (a2 : Int32) (σ : St) : Option (Int32 × St) :=
if (a2 - (σ.1 3 3)) = (nI (lenS.getD w 0)) then
    (f_X3_isWord_17 w (fun (σ10 : St) =>
      some ((1 : Int32), σ10)) 1000 (0 : Int32) σ)
  else
    (some ((0 : Int32), σ))
abbrev mX3_isWord : Me := (yX3_isWord, cX3_isWord, 4, (some .boolean), 5, 181)
set_option maxRecDepth 100000 in
set_option maxHeartbeats 4000000 in
theorem l_X3_isWord_17 {Γ : Cxt} (G : OK Γ RX3 cX3_isWord 4 (some .boolean) 5 181) {res : Int32 × St} (hR : RetOK Γ (some (.int res.1)) res.2) (w : Nat) (hw : w < 8) (k4 : St → Option (Int32 × St)) (hk : ∀ (z : St), k4 z = some res → WW Γ 52 [none, none, none, none] [] z) : ∀ (n5 : Nat) (x2 : Int32) (σ3 : St), f_X3_isWord_17 w k4 n5 x2 σ3 = some res → WW Γ 17 [some (.ref 3), some (.ref (200 + w)), none, some (.int x2)] [] σ3 := by
  intro n5
  induction n5 with
  | zero =>
    intro x2 σ3 hf
    cases hf
  | succ n5 ih =>
    intro x2 σ3 hf
    unfold f_X3_isWord_17 at hf
    refine s_iload_n G dX3_isWord_17 rfl ?_
    refine s_aload_n G dX3_isWord_18 rfl ?_
    refine s_slen G dX3_isWord_19 hw (Nat.le_of_ble_eq_true rfl) (by decide) ?_
    refine s_icmp_ge (tgt := 52) G dX3_isWord_22 (by decide) (fun c6 => ?_) (fun c6 => ?_)
    · replace hf := ifp c6 hf
      refine s_fgt [false, false, true, false] rfl ?_
      exact hk σ3 hf
    · replace hf := ifn c6 hf
      refine s_aload_n G dX3_isWord_25 rfl ?_
      refine s_getR G dX3_isWord_26 lkF_X3_9 (by decide) rfl rfl ?_
      refine s_aload_n G dX3_isWord_29 rfl ?_
      refine s_getI (n := 0) G dX3_isWord_30 lkF_X3_22 (by decide) rfl rfl ?_
      refine s_iload_n G dX3_isWord_33 rfl ?_
      refine s_iadd G dX3_isWord_34 ?_
      have h7 := chk_1 hf
      replace hf := chk_2 hf
      refine s_iald G dX3_isWord_35 (by decide) rfl h7 ?_
      refine s_aload_n G dX3_isWord_36 rfl ?_
      refine s_iload_n G dX3_isWord_37 rfl ?_
      have h8 := chk_1 hf
      replace hf := chk_2 hf
      refine s_schar G dX3_isWord_38 hw h8 (Nat.le_of_ble_eq_true rfl) (by decide) ?_
      refine s_icmp_eq (tgt := 46) G dX3_isWord_41 (by decide) (fun c9 => ?_) (fun c9 => ?_)
      · replace hf := ifp c9 hf
        refine s_iinc G dX3_isWord_46 rfl (v := (x2 + 1)) rfl (by decide) rfl rfl ?_
        refine s_goto (tgt := 17) G dX3_isWord_49 (by decide) ?_
        exact ih (x2 + 1) σ3 hf
      · replace hf := ifn c9 hf
        refine s_iconst G dX3_isWord_44 (v := 0) (by decide) ?_
        replace hf := Option.some.inj hf
        subst hf
        exact s_zret G hR dX3_isWord_45 (by decide) rfl rfl
set_option maxRecDepth 100000 in
set_option maxHeartbeats 4000000 in
theorem c_X3_isWord {w : Nat} {a2 : Int32} {σ : St} {res : Int32 × St} (hw : w < 8) (hf : f_X3_isWord w a2 σ = some res) : Mt mX3_isWord [.ref 3, .ref (200 + w), .int a2] σ (some (.int res.1)) res.2 := by
  unfold f_X3_isWord at hf
  refine mt_of (by decide) (Nat.le_of_ble_eq_true rfl) [some (.ref 3), some (.ref (200 + w)), some (.int a2), none] rfl (fun Γ G hR => ?_)
  have G : OK Γ RX3 cX3_isWord 4 (some .boolean) 5 181 := G
  refine s_iload_n G dX3_isWord_0 rfl ?_
  refine s_aload_n G dX3_isWord_1 rfl ?_
  refine s_getI (n := 0) G dX3_isWord_2 lkF_X3_22 (by decide) rfl rfl ?_
  refine s_isub G dX3_isWord_5 ?_
  refine s_aload_n G dX3_isWord_6 rfl ?_
  refine s_slen G dX3_isWord_7 hw (Nat.le_of_ble_eq_true rfl) (by decide) ?_
  refine s_icmp_eq (tgt := 15) G dX3_isWord_10 (by decide) (fun c1 => ?_) (fun c1 => ?_)
  · replace hf := ifp c1 hf
    refine s_iconst G dX3_isWord_15 (v := 0) (by decide) ?_
    refine s_istore_n G dX3_isWord_16 rfl (by decide) rfl rfl ?_
    refine s_fgt [true, true, false, true] rfl ?_
    refine l_X3_isWord_17 G hR w hw _ (fun σ10 hf => ?_) 1000 (0 : Int32) σ hf
    refine s_iconst G dX3_isWord_52 (v := 1) (by decide) ?_
    replace hf := Option.some.inj hf
    subst hf
    exact s_zret G hR dX3_isWord_53 (by decide) rfl rfl
  · replace hf := ifn c1 hf
    refine s_iconst G dX3_isWord_13 (v := 0) (by decide) ?_
    replace hf := Option.some.inj hf
    subst hf
    exact s_zret G hR dX3_isWord_14 (by decide) rfl rfl
def f_X3_readWord_5 (k4 : Int32 → St → Option (Int32 × St)) : Nat → Int32 → St → Option (Int32 × St)
  | 0, _, _ => none
  | n5 + 1, x2, σ3 =>
    if (σ3.1 3 2) ≤ x2 then
      (k4 x2 σ3)
    else
      (chk (ib x2 120) (
      (f_X3_isLetter (σ3.1 4 x2.toNatClampNeg) σ3).bind (fun q8 =>
      if q8.1 = 0 then
        (k4 x2 q8.2)
      else
        (f_X3_readWord_5 k4 n5 (x2 + 1) q8.2))))
def f_X3_readWord_33 (x10 : Int32) (k14 : St → Option (Int32 × St)) : Nat → Int32 → St → Option (Int32 × St)
  | 0, _, _ => none
  | n15 + 1, x12, σ13 =>
    if (8 : Int32) ≤ x12 then
      (k14 σ13)
    else
      ((f_X3_wordOf x12 σ13).bind (fun q17 =>
      chk (decide (q17.1 < 8)) (
      (f_X3_isWord q17.1 x10 q17.2).bind (fun q19 =>
      if q19.1 = 0 then
        (f_X3_readWord_33 x10 k14 n15 (x12 + 1) q19.2)
      else
        (nm (sI q19.2 3 4 x12) (fun σ21 : St =>
        nm (sI σ21 3 3 x10) (fun σ22 : St =>
        some ((1 : Int32), σ22))))))))
def f_X3_readWord (σ : St) : Option (Int32 × St) :=
nm (σ.1 3 3) (fun x1 : Int32 =>
  f_X3_readWord_5 (fun (x10 : Int32) (σ11 : St) =>
    f_X3_readWord_33 x10 (fun (σ23 : St) =>
      some ((0 : Int32), σ23)) 1000 (0 : Int32) σ11) 1000 x1 σ)
abbrev mX3_readWord : Me := (yX3_readWord, cX3_readWord, 3, (some .boolean), 6, 204)
set_option maxRecDepth 100000 in
set_option maxHeartbeats 4000000 in
theorem l_X3_readWord_5 {Γ : Cxt} (G : OK Γ RX3 cX3_readWord 3 (some .boolean) 6 204) {res : Int32 × St} (hR : RetOK Γ (some (.int res.1)) res.2) (k4 : Int32 → St → Option (Int32 × St)) (hk : ∀ (y1 : Int32) (z : St), k4 y1 z = some res → WW Γ 31 [some (.ref 3), some (.int y1), none] [] z) : ∀ (n5 : Nat) (x2 : Int32) (σ3 : St), f_X3_readWord_5 k4 n5 x2 σ3 = some res → WW Γ 5 [some (.ref 3), some (.int x2), none] [] σ3 := by
  intro n5
  induction n5 with
  | zero =>
    intro x2 σ3 hf
    cases hf
  | succ n5 ih =>
    intro x2 σ3 hf
    unfold f_X3_readWord_5 at hf
    refine s_iload_n G dX3_readWord_5 rfl ?_
    refine s_aload_n G dX3_readWord_6 rfl ?_
    refine s_getI (n := 0) G dX3_readWord_7 lkF_X3_18 (by decide) rfl rfl ?_
    refine s_icmp_ge (tgt := 31) G dX3_readWord_10 (by decide) (fun c6 => ?_) (fun c6 => ?_)
    · replace hf := ifp c6 hf
      exact hk x2 σ3 hf
    · replace hf := ifn c6 hf
      refine s_aload_n G dX3_readWord_13 rfl ?_
      refine s_getR G dX3_readWord_14 lkF_X3_9 (by decide) rfl rfl ?_
      refine s_iload_n G dX3_readWord_17 rfl ?_
      have h7 := chk_1 hf
      replace hf := chk_2 hf
      refine s_iald G dX3_readWord_18 (by decide) rfl h7 ?_
      obtain ⟨q8, hq8, hf⟩ := bnd hf
      refine s_callS G dX3_readWord_19 (c_X3_isLetter hq8) lkM_X3_56 yk_X3_isLetter ys_X3_isLetter _ [] rfl rfl rfl (Nat.le_of_ble_eq_true rfl) (by decide) ?_
      refine s_if_eq (tgt := 31) G dX3_readWord_22 (by decide) (fun c9 => ?_) (fun c9 => ?_)
      · replace hf := ifp c9 hf
        exact hk x2 q8.2 hf
      · replace hf := ifn c9 hf
        refine s_iinc G dX3_readWord_25 rfl (v := (x2 + 1)) rfl (by decide) rfl rfl ?_
        refine s_goto (tgt := 5) G dX3_readWord_28 (by decide) ?_
        exact ih (x2 + 1) q8.2 hf
set_option maxRecDepth 100000 in
set_option maxHeartbeats 4000000 in
theorem l_X3_readWord_33 {Γ : Cxt} (G : OK Γ RX3 cX3_readWord 3 (some .boolean) 6 204) {res : Int32 × St} (hR : RetOK Γ (some (.int res.1)) res.2) (x10 : Int32) (k14 : St → Option (Int32 × St)) (hk : ∀ (z : St), k14 z = some res → WW Γ 69 [none, none, none] [] z) : ∀ (n15 : Nat) (x12 : Int32) (σ13 : St), f_X3_readWord_33 x10 k14 n15 x12 σ13 = some res → WW Γ 33 [some (.ref 3), some (.int x10), some (.int x12)] [] σ13 := by
  intro n15
  induction n15 with
  | zero =>
    intro x12 σ13 hf
    cases hf
  | succ n15 ih =>
    intro x12 σ13 hf
    unfold f_X3_readWord_33 at hf
    refine s_iload_n G dX3_readWord_33 rfl ?_
    refine s_bipush G dX3_readWord_34 (v := 8) (by decide) ?_
    refine s_icmp_ge (tgt := 69) G dX3_readWord_36 (by decide) (fun c16 => ?_) (fun c16 => ?_)
    · replace hf := ifp c16 hf
      refine s_fgt [false, false, false] rfl ?_
      exact hk σ13 hf
    · replace hf := ifn c16 hf
      refine s_aload_n G dX3_readWord_39 rfl ?_
      refine s_iload_n G dX3_readWord_40 rfl ?_
      obtain ⟨q17, hq17, hf⟩ := bnd hf
      refine s_callS G dX3_readWord_41 (c_X3_wordOf hq17) lkM_X3_59 yk_X3_wordOf ys_X3_wordOf _ [.ref 3] rfl rfl rfl (Nat.le_of_ble_eq_true rfl) (by decide) ?_
      have h18 := of_decide_eq_true (chk_1 hf)
      replace hf := chk_2 hf
      refine s_iload_n G dX3_readWord_44 rfl ?_
      obtain ⟨q19, hq19, hf⟩ := bnd hf
      refine s_callV G dX3_readWord_45 (c_X3_isWord h18 hq19) lkM_X3_63 yk_X3_isWord yv_X3_isWord (by decide) rfl rfl _ [] rfl rfl rfl (Nat.le_of_ble_eq_true rfl) (by decide) ?_
      refine s_if_eq (tgt := 63) G dX3_readWord_48 (by decide) (fun c20 => ?_) (fun c20 => ?_)
      · replace hf := ifp c20 hf
        refine s_iinc G dX3_readWord_63 rfl (v := (x12 + 1)) rfl (by decide) rfl rfl ?_
        refine s_goto (tgt := 33) G dX3_readWord_66 (by decide) ?_
        exact ih (x12 + 1) q19.2 hf
      · replace hf := ifn c20 hf
        refine s_aload_n G dX3_readWord_51 rfl ?_
        refine s_iload_n G dX3_readWord_52 rfl ?_
        refine s_putI G dX3_readWord_53 lkP_X3_41 (by decide) rfl rfl ?_
        refine s_st (fun σ21 eσ21 => ?_)
        replace hf := nm_at eσ21 hf
        refine s_aload_n G dX3_readWord_56 rfl ?_
        refine s_iload_n G dX3_readWord_57 rfl ?_
        refine s_putI G dX3_readWord_58 lkP_X3_22 (by decide) rfl rfl ?_
        refine s_st (fun σ22 eσ22 => ?_)
        replace hf := nm_at eσ22 hf
        refine s_iconst G dX3_readWord_61 (v := 1) (by decide) ?_
        replace hf := Option.some.inj hf
        subst hf
        exact s_zret G hR dX3_readWord_62 (by decide) rfl rfl
set_option maxRecDepth 100000 in
set_option maxHeartbeats 4000000 in
theorem c_X3_readWord  {σ : St} {res : Int32 × St} (hf : f_X3_readWord σ = some res) : Mt mX3_readWord [.ref 3] σ (some (.int res.1)) res.2 := by
  unfold f_X3_readWord at hf
  refine mt_of (by decide) (Nat.le_of_ble_eq_true rfl) [some (.ref 3), none, none] rfl (fun Γ G hR => ?_)
  have G : OK Γ RX3 cX3_readWord 3 (some .boolean) 6 204 := G
  refine s_aload_n G dX3_readWord_0 rfl ?_
  refine s_getI (n := 0) G dX3_readWord_1 lkF_X3_22 (by decide) rfl rfl ?_
  refine s_topi (fun x1 ex1 => ?_)
  replace hf := nm_at ex1 hf
  refine s_istore_n G dX3_readWord_4 rfl (by decide) rfl rfl ?_
  refine l_X3_readWord_5 G hR _ (fun x10 σ11 hf => ?_) 1000 x1 σ hf
  refine s_iconst G dX3_readWord_31 (v := 0) (by decide) ?_
  refine s_istore_n G dX3_readWord_32 rfl (by decide) rfl rfl ?_
  refine l_X3_readWord_33 G hR x10 _ (fun σ23 hf => ?_) 1000 (0 : Int32) σ11 hf
  refine s_iconst G dX3_readWord_69 (v := 0) (by decide) ?_
  replace hf := Option.some.inj hf
  subst hf
  exact s_zret G hR dX3_readWord_70 (by decide) rfl rfl
def f_X3_numbersOf (a1 : Int32) (σ : St) : Option (Int32 × St) :=
if a1 = 0 then
    (some ((2 : Int32), σ))
  else (if a1 = 1 then
    (some ((4 : Int32), σ))
  else (if a1 = 2 then
    (some ((1 : Int32), σ))
  else (if a1 = 3 then
    (some ((1 : Int32), σ))
  else (if a1 = 4 then
    (some ((2 : Int32), σ))
  else (if a1 = 5 then
    (some ((2 : Int32), σ))
  else (some ((1 : Int32), σ)))))))
abbrev mX3_numbersOf : Me := (yX3_numbersOf, cX3_numbersOf, 1, (some .int), 0, 0)
set_option maxRecDepth 100000 in
set_option maxHeartbeats 4000000 in
theorem c_X3_numbersOf {a1 : Int32} {σ : St} {res : Int32 × St} (hf : f_X3_numbersOf a1 σ = some res) : Mt mX3_numbersOf [.int a1] σ (some (.int res.1)) res.2 := by
  unfold f_X3_numbersOf at hf
  refine mt_of (by decide) (Nat.le_of_ble_eq_true rfl) [some (.int a1)] rfl (fun Γ G hR => ?_)
  have G : OK Γ RX3 cX3_numbersOf 1 (some .int) 0 0 := G
  refine s_iload_n G dX3_numbersOf_0 rfl ?_
  by_cases c1 : a1 = 0
  · replace hf := ifp c1 hf
    refine s_tabIn (tgt := 42) G dX3_numbersOf_1 (by rw [c1]; decide) (by rw [c1]; decide) (by rw [c1]; rfl) (by decide) ?_
    refine s_iconst G dX3_numbersOf_42 (v := 2) (by decide) ?_
    replace hf := Option.some.inj hf
    subst hf
    exact s_iret G hR dX3_numbersOf_43 rfl rfl
  replace hf := ifn c1 hf
  by_cases c2 : a1 = 1
  · replace hf := ifp c2 hf
    refine s_tabIn (tgt := 40) G dX3_numbersOf_1 (by rw [c2]; decide) (by rw [c2]; decide) (by rw [c2]; rfl) (by decide) ?_
    refine s_iconst G dX3_numbersOf_40 (v := 4) (by decide) ?_
    replace hf := Option.some.inj hf
    subst hf
    exact s_iret G hR dX3_numbersOf_41 rfl rfl
  replace hf := ifn c2 hf
  by_cases c3 : a1 = 2
  · replace hf := ifp c3 hf
    refine s_tabIn (tgt := 44) G dX3_numbersOf_1 (by rw [c3]; decide) (by rw [c3]; decide) (by rw [c3]; rfl) (by decide) ?_
    refine s_iconst G dX3_numbersOf_44 (v := 1) (by decide) ?_
    replace hf := Option.some.inj hf
    subst hf
    exact s_iret G hR dX3_numbersOf_45 rfl rfl
  replace hf := ifn c3 hf
  by_cases c4 : a1 = 3
  · replace hf := ifp c4 hf
    refine s_tabIn (tgt := 44) G dX3_numbersOf_1 (by rw [c4]; decide) (by rw [c4]; decide) (by rw [c4]; rfl) (by decide) ?_
    refine s_iconst G dX3_numbersOf_44 (v := 1) (by decide) ?_
    replace hf := Option.some.inj hf
    subst hf
    exact s_iret G hR dX3_numbersOf_45 rfl rfl
  replace hf := ifn c4 hf
  by_cases c5 : a1 = 4
  · replace hf := ifp c5 hf
    refine s_tabIn (tgt := 42) G dX3_numbersOf_1 (by rw [c5]; decide) (by rw [c5]; decide) (by rw [c5]; rfl) (by decide) ?_
    refine s_iconst G dX3_numbersOf_42 (v := 2) (by decide) ?_
    replace hf := Option.some.inj hf
    subst hf
    exact s_iret G hR dX3_numbersOf_43 rfl rfl
  replace hf := ifn c5 hf
  by_cases c6 : a1 = 5
  · replace hf := ifp c6 hf
    refine s_tabIn (tgt := 42) G dX3_numbersOf_1 (by rw [c6]; decide) (by rw [c6]; decide) (by rw [c6]; rfl) (by decide) ?_
    refine s_iconst G dX3_numbersOf_42 (v := 2) (by decide) ?_
    replace hf := Option.some.inj hf
    subst hf
    exact s_iret G hR dX3_numbersOf_43 rfl rfl
  replace hf := ifn c6 hf
  refine s_tabOut (tgt := 44) G dX3_numbersOf_1 (tab_out 5 (by decide) (by intro k hk; match k, hk with | 0, _ => exact c1 | 1, _ => exact c2 | 2, _ => exact c3 | 3, _ => exact c4 | 4, _ => exact c5 | 5, _ => exact c6)) (by decide) ?_
  refine s_iconst G dX3_numbersOf_44 (v := 1) (by decide) ?_
  replace hf := Option.some.inj hf
  subst hf
  exact s_iret G hR dX3_numbersOf_45 rfl rfl
def f_X3_sees (a1 : Int32) (σ : St) : Option (Int32 × St) :=
if (σ.1 3 2) ≤ (σ.1 3 3) then
    (some ((0 : Int32), σ))
  else
    (chk (ib (σ.1 3 3) 120) (
    if (σ.1 4 (σ.1 3 3).toNatClampNeg) = a1 then
      (some ((1 : Int32), σ))
    else
      (some ((0 : Int32), σ))))
abbrev mX3_sees : Me := (yX3_sees, cX3_sees, 2, (some .boolean), 0, 0)
set_option maxRecDepth 100000 in
set_option maxHeartbeats 4000000 in
theorem c_X3_sees {a1 : Int32} {σ : St} {res : Int32 × St} (hf : f_X3_sees a1 σ = some res) : Mt mX3_sees [.ref 3, .int a1] σ (some (.int res.1)) res.2 := by
  unfold f_X3_sees at hf
  refine mt_of (by decide) (Nat.le_of_ble_eq_true rfl) [some (.ref 3), some (.int a1)] rfl (fun Γ G hR => ?_)
  have G : OK Γ RX3 cX3_sees 2 (some .boolean) 0 0 := G
  refine s_aload_n G dX3_sees_0 rfl ?_
  refine s_getI (n := 0) G dX3_sees_1 lkF_X3_22 (by decide) rfl rfl ?_
  refine s_aload_n G dX3_sees_4 rfl ?_
  refine s_getI (n := 0) G dX3_sees_5 lkF_X3_18 (by decide) rfl rfl ?_
  refine s_icmp_ge (tgt := 28) G dX3_sees_8 (by decide) (fun c1 => ?_) (fun c1 => ?_)
  · replace hf := ifp c1 hf
    refine s_iconst G dX3_sees_28 (v := 0) (by decide) ?_
    replace hf := Option.some.inj hf
    subst hf
    exact s_zret G hR dX3_sees_29 (by decide) rfl rfl
  · replace hf := ifn c1 hf
    refine s_aload_n G dX3_sees_11 rfl ?_
    refine s_getR G dX3_sees_12 lkF_X3_9 (by decide) rfl rfl ?_
    refine s_aload_n G dX3_sees_15 rfl ?_
    refine s_getI (n := 0) G dX3_sees_16 lkF_X3_22 (by decide) rfl rfl ?_
    have h2 := chk_1 hf
    replace hf := chk_2 hf
    refine s_iald G dX3_sees_19 (by decide) rfl h2 ?_
    refine s_iload_n G dX3_sees_20 rfl ?_
    refine s_icmp_ne (tgt := 28) G dX3_sees_21 (by decide) (fun c3 => ?_) (fun c3 => ?_)
    · replace hf := ifn c3 hf
      refine s_iconst G dX3_sees_28 (v := 0) (by decide) ?_
      replace hf := Option.some.inj hf
      subst hf
      exact s_zret G hR dX3_sees_29 (by decide) rfl rfl
    · replace hf := ifp c3 hf
      refine s_iconst G dX3_sees_24 (v := 1) (by decide) ?_
      refine s_goto (tgt := 29) G dX3_sees_25 (by decide) ?_
      replace hf := Option.some.inj hf
      subst hf
      exact s_zret G hR dX3_sees_29 (by decide) rfl rfl
def f_X3_seesDigit (σ : St) : Option (Int32 × St) :=
if (σ.1 3 2) ≤ (σ.1 3 3) then
    (some ((0 : Int32), σ))
  else
    (chk (ib (σ.1 3 3) 120) (
    (f_X5_within (σ.1 4 (σ.1 3 3).toNatClampNeg) (48 : Int32) (57 : Int32) σ).bind (fun q3 =>
    if q3.1 = 0 then
      (some ((0 : Int32), q3.2))
    else
      (some ((1 : Int32), q3.2)))))
abbrev mX3_seesDigit : Me := (yX3_seesDigit, cX3_seesDigit, 1, (some .boolean), 1, 22)
set_option maxRecDepth 100000 in
set_option maxHeartbeats 4000000 in
theorem c_X3_seesDigit  {σ : St} {res : Int32 × St} (hf : f_X3_seesDigit σ = some res) : Mt mX3_seesDigit [.ref 3] σ (some (.int res.1)) res.2 := by
  unfold f_X3_seesDigit at hf
  refine mt_of (by decide) (Nat.le_of_ble_eq_true rfl) [some (.ref 3)] rfl (fun Γ G hR => ?_)
  have G : OK Γ RX3 cX3_seesDigit 1 (some .boolean) 1 22 := G
  refine s_aload_n G dX3_seesDigit_0 rfl ?_
  refine s_getI (n := 0) G dX3_seesDigit_1 lkF_X3_22 (by decide) rfl rfl ?_
  refine s_aload_n G dX3_seesDigit_4 rfl ?_
  refine s_getI (n := 0) G dX3_seesDigit_5 lkF_X3_18 (by decide) rfl rfl ?_
  refine s_icmp_ge (tgt := 34) G dX3_seesDigit_8 (by decide) (fun c1 => ?_) (fun c1 => ?_)
  · replace hf := ifp c1 hf
    refine s_iconst G dX3_seesDigit_34 (v := 0) (by decide) ?_
    replace hf := Option.some.inj hf
    subst hf
    exact s_zret G hR dX3_seesDigit_35 (by decide) rfl rfl
  · replace hf := ifn c1 hf
    refine s_aload_n G dX3_seesDigit_11 rfl ?_
    refine s_getR G dX3_seesDigit_12 lkF_X3_9 (by decide) rfl rfl ?_
    refine s_aload_n G dX3_seesDigit_15 rfl ?_
    refine s_getI (n := 0) G dX3_seesDigit_16 lkF_X3_22 (by decide) rfl rfl ?_
    have h2 := chk_1 hf
    replace hf := chk_2 hf
    refine s_iald G dX3_seesDigit_19 (by decide) rfl h2 ?_
    refine s_bipush G dX3_seesDigit_20 (v := 48) (by decide) ?_
    refine s_bipush G dX3_seesDigit_22 (v := 57) (by decide) ?_
    obtain ⟨q3, hq3, hf⟩ := bnd hf
    refine s_callS G dX3_seesDigit_24 (c_X5_within hq3) lkM_X3_79 yk_X5_within ys_X5_within _ [] rfl rfl rfl (Nat.le_of_ble_eq_true rfl) (by decide) ?_
    refine s_if_eq (tgt := 34) G dX3_seesDigit_27 (by decide) (fun c4 => ?_) (fun c4 => ?_)
    · replace hf := ifp c4 hf
      refine s_iconst G dX3_seesDigit_34 (v := 0) (by decide) ?_
      replace hf := Option.some.inj hf
      subst hf
      exact s_zret G hR dX3_seesDigit_35 (by decide) rfl rfl
    · replace hf := ifn c4 hf
      refine s_iconst G dX3_seesDigit_30 (v := 1) (by decide) ?_
      refine s_goto (tgt := 35) G dX3_seesDigit_31 (by decide) ?_
      replace hf := Option.some.inj hf
      subst hf
      exact s_zret G hR dX3_seesDigit_35 (by decide) rfl rfl
def f_X3_readNumber_52 (a1 : Int32) (q2 : Int32 × St) (k11 : Int32 → St → Option (Int32 × St)) : Nat → Int32 → Int32 → St → Option (Int32 × St)
  | 0, _, _, _ => none
  | n12 + 1, x8, x9, σ10 =>
    if (3 : Int32) ≤ x9 then
      (k11 x8 σ10)
    else
      ((f_X3_seesDigit σ10).bind (fun q14 =>
      if q14.1 = 0 then
        (k11 x8 q14.2)
      else
        (chk (ib (q14.2.1 3 3) 120) (
        nm (((x8 * (10 : Int32)) + (q14.2.1 4 (q14.2.1 3 3).toNatClampNeg)) - (48 : Int32)) (fun x17 : Int32 =>
        nm (sI q14.2 3 3 ((q14.2.1 3 3) + (1 : Int32))) (fun σ18 : St =>
        f_X3_readNumber_52 a1 q2 k11 n12 x17 (x9 + 1) σ18))))))
def f_X3_readNumber (a1 : Int32) (a2 : Int32) (σ : St) : Option (Int32 × St) :=
(f_X3_skipBlanks σ).bind (fun q1 =>
  jn (fun q2 : Int32 × St =>
    (jn (fun q4 : St =>
      ((f_X3_seesDigit q4).bind (fun q6 =>
      if q6.1 = 0 then
        (some ((0 : Int32), q6.2))
      else
        (f_X3_readNumber_52 a1 q2 (fun (x19 : Int32) (σ20 : St) =>
          jn (fun q21 : Int32 × St =>
            (chk (ib a1 4) (
            nm (sI q21.2 5 a1.toNatClampNeg q21.1) (fun σ24 : St =>
            (f_X3_seesDigit σ24).bind (fun q25 =>
            if q25.1 = 0 then
              (some ((1 : Int32), q25.2))
            else
              (some ((0 : Int32), q25.2))))))) (fun j22 =>
            if q2.1 = 0 then
              (j22 (x19, σ20))
            else
              (j22 ((-x19), σ20)))) 1000 (0 : Int32) (0 : Int32) q6.2)))) (fun j5 =>
      if q2.1 = 0 then
        (j5 q2.2)
      else
        (nm (sI q2.2 3 3 ((q2.2.1 3 3) + (1 : Int32))) (fun σ29 : St =>
        j5 σ29))))) (fun j3 =>
    if a2 = 0 then
      (j3 ((0 : Int32), q1))
    else
      ((f_X3_sees (45 : Int32) q1).bind (fun q31 =>
      if q31.1 = 0 then
        (j3 ((0 : Int32), q31.2))
      else
        (j3 ((1 : Int32), q31.2))))))
abbrev mX3_readNumber : Me := (yX3_readNumber, cX3_readNumber, 6, (some .boolean), 2, 42)
set_option maxRecDepth 100000 in
set_option maxHeartbeats 4000000 in
theorem l_X3_readNumber_52 {Γ : Cxt} (G : OK Γ RX3 cX3_readNumber 6 (some .boolean) 2 42) {res : Int32 × St} (hR : RetOK Γ (some (.int res.1)) res.2) (a1 : Int32) (q2 : Int32 × St) (k11 : Int32 → St → Option (Int32 × St)) (hk : ∀ (y4 : Int32) (z : St), k11 y4 z = some res → WW Γ 101 [some (.ref 3), some (.int a1), none, some (.int q2.1), some (.int y4), none] [] z) : ∀ (n12 : Nat) (x8 : Int32) (x9 : Int32) (σ10 : St), f_X3_readNumber_52 a1 q2 k11 n12 x8 x9 σ10 = some res → WW Γ 52 [some (.ref 3), some (.int a1), none, some (.int q2.1), some (.int x8), some (.int x9)] [] σ10 := by
  intro n12
  induction n12 with
  | zero =>
    intro x8 x9 σ10 hf
    cases hf
  | succ n12 ih =>
    intro x8 x9 σ10 hf
    unfold f_X3_readNumber_52 at hf
    refine s_iload G dX3_readNumber_52 rfl ?_
    refine s_iconst G dX3_readNumber_54 (v := 3) (by decide) ?_
    refine s_icmp_ge (tgt := 101) G dX3_readNumber_55 (by decide) (fun c13 => ?_) (fun c13 => ?_)
    · replace hf := ifp c13 hf
      refine s_fgt [true, true, true, true, true, false] rfl ?_
      exact hk x8 σ10 hf
    · replace hf := ifn c13 hf
      refine s_aload_n G dX3_readNumber_58 rfl ?_
      obtain ⟨q14, hq14, hf⟩ := bnd hf
      refine s_callV G dX3_readNumber_59 (c_X3_seesDigit hq14) lkM_X3_76 yk_X3_seesDigit yv_X3_seesDigit (by decide) rfl rfl _ [] rfl rfl rfl (Nat.le_of_ble_eq_true rfl) (by decide) ?_
      refine s_if_eq (tgt := 101) G dX3_readNumber_62 (by decide) (fun c15 => ?_) (fun c15 => ?_)
      · replace hf := ifp c15 hf
        refine s_fgt [true, true, true, true, true, false] rfl ?_
        exact hk x8 q14.2 hf
      · replace hf := ifn c15 hf
        refine s_iload G dX3_readNumber_65 rfl ?_
        refine s_bipush G dX3_readNumber_67 (v := 10) (by decide) ?_
        refine s_imul G dX3_readNumber_69 ?_
        refine s_aload_n G dX3_readNumber_70 rfl ?_
        refine s_getR G dX3_readNumber_71 lkF_X3_9 (by decide) rfl rfl ?_
        refine s_aload_n G dX3_readNumber_74 rfl ?_
        refine s_getI (n := 0) G dX3_readNumber_75 lkF_X3_22 (by decide) rfl rfl ?_
        have h16 := chk_1 hf
        replace hf := chk_2 hf
        refine s_iald G dX3_readNumber_78 (by decide) rfl h16 ?_
        refine s_iadd G dX3_readNumber_79 ?_
        refine s_bipush G dX3_readNumber_80 (v := 48) (by decide) ?_
        refine s_isub G dX3_readNumber_82 ?_
        refine s_topi (fun x17 ex17 => ?_)
        replace hf := nm_at ex17 hf
        refine s_istore G dX3_readNumber_83 (by decide) rfl rfl ?_
        refine s_aload_n G dX3_readNumber_85 rfl ?_
        refine s_dup G dX3_readNumber_86 rfl ?_
        refine s_getI (n := 0) G dX3_readNumber_87 lkF_X3_22 (by decide) rfl rfl ?_
        refine s_iconst G dX3_readNumber_90 (v := 1) (by decide) ?_
        refine s_iadd G dX3_readNumber_91 ?_
        refine s_putI G dX3_readNumber_92 lkP_X3_22 (by decide) rfl rfl ?_
        refine s_st (fun σ18 eσ18 => ?_)
        replace hf := nm_at eσ18 hf
        refine s_iinc G dX3_readNumber_95 rfl (v := (x9 + 1)) rfl (by decide) rfl rfl ?_
        refine s_goto (tgt := 52) G dX3_readNumber_98 (by decide) ?_
        exact ih x17 (x9 + 1) σ18 hf
set_option maxRecDepth 100000 in
set_option maxHeartbeats 4000000 in
theorem c_X3_readNumber {a1 : Int32} {a2 : Int32} {σ : St} {res : Int32 × St} (hf : f_X3_readNumber a1 a2 σ = some res) : Mt mX3_readNumber [.ref 3, .int a1, .int a2] σ (some (.int res.1)) res.2 := by
  unfold f_X3_readNumber at hf
  refine mt_of (by decide) (Nat.le_of_ble_eq_true rfl) [some (.ref 3), some (.int a1), some (.int a2), none, none, none] rfl (fun Γ G hR => ?_)
  have G : OK Γ RX3 cX3_readNumber 6 (some .boolean) 2 42 := G
  refine s_aload_n G dX3_readNumber_0 rfl ?_
  obtain ⟨q1, hq1, hf⟩ := bnd hf
  refine s_callV G dX3_readNumber_1 (c_X3_skipBlanks hq1) lkM_X3_35 yk_X3_skipBlanks yv_X3_skipBlanks (by decide) rfl rfl _ [] rfl rfl rfl (Nat.le_of_ble_eq_true rfl) (by decide) ?_
  refine s_iload_n G dX3_readNumber_4 rfl ?_
  refine jn_w (fun q2 : Int32 × St => WW Γ 22 [some (.ref 3), some (.int a1), none, none, none, none] [.int q2.1] q2.2) hf (fun q2 hf => ?_) (fun j3 hj3 hf => ?_)
  · refine s_istore_n G dX3_readNumber_22 rfl (by decide) rfl rfl ?_
    refine s_iload_n G dX3_readNumber_23 rfl ?_
    refine jn_w (fun q4 : St => WW Γ 37 [some (.ref 3), some (.int a1), none, some (.int q2.1), none, none] [] q4) hf (fun q4 hf => ?_) (fun j5 hj5 hf => ?_)
    · refine s_aload_n G dX3_readNumber_37 rfl ?_
      obtain ⟨q6, hq6, hf⟩ := bnd hf
      refine s_callV G dX3_readNumber_38 (c_X3_seesDigit hq6) lkM_X3_76 yk_X3_seesDigit yv_X3_seesDigit (by decide) rfl rfl _ [] rfl rfl rfl (Nat.le_of_ble_eq_true rfl) (by decide) ?_
      refine s_if_ne (tgt := 46) G dX3_readNumber_41 (by decide) (fun c7 => ?_) (fun c7 => ?_)
      · replace hf := ifn c7 hf
        refine s_iconst G dX3_readNumber_46 (v := 0) (by decide) ?_
        refine s_istore G dX3_readNumber_47 (by decide) rfl rfl ?_
        refine s_iconst G dX3_readNumber_49 (v := 0) (by decide) ?_
        refine s_istore G dX3_readNumber_50 (by decide) rfl rfl ?_
        refine l_X3_readNumber_52 G hR a1 q2 _ (fun x19 σ20 hf => ?_) 1000 (0 : Int32) (0 : Int32) q6.2 hf
        refine s_aload_n G dX3_readNumber_101 rfl ?_
        refine s_getR G dX3_readNumber_102 lkF_X3_15 (by decide) rfl rfl ?_
        refine s_iload_n G dX3_readNumber_105 rfl ?_
        refine s_iload_n G dX3_readNumber_106 rfl ?_
        refine jn_w (fun q21 : Int32 × St => WW Γ 118 [some (.ref 3), none, none, none, none, none] [.int q21.1, .int a1, .ref 5] q21.2) hf (fun q21 hf => ?_) (fun j22 hj22 hf => ?_)
        · have h23 := chk_1 hf
          replace hf := chk_2 hf
          refine s_iast G dX3_readNumber_118 (by decide) rfl h23 ?_
          refine s_st (fun σ24 eσ24 => ?_)
          replace hf := nm_at eσ24 hf
          refine s_aload_n G dX3_readNumber_119 rfl ?_
          obtain ⟨q25, hq25, hf⟩ := bnd hf
          refine s_callV G dX3_readNumber_120 (c_X3_seesDigit hq25) lkM_X3_76 yk_X3_seesDigit yv_X3_seesDigit (by decide) rfl rfl _ [] rfl rfl rfl (Nat.le_of_ble_eq_true rfl) (by decide) ?_
          refine s_if_ne (tgt := 130) G dX3_readNumber_123 (by decide) (fun c26 => ?_) (fun c26 => ?_)
          · replace hf := ifn c26 hf
            refine s_iconst G dX3_readNumber_130 (v := 0) (by decide) ?_
            replace hf := Option.some.inj hf
            subst hf
            exact s_zret G hR dX3_readNumber_131 (by decide) rfl rfl
          · replace hf := ifp c26 hf
            refine s_iconst G dX3_readNumber_126 (v := 1) (by decide) ?_
            refine s_goto (tgt := 131) G dX3_readNumber_127 (by decide) ?_
            replace hf := Option.some.inj hf
            subst hf
            exact s_zret G hR dX3_readNumber_131 (by decide) rfl rfl
        · refine s_if_eq (tgt := 116) G dX3_readNumber_107 (by decide) (fun c27 => ?_) (fun c27 => ?_)
          · replace hf := ifp c27 hf
            refine s_iload G dX3_readNumber_116 rfl ?_
            refine s_fgt [true, false, true, false, false, true] rfl ?_
            exact hj22 _ hf
          · replace hf := ifn c27 hf
            refine s_iload G dX3_readNumber_110 rfl ?_
            refine s_ineg G dX3_readNumber_112 ?_
            refine s_goto (tgt := 118) G dX3_readNumber_113 (by decide) ?_
            refine s_fgt [true, false, true, false, false, true] rfl ?_
            exact hj22 _ hf
      · replace hf := ifp c7 hf
        refine s_iconst G dX3_readNumber_44 (v := 0) (by decide) ?_
        replace hf := Option.some.inj hf
        subst hf
        exact s_zret G hR dX3_readNumber_45 (by decide) rfl rfl
    · refine s_if_eq (tgt := 37) G dX3_readNumber_24 (by decide) (fun c28 => ?_) (fun c28 => ?_)
      · replace hf := ifp c28 hf
        exact hj5 _ hf
      · replace hf := ifn c28 hf
        refine s_aload_n G dX3_readNumber_27 rfl ?_
        refine s_dup G dX3_readNumber_28 rfl ?_
        refine s_getI (n := 0) G dX3_readNumber_29 lkF_X3_22 (by decide) rfl rfl ?_
        refine s_iconst G dX3_readNumber_32 (v := 1) (by decide) ?_
        refine s_iadd G dX3_readNumber_33 ?_
        refine s_putI G dX3_readNumber_34 lkP_X3_22 (by decide) rfl rfl ?_
        refine s_st (fun σ29 eσ29 => ?_)
        replace hf := nm_at eσ29 hf
        exact hj5 _ hf
  · refine s_if_eq (tgt := 21) G dX3_readNumber_5 (by decide) (fun c30 => ?_) (fun c30 => ?_)
    · replace hf := ifp c30 hf
      refine s_iconst G dX3_readNumber_21 (v := 0) (by decide) ?_
      refine s_fgt [true, true, false, true, true, true] rfl ?_
      exact hj3 _ hf
    · replace hf := ifn c30 hf
      refine s_aload_n G dX3_readNumber_8 rfl ?_
      refine s_bipush G dX3_readNumber_9 (v := 45) (by decide) ?_
      obtain ⟨q31, hq31, hf⟩ := bnd hf
      refine s_callV G dX3_readNumber_11 (c_X3_sees hq31) lkM_X3_52 yk_X3_sees yv_X3_sees (by decide) rfl rfl _ [] rfl rfl rfl (Nat.le_of_ble_eq_true rfl) (by decide) ?_
      refine s_if_eq (tgt := 21) G dX3_readNumber_14 (by decide) (fun c32 => ?_) (fun c32 => ?_)
      · replace hf := ifp c32 hf
        refine s_iconst G dX3_readNumber_21 (v := 0) (by decide) ?_
        refine s_fgt [true, true, false, true, true, true] rfl ?_
        exact hj3 _ hf
      · replace hf := ifn c32 hf
        refine s_iconst G dX3_readNumber_17 (v := 1) (by decide) ?_
        refine s_goto (tgt := 22) G dX3_readNumber_18 (by decide) ?_
        refine s_fgt [true, true, false, true, true, true] rfl ?_
        exact hj3 _ hf
def f_X3_readCommand_19 (q3 : Int32 × St) (k6 : St → Option (Int32 × St)) : Nat → Int32 → St → Option (Int32 × St)
  | 0, _, _ => none
  | n7 + 1, x4, σ5 =>
    if q3.1 ≤ x4 then
      (k6 σ5)
    else
      (jn (fun q9 : Int32 × St =>
        ((f_X3_readNumber x4 q9.1 q9.2).bind (fun q11 =>
        if q11.1 = 0 then
          (some ((0 : Int32), q11.2))
        else
          (f_X3_readCommand_19 q3 k6 n7 (x4 + 1) q11.2)))) (fun j10 =>
        if (σ5.1 3 4) = 0 then
          (if x4 = (1 : Int32) then
            (j10 ((1 : Int32), σ5))
          else
            (j10 ((0 : Int32), σ5)))
        else
          (j10 ((0 : Int32), σ5))))
def f_X3_readCommand (σ : St) : Option (Int32 × St) :=
(f_X3_readWord σ).bind (fun q1 =>
  if q1.1 = 0 then
    (some ((0 : Int32), q1.2))
  else
    ((f_X3_numbersOf (q1.2.1 3 4) q1.2).bind (fun q3 =>
    f_X3_readCommand_19 q3 (fun (σ15 : St) =>
      (f_X3_skipBlanks σ15).bind (fun q16 =>
      (f_X3_sees (59 : Int32) q16).bind (fun q17 =>
      if q17.1 = 0 then
        (some ((0 : Int32), q17.2))
      else
        (nm (sI q17.2 3 3 ((q17.2.1 3 3) + (1 : Int32))) (fun σ19 : St =>
        some ((1 : Int32), σ19)))))) 1000 (0 : Int32) q3.2)))
abbrev mX3_readCommand : Me := (yX3_readCommand, cX3_readCommand, 3, (some .boolean), 7, 226)
set_option maxRecDepth 100000 in
set_option maxHeartbeats 4000000 in
theorem l_X3_readCommand_19 {Γ : Cxt} (G : OK Γ RX3 cX3_readCommand 3 (some .boolean) 7 226) {res : Int32 × St} (hR : RetOK Γ (some (.int res.1)) res.2) (q3 : Int32 × St) (k6 : St → Option (Int32 × St)) (hk : ∀ (z : St), k6 z = some res → WW Γ 57 [some (.ref 3), none, none] [] z) : ∀ (n7 : Nat) (x4 : Int32) (σ5 : St), f_X3_readCommand_19 q3 k6 n7 x4 σ5 = some res → WW Γ 19 [some (.ref 3), some (.int q3.1), some (.int x4)] [] σ5 := by
  intro n7
  induction n7 with
  | zero =>
    intro x4 σ5 hf
    cases hf
  | succ n7 ih =>
    intro x4 σ5 hf
    unfold f_X3_readCommand_19 at hf
    refine s_iload_n G dX3_readCommand_19 rfl ?_
    refine s_iload_n G dX3_readCommand_20 rfl ?_
    refine s_icmp_ge (tgt := 57) G dX3_readCommand_21 (by decide) (fun c8 => ?_) (fun c8 => ?_)
    · replace hf := ifp c8 hf
      refine s_fgt [true, false, false] rfl ?_
      exact hk σ5 hf
    · replace hf := ifn c8 hf
      refine s_aload_n G dX3_readCommand_24 rfl ?_
      refine s_iload_n G dX3_readCommand_25 rfl ?_
      refine s_aload_n G dX3_readCommand_26 rfl ?_
      refine s_getI (n := 0) G dX3_readCommand_27 lkF_X3_41 (by decide) rfl rfl ?_
      refine jn_w (fun q9 : Int32 × St => WW Γ 43 [some (.ref 3), some (.int q3.1), some (.int x4)] [.int q9.1, .int x4, .ref 3] q9.2) hf (fun q9 hf => ?_) (fun j10 hj10 hf => ?_)
      · obtain ⟨q11, hq11, hf⟩ := bnd hf
        refine s_callV G dX3_readCommand_43 (c_X3_readNumber hq11) lkM_X3_48 yk_X3_readNumber yv_X3_readNumber (by decide) rfl rfl _ [] rfl rfl rfl (Nat.le_of_ble_eq_true rfl) (by decide) ?_
        refine s_if_ne (tgt := 51) G dX3_readCommand_46 (by decide) (fun c12 => ?_) (fun c12 => ?_)
        · replace hf := ifn c12 hf
          refine s_iinc G dX3_readCommand_51 rfl (v := (x4 + 1)) rfl (by decide) rfl rfl ?_
          refine s_goto (tgt := 19) G dX3_readCommand_54 (by decide) ?_
          exact ih (x4 + 1) q11.2 hf
        · replace hf := ifp c12 hf
          refine s_iconst G dX3_readCommand_49 (v := 0) (by decide) ?_
          replace hf := Option.some.inj hf
          subst hf
          exact s_zret G hR dX3_readCommand_50 (by decide) rfl rfl
      · refine s_if_ne (tgt := 42) G dX3_readCommand_30 (by decide) (fun c13 => ?_) (fun c13 => ?_)
        · replace hf := ifn c13 hf
          refine s_iconst G dX3_readCommand_42 (v := 0) (by decide) ?_
          exact hj10 _ hf
        · replace hf := ifp c13 hf
          refine s_iload_n G dX3_readCommand_33 rfl ?_
          refine s_iconst G dX3_readCommand_34 (v := 1) (by decide) ?_
          refine s_icmp_ne (tgt := 42) G dX3_readCommand_35 (by decide) (fun c14 => ?_) (fun c14 => ?_)
          · replace hf := ifn c14 hf
            refine s_iconst G dX3_readCommand_42 (v := 0) (by decide) ?_
            exact hj10 _ hf
          · replace hf := ifp c14 hf
            refine s_iconst G dX3_readCommand_38 (v := 1) (by decide) ?_
            refine s_goto (tgt := 43) G dX3_readCommand_39 (by decide) ?_
            exact hj10 _ hf
set_option maxRecDepth 100000 in
set_option maxHeartbeats 4000000 in
theorem c_X3_readCommand  {σ : St} {res : Int32 × St} (hf : f_X3_readCommand σ = some res) : Mt mX3_readCommand [.ref 3] σ (some (.int res.1)) res.2 := by
  unfold f_X3_readCommand at hf
  refine mt_of (by decide) (Nat.le_of_ble_eq_true rfl) [some (.ref 3), none, none] rfl (fun Γ G hR => ?_)
  have G : OK Γ RX3 cX3_readCommand 3 (some .boolean) 7 226 := G
  refine s_aload_n G dX3_readCommand_0 rfl ?_
  obtain ⟨q1, hq1, hf⟩ := bnd hf
  refine s_callV G dX3_readCommand_1 (c_X3_readWord hq1) lkM_X3_38 yk_X3_readWord yv_X3_readWord (by decide) rfl rfl _ [] rfl rfl rfl (Nat.le_of_ble_eq_true rfl) (by decide) ?_
  refine s_if_ne (tgt := 9) G dX3_readCommand_4 (by decide) (fun c2 => ?_) (fun c2 => ?_)
  · replace hf := ifn c2 hf
    refine s_aload_n G dX3_readCommand_9 rfl ?_
    refine s_getI (n := 0) G dX3_readCommand_10 lkF_X3_41 (by decide) rfl rfl ?_
    obtain ⟨q3, hq3, hf⟩ := bnd hf
    refine s_callS G dX3_readCommand_13 (c_X3_numbersOf hq3) lkM_X3_44 yk_X3_numbersOf ys_X3_numbersOf _ [] rfl rfl rfl (Nat.le_of_ble_eq_true rfl) (by decide) ?_
    refine s_istore_n G dX3_readCommand_16 rfl (by decide) rfl rfl ?_
    refine s_iconst G dX3_readCommand_17 (v := 0) (by decide) ?_
    refine s_istore_n G dX3_readCommand_18 rfl (by decide) rfl rfl ?_
    refine l_X3_readCommand_19 G hR q3 _ (fun σ15 hf => ?_) 1000 (0 : Int32) q3.2 hf
    refine s_aload_n G dX3_readCommand_57 rfl ?_
    obtain ⟨q16, hq16, hf⟩ := bnd hf
    refine s_callV G dX3_readCommand_58 (c_X3_skipBlanks hq16) lkM_X3_35 yk_X3_skipBlanks yv_X3_skipBlanks (by decide) rfl rfl _ [] rfl rfl rfl (Nat.le_of_ble_eq_true rfl) (by decide) ?_
    refine s_aload_n G dX3_readCommand_61 rfl ?_
    refine s_bipush G dX3_readCommand_62 (v := 59) (by decide) ?_
    obtain ⟨q17, hq17, hf⟩ := bnd hf
    refine s_callV G dX3_readCommand_64 (c_X3_sees hq17) lkM_X3_52 yk_X3_sees yv_X3_sees (by decide) rfl rfl _ [] rfl rfl rfl (Nat.le_of_ble_eq_true rfl) (by decide) ?_
    refine s_if_ne (tgt := 72) G dX3_readCommand_67 (by decide) (fun c18 => ?_) (fun c18 => ?_)
    · replace hf := ifn c18 hf
      refine s_aload_n G dX3_readCommand_72 rfl ?_
      refine s_dup G dX3_readCommand_73 rfl ?_
      refine s_getI (n := 0) G dX3_readCommand_74 lkF_X3_22 (by decide) rfl rfl ?_
      refine s_iconst G dX3_readCommand_77 (v := 1) (by decide) ?_
      refine s_iadd G dX3_readCommand_78 ?_
      refine s_putI G dX3_readCommand_79 lkP_X3_22 (by decide) rfl rfl ?_
      refine s_st (fun σ19 eσ19 => ?_)
      replace hf := nm_at eσ19 hf
      refine s_iconst G dX3_readCommand_82 (v := 1) (by decide) ?_
      replace hf := Option.some.inj hf
      subst hf
      exact s_zret G hR dX3_readCommand_83 (by decide) rfl rfl
    · replace hf := ifp c18 hf
      refine s_iconst G dX3_readCommand_70 (v := 0) (by decide) ?_
      replace hf := Option.some.inj hf
      subst hf
      exact s_zret G hR dX3_readCommand_71 (by decide) rfl rfl
  · replace hf := ifp c2 hf
    refine s_iconst G dX3_readCommand_7 (v := 0) (by decide) ?_
    replace hf := Option.some.inj hf
    subst hf
    exact s_zret G hR dX3_readCommand_8 (by decide) rfl rfl
def f_X3_findFault_18 (k6 : St → Option (Int32 × St)) : Nat → Int32 → St → Option (Int32 × St)
  | 0, _, _ => none
  | n7 + 1, x4, σ5 =>
    if (120 : Int32) ≤ x4 then
      (k6 σ5)
    else
      ((f_X3_hasMore σ5).bind (fun q9 =>
      if q9.1 = 0 then
        (k6 q9.2)
      else
        ((f_X3_readCommand q9.2).bind (fun q11 =>
        if q11.1 = 0 then
          (some ((q11.2.1 3 3), q11.2))
        else
          (f_X3_findFault_18 k6 n7 (x4 + 1) q11.2)))))
def f_X3_findFault (σ : St) : Option (Int32 × St) :=
(f_X3_rewind σ).bind (fun q1 =>
  (f_X3_hasMore q1).bind (fun q2 =>
  if q2.1 = 0 then
    (some ((q2.2.1 3 2), q2.2))
  else
    (f_X3_findFault_18 (fun (σ13 : St) =>
      some ((-1 : Int32), σ13)) 1000 (0 : Int32) q2.2)))
abbrev mX3_findFault : Me := (yX3_findFault, cX3_findFault, 2, (some .int), 8, 248)
set_option maxRecDepth 100000 in
set_option maxHeartbeats 4000000 in
theorem l_X3_findFault_18 {Γ : Cxt} (G : OK Γ RX3 cX3_findFault 2 (some .int) 8 248) {res : Int32 × St} (hR : RetOK Γ (some (.int res.1)) res.2) (k6 : St → Option (Int32 × St)) (hk : ∀ (z : St), k6 z = some res → WW Γ 49 [none, none] [] z) : ∀ (n7 : Nat) (x4 : Int32) (σ5 : St), f_X3_findFault_18 k6 n7 x4 σ5 = some res → WW Γ 18 [some (.ref 3), some (.int x4)] [] σ5 := by
  intro n7
  induction n7 with
  | zero =>
    intro x4 σ5 hf
    cases hf
  | succ n7 ih =>
    intro x4 σ5 hf
    unfold f_X3_findFault_18 at hf
    refine s_iload_n G dX3_findFault_18 rfl ?_
    refine s_bipush G dX3_findFault_19 (v := 120) (by decide) ?_
    refine s_icmp_ge (tgt := 49) G dX3_findFault_21 (by decide) (fun c8 => ?_) (fun c8 => ?_)
    · replace hf := ifp c8 hf
      refine s_fgt [false, false] rfl ?_
      exact hk σ5 hf
    · replace hf := ifn c8 hf
      refine s_aload_n G dX3_findFault_24 rfl ?_
      obtain ⟨q9, hq9, hf⟩ := bnd hf
      refine s_callV G dX3_findFault_25 (c_X3_hasMore hq9) lkM_X3_28 yk_X3_hasMore yv_X3_hasMore (by decide) rfl rfl _ [] rfl rfl rfl (Nat.le_of_ble_eq_true rfl) (by decide) ?_
      refine s_if_eq (tgt := 49) G dX3_findFault_28 (by decide) (fun c10 => ?_) (fun c10 => ?_)
      · replace hf := ifp c10 hf
        refine s_fgt [false, false] rfl ?_
        exact hk q9.2 hf
      · replace hf := ifn c10 hf
        refine s_aload_n G dX3_findFault_31 rfl ?_
        obtain ⟨q11, hq11, hf⟩ := bnd hf
        refine s_callV G dX3_findFault_32 (c_X3_readCommand hq11) lkM_X3_32 yk_X3_readCommand yv_X3_readCommand (by decide) rfl rfl _ [] rfl rfl rfl (Nat.le_of_ble_eq_true rfl) (by decide) ?_
        refine s_if_ne (tgt := 43) G dX3_findFault_35 (by decide) (fun c12 => ?_) (fun c12 => ?_)
        · replace hf := ifn c12 hf
          refine s_iinc G dX3_findFault_43 rfl (v := (x4 + 1)) rfl (by decide) rfl rfl ?_
          refine s_goto (tgt := 18) G dX3_findFault_46 (by decide) ?_
          exact ih (x4 + 1) q11.2 hf
        · replace hf := ifp c12 hf
          refine s_aload_n G dX3_findFault_38 rfl ?_
          refine s_getI (n := 0) G dX3_findFault_39 lkF_X3_22 (by decide) rfl rfl ?_
          replace hf := Option.some.inj hf
          subst hf
          exact s_iret G hR dX3_findFault_42 rfl rfl
set_option maxRecDepth 100000 in
set_option maxHeartbeats 4000000 in
theorem c_X3_findFault  {σ : St} {res : Int32 × St} (hf : f_X3_findFault σ = some res) : Mt mX3_findFault [.ref 3] σ (some (.int res.1)) res.2 := by
  unfold f_X3_findFault at hf
  refine mt_of (by decide) (Nat.le_of_ble_eq_true rfl) [some (.ref 3), none] rfl (fun Γ G hR => ?_)
  have G : OK Γ RX3 cX3_findFault 2 (some .int) 8 248 := G
  refine s_aload_n G dX3_findFault_0 rfl ?_
  obtain ⟨q1, hq1, hf⟩ := bnd hf
  refine s_callV G dX3_findFault_1 (c_X3_rewind hq1) lkM_X3_25 yk_X3_rewind yv_X3_rewind (by decide) rfl rfl _ [] rfl rfl rfl (Nat.le_of_ble_eq_true rfl) (by decide) ?_
  refine s_aload_n G dX3_findFault_4 rfl ?_
  obtain ⟨q2, hq2, hf⟩ := bnd hf
  refine s_callV G dX3_findFault_5 (c_X3_hasMore hq2) lkM_X3_28 yk_X3_hasMore yv_X3_hasMore (by decide) rfl rfl _ [] rfl rfl rfl (Nat.le_of_ble_eq_true rfl) (by decide) ?_
  refine s_if_ne (tgt := 16) G dX3_findFault_8 (by decide) (fun c3 => ?_) (fun c3 => ?_)
  · replace hf := ifn c3 hf
    refine s_iconst G dX3_findFault_16 (v := 0) (by decide) ?_
    refine s_istore_n G dX3_findFault_17 rfl (by decide) rfl rfl ?_
    refine l_X3_findFault_18 G hR _ (fun σ13 hf => ?_) 1000 (0 : Int32) q2.2 hf
    refine s_iconst G dX3_findFault_49 (v := -1) (by decide) ?_
    replace hf := Option.some.inj hf
    subst hf
    exact s_iret G hR dX3_findFault_50 rfl rfl
  · replace hf := ifp c3 hf
    refine s_aload_n G dX3_findFault_11 rfl ?_
    refine s_getI (n := 0) G dX3_findFault_12 lkF_X3_18 (by decide) rfl rfl ?_
    replace hf := Option.some.inj hf
    subst hf
    exact s_iret G hR dX3_findFault_15 rfl rfl
def f_X1_restore (σ : St) : Option (Int32 × St) :=
nm (sI σ 1 2 ((σ.1 1 2) - (1 : Int32))) (fun σ1 : St =>
  chk (ib (((σ1.1 1 1) + (σ1.1 1 2)) - ((σ1.1 1 1) + (σ1.1 1 2)) / (8 : Int32) * (8 : Int32)) 8) (
  (f_X0_copy 0 ((((σ1.1 1 1) + (σ1.1 1 2)) - ((σ1.1 1 1) + (σ1.1 1 2)) / (8 : Int32) * (8 : Int32)).toNatClampNeg + 1) σ1).bind (fun q3 =>
  some ((q3.1 1 2), q3))))
abbrev mX1_restore : Me := (yX1_restore, cX1_restore, 3, (some .int), 1, 22)
set_option maxRecDepth 100000 in
set_option maxHeartbeats 4000000 in
theorem c_X1_restore  {σ : St} {res : Int32 × St} (hf : f_X1_restore σ = some res) : Mt mX1_restore [.ref 1, .ref 24] σ (some (.int res.1)) res.2 := by
  unfold f_X1_restore at hf
  refine mt_of (by decide) (Nat.le_of_ble_eq_true rfl) [some (.ref 1), some (.ref 24), none] rfl (fun Γ G hR => ?_)
  have G : OK Γ RX1 cX1_restore 3 (some .int) 1 22 := G
  refine s_aload_n G dX1_restore_0 rfl ?_
  refine s_dup G dX1_restore_1 rfl ?_
  refine s_getI (n := 0) G dX1_restore_2 lkF_X1_18 (by decide) rfl rfl ?_
  refine s_iconst G dX1_restore_5 (v := 1) (by decide) ?_
  refine s_isub G dX1_restore_6 ?_
  refine s_putI G dX1_restore_7 lkP_X1_18 (by decide) rfl rfl ?_
  refine s_st (fun σ1 eσ1 => ?_)
  replace hf := nm_at eσ1 hf
  refine s_aload_n G dX1_restore_10 rfl ?_
  refine s_getR G dX1_restore_11 lkF_X1_11 (by decide) rfl rfl ?_
  refine s_aload_n G dX1_restore_14 rfl ?_
  refine s_getI (n := 0) G dX1_restore_15 lkF_X1_22 (by decide) rfl rfl ?_
  refine s_aload_n G dX1_restore_18 rfl ?_
  refine s_getI (n := 0) G dX1_restore_19 lkF_X1_18 (by decide) rfl rfl ?_
  refine s_iadd G dX1_restore_22 ?_
  refine s_bipush G dX1_restore_23 (v := 8) (by decide) ?_
  refine s_irem G dX1_restore_25 (by decide) ?_
  have h2 := chk_1 hf
  replace hf := chk_2 hf
  refine s_aald G dX1_restore_26 (by decide) rfl h2 ?_
  refine s_astore_n G dX1_restore_27 rfl (by decide) rfl rfl ?_
  refine s_aload_n G dX1_restore_28 rfl ?_
  refine s_ifnull G dX1_restore_29 ?_
  refine s_aload_n G dX1_restore_32 rfl ?_
  refine s_aload_n G dX1_restore_33 rfl ?_
  obtain ⟨q3, hq3, hf⟩ := bnd hf
  refine s_callV G dX1_restore_34 (c_X0_copy (by decide) (kp_lt h2) hq3) lkM_X1_25 yk_X0_copy yv_X0_copy (by decide) rfl rfl _ [] rfl rfl rfl (Nat.le_of_ble_eq_true rfl) (by decide) ?_
  refine s_aload_n G dX1_restore_37 rfl ?_
  refine s_getI (n := 0) G dX1_restore_38 lkF_X1_18 (by decide) rfl rfl ?_
  replace hf := Option.some.inj hf
  subst hf
  exact s_iret G hR dX1_restore_41 rfl rfl
