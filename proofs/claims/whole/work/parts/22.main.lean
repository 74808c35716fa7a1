def f_X5_bad (σ : St) : Option (Int32 × St) :=
nm (sI σ 0 5 ((σ.1 0 5) + (1 : Int32))) (fun σ1 : St =>
  some ((-2 : Int32), σ1))
abbrev mX5_bad : Me := (yX5_bad, cX5_bad, 1, (some .int), 0, 0)
set_option maxRecDepth 100000 in
set_option maxHeartbeats 4000000 in
theorem c_X5_bad  {σ : St} {res : Int32 × St} (hf : f_X5_bad σ = some res) : Mt mX5_bad [.ref 0] σ (some (.int res.1)) res.2 := by
  unfold f_X5_bad at hf
  refine mt_of (by decide) (Nat.le_of_ble_eq_true rfl) [some (.ref 0)] rfl (fun Γ G hR => ?_)
  have G : OK Γ RX5 cX5_bad 1 (some .int) 0 0 := G
  refine s_aload_n G dX5_bad_0 rfl ?_
  refine s_dup G dX5_bad_1 rfl ?_
  refine s_getI (n := 0) G dX5_bad_2 lkF_X5_282 (by decide) rfl rfl ?_
  refine s_iconst G dX5_bad_5 (v := 1) (by decide) ?_
  refine s_iadd G dX5_bad_6 ?_
  refine s_putI G dX5_bad_7 lkP_X5_282 (by decide) rfl rfl ?_
  refine s_st (fun σ1 eσ1 => ?_)
  replace hf := nm_at eσ1 hf
  refine s_bipush G dX5_bad_10 (v := -2) (by decide) ?_
  replace hf := Option.some.inj hf
  subst hf
  exact s_iret G hR dX5_bad_12 rfl rfl
def f_X5_begins (a1 : Int32) (σ : St) : Option (Int32 × St) :=
(f_X0_canHave a1 σ).bind (fun q1 =>
  if q1.1 = 0 then
    ((f_X5_bad q1.2).bind (fun q5 =>
    some (q5.1, q5.2)))
  else
    ((f_X1_keep q1.2).bind (fun q3 =>
    (f_X0_restart 0 a1 q3).bind (fun q4 =>
    some (q4.1, q4.2)))))
abbrev mX5_begins : Me := (yX5_begins, cX5_begins, 2, (some .int), 2, 44)
set_option maxRecDepth 100000 in
set_option maxHeartbeats 4000000 in
theorem c_X5_begins {a1 : Int32} {σ : St} {res : Int32 × St} (hf : f_X5_begins a1 σ = some res) : Mt mX5_begins [.ref 0, .int a1] σ (some (.int res.1)) res.2 := by
  unfold f_X5_begins at hf
  refine mt_of (by decide) (Nat.le_of_ble_eq_true rfl) [some (.ref 0), some (.int a1)] rfl (fun Γ G hR => ?_)
  have G : OK Γ RX5 cX5_begins 2 (some .int) 2 44 := G
  refine s_iload_n G dX5_begins_0 rfl ?_
  obtain ⟨q1, hq1, hf⟩ := bnd hf
  refine s_callS G dX5_begins_1 (c_X0_canHave hq1) lkM_X5_46 yk_X0_canHave ys_X0_canHave _ [] rfl rfl rfl (Nat.le_of_ble_eq_true rfl) (by decide) ?_
  refine s_if_ne (tgt := 12) G dX5_begins_4 (by decide) (fun c2 => ?_) (fun c2 => ?_)
  · replace hf := ifn c2 hf
    refine s_aload_n G dX5_begins_12 rfl ?_
    refine s_getR G dX5_begins_13 lkF_X5_19 (by decide) rfl rfl ?_
    refine s_aload_n G dX5_begins_16 rfl ?_
    refine s_getR G dX5_begins_17 lkF_X5_10 (by decide) rfl rfl ?_
    obtain ⟨q3, hq3, hf⟩ := bnd hf
    refine s_callV G dX5_begins_20 (c_X1_keep hq3) lkM_X5_54 yk_X1_keep yv_X1_keep (by decide) rfl rfl _ [] rfl rfl rfl (Nat.le_of_ble_eq_true rfl) (by decide) ?_
    refine s_aload_n G dX5_begins_23 rfl ?_
    refine s_getR G dX5_begins_24 lkF_X5_10 (by decide) rfl rfl ?_
    refine s_iload_n G dX5_begins_27 rfl ?_
    obtain ⟨q4, hq4, hf⟩ := bnd hf
    refine s_callV G dX5_begins_28 (c_X0_restart (by decide) hq4) lkM_X5_57 yk_X0_restart yv_X0_restart (by decide) rfl rfl _ [] rfl rfl rfl (Nat.le_of_ble_eq_true rfl) (by decide) ?_
    replace hf := Option.some.inj hf
    subst hf
    exact s_iret G hR dX5_begins_31 rfl rfl
  · replace hf := ifp c2 hf
    refine s_aload_n G dX5_begins_7 rfl ?_
    obtain ⟨q5, hq5, hf⟩ := bnd hf
    refine s_callV G dX5_begins_8 (c_X5_bad hq5) lkM_X5_50 yk_X5_bad yv_X5_bad (by decide) rfl rfl _ [] rfl rfl rfl (Nat.le_of_ble_eq_true rfl) (by decide) ?_
    replace hf := Option.some.inj hf
    subst hf
    exact s_iret G hR dX5_begins_11 rfl rfl
def f_X5_feeds (a1 : Int32) (a2 : Int32) (σ : St) : Option (Int32 × St) :=
(f_X0_canInject 0 a1 a2 σ).bind (fun q1 =>
  if q1.1 = 0 then
    ((f_X5_bad q1.2).bind (fun q5 =>
    some (q5.1, q5.2)))
  else
    ((f_X1_keep q1.2).bind (fun q3 =>
    (f_X0_inject 0 a1 a2 q3).bind (fun q4 =>
    some (q4.1, q4.2)))))
abbrev mX5_feeds : Me := (yX5_feeds, cX5_feeds, 3, (some .int), 2, 44)
set_option maxRecDepth 100000 in
set_option maxHeartbeats 4000000 in
theorem c_X5_feeds {a1 : Int32} {a2 : Int32} {σ : St} {res : Int32 × St} (hf : f_X5_feeds a1 a2 σ = some res) : Mt mX5_feeds [.ref 0, .int a1, .int a2] σ (some (.int res.1)) res.2 := by
  unfold f_X5_feeds at hf
  refine mt_of (by decide) (Nat.le_of_ble_eq_true rfl) [some (.ref 0), some (.int a1), some (.int a2)] rfl (fun Γ G hR => ?_)
  have G : OK Γ RX5 cX5_feeds 3 (some .int) 2 44 := G
  refine s_aload_n G dX5_feeds_0 rfl ?_
  refine s_getR G dX5_feeds_1 lkF_X5_10 (by decide) rfl rfl ?_
  refine s_iload_n G dX5_feeds_4 rfl ?_
  refine s_iload_n G dX5_feeds_5 rfl ?_
  obtain ⟨q1, hq1, hf⟩ := bnd hf
  refine s_callV G dX5_feeds_6 (c_X0_canInject (by decide) hq1) lkM_X5_61 yk_X0_canInject yv_X0_canInject (by decide) rfl rfl _ [] rfl rfl rfl (Nat.le_of_ble_eq_true rfl) (by decide) ?_
  refine s_if_ne (tgt := 17) G dX5_feeds_9 (by decide) (fun c2 => ?_) (fun c2 => ?_)
  · replace hf := ifn c2 hf
    refine s_aload_n G dX5_feeds_17 rfl ?_
    refine s_getR G dX5_feeds_18 lkF_X5_19 (by decide) rfl rfl ?_
    refine s_aload_n G dX5_feeds_21 rfl ?_
    refine s_getR G dX5_feeds_22 lkF_X5_10 (by decide) rfl rfl ?_
    obtain ⟨q3, hq3, hf⟩ := bnd hf
    refine s_callV G dX5_feeds_25 (c_X1_keep hq3) lkM_X5_54 yk_X1_keep yv_X1_keep (by decide) rfl rfl _ [] rfl rfl rfl (Nat.le_of_ble_eq_true rfl) (by decide) ?_
    refine s_aload_n G dX5_feeds_28 rfl ?_
    refine s_getR G dX5_feeds_29 lkF_X5_10 (by decide) rfl rfl ?_
    refine s_iload_n G dX5_feeds_32 rfl ?_
    refine s_iload_n G dX5_feeds_33 rfl ?_
    obtain ⟨q4, hq4, hf⟩ := bnd hf
    refine s_callV G dX5_feeds_34 (c_X0_inject (by decide) hq4) lkM_X5_65 yk_X0_inject yv_X0_inject (by decide) rfl rfl _ [] rfl rfl rfl (Nat.le_of_ble_eq_true rfl) (by decide) ?_
    replace hf := Option.some.inj hf
    subst hf
    exact s_iret G hR dX5_feeds_37 rfl rfl
  · replace hf := ifp c2 hf
    refine s_aload_n G dX5_feeds_12 rfl ?_
    obtain ⟨q5, hq5, hf⟩ := bnd hf
    refine s_callV G dX5_feeds_13 (c_X5_bad hq5) lkM_X5_50 yk_X5_bad yv_X5_bad (by decide) rfl rfl _ [] rfl rfl rfl (Nat.le_of_ble_eq_true rfl) (by decide) ?_
    replace hf := Option.some.inj hf
    subst hf
    exact s_iret G hR dX5_feeds_16 rfl rfl
def f_X5_full (σ : St) : Option (Int32 × St) :=
nm (sI σ 0 7 ((σ.1 0 7) + (1 : Int32))) (fun σ1 : St =>
  some ((-4 : Int32), σ1))
abbrev mX5_full : Me := (yX5_full, cX5_full, 1, (some .int), 0, 0)
set_option maxRecDepth 100000 in
set_option maxHeartbeats 4000000 in
theorem c_X5_full  {σ : St} {res : Int32 × St} (hf : f_X5_full σ = some res) : Mt mX5_full [.ref 0] σ (some (.int res.1)) res.2 := by
  unfold f_X5_full at hf
  refine mt_of (by decide) (Nat.le_of_ble_eq_true rfl) [some (.ref 0)] rfl (fun Γ G hR => ?_)
  have G : OK Γ RX5 cX5_full 1 (some .int) 0 0 := G
  refine s_aload_n G dX5_full_0 rfl ?_
  refine s_dup G dX5_full_1 rfl ?_
  refine s_getI (n := 0) G dX5_full_2 lkF_X5_288 (by decide) rfl rfl ?_
  refine s_iconst G dX5_full_5 (v := 1) (by decide) ?_
  refine s_iadd G dX5_full_6 ?_
  refine s_putI G dX5_full_7 lkP_X5_288 (by decide) rfl rfl ?_
  refine s_st (fun σ1 eσ1 => ?_)
  replace hf := nm_at eσ1 hf
  refine s_bipush G dX5_full_10 (v := -4) (by decide) ?_
  replace hf := Option.some.inj hf
  subst hf
  exact s_iret G hR dX5_full_12 rfl rfl
def f_X5_line (a1 : Int32) (a2 : Int32) (a3 : Int32) (a4 : Int32) (σ : St) : Option (Int32 × St) :=
(f_X0_canJoin 0 a1 a2 a3 a4 σ).bind (fun q1 =>
  if q1.1 = 0 then
    ((f_X5_bad q1.2).bind (fun q8 =>
    some (q8.1, q8.2)))
  else
    ((f_X0_isFull 0 q1.2).bind (fun q3 =>
    if q3.1 = 0 then
      ((f_X1_keep q3.2).bind (fun q5 =>
      (f_X0_join 0 a1 a2 a3 a4 q5).bind (fun q6 =>
      some (q6.1, q6.2))))
    else
      ((f_X5_full q3.2).bind (fun q7 =>
      some (q7.1, q7.2))))))
abbrev mX5_line : Me := (yX5_line, cX5_line, 5, (some .int), 2, 46)
set_option maxRecDepth 100000 in
set_option maxHeartbeats 4000000 in
theorem c_X5_line {a1 : Int32} {a2 : Int32} {a3 : Int32} {a4 : Int32} {σ : St} {res : Int32 × St} (hf : f_X5_line a1 a2 a3 a4 σ = some res) : Mt mX5_line [.ref 0, .int a1, .int a2, .int a3, .int a4] σ (some (.int res.1)) res.2 := by
  unfold f_X5_line at hf
  refine mt_of (by decide) (Nat.le_of_ble_eq_true rfl) [some (.ref 0), some (.int a1), some (.int a2), some (.int a3), some (.int a4)] rfl (fun Γ G hR => ?_)
  have G : OK Γ RX5 cX5_line 5 (some .int) 2 46 := G
  refine s_aload_n G dX5_line_0 rfl ?_
  refine s_getR G dX5_line_1 lkF_X5_10 (by decide) rfl rfl ?_
  refine s_iload_n G dX5_line_4 rfl ?_
  refine s_iload_n G dX5_line_5 rfl ?_
  refine s_iload_n G dX5_line_6 rfl ?_
  refine s_iload G dX5_line_7 rfl ?_
  obtain ⟨q1, hq1, hf⟩ := bnd hf
  refine s_callV G dX5_line_9 (c_X0_canJoin (by decide) hq1) lkM_X5_69 yk_X0_canJoin yv_X0_canJoin (by decide) rfl rfl _ [] rfl rfl rfl (Nat.le_of_ble_eq_true rfl) (by decide) ?_
  refine s_if_ne (tgt := 20) G dX5_line_12 (by decide) (fun c2 => ?_) (fun c2 => ?_)
  · replace hf := ifn c2 hf
    refine s_aload_n G dX5_line_20 rfl ?_
    refine s_getR G dX5_line_21 lkF_X5_10 (by decide) rfl rfl ?_
    obtain ⟨q3, hq3, hf⟩ := bnd hf
    refine s_callV G dX5_line_24 (c_X0_isFull (by decide) hq3) lkM_X5_73 yk_X0_isFull yv_X0_isFull (by decide) rfl rfl _ [] rfl rfl rfl (Nat.le_of_ble_eq_true rfl) (by decide) ?_
    refine s_if_eq (tgt := 35) G dX5_line_27 (by decide) (fun c4 => ?_) (fun c4 => ?_)
    · replace hf := ifp c4 hf
      refine s_aload_n G dX5_line_35 rfl ?_
      refine s_getR G dX5_line_36 lkF_X5_19 (by decide) rfl rfl ?_
      refine s_aload_n G dX5_line_39 rfl ?_
      refine s_getR G dX5_line_40 lkF_X5_10 (by decide) rfl rfl ?_
      obtain ⟨q5, hq5, hf⟩ := bnd hf
      refine s_callV G dX5_line_43 (c_X1_keep hq5) lkM_X5_54 yk_X1_keep yv_X1_keep (by decide) rfl rfl _ [] rfl rfl rfl (Nat.le_of_ble_eq_true rfl) (by decide) ?_
      refine s_aload_n G dX5_line_46 rfl ?_
      refine s_getR G dX5_line_47 lkF_X5_10 (by decide) rfl rfl ?_
      refine s_iload_n G dX5_line_50 rfl ?_
      refine s_iload_n G dX5_line_51 rfl ?_
      refine s_iload_n G dX5_line_52 rfl ?_
      refine s_iload G dX5_line_53 rfl ?_
      obtain ⟨q6, hq6, hf⟩ := bnd hf
      refine s_callV G dX5_line_55 (c_X0_join (by decide) hq6) lkM_X5_80 yk_X0_join yv_X0_join (by decide) rfl rfl _ [] rfl rfl rfl (Nat.le_of_ble_eq_true rfl) (by decide) ?_
      replace hf := Option.some.inj hf
      subst hf
      exact s_iret G hR dX5_line_58 rfl rfl
    · replace hf := ifn c4 hf
      refine s_aload_n G dX5_line_30 rfl ?_
      obtain ⟨q7, hq7, hf⟩ := bnd hf
      refine s_callV G dX5_line_31 (c_X5_full hq7) lkM_X5_77 yk_X5_full yv_X5_full (by decide) rfl rfl _ [] rfl rfl rfl (Nat.le_of_ble_eq_true rfl) (by decide) ?_
      replace hf := Option.some.inj hf
      subst hf
      exact s_iret G hR dX5_line_34 rfl rfl
  · replace hf := ifp c2 hf
    refine s_aload_n G dX5_line_15 rfl ?_
    obtain ⟨q8, hq8, hf⟩ := bnd hf
    refine s_callV G dX5_line_16 (c_X5_bad hq8) lkM_X5_50 yk_X5_bad yv_X5_bad (by decide) rfl rfl _ [] rfl rfl rfl (Nat.le_of_ble_eq_true rfl) (by decide) ?_
    replace hf := Option.some.inj hf
    subst hf
    exact s_iret G hR dX5_line_19 rfl rfl
def f_X5_drops (a1 : Int32) (σ : St) : Option (Int32 × St) :=
(f_X0_hasLine 0 a1 σ).bind (fun q1 =>
  if q1.1 = 0 then
    ((f_X5_bad q1.2).bind (fun q5 =>
    some (q5.1, q5.2)))
  else
    ((f_X1_keep q1.2).bind (fun q3 =>
    (f_X0_remove 0 a1 q3).bind (fun q4 =>
    some (q4.1, q4.2)))))
abbrev mX5_drops : Me := (yX5_drops, cX5_drops, 2, (some .int), 2, 44)
set_option maxRecDepth 100000 in
set_option maxHeartbeats 4000000 in
theorem c_X5_drops {a1 : Int32} {σ : St} {res : Int32 × St} (hf : f_X5_drops a1 σ = some res) : Mt mX5_drops [.ref 0, .int a1] σ (some (.int res.1)) res.2 := by
  unfold f_X5_drops at hf
  refine mt_of (by decide) (Nat.le_of_ble_eq_true rfl) [some (.ref 0), some (.int a1)] rfl (fun Γ G hR => ?_)
  have G : OK Γ RX5 cX5_drops 2 (some .int) 2 44 := G
  refine s_aload_n G dX5_drops_0 rfl ?_
  refine s_getR G dX5_drops_1 lkF_X5_10 (by decide) rfl rfl ?_
  refine s_iload_n G dX5_drops_4 rfl ?_
  obtain ⟨q1, hq1, hf⟩ := bnd hf
  refine s_callV G dX5_drops_5 (c_X0_hasLine (by decide) hq1) lkM_X5_84 yk_X0_hasLine yv_X0_hasLine (by decide) rfl rfl _ [] rfl rfl rfl (Nat.le_of_ble_eq_true rfl) (by decide) ?_
  refine s_if_ne (tgt := 16) G dX5_drops_8 (by decide) (fun c2 => ?_) (fun c2 => ?_)
  · replace hf := ifn c2 hf
    refine s_aload_n G dX5_drops_16 rfl ?_
    refine s_getR G dX5_drops_17 lkF_X5_19 (by decide) rfl rfl ?_
    refine s_aload_n G dX5_drops_20 rfl ?_
    refine s_getR G dX5_drops_21 lkF_X5_10 (by decide) rfl rfl ?_
    obtain ⟨q3, hq3, hf⟩ := bnd hf
    refine s_callV G dX5_drops_24 (c_X1_keep hq3) lkM_X5_54 yk_X1_keep yv_X1_keep (by decide) rfl rfl _ [] rfl rfl rfl (Nat.le_of_ble_eq_true rfl) (by decide) ?_
    refine s_aload_n G dX5_drops_27 rfl ?_
    refine s_getR G dX5_drops_28 lkF_X5_10 (by decide) rfl rfl ?_
    refine s_iload_n G dX5_drops_31 rfl ?_
    obtain ⟨q4, hq4, hf⟩ := bnd hf
    refine s_callV G dX5_drops_32 (c_X0_remove (by decide) hq4) lkM_X5_87 yk_X0_remove yv_X0_remove (by decide) rfl rfl _ [] rfl rfl rfl (Nat.le_of_ble_eq_true rfl) (by decide) ?_
    replace hf := Option.some.inj hf
    subst hf
    exact s_iret G hR dX5_drops_35 rfl rfl
  · replace hf := ifp c2 hf
    refine s_aload_n G dX5_drops_11 rfl ?_
    obtain ⟨q5, hq5, hf⟩ := bnd hf
    refine s_callV G dX5_drops_12 (c_X5_bad hq5) lkM_X5_50 yk_X5_bad yv_X5_bad (by decide) rfl rfl _ [] rfl rfl rfl (Nat.le_of_ble_eq_true rfl) (by decide) ?_
    replace hf := Option.some.inj hf
    subst hf
    exact s_iret G hR dX5_drops_15 rfl rfl
def f_X5_isFlag (a1 : Int32) (σ : St) : Option (Int32 × St) :=
if a1 = 0 then
    (some ((1 : Int32), σ))
  else
    (if a1 = (1 : Int32) then
      (some ((1 : Int32), σ))
    else
      (some ((0 : Int32), σ)))
abbrev mX5_isFlag : Me := (yX5_isFlag, cX5_isFlag, 1, (some .boolean), 0, 0)
set_option maxRecDepth 100000 in
set_option maxHeartbeats 4000000 in
theorem c_X5_isFlag {a1 : Int32} {σ : St} {res : Int32 × St} (hf : f_X5_isFlag a1 σ = some res) : Mt mX5_isFlag [.int a1] σ (some (.int res.1)) res.2 := by
  unfold f_X5_isFlag at hf
  refine mt_of (by decide) (Nat.le_of_ble_eq_true rfl) [some (.int a1)] rfl (fun Γ G hR => ?_)
  have G : OK Γ RX5 cX5_isFlag 1 (some .boolean) 0 0 := G
  refine s_iload_n G dX5_isFlag_0 rfl ?_
  refine s_if_eq (tgt := 9) G dX5_isFlag_1 (by decide) (fun c1 => ?_) (fun c1 => ?_)
  · replace hf := ifp c1 hf
    refine s_iconst G dX5_isFlag_9 (v := 1) (by decide) ?_
    refine s_goto (tgt := 14) G dX5_isFlag_10 (by decide) ?_
    replace hf := Option.some.inj hf
    subst hf
    exact s_zret G hR dX5_isFlag_14 (by decide) rfl rfl
  · replace hf := ifn c1 hf
    refine s_iload_n G dX5_isFlag_4 rfl ?_
    refine s_iconst G dX5_isFlag_5 (v := 1) (by decide) ?_
    refine s_icmp_ne (tgt := 13) G dX5_isFlag_6 (by decide) (fun c2 => ?_) (fun c2 => ?_)
    · replace hf := ifn c2 hf
      refine s_iconst G dX5_isFlag_13 (v := 0) (by decide) ?_
      replace hf := Option.some.inj hf
      subst hf
      exact s_zret G hR dX5_isFlag_14 (by decide) rfl rfl
    · replace hf := ifp c2 hf
      refine s_iconst G dX5_isFlag_9 (v := 1) (by decide) ?_
      refine s_goto (tgt := 14) G dX5_isFlag_10 (by decide) ?_
      replace hf := Option.some.inj hf
      subst hf
      exact s_zret G hR dX5_isFlag_14 (by decide) rfl rfl
def f_X5_switches (a1 : Int32) (a2 : Int32) (σ : St) : Option (Int32 × St) :=
(f_X0_hasLine 0 a1 σ).bind (fun q1 =>
  if q1.1 = 0 then
    ((f_X5_bad q1.2).bind (fun q3 =>
    some (q3.1, q3.2)))
  else
    ((f_X5_isFlag a2 q1.2).bind (fun q4 =>
    if q4.1 = 0 then
      ((f_X5_bad q4.2).bind (fun q10 =>
      some (q10.1, q10.2)))
    else
      ((f_X1_keep q4.2).bind (fun q6 =>
      if a2 = (1 : Int32) then
        ((f_X0_turn 0 a1 (1 : Int32) q6).bind (fun q9 =>
        some (q9.1, q9.2)))
      else
        ((f_X0_turn 0 a1 (0 : Int32) q6).bind (fun q8 =>
        some (q8.1, q8.2))))))))
abbrev mX5_switches : Me := (yX5_switches, cX5_switches, 3, (some .int), 2, 44)
set_option maxRecDepth 100000 in
set_option maxHeartbeats 4000000 in
theorem c_X5_switches {a1 : Int32} {a2 : Int32} {σ : St} {res : Int32 × St} (hf : f_X5_switches a1 a2 σ = some res) : Mt mX5_switches [.ref 0, .int a1, .int a2] σ (some (.int res.1)) res.2 := by
  unfold f_X5_switches at hf
  refine mt_of (by decide) (Nat.le_of_ble_eq_true rfl) [some (.ref 0), some (.int a1), some (.int a2)] rfl (fun Γ G hR => ?_)
  have G : OK Γ RX5 cX5_switches 3 (some .int) 2 44 := G
  refine s_aload_n G dX5_switches_0 rfl ?_
  refine s_getR G dX5_switches_1 lkF_X5_10 (by decide) rfl rfl ?_
  refine s_iload_n G dX5_switches_4 rfl ?_
  obtain ⟨q1, hq1, hf⟩ := bnd hf
  refine s_callV G dX5_switches_5 (c_X0_hasLine (by decide) hq1) lkM_X5_84 yk_X0_hasLine yv_X0_hasLine (by decide) rfl rfl _ [] rfl rfl rfl (Nat.le_of_ble_eq_true rfl) (by decide) ?_
  refine s_if_eq (tgt := 18) G dX5_switches_8 (by decide) (fun c2 => ?_) (fun c2 => ?_)
  · replace hf := ifp c2 hf
    refine s_aload_n G dX5_switches_18 rfl ?_
    obtain ⟨q3, hq3, hf⟩ := bnd hf
    refine s_callV G dX5_switches_19 (c_X5_bad hq3) lkM_X5_50 yk_X5_bad yv_X5_bad (by decide) rfl rfl _ [] rfl rfl rfl (Nat.le_of_ble_eq_true rfl) (by decide) ?_
    replace hf := Option.some.inj hf
    subst hf
    exact s_iret G hR dX5_switches_22 rfl rfl
  · replace hf := ifn c2 hf
    refine s_iload_n G dX5_switches_11 rfl ?_
    obtain ⟨q4, hq4, hf⟩ := bnd hf
    refine s_callS G dX5_switches_12 (c_X5_isFlag hq4) lkM_X5_90 yk_X5_isFlag ys_X5_isFlag _ [] rfl rfl rfl (Nat.le_of_ble_eq_true rfl) (by decide) ?_
    refine s_if_ne (tgt := 23) G dX5_switches_15 (by decide) (fun c5 => ?_) (fun c5 => ?_)
    · replace hf := ifn c5 hf
      refine s_aload_n G dX5_switches_23 rfl ?_
      refine s_getR G dX5_switches_24 lkF_X5_19 (by decide) rfl rfl ?_
      refine s_aload_n G dX5_switches_27 rfl ?_
      refine s_getR G dX5_switches_28 lkF_X5_10 (by decide) rfl rfl ?_
      obtain ⟨q6, hq6, hf⟩ := bnd hf
      refine s_callV G dX5_switches_31 (c_X1_keep hq6) lkM_X5_54 yk_X1_keep yv_X1_keep (by decide) rfl rfl _ [] rfl rfl rfl (Nat.le_of_ble_eq_true rfl) (by decide) ?_
      refine s_aload_n G dX5_switches_34 rfl ?_
      refine s_getR G dX5_switches_35 lkF_X5_10 (by decide) rfl rfl ?_
      refine s_iload_n G dX5_switches_38 rfl ?_
      refine s_iload_n G dX5_switches_39 rfl ?_
      refine s_iconst G dX5_switches_40 (v := 1) (by decide) ?_
      refine s_icmp_ne (tgt := 48) G dX5_switches_41 (by decide) (fun c7 => ?_) (fun c7 => ?_)
      · replace hf := ifn c7 hf
        refine s_iconst G dX5_switches_48 (v := 0) (by decide) ?_
        obtain ⟨q8, hq8, hf⟩ := bnd hf
        refine s_callV G dX5_switches_49 (c_X0_turn (by decide) hq8) lkM_X5_93 yk_X0_turn yv_X0_turn (by decide) rfl rfl _ [] rfl rfl rfl (Nat.le_of_ble_eq_true rfl) (by decide) ?_
        replace hf := Option.some.inj hf
        subst hf
        exact s_iret G hR dX5_switches_52 rfl rfl
      · replace hf := ifp c7 hf
        refine s_iconst G dX5_switches_44 (v := 1) (by decide) ?_
        refine s_goto (tgt := 49) G dX5_switches_45 (by decide) ?_
        obtain ⟨q9, hq9, hf⟩ := bnd hf
        refine s_callV G dX5_switches_49 (c_X0_turn (by decide) hq9) lkM_X5_93 yk_X0_turn yv_X0_turn (by decide) rfl rfl _ [] rfl rfl rfl (Nat.le_of_ble_eq_true rfl) (by decide) ?_
        replace hf := Option.some.inj hf
        subst hf
        exact s_iret G hR dX5_switches_52 rfl rfl
    · replace hf := ifp c5 hf
      refine s_aload_n G dX5_switches_18 rfl ?_
      obtain ⟨q10, hq10, hf⟩ := bnd hf
      refine s_callV G dX5_switches_19 (c_X5_bad hq10) lkM_X5_50 yk_X5_bad yv_X5_bad (by decide) rfl rfl _ [] rfl rfl rfl (Nat.le_of_ble_eq_true rfl) (by decide) ?_
      replace hf := Option.some.inj hf
      subst hf
      exact s_iret G hR dX5_switches_22 rfl rfl
def f_X5_sets (a1 : Int32) (a2 : Int32) (a3 : Int32) (σ : St) : Option (Int32 × St) :=
(f_X5_isFlag a2 σ).bind (fun q1 =>
  if q1.1 = 0 then
    ((f_X5_bad q1.2).bind (fun q14 =>
    some (q14.1, q14.2)))
  else
    (if a2 = 0 then
      ((f_X0_canStrengthen 0 a1 a3 q1.2).bind (fun q9 =>
      if q9.1 = 0 then
        ((f_X5_bad q9.2).bind (fun q13 =>
        some (q13.1, q13.2)))
      else
        ((f_X1_keep q9.2).bind (fun q11 =>
        (f_X0_strengthen 0 a1 a3 q11).bind (fun q12 =>
        some (q12.1, q12.2))))))
    else
      ((f_X0_canBound 0 a1 a3 q1.2).bind (fun q4 =>
      if q4.1 = 0 then
        ((f_X5_bad q4.2).bind (fun q8 =>
        some (q8.1, q8.2)))
      else
        ((f_X1_keep q4.2).bind (fun q6 =>
        (f_X0_bound 0 a1 a3 q6).bind (fun q7 =>
        some (q7.1, q7.2))))))))
abbrev mX5_sets : Me := (yX5_sets, cX5_sets, 4, (some .int), 2, 44)
set_option maxRecDepth 100000 in
set_option maxHeartbeats 4000000 in
theorem c_X5_sets {a1 : Int32} {a2 : Int32} {a3 : Int32} {σ : St} {res : Int32 × St} (hf : f_X5_sets a1 a2 a3 σ = some res) : Mt mX5_sets [.ref 0, .int a1, .int a2, .int a3] σ (some (.int res.1)) res.2 := by
  unfold f_X5_sets at hf
  refine mt_of (by decide) (Nat.le_of_ble_eq_true rfl) [some (.ref 0), some (.int a1), some (.int a2), some (.int a3)] rfl (fun Γ G hR => ?_)
  have G : OK Γ RX5 cX5_sets 4 (some .int) 2 44 := G
  refine s_iload_n G dX5_sets_0 rfl ?_
  obtain ⟨q1, hq1, hf⟩ := bnd hf
  refine s_callS G dX5_sets_1 (c_X5_isFlag hq1) lkM_X5_90 yk_X5_isFlag ys_X5_isFlag _ [] rfl rfl rfl (Nat.le_of_ble_eq_true rfl) (by decide) ?_
  refine s_if_ne (tgt := 12) G dX5_sets_4 (by decide) (fun c2 => ?_) (fun c2 => ?_)
  · replace hf := ifn c2 hf
    refine s_iload_n G dX5_sets_12 rfl ?_
    refine s_if_ne (tgt := 54) G dX5_sets_13 (by decide) (fun c3 => ?_) (fun c3 => ?_)
    · replace hf := ifn c3 hf
      refine s_aload_n G dX5_sets_54 rfl ?_
      refine s_getR G dX5_sets_55 lkF_X5_10 (by decide) rfl rfl ?_
      refine s_iload_n G dX5_sets_58 rfl ?_
      refine s_iload_n G dX5_sets_59 rfl ?_
      obtain ⟨q4, hq4, hf⟩ := bnd hf
      refine s_callV G dX5_sets_60 (c_X0_canBound (by decide) hq4) lkM_X5_103 yk_X0_canBound yv_X0_canBound (by decide) rfl rfl _ [] rfl rfl rfl (Nat.le_of_ble_eq_true rfl) (by decide) ?_
      refine s_if_ne (tgt := 71) G dX5_sets_63 (by decide) (fun c5 => ?_) (fun c5 => ?_)
      · replace hf := ifn c5 hf
        refine s_aload_n G dX5_sets_71 rfl ?_
        refine s_getR G dX5_sets_72 lkF_X5_19 (by decide) rfl rfl ?_
        refine s_aload_n G dX5_sets_75 rfl ?_
        refine s_getR G dX5_sets_76 lkF_X5_10 (by decide) rfl rfl ?_
        obtain ⟨q6, hq6, hf⟩ := bnd hf
        refine s_callV G dX5_sets_79 (c_X1_keep hq6) lkM_X5_54 yk_X1_keep yv_X1_keep (by decide) rfl rfl _ [] rfl rfl rfl (Nat.le_of_ble_eq_true rfl) (by decide) ?_
        refine s_aload_n G dX5_sets_82 rfl ?_
        refine s_getR G dX5_sets_83 lkF_X5_10 (by decide) rfl rfl ?_
        refine s_iload_n G dX5_sets_86 rfl ?_
        refine s_iload_n G dX5_sets_87 rfl ?_
        obtain ⟨q7, hq7, hf⟩ := bnd hf
        refine s_callV G dX5_sets_88 (c_X0_bound (by decide) hq7) lkM_X5_106 yk_X0_bound yv_X0_bound (by decide) rfl rfl _ [] rfl rfl rfl (Nat.le_of_ble_eq_true rfl) (by decide) ?_
        replace hf := Option.some.inj hf
        subst hf
        exact s_iret G hR dX5_sets_91 rfl rfl
      · replace hf := ifp c5 hf
        refine s_aload_n G dX5_sets_66 rfl ?_
        obtain ⟨q8, hq8, hf⟩ := bnd hf
        refine s_callV G dX5_sets_67 (c_X5_bad hq8) lkM_X5_50 yk_X5_bad yv_X5_bad (by decide) rfl rfl _ [] rfl rfl rfl (Nat.le_of_ble_eq_true rfl) (by decide) ?_
        replace hf := Option.some.inj hf
        subst hf
        exact s_iret G hR dX5_sets_70 rfl rfl
    · replace hf := ifp c3 hf
      refine s_aload_n G dX5_sets_16 rfl ?_
      refine s_getR G dX5_sets_17 lkF_X5_10 (by decide) rfl rfl ?_
      refine s_iload_n G dX5_sets_20 rfl ?_
      refine s_iload_n G dX5_sets_21 rfl ?_
      obtain ⟨q9, hq9, hf⟩ := bnd hf
      refine s_callV G dX5_sets_22 (c_X0_canStrengthen (by decide) hq9) lkM_X5_97 yk_X0_canStrengthen yv_X0_canStrengthen (by decide) rfl rfl _ [] rfl rfl rfl (Nat.le_of_ble_eq_true rfl) (by decide) ?_
      refine s_if_ne (tgt := 33) G dX5_sets_25 (by decide) (fun c10 => ?_) (fun c10 => ?_)
      · replace hf := ifn c10 hf
        refine s_aload_n G dX5_sets_33 rfl ?_
        refine s_getR G dX5_sets_34 lkF_X5_19 (by decide) rfl rfl ?_
        refine s_aload_n G dX5_sets_37 rfl ?_
        refine s_getR G dX5_sets_38 lkF_X5_10 (by decide) rfl rfl ?_
        obtain ⟨q11, hq11, hf⟩ := bnd hf
        refine s_callV G dX5_sets_41 (c_X1_keep hq11) lkM_X5_54 yk_X1_keep yv_X1_keep (by decide) rfl rfl _ [] rfl rfl rfl (Nat.le_of_ble_eq_true rfl) (by decide) ?_
        refine s_aload_n G dX5_sets_44 rfl ?_
        refine s_getR G dX5_sets_45 lkF_X5_10 (by decide) rfl rfl ?_
        refine s_iload_n G dX5_sets_48 rfl ?_
        refine s_iload_n G dX5_sets_49 rfl ?_
        obtain ⟨q12, hq12, hf⟩ := bnd hf
        refine s_callV G dX5_sets_50 (c_X0_strengthen (by decide) hq12) lkM_X5_100 yk_X0_strengthen yv_X0_strengthen (by decide) rfl rfl _ [] rfl rfl rfl (Nat.le_of_ble_eq_true rfl) (by decide) ?_
        replace hf := Option.some.inj hf
        subst hf
        exact s_iret G hR dX5_sets_53 rfl rfl
      · replace hf := ifp c10 hf
        refine s_aload_n G dX5_sets_28 rfl ?_
        obtain ⟨q13, hq13, hf⟩ := bnd hf
        refine s_callV G dX5_sets_29 (c_X5_bad hq13) lkM_X5_50 yk_X5_bad yv_X5_bad (by decide) rfl rfl _ [] rfl rfl rfl (Nat.le_of_ble_eq_true rfl) (by decide) ?_
        replace hf := Option.some.inj hf
        subst hf
        exact s_iret G hR dX5_sets_32 rfl rfl
  · replace hf := ifp c2 hf
    refine s_aload_n G dX5_sets_7 rfl ?_
    obtain ⟨q14, hq14, hf⟩ := bnd hf
    refine s_callV G dX5_sets_8 (c_X5_bad hq14) lkM_X5_50 yk_X5_bad yv_X5_bad (by decide) rfl rfl _ [] rfl rfl rfl (Nat.le_of_ble_eq_true rfl) (by decide) ?_
    replace hf := Option.some.inj hf
    subst hf
    exact s_iret G hR dX5_sets_11 rfl rfl
def f_X5_isBridge (a1 : Int32) (σ : St) : Option (Int32 × St) :=
chk (ib a1 10) (
  if (σ.1 30 a1.toNatClampNeg) = 0 then
    (some ((0 : Int32), σ))
  else
    ((f_X4_take a1 (-1 : Int32) σ).bind (fun q3 =>
    (f_X4_joins (q3.1 26 a1.toNatClampNeg) (q3.1 27 a1.toNatClampNeg) q3).bind (fun q4 =>
    if q4.1 = 0 then
      (some ((1 : Int32), q4.2))
    else
      (some ((0 : Int32), q4.2))))))
abbrev mX5_isBridge : Me := (yX5_isBridge, cX5_isBridge, 2, (some .boolean), 3, 69)
set_option maxRecDepth 100000 in
set_option maxHeartbeats 4000000 in
theorem c_X5_isBridge {a1 : Int32} {σ : St} {res : Int32 × St} (hf : f_X5_isBridge a1 σ = some res) : Mt mX5_isBridge [.ref 0, .int a1] σ (some (.int res.1)) res.2 := by
  unfold f_X5_isBridge at hf
  refine mt_of (by decide) (Nat.le_of_ble_eq_true rfl) [some (.ref 0), some (.int a1)] rfl (fun Γ G hR => ?_)
  have G : OK Γ RX5 cX5_isBridge 2 (some .boolean) 3 69 := G
  refine s_aload_n G dX5_isBridge_0 rfl ?_
  refine s_getR G dX5_isBridge_1 lkF_X5_10 (by decide) rfl rfl ?_
  refine s_getR G dX5_isBridge_4 lkF_X5_126 (by decide) rfl rfl ?_
  refine s_iload_n G dX5_isBridge_7 rfl ?_
  have h1 := chk_1 hf
  replace hf := chk_2 hf
  refine s_zald G dX5_isBridge_8 (by decide) rfl h1 ?_
  refine s_if_ne (tgt := 14) G dX5_isBridge_9 (by decide) (fun c2 => ?_) (fun c2 => ?_)
  · replace hf := ifn c2 hf
    refine s_aload_n G dX5_isBridge_14 rfl ?_
    refine s_getR G dX5_isBridge_15 lkF_X5_35 (by decide) rfl rfl ?_
    refine s_iload_n G dX5_isBridge_18 rfl ?_
    refine s_iconst G dX5_isBridge_19 (v := -1) (by decide) ?_
    obtain ⟨q3, hq3, hf⟩ := bnd hf
    refine s_callV G dX5_isBridge_20 (c_X4_take hq3) lkM_X5_133 yk_X4_take yv_X4_take (by decide) rfl rfl _ [] rfl rfl rfl (Nat.le_of_ble_eq_true rfl) (by decide) ?_
    refine s_aload_n G dX5_isBridge_23 rfl ?_
    refine s_getR G dX5_isBridge_24 lkF_X5_35 (by decide) rfl rfl ?_
    refine s_aload_n G dX5_isBridge_27 rfl ?_
    refine s_getR G dX5_isBridge_28 lkF_X5_10 (by decide) rfl rfl ?_
    refine s_getR G dX5_isBridge_31 lkF_X5_113 (by decide) rfl rfl ?_
    refine s_iload_n G dX5_isBridge_34 rfl ?_
    refine s_iald G dX5_isBridge_35 (by decide) rfl h1 ?_
    refine s_aload_n G dX5_isBridge_36 rfl ?_
    refine s_getR G dX5_isBridge_37 lkF_X5_10 (by decide) rfl rfl ?_
    refine s_getR G dX5_isBridge_40 lkF_X5_117 (by decide) rfl rfl ?_
    refine s_iload_n G dX5_isBridge_43 rfl ?_
    refine s_iald G dX5_isBridge_44 (by decide) rfl h1 ?_
    obtain ⟨q4, hq4, hf⟩ := bnd hf
    refine s_callV G dX5_isBridge_45 (c_X4_joins hq4) lkM_X5_225 yk_X4_joins yv_X4_joins (by decide) rfl rfl _ [] rfl rfl rfl (Nat.le_of_ble_eq_true rfl) (by decide) ?_
    refine s_if_ne (tgt := 55) G dX5_isBridge_48 (by decide) (fun c5 => ?_) (fun c5 => ?_)
    · replace hf := ifn c5 hf
      refine s_iconst G dX5_isBridge_55 (v := 0) (by decide) ?_
      replace hf := Option.some.inj hf
      subst hf
      exact s_zret G hR dX5_isBridge_56 (by decide) rfl rfl
    · replace hf := ifp c5 hf
      refine s_iconst G dX5_isBridge_51 (v := 1) (by decide) ?_
      refine s_goto (tgt := 56) G dX5_isBridge_52 (by decide) ?_
      replace hf := Option.some.inj hf
      subst hf
      exact s_zret G hR dX5_isBridge_56 (by decide) rfl rfl
  · replace hf := ifp c2 hf
    refine s_iconst G dX5_isBridge_12 (v := 0) (by decide) ?_
    replace hf := Option.some.inj hf
    subst hf
    exact s_zret G hR dX5_isBridge_13 (by decide) rfl rfl
def f_X5_of (a1 : Int32) (a2 : Int32) (σ : St) : Option (Int32 × St) :=
(f_X0_hasLine 0 a1 σ).bind (fun q1 =>
  if q1.1 = 0 then
    ((f_X5_bad q1.2).bind (fun q3 =>
    some (q3.1, q3.2)))
  else
    ((f_X5_within a2 (0 : Int32) (5 : Int32) q1.2).bind (fun q4 =>
    if q4.1 = 0 then
      ((f_X5_bad q4.2).bind (fun q19 =>
      some (q19.1, q19.2)))
    else
      (if a2 = 0 then
        (chk (ib a1 10) (
        some ((q4.2.1 26 a1.toNatClampNeg), q4.2)))
      else (if a2 = 1 then
        (chk (ib a1 10) (
        some ((q4.2.1 27 a1.toNatClampNeg), q4.2)))
      else (if a2 = 2 then
        (chk (ib a1 10) (
        some ((q4.2.1 28 a1.toNatClampNeg), q4.2)))
      else (if a2 = 3 then
        (chk (ib a1 10) (
        some ((q4.2.1 29 a1.toNatClampNeg), q4.2)))
      else (if a2 = 4 then
        (chk (ib a1 10) (
        if (q4.2.1 30 a1.toNatClampNeg) = 0 then
          (some ((0 : Int32), q4.2))
        else
          (some ((1 : Int32), q4.2))))
      else ((f_X5_isBridge a1 q4.2).bind (fun q17 =>
      if q17.1 = 0 then
        (some ((0 : Int32), q17.2))
      else
        (some ((1 : Int32), q17.2))))))))))))
abbrev mX5_of : Me := (yX5_of, cX5_of, 3, (some .int), 4, 90)
set_option maxRecDepth 100000 in
set_option maxHeartbeats 4000000 in
theorem c_X5_of {a1 : Int32} {a2 : Int32} {σ : St} {res : Int32 × St} (hf : f_X5_of a1 a2 σ = some res) : Mt mX5_of [.ref 0, .int a1, .int a2] σ (some (.int res.1)) res.2 := by
  unfold f_X5_of at hf
  refine mt_of (by decide) (Nat.le_of_ble_eq_true rfl) [some (.ref 0), some (.int a1), some (.int a2)] rfl (fun Γ G hR => ?_)
  have G : OK Γ RX5 cX5_of 3 (some .int) 4 90 := G
  refine s_aload_n G dX5_of_0 rfl ?_
  refine s_getR G dX5_of_1 lkF_X5_10 (by decide) rfl rfl ?_
  refine s_iload_n G dX5_of_4 rfl ?_
  obtain ⟨q1, hq1, hf⟩ := bnd hf
  refine s_callV G dX5_of_5 (c_X0_hasLine (by decide) hq1) lkM_X5_84 yk_X0_hasLine yv_X0_hasLine (by decide) rfl rfl _ [] rfl rfl rfl (Nat.le_of_ble_eq_true rfl) (by decide) ?_
  refine s_if_eq (tgt := 20) G dX5_of_8 (by decide) (fun c2 => ?_) (fun c2 => ?_)
  · replace hf := ifp c2 hf
    refine s_aload_n G dX5_of_20 rfl ?_
    obtain ⟨q3, hq3, hf⟩ := bnd hf
    refine s_callV G dX5_of_21 (c_X5_bad hq3) lkM_X5_50 yk_X5_bad yv_X5_bad (by decide) rfl rfl _ [] rfl rfl rfl (Nat.le_of_ble_eq_true rfl) (by decide) ?_
    replace hf := Option.some.inj hf
    subst hf
    exact s_iret G hR dX5_of_24 rfl rfl
  · replace hf := ifn c2 hf
    refine s_iload_n G dX5_of_11 rfl ?_
    refine s_iconst G dX5_of_12 (v := 0) (by decide) ?_
    refine s_iconst G dX5_of_13 (v := 5) (by decide) ?_
    obtain ⟨q4, hq4, hf⟩ := bnd hf
    refine s_callS G dX5_of_14 (c_X5_within hq4) lkM_X5_109 yk_X5_within ys_X5_within _ [] rfl rfl rfl (Nat.le_of_ble_eq_true rfl) (by decide) ?_
    refine s_if_ne (tgt := 25) G dX5_of_17 (by decide) (fun c5 => ?_) (fun c5 => ?_)
    · replace hf := ifn c5 hf
      refine s_iload_n G dX5_of_25 rfl ?_
      by_cases c6 : a2 = 0
      · replace hf := ifp c6 hf
        refine s_tabIn (tgt := 60) G dX5_of_26 (by rw [c6]; decide) (by rw [c6]; decide) (by rw [c6]; rfl) (by decide) ?_
        refine s_aload_n G dX5_of_60 rfl ?_
        refine s_getR G dX5_of_61 lkF_X5_10 (by decide) rfl rfl ?_
        refine s_getR G dX5_of_64 lkF_X5_113 (by decide) rfl rfl ?_
        refine s_iload_n G dX5_of_67 rfl ?_
        have h7 := chk_1 hf
        replace hf := chk_2 hf
        refine s_iald G dX5_of_68 (by decide) rfl h7 ?_
        replace hf := Option.some.inj hf
        subst hf
        exact s_iret G hR dX5_of_69 rfl rfl
      replace hf := ifn c6 hf
      by_cases c8 : a2 = 1
      · replace hf := ifp c8 hf
        refine s_tabIn (tgt := 70) G dX5_of_26 (by rw [c8]; decide) (by rw [c8]; decide) (by rw [c8]; rfl) (by decide) ?_
        refine s_aload_n G dX5_of_70 rfl ?_
        refine s_getR G dX5_of_71 lkF_X5_10 (by decide) rfl rfl ?_
        refine s_getR G dX5_of_74 lkF_X5_117 (by decide) rfl rfl ?_
        refine s_iload_n G dX5_of_77 rfl ?_
        have h9 := chk_1 hf
        replace hf := chk_2 hf
        refine s_iald G dX5_of_78 (by decide) rfl h9 ?_
        replace hf := Option.some.inj hf
        subst hf
        exact s_iret G hR dX5_of_79 rfl rfl
      replace hf := ifn c8 hf
      by_cases c10 : a2 = 2
      · replace hf := ifp c10 hf
        refine s_tabIn (tgt := 80) G dX5_of_26 (by rw [c10]; decide) (by rw [c10]; decide) (by rw [c10]; rfl) (by decide) ?_
        refine s_aload_n G dX5_of_80 rfl ?_
        refine s_getR G dX5_of_81 lkF_X5_10 (by decide) rfl rfl ?_
        refine s_getR G dX5_of_84 lkF_X5_120 (by decide) rfl rfl ?_
        refine s_iload_n G dX5_of_87 rfl ?_
        have h11 := chk_1 hf
        replace hf := chk_2 hf
        refine s_iald G dX5_of_88 (by decide) rfl h11 ?_
        replace hf := Option.some.inj hf
        subst hf
        exact s_iret G hR dX5_of_89 rfl rfl
      replace hf := ifn c10 hf
      by_cases c12 : a2 = 3
      · replace hf := ifp c12 hf
        refine s_tabIn (tgt := 90) G dX5_of_26 (by rw [c12]; decide) (by rw [c12]; decide) (by rw [c12]; rfl) (by decide) ?_
        refine s_aload_n G dX5_of_90 rfl ?_
        refine s_getR G dX5_of_91 lkF_X5_10 (by decide) rfl rfl ?_
        refine s_getR G dX5_of_94 lkF_X5_123 (by decide) rfl rfl ?_
        refine s_iload_n G dX5_of_97 rfl ?_
        have h13 := chk_1 hf
        replace hf := chk_2 hf
        refine s_iald G dX5_of_98 (by decide) rfl h13 ?_
        replace hf := Option.some.inj hf
        subst hf
        exact s_iret G hR dX5_of_99 rfl rfl
      replace hf := ifn c12 hf
      by_cases c14 : a2 = 4
      · replace hf := ifp c14 hf
        refine s_tabIn (tgt := 100) G dX5_of_26 (by rw [c14]; decide) (by rw [c14]; decide) (by rw [c14]; rfl) (by decide) ?_
        refine s_aload_n G dX5_of_100 rfl ?_
        refine s_getR G dX5_of_101 lkF_X5_10 (by decide) rfl rfl ?_
        refine s_getR G dX5_of_104 lkF_X5_126 (by decide) rfl rfl ?_
        refine s_iload_n G dX5_of_107 rfl ?_
        have h15 := chk_1 hf
        replace hf := chk_2 hf
        refine s_zald G dX5_of_108 (by decide) rfl h15 ?_
        refine s_if_eq (tgt := 116) G dX5_of_109 (by decide) (fun c16 => ?_) (fun c16 => ?_)
        · replace hf := ifp c16 hf
          refine s_iconst G dX5_of_116 (v := 0) (by decide) ?_
          replace hf := Option.some.inj hf
          subst hf
          exact s_iret G hR dX5_of_117 rfl rfl
        · replace hf := ifn c16 hf
          refine s_iconst G dX5_of_112 (v := 1) (by decide) ?_
          refine s_goto (tgt := 117) G dX5_of_113 (by decide) ?_
          replace hf := Option.some.inj hf
          subst hf
          exact s_iret G hR dX5_of_117 rfl rfl
      replace hf := ifn c14 hf
      refine s_tabOut (tgt := 118) G dX5_of_26 (tab_out 4 (by decide) (by intro k hk; match k, hk with | 0, _ => exact c6 | 1, _ => exact c8 | 2, _ => exact c10 | 3, _ => exact c12 | 4, _ => exact c14)) (by decide) ?_
      refine s_aload_n G dX5_of_118 rfl ?_
      refine s_iload_n G dX5_of_119 rfl ?_
      obtain ⟨q17, hq17, hf⟩ := bnd hf
      refine s_callV G dX5_of_120 (c_X5_isBridge hq17) lkM_X5_130 yk_X5_isBridge yv_X5_isBridge (by decide) rfl rfl _ [] rfl rfl rfl (Nat.le_of_ble_eq_true rfl) (by decide) ?_
      refine s_if_eq (tgt := 130) G dX5_of_123 (by decide) (fun c18 => ?_) (fun c18 => ?_)
      · replace hf := ifp c18 hf
        refine s_iconst G dX5_of_130 (v := 0) (by decide) ?_
        replace hf := Option.some.inj hf
        subst hf
        exact s_iret G hR dX5_of_131 rfl rfl
      · replace hf := ifn c18 hf
        refine s_iconst G dX5_of_126 (v := 1) (by decide) ?_
        refine s_goto (tgt := 131) G dX5_of_127 (by decide) ?_
        replace hf := Option.some.inj hf
        subst hf
        exact s_iret G hR dX5_of_131 rfl rfl
    · replace hf := ifp c5 hf
      refine s_aload_n G dX5_of_20 rfl ?_
      obtain ⟨q19, hq19, hf⟩ := bnd hf
      refine s_callV G dX5_of_21 (c_X5_bad hq19) lkM_X5_50 yk_X5_bad yv_X5_bad (by decide) rfl rfl _ [] rfl rfl rfl (Nat.le_of_ble_eq_true rfl) (by decide) ?_
      replace hf := Option.some.inj hf
      subst hf
      exact s_iret G hR dX5_of_24 rfl rfl
def f_X5_commonDivisor_9 (k5 : Int64 → St → Option (Int64 × St)) : Nat → Int64 → Int64 → Int32 → St → Option (Int64 × St)
  | 0, _, _, _, _ => none
  | n6 + 1, x1, x2, x3, σ4 =>
    if (100 : Int32) ≤ x3 then
      (k5 x1 σ4)
    else
      (if x2 = (0 : Int64) then
        (k5 x1 σ4)
      else
        (chk (decide (¬ x2 = 0)) (
        nm (x1 - x1 / x2 * x2) (fun x10 : Int64 =>
        f_X5_commonDivisor_9 k5 n6 x2 x10 (x3 + 1) σ4))))
def f_X5_commonDivisor (a1 : Int64) (a2 : Int64) (σ : St) : Option (Int64 × St) :=
f_X5_commonDivisor_9 (fun (x11 : Int64) (σ12 : St) =>
    some (x11, σ12)) 1000 a1 a2 (0 : Int32) σ
abbrev mX5_commonDivisor : Me := (yX5_commonDivisor, cX5_commonDivisor, 11, (some .long), 0, 0)
set_option maxRecDepth 100000 in
set_option maxHeartbeats 4000000 in
theorem l_X5_commonDivisor_9 {Γ : Cxt} (G : OK Γ RX5 cX5_commonDivisor 11 (some .long) 0 0) {res : Int64 × St} (hR : RetOK Γ (some (.long res.1)) res.2) (k5 : Int64 → St → Option (Int64 × St)) (hk : ∀ (y4 : Int64) (z : St), k5 y4 z = some res → WW Γ 44 [none, none, none, none, some (.long y4), none, none, none, none, none, none] [] z) : ∀ (n6 : Nat) (x1 : Int64) (x2 : Int64) (x3 : Int32) (σ4 : St), f_X5_commonDivisor_9 k5 n6 x1 x2 x3 σ4 = some res → WW Γ 9 [none, none, none, none, some (.long x1), none, some (.long x2), none, some (.int x3), none, none] [] σ4 := by
  intro n6
  induction n6 with
  | zero =>
    intro x1 x2 x3 σ4 hf
    cases hf
  | succ n6 ih =>
    intro x1 x2 x3 σ4 hf
    unfold f_X5_commonDivisor_9 at hf
    refine s_iload G dX5_commonDivisor_9 rfl ?_
    refine s_bipush G dX5_commonDivisor_11 (v := 100) (by decide) ?_
    refine s_icmp_ge (tgt := 44) G dX5_commonDivisor_13 (by decide) (fun c7 => ?_) (fun c7 => ?_)
    · replace hf := ifp c7 hf
      refine s_fgt [true, true, true, true, true, true, false, true, false, true, true] rfl ?_
      exact hk x1 σ4 hf
    · replace hf := ifn c7 hf
      refine s_lload G dX5_commonDivisor_16 rfl ?_
      refine s_lconst G dX5_commonDivisor_18 (v := 0) (by decide) ?_
      refine s_lif_eq (tgt := 44) (pc2 := 0) G dX5_commonDivisor_19 dX5_commonDivisor_20 (by decide) (fun c8 => ?_) (fun c8 => ?_)
      · replace hf := ifp c8 hf
        refine s_fgt [true, true, true, true, true, true, false, true, false, true, true] rfl ?_
        exact hk x1 σ4 hf
      · replace hf := ifn c8 hf
        refine s_lload G dX5_commonDivisor_23 rfl ?_
        refine s_lload G dX5_commonDivisor_25 rfl ?_
        have h9 := chk_1 hf
        replace hf := chk_2 hf
        refine s_lrem G dX5_commonDivisor_27 h9 ?_
        refine s_topl (fun x10 ex10 => ?_)
        replace hf := nm_at ex10 hf
        refine s_lstore G dX5_commonDivisor_28 (by decide) rfl rfl ?_
        refine s_lload G dX5_commonDivisor_30 rfl ?_
        refine s_lstore G dX5_commonDivisor_32 (by decide) rfl rfl ?_
        refine s_lload G dX5_commonDivisor_34 rfl ?_
        refine s_lstore G dX5_commonDivisor_36 (by decide) rfl rfl ?_
        refine s_iinc G dX5_commonDivisor_38 rfl (v := (x3 + 1)) rfl (by decide) rfl rfl ?_
        refine s_goto (tgt := 9) G dX5_commonDivisor_41 (by decide) ?_
        refine s_fgt [true, true, true, true, true, true, true, true, true, false, true] rfl ?_
        exact ih x2 x10 (x3 + 1) σ4 hf
set_option maxRecDepth 100000 in
set_option maxHeartbeats 4000000 in
theorem c_X5_commonDivisor {a1 : Int64} {a2 : Int64} {σ : St} {res : Int64 × St} (hf : f_X5_commonDivisor a1 a2 σ = some res) : Mt mX5_commonDivisor [.long a1, .long a2] σ (some (.long res.1)) res.2 := by
  unfold f_X5_commonDivisor at hf
  refine mt_of (by decide) (Nat.le_of_ble_eq_true rfl) [some (.long a1), none, some (.long a2), none, none, none, none, none, none, none, none] rfl (fun Γ G hR => ?_)
  have G : OK Γ RX5 cX5_commonDivisor 11 (some .long) 0 0 := G
  refine s_lload_n G dX5_commonDivisor_0 rfl ?_
  refine s_lstore G dX5_commonDivisor_1 (by decide) rfl rfl ?_
  refine s_lload_n G dX5_commonDivisor_3 rfl ?_
  refine s_lstore G dX5_commonDivisor_4 (by decide) rfl rfl ?_
  refine s_iconst G dX5_commonDivisor_6 (v := 0) (by decide) ?_
  refine s_istore G dX5_commonDivisor_7 (by decide) rfl rfl ?_
  refine s_fgt [false, true, false, true, true, true, true, true, true, true, true] rfl ?_
  refine l_X5_commonDivisor_9 G hR _ (fun x11 σ12 hf => ?_) 1000 a1 a2 (0 : Int32) σ hf
  refine s_lload G dX5_commonDivisor_44 rfl ?_
  replace hf := Option.some.inj hf
  subst hf
  exact s_lret G hR dX5_commonDivisor_46 rfl rfl
def f_X5_part (a1 : Int64) (a2 : Int64) (a3 : Int32) (σ : St) : Option (Int64 × St) :=
(f_X5_commonDivisor (if 0 < a1 then a1 else -a1) a2 σ).bind (fun q1 =>
  jn (fun q2 : Int64 × St =>
    (if q1.1 ≤ (1 : Int64) then
      (some (q2.1, q2.2))
    else
      (chk (decide (¬ q1.1 = 0)) (
      some ((q2.1 / q1.1), q2.2))))) (fun j3 =>
    if a3 = 0 then
      (j3 (a1, q1.2))
    else
      (j3 (a2, q1.2))))
abbrev mX5_part : Me := (yX5_part, cX5_part, 9, (some .long), 1, 30)
set_option maxRecDepth 100000 in
set_option maxHeartbeats 4000000 in
theorem c_X5_part {a1 : Int64} {a2 : Int64} {a3 : Int32} {σ : St} {res : Int64 × St} (hf : f_X5_part a1 a2 a3 σ = some res) : Mt mX5_part [.long a1, .long a2, .int a3] σ (some (.long res.1)) res.2 := by
  unfold f_X5_part at hf
  refine mt_of (by decide) (Nat.le_of_ble_eq_true rfl) [some (.long a1), none, some (.long a2), none, some (.int a3), none, none, none, none] rfl (fun Γ G hR => ?_)
  have G : OK Γ RX5 cX5_part 9 (some .long) 1 30 := G
  refine s_lload_n G dX5_part_0 rfl ?_
  refine s_mabsL G dX5_part_1 lkJ_X5_335 (Nat.le_of_ble_eq_true rfl) (by decide) ?_
  refine s_lload_n G dX5_part_4 rfl ?_
  obtain ⟨q1, hq1, hf⟩ := bnd hf
  refine s_callS G dX5_part_5 (c_X5_commonDivisor hq1) lkM_X5_339 yk_X5_commonDivisor ys_X5_commonDivisor _ [] rfl rfl rfl (Nat.le_of_ble_eq_true rfl) (by decide) ?_
  refine s_lstore G dX5_part_8 (by decide) rfl rfl ?_
  refine s_iload G dX5_part_10 rfl ?_
  refine jn_w (fun q2 : Int64 × St => WW Γ 20 [none, none, none, none, none, some (.long q1.1), none, none, none] [.long q2.1] q2.2) hf (fun q2 hf => ?_) (fun j3 hj3 hf => ?_)
  · refine s_lstore G dX5_part_20 (by decide) rfl rfl ?_
    refine s_lload G dX5_part_22 rfl ?_
    refine s_lconst G dX5_part_24 (v := 1) (by decide) ?_
    refine s_lif_le (tgt := 37) (pc2 := 0) G dX5_part_25 dX5_part_26 (by decide) (fun c4 => ?_) (fun c4 => ?_)
    · replace hf := ifp c4 hf
      refine s_lload G dX5_part_37 rfl ?_
      replace hf := Option.some.inj hf
      subst hf
      exact s_lret G hR dX5_part_39 rfl rfl
    · replace hf := ifn c4 hf
      refine s_lload G dX5_part_29 rfl ?_
      refine s_lload G dX5_part_31 rfl ?_
      have h5 := chk_1 hf
      replace hf := chk_2 hf
      refine s_ldiv G dX5_part_33 h5 ?_
      refine s_goto (tgt := 39) G dX5_part_34 (by decide) ?_
      replace hf := Option.some.inj hf
      subst hf
      exact s_lret G hR dX5_part_39 rfl rfl
  · refine s_if_ne (tgt := 19) G dX5_part_12 (by decide) (fun c6 => ?_) (fun c6 => ?_)
    · replace hf := ifn c6 hf
      refine s_lload_n G dX5_part_19 rfl ?_
      refine s_fgt [false, true, false, true, false, true, true, true, true] rfl ?_
      exact hj3 _ hf
    · replace hf := ifp c6 hf
      refine s_lload_n G dX5_part_15 rfl ?_
      refine s_goto (tgt := 20) G dX5_part_16 (by decide) ?_
      refine s_fgt [false, true, false, true, false, true, true, true, true] rfl ?_
      exact hj3 _ hf
def f_X5_flow (a1 : Int32) (a2 : Int32) (σ : St) : Option (Int64 × St) :=
(f_X0_hasLine 0 a1 σ).bind (fun q1 =>
  if q1.1 = 0 then
    ((f_X5_bad q1.2).bind (fun q3 =>
    some (q3.1.toInt64, q3.2)))
  else
    ((f_X5_isFlag a2 q1.2).bind (fun q4 =>
    if q4.1 = 0 then
      ((f_X5_bad q4.2).bind (fun q10 =>
      some (q10.1.toInt64, q10.2)))
    else
      ((f_X4_take (-1 : Int32) (-1 : Int32) q4.2).bind (fun q6 =>
      (f_X4_solve (-1 : Int32) (-1 : Int32) q6).bind (fun q7 =>
      chk (ib a1 10) (
      (f_X5_part (q7.2 17 a1.toNatClampNeg) (q7.2 6 7) a2 q7).bind (fun q9 =>
      some (q9.1, q9.2)))))))))
abbrev mX5_flow : Me := (yX5_flow, cX5_flow, 3, (some .long), 3, 69)
set_option maxRecDepth 100000 in
set_option maxHeartbeats 4000000 in
theorem c_X5_flow {a1 : Int32} {a2 : Int32} {σ : St} {res : Int64 × St} (hf : f_X5_flow a1 a2 σ = some res) : Mt mX5_flow [.ref 0, .int a1, .int a2] σ (some (.long res.1)) res.2 := by
  unfold f_X5_flow at hf
  refine mt_of (by decide) (Nat.le_of_ble_eq_true rfl) [some (.ref 0), some (.int a1), some (.int a2)] rfl (fun Γ G hR => ?_)
  have G : OK Γ RX5 cX5_flow 3 (some .long) 3 69 := G
  refine s_aload_n G dX5_flow_0 rfl ?_
  refine s_getR G dX5_flow_1 lkF_X5_10 (by decide) rfl rfl ?_
  refine s_iload_n G dX5_flow_4 rfl ?_
  obtain ⟨q1, hq1, hf⟩ := bnd hf
  refine s_callV G dX5_flow_5 (c_X0_hasLine (by decide) hq1) lkM_X5_84 yk_X0_hasLine yv_X0_hasLine (by decide) rfl rfl _ [] rfl rfl rfl (Nat.le_of_ble_eq_true rfl) (by decide) ?_
  refine s_if_eq (tgt := 18) G dX5_flow_8 (by decide) (fun c2 => ?_) (fun c2 => ?_)
  · replace hf := ifp c2 hf
    refine s_aload_n G dX5_flow_18 rfl ?_
    obtain ⟨q3, hq3, hf⟩ := bnd hf
    refine s_callV G dX5_flow_19 (c_X5_bad hq3) lkM_X5_50 yk_X5_bad yv_X5_bad (by decide) rfl rfl _ [] rfl rfl rfl (Nat.le_of_ble_eq_true rfl) (by decide) ?_
    refine s_i2l G dX5_flow_22 ?_
    replace hf := Option.some.inj hf
    subst hf
    exact s_lret G hR dX5_flow_23 rfl rfl
  · replace hf := ifn c2 hf
    refine s_iload_n G dX5_flow_11 rfl ?_
    obtain ⟨q4, hq4, hf⟩ := bnd hf
    refine s_callS G dX5_flow_12 (c_X5_isFlag hq4) lkM_X5_90 yk_X5_isFlag ys_X5_isFlag _ [] rfl rfl rfl (Nat.le_of_ble_eq_true rfl) (by decide) ?_
    refine s_if_ne (tgt := 24) G dX5_flow_15 (by decide) (fun c5 => ?_) (fun c5 => ?_)
    · replace hf := ifn c5 hf
      refine s_aload_n G dX5_flow_24 rfl ?_
      refine s_getR G dX5_flow_25 lkF_X5_35 (by decide) rfl rfl ?_
      refine s_iconst G dX5_flow_28 (v := -1) (by decide) ?_
      refine s_iconst G dX5_flow_29 (v := -1) (by decide) ?_
      obtain ⟨q6, hq6, hf⟩ := bnd hf
      refine s_callV G dX5_flow_30 (c_X4_take hq6) lkM_X5_133 yk_X4_take yv_X4_take (by decide) rfl rfl _ [] rfl rfl rfl (Nat.le_of_ble_eq_true rfl) (by decide) ?_
      refine s_aload_n G dX5_flow_33 rfl ?_
      refine s_getR G dX5_flow_34 lkF_X5_35 (by decide) rfl rfl ?_
      refine s_iconst G dX5_flow_37 (v := -1) (by decide) ?_
      refine s_iconst G dX5_flow_38 (v := -1) (by decide) ?_
      obtain ⟨q7, hq7, hf⟩ := bnd hf
      refine s_callV G dX5_flow_39 (c_X4_solve hq7) lkM_X5_137 yk_X4_solve yv_X4_solve (by decide) rfl rfl _ [] rfl rfl rfl (Nat.le_of_ble_eq_true rfl) (by decide) ?_
      refine s_aload_n G dX5_flow_42 rfl ?_
      refine s_getR G dX5_flow_43 lkF_X5_35 (by decide) rfl rfl ?_
      refine s_getR G dX5_flow_46 lkF_X5_140 (by decide) rfl rfl ?_
      refine s_iload_n G dX5_flow_49 rfl ?_
      have h8 := chk_1 hf
      replace hf := chk_2 hf
      refine s_lald G dX5_flow_50 (by decide) rfl h8 ?_
      refine s_aload_n G dX5_flow_51 rfl ?_
      refine s_getR G dX5_flow_52 lkF_X5_35 (by decide) rfl rfl ?_
      refine s_getL (n := 0) G dX5_flow_55 lkF_X5_144 (by decide) rfl rfl ?_
      refine s_iload_n G dX5_flow_58 rfl ?_
      obtain ⟨q9, hq9, hf⟩ := bnd hf
      refine s_callS G dX5_flow_59 (c_X5_part hq9) lkM_X5_148 yk_X5_part ys_X5_part _ [] rfl rfl rfl (Nat.le_of_ble_eq_true rfl) (by decide) ?_
      replace hf := Option.some.inj hf
      subst hf
      exact s_lret G hR dX5_flow_62 rfl rfl
    · replace hf := ifp c5 hf
      refine s_aload_n G dX5_flow_18 rfl ?_
      obtain ⟨q10, hq10, hf⟩ := bnd hf
      refine s_callV G dX5_flow_19 (c_X5_bad hq10) lkM_X5_50 yk_X5_bad yv_X5_bad (by decide) rfl rfl _ [] rfl rfl rfl (Nat.le_of_ble_eq_true rfl) (by decide) ?_
      refine s_i2l G dX5_flow_22 ?_
      replace hf := Option.some.inj hf
      subst hf
      exact s_lret G hR dX5_flow_23 rfl rfl
def f_X5_angle (a1 : Int32) (a2 : Int32) (σ : St) : Option (Int64 × St) :=
(f_X0_hasBus 0 a1 σ).bind (fun q1 =>
  if q1.1 = 0 then
    ((f_X5_bad q1.2).bind (fun q3 =>
    some (q3.1.toInt64, q3.2)))
  else
    ((f_X5_isFlag a2 q1.2).bind (fun q4 =>
    if q4.1 = 0 then
      ((f_X5_bad q4.2).bind (fun q10 =>
      some (q10.1.toInt64, q10.2)))
    else
      ((f_X4_take (-1 : Int32) (-1 : Int32) q4.2).bind (fun q6 =>
      (f_X4_solve (-1 : Int32) (-1 : Int32) q6).bind (fun q7 =>
      chk (ib a1 6) (
      (f_X5_part (q7.2 16 a1.toNatClampNeg) (q7.2 6 7) a2 q7).bind (fun q9 =>
      some (q9.1, q9.2)))))))))
abbrev mX5_angle : Me := (yX5_angle, cX5_angle, 3, (some .long), 3, 69)
set_option maxRecDepth 100000 in
set_option maxHeartbeats 4000000 in
theorem c_X5_angle {a1 : Int32} {a2 : Int32} {σ : St} {res : Int64 × St} (hf : f_X5_angle a1 a2 σ = some res) : Mt mX5_angle [.ref 0, .int a1, .int a2] σ (some (.long res.1)) res.2 := by
  unfold f_X5_angle at hf
  refine mt_of (by decide) (Nat.le_of_ble_eq_true rfl) [some (.ref 0), some (.int a1), some (.int a2)] rfl (fun Γ G hR => ?_)
  have G : OK Γ RX5 cX5_angle 3 (some .long) 3 69 := G
  refine s_aload_n G dX5_angle_0 rfl ?_
  refine s_getR G dX5_angle_1 lkF_X5_10 (by decide) rfl rfl ?_
  refine s_iload_n G dX5_angle_4 rfl ?_
  obtain ⟨q1, hq1, hf⟩ := bnd hf
  refine s_callV G dX5_angle_5 (c_X0_hasBus (by decide) hq1) lkM_X5_152 yk_X0_hasBus yv_X0_hasBus (by decide) rfl rfl _ [] rfl rfl rfl (Nat.le_of_ble_eq_true rfl) (by decide) ?_
  refine s_if_eq (tgt := 18) G dX5_angle_8 (by decide) (fun c2 => ?_) (fun c2 => ?_)
  · replace hf := ifp c2 hf
    refine s_aload_n G dX5_angle_18 rfl ?_
    obtain ⟨q3, hq3, hf⟩ := bnd hf
    refine s_callV G dX5_angle_19 (c_X5_bad hq3) lkM_X5_50 yk_X5_bad yv_X5_bad (by decide) rfl rfl _ [] rfl rfl rfl (Nat.le_of_ble_eq_true rfl) (by decide) ?_
    refine s_i2l G dX5_angle_22 ?_
    replace hf := Option.some.inj hf
    subst hf
    exact s_lret G hR dX5_angle_23 rfl rfl
  · replace hf := ifn c2 hf
    refine s_iload_n G dX5_angle_11 rfl ?_
    obtain ⟨q4, hq4, hf⟩ := bnd hf
    refine s_callS G dX5_angle_12 (c_X5_isFlag hq4) lkM_X5_90 yk_X5_isFlag ys_X5_isFlag _ [] rfl rfl rfl (Nat.le_of_ble_eq_true rfl) (by decide) ?_
    refine s_if_ne (tgt := 24) G dX5_angle_15 (by decide) (fun c5 => ?_) (fun c5 => ?_)
    · replace hf := ifn c5 hf
      refine s_aload_n G dX5_angle_24 rfl ?_
      refine s_getR G dX5_angle_25 lkF_X5_35 (by decide) rfl rfl ?_
      refine s_iconst G dX5_angle_28 (v := -1) (by decide) ?_
      refine s_iconst G dX5_angle_29 (v := -1) (by decide) ?_
      obtain ⟨q6, hq6, hf⟩ := bnd hf
      refine s_callV G dX5_angle_30 (c_X4_take hq6) lkM_X5_133 yk_X4_take yv_X4_take (by decide) rfl rfl _ [] rfl rfl rfl (Nat.le_of_ble_eq_true rfl) (by decide) ?_
      refine s_aload_n G dX5_angle_33 rfl ?_
      refine s_getR G dX5_angle_34 lkF_X5_35 (by decide) rfl rfl ?_
      refine s_iconst G dX5_angle_37 (v := -1) (by decide) ?_
      refine s_iconst G dX5_angle_38 (v := -1) (by decide) ?_
      obtain ⟨q7, hq7, hf⟩ := bnd hf
      refine s_callV G dX5_angle_39 (c_X4_solve hq7) lkM_X5_137 yk_X4_solve yv_X4_solve (by decide) rfl rfl _ [] rfl rfl rfl (Nat.le_of_ble_eq_true rfl) (by decide) ?_
      refine s_aload_n G dX5_angle_42 rfl ?_
      refine s_getR G dX5_angle_43 lkF_X5_35 (by decide) rfl rfl ?_
      refine s_getR G dX5_angle_46 lkF_X5_155 (by decide) rfl rfl ?_
      refine s_iload_n G dX5_angle_49 rfl ?_
      have h8 := chk_1 hf
      replace hf := chk_2 hf
      refine s_lald G dX5_angle_50 (by decide) rfl h8 ?_
      refine s_aload_n G dX5_angle_51 rfl ?_
      refine s_getR G dX5_angle_52 lkF_X5_35 (by decide) rfl rfl ?_
      refine s_getL (n := 0) G dX5_angle_55 lkF_X5_144 (by decide) rfl rfl ?_
      refine s_iload_n G dX5_angle_58 rfl ?_
      obtain ⟨q9, hq9, hf⟩ := bnd hf
      refine s_callS G dX5_angle_59 (c_X5_part hq9) lkM_X5_148 yk_X5_part ys_X5_part _ [] rfl rfl rfl (Nat.le_of_ble_eq_true rfl) (by decide) ?_
      replace hf := Option.some.inj hf
      subst hf
      exact s_lret G hR dX5_angle_62 rfl rfl
    · replace hf := ifp c5 hf
      refine s_aload_n G dX5_angle_18 rfl ?_
      obtain ⟨q10, hq10, hf⟩ := bnd hf
      refine s_callV G dX5_angle_19 (c_X5_bad hq10) lkM_X5_50 yk_X5_bad yv_X5_bad (by decide) rfl rfl _ [] rfl rfl rfl (Nat.le_of_ble_eq_true rfl) (by decide) ?_
      refine s_i2l G dX5_angle_22 ?_
      replace hf := Option.some.inj hf
      subst hf
      exact s_lret G hR dX5_angle_23 rfl rfl
def f_X5_factor (a1 : Int32) (a2 : Int32) (a3 : Int32) (σ : St) : Option (Int64 × St) :=
(f_X0_hasLine 0 a1 σ).bind (fun q1 =>
  if q1.1 = 0 then
    ((f_X5_bad q1.2).bind (fun q3 =>
    some (q3.1.toInt64, q3.2)))
  else
    ((f_X0_hasBus 0 a2 q1.2).bind (fun q4 =>
    if q4.1 = 0 then
      ((f_X5_bad q4.2).bind (fun q6 =>
      some (q6.1.toInt64, q6.2)))
    else
      ((f_X5_isFlag a3 q4.2).bind (fun q7 =>
      if q7.1 = 0 then
        ((f_X5_bad q7.2).bind (fun q13 =>
        some (q13.1.toInt64, q13.2)))
      else
        ((f_X4_take (-1 : Int32) (-1 : Int32) q7.2).bind (fun q9 =>
        (f_X4_solve a2 (-1 : Int32) q9).bind (fun q10 =>
        chk (ib a1 10) (
        (f_X5_part (q10.2 18 a1.toNatClampNeg) (q10.2 6 7) a3 q10).bind (fun q12 =>
        some (q12.1, q12.2)))))))))))
abbrev mX5_factor : Me := (yX5_factor, cX5_factor, 4, (some .long), 3, 69)
set_option maxRecDepth 100000 in
set_option maxHeartbeats 4000000 in
theorem c_X5_factor {a1 : Int32} {a2 : Int32} {a3 : Int32} {σ : St} {res : Int64 × St} (hf : f_X5_factor a1 a2 a3 σ = some res) : Mt mX5_factor [.ref 0, .int a1, .int a2, .int a3] σ (some (.long res.1)) res.2 := by
  unfold f_X5_factor at hf
  refine mt_of (by decide) (Nat.le_of_ble_eq_true rfl) [some (.ref 0), some (.int a1), some (.int a2), some (.int a3)] rfl (fun Γ G hR => ?_)
  have G : OK Γ RX5 cX5_factor 4 (some .long) 3 69 := G
  refine s_aload_n G dX5_factor_0 rfl ?_
  refine s_getR G dX5_factor_1 lkF_X5_10 (by decide) rfl rfl ?_
  refine s_iload_n G dX5_factor_4 rfl ?_
  obtain ⟨q1, hq1, hf⟩ := bnd hf
  refine s_callV G dX5_factor_5 (c_X0_hasLine (by decide) hq1) lkM_X5_84 yk_X0_hasLine yv_X0_hasLine (by decide) rfl rfl _ [] rfl rfl rfl (Nat.le_of_ble_eq_true rfl) (by decide) ?_
  refine s_if_eq (tgt := 29) G dX5_factor_8 (by decide) (fun c2 => ?_) (fun c2 => ?_)
  · replace hf := ifp c2 hf
    refine s_aload_n G dX5_factor_29 rfl ?_
    obtain ⟨q3, hq3, hf⟩ := bnd hf
    refine s_callV G dX5_factor_30 (c_X5_bad hq3) lkM_X5_50 yk_X5_bad yv_X5_bad (by decide) rfl rfl _ [] rfl rfl rfl (Nat.le_of_ble_eq_true rfl) (by decide) ?_
    refine s_i2l G dX5_factor_33 ?_
    replace hf := Option.some.inj hf
    subst hf
    exact s_lret G hR dX5_factor_34 rfl rfl
  · replace hf := ifn c2 hf
    refine s_aload_n G dX5_factor_11 rfl ?_
    refine s_getR G dX5_factor_12 lkF_X5_10 (by decide) rfl rfl ?_
    refine s_iload_n G dX5_factor_15 rfl ?_
    obtain ⟨q4, hq4, hf⟩ := bnd hf
    refine s_callV G dX5_factor_16 (c_X0_hasBus (by decide) hq4) lkM_X5_152 yk_X0_hasBus yv_X0_hasBus (by decide) rfl rfl _ [] rfl rfl rfl (Nat.le_of_ble_eq_true rfl) (by decide) ?_
    refine s_if_eq (tgt := 29) G dX5_factor_19 (by decide) (fun c5 => ?_) (fun c5 => ?_)
    · replace hf := ifp c5 hf
      refine s_aload_n G dX5_factor_29 rfl ?_
      obtain ⟨q6, hq6, hf⟩ := bnd hf
      refine s_callV G dX5_factor_30 (c_X5_bad hq6) lkM_X5_50 yk_X5_bad yv_X5_bad (by decide) rfl rfl _ [] rfl rfl rfl (Nat.le_of_ble_eq_true rfl) (by decide) ?_
      refine s_i2l G dX5_factor_33 ?_
      replace hf := Option.some.inj hf
      subst hf
      exact s_lret G hR dX5_factor_34 rfl rfl
    · replace hf := ifn c5 hf
      refine s_iload_n G dX5_factor_22 rfl ?_
      obtain ⟨q7, hq7, hf⟩ := bnd hf
      refine s_callS G dX5_factor_23 (c_X5_isFlag hq7) lkM_X5_90 yk_X5_isFlag ys_X5_isFlag _ [] rfl rfl rfl (Nat.le_of_ble_eq_true rfl) (by decide) ?_
      refine s_if_ne (tgt := 35) G dX5_factor_26 (by decide) (fun c8 => ?_) (fun c8 => ?_)
      · replace hf := ifn c8 hf
        refine s_aload_n G dX5_factor_35 rfl ?_
        refine s_getR G dX5_factor_36 lkF_X5_35 (by decide) rfl rfl ?_
        refine s_iconst G dX5_factor_39 (v := -1) (by decide) ?_
        refine s_iconst G dX5_factor_40 (v := -1) (by decide) ?_
        obtain ⟨q9, hq9, hf⟩ := bnd hf
        refine s_callV G dX5_factor_41 (c_X4_take hq9) lkM_X5_133 yk_X4_take yv_X4_take (by decide) rfl rfl _ [] rfl rfl rfl (Nat.le_of_ble_eq_true rfl) (by decide) ?_
        refine s_aload_n G dX5_factor_44 rfl ?_
        refine s_getR G dX5_factor_45 lkF_X5_35 (by decide) rfl rfl ?_
        refine s_iload_n G dX5_factor_48 rfl ?_
        refine s_iconst G dX5_factor_49 (v := -1) (by decide) ?_
        obtain ⟨q10, hq10, hf⟩ := bnd hf
        refine s_callV G dX5_factor_50 (c_X4_solve hq10) lkM_X5_137 yk_X4_solve yv_X4_solve (by decide) rfl rfl _ [] rfl rfl rfl (Nat.le_of_ble_eq_true rfl) (by decide) ?_
        refine s_aload_n G dX5_factor_53 rfl ?_
        refine s_getR G dX5_factor_54 lkF_X5_35 (by decide) rfl rfl ?_
        refine s_getR G dX5_factor_57 lkF_X5_158 (by decide) rfl rfl ?_
        refine s_iload_n G dX5_factor_60 rfl ?_
        have h11 := chk_1 hf
        replace hf := chk_2 hf
        refine s_lald G dX5_factor_61 (by decide) rfl h11 ?_
        refine s_aload_n G dX5_factor_62 rfl ?_
        refine s_getR G dX5_factor_63 lkF_X5_35 (by decide) rfl rfl ?_
        refine s_getL (n := 0) G dX5_factor_66 lkF_X5_144 (by decide) rfl rfl ?_
        refine s_iload_n G dX5_factor_69 rfl ?_
        obtain ⟨q12, hq12, hf⟩ := bnd hf
        refine s_callS G dX5_factor_70 (c_X5_part hq12) lkM_X5_148 yk_X5_part ys_X5_part _ [] rfl rfl rfl (Nat.le_of_ble_eq_true rfl) (by decide) ?_
        replace hf := Option.some.inj hf
        subst hf
        exact s_lret G hR dX5_factor_73 rfl rfl
      · replace hf := ifp c8 hf
        refine s_aload_n G dX5_factor_29 rfl ?_
        obtain ⟨q13, hq13, hf⟩ := bnd hf
        refine s_callV G dX5_factor_30 (c_X5_bad hq13) lkM_X5_50 yk_X5_bad yv_X5_bad (by decide) rfl rfl _ [] rfl rfl rfl (Nat.le_of_ble_eq_true rfl) (by decide) ?_
        refine s_i2l G dX5_factor_33 ?_
        replace hf := Option.some.inj hf
        subst hf
        exact s_lret G hR dX5_factor_34 rfl rfl
def f_X5_island (a1 : Int32) (σ : St) : Option (Int32 × St) :=
(f_X0_hasBus 0 a1 σ).bind (fun q1 =>
  if q1.1 = 0 then
    ((f_X5_bad q1.2).bind (fun q5 =>
    some (q5.1, q5.2)))
  else
    ((f_X4_take (-1 : Int32) (-1 : Int32) q1.2).bind (fun q3 =>
    chk (ib a1 6) (
    some ((q3.1 8 a1.toNatClampNeg), q3)))))
abbrev mX5_island : Me := (yX5_island, cX5_island, 2, (some .int), 3, 69)
set_option maxRecDepth 100000 in
set_option maxHeartbeats 4000000 in
theorem c_X5_island {a1 : Int32} {σ : St} {res : Int32 × St} (hf : f_X5_island a1 σ = some res) : Mt mX5_island [.ref 0, .int a1] σ (some (.int res.1)) res.2 := by
  unfold f_X5_island at hf
  refine mt_of (by decide) (Nat.le_of_ble_eq_true rfl) [some (.ref 0), some (.int a1)] rfl (fun Γ G hR => ?_)
  have G : OK Γ RX5 cX5_island 2 (some .int) 3 69 := G
  refine s_aload_n G dX5_island_0 rfl ?_
  refine s_getR G dX5_island_1 lkF_X5_10 (by decide) rfl rfl ?_
  refine s_iload_n G dX5_island_4 rfl ?_
  obtain ⟨q1, hq1, hf⟩ := bnd hf
  refine s_callV G dX5_island_5 (c_X0_hasBus (by decide) hq1) lkM_X5_152 yk_X0_hasBus yv_X0_hasBus (by decide) rfl rfl _ [] rfl rfl rfl (Nat.le_of_ble_eq_true rfl) (by decide) ?_
  refine s_if_ne (tgt := 16) G dX5_island_8 (by decide) (fun c2 => ?_) (fun c2 => ?_)
  · replace hf := ifn c2 hf
    refine s_aload_n G dX5_island_16 rfl ?_
    refine s_getR G dX5_island_17 lkF_X5_35 (by decide) rfl rfl ?_
    refine s_iconst G dX5_island_20 (v := -1) (by decide) ?_
    refine s_iconst G dX5_island_21 (v := -1) (by decide) ?_
    obtain ⟨q3, hq3, hf⟩ := bnd hf
    refine s_callV G dX5_island_22 (c_X4_take hq3) lkM_X5_133 yk_X4_take yv_X4_take (by decide) rfl rfl _ [] rfl rfl rfl (Nat.le_of_ble_eq_true rfl) (by decide) ?_
    refine s_aload_n G dX5_island_25 rfl ?_
    refine s_getR G dX5_island_26 lkF_X5_35 (by decide) rfl rfl ?_
    refine s_getR G dX5_island_29 lkF_X5_161 (by decide) rfl rfl ?_
    refine s_iload_n G dX5_island_32 rfl ?_
    have h4 := chk_1 hf
    replace hf := chk_2 hf
    refine s_iald G dX5_island_33 (by decide) rfl h4 ?_
    replace hf := Option.some.inj hf
    subst hf
    exact s_iret G hR dX5_island_34 rfl rfl
  · replace hf := ifp c2 hf
    refine s_aload_n G dX5_island_11 rfl ?_
    obtain ⟨q5, hq5, hf⟩ := bnd hf
    refine s_callV G dX5_island_12 (c_X5_bad hq5) lkM_X5_50 yk_X5_bad yv_X5_bad (by decide) rfl rfl _ [] rfl rfl rfl (Nat.le_of_ble_eq_true rfl) (by decide) ?_
    replace hf := Option.some.inj hf
    subst hf
    exact s_iret G hR dX5_island_15 rfl rfl
def f_X5_trees (a1 : Int32) (σ : St) : Option (Int64 × St) :=
(f_X0_hasBus 0 a1 σ).bind (fun q1 =>
  if q1.1 = 0 then
    ((f_X5_bad q1.2).bind (fun q6 =>
    some (q6.1.toInt64, q6.2)))
  else
    ((f_X4_take (-1 : Int32) (-1 : Int32) q1.2).bind (fun q3 =>
    (f_X4_narrow a1 q3).bind (fun q4 =>
    (f_X4_solve (-1 : Int32) (-1 : Int32) q4).bind (fun q5 =>
    some ((q5.2 6 7), q5))))))
abbrev mX5_trees : Me := (yX5_trees, cX5_trees, 2, (some .long), 3, 69)
set_option maxRecDepth 100000 in
set_option maxHeartbeats 4000000 in
theorem c_X5_trees {a1 : Int32} {σ : St} {res : Int64 × St} (hf : f_X5_trees a1 σ = some res) : Mt mX5_trees [.ref 0, .int a1] σ (some (.long res.1)) res.2 := by
  unfold f_X5_trees at hf
  refine mt_of (by decide) (Nat.le_of_ble_eq_true rfl) [some (.ref 0), some (.int a1)] rfl (fun Γ G hR => ?_)
  have G : OK Γ RX5 cX5_trees 2 (some .long) 3 69 := G
  refine s_aload_n G dX5_trees_0 rfl ?_
  refine s_getR G dX5_trees_1 lkF_X5_10 (by decide) rfl rfl ?_
  refine s_iload_n G dX5_trees_4 rfl ?_
  obtain ⟨q1, hq1, hf⟩ := bnd hf
  refine s_callV G dX5_trees_5 (c_X0_hasBus (by decide) hq1) lkM_X5_152 yk_X0_hasBus yv_X0_hasBus (by decide) rfl rfl _ [] rfl rfl rfl (Nat.le_of_ble_eq_true rfl) (by decide) ?_
  refine s_if_ne (tgt := 17) G dX5_trees_8 (by decide) (fun c2 => ?_) (fun c2 => ?_)
  · replace hf := ifn c2 hf
    refine s_aload_n G dX5_trees_17 rfl ?_
    refine s_getR G dX5_trees_18 lkF_X5_35 (by decide) rfl rfl ?_
    refine s_iconst G dX5_trees_21 (v := -1) (by decide) ?_
    refine s_iconst G dX5_trees_22 (v := -1) (by decide) ?_
    obtain ⟨q3, hq3, hf⟩ := bnd hf
    refine s_callV G dX5_trees_23 (c_X4_take hq3) lkM_X5_133 yk_X4_take yv_X4_take (by decide) rfl rfl _ [] rfl rfl rfl (Nat.le_of_ble_eq_true rfl) (by decide) ?_
    refine s_aload_n G dX5_trees_26 rfl ?_
    refine s_getR G dX5_trees_27 lkF_X5_35 (by decide) rfl rfl ?_
    refine s_iload_n G dX5_trees_30 rfl ?_
    obtain ⟨q4, hq4, hf⟩ := bnd hf
    refine s_callV G dX5_trees_31 (c_X4_narrow hq4) lkM_X5_164 yk_X4_narrow yv_X4_narrow (by decide) rfl rfl _ [] rfl rfl rfl (Nat.le_of_ble_eq_true rfl) (by decide) ?_
    refine s_aload_n G dX5_trees_34 rfl ?_
    refine s_getR G dX5_trees_35 lkF_X5_35 (by decide) rfl rfl ?_
    refine s_iconst G dX5_trees_38 (v := -1) (by decide) ?_
    refine s_iconst G dX5_trees_39 (v := -1) (by decide) ?_
    obtain ⟨q5, hq5, hf⟩ := bnd hf
    refine s_callV G dX5_trees_40 (c_X4_solve hq5) lkM_X5_137 yk_X4_solve yv_X4_solve (by decide) rfl rfl _ [] rfl rfl rfl (Nat.le_of_ble_eq_true rfl) (by decide) ?_
    refine s_aload_n G dX5_trees_43 rfl ?_
    refine s_getR G dX5_trees_44 lkF_X5_35 (by decide) rfl rfl ?_
    refine s_getL (n := 0) G dX5_trees_47 lkF_X5_144 (by decide) rfl rfl ?_
    replace hf := Option.some.inj hf
    subst hf
    exact s_lret G hR dX5_trees_50 rfl rfl
  · replace hf := ifp c2 hf
    refine s_aload_n G dX5_trees_11 rfl ?_
    obtain ⟨q6, hq6, hf⟩ := bnd hf
    refine s_callV G dX5_trees_12 (c_X5_bad hq6) lkM_X5_50 yk_X5_bad yv_X5_bad (by decide) rfl rfl _ [] rfl rfl rfl (Nat.le_of_ble_eq_true rfl) (by decide) ?_
    refine s_i2l G dX5_trees_15 ?_
    replace hf := Option.some.inj hf
    subst hf
    exact s_lret G hR dX5_trees_16 rfl rfl
def f_X5_fed (a1 : Int32) (σ : St) : Option (Int32 × St) :=
(f_X0_hasBus 0 a1 σ).bind (fun q1 =>
  if q1.1 = 0 then
    ((f_X5_bad q1.2).bind (fun q7 =>
    some ((-99999 : Int32), q7.2)))
  else
    ((f_X4_take (-1 : Int32) (-1 : Int32) q1.2).bind (fun q3 =>
    chk (ib a1 6) (
    if (q3.1 8 a1.toNatClampNeg) = a1 then
      ((f_X4_ownSum a1 q3).bind (fun q6 =>
      some (((q3.1 25 a1.toNatClampNeg) - q6.1), q6.2)))
    else
      (some ((q3.1 25 a1.toNatClampNeg), q3))))))
abbrev mX5_fed : Me := (yX5_fed, cX5_fed, 2, (some .int), 3, 69)
set_option maxRecDepth 100000 in
set_option maxHeartbeats 4000000 in
theorem c_X5_fed {a1 : Int32} {σ : St} {res : Int32 × St} (hf : f_X5_fed a1 σ = some res) : Mt mX5_fed [.ref 0, .int a1] σ (some (.int res.1)) res.2 := by
  unfold f_X5_fed at hf
  refine mt_of (by decide) (Nat.le_of_ble_eq_true rfl) [some (.ref 0), some (.int a1)] rfl (fun Γ G hR => ?_)
  have G : OK Γ RX5 cX5_fed 2 (some .int) 3 69 := G
  refine s_aload_n G dX5_fed_0 rfl ?_
  refine s_getR G dX5_fed_1 lkF_X5_10 (by decide) rfl rfl ?_
  refine s_iload_n G dX5_fed_4 rfl ?_
  obtain ⟨q1, hq1, hf⟩ := bnd hf
  refine s_callV G dX5_fed_5 (c_X0_hasBus (by decide) hq1) lkM_X5_152 yk_X0_hasBus yv_X0_hasBus (by decide) rfl rfl _ [] rfl rfl rfl (Nat.le_of_ble_eq_true rfl) (by decide) ?_
  refine s_if_ne (tgt := 19) G dX5_fed_8 (by decide) (fun c2 => ?_) (fun c2 => ?_)
  · replace hf := ifn c2 hf
    refine s_aload_n G dX5_fed_19 rfl ?_
    refine s_getR G dX5_fed_20 lkF_X5_35 (by decide) rfl rfl ?_
    refine s_iconst G dX5_fed_23 (v := -1) (by decide) ?_
    refine s_iconst G dX5_fed_24 (v := -1) (by decide) ?_
    obtain ⟨q3, hq3, hf⟩ := bnd hf
    refine s_callV G dX5_fed_25 (c_X4_take hq3) lkM_X5_133 yk_X4_take yv_X4_take (by decide) rfl rfl _ [] rfl rfl rfl (Nat.le_of_ble_eq_true rfl) (by decide) ?_
    refine s_aload_n G dX5_fed_28 rfl ?_
    refine s_getR G dX5_fed_29 lkF_X5_35 (by decide) rfl rfl ?_
    refine s_getR G dX5_fed_32 lkF_X5_161 (by decide) rfl rfl ?_
    refine s_iload_n G dX5_fed_35 rfl ?_
    have h4 := chk_1 hf
    replace hf := chk_2 hf
    refine s_iald G dX5_fed_36 (by decide) rfl h4 ?_
    refine s_iload_n G dX5_fed_37 rfl ?_
    refine s_icmp_eq (tgt := 51) G dX5_fed_38 (by decide) (fun c5 => ?_) (fun c5 => ?_)
    · replace hf := ifp c5 hf
      refine s_aload_n G dX5_fed_51 rfl ?_
      refine s_getR G dX5_fed_52 lkF_X5_10 (by decide) rfl rfl ?_
      refine s_getR G dX5_fed_55 lkF_X5_169 (by decide) rfl rfl ?_
      refine s_iload_n G dX5_fed_58 rfl ?_
      refine s_iald G dX5_fed_59 (by decide) rfl h4 ?_
      refine s_aload_n G dX5_fed_60 rfl ?_
      refine s_getR G dX5_fed_61 lkF_X5_35 (by decide) rfl rfl ?_
      refine s_iload_n G dX5_fed_64 rfl ?_
      obtain ⟨q6, hq6, hf⟩ := bnd hf
      refine s_callV G dX5_fed_65 (c_X4_ownSum hq6) lkM_X5_172 yk_X4_ownSum yv_X4_ownSum (by decide) rfl rfl _ [.int (q3.1 25 a1.toNatClampNeg)] rfl rfl rfl (Nat.le_of_ble_eq_true rfl) (by decide) ?_
      refine s_isub G dX5_fed_68 ?_
      replace hf := Option.some.inj hf
      subst hf
      exact s_iret G hR dX5_fed_69 rfl rfl
    · replace hf := ifn c5 hf
      refine s_aload_n G dX5_fed_41 rfl ?_
      refine s_getR G dX5_fed_42 lkF_X5_10 (by decide) rfl rfl ?_
      refine s_getR G dX5_fed_45 lkF_X5_169 (by decide) rfl rfl ?_
      refine s_iload_n G dX5_fed_48 rfl ?_
      refine s_iald G dX5_fed_49 (by decide) rfl h4 ?_
      replace hf := Option.some.inj hf
      subst hf
      exact s_iret G hR dX5_fed_50 rfl rfl
  · replace hf := ifp c2 hf
    refine s_aload_n G dX5_fed_11 rfl ?_
    obtain ⟨q7, hq7, hf⟩ := bnd hf
    refine s_callV G dX5_fed_12 (c_X5_bad hq7) lkM_X5_50 yk_X5_bad yv_X5_bad (by decide) rfl rfl _ [] rfl rfl rfl (Nat.le_of_ble_eq_true rfl) (by decide) ?_
    refine s_pop G dX5_fed_15 rfl ?_
    refine s_ldc G dX5_fed_16 kc_X5_168 ?_
    replace hf := Option.some.inj hf
    subst hf
    exact s_iret G hR dX5_fed_18 rfl rfl
def f_X5_no (σ : St) : Option (Int32 × St) :=
nm (sI σ 0 6 ((σ.1 0 6) + (1 : Int32))) (fun σ1 : St =>
  some ((-3 : Int32), σ1))
abbrev mX5_no : Me := (yX5_no, cX5_no, 1, (some .int), 0, 0)
set_option maxRecDepth 100000 in
set_option maxHeartbeats 4000000 in
theorem c_X5_no  {σ : St} {res : Int32 × St} (hf : f_X5_no σ = some res) : Mt mX5_no [.ref 0] σ (some (.int res.1)) res.2 := by
  unfold f_X5_no at hf
  refine mt_of (by decide) (Nat.le_of_ble_eq_true rfl) [some (.ref 0)] rfl (fun Γ G hR => ?_)
  have G : OK Γ RX5 cX5_no 1 (some .int) 0 0 := G
  refine s_aload_n G dX5_no_0 rfl ?_
  refine s_dup G dX5_no_1 rfl ?_
  refine s_getI (n := 0) G dX5_no_2 lkF_X5_285 (by decide) rfl rfl ?_
  refine s_iconst G dX5_no_5 (v := 1) (by decide) ?_
  refine s_iadd G dX5_no_6 ?_
  refine s_putI G dX5_no_7 lkP_X5_285 (by decide) rfl rfl ?_
  refine s_st (fun σ1 eσ1 => ?_)
  replace hf := nm_at eσ1 hf
  refine s_bipush G dX5_no_10 (v := -3) (by decide) ?_
  replace hf := Option.some.inj hf
  subst hf
  exact s_iret G hR dX5_no_12 rfl rfl
def f_X5_outage (a1 : Int32) (a2 : Int32) (a3 : Int32) (σ : St) : Option (Int64 × St) :=
(f_X0_hasLine 0 a1 σ).bind (fun q1 =>
  if q1.1 = 0 then
    ((f_X5_bad q1.2).bind (fun q3 =>
    some (q3.1.toInt64, q3.2)))
  else
    ((f_X0_hasLine 0 a2 q1.2).bind (fun q4 =>
    if q4.1 = 0 then
      ((f_X5_bad q4.2).bind (fun q6 =>
      some (q6.1.toInt64, q6.2)))
    else
      ((f_X5_isFlag a3 q4.2).bind (fun q7 =>
      if q7.1 = 0 then
        ((f_X5_bad q7.2).bind (fun q16 =>
        some (q16.1.toInt64, q16.2)))
      else
        (chk (ib a2 10) (
        if (q7.2.1 30 a2.toNatClampNeg) = 0 then
          ((f_X5_no q7.2).bind (fun q15 =>
          some (q15.1.toInt64, q15.2)))
        else
          ((f_X4_take a2 (-1 : Int32) q7.2).bind (fun q11 =>
          (f_X4_solve (-1 : Int32) (-1 : Int32) q11).bind (fun q12 =>
          chk (ib a1 10) (
          (f_X5_part (q12.2 17 a1.toNatClampNeg) (q12.2 6 7) a3 q12).bind (fun q14 =>
          some (q14.1, q14.2)))))))))))))
abbrev mX5_outage : Me := (yX5_outage, cX5_outage, 4, (some .long), 3, 69)
set_option maxRecDepth 100000 in
set_option maxHeartbeats 4000000 in
theorem c_X5_outage {a1 : Int32} {a2 : Int32} {a3 : Int32} {σ : St} {res : Int64 × St} (hf : f_X5_outage a1 a2 a3 σ = some res) : Mt mX5_outage [.ref 0, .int a1, .int a2, .int a3] σ (some (.long res.1)) res.2 := by
  unfold f_X5_outage at hf
  refine mt_of (by decide) (Nat.le_of_ble_eq_true rfl) [some (.ref 0), some (.int a1), some (.int a2), some (.int a3)] rfl (fun Γ G hR => ?_)
  have G : OK Γ RX5 cX5_outage 4 (some .long) 3 69 := G
  refine s_aload_n G dX5_outage_0 rfl ?_
  refine s_getR G dX5_outage_1 lkF_X5_10 (by decide) rfl rfl ?_
  refine s_iload_n G dX5_outage_4 rfl ?_
  obtain ⟨q1, hq1, hf⟩ := bnd hf
  refine s_callV G dX5_outage_5 (c_X0_hasLine (by decide) hq1) lkM_X5_84 yk_X0_hasLine yv_X0_hasLine (by decide) rfl rfl _ [] rfl rfl rfl (Nat.le_of_ble_eq_true rfl) (by decide) ?_
  refine s_if_eq (tgt := 29) G dX5_outage_8 (by decide) (fun c2 => ?_) (fun c2 => ?_)
  · replace hf := ifp c2 hf
    refine s_aload_n G dX5_outage_29 rfl ?_
    obtain ⟨q3, hq3, hf⟩ := bnd hf
    refine s_callV G dX5_outage_30 (c_X5_bad hq3) lkM_X5_50 yk_X5_bad yv_X5_bad (by decide) rfl rfl _ [] rfl rfl rfl (Nat.le_of_ble_eq_true rfl) (by decide) ?_
    refine s_i2l G dX5_outage_33 ?_
    replace hf := Option.some.inj hf
    subst hf
    exact s_lret G hR dX5_outage_34 rfl rfl
  · replace hf := ifn c2 hf
    refine s_aload_n G dX5_outage_11 rfl ?_
    refine s_getR G dX5_outage_12 lkF_X5_10 (by decide) rfl rfl ?_
    refine s_iload_n G dX5_outage_15 rfl ?_
    obtain ⟨q4, hq4, hf⟩ := bnd hf
    refine s_callV G dX5_outage_16 (c_X0_hasLine (by decide) hq4) lkM_X5_84 yk_X0_hasLine yv_X0_hasLine (by decide) rfl rfl _ [] rfl rfl rfl (Nat.le_of_ble_eq_true rfl) (by decide) ?_
    refine s_if_eq (tgt := 29) G dX5_outage_19 (by decide) (fun c5 => ?_) (fun c5 => ?_)
    · replace hf := ifp c5 hf
      refine s_aload_n G dX5_outage_29 rfl ?_
      obtain ⟨q6, hq6, hf⟩ := bnd hf
      refine s_callV G dX5_outage_30 (c_X5_bad hq6) lkM_X5_50 yk_X5_bad yv_X5_bad (by decide) rfl rfl _ [] rfl rfl rfl (Nat.le_of_ble_eq_true rfl) (by decide) ?_
      refine s_i2l G dX5_outage_33 ?_
      replace hf := Option.some.inj hf
      subst hf
      exact s_lret G hR dX5_outage_34 rfl rfl
    · replace hf := ifn c5 hf
      refine s_iload_n G dX5_outage_22 rfl ?_
      obtain ⟨q7, hq7, hf⟩ := bnd hf
      refine s_callS G dX5_outage_23 (c_X5_isFlag hq7) lkM_X5_90 yk_X5_isFlag ys_X5_isFlag _ [] rfl rfl rfl (Nat.le_of_ble_eq_true rfl) (by decide) ?_
      refine s_if_ne (tgt := 35) G dX5_outage_26 (by decide) (fun c8 => ?_) (fun c8 => ?_)
      · replace hf := ifn c8 hf
        refine s_aload_n G dX5_outage_35 rfl ?_
        refine s_getR G dX5_outage_36 lkF_X5_10 (by decide) rfl rfl ?_
        refine s_getR G dX5_outage_39 lkF_X5_126 (by decide) rfl rfl ?_
        refine s_iload_n G dX5_outage_42 rfl ?_
        have h9 := chk_1 hf
        replace hf := chk_2 hf
        refine s_zald G dX5_outage_43 (by decide) rfl h9 ?_
        refine s_if_ne (tgt := 53) G dX5_outage_44 (by decide) (fun c10 => ?_) (fun c10 => ?_)
        · replace hf := ifn c10 hf
          refine s_aload_n G dX5_outage_53 rfl ?_
          refine s_getR G dX5_outage_54 lkF_X5_35 (by decide) rfl rfl ?_
          refine s_iload_n G dX5_outage_57 rfl ?_
          refine s_iconst G dX5_outage_58 (v := -1) (by decide) ?_
          obtain ⟨q11, hq11, hf⟩ := bnd hf
          refine s_callV G dX5_outage_59 (c_X4_take hq11) lkM_X5_133 yk_X4_take yv_X4_take (by decide) rfl rfl _ [] rfl rfl rfl (Nat.le_of_ble_eq_true rfl) (by decide) ?_
          refine s_aload_n G dX5_outage_62 rfl ?_
          refine s_getR G dX5_outage_63 lkF_X5_35 (by decide) rfl rfl ?_
          refine s_iconst G dX5_outage_66 (v := -1) (by decide) ?_
          refine s_iconst G dX5_outage_67 (v := -1) (by decide) ?_
          obtain ⟨q12, hq12, hf⟩ := bnd hf
          refine s_callV G dX5_outage_68 (c_X4_solve hq12) lkM_X5_137 yk_X4_solve yv_X4_solve (by decide) rfl rfl _ [] rfl rfl rfl (Nat.le_of_ble_eq_true rfl) (by decide) ?_
          refine s_aload_n G dX5_outage_71 rfl ?_
          refine s_getR G dX5_outage_72 lkF_X5_35 (by decide) rfl rfl ?_
          refine s_getR G dX5_outage_75 lkF_X5_140 (by decide) rfl rfl ?_
          refine s_iload_n G dX5_outage_78 rfl ?_
          have h13 := chk_1 hf
          replace hf := chk_2 hf
          refine s_lald G dX5_outage_79 (by decide) rfl h13 ?_
          refine s_aload_n G dX5_outage_80 rfl ?_
          refine s_getR G dX5_outage_81 lkF_X5_35 (by decide) rfl rfl ?_
          refine s_getL (n := 0) G dX5_outage_84 lkF_X5_144 (by decide) rfl rfl ?_
          refine s_iload_n G dX5_outage_87 rfl ?_
          obtain ⟨q14, hq14, hf⟩ := bnd hf
          refine s_callS G dX5_outage_88 (c_X5_part hq14) lkM_X5_148 yk_X5_part ys_X5_part _ [] rfl rfl rfl (Nat.le_of_ble_eq_true rfl) (by decide) ?_
          replace hf := Option.some.inj hf
          subst hf
          exact s_lret G hR dX5_outage_91 rfl rfl
        · replace hf := ifp c10 hf
          refine s_aload_n G dX5_outage_47 rfl ?_
          obtain ⟨q15, hq15, hf⟩ := bnd hf
          refine s_callV G dX5_outage_48 (c_X5_no hq15) lkM_X5_175 yk_X5_no yv_X5_no (by decide) rfl rfl _ [] rfl rfl rfl (Nat.le_of_ble_eq_true rfl) (by decide) ?_
          refine s_i2l G dX5_outage_51 ?_
          replace hf := Option.some.inj hf
          subst hf
          exact s_lret G hR dX5_outage_52 rfl rfl
      · replace hf := ifp c8 hf
        refine s_aload_n G dX5_outage_29 rfl ?_
        obtain ⟨q16, hq16, hf⟩ := bnd hf
        refine s_callV G dX5_outage_30 (c_X5_bad hq16) lkM_X5_50 yk_X5_bad yv_X5_bad (by decide) rfl rfl _ [] rfl rfl rfl (Nat.le_of_ble_eq_true rfl) (by decide) ?_
        refine s_i2l G dX5_outage_33 ?_
        replace hf := Option.some.inj hf
        subst hf
        exact s_lret G hR dX5_outage_34 rfl rfl
def f_X5_spread (a1 : Int32) (a2 : Int32) (a3 : Int32) (σ : St) : Option (Int64 × St) :=
(f_X0_hasLine 0 a1 σ).bind (fun q1 =>
  if q1.1 = 0 then
    ((f_X5_bad q1.2).bind (fun q3 =>
    some (q3.1.toInt64, q3.2)))
  else
    ((f_X0_hasLine 0 a2 q1.2).bind (fun q4 =>
    if q4.1 = 0 then
      ((f_X5_bad q4.2).bind (fun q6 =>
      some (q6.1.toInt64, q6.2)))
    else
      ((f_X5_isFlag a3 q4.2).bind (fun q7 =>
      if q7.1 = 0 then
        ((f_X5_bad q7.2).bind (fun q21 =>
        some (q21.1.toInt64, q21.2)))
      else
        (chk (ib a2 10) (
        if (q7.2.1 30 a2.toNatClampNeg) = 0 then
          ((f_X5_no q7.2).bind (fun q11 =>
          some (q11.1.toInt64, q11.2)))
        else
          ((f_X5_isBridge a2 q7.2).bind (fun q12 =>
          if q12.1 = 0 then
            (if a1 = a2 then
              ((f_X5_part (0 : Int64) (1 : Int64) a3 q12.2).bind (fun q19 =>
              some (q19.1, q19.2)))
            else
              ((f_X4_take (-1 : Int32) (-1 : Int32) q12.2).bind (fun q15 =>
              (f_X4_solve (q15.1 26 a2.toNatClampNeg) (q15.1 27 a2.toNatClampNeg) q15).bind (fun q16 =>
              chk (ib a1 10) (
              (f_X5_part (q16.2 18 a1.toNatClampNeg) ((q16.2 6 7) - (q16.2 18 a2.toNatClampNeg)) a3 q16).bind (fun q18 =>
              some (q18.1, q18.2)))))))
          else
            ((f_X5_no q12.2).bind (fun q20 =>
            some (q20.1.toInt64, q20.2))))))))))))
abbrev mX5_spread : Me := (yX5_spread, cX5_spread, 4, (some .long), 4, 90)
set_option maxRecDepth 100000 in
set_option maxHeartbeats 4000000 in
theorem c_X5_spread {a1 : Int32} {a2 : Int32} {a3 : Int32} {σ : St} {res : Int64 × St} (hf : f_X5_spread a1 a2 a3 σ = some res) : Mt mX5_spread [.ref 0, .int a1, .int a2, .int a3] σ (some (.long res.1)) res.2 := by
  unfold f_X5_spread at hf
  refine mt_of (by decide) (Nat.le_of_ble_eq_true rfl) [some (.ref 0), some (.int a1), some (.int a2), some (.int a3)] rfl (fun Γ G hR => ?_)
  have G : OK Γ RX5 cX5_spread 4 (some .long) 4 90 := G
  refine s_aload_n G dX5_spread_0 rfl ?_
  refine s_getR G dX5_spread_1 lkF_X5_10 (by decide) rfl rfl ?_
  refine s_iload_n G dX5_spread_4 rfl ?_
  obtain ⟨q1, hq1, hf⟩ := bnd hf
  refine s_callV G dX5_spread_5 (c_X0_hasLine (by decide) hq1) lkM_X5_84 yk_X0_hasLine yv_X0_hasLine (by decide) rfl rfl _ [] rfl rfl rfl (Nat.le_of_ble_eq_true rfl) (by decide) ?_
  refine s_if_eq (tgt := 29) G dX5_spread_8 (by decide) (fun c2 => ?_) (fun c2 => ?_)
  · replace hf := ifp c2 hf
    refine s_aload_n G dX5_spread_29 rfl ?_
    obtain ⟨q3, hq3, hf⟩ := bnd hf
    refine s_callV G dX5_spread_30 (c_X5_bad hq3) lkM_X5_50 yk_X5_bad yv_X5_bad (by decide) rfl rfl _ [] rfl rfl rfl (Nat.le_of_ble_eq_true rfl) (by decide) ?_
    refine s_i2l G dX5_spread_33 ?_
    replace hf := Option.some.inj hf
    subst hf
    exact s_lret G hR dX5_spread_34 rfl rfl
  · replace hf := ifn c2 hf
    refine s_aload_n G dX5_spread_11 rfl ?_
    refine s_getR G dX5_spread_12 lkF_X5_10 (by decide) rfl rfl ?_
    refine s_iload_n G dX5_spread_15 rfl ?_
    obtain ⟨q4, hq4, hf⟩ := bnd hf
    refine s_callV G dX5_spread_16 (c_X0_hasLine (by decide) hq4) lkM_X5_84 yk_X0_hasLine yv_X0_hasLine (by decide) rfl rfl _ [] rfl rfl rfl (Nat.le_of_ble_eq_true rfl) (by decide) ?_
    refine s_if_eq (tgt := 29) G dX5_spread_19 (by decide) (fun c5 => ?_) (fun c5 => ?_)
    · replace hf := ifp c5 hf
      refine s_aload_n G dX5_spread_29 rfl ?_
      obtain ⟨q6, hq6, hf⟩ := bnd hf
      refine s_callV G dX5_spread_30 (c_X5_bad hq6) lkM_X5_50 yk_X5_bad yv_X5_bad (by decide) rfl rfl _ [] rfl rfl rfl (Nat.le_of_ble_eq_true rfl) (by decide) ?_
      refine s_i2l G dX5_spread_33 ?_
      replace hf := Option.some.inj hf
      subst hf
      exact s_lret G hR dX5_spread_34 rfl rfl
    · replace hf := ifn c5 hf
      refine s_iload_n G dX5_spread_22 rfl ?_
      obtain ⟨q7, hq7, hf⟩ := bnd hf
      refine s_callS G dX5_spread_23 (c_X5_isFlag hq7) lkM_X5_90 yk_X5_isFlag ys_X5_isFlag _ [] rfl rfl rfl (Nat.le_of_ble_eq_true rfl) (by decide) ?_
      refine s_if_ne (tgt := 35) G dX5_spread_26 (by decide) (fun c8 => ?_) (fun c8 => ?_)
      · replace hf := ifn c8 hf
        refine s_aload_n G dX5_spread_35 rfl ?_
        refine s_getR G dX5_spread_36 lkF_X5_10 (by decide) rfl rfl ?_
        refine s_getR G dX5_spread_39 lkF_X5_126 (by decide) rfl rfl ?_
        refine s_iload_n G dX5_spread_42 rfl ?_
        have h9 := chk_1 hf
        replace hf := chk_2 hf
        refine s_zald G dX5_spread_43 (by decide) rfl h9 ?_
        refine s_if_eq (tgt := 55) G dX5_spread_44 (by decide) (fun c10 => ?_) (fun c10 => ?_)
        · replace hf := ifp c10 hf
          refine s_aload_n G dX5_spread_55 rfl ?_
          obtain ⟨q11, hq11, hf⟩ := bnd hf
          refine s_callV G dX5_spread_56 (c_X5_no hq11) lkM_X5_175 yk_X5_no yv_X5_no (by decide) rfl rfl _ [] rfl rfl rfl (Nat.le_of_ble_eq_true rfl) (by decide) ?_
          refine s_i2l G dX5_spread_59 ?_
          replace hf := Option.some.inj hf
          subst hf
          exact s_lret G hR dX5_spread_60 rfl rfl
        · replace hf := ifn c10 hf
          refine s_aload_n G dX5_spread_47 rfl ?_
          refine s_iload_n G dX5_spread_48 rfl ?_
          obtain ⟨q12, hq12, hf⟩ := bnd hf
          refine s_callV G dX5_spread_49 (c_X5_isBridge hq12) lkM_X5_130 yk_X5_isBridge yv_X5_isBridge (by decide) rfl rfl _ [] rfl rfl rfl (Nat.le_of_ble_eq_true rfl) (by decide) ?_
          refine s_if_eq (tgt := 61) G dX5_spread_52 (by decide) (fun c13 => ?_) (fun c13 => ?_)
          · replace hf := ifp c13 hf
            refine s_iload_n G dX5_spread_61 rfl ?_
            refine s_iload_n G dX5_spread_62 rfl ?_
            refine s_icmp_ne (tgt := 73) G dX5_spread_63 (by decide) (fun c14 => ?_) (fun c14 => ?_)
            · replace hf := ifn c14 hf
              refine s_aload_n G dX5_spread_73 rfl ?_
              refine s_getR G dX5_spread_74 lkF_X5_35 (by decide) rfl rfl ?_
              refine s_iconst G dX5_spread_77 (v := -1) (by decide) ?_
              refine s_iconst G dX5_spread_78 (v := -1) (by decide) ?_
              obtain ⟨q15, hq15, hf⟩ := bnd hf
              refine s_callV G dX5_spread_79 (c_X4_take hq15) lkM_X5_133 yk_X4_take yv_X4_take (by decide) rfl rfl _ [] rfl rfl rfl (Nat.le_of_ble_eq_true rfl) (by decide) ?_
              refine s_aload_n G dX5_spread_82 rfl ?_
              refine s_getR G dX5_spread_83 lkF_X5_35 (by decide) rfl rfl ?_
              refine s_aload_n G dX5_spread_86 rfl ?_
              refine s_getR G dX5_spread_87 lkF_X5_10 (by decide) rfl rfl ?_
              refine s_getR G dX5_spread_90 lkF_X5_113 (by decide) rfl rfl ?_
              refine s_iload_n G dX5_spread_93 rfl ?_
              refine s_iald G dX5_spread_94 (by decide) rfl h9 ?_
              refine s_aload_n G dX5_spread_95 rfl ?_
              refine s_getR G dX5_spread_96 lkF_X5_10 (by decide) rfl rfl ?_
              refine s_getR G dX5_spread_99 lkF_X5_117 (by decide) rfl rfl ?_
              refine s_iload_n G dX5_spread_102 rfl ?_
              refine s_iald G dX5_spread_103 (by decide) rfl h9 ?_
              obtain ⟨q16, hq16, hf⟩ := bnd hf
              refine s_callV G dX5_spread_104 (c_X4_solve hq16) lkM_X5_137 yk_X4_solve yv_X4_solve (by decide) rfl rfl _ [] rfl rfl rfl (Nat.le_of_ble_eq_true rfl) (by decide) ?_
              refine s_aload_n G dX5_spread_107 rfl ?_
              refine s_getR G dX5_spread_108 lkF_X5_35 (by decide) rfl rfl ?_
              refine s_getR G dX5_spread_111 lkF_X5_158 (by decide) rfl rfl ?_
              refine s_iload_n G dX5_spread_114 rfl ?_
              have h17 := chk_1 hf
              replace hf := chk_2 hf
              refine s_lald G dX5_spread_115 (by decide) rfl h17 ?_
              refine s_aload_n G dX5_spread_116 rfl ?_
              refine s_getR G dX5_spread_117 lkF_X5_35 (by decide) rfl rfl ?_
              refine s_getL (n := 0) G dX5_spread_120 lkF_X5_144 (by decide) rfl rfl ?_
              refine s_aload_n G dX5_spread_123 rfl ?_
              refine s_getR G dX5_spread_124 lkF_X5_35 (by decide) rfl rfl ?_
              refine s_getR G dX5_spread_127 lkF_X5_158 (by decide) rfl rfl ?_
              refine s_iload_n G dX5_spread_130 rfl ?_
              refine s_lald G dX5_spread_131 (by decide) rfl h9 ?_
              refine s_lsub G dX5_spread_132 ?_
              refine s_iload_n G dX5_spread_133 rfl ?_
              obtain ⟨q18, hq18, hf⟩ := bnd hf
              refine s_callS G dX5_spread_134 (c_X5_part hq18) lkM_X5_148 yk_X5_part ys_X5_part _ [] rfl rfl rfl (Nat.le_of_ble_eq_true rfl) (by decide) ?_
              replace hf := Option.some.inj hf
              subst hf
              exact s_lret G hR dX5_spread_137 rfl rfl
            · replace hf := ifp c14 hf
              refine s_lconst G dX5_spread_66 (v := 0) (by decide) ?_
              refine s_lconst G dX5_spread_67 (v := 1) (by decide) ?_
              refine s_iload_n G dX5_spread_68 rfl ?_
              obtain ⟨q19, hq19, hf⟩ := bnd hf
              refine s_callS G dX5_spread_69 (c_X5_part hq19) lkM_X5_148 yk_X5_part ys_X5_part _ [] rfl rfl rfl (Nat.le_of_ble_eq_true rfl) (by decide) ?_
              replace hf := Option.some.inj hf
              subst hf
              exact s_lret G hR dX5_spread_72 rfl rfl
          · replace hf := ifn c13 hf
            refine s_aload_n G dX5_spread_55 rfl ?_
            obtain ⟨q20, hq20, hf⟩ := bnd hf
            refine s_callV G dX5_spread_56 (c_X5_no hq20) lkM_X5_175 yk_X5_no yv_X5_no (by decide) rfl rfl _ [] rfl rfl rfl (Nat.le_of_ble_eq_true rfl) (by decide) ?_
            refine s_i2l G dX5_spread_59 ?_
            replace hf := Option.some.inj hf
            subst hf
            exact s_lret G hR dX5_spread_60 rfl rfl
      · replace hf := ifp c8 hf
        refine s_aload_n G dX5_spread_29 rfl ?_
        obtain ⟨q21, hq21, hf⟩ := bnd hf
        refine s_callV G dX5_spread_30 (c_X5_bad hq21) lkM_X5_50 yk_X5_bad yv_X5_bad (by decide) rfl rfl _ [] rfl rfl rfl (Nat.le_of_ble_eq_true rfl) (by decide) ?_
        refine s_i2l G dX5_spread_33 ?_
        replace hf := Option.some.inj hf
        subst hf
        exact s_lret G hR dX5_spread_34 rfl rfl
def f_X5_worst (a1 : Int32) (a2 : Int32) (σ : St) : Option (Int64 × St) :=
jn (fun q1 : St =>
    ((f_X5_within a2 (0 : Int32) (3 : Int32) q1).bind (fun q3 =>
    if q3.1 = 0 then
      ((f_X5_bad q3.2).bind (fun q18 =>
      some (q18.1.toInt64, q18.2)))
    else
      (jn (fun q5 : St =>
        ((f_X4_take a1 (-1 : Int32) q5).bind (fun q7 =>
        (f_X4_load q7).bind (fun q8 =>
        if a2 = 0 then
          (some ((q8.1 6 8).toInt64, q8))
        else (if a2 = 1 then
          ((f_X5_part (q8.2 6 9) (q8.2 6 10) (0 : Int32) q8).bind (fun q11 =>
          some (q11.1, q11.2)))
        else (if a2 = 2 then
          ((f_X5_part (q8.2 6 9) (q8.2 6 10) (1 : Int32) q8).bind (fun q13 =>
          some (q13.1, q13.2)))
        else (some ((q8.1 6 11).toInt64, q8)))))))) (fun j6 =>
        if a1 = (-1 : Int32) then
          (j6 q3.2)
        else
          (chk (ib a1 10) (
          if (q3.2.1 30 a1.toNatClampNeg) = 0 then
            ((f_X5_no q3.2).bind (fun q17 =>
            some (q17.1.toInt64, q17.2)))
          else
            (j6 q3.2)))))))) (fun j2 =>
    if a1 = (-1 : Int32) then
      (j2 σ)
    else
      ((f_X0_hasLine 0 a1 σ).bind (fun q20 =>
      if q20.1 = 0 then
        ((f_X5_bad q20.2).bind (fun q22 =>
        some (q22.1.toInt64, q22.2)))
      else
        (j2 q20.2))))
abbrev mX5_worst : Me := (yX5_worst, cX5_worst, 3, (some .long), 4, 88)
set_option maxRecDepth 100000 in
set_option maxHeartbeats 4000000 in
theorem c_X5_worst {a1 : Int32} {a2 : Int32} {σ : St} {res : Int64 × St} (hf : f_X5_worst a1 a2 σ = some res) : Mt mX5_worst [.ref 0, .int a1, .int a2] σ (some (.long res.1)) res.2 := by
  unfold f_X5_worst at hf
  refine mt_of (by decide) (Nat.le_of_ble_eq_true rfl) [some (.ref 0), some (.int a1), some (.int a2)] rfl (fun Γ G hR => ?_)
  have G : OK Γ RX5 cX5_worst 3 (some .long) 4 88 := G
  refine s_iload_n G dX5_worst_0 rfl ?_
  refine s_iconst G dX5_worst_1 (v := -1) (by decide) ?_
  refine jn_w (fun q1 : St => WW Γ 16 [some (.ref 0), some (.int a1), some (.int a2)] [] q1) hf (fun q1 hf => ?_) (fun j2 hj2 hf => ?_)
  · refine s_iload_n G dX5_worst_16 rfl ?_
    refine s_iconst G dX5_worst_17 (v := 0) (by decide) ?_
    refine s_iconst G dX5_worst_18 (v := 3) (by decide) ?_
    obtain ⟨q3, hq3, hf⟩ := bnd hf
    refine s_callS G dX5_worst_19 (c_X5_within hq3) lkM_X5_109 yk_X5_within ys_X5_within _ [] rfl rfl rfl (Nat.le_of_ble_eq_true rfl) (by decide) ?_
    refine s_if_ne (tgt := 31) G dX5_worst_22 (by decide) (fun c4 => ?_) (fun c4 => ?_)
    · replace hf := ifn c4 hf
      refine s_iload_n G dX5_worst_31 rfl ?_
      refine s_iconst G dX5_worst_32 (v := -1) (by decide) ?_
      refine jn_w (fun q5 : St => WW Γ 54 [some (.ref 0), some (.int a1), some (.int a2)] [] q5) hf (fun q5 hf => ?_) (fun j6 hj6 hf => ?_)
      · refine s_aload_n G dX5_worst_54 rfl ?_
        refine s_getR G dX5_worst_55 lkF_X5_35 (by decide) rfl rfl ?_
        refine s_iload_n G dX5_worst_58 rfl ?_
        refine s_iconst G dX5_worst_59 (v := -1) (by decide) ?_
        obtain ⟨q7, hq7, hf⟩ := bnd hf
        refine s_callV G dX5_worst_60 (c_X4_take hq7) lkM_X5_133 yk_X4_take yv_X4_take (by decide) rfl rfl _ [] rfl rfl rfl (Nat.le_of_ble_eq_true rfl) (by decide) ?_
        refine s_aload_n G dX5_worst_63 rfl ?_
        refine s_getR G dX5_worst_64 lkF_X5_35 (by decide) rfl rfl ?_
        obtain ⟨q8, hq8, hf⟩ := bnd hf
        refine s_callV G dX5_worst_67 (c_X4_load hq8) lkM_X5_178 yk_X4_load yv_X4_load (by decide) rfl rfl _ [] rfl rfl rfl (Nat.le_of_ble_eq_true rfl) (by decide) ?_
        refine s_iload_n G dX5_worst_70 rfl ?_
        by_cases c9 : a2 = 0
        · replace hf := ifp c9 hf
          refine s_tabIn (tgt := 96) G dX5_worst_71 (by rw [c9]; decide) (by rw [c9]; decide) (by rw [c9]; rfl) (by decide) ?_
          refine s_aload_n G dX5_worst_96 rfl ?_
          refine s_getR G dX5_worst_97 lkF_X5_35 (by decide) rfl rfl ?_
          refine s_getI (n := 0) G dX5_worst_100 lkF_X5_181 (by decide) rfl rfl ?_
          refine s_i2l G dX5_worst_103 ?_
          replace hf := Option.some.inj hf
          subst hf
          exact s_lret G hR dX5_worst_104 rfl rfl
        replace hf := ifn c9 hf
        by_cases c10 : a2 = 1
        · replace hf := ifp c10 hf
          refine s_tabIn (tgt := 105) G dX5_worst_71 (by rw [c10]; decide) (by rw [c10]; decide) (by rw [c10]; rfl) (by decide) ?_
          refine s_aload_n G dX5_worst_105 rfl ?_
          refine s_getR G dX5_worst_106 lkF_X5_35 (by decide) rfl rfl ?_
          refine s_getL (n := 0) G dX5_worst_109 lkF_X5_185 (by decide) rfl rfl ?_
          refine s_aload_n G dX5_worst_112 rfl ?_
          refine s_getR G dX5_worst_113 lkF_X5_35 (by decide) rfl rfl ?_
          refine s_getL (n := 0) G dX5_worst_116 lkF_X5_188 (by decide) rfl rfl ?_
          refine s_iconst G dX5_worst_119 (v := 0) (by decide) ?_
          obtain ⟨q11, hq11, hf⟩ := bnd hf
          refine s_callS G dX5_worst_120 (c_X5_part hq11) lkM_X5_148 yk_X5_part ys_X5_part _ [] rfl rfl rfl (Nat.le_of_ble_eq_true rfl) (by decide) ?_
          replace hf := Option.some.inj hf
          subst hf
          exact s_lret G hR dX5_worst_123 rfl rfl
        replace hf := ifn c10 hf
        by_cases c12 : a2 = 2
        · replace hf := ifp c12 hf
          refine s_tabIn (tgt := 124) G dX5_worst_71 (by rw [c12]; decide) (by rw [c12]; decide) (by rw [c12]; rfl) (by decide) ?_
          refine s_aload_n G dX5_worst_124 rfl ?_
          refine s_getR G dX5_worst_125 lkF_X5_35 (by decide) rfl rfl ?_
          refine s_getL (n := 0) G dX5_worst_128 lkF_X5_185 (by decide) rfl rfl ?_
          refine s_aload_n G dX5_worst_131 rfl ?_
          refine s_getR G dX5_worst_132 lkF_X5_35 (by decide) rfl rfl ?_
          refine s_getL (n := 0) G dX5_worst_135 lkF_X5_188 (by decide) rfl rfl ?_
          refine s_iconst G dX5_worst_138 (v := 1) (by decide) ?_
          obtain ⟨q13, hq13, hf⟩ := bnd hf
          refine s_callS G dX5_worst_139 (c_X5_part hq13) lkM_X5_148 yk_X5_part ys_X5_part _ [] rfl rfl rfl (Nat.le_of_ble_eq_true rfl) (by decide) ?_
          replace hf := Option.some.inj hf
          subst hf
          exact s_lret G hR dX5_worst_142 rfl rfl
        replace hf := ifn c12 hf
        refine s_tabOut (tgt := 143) G dX5_worst_71 (tab_out 2 (by decide) (by intro k hk; match k, hk with | 0, _ => exact c9 | 1, _ => exact c10 | 2, _ => exact c12)) (by decide) ?_
        refine s_aload_n G dX5_worst_143 rfl ?_
        refine s_getR G dX5_worst_144 lkF_X5_35 (by decide) rfl rfl ?_
        refine s_getI (n := 0) G dX5_worst_147 lkF_X5_191 (by decide) rfl rfl ?_
        refine s_i2l G dX5_worst_150 ?_
        replace hf := Option.some.inj hf
        subst hf
        exact s_lret G hR dX5_worst_151 rfl rfl
      · refine s_icmp_eq (tgt := 54) G dX5_worst_33 (by decide) (fun c14 => ?_) (fun c14 => ?_)
        · replace hf := ifp c14 hf
          exact hj6 _ hf
        · replace hf := ifn c14 hf
          refine s_aload_n G dX5_worst_36 rfl ?_
          refine s_getR G dX5_worst_37 lkF_X5_10 (by decide) rfl rfl ?_
          refine s_getR G dX5_worst_40 lkF_X5_126 (by decide) rfl rfl ?_
          refine s_iload_n G dX5_worst_43 rfl ?_
          have h15 := chk_1 hf
          replace hf := chk_2 hf
          refine s_zald G dX5_worst_44 (by decide) rfl h15 ?_
          refine s_if_ne (tgt := 54) G dX5_worst_45 (by decide) (fun c16 => ?_) (fun c16 => ?_)
          · replace hf := ifn c16 hf
            exact hj6 _ hf
          · replace hf := ifp c16 hf
            refine s_aload_n G dX5_worst_48 rfl ?_
            obtain ⟨q17, hq17, hf⟩ := bnd hf
            refine s_callV G dX5_worst_49 (c_X5_no hq17) lkM_X5_175 yk_X5_no yv_X5_no (by decide) rfl rfl _ [] rfl rfl rfl (Nat.le_of_ble_eq_true rfl) (by decide) ?_
            refine s_i2l G dX5_worst_52 ?_
            replace hf := Option.some.inj hf
            subst hf
            exact s_lret G hR dX5_worst_53 rfl rfl
    · replace hf := ifp c4 hf
      refine s_aload_n G dX5_worst_25 rfl ?_
      obtain ⟨q18, hq18, hf⟩ := bnd hf
      refine s_callV G dX5_worst_26 (c_X5_bad hq18) lkM_X5_50 yk_X5_bad yv_X5_bad (by decide) rfl rfl _ [] rfl rfl rfl (Nat.le_of_ble_eq_true rfl) (by decide) ?_
      refine s_i2l G dX5_worst_29 ?_
      replace hf := Option.some.inj hf
      subst hf
      exact s_lret G hR dX5_worst_30 rfl rfl
  · refine s_icmp_eq (tgt := 16) G dX5_worst_2 (by decide) (fun c19 => ?_) (fun c19 => ?_)
    · replace hf := ifp c19 hf
      exact hj2 _ hf
    · replace hf := ifn c19 hf
      refine s_aload_n G dX5_worst_5 rfl ?_
      refine s_getR G dX5_worst_6 lkF_X5_10 (by decide) rfl rfl ?_
      refine s_iload_n G dX5_worst_9 rfl ?_
      obtain ⟨q20, hq20, hf⟩ := bnd hf
      refine s_callV G dX5_worst_10 (c_X0_hasLine (by decide) hq20) lkM_X5_84 yk_X0_hasLine yv_X0_hasLine (by decide) rfl rfl _ [] rfl rfl rfl (Nat.le_of_ble_eq_true rfl) (by decide) ?_
      refine s_if_eq (tgt := 25) G dX5_worst_13 (by decide) (fun c21 => ?_) (fun c21 => ?_)
      · replace hf := ifp c21 hf
        refine s_aload_n G dX5_worst_25 rfl ?_
        obtain ⟨q22, hq22, hf⟩ := bnd hf
        refine s_callV G dX5_worst_26 (c_X5_bad hq22) lkM_X5_50 yk_X5_bad yv_X5_bad (by decide) rfl rfl _ [] rfl rfl rfl (Nat.le_of_ble_eq_true rfl) (by decide) ?_
        refine s_i2l G dX5_worst_29 ?_
        replace hf := Option.some.inj hf
        subst hf
        exact s_lret G hR dX5_worst_30 rfl rfl
      · replace hf := ifn c21 hf
        exact hj2 _ hf
def f_X5_rank (a1 : Int32) (a2 : Int32) (σ : St) : Option (St) :=
(f_X4_take a1 a2 σ).bind (fun q1 =>
  (f_X4_load q1).bind (fun q2 =>
  (f_X2_insert a1 a2 (q2.2 6 9) (q2.2 6 10) q2).bind (fun q3 =>
  some q3)))
abbrev mX5_rank : Me := (yX5_rank, cX5_rank, 3, none, 4, 88)
set_option maxRecDepth 100000 in
set_option maxHeartbeats 4000000 in
theorem c_X5_rank {a1 : Int32} {a2 : Int32} {σ : St} {res : St} (hf : f_X5_rank a1 a2 σ = some res) : Mt mX5_rank [.ref 0, .int a1, .int a2] σ none res := by
  unfold f_X5_rank at hf
  refine mt_of (by decide) (Nat.le_of_ble_eq_true rfl) [some (.ref 0), some (.int a1), some (.int a2)] rfl (fun Γ G hR => ?_)
  have G : OK Γ RX5 cX5_rank 3 none 4 88 := G
  refine s_aload_n G dX5_rank_0 rfl ?_
  refine s_getR G dX5_rank_1 lkF_X5_35 (by decide) rfl rfl ?_
  refine s_iload_n G dX5_rank_4 rfl ?_
  refine s_iload_n G dX5_rank_5 rfl ?_
  obtain ⟨q1, hq1, hf⟩ := bnd hf
  refine s_callV G dX5_rank_6 (c_X4_take hq1) lkM_X5_133 yk_X4_take yv_X4_take (by decide) rfl rfl _ [] rfl rfl rfl (Nat.le_of_ble_eq_true rfl) (by decide) ?_
  refine s_aload_n G dX5_rank_9 rfl ?_
  refine s_getR G dX5_rank_10 lkF_X5_35 (by decide) rfl rfl ?_
  obtain ⟨q2, hq2, hf⟩ := bnd hf
  refine s_callV G dX5_rank_13 (c_X4_load hq2) lkM_X5_178 yk_X4_load yv_X4_load (by decide) rfl rfl _ [] rfl rfl rfl (Nat.le_of_ble_eq_true rfl) (by decide) ?_
  refine s_aload_n G dX5_rank_16 rfl ?_
  refine s_getR G dX5_rank_17 lkF_X5_42 (by decide) rfl rfl ?_
  refine s_iload_n G dX5_rank_20 rfl ?_
  refine s_iload_n G dX5_rank_21 rfl ?_
  refine s_aload_n G dX5_rank_22 rfl ?_
  refine s_getR G dX5_rank_23 lkF_X5_35 (by decide) rfl rfl ?_
  refine s_getL (n := 0) G dX5_rank_26 lkF_X5_185 (by decide) rfl rfl ?_
  refine s_aload_n G dX5_rank_29 rfl ?_
  refine s_getR G dX5_rank_30 lkF_X5_35 (by decide) rfl rfl ?_
  refine s_getL (n := 0) G dX5_rank_33 lkF_X5_188 (by decide) rfl rfl ?_
  obtain ⟨q3, hq3, hf⟩ := bnd hf
  refine s_callV G dX5_rank_36 (c_X2_insert hq3) lkM_X5_326 yk_X2_insert yv_X2_insert (by decide) rfl rfl _ [] rfl rfl rfl (Nat.le_of_ble_eq_true rfl) (by decide) ?_
  replace hf := Option.some.inj hf
  subst hf
  exact s_vret G hR dX5_rank_39 rfl rfl
def f_X5_rankLines_10 (k4 : St → Option (St)) : Nat → Int32 → St → Option (St)
  | 0, _, _ => none
  | n5 + 1, x2, σ3 =>
    if (σ3.1 24 7) ≤ x2 then
      (k4 σ3)
    else
      (chk (ib x2 10) (
      if (σ3.1 30 x2.toNatClampNeg) = 0 then
        (f_X5_rankLines_10 k4 n5 (x2 + 1) σ3)
      else
        ((f_X5_rank x2 (-1 : Int32) σ3).bind (fun q9 =>
        f_X5_rankLines_10 k4 n5 (x2 + 1) q9))))
def f_X5_rankLines (σ : St) : Option (St) :=
nm (sI σ 19 4 (0 : Int32)) (fun σ1 : St =>
  f_X5_rankLines_10 (fun (σ10 : St) =>
    some σ10) 1000 (0 : Int32) σ1)
abbrev mX5_rankLines : Me := (yX5_rankLines, cX5_rankLines, 2, none, 5, 110)
set_option maxRecDepth 100000 in
set_option maxHeartbeats 4000000 in
theorem l_X5_rankLines_10 {Γ : Cxt} (G : OK Γ RX5 cX5_rankLines 2 none 5 110) {res : St} (hR : RetOK Γ none res) (k4 : St → Option (St)) (hk : ∀ (z : St), k4 z = some res → WW Γ 45 [none, none] [] z) : ∀ (n5 : Nat) (x2 : Int32) (σ3 : St), f_X5_rankLines_10 k4 n5 x2 σ3 = some res → WW Γ 10 [some (.ref 0), some (.int x2)] [] σ3 := by
  intro n5
  induction n5 with
  | zero =>
    intro x2 σ3 hf
    cases hf
  | succ n5 ih =>
    intro x2 σ3 hf
    unfold f_X5_rankLines_10 at hf
    refine s_iload_n G dX5_rankLines_10 rfl ?_
    refine s_aload_n G dX5_rankLines_11 rfl ?_
    refine s_getR G dX5_rankLines_12 lkF_X5_10 (by decide) rfl rfl ?_
    refine s_getI (n := 0) G dX5_rankLines_15 lkF_X5_231 (by decide) rfl rfl ?_
    refine s_icmp_ge (tgt := 45) G dX5_rankLines_18 (by decide) (fun c6 => ?_) (fun c6 => ?_)
    · replace hf := ifp c6 hf
      refine s_fgt [false, false] rfl ?_
      exact hk σ3 hf
    · replace hf := ifn c6 hf
      refine s_aload_n G dX5_rankLines_21 rfl ?_
      refine s_getR G dX5_rankLines_22 lkF_X5_10 (by decide) rfl rfl ?_
      refine s_getR G dX5_rankLines_25 lkF_X5_126 (by decide) rfl rfl ?_
      refine s_iload_n G dX5_rankLines_28 rfl ?_
      have h7 := chk_1 hf
      replace hf := chk_2 hf
      refine s_zald G dX5_rankLines_29 (by decide) rfl h7 ?_
      refine s_if_eq (tgt := 39) G dX5_rankLines_30 (by decide) (fun c8 => ?_) (fun c8 => ?_)
      · replace hf := ifp c8 hf
        refine s_iinc G dX5_rankLines_39 rfl (v := (x2 + 1)) rfl (by decide) rfl rfl ?_
        refine s_goto (tgt := 10) G dX5_rankLines_42 (by decide) ?_
        exact ih (x2 + 1) σ3 hf
      · replace hf := ifn c8 hf
        refine s_aload_n G dX5_rankLines_33 rfl ?_
        refine s_iload_n G dX5_rankLines_34 rfl ?_
        refine s_iconst G dX5_rankLines_35 (v := -1) (by decide) ?_
        obtain ⟨q9, hq9, hf⟩ := bnd hf
        refine s_callV G dX5_rankLines_36 (c_X5_rank hq9) lkM_X5_323 yk_X5_rank yv_X5_rank (by decide) rfl rfl _ [] rfl rfl rfl (Nat.le_of_ble_eq_true rfl) (by decide) ?_
        refine s_iinc G dX5_rankLines_39 rfl (v := (x2 + 1)) rfl (by decide) rfl rfl ?_
        refine s_goto (tgt := 10) G dX5_rankLines_42 (by decide) ?_
        exact ih (x2 + 1) q9 hf
set_option maxRecDepth 100000 in
set_option maxHeartbeats 4000000 in
theorem c_X5_rankLines  {σ : St} {res : St} (hf : f_X5_rankLines σ = some res) : Mt mX5_rankLines [.ref 0] σ none res := by
  unfold f_X5_rankLines at hf
  refine mt_of (by decide) (Nat.le_of_ble_eq_true rfl) [some (.ref 0), none] rfl (fun Γ G hR => ?_)
  have G : OK Γ RX5 cX5_rankLines 2 none 5 110 := G
  refine s_aload_n G dX5_rankLines_0 rfl ?_
  refine s_getR G dX5_rankLines_1 lkF_X5_42 (by decide) rfl rfl ?_
  refine s_iconst G dX5_rankLines_4 (v := 0) (by decide) ?_
  refine s_putI G dX5_rankLines_5 lkP_X5_322 (by decide) rfl rfl ?_
  refine s_st (fun σ1 eσ1 => ?_)
  replace hf := nm_at eσ1 hf
  refine s_iconst G dX5_rankLines_8 (v := 0) (by decide) ?_
  refine s_istore_n G dX5_rankLines_9 rfl (by decide) rfl rfl ?_
  refine l_X5_rankLines_10 G hR _ (fun σ10 hf => ?_) 1000 (0 : Int32) σ1 hf
  replace hf := Option.some.inj hf
  subst hf
  exact s_vret G hR dX5_rankLines_45 rfl rfl
def f_X5_ranked (a1 : Int32) (σ : St) : Option (Int32 × St) :=
if 0 ≤ a1 then
    ((f_X0_serving 0 σ).bind (fun q2 =>
    if a1 < q2.1 then
      ((f_X5_rankLines q2.2).bind (fun q4 =>
      (f_X2_has a1 q4).bind (fun q5 =>
      if q5.1 = 0 then
        (some ((-1 : Int32), q5.2))
      else
        (chk (ib a1 45) (
        some ((q5.2.1 20 a1.toNatClampNeg), q5.2))))))
    else
      (some ((-1 : Int32), q2.2))))
  else
    ((f_X5_bad σ).bind (fun q8 =>
    some (q8.1, q8.2)))
abbrev mX5_ranked : Me := (yX5_ranked, cX5_ranked, 2, (some .int), 6, 131)
set_option maxRecDepth 100000 in
set_option maxHeartbeats 4000000 in
theorem c_X5_ranked {a1 : Int32} {σ : St} {res : Int32 × St} (hf : f_X5_ranked a1 σ = some res) : Mt mX5_ranked [.ref 0, .int a1] σ (some (.int res.1)) res.2 := by
  unfold f_X5_ranked at hf
  refine mt_of (by decide) (Nat.le_of_ble_eq_true rfl) [some (.ref 0), some (.int a1)] rfl (fun Γ G hR => ?_)
  have G : OK Γ RX5 cX5_ranked 2 (some .int) 6 131 := G
  refine s_iload_n G dX5_ranked_0 rfl ?_
  refine s_if_ge (tgt := 9) G dX5_ranked_1 (by decide) (fun c1 => ?_) (fun c1 => ?_)
  · replace hf := ifp c1 hf
    refine s_iload_n G dX5_ranked_9 rfl ?_
    refine s_aload_n G dX5_ranked_10 rfl ?_
    refine s_getR G dX5_ranked_11 lkF_X5_10 (by decide) rfl rfl ?_
    obtain ⟨q2, hq2, hf⟩ := bnd hf
    refine s_callV G dX5_ranked_14 (c_X0_serving (by decide) hq2) lkM_X5_194 yk_X0_serving yv_X0_serving (by decide) rfl rfl _ [.int a1] rfl rfl rfl (Nat.le_of_ble_eq_true rfl) (by decide) ?_
    refine s_icmp_lt (tgt := 22) G dX5_ranked_17 (by decide) (fun c3 => ?_) (fun c3 => ?_)
    · replace hf := ifp c3 hf
      refine s_aload_n G dX5_ranked_22 rfl ?_
      obtain ⟨q4, hq4, hf⟩ := bnd hf
      refine s_callV G dX5_ranked_23 (c_X5_rankLines hq4) lkM_X5_197 yk_X5_rankLines yv_X5_rankLines (by decide) rfl rfl _ [] rfl rfl rfl (Nat.le_of_ble_eq_true rfl) (by decide) ?_
      refine s_aload_n G dX5_ranked_26 rfl ?_
      refine s_getR G dX5_ranked_27 lkF_X5_42 (by decide) rfl rfl ?_
      refine s_iload_n G dX5_ranked_30 rfl ?_
      obtain ⟨q5, hq5, hf⟩ := bnd hf
      refine s_callV G dX5_ranked_31 (c_X2_has hq5) lkM_X5_200 yk_X2_has yv_X2_has (by decide) rfl rfl _ [] rfl rfl rfl (Nat.le_of_ble_eq_true rfl) (by decide) ?_
      refine s_if_eq (tgt := 49) G dX5_ranked_34 (by decide) (fun c6 => ?_) (fun c6 => ?_)
      · replace hf := ifp c6 hf
        refine s_iconst G dX5_ranked_49 (v := -1) (by decide) ?_
        replace hf := Option.some.inj hf
        subst hf
        exact s_iret G hR dX5_ranked_50 rfl rfl
      · replace hf := ifn c6 hf
        refine s_aload_n G dX5_ranked_37 rfl ?_
        refine s_getR G dX5_ranked_38 lkF_X5_42 (by decide) rfl rfl ?_
        refine s_getR G dX5_ranked_41 lkF_X5_203 (by decide) rfl rfl ?_
        refine s_iload_n G dX5_ranked_44 rfl ?_
        have h7 := chk_1 hf
        replace hf := chk_2 hf
        refine s_iald G dX5_ranked_45 (by decide) rfl h7 ?_
        refine s_goto (tgt := 50) G dX5_ranked_46 (by decide) ?_
        replace hf := Option.some.inj hf
        subst hf
        exact s_iret G hR dX5_ranked_50 rfl rfl
    · replace hf := ifn c3 hf
      refine s_iconst G dX5_ranked_20 (v := -1) (by decide) ?_
      replace hf := Option.some.inj hf
      subst hf
      exact s_iret G hR dX5_ranked_21 rfl rfl
  · replace hf := ifn c1 hf
    refine s_aload_n G dX5_ranked_4 rfl ?_
    obtain ⟨q8, hq8, hf⟩ := bnd hf
    refine s_callV G dX5_ranked_5 (c_X5_bad hq8) lkM_X5_50 yk_X5_bad yv_X5_bad (by decide) rfl rfl _ [] rfl rfl rfl (Nat.le_of_ble_eq_true rfl) (by decide) ?_
    replace hf := Option.some.inj hf
    subst hf
    exact s_iret G hR dX5_ranked_8 rfl rfl
def f_X5_rankPairs_25 (x2 : Int32) (k10 : St → Option (St)) : Nat → Int32 → St → Option (St)
  | 0, _, _ => none
  | n11 + 1, x8, σ9 =>
    if (σ9.1 24 7) ≤ x8 then
      (k10 σ9)
    else
      (chk (ib x2 10) (
      if (σ9.1 30 x2.toNatClampNeg) = 0 then
        (f_X5_rankPairs_25 x2 k10 n11 (x8 + 1) σ9)
      else
        (chk (ib x8 10) (
        if (σ9.1 30 x8.toNatClampNeg) = 0 then
          (f_X5_rankPairs_25 x2 k10 n11 (x8 + 1) σ9)
        else
          ((f_X5_rank x2 x8 σ9).bind (fun q17 =>
          f_X5_rankPairs_25 x2 k10 n11 (x8 + 1) q17))))))
def f_X5_rankPairs_10 (k4 : St → Option (St)) : Nat → Int32 → St → Option (St)
  | 0, _, _ => none
  | n5 + 1, x2, σ3 =>
    if (σ3.1 24 7) ≤ x2 then
      (k4 σ3)
    else
      (nm (x2 + (1 : Int32)) (fun x7 : Int32 =>
      f_X5_rankPairs_25 x2 (fun (σ18 : St) =>
        f_X5_rankPairs_10 k4 n5 (x2 + 1) σ18) 1000 x7 σ3))
def f_X5_rankPairs (σ : St) : Option (St) :=
nm (sI σ 19 4 (0 : Int32)) (fun σ1 : St =>
  f_X5_rankPairs_10 (fun (σ19 : St) =>
    some σ19) 1000 (0 : Int32) σ1)
abbrev mX5_rankPairs : Me := (yX5_rankPairs, cX5_rankPairs, 3, none, 5, 110)
set_option maxRecDepth 100000 in
set_option maxHeartbeats 4000000 in
theorem l_X5_rankPairs_25 {Γ : Cxt} (G : OK Γ RX5 cX5_rankPairs 3 none 5 110) {res : St} (hR : RetOK Γ none res) (x2 : Int32) (k10 : St → Option (St)) (hk : ∀ (z : St), k10 z = some res → WW Γ 72 [some (.ref 0), some (.int x2), none] [] z) : ∀ (n11 : Nat) (x8 : Int32) (σ9 : St), f_X5_rankPairs_25 x2 k10 n11 x8 σ9 = some res → WW Γ 25 [some (.ref 0), some (.int x2), some (.int x8)] [] σ9 := by
  intro n11
  induction n11 with
  | zero =>
    intro x8 σ9 hf
    cases hf
  | succ n11 ih =>
    intro x8 σ9 hf
    unfold f_X5_rankPairs_25 at hf
    refine s_iload_n G dX5_rankPairs_25 rfl ?_
    refine s_aload_n G dX5_rankPairs_26 rfl ?_
    refine s_getR G dX5_rankPairs_27 lkF_X5_10 (by decide) rfl rfl ?_
    refine s_getI (n := 0) G dX5_rankPairs_30 lkF_X5_231 (by decide) rfl rfl ?_
    refine s_icmp_ge (tgt := 72) G dX5_rankPairs_33 (by decide) (fun c12 => ?_) (fun c12 => ?_)
    · replace hf := ifp c12 hf
      refine s_fgt [true, true, false] rfl ?_
      exact hk σ9 hf
    · replace hf := ifn c12 hf
      refine s_aload_n G dX5_rankPairs_36 rfl ?_
      refine s_getR G dX5_rankPairs_37 lkF_X5_10 (by decide) rfl rfl ?_
      refine s_getR G dX5_rankPairs_40 lkF_X5_126 (by decide) rfl rfl ?_
      refine s_iload_n G dX5_rankPairs_43 rfl ?_
      have h13 := chk_1 hf
      replace hf := chk_2 hf
      refine s_zald G dX5_rankPairs_44 (by decide) rfl h13 ?_
      refine s_if_eq (tgt := 66) G dX5_rankPairs_45 (by decide) (fun c14 => ?_) (fun c14 => ?_)
      · replace hf := ifp c14 hf
        refine s_iinc G dX5_rankPairs_66 rfl (v := (x8 + 1)) rfl (by decide) rfl rfl ?_
        refine s_goto (tgt := 25) G dX5_rankPairs_69 (by decide) ?_
        exact ih (x8 + 1) σ9 hf
      · replace hf := ifn c14 hf
        refine s_aload_n G dX5_rankPairs_48 rfl ?_
        refine s_getR G dX5_rankPairs_49 lkF_X5_10 (by decide) rfl rfl ?_
        refine s_getR G dX5_rankPairs_52 lkF_X5_126 (by decide) rfl rfl ?_
        refine s_iload_n G dX5_rankPairs_55 rfl ?_
        have h15 := chk_1 hf
        replace hf := chk_2 hf
        refine s_zald G dX5_rankPairs_56 (by decide) rfl h15 ?_
        refine s_if_eq (tgt := 66) G dX5_rankPairs_57 (by decide) (fun c16 => ?_) (fun c16 => ?_)
        · replace hf := ifp c16 hf
          refine s_iinc G dX5_rankPairs_66 rfl (v := (x8 + 1)) rfl (by decide) rfl rfl ?_
          refine s_goto (tgt := 25) G dX5_rankPairs_69 (by decide) ?_
          exact ih (x8 + 1) σ9 hf
        · replace hf := ifn c16 hf
          refine s_aload_n G dX5_rankPairs_60 rfl ?_
          refine s_iload_n G dX5_rankPairs_61 rfl ?_
          refine s_iload_n G dX5_rankPairs_62 rfl ?_
          obtain ⟨q17, hq17, hf⟩ := bnd hf
          refine s_callV G dX5_rankPairs_63 (c_X5_rank hq17) lkM_X5_323 yk_X5_rank yv_X5_rank (by decide) rfl rfl _ [] rfl rfl rfl (Nat.le_of_ble_eq_true rfl) (by decide) ?_
          refine s_iinc G dX5_rankPairs_66 rfl (v := (x8 + 1)) rfl (by decide) rfl rfl ?_
          refine s_goto (tgt := 25) G dX5_rankPairs_69 (by decide) ?_
          exact ih (x8 + 1) q17 hf
set_option maxRecDepth 100000 in
set_option maxHeartbeats 4000000 in
theorem l_X5_rankPairs_10 {Γ : Cxt} (G : OK Γ RX5 cX5_rankPairs 3 none 5 110) {res : St} (hR : RetOK Γ none res) (k4 : St → Option (St)) (hk : ∀ (z : St), k4 z = some res → WW Γ 78 [none, none, none] [] z) : ∀ (n5 : Nat) (x2 : Int32) (σ3 : St), f_X5_rankPairs_10 k4 n5 x2 σ3 = some res → WW Γ 10 [some (.ref 0), some (.int x2), none] [] σ3 := by
  intro n5
  induction n5 with
  | zero =>
    intro x2 σ3 hf
    cases hf
  | succ n5 ih =>
    intro x2 σ3 hf
    unfold f_X5_rankPairs_10 at hf
    refine s_iload_n G dX5_rankPairs_10 rfl ?_
    refine s_aload_n G dX5_rankPairs_11 rfl ?_
    refine s_getR G dX5_rankPairs_12 lkF_X5_10 (by decide) rfl rfl ?_
    refine s_getI (n := 0) G dX5_rankPairs_15 lkF_X5_231 (by decide) rfl rfl ?_
    refine s_icmp_ge (tgt := 78) G dX5_rankPairs_18 (by decide) (fun c6 => ?_) (fun c6 => ?_)
    · replace hf := ifp c6 hf
      refine s_fgt [false, false, true] rfl ?_
      exact hk σ3 hf
    · replace hf := ifn c6 hf
      refine s_iload_n G dX5_rankPairs_21 rfl ?_
      refine s_iconst G dX5_rankPairs_22 (v := 1) (by decide) ?_
      refine s_iadd G dX5_rankPairs_23 ?_
      refine s_topi (fun x7 ex7 => ?_)
      replace hf := nm_at ex7 hf
      refine s_istore_n G dX5_rankPairs_24 rfl (by decide) rfl rfl ?_
      refine l_X5_rankPairs_25 G hR x2 _ (fun σ18 hf => ?_) 1000 x7 σ3 hf
      refine s_iinc G dX5_rankPairs_72 rfl (v := (x2 + 1)) rfl (by decide) rfl rfl ?_
      refine s_goto (tgt := 10) G dX5_rankPairs_75 (by decide) ?_
      exact ih (x2 + 1) σ18 hf
set_option maxRecDepth 100000 in
set_option maxHeartbeats 4000000 in
theorem c_X5_rankPairs  {σ : St} {res : St} (hf : f_X5_rankPairs σ = some res) : Mt mX5_rankPairs [.ref 0] σ none res := by
  unfold f_X5_rankPairs at hf
  refine mt_of (by decide) (Nat.le_of_ble_eq_true rfl) [some (.ref 0), none, none] rfl (fun Γ G hR => ?_)
  have G : OK Γ RX5 cX5_rankPairs 3 none 5 110 := G
  refine s_aload_n G dX5_rankPairs_0 rfl ?_
  refine s_getR G dX5_rankPairs_1 lkF_X5_42 (by decide) rfl rfl ?_
  refine s_iconst G dX5_rankPairs_4 (v := 0) (by decide) ?_
  refine s_putI G dX5_rankPairs_5 lkP_X5_322 (by decide) rfl rfl ?_
  refine s_st (fun σ1 eσ1 => ?_)
  replace hf := nm_at eσ1 hf
  refine s_iconst G dX5_rankPairs_8 (v := 0) (by decide) ?_
  refine s_istore_n G dX5_rankPairs_9 rfl (by decide) rfl rfl ?_
  refine l_X5_rankPairs_10 G hR _ (fun σ19 hf => ?_) 1000 (0 : Int32) σ1 hf
  replace hf := Option.some.inj hf
  subst hf
  exact s_vret G hR dX5_rankPairs_78 rfl rfl
def f_X5_pair (a1 : Int32) (a2 : Int32) (σ : St) : Option (Int64 × St) :=
if a1 < 0 then
    ((f_X5_bad σ).bind (fun q2 =>
    some (q2.1.toInt64, q2.2)))
  else
    ((f_X5_within a2 (0 : Int32) (3 : Int32) σ).bind (fun q3 =>
    if q3.1 = 0 then
      ((f_X5_bad q3.2).bind (fun q19 =>
      some (q19.1.toInt64, q19.2)))
    else
      ((f_X0_serving 0 q3.2).bind (fun q5 =>
      if a1 < ((q5.1 * (q5.1 - (1 : Int32))) / (2 : Int32)) then
        ((f_X5_rankPairs q5.2).bind (fun q7 =>
        (f_X2_has a1 q7).bind (fun q8 =>
        if q8.1 = 0 then
          (some ((-1 : Int64), q8.2))
        else
          (if a2 = 0 then
            (chk (ib a1 45) (
            some ((q8.2.1 20 a1.toNatClampNeg).toInt64, q8.2)))
          else (if a2 = 1 then
            (chk (ib a1 45) (
            some ((q8.2.1 21 a1.toNatClampNeg).toInt64, q8.2)))
          else (if a2 = 2 then
            (chk (ib a1 45) (
            (f_X5_part (q8.2.2 22 a1.toNatClampNeg) (q8.2.2 23 a1.toNatClampNeg) (0 : Int32) q8.2).bind (fun q16 =>
            some (q16.1, q16.2))))
          else (chk (ib a1 45) (
          (f_X5_part (q8.2.2 22 a1.toNatClampNeg) (q8.2.2 23 a1.toNatClampNeg) (1 : Int32) q8.2).bind (fun q18 =>
          some (q18.1, q18.2))))))))))
      else
        (some ((-1 : Int64), q5.2))))))
abbrev mX5_pair : Me := (yX5_pair, cX5_pair, 4, (some .long), 6, 132)
set_option maxRecDepth 100000 in
set_option maxHeartbeats 4000000 in
theorem c_X5_pair {a1 : Int32} {a2 : Int32} {σ : St} {res : Int64 × St} (hf : f_X5_pair a1 a2 σ = some res) : Mt mX5_pair [.ref 0, .int a1, .int a2] σ (some (.long res.1)) res.2 := by
  unfold f_X5_pair at hf
  refine mt_of (by decide) (Nat.le_of_ble_eq_true rfl) [some (.ref 0), some (.int a1), some (.int a2), none] rfl (fun Γ G hR => ?_)
  have G : OK Γ RX5 cX5_pair 4 (some .long) 6 132 := G
  refine s_iload_n G dX5_pair_0 rfl ?_
  refine s_if_lt (tgt := 13) G dX5_pair_1 (by decide) (fun c1 => ?_) (fun c1 => ?_)
  · replace hf := ifp c1 hf
    refine s_aload_n G dX5_pair_13 rfl ?_
    obtain ⟨q2, hq2, hf⟩ := bnd hf
    refine s_callV G dX5_pair_14 (c_X5_bad hq2) lkM_X5_50 yk_X5_bad yv_X5_bad (by decide) rfl rfl _ [] rfl rfl rfl (Nat.le_of_ble_eq_true rfl) (by decide) ?_
    refine s_i2l G dX5_pair_17 ?_
    replace hf := Option.some.inj hf
    subst hf
    exact s_lret G hR dX5_pair_18 rfl rfl
  · replace hf := ifn c1 hf
    refine s_iload_n G dX5_pair_4 rfl ?_
    refine s_iconst G dX5_pair_5 (v := 0) (by decide) ?_
    refine s_iconst G dX5_pair_6 (v := 3) (by decide) ?_
    obtain ⟨q3, hq3, hf⟩ := bnd hf
    refine s_callS G dX5_pair_7 (c_X5_within hq3) lkM_X5_109 yk_X5_within ys_X5_within _ [] rfl rfl rfl (Nat.le_of_ble_eq_true rfl) (by decide) ?_
    refine s_if_ne (tgt := 19) G dX5_pair_10 (by decide) (fun c4 => ?_) (fun c4 => ?_)
    · replace hf := ifn c4 hf
      refine s_aload_n G dX5_pair_19 rfl ?_
      refine s_getR G dX5_pair_20 lkF_X5_10 (by decide) rfl rfl ?_
      obtain ⟨q5, hq5, hf⟩ := bnd hf
      refine s_callV G dX5_pair_23 (c_X0_serving (by decide) hq5) lkM_X5_194 yk_X0_serving yv_X0_serving (by decide) rfl rfl _ [] rfl rfl rfl (Nat.le_of_ble_eq_true rfl) (by decide) ?_
      refine s_istore_n G dX5_pair_26 rfl (by decide) rfl rfl ?_
      refine s_iload_n G dX5_pair_27 rfl ?_
      refine s_iload_n G dX5_pair_28 rfl ?_
      refine s_iload_n G dX5_pair_29 rfl ?_
      refine s_iconst G dX5_pair_30 (v := 1) (by decide) ?_
      refine s_isub G dX5_pair_31 ?_
      refine s_imul G dX5_pair_32 ?_
      refine s_iconst G dX5_pair_33 (v := 2) (by decide) ?_
      refine s_idiv G dX5_pair_34 (by decide) ?_
      refine s_icmp_lt (tgt := 42) G dX5_pair_35 (by decide) (fun c6 => ?_) (fun c6 => ?_)
      · replace hf := ifp c6 hf
        refine s_aload_n G dX5_pair_42 rfl ?_
        obtain ⟨q7, hq7, hf⟩ := bnd hf
        refine s_callV G dX5_pair_43 (c_X5_rankPairs hq7) lkM_X5_208 yk_X5_rankPairs yv_X5_rankPairs (by decide) rfl rfl _ [] rfl rfl rfl (Nat.le_of_ble_eq_true rfl) (by decide) ?_
        refine s_aload_n G dX5_pair_46 rfl ?_
        refine s_getR G dX5_pair_47 lkF_X5_42 (by decide) rfl rfl ?_
        refine s_iload_n G dX5_pair_50 rfl ?_
        obtain ⟨q8, hq8, hf⟩ := bnd hf
        refine s_callV G dX5_pair_51 (c_X2_has hq8) lkM_X5_200 yk_X2_has yv_X2_has (by decide) rfl rfl _ [] rfl rfl rfl (Nat.le_of_ble_eq_true rfl) (by decide) ?_
        refine s_if_ne (tgt := 61) G dX5_pair_54 (by decide) (fun c9 => ?_) (fun c9 => ?_)
        · replace hf := ifn c9 hf
          refine s_iload_n G dX5_pair_61 rfl ?_
          by_cases c10 : a2 = 0
          · replace hf := ifp c10 hf
            refine s_tabIn (tgt := 88) G dX5_pair_62 (by rw [c10]; decide) (by rw [c10]; decide) (by rw [c10]; rfl) (by decide) ?_
            refine s_aload_n G dX5_pair_88 rfl ?_
            refine s_getR G dX5_pair_89 lkF_X5_42 (by decide) rfl rfl ?_
            refine s_getR G dX5_pair_92 lkF_X5_203 (by decide) rfl rfl ?_
            refine s_iload_n G dX5_pair_95 rfl ?_
            have h11 := chk_1 hf
            replace hf := chk_2 hf
            refine s_iald G dX5_pair_96 (by decide) rfl h11 ?_
            refine s_i2l G dX5_pair_97 ?_
            replace hf := Option.some.inj hf
            subst hf
            exact s_lret G hR dX5_pair_98 rfl rfl
          replace hf := ifn c10 hf
          by_cases c12 : a2 = 1
          · replace hf := ifp c12 hf
            refine s_tabIn (tgt := 99) G dX5_pair_62 (by rw [c12]; decide) (by rw [c12]; decide) (by rw [c12]; rfl) (by decide) ?_
            refine s_aload_n G dX5_pair_99 rfl ?_
            refine s_getR G dX5_pair_100 lkF_X5_42 (by decide) rfl rfl ?_
            refine s_getR G dX5_pair_103 lkF_X5_211 (by decide) rfl rfl ?_
            refine s_iload_n G dX5_pair_106 rfl ?_
            have h13 := chk_1 hf
            replace hf := chk_2 hf
            refine s_iald G dX5_pair_107 (by decide) rfl h13 ?_
            refine s_i2l G dX5_pair_108 ?_
            replace hf := Option.some.inj hf
            subst hf
            exact s_lret G hR dX5_pair_109 rfl rfl
          replace hf := ifn c12 hf
          by_cases c14 : a2 = 2
          · replace hf := ifp c14 hf
            refine s_tabIn (tgt := 110) G dX5_pair_62 (by rw [c14]; decide) (by rw [c14]; decide) (by rw [c14]; rfl) (by decide) ?_
            refine s_aload_n G dX5_pair_110 rfl ?_
            refine s_getR G dX5_pair_111 lkF_X5_42 (by decide) rfl rfl ?_
            refine s_getR G dX5_pair_114 lkF_X5_214 (by decide) rfl rfl ?_
            refine s_iload_n G dX5_pair_117 rfl ?_
            have h15 := chk_1 hf
            replace hf := chk_2 hf
            refine s_lald G dX5_pair_118 (by decide) rfl h15 ?_
            refine s_aload_n G dX5_pair_119 rfl ?_
            refine s_getR G dX5_pair_120 lkF_X5_42 (by decide) rfl rfl ?_
            refine s_getR G dX5_pair_123 lkF_X5_217 (by decide) rfl rfl ?_
            refine s_iload_n G dX5_pair_126 rfl ?_
            refine s_lald G dX5_pair_127 (by decide) rfl h15 ?_
            refine s_iconst G dX5_pair_128 (v := 0) (by decide) ?_
            obtain ⟨q16, hq16, hf⟩ := bnd hf
            refine s_callS G dX5_pair_129 (c_X5_part hq16) lkM_X5_148 yk_X5_part ys_X5_part _ [] rfl rfl rfl (Nat.le_of_ble_eq_true rfl) (by decide) ?_
            replace hf := Option.some.inj hf
            subst hf
            exact s_lret G hR dX5_pair_132 rfl rfl
          replace hf := ifn c14 hf
          refine s_tabOut (tgt := 133) G dX5_pair_62 (tab_out 2 (by decide) (by intro k hk; match k, hk with | 0, _ => exact c10 | 1, _ => exact c12 | 2, _ => exact c14)) (by decide) ?_
          refine s_aload_n G dX5_pair_133 rfl ?_
          refine s_getR G dX5_pair_134 lkF_X5_42 (by decide) rfl rfl ?_
          refine s_getR G dX5_pair_137 lkF_X5_214 (by decide) rfl rfl ?_
          refine s_iload_n G dX5_pair_140 rfl ?_
          have h17 := chk_1 hf
          replace hf := chk_2 hf
          refine s_lald G dX5_pair_141 (by decide) rfl h17 ?_
          refine s_aload_n G dX5_pair_142 rfl ?_
          refine s_getR G dX5_pair_143 lkF_X5_42 (by decide) rfl rfl ?_
          refine s_getR G dX5_pair_146 lkF_X5_217 (by decide) rfl rfl ?_
          refine s_iload_n G dX5_pair_149 rfl ?_
          refine s_lald G dX5_pair_150 (by decide) rfl h17 ?_
          refine s_iconst G dX5_pair_151 (v := 1) (by decide) ?_
          obtain ⟨q18, hq18, hf⟩ := bnd hf
          refine s_callS G dX5_pair_152 (c_X5_part hq18) lkM_X5_148 yk_X5_part ys_X5_part _ [] rfl rfl rfl (Nat.le_of_ble_eq_true rfl) (by decide) ?_
          replace hf := Option.some.inj hf
          subst hf
          exact s_lret G hR dX5_pair_155 rfl rfl
        · replace hf := ifp c9 hf
          refine s_ldc2 G dX5_pair_57 kc_X5_206 ?_
          replace hf := Option.some.inj hf
          subst hf
          exact s_lret G hR dX5_pair_60 rfl rfl
      · replace hf := ifn c6 hf
        refine s_ldc2 G dX5_pair_38 kc_X5_206 ?_
        replace hf := Option.some.inj hf
        subst hf
        exact s_lret G hR dX5_pair_41 rfl rfl
    · replace hf := ifp c4 hf
      refine s_aload_n G dX5_pair_13 rfl ?_
      obtain ⟨q19, hq19, hf⟩ := bnd hf
      refine s_callV G dX5_pair_14 (c_X5_bad hq19) lkM_X5_50 yk_X5_bad yv_X5_bad (by decide) rfl rfl _ [] rfl rfl rfl (Nat.le_of_ble_eq_true rfl) (by decide) ?_
      refine s_i2l G dX5_pair_17 ?_
      replace hf := Option.some.inj hf
      subst hf
      exact s_lret G hR dX5_pair_18 rfl rfl
def f_X5_shift (a1 : Int32) (σ : St) : Option (Int32 × St) :=
(f_X0_hasLine 0 a1 σ).bind (fun q1 =>
  if q1.1 = 0 then
    ((f_X5_bad q1.2).bind (fun q11 =>
    some ((-9999 : Int32), q11.2)))
  else
    ((f_X5_isBridge a1 q1.2).bind (fun q3 =>
    if q3.1 = 0 then
      ((f_X5_no q3.2).bind (fun q10 =>
      some ((-9998 : Int32), q10.2)))
    else
      ((f_X4_take a1 (-1 : Int32) q3.2).bind (fun q5 =>
      chk (ib a1 10) (
      chk (ib (q5.1 26 a1.toNatClampNeg) 6) (
      chk (ib (q5.1 27 a1.toNatClampNeg) 6) (
      (f_X4_ownSum (if (q5.1 8 (q5.1 26 a1.toNatClampNeg).toNatClampNeg) < (q5.1 8 (q5.1 27 a1.toNatClampNeg).toNatClampNeg) then (q5.1 8 (q5.1 27 a1.toNatClampNeg).toNatClampNeg) else (q5.1 8 (q5.1 26 a1.toNatClampNeg).toNatClampNeg)) q5).bind (fun q9 =>
      some (q9.1, q9.2))))))))))
abbrev mX5_shift : Me := (yX5_shift, cX5_shift, 2, (some .int), 4, 90)
set_option maxRecDepth 100000 in
set_option maxHeartbeats 4000000 in
theorem c_X5_shift {a1 : Int32} {σ : St} {res : Int32 × St} (hf : f_X5_shift a1 σ = some res) : Mt mX5_shift [.ref 0, .int a1] σ (some (.int res.1)) res.2 := by
  unfold f_X5_shift at hf
  refine mt_of (by decide) (Nat.le_of_ble_eq_true rfl) [some (.ref 0), some (.int a1)] rfl (fun Γ G hR => ?_)
  have G : OK Γ RX5 cX5_shift 2 (some .int) 4 90 := G
  refine s_aload_n G dX5_shift_0 rfl ?_
  refine s_getR G dX5_shift_1 lkF_X5_10 (by decide) rfl rfl ?_
  refine s_iload_n G dX5_shift_4 rfl ?_
  obtain ⟨q1, hq1, hf⟩ := bnd hf
  refine s_callV G dX5_shift_5 (c_X0_hasLine (by decide) hq1) lkM_X5_84 yk_X0_hasLine yv_X0_hasLine (by decide) rfl rfl _ [] rfl rfl rfl (Nat.le_of_ble_eq_true rfl) (by decide) ?_
  refine s_if_ne (tgt := 20) G dX5_shift_8 (by decide) (fun c2 => ?_) (fun c2 => ?_)
  · replace hf := ifn c2 hf
    refine s_aload_n G dX5_shift_20 rfl ?_
    refine s_iload_n G dX5_shift_21 rfl ?_
    obtain ⟨q3, hq3, hf⟩ := bnd hf
    refine s_callV G dX5_shift_22 (c_X5_isBridge hq3) lkM_X5_130 yk_X5_isBridge yv_X5_isBridge (by decide) rfl rfl _ [] rfl rfl rfl (Nat.le_of_ble_eq_true rfl) (by decide) ?_
    refine s_if_ne (tgt := 37) G dX5_shift_25 (by decide) (fun c4 => ?_) (fun c4 => ?_)
    · replace hf := ifn c4 hf
      refine s_aload_n G dX5_shift_37 rfl ?_
      refine s_getR G dX5_shift_38 lkF_X5_35 (by decide) rfl rfl ?_
      refine s_iload_n G dX5_shift_41 rfl ?_
      refine s_iconst G dX5_shift_42 (v := -1) (by decide) ?_
      obtain ⟨q5, hq5, hf⟩ := bnd hf
      refine s_callV G dX5_shift_43 (c_X4_take hq5) lkM_X5_133 yk_X4_take yv_X4_take (by decide) rfl rfl _ [] rfl rfl rfl (Nat.le_of_ble_eq_true rfl) (by decide) ?_
      refine s_aload_n G dX5_shift_46 rfl ?_
      refine s_getR G dX5_shift_47 lkF_X5_35 (by decide) rfl rfl ?_
      refine s_aload_n G dX5_shift_50 rfl ?_
      refine s_getR G dX5_shift_51 lkF_X5_35 (by decide) rfl rfl ?_
      refine s_getR G dX5_shift_54 lkF_X5_161 (by decide) rfl rfl ?_
      refine s_aload_n G dX5_shift_57 rfl ?_
      refine s_getR G dX5_shift_58 lkF_X5_10 (by decide) rfl rfl ?_
      refine s_getR G dX5_shift_61 lkF_X5_113 (by decide) rfl rfl ?_
      refine s_iload_n G dX5_shift_64 rfl ?_
      have h6 := chk_1 hf
      replace hf := chk_2 hf
      refine s_iald G dX5_shift_65 (by decide) rfl h6 ?_
      have h7 := chk_1 hf
      replace hf := chk_2 hf
      refine s_iald G dX5_shift_66 (by decide) rfl h7 ?_
      refine s_aload_n G dX5_shift_67 rfl ?_
      refine s_getR G dX5_shift_68 lkF_X5_35 (by decide) rfl rfl ?_
      refine s_getR G dX5_shift_71 lkF_X5_161 (by decide) rfl rfl ?_
      refine s_aload_n G dX5_shift_74 rfl ?_
      refine s_getR G dX5_shift_75 lkF_X5_10 (by decide) rfl rfl ?_
      refine s_getR G dX5_shift_78 lkF_X5_117 (by decide) rfl rfl ?_
      refine s_iload_n G dX5_shift_81 rfl ?_
      refine s_iald G dX5_shift_82 (by decide) rfl h6 ?_
      have h8 := chk_1 hf
      replace hf := chk_2 hf
      refine s_iald G dX5_shift_83 (by decide) rfl h8 ?_
      refine s_mmax G dX5_shift_84 lkJ_X5_220 (Nat.le_of_ble_eq_true rfl) (by decide) ?_
      obtain ⟨q9, hq9, hf⟩ := bnd hf
      refine s_callV G dX5_shift_87 (c_X4_ownSum hq9) lkM_X5_172 yk_X4_ownSum yv_X4_ownSum (by decide) rfl rfl _ [] rfl rfl rfl (Nat.le_of_ble_eq_true rfl) (by decide) ?_
      replace hf := Option.some.inj hf
      subst hf
      exact s_iret G hR dX5_shift_90 rfl rfl
    · replace hf := ifp c4 hf
      refine s_aload_n G dX5_shift_28 rfl ?_
      obtain ⟨q10, hq10, hf⟩ := bnd hf
      refine s_callV G dX5_shift_29 (c_X5_no hq10) lkM_X5_175 yk_X5_no yv_X5_no (by decide) rfl rfl _ [] rfl rfl rfl (Nat.le_of_ble_eq_true rfl) (by decide) ?_
      refine s_pop G dX5_shift_32 rfl ?_
      refine s_sipush G dX5_shift_33 (v := -9998) (by decide) ?_
      replace hf := Option.some.inj hf
      subst hf
      exact s_iret G hR dX5_shift_36 rfl rfl
  · replace hf := ifp c2 hf
    refine s_aload_n G dX5_shift_11 rfl ?_
    obtain ⟨q11, hq11, hf⟩ := bnd hf
    refine s_callV G dX5_shift_12 (c_X5_bad hq11) lkM_X5_50 yk_X5_bad yv_X5_bad (by decide) rfl rfl _ [] rfl rfl rfl (Nat.le_of_ble_eq_true rfl) (by decide) ?_
    refine s_pop G dX5_shift_15 rfl ?_
    refine s_sipush G dX5_shift_16 (v := -9999) (by decide) ?_
    replace hf := Option.some.inj hf
    subst hf
    exact s_iret G hR dX5_shift_19 rfl rfl
def f_X5_transfer_84 (a1 : Int32) (a2 : Int32) (k19 : Int32 → St → Option (Int32 × St)) : Nat → Int32 → Int32 → St → Option (Int32 × St)
  | 0, _, _, _ => none
  | n20 + 1, x16, x17, σ18 =>
    if (σ18.1 24 7) ≤ x17 then
      (k19 x16 σ18)
    else
      (chk (ib x17 10) (
      if (σ18.1 30 x17.toNatClampNeg) = 0 then
        (f_X5_transfer_84 a1 a2 k19 n20 x16 (x17 + 1) σ18)
      else
        ((f_X5_isBridge x17 σ18).bind (fun q24 =>
        if q24.1 = 0 then
          ((f_X4_take x17 (-1 : Int32) q24.2).bind (fun q26 =>
          (f_X4_room a1 a2 q26).bind (fun q27 =>
          nm (if q27.1 < x16 then q27.1 else x16) (fun x28 : Int32 =>
          f_X5_transfer_84 a1 a2 k19 n20 x28 (x17 + 1) q27.2))))
        else
          (f_X5_transfer_84 a1 a2 k19 n20 x16 (x17 + 1) q24.2)))))
def f_X5_transfer (a1 : Int32) (a2 : Int32) (a3 : Int32) (σ : St) : Option (Int32 × St) :=
(f_X0_hasBus 0 a1 σ).bind (fun q1 =>
  if q1.1 = 0 then
    ((f_X5_bad q1.2).bind (fun q3 =>
    some (q3.1, q3.2)))
  else
    ((f_X0_hasBus 0 a2 q1.2).bind (fun q4 =>
    if q4.1 = 0 then
      ((f_X5_bad q4.2).bind (fun q6 =>
      some (q6.1, q6.2)))
    else
      (if a1 = a2 then
        ((f_X5_bad q4.2).bind (fun q8 =>
        some (q8.1, q8.2)))
      else
        ((f_X5_isFlag a3 q4.2).bind (fun q9 =>
        if q9.1 = 0 then
          ((f_X5_bad q9.2).bind (fun q32 =>
          some (q32.1, q32.2)))
        else
          ((f_X4_take (-1 : Int32) (-1 : Int32) q9.2).bind (fun q11 =>
          (f_X4_joins a1 a2 q11).bind (fun q12 =>
          if q12.1 = 0 then
            ((f_X5_no q12.2).bind (fun q31 =>
            some (q31.1, q31.2)))
          else
            ((f_X4_room a1 a2 q12.2).bind (fun q14 =>
            if a3 = (1 : Int32) then
              (f_X5_transfer_84 a1 a2 (fun (x29 : Int32) (σ30 : St) =>
                some (x29, σ30)) 1000 q14.1 (0 : Int32) q14.2)
            else
              (some (q14.1, q14.2)))))))))))))
abbrev mX5_transfer : Me := (yX5_transfer, cX5_transfer, 6, (some .int), 4, 92)
set_option maxRecDepth 100000 in
set_option maxHeartbeats 4000000 in
theorem l_X5_transfer_84 {Γ : Cxt} (G : OK Γ RX5 cX5_transfer 6 (some .int) 4 92) {res : Int32 × St} (hR : RetOK Γ (some (.int res.1)) res.2) (a1 : Int32) (a2 : Int32) (k19 : Int32 → St → Option (Int32 × St)) (hk : ∀ (y4 : Int32) (z : St), k19 y4 z = some res → WW Γ 150 [none, none, none, none, some (.int y4), none] [] z) : ∀ (n20 : Nat) (x16 : Int32) (x17 : Int32) (σ18 : St), f_X5_transfer_84 a1 a2 k19 n20 x16 x17 σ18 = some res → WW Γ 84 [some (.ref 0), some (.int a1), some (.int a2), none, some (.int x16), some (.int x17)] [] σ18 := by
  intro n20
  induction n20 with
  | zero =>
    intro x16 x17 σ18 hf
    cases hf
  | succ n20 ih =>
    intro x16 x17 σ18 hf
    unfold f_X5_transfer_84 at hf
    refine s_iload G dX5_transfer_84 rfl ?_
    refine s_aload_n G dX5_transfer_86 rfl ?_
    refine s_getR G dX5_transfer_87 lkF_X5_10 (by decide) rfl rfl ?_
    refine s_getI (n := 0) G dX5_transfer_90 lkF_X5_231 (by decide) rfl rfl ?_
    refine s_icmp_ge (tgt := 150) G dX5_transfer_93 (by decide) (fun c21 => ?_) (fun c21 => ?_)
    · replace hf := ifp c21 hf
      refine s_fgt [false, false, false, true, true, false] rfl ?_
      exact hk x16 σ18 hf
    · replace hf := ifn c21 hf
      refine s_aload_n G dX5_transfer_96 rfl ?_
      refine s_getR G dX5_transfer_97 lkF_X5_10 (by decide) rfl rfl ?_
      refine s_getR G dX5_transfer_100 lkF_X5_126 (by decide) rfl rfl ?_
      refine s_iload G dX5_transfer_103 rfl ?_
      have h22 := chk_1 hf
      replace hf := chk_2 hf
      refine s_zald G dX5_transfer_105 (by decide) rfl h22 ?_
      refine s_if_eq (tgt := 144) G dX5_transfer_106 (by decide) (fun c23 => ?_) (fun c23 => ?_)
      · replace hf := ifp c23 hf
        refine s_iinc G dX5_transfer_144 rfl (v := (x17 + 1)) rfl (by decide) rfl rfl ?_
        refine s_goto (tgt := 84) G dX5_transfer_147 (by decide) ?_
        exact ih x16 (x17 + 1) σ18 hf
      · replace hf := ifn c23 hf
        refine s_aload_n G dX5_transfer_109 rfl ?_
        refine s_iload G dX5_transfer_110 rfl ?_
        obtain ⟨q24, hq24, hf⟩ := bnd hf
        refine s_callV G dX5_transfer_112 (c_X5_isBridge hq24) lkM_X5_130 yk_X5_isBridge yv_X5_isBridge (by decide) rfl rfl _ [] rfl rfl rfl (Nat.le_of_ble_eq_true rfl) (by decide) ?_
        refine s_if_ne (tgt := 144) G dX5_transfer_115 (by decide) (fun c25 => ?_) (fun c25 => ?_)
        · replace hf := ifn c25 hf
          refine s_iinc G dX5_transfer_144 rfl (v := (x17 + 1)) rfl (by decide) rfl rfl ?_
          refine s_goto (tgt := 84) G dX5_transfer_147 (by decide) ?_
          exact ih x16 (x17 + 1) q24.2 hf
        · replace hf := ifp c25 hf
          refine s_aload_n G dX5_transfer_118 rfl ?_
          refine s_getR G dX5_transfer_119 lkF_X5_35 (by decide) rfl rfl ?_
          refine s_iload G dX5_transfer_122 rfl ?_
          refine s_iconst G dX5_transfer_124 (v := -1) (by decide) ?_
          obtain ⟨q26, hq26, hf⟩ := bnd hf
          refine s_callV G dX5_transfer_125 (c_X4_take hq26) lkM_X5_133 yk_X4_take yv_X4_take (by decide) rfl rfl _ [] rfl rfl rfl (Nat.le_of_ble_eq_true rfl) (by decide) ?_
          refine s_iload G dX5_transfer_128 rfl ?_
          refine s_aload_n G dX5_transfer_130 rfl ?_
          refine s_getR G dX5_transfer_131 lkF_X5_35 (by decide) rfl rfl ?_
          refine s_iload_n G dX5_transfer_134 rfl ?_
          refine s_iload_n G dX5_transfer_135 rfl ?_
          obtain ⟨q27, hq27, hf⟩ := bnd hf
          refine s_callV G dX5_transfer_136 (c_X4_room hq27) lkM_X5_228 yk_X4_room yv_X4_room (by decide) rfl rfl _ [.int x16] rfl rfl rfl (Nat.le_of_ble_eq_true rfl) (by decide) ?_
          refine s_mmin G dX5_transfer_139 lkJ_X5_234 (Nat.le_of_ble_eq_true rfl) (by decide) ?_
          refine s_topi (fun x28 ex28 => ?_)
          replace hf := nm_at ex28 hf
          refine s_istore G dX5_transfer_142 (by decide) rfl rfl ?_
          refine s_iinc G dX5_transfer_144 rfl (v := (x17 + 1)) rfl (by decide) rfl rfl ?_
          refine s_goto (tgt := 84) G dX5_transfer_147 (by decide) ?_
          exact ih x28 (x17 + 1) q27.2 hf
set_option maxRecDepth 100000 in
set_option maxHeartbeats 4000000 in
theorem c_X5_transfer {a1 : Int32} {a2 : Int32} {a3 : Int32} {σ : St} {res : Int32 × St} (hf : f_X5_transfer a1 a2 a3 σ = some res) : Mt mX5_transfer [.ref 0, .int a1, .int a2, .int a3] σ (some (.int res.1)) res.2 := by
  unfold f_X5_transfer at hf
  refine mt_of (by decide) (Nat.le_of_ble_eq_true rfl) [some (.ref 0), some (.int a1), some (.int a2), some (.int a3), none, none] rfl (fun Γ G hR => ?_)
  have G : OK Γ RX5 cX5_transfer 6 (some .int) 4 92 := G
  refine s_aload_n G dX5_transfer_0 rfl ?_
  refine s_getR G dX5_transfer_1 lkF_X5_10 (by decide) rfl rfl ?_
  refine s_iload_n G dX5_transfer_4 rfl ?_
  obtain ⟨q1, hq1, hf⟩ := bnd hf
  refine s_callV G dX5_transfer_5 (c_X0_hasBus (by decide) hq1) lkM_X5_152 yk_X0_hasBus yv_X0_hasBus (by decide) rfl rfl _ [] rfl rfl rfl (Nat.le_of_ble_eq_true rfl) (by decide) ?_
  refine s_if_eq (tgt := 34) G dX5_transfer_8 (by decide) (fun c2 => ?_) (fun c2 => ?_)
  · replace hf := ifp c2 hf
    refine s_aload_n G dX5_transfer_34 rfl ?_
    obtain ⟨q3, hq3, hf⟩ := bnd hf
    refine s_callV G dX5_transfer_35 (c_X5_bad hq3) lkM_X5_50 yk_X5_bad yv_X5_bad (by decide) rfl rfl _ [] rfl rfl rfl (Nat.le_of_ble_eq_true rfl) (by decide) ?_
    replace hf := Option.some.inj hf
    subst hf
    exact s_iret G hR dX5_transfer_38 rfl rfl
  · replace hf := ifn c2 hf
    refine s_aload_n G dX5_transfer_11 rfl ?_
    refine s_getR G dX5_transfer_12 lkF_X5_10 (by decide) rfl rfl ?_
    refine s_iload_n G dX5_transfer_15 rfl ?_
    obtain ⟨q4, hq4, hf⟩ := bnd hf
    refine s_callV G dX5_transfer_16 (c_X0_hasBus (by decide) hq4) lkM_X5_152 yk_X0_hasBus yv_X0_hasBus (by decide) rfl rfl _ [] rfl rfl rfl (Nat.le_of_ble_eq_true rfl) (by decide) ?_
    refine s_if_eq (tgt := 34) G dX5_transfer_19 (by decide) (fun c5 => ?_) (fun c5 => ?_)
    · replace hf := ifp c5 hf
      refine s_aload_n G dX5_transfer_34 rfl ?_
      obtain ⟨q6, hq6, hf⟩ := bnd hf
      refine s_callV G dX5_transfer_35 (c_X5_bad hq6) lkM_X5_50 yk_X5_bad yv_X5_bad (by decide) rfl rfl _ [] rfl rfl rfl (Nat.le_of_ble_eq_true rfl) (by decide) ?_
      replace hf := Option.some.inj hf
      subst hf
      exact s_iret G hR dX5_transfer_38 rfl rfl
    · replace hf := ifn c5 hf
      refine s_iload_n G dX5_transfer_22 rfl ?_
      refine s_iload_n G dX5_transfer_23 rfl ?_
      refine s_icmp_eq (tgt := 34) G dX5_transfer_24 (by decide) (fun c7 => ?_) (fun c7 => ?_)
      · replace hf := ifp c7 hf
        refine s_aload_n G dX5_transfer_34 rfl ?_
        obtain ⟨q8, hq8, hf⟩ := bnd hf
        refine s_callV G dX5_transfer_35 (c_X5_bad hq8) lkM_X5_50 yk_X5_bad yv_X5_bad (by decide) rfl rfl _ [] rfl rfl rfl (Nat.le_of_ble_eq_true rfl) (by decide) ?_
        replace hf := Option.some.inj hf
        subst hf
        exact s_iret G hR dX5_transfer_38 rfl rfl
      · replace hf := ifn c7 hf
        refine s_iload_n G dX5_transfer_27 rfl ?_
        obtain ⟨q9, hq9, hf⟩ := bnd hf
        refine s_callS G dX5_transfer_28 (c_X5_isFlag hq9) lkM_X5_90 yk_X5_isFlag ys_X5_isFlag _ [] rfl rfl rfl (Nat.le_of_ble_eq_true rfl) (by decide) ?_
        refine s_if_ne (tgt := 39) G dX5_transfer_31 (by decide) (fun c10 => ?_) (fun c10 => ?_)
        · replace hf := ifn c10 hf
          refine s_aload_n G dX5_transfer_39 rfl ?_
          refine s_getR G dX5_transfer_40 lkF_X5_35 (by decide) rfl rfl ?_
          refine s_iconst G dX5_transfer_43 (v := -1) (by decide) ?_
          refine s_iconst G dX5_transfer_44 (v := -1) (by decide) ?_
          obtain ⟨q11, hq11, hf⟩ := bnd hf
          refine s_callV G dX5_transfer_45 (c_X4_take hq11) lkM_X5_133 yk_X4_take yv_X4_take (by decide) rfl rfl _ [] rfl rfl rfl (Nat.le_of_ble_eq_true rfl) (by decide) ?_
          refine s_aload_n G dX5_transfer_48 rfl ?_
          refine s_getR G dX5_transfer_49 lkF_X5_35 (by decide) rfl rfl ?_
          refine s_iload_n G dX5_transfer_52 rfl ?_
          refine s_iload_n G dX5_transfer_53 rfl ?_
          obtain ⟨q12, hq12, hf⟩ := bnd hf
          refine s_callV G dX5_transfer_54 (c_X4_joins hq12) lkM_X5_225 yk_X4_joins yv_X4_joins (by decide) rfl rfl _ [] rfl rfl rfl (Nat.le_of_ble_eq_true rfl) (by decide) ?_
          refine s_if_ne (tgt := 65) G dX5_transfer_57 (by decide) (fun c13 => ?_) (fun c13 => ?_)
          · replace hf := ifn c13 hf
            refine s_aload_n G dX5_transfer_65 rfl ?_
            refine s_getR G dX5_transfer_66 lkF_X5_35 (by decide) rfl rfl ?_
            refine s_iload_n G dX5_transfer_69 rfl ?_
            refine s_iload_n G dX5_transfer_70 rfl ?_
            obtain ⟨q14, hq14, hf⟩ := bnd hf
            refine s_callV G dX5_transfer_71 (c_X4_room hq14) lkM_X5_228 yk_X4_room yv_X4_room (by decide) rfl rfl _ [] rfl rfl rfl (Nat.le_of_ble_eq_true rfl) (by decide) ?_
            refine s_istore G dX5_transfer_74 (by decide) rfl rfl ?_
            refine s_iload_n G dX5_transfer_76 rfl ?_
            refine s_iconst G dX5_transfer_77 (v := 1) (by decide) ?_
            refine s_icmp_ne (tgt := 150) G dX5_transfer_78 (by decide) (fun c15 => ?_) (fun c15 => ?_)
            · replace hf := ifn c15 hf
              refine s_iload G dX5_transfer_150 rfl ?_
              replace hf := Option.some.inj hf
              subst hf
              exact s_iret G hR dX5_transfer_152 rfl rfl
            · replace hf := ifp c15 hf
              refine s_iconst G dX5_transfer_81 (v := 0) (by decide) ?_
              refine s_istore G dX5_transfer_82 (by decide) rfl rfl ?_
              refine s_fgt [true, true, true, false, true, true] rfl ?_
              refine l_X5_transfer_84 G hR a1 a2 _ (fun x29 σ30 hf => ?_) 1000 q14.1 (0 : Int32) q14.2 hf
              refine s_iload G dX5_transfer_150 rfl ?_
              replace hf := Option.some.inj hf
              subst hf
              exact s_iret G hR dX5_transfer_152 rfl rfl
          · replace hf := ifp c13 hf
            refine s_aload_n G dX5_transfer_60 rfl ?_
            obtain ⟨q31, hq31, hf⟩ := bnd hf
            refine s_callV G dX5_transfer_61 (c_X5_no hq31) lkM_X5_175 yk_X5_no yv_X5_no (by decide) rfl rfl _ [] rfl rfl rfl (Nat.le_of_ble_eq_true rfl) (by decide) ?_
            replace hf := Option.some.inj hf
            subst hf
            exact s_iret G hR dX5_transfer_64 rfl rfl
        · replace hf := ifp c10 hf
          refine s_aload_n G dX5_transfer_34 rfl ?_
          obtain ⟨q32, hq32, hf⟩ := bnd hf
          refine s_callV G dX5_transfer_35 (c_X5_bad hq32) lkM_X5_50 yk_X5_bad yv_X5_bad (by decide) rfl rfl _ [] rfl rfl rfl (Nat.le_of_ble_eq_true rfl) (by decide) ?_
          replace hf := Option.some.inj hf
          subst hf
          exact s_iret G hR dX5_transfer_38 rfl rfl
def f_X5_bridges_4 (k4 : Int32 → St → Option (Int32 × St)) : Nat → Int32 → Int32 → St → Option (Int32 × St)
  | 0, _, _, _ => none
  | n5 + 1, x1, x2, σ3 =>
    if (σ3.1 24 7) ≤ x2 then
      (k4 x1 σ3)
    else
      ((f_X5_isBridge x2 σ3).bind (fun q7 =>
      if q7.1 = 0 then
        (f_X5_bridges_4 k4 n5 x1 (x2 + 1) q7.2)
      else
        (f_X5_bridges_4 k4 n5 (x1 + 1) (x2 + 1) q7.2)))
def f_X5_bridges (σ : St) : Option (Int32 × St) :=
f_X5_bridges_4 (fun (x9 : Int32) (σ10 : St) =>
    some (x9, σ10)) 1000 (0 : Int32) (0 : Int32) σ
abbrev mX5_bridges : Me := (yX5_bridges, cX5_bridges, 3, (some .int), 4, 90)
set_option maxRecDepth 100000 in
set_option maxHeartbeats 4000000 in
theorem l_X5_bridges_4 {Γ : Cxt} (G : OK Γ RX5 cX5_bridges 3 (some .int) 4 90) {res : Int32 × St} (hR : RetOK Γ (some (.int res.1)) res.2) (k4 : Int32 → St → Option (Int32 × St)) (hk : ∀ (y1 : Int32) (z : St), k4 y1 z = some res → WW Γ 32 [none, some (.int y1), none] [] z) : ∀ (n5 : Nat) (x1 : Int32) (x2 : Int32) (σ3 : St), f_X5_bridges_4 k4 n5 x1 x2 σ3 = some res → WW Γ 4 [some (.ref 0), some (.int x1), some (.int x2)] [] σ3 := by
  intro n5
  induction n5 with
  | zero =>
    intro x1 x2 σ3 hf
    cases hf
  | succ n5 ih =>
    intro x1 x2 σ3 hf
    unfold f_X5_bridges_4 at hf
    refine s_iload_n G dX5_bridges_4 rfl ?_
    refine s_aload_n G dX5_bridges_5 rfl ?_
    refine s_getR G dX5_bridges_6 lkF_X5_10 (by decide) rfl rfl ?_
    refine s_getI (n := 0) G dX5_bridges_9 lkF_X5_231 (by decide) rfl rfl ?_
    refine s_icmp_ge (tgt := 32) G dX5_bridges_12 (by decide) (fun c6 => ?_) (fun c6 => ?_)
    · replace hf := ifp c6 hf
      refine s_fgt [false, true, false] rfl ?_
      exact hk x1 σ3 hf
    · replace hf := ifn c6 hf
      refine s_aload_n G dX5_bridges_15 rfl ?_
      refine s_iload_n G dX5_bridges_16 rfl ?_
      obtain ⟨q7, hq7, hf⟩ := bnd hf
      refine s_callV G dX5_bridges_17 (c_X5_isBridge hq7) lkM_X5_130 yk_X5_isBridge yv_X5_isBridge (by decide) rfl rfl _ [] rfl rfl rfl (Nat.le_of_ble_eq_true rfl) (by decide) ?_
      refine s_if_eq (tgt := 26) G dX5_bridges_20 (by decide) (fun c8 => ?_) (fun c8 => ?_)
      · replace hf := ifp c8 hf
        refine s_iinc G dX5_bridges_26 rfl (v := (x2 + 1)) rfl (by decide) rfl rfl ?_
        refine s_goto (tgt := 4) G dX5_bridges_29 (by decide) ?_
        exact ih x1 (x2 + 1) q7.2 hf
      · replace hf := ifn c8 hf
        refine s_iinc G dX5_bridges_23 rfl (v := (x1 + 1)) rfl (by decide) rfl rfl ?_
        refine s_iinc G dX5_bridges_26 rfl (v := (x2 + 1)) rfl (by decide) rfl rfl ?_
        refine s_goto (tgt := 4) G dX5_bridges_29 (by decide) ?_
        exact ih (x1 + 1) (x2 + 1) q7.2 hf
set_option maxRecDepth 100000 in
set_option maxHeartbeats 4000000 in
theorem c_X5_bridges  {σ : St} {res : Int32 × St} (hf : f_X5_bridges σ = some res) : Mt mX5_bridges [.ref 0] σ (some (.int res.1)) res.2 := by
  unfold f_X5_bridges at hf
  refine mt_of (by decide) (Nat.le_of_ble_eq_true rfl) [some (.ref 0), none, none] rfl (fun Γ G hR => ?_)
  have G : OK Γ RX5 cX5_bridges 3 (some .int) 4 90 := G
  refine s_iconst G dX5_bridges_0 (v := 0) (by decide) ?_
  refine s_istore_n G dX5_bridges_1 rfl (by decide) rfl rfl ?_
  refine s_iconst G dX5_bridges_2 (v := 0) (by decide) ?_
  refine s_istore_n G dX5_bridges_3 rfl (by decide) rfl rfl ?_
  refine l_X5_bridges_4 G hR _ (fun x9 σ10 hf => ?_) 1000 (0 : Int32) (0 : Int32) σ hf
  refine s_iload_n G dX5_bridges_32 rfl ?_
  replace hf := Option.some.inj hf
  subst hf
  exact s_iret G hR dX5_bridges_33 rfl rfl
def f_X5_count (a1 : Int32) (σ : St) : Option (Int32 × St) :=
if a1 = 0 then
    ((f_X4_take (-1 : Int32) (-1 : Int32) σ).bind (fun q2 =>
    (f_X4_islands q2).bind (fun q3 =>
    some (q3.1, q3.2))))
  else (if a1 = 1 then
    (some ((σ.1 24 7), σ))
  else (if a1 = 2 then
    ((f_X0_serving 0 σ).bind (fun q6 =>
    some (q6.1, q6.2)))
  else (if a1 = 3 then
    ((f_X5_bridges σ).bind (fun q8 =>
    some (q8.1, q8.2)))
  else (if a1 = 4 then
    ((f_X4_take (-1 : Int32) (-1 : Int32) σ).bind (fun q10 =>
    (f_X4_load q10).bind (fun q11 =>
    some ((q11.1 6 11), q11))))
  else (if a1 = 5 then
    ((f_X5_rankLines σ).bind (fun q13 =>
    (f_X2_overloaded q13).bind (fun q14 =>
    some (q14.1, q14.2))))
  else (if a1 = 6 then
    ((f_X5_rankPairs σ).bind (fun q16 =>
    (f_X2_overloaded q16).bind (fun q17 =>
    some (q17.1, q17.2))))
  else ((f_X5_bad σ).bind (fun q18 =>
  some (q18.1, q18.2)))))))))
abbrev mX5_count : Me := (yX5_count, cX5_count, 2, (some .int), 6, 132)
set_option maxRecDepth 100000 in
set_option maxHeartbeats 4000000 in
theorem c_X5_count {a1 : Int32} {σ : St} {res : Int32 × St} (hf : f_X5_count a1 σ = some res) : Mt mX5_count [.ref 0, .int a1] σ (some (.int res.1)) res.2 := by
  unfold f_X5_count at hf
  refine mt_of (by decide) (Nat.le_of_ble_eq_true rfl) [some (.ref 0), some (.int a1)] rfl (fun Γ G hR => ?_)
  have G : OK Γ RX5 cX5_count 2 (some .int) 6 132 := G
  refine s_iload_n G dX5_count_0 rfl ?_
  by_cases c1 : a1 = 0
  · replace hf := ifp c1 hf
    refine s_tabIn (tgt := 44) G dX5_count_1 (by rw [c1]; decide) (by rw [c1]; decide) (by rw [c1]; rfl) (by decide) ?_
    refine s_aload_n G dX5_count_44 rfl ?_
    refine s_getR G dX5_count_45 lkF_X5_35 (by decide) rfl rfl ?_
    refine s_iconst G dX5_count_48 (v := -1) (by decide) ?_
    refine s_iconst G dX5_count_49 (v := -1) (by decide) ?_
    obtain ⟨q2, hq2, hf⟩ := bnd hf
    refine s_callV G dX5_count_50 (c_X4_take hq2) lkM_X5_133 yk_X4_take yv_X4_take (by decide) rfl rfl _ [] rfl rfl rfl (Nat.le_of_ble_eq_true rfl) (by decide) ?_
    refine s_aload_n G dX5_count_53 rfl ?_
    refine s_getR G dX5_count_54 lkF_X5_35 (by decide) rfl rfl ?_
    obtain ⟨q3, hq3, hf⟩ := bnd hf
    refine s_callV G dX5_count_57 (c_X4_islands hq3) lkM_X5_237 yk_X4_islands yv_X4_islands (by decide) rfl rfl _ [] rfl rfl rfl (Nat.le_of_ble_eq_true rfl) (by decide) ?_
    replace hf := Option.some.inj hf
    subst hf
    exact s_iret G hR dX5_count_60 rfl rfl
  replace hf := ifn c1 hf
  by_cases c4 : a1 = 1
  · replace hf := ifp c4 hf
    refine s_tabIn (tgt := 61) G dX5_count_1 (by rw [c4]; decide) (by rw [c4]; decide) (by rw [c4]; rfl) (by decide) ?_
    refine s_aload_n G dX5_count_61 rfl ?_
    refine s_getR G dX5_count_62 lkF_X5_10 (by decide) rfl rfl ?_
    refine s_getI (n := 0) G dX5_count_65 lkF_X5_231 (by decide) rfl rfl ?_
    replace hf := Option.some.inj hf
    subst hf
    exact s_iret G hR dX5_count_68 rfl rfl
  replace hf := ifn c4 hf
  by_cases c5 : a1 = 2
  · replace hf := ifp c5 hf
    refine s_tabIn (tgt := 69) G dX5_count_1 (by rw [c5]; decide) (by rw [c5]; decide) (by rw [c5]; rfl) (by decide) ?_
    refine s_aload_n G dX5_count_69 rfl ?_
    refine s_getR G dX5_count_70 lkF_X5_10 (by decide) rfl rfl ?_
    obtain ⟨q6, hq6, hf⟩ := bnd hf
    refine s_callV G dX5_count_73 (c_X0_serving (by decide) hq6) lkM_X5_194 yk_X0_serving yv_X0_serving (by decide) rfl rfl _ [] rfl rfl rfl (Nat.le_of_ble_eq_true rfl) (by decide) ?_
    replace hf := Option.some.inj hf
    subst hf
    exact s_iret G hR dX5_count_76 rfl rfl
  replace hf := ifn c5 hf
  by_cases c7 : a1 = 3
  · replace hf := ifp c7 hf
    refine s_tabIn (tgt := 77) G dX5_count_1 (by rw [c7]; decide) (by rw [c7]; decide) (by rw [c7]; rfl) (by decide) ?_
    refine s_aload_n G dX5_count_77 rfl ?_
    obtain ⟨q8, hq8, hf⟩ := bnd hf
    refine s_callV G dX5_count_78 (c_X5_bridges hq8) lkM_X5_240 yk_X5_bridges yv_X5_bridges (by decide) rfl rfl _ [] rfl rfl rfl (Nat.le_of_ble_eq_true rfl) (by decide) ?_
    replace hf := Option.some.inj hf
    subst hf
    exact s_iret G hR dX5_count_81 rfl rfl
  replace hf := ifn c7 hf
  by_cases c9 : a1 = 4
  · replace hf := ifp c9 hf
    refine s_tabIn (tgt := 82) G dX5_count_1 (by rw [c9]; decide) (by rw [c9]; decide) (by rw [c9]; rfl) (by decide) ?_
    refine s_aload_n G dX5_count_82 rfl ?_
    refine s_getR G dX5_count_83 lkF_X5_35 (by decide) rfl rfl ?_
    refine s_iconst G dX5_count_86 (v := -1) (by decide) ?_
    refine s_iconst G dX5_count_87 (v := -1) (by decide) ?_
    obtain ⟨q10, hq10, hf⟩ := bnd hf
    refine s_callV G dX5_count_88 (c_X4_take hq10) lkM_X5_133 yk_X4_take yv_X4_take (by decide) rfl rfl _ [] rfl rfl rfl (Nat.le_of_ble_eq_true rfl) (by decide) ?_
    refine s_aload_n G dX5_count_91 rfl ?_
    refine s_getR G dX5_count_92 lkF_X5_35 (by decide) rfl rfl ?_
    obtain ⟨q11, hq11, hf⟩ := bnd hf
    refine s_callV G dX5_count_95 (c_X4_load hq11) lkM_X5_178 yk_X4_load yv_X4_load (by decide) rfl rfl _ [] rfl rfl rfl (Nat.le_of_ble_eq_true rfl) (by decide) ?_
    refine s_aload_n G dX5_count_98 rfl ?_
    refine s_getR G dX5_count_99 lkF_X5_35 (by decide) rfl rfl ?_
    refine s_getI (n := 0) G dX5_count_102 lkF_X5_191 (by decide) rfl rfl ?_
    replace hf := Option.some.inj hf
    subst hf
    exact s_iret G hR dX5_count_105 rfl rfl
  replace hf := ifn c9 hf
  by_cases c12 : a1 = 5
  · replace hf := ifp c12 hf
    refine s_tabIn (tgt := 106) G dX5_count_1 (by rw [c12]; decide) (by rw [c12]; decide) (by rw [c12]; rfl) (by decide) ?_
    refine s_aload_n G dX5_count_106 rfl ?_
    obtain ⟨q13, hq13, hf⟩ := bnd hf
    refine s_callV G dX5_count_107 (c_X5_rankLines hq13) lkM_X5_197 yk_X5_rankLines yv_X5_rankLines (by decide) rfl rfl _ [] rfl rfl rfl (Nat.le_of_ble_eq_true rfl) (by decide) ?_
    refine s_aload_n G dX5_count_110 rfl ?_
    refine s_getR G dX5_count_111 lkF_X5_42 (by decide) rfl rfl ?_
    obtain ⟨q14, hq14, hf⟩ := bnd hf
    refine s_callV G dX5_count_114 (c_X2_overloaded hq14) lkM_X5_243 yk_X2_overloaded yv_X2_overloaded (by decide) rfl rfl _ [] rfl rfl rfl (Nat.le_of_ble_eq_true rfl) (by decide) ?_
    replace hf := Option.some.inj hf
    subst hf
    exact s_iret G hR dX5_count_117 rfl rfl
  replace hf := ifn c12 hf
  by_cases c15 : a1 = 6
  · replace hf := ifp c15 hf
    refine s_tabIn (tgt := 118) G dX5_count_1 (by rw [c15]; decide) (by rw [c15]; decide) (by rw [c15]; rfl) (by decide) ?_
    refine s_aload_n G dX5_count_118 rfl ?_
    obtain ⟨q16, hq16, hf⟩ := bnd hf
    refine s_callV G dX5_count_119 (c_X5_rankPairs hq16) lkM_X5_208 yk_X5_rankPairs yv_X5_rankPairs (by decide) rfl rfl _ [] rfl rfl rfl (Nat.le_of_ble_eq_true rfl) (by decide) ?_
    refine s_aload_n G dX5_count_122 rfl ?_
    refine s_getR G dX5_count_123 lkF_X5_42 (by decide) rfl rfl ?_
    obtain ⟨q17, hq17, hf⟩ := bnd hf
    refine s_callV G dX5_count_126 (c_X2_overloaded hq17) lkM_X5_243 yk_X2_overloaded yv_X2_overloaded (by decide) rfl rfl _ [] rfl rfl rfl (Nat.le_of_ble_eq_true rfl) (by decide) ?_
    replace hf := Option.some.inj hf
    subst hf
    exact s_iret G hR dX5_count_129 rfl rfl
  replace hf := ifn c15 hf
  refine s_tabOut (tgt := 130) G dX5_count_1 (tab_out 6 (by decide) (by intro k hk; match k, hk with | 0, _ => exact c1 | 1, _ => exact c4 | 2, _ => exact c5 | 3, _ => exact c7 | 4, _ => exact c9 | 5, _ => exact c12 | 6, _ => exact c15)) (by decide) ?_
  refine s_aload_n G dX5_count_130 rfl ?_
  obtain ⟨q18, hq18, hf⟩ := bnd hf
  refine s_callV G dX5_count_131 (c_X5_bad hq18) lkM_X5_50 yk_X5_bad yv_X5_bad (by decide) rfl rfl _ [] rfl rfl rfl (Nat.le_of_ble_eq_true rfl) (by decide) ?_
  replace hf := Option.some.inj hf
  subst hf
  exact s_iret G hR dX5_count_134 rfl rfl
def f_X5_type (a1 : Int32) (σ : St) : Option (Int32 × St) :=
(f_X5_within a1 (0 : Int32) (127 : Int32) σ).bind (fun q1 =>
  if q1.1 = 0 then
    ((f_X5_bad q1.2).bind (fun q7 =>
    some (q7.1, q7.2)))
  else
    ((f_X3_isFull q1.2).bind (fun q3 =>
    if q3.1 = 0 then
      ((f_X3_append a1 q3.2).bind (fun q5 =>
      some (q5.1, q5.2)))
    else
      ((f_X5_full q3.2).bind (fun q6 =>
      some (q6.1, q6.2))))))
abbrev mX5_type : Me := (yX5_type, cX5_type, 2, (some .int), 1, 22)
set_option maxRecDepth 100000 in
set_option maxHeartbeats 4000000 in
theorem c_X5_type {a1 : Int32} {σ : St} {res : Int32 × St} (hf : f_X5_type a1 σ = some res) : Mt mX5_type [.ref 0, .int a1] σ (some (.int res.1)) res.2 := by
  unfold f_X5_type at hf
  refine mt_of (by decide) (Nat.le_of_ble_eq_true rfl) [some (.ref 0), some (.int a1)] rfl (fun Γ G hR => ?_)
  have G : OK Γ RX5 cX5_type 2 (some .int) 1 22 := G
  refine s_iload_n G dX5_type_0 rfl ?_
  refine s_iconst G dX5_type_1 (v := 0) (by decide) ?_
  refine s_bipush G dX5_type_2 (v := 127) (by decide) ?_
  obtain ⟨q1, hq1, hf⟩ := bnd hf
  refine s_callS G dX5_type_4 (c_X5_within hq1) lkM_X5_109 yk_X5_within ys_X5_within _ [] rfl rfl rfl (Nat.le_of_ble_eq_true rfl) (by decide) ?_
  refine s_if_ne (tgt := 15) G dX5_type_7 (by decide) (fun c2 => ?_) (fun c2 => ?_)
  · replace hf := ifn c2 hf
    refine s_aload_n G dX5_type_15 rfl ?_
    refine s_getR G dX5_type_16 lkF_X5_26 (by decide) rfl rfl ?_
    obtain ⟨q3, hq3, hf⟩ := bnd hf
    refine s_callV G dX5_type_19 (c_X3_isFull hq3) lkM_X5_246 yk_X3_isFull yv_X3_isFull (by decide) rfl rfl _ [] rfl rfl rfl (Nat.le_of_ble_eq_true rfl) (by decide) ?_
    refine s_if_eq (tgt := 30) G dX5_type_22 (by decide) (fun c4 => ?_) (fun c4 => ?_)
    · replace hf := ifp c4 hf
      refine s_aload_n G dX5_type_30 rfl ?_
      refine s_getR G dX5_type_31 lkF_X5_26 (by decide) rfl rfl ?_
      refine s_iload_n G dX5_type_34 rfl ?_
      obtain ⟨q5, hq5, hf⟩ := bnd hf
      refine s_callV G dX5_type_35 (c_X3_append hq5) lkM_X5_247 yk_X3_append yv_X3_append (by decide) rfl rfl _ [] rfl rfl rfl (Nat.le_of_ble_eq_true rfl) (by decide) ?_
      replace hf := Option.some.inj hf
      subst hf
      exact s_iret G hR dX5_type_38 rfl rfl
    · replace hf := ifn c4 hf
      refine s_aload_n G dX5_type_25 rfl ?_
      obtain ⟨q6, hq6, hf⟩ := bnd hf
      refine s_callV G dX5_type_26 (c_X5_full hq6) lkM_X5_77 yk_X5_full yv_X5_full (by decide) rfl rfl _ [] rfl rfl rfl (Nat.le_of_ble_eq_true rfl) (by decide) ?_
      replace hf := Option.some.inj hf
      subst hf
      exact s_iret G hR dX5_type_29 rfl rfl
  · replace hf := ifp c2 hf
    refine s_aload_n G dX5_type_10 rfl ?_
    obtain ⟨q7, hq7, hf⟩ := bnd hf
    refine s_callV G dX5_type_11 (c_X5_bad hq7) lkM_X5_50 yk_X5_bad yv_X5_bad (by decide) rfl rfl _ [] rfl rfl rfl (Nat.le_of_ble_eq_true rfl) (by decide) ?_
    replace hf := Option.some.inj hf
    subst hf
    exact s_iret G hR dX5_type_14 rfl rfl
def f_X5_clear (σ : St) : Option (Int32 × St) :=
(f_X3_empty σ).bind (fun q1 =>
  some (q1.1, q1.2))
abbrev mX5_clear : Me := (yX5_clear, cX5_clear, 1, (some .int), 1, 21)
set_option maxRecDepth 100000 in
set_option maxHeartbeats 4000000 in
theorem c_X5_clear  {σ : St} {res : Int32 × St} (hf : f_X5_clear σ = some res) : Mt mX5_clear [.ref 0] σ (some (.int res.1)) res.2 := by
  unfold f_X5_clear at hf
  refine mt_of (by decide) (Nat.le_of_ble_eq_true rfl) [some (.ref 0)] rfl (fun Γ G hR => ?_)
  have G : OK Γ RX5 cX5_clear 1 (some .int) 1 21 := G
  refine s_aload_n G dX5_clear_0 rfl ?_
  refine s_getR G dX5_clear_1 lkF_X5_26 (by decide) rfl rfl ?_
  obtain ⟨q1, hq1, hf⟩ := bnd hf
  refine s_callV G dX5_clear_4 (c_X3_empty hq1) lkM_X5_250 yk_X3_empty yv_X3_empty (by decide) rfl rfl _ [] rfl rfl rfl (Nat.le_of_ble_eq_true rfl) (by decide) ?_
  replace hf := Option.some.inj hf
  subst hf
  exact s_iret G hR dX5_clear_7 rfl rfl
def f_X5_obeysShort (a1 : Int32) (a2 : Int32) (σ : St) : Option (Int32 × St) :=
if a1 = (7 : Int32) then
    ((f_X0_canHave a2 σ).bind (fun q9 =>
    if q9.1 = 0 then
      (some ((0 : Int32), q9.2))
    else
      ((f_X0_restart 0 a2 q9.2).bind (fun q11 =>
      some ((1 : Int32), q11.2)))))
  else
    ((f_X0_hasLine 0 a2 σ).bind (fun q2 =>
    if q2.1 = 0 then
      (some ((0 : Int32), q2.2))
    else
      (if a1 = (6 : Int32) then
        ((f_X0_remove 0 a2 q2.2).bind (fun q8 =>
        some ((1 : Int32), q8.2)))
      else
        (if a1 = (3 : Int32) then
          ((f_X0_turn 0 a2 (1 : Int32) q2.2).bind (fun q7 =>
          some ((1 : Int32), q7.2)))
        else
          ((f_X0_turn 0 a2 (0 : Int32) q2.2).bind (fun q6 =>
          some ((1 : Int32), q6.2)))))))
abbrev mX5_obeysShort : Me := (yX5_obeysShort, cX5_obeysShort, 3, (some .boolean), 2, 42)
set_option maxRecDepth 100000 in
set_option maxHeartbeats 4000000 in
theorem c_X5_obeysShort {a1 : Int32} {a2 : Int32} {σ : St} {res : Int32 × St} (hf : f_X5_obeysShort a1 a2 σ = some res) : Mt mX5_obeysShort [.ref 0, .int a1, .int a2] σ (some (.int res.1)) res.2 := by
  unfold f_X5_obeysShort at hf
  refine mt_of (by decide) (Nat.le_of_ble_eq_true rfl) [some (.ref 0), some (.int a1), some (.int a2)] rfl (fun Γ G hR => ?_)
  have G : OK Γ RX5 cX5_obeysShort 3 (some .boolean) 2 42 := G
  refine s_iload_n G dX5_obeysShort_0 rfl ?_
  refine s_bipush G dX5_obeysShort_1 (v := 7) (by decide) ?_
  refine s_icmp_ne (tgt := 26) G dX5_obeysShort_3 (by decide) (fun c1 => ?_) (fun c1 => ?_)
  · replace hf := ifn c1 hf
    refine s_aload_n G dX5_obeysShort_26 rfl ?_
    refine s_getR G dX5_obeysShort_27 lkF_X5_10 (by decide) rfl rfl ?_
    refine s_iload_n G dX5_obeysShort_30 rfl ?_
    obtain ⟨q2, hq2, hf⟩ := bnd hf
    refine s_callV G dX5_obeysShort_31 (c_X0_hasLine (by decide) hq2) lkM_X5_84 yk_X0_hasLine yv_X0_hasLine (by decide) rfl rfl _ [] rfl rfl rfl (Nat.le_of_ble_eq_true rfl) (by decide) ?_
    refine s_if_ne (tgt := 39) G dX5_obeysShort_34 (by decide) (fun c3 => ?_) (fun c3 => ?_)
    · replace hf := ifn c3 hf
      refine s_iload_n G dX5_obeysShort_39 rfl ?_
      refine s_bipush G dX5_obeysShort_40 (v := 6) (by decide) ?_
      refine s_icmp_ne (tgt := 57) G dX5_obeysShort_42 (by decide) (fun c4 => ?_) (fun c4 => ?_)
      · replace hf := ifn c4 hf
        refine s_aload_n G dX5_obeysShort_57 rfl ?_
        refine s_getR G dX5_obeysShort_58 lkF_X5_10 (by decide) rfl rfl ?_
        refine s_iload_n G dX5_obeysShort_61 rfl ?_
        refine s_iload_n G dX5_obeysShort_62 rfl ?_
        refine s_iconst G dX5_obeysShort_63 (v := 3) (by decide) ?_
        refine s_icmp_ne (tgt := 71) G dX5_obeysShort_64 (by decide) (fun c5 => ?_) (fun c5 => ?_)
        · replace hf := ifn c5 hf
          refine s_iconst G dX5_obeysShort_71 (v := 0) (by decide) ?_
          obtain ⟨q6, hq6, hf⟩ := bnd hf
          refine s_callV G dX5_obeysShort_72 (c_X0_turn (by decide) hq6) lkM_X5_93 yk_X0_turn yv_X0_turn (by decide) rfl rfl _ [] rfl rfl rfl (Nat.le_of_ble_eq_true rfl) (by decide) ?_
          refine s_pop G dX5_obeysShort_75 rfl ?_
          refine s_iconst G dX5_obeysShort_76 (v := 1) (by decide) ?_
          replace hf := Option.some.inj hf
          subst hf
          exact s_zret G hR dX5_obeysShort_77 (by decide) rfl rfl
        · replace hf := ifp c5 hf
          refine s_iconst G dX5_obeysShort_67 (v := 1) (by decide) ?_
          refine s_goto (tgt := 72) G dX5_obeysShort_68 (by decide) ?_
          obtain ⟨q7, hq7, hf⟩ := bnd hf
          refine s_callV G dX5_obeysShort_72 (c_X0_turn (by decide) hq7) lkM_X5_93 yk_X0_turn yv_X0_turn (by decide) rfl rfl _ [] rfl rfl rfl (Nat.le_of_ble_eq_true rfl) (by decide) ?_
          refine s_pop G dX5_obeysShort_75 rfl ?_
          refine s_iconst G dX5_obeysShort_76 (v := 1) (by decide) ?_
          replace hf := Option.some.inj hf
          subst hf
          exact s_zret G hR dX5_obeysShort_77 (by decide) rfl rfl
      · replace hf := ifp c4 hf
        refine s_aload_n G dX5_obeysShort_45 rfl ?_
        refine s_getR G dX5_obeysShort_46 lkF_X5_10 (by decide) rfl rfl ?_
        refine s_iload_n G dX5_obeysShort_49 rfl ?_
        obtain ⟨q8, hq8, hf⟩ := bnd hf
        refine s_callV G dX5_obeysShort_50 (c_X0_remove (by decide) hq8) lkM_X5_87 yk_X0_remove yv_X0_remove (by decide) rfl rfl _ [] rfl rfl rfl (Nat.le_of_ble_eq_true rfl) (by decide) ?_
        refine s_pop G dX5_obeysShort_53 rfl ?_
        refine s_goto (tgt := 76) G dX5_obeysShort_54 (by decide) ?_
        refine s_iconst G dX5_obeysShort_76 (v := 1) (by decide) ?_
        replace hf := Option.some.inj hf
        subst hf
        exact s_zret G hR dX5_obeysShort_77 (by decide) rfl rfl
    · replace hf := ifp c3 hf
      refine s_iconst G dX5_obeysShort_37 (v := 0) (by decide) ?_
      replace hf := Option.some.inj hf
      subst hf
      exact s_zret G hR dX5_obeysShort_38 (by decide) rfl rfl
  · replace hf := ifp c1 hf
    refine s_iload_n G dX5_obeysShort_6 rfl ?_
    obtain ⟨q9, hq9, hf⟩ := bnd hf
    refine s_callS G dX5_obeysShort_7 (c_X0_canHave hq9) lkM_X5_46 yk_X0_canHave ys_X0_canHave _ [] rfl rfl rfl (Nat.le_of_ble_eq_true rfl) (by decide) ?_
    refine s_if_eq (tgt := 24) G dX5_obeysShort_10 (by decide) (fun c10 => ?_) (fun c10 => ?_)
    · replace hf := ifp c10 hf
      refine s_iconst G dX5_obeysShort_24 (v := 0) (by decide) ?_
      replace hf := Option.some.inj hf
      subst hf
      exact s_zret G hR dX5_obeysShort_25 (by decide) rfl rfl
    · replace hf := ifn c10 hf
      refine s_aload_n G dX5_obeysShort_13 rfl ?_
      refine s_getR G dX5_obeysShort_14 lkF_X5_10 (by decide) rfl rfl ?_
      refine s_iload_n G dX5_obeysShort_17 rfl ?_
      obtain ⟨q11, hq11, hf⟩ := bnd hf
      refine s_callV G dX5_obeysShort_18 (c_X0_restart (by decide) hq11) lkM_X5_57 yk_X0_restart yv_X0_restart (by decide) rfl rfl _ [] rfl rfl rfl (Nat.le_of_ble_eq_true rfl) (by decide) ?_
      refine s_pop G dX5_obeysShort_21 rfl ?_
      refine s_iconst G dX5_obeysShort_22 (v := 1) (by decide) ?_
      replace hf := Option.some.inj hf
      subst hf
      exact s_zret G hR dX5_obeysShort_23 (by decide) rfl rfl
def f_X5_obeys (a1 : Int32) (σ : St) : Option (Int32 × St) :=
nm (σ.1 5 (0 : Int32).toNatClampNeg) (fun x1 : Int32 =>
  nm (σ.1 5 (1 : Int32).toNatClampNeg) (fun x2 : Int32 =>
  if a1 = 0 then
    ((f_X0_canInject 0 x1 x2 σ).bind (fun q4 =>
    if q4.1 = 0 then
      (chk (decide (q4.1 = 0 ∨ q4.1 = 1)) (
      some (q4.1, q4.2)))
    else
      ((f_X0_inject 0 x1 x2 q4.2).bind (fun q7 =>
      chk (decide (q4.1 = 0 ∨ q4.1 = 1)) (
      some (q4.1, q7.2))))))
  else (if a1 = 1 then
    ((f_X0_canJoin 0 x1 x2 (σ.1 5 (2 : Int32).toNatClampNeg) (σ.1 5 (3 : Int32).toNatClampNeg) σ).bind (fun q10 =>
    jn (fun q11 : Int32 × St =>
      (if q11.1 = 0 then
        (chk (decide (q11.1 = 0 ∨ q11.1 = 1)) (
        some (q11.1, q11.2)))
      else
        ((f_X0_join 0 x1 x2 (q11.2.1 5 (2 : Int32).toNatClampNeg) (q11.2.1 5 (3 : Int32).toNatClampNeg) q11.2).bind (fun q15 =>
        chk (decide (q11.1 = 0 ∨ q11.1 = 1)) (
        some (q11.1, q15.2)))))) (fun j12 =>
      if q10.1 = 0 then
        (j12 ((0 : Int32), q10.2))
      else
        ((f_X0_isFull 0 q10.2).bind (fun q18 =>
        if q18.1 = 0 then
          (j12 ((1 : Int32), q18.2))
        else
          (j12 ((0 : Int32), q18.2)))))))
  else (if a1 = 2 then
    ((f_X5_obeysShort a1 x1 σ).bind (fun q21 =>
    chk (decide (q21.1 = 0 ∨ q21.1 = 1)) (
    some (q21.1, q21.2))))
  else (if a1 = 3 then
    ((f_X5_obeysShort a1 x1 σ).bind (fun q24 =>
    chk (decide (q24.1 = 0 ∨ q24.1 = 1)) (
    some (q24.1, q24.2))))
  else (if a1 = 4 then
    ((f_X0_canBound 0 x1 x2 σ).bind (fun q27 =>
    if q27.1 = 0 then
      (chk (decide (q27.1 = 0 ∨ q27.1 = 1)) (
      some (q27.1, q27.2)))
    else
      ((f_X0_bound 0 x1 x2 q27.2).bind (fun q30 =>
      chk (decide (q27.1 = 0 ∨ q27.1 = 1)) (
      some (q27.1, q30.2))))))
  else (if a1 = 5 then
    ((f_X0_canStrengthen 0 x1 x2 σ).bind (fun q33 =>
    if q33.1 = 0 then
      (chk (decide (q33.1 = 0 ∨ q33.1 = 1)) (
      some (q33.1, q33.2)))
    else
      ((f_X0_strengthen 0 x1 x2 q33.2).bind (fun q36 =>
      chk (decide (q33.1 = 0 ∨ q33.1 = 1)) (
      some (q33.1, q36.2))))))
  else ((f_X5_obeysShort a1 x1 σ).bind (fun q38 =>
  chk (decide (q38.1 = 0 ∨ q38.1 = 1)) (
  some (q38.1, q38.2)))))))))))
abbrev mX5_obeys : Me := (yX5_obeys, cX5_obeys, 6, (some .boolean), 3, 64)
set_option maxRecDepth 100000 in
set_option maxHeartbeats 4000000 in
theorem c_X5_obeys {a1 : Int32} {σ : St} {res : Int32 × St} (hf : f_X5_obeys a1 σ = some res) : Mt mX5_obeys [.ref 0, .int a1, .ref 5] σ (some (.int res.1)) res.2 := by
  unfold f_X5_obeys at hf
  refine mt_of (by decide) (Nat.le_of_ble_eq_true rfl) [some (.ref 0), some (.int a1), some (.ref 5), none, none, none] rfl (fun Γ G hR => ?_)
  have G : OK Γ RX5 cX5_obeys 6 (some .boolean) 3 64 := G
  refine s_aload_n G dX5_obeys_0 rfl ?_
  refine s_iconst G dX5_obeys_1 (v := 0) (by decide) ?_
  refine s_iald G dX5_obeys_2 (by decide) rfl (by decide) ?_
  refine s_topi (fun x1 ex1 => ?_)
  replace hf := nm_at ex1 hf
  refine s_istore_n G dX5_obeys_3 rfl (by decide) rfl rfl ?_
  refine s_aload_n G dX5_obeys_4 rfl ?_
  refine s_iconst G dX5_obeys_5 (v := 1) (by decide) ?_
  refine s_iald G dX5_obeys_6 (by decide) rfl (by decide) ?_
  refine s_topi (fun x2 ex2 => ?_)
  replace hf := nm_at ex2 hf
  refine s_istore G dX5_obeys_7 (by decide) rfl rfl ?_
  refine s_iload_n G dX5_obeys_9 rfl ?_
  by_cases c3 : a1 = 0
  · replace hf := ifp c3 hf
    refine s_tabIn (tgt := 48) G dX5_obeys_10 (by rw [c3]; decide) (by rw [c3]; decide) (by rw [c3]; rfl) (by decide) ?_
    refine s_aload_n G dX5_obeys_48 rfl ?_
    refine s_getR G dX5_obeys_49 lkF_X5_10 (by decide) rfl rfl ?_
    refine s_iload_n G dX5_obeys_52 rfl ?_
    refine s_iload G dX5_obeys_53 rfl ?_
    obtain ⟨q4, hq4, hf⟩ := bnd hf
    refine s_callV G dX5_obeys_55 (c_X0_canInject (by decide) hq4) lkM_X5_61 yk_X0_canInject yv_X0_canInject (by decide) rfl rfl _ [] rfl rfl rfl (Nat.le_of_ble_eq_true rfl) (by decide) ?_
    refine s_istore G dX5_obeys_58 (by decide) rfl rfl ?_
    refine s_iload G dX5_obeys_60 rfl ?_
    refine s_if_eq (tgt := 76) G dX5_obeys_62 (by decide) (fun c5 => ?_) (fun c5 => ?_)
    · replace hf := ifp c5 hf
      refine s_iload G dX5_obeys_76 rfl ?_
      have h6 := chk_1 hf
      replace hf := chk_2 hf
      replace hf := Option.some.inj hf
      subst hf
      exact s_zret G hR dX5_obeys_78 h6 rfl rfl
    · replace hf := ifn c5 hf
      refine s_aload_n G dX5_obeys_65 rfl ?_
      refine s_getR G dX5_obeys_66 lkF_X5_10 (by decide) rfl rfl ?_
      refine s_iload_n G dX5_obeys_69 rfl ?_
      refine s_iload G dX5_obeys_70 rfl ?_
      obtain ⟨q7, hq7, hf⟩ := bnd hf
      refine s_callV G dX5_obeys_72 (c_X0_inject (by decide) hq7) lkM_X5_65 yk_X0_inject yv_X0_inject (by decide) rfl rfl _ [] rfl rfl rfl (Nat.le_of_ble_eq_true rfl) (by decide) ?_
      refine s_pop G dX5_obeys_75 rfl ?_
      refine s_iload G dX5_obeys_76 rfl ?_
      have h8 := chk_1 hf
      replace hf := chk_2 hf
      replace hf := Option.some.inj hf
      subst hf
      exact s_zret G hR dX5_obeys_78 h8 rfl rfl
  replace hf := ifn c3 hf
  by_cases c9 : a1 = 1
  · replace hf := ifp c9 hf
    refine s_tabIn (tgt := 79) G dX5_obeys_10 (by rw [c9]; decide) (by rw [c9]; decide) (by rw [c9]; rfl) (by decide) ?_
    refine s_aload_n G dX5_obeys_79 rfl ?_
    refine s_getR G dX5_obeys_80 lkF_X5_10 (by decide) rfl rfl ?_
    refine s_iload_n G dX5_obeys_83 rfl ?_
    refine s_iload G dX5_obeys_84 rfl ?_
    refine s_aload_n G dX5_obeys_86 rfl ?_
    refine s_iconst G dX5_obeys_87 (v := 2) (by decide) ?_
    refine s_iald G dX5_obeys_88 (by decide) rfl (by decide) ?_
    refine s_aload_n G dX5_obeys_89 rfl ?_
    refine s_iconst G dX5_obeys_90 (v := 3) (by decide) ?_
    refine s_iald G dX5_obeys_91 (by decide) rfl (by decide) ?_
    obtain ⟨q10, hq10, hf⟩ := bnd hf
    refine s_callV G dX5_obeys_92 (c_X0_canJoin (by decide) hq10) lkM_X5_69 yk_X0_canJoin yv_X0_canJoin (by decide) rfl rfl _ [] rfl rfl rfl (Nat.le_of_ble_eq_true rfl) (by decide) ?_
    refine jn_w (fun q11 : Int32 × St => WW Γ 113 [some (.ref 0), none, some (.ref 5), some (.int x1), some (.int x2), none] [.int q11.1] q11.2) hf (fun q11 hf => ?_) (fun j12 hj12 hf => ?_)
    · refine s_istore G dX5_obeys_113 (by decide) rfl rfl ?_
      refine s_iload G dX5_obeys_115 rfl ?_
      refine s_if_eq (tgt := 137) G dX5_obeys_117 (by decide) (fun c13 => ?_) (fun c13 => ?_)
      · replace hf := ifp c13 hf
        refine s_iload G dX5_obeys_137 rfl ?_
        have h14 := chk_1 hf
        replace hf := chk_2 hf
        replace hf := Option.some.inj hf
        subst hf
        exact s_zret G hR dX5_obeys_139 h14 rfl rfl
      · replace hf := ifn c13 hf
        refine s_aload_n G dX5_obeys_120 rfl ?_
        refine s_getR G dX5_obeys_121 lkF_X5_10 (by decide) rfl rfl ?_
        refine s_iload_n G dX5_obeys_124 rfl ?_
        refine s_iload G dX5_obeys_125 rfl ?_
        refine s_aload_n G dX5_obeys_127 rfl ?_
        refine s_iconst G dX5_obeys_128 (v := 2) (by decide) ?_
        refine s_iald G dX5_obeys_129 (by decide) rfl (by decide) ?_
        refine s_aload_n G dX5_obeys_130 rfl ?_
        refine s_iconst G dX5_obeys_131 (v := 3) (by decide) ?_
        refine s_iald G dX5_obeys_132 (by decide) rfl (by decide) ?_
        obtain ⟨q15, hq15, hf⟩ := bnd hf
        refine s_callV G dX5_obeys_133 (c_X0_join (by decide) hq15) lkM_X5_80 yk_X0_join yv_X0_join (by decide) rfl rfl _ [] rfl rfl rfl (Nat.le_of_ble_eq_true rfl) (by decide) ?_
        refine s_pop G dX5_obeys_136 rfl ?_
        refine s_iload G dX5_obeys_137 rfl ?_
        have h16 := chk_1 hf
        replace hf := chk_2 hf
        replace hf := Option.some.inj hf
        subst hf
        exact s_zret G hR dX5_obeys_139 h16 rfl rfl
    · refine s_if_eq (tgt := 112) G dX5_obeys_95 (by decide) (fun c17 => ?_) (fun c17 => ?_)
      · replace hf := ifp c17 hf
        refine s_iconst G dX5_obeys_112 (v := 0) (by decide) ?_
        refine s_fgt [true, false, true, true, true, true] rfl ?_
        exact hj12 _ hf
      · replace hf := ifn c17 hf
        refine s_aload_n G dX5_obeys_98 rfl ?_
        refine s_getR G dX5_obeys_99 lkF_X5_10 (by decide) rfl rfl ?_
        obtain ⟨q18, hq18, hf⟩ := bnd hf
        refine s_callV G dX5_obeys_102 (c_X0_isFull (by decide) hq18) lkM_X5_73 yk_X0_isFull yv_X0_isFull (by decide) rfl rfl _ [] rfl rfl rfl (Nat.le_of_ble_eq_true rfl) (by decide) ?_
        refine s_if_ne (tgt := 112) G dX5_obeys_105 (by decide) (fun c19 => ?_) (fun c19 => ?_)
        · replace hf := ifn c19 hf
          refine s_iconst G dX5_obeys_112 (v := 0) (by decide) ?_
          refine s_fgt [true, false, true, true, true, true] rfl ?_
          exact hj12 _ hf
        · replace hf := ifp c19 hf
          refine s_iconst G dX5_obeys_108 (v := 1) (by decide) ?_
          refine s_goto (tgt := 113) G dX5_obeys_109 (by decide) ?_
          refine s_fgt [true, false, true, true, true, true] rfl ?_
          exact hj12 _ hf
  replace hf := ifn c9 hf
  by_cases c20 : a1 = 2
  · replace hf := ifp c20 hf
    refine s_tabIn (tgt := 202) G dX5_obeys_10 (by rw [c20]; decide) (by rw [c20]; decide) (by rw [c20]; rfl) (by decide) ?_
    refine s_aload_n G dX5_obeys_202 rfl ?_
    refine s_iload_n G dX5_obeys_203 rfl ?_
    refine s_iload_n G dX5_obeys_204 rfl ?_
    obtain ⟨q21, hq21, hf⟩ := bnd hf
    refine s_callV G dX5_obeys_205 (c_X5_obeysShort hq21) lkM_X5_330 yk_X5_obeysShort yv_X5_obeysShort (by decide) rfl rfl _ [] rfl rfl rfl (Nat.le_of_ble_eq_true rfl) (by decide) ?_
    have h22 := chk_1 hf
    replace hf := chk_2 hf
    replace hf := Option.some.inj hf
    subst hf
    exact s_zret G hR dX5_obeys_208 h22 rfl rfl
  replace hf := ifn c20 hf
  by_cases c23 : a1 = 3
  · replace hf := ifp c23 hf
    refine s_tabIn (tgt := 202) G dX5_obeys_10 (by rw [c23]; decide) (by rw [c23]; decide) (by rw [c23]; rfl) (by decide) ?_
    refine s_aload_n G dX5_obeys_202 rfl ?_
    refine s_iload_n G dX5_obeys_203 rfl ?_
    refine s_iload_n G dX5_obeys_204 rfl ?_
    obtain ⟨q24, hq24, hf⟩ := bnd hf
    refine s_callV G dX5_obeys_205 (c_X5_obeysShort hq24) lkM_X5_330 yk_X5_obeysShort yv_X5_obeysShort (by decide) rfl rfl _ [] rfl rfl rfl (Nat.le_of_ble_eq_true rfl) (by decide) ?_
    have h25 := chk_1 hf
    replace hf := chk_2 hf
    replace hf := Option.some.inj hf
    subst hf
    exact s_zret G hR dX5_obeys_208 h25 rfl rfl
  replace hf := ifn c23 hf
  by_cases c26 : a1 = 4
  · replace hf := ifp c26 hf
    refine s_tabIn (tgt := 140) G dX5_obeys_10 (by rw [c26]; decide) (by rw [c26]; decide) (by rw [c26]; rfl) (by decide) ?_
    refine s_aload_n G dX5_obeys_140 rfl ?_
    refine s_getR G dX5_obeys_141 lkF_X5_10 (by decide) rfl rfl ?_
    refine s_iload_n G dX5_obeys_144 rfl ?_
    refine s_iload G dX5_obeys_145 rfl ?_
    obtain ⟨q27, hq27, hf⟩ := bnd hf
    refine s_callV G dX5_obeys_147 (c_X0_canBound (by decide) hq27) lkM_X5_103 yk_X0_canBound yv_X0_canBound (by decide) rfl rfl _ [] rfl rfl rfl (Nat.le_of_ble_eq_true rfl) (by decide) ?_
    refine s_istore G dX5_obeys_150 (by decide) rfl rfl ?_
    refine s_iload G dX5_obeys_152 rfl ?_
    refine s_if_eq (tgt := 168) G dX5_obeys_154 (by decide) (fun c28 => ?_) (fun c28 => ?_)
    · replace hf := ifp c28 hf
      refine s_iload G dX5_obeys_168 rfl ?_
      have h29 := chk_1 hf
      replace hf := chk_2 hf
      replace hf := Option.some.inj hf
      subst hf
      exact s_zret G hR dX5_obeys_170 h29 rfl rfl
    · replace hf := ifn c28 hf
      refine s_aload_n G dX5_obeys_157 rfl ?_
      refine s_getR G dX5_obeys_158 lkF_X5_10 (by decide) rfl rfl ?_
      refine s_iload_n G dX5_obeys_161 rfl ?_
      refine s_iload G dX5_obeys_162 rfl ?_
      obtain ⟨q30, hq30, hf⟩ := bnd hf
      refine s_callV G dX5_obeys_164 (c_X0_bound (by decide) hq30) lkM_X5_106 yk_X0_bound yv_X0_bound (by decide) rfl rfl _ [] rfl rfl rfl (Nat.le_of_ble_eq_true rfl) (by decide) ?_
      refine s_pop G dX5_obeys_167 rfl ?_
      refine s_iload G dX5_obeys_168 rfl ?_
      have h31 := chk_1 hf
      replace hf := chk_2 hf
      replace hf := Option.some.inj hf
      subst hf
      exact s_zret G hR dX5_obeys_170 h31 rfl rfl
  replace hf := ifn c26 hf
  by_cases c32 : a1 = 5
  · replace hf := ifp c32 hf
    refine s_tabIn (tgt := 171) G dX5_obeys_10 (by rw [c32]; decide) (by rw [c32]; decide) (by rw [c32]; rfl) (by decide) ?_
    refine s_aload_n G dX5_obeys_171 rfl ?_
    refine s_getR G dX5_obeys_172 lkF_X5_10 (by decide) rfl rfl ?_
    refine s_iload_n G dX5_obeys_175 rfl ?_
    refine s_iload G dX5_obeys_176 rfl ?_
    obtain ⟨q33, hq33, hf⟩ := bnd hf
    refine s_callV G dX5_obeys_178 (c_X0_canStrengthen (by decide) hq33) lkM_X5_97 yk_X0_canStrengthen yv_X0_canStrengthen (by decide) rfl rfl _ [] rfl rfl rfl (Nat.le_of_ble_eq_true rfl) (by decide) ?_
    refine s_istore G dX5_obeys_181 (by decide) rfl rfl ?_
    refine s_iload G dX5_obeys_183 rfl ?_
    refine s_if_eq (tgt := 199) G dX5_obeys_185 (by decide) (fun c34 => ?_) (fun c34 => ?_)
    · replace hf := ifp c34 hf
      refine s_iload G dX5_obeys_199 rfl ?_
      have h35 := chk_1 hf
      replace hf := chk_2 hf
      replace hf := Option.some.inj hf
      subst hf
      exact s_zret G hR dX5_obeys_201 h35 rfl rfl
    · replace hf := ifn c34 hf
      refine s_aload_n G dX5_obeys_188 rfl ?_
      refine s_getR G dX5_obeys_189 lkF_X5_10 (by decide) rfl rfl ?_
      refine s_iload_n G dX5_obeys_192 rfl ?_
      refine s_iload G dX5_obeys_193 rfl ?_
      obtain ⟨q36, hq36, hf⟩ := bnd hf
      refine s_callV G dX5_obeys_195 (c_X0_strengthen (by decide) hq36) lkM_X5_100 yk_X0_strengthen yv_X0_strengthen (by decide) rfl rfl _ [] rfl rfl rfl (Nat.le_of_ble_eq_true rfl) (by decide) ?_
      refine s_pop G dX5_obeys_198 rfl ?_
      refine s_iload G dX5_obeys_199 rfl ?_
      have h37 := chk_1 hf
      replace hf := chk_2 hf
      replace hf := Option.some.inj hf
      subst hf
      exact s_zret G hR dX5_obeys_201 h37 rfl rfl
  replace hf := ifn c32 hf
  refine s_tabOut (tgt := 202) G dX5_obeys_10 (tab_out 5 (by decide) (by intro k hk; match k, hk with | 0, _ => exact c3 | 1, _ => exact c9 | 2, _ => exact c20 | 3, _ => exact c23 | 4, _ => exact c26 | 5, _ => exact c32)) (by decide) ?_
  refine s_aload_n G dX5_obeys_202 rfl ?_
  refine s_iload_n G dX5_obeys_203 rfl ?_
  refine s_iload_n G dX5_obeys_204 rfl ?_
  obtain ⟨q38, hq38, hf⟩ := bnd hf
  refine s_callV G dX5_obeys_205 (c_X5_obeysShort hq38) lkM_X5_330 yk_X5_obeysShort yv_X5_obeysShort (by decide) rfl rfl _ [] rfl rfl rfl (Nat.le_of_ble_eq_true rfl) (by decide) ?_
  have h39 := chk_1 hf
  replace hf := chk_2 hf
  replace hf := Option.some.inj hf
  subst hf
  exact s_zret G hR dX5_obeys_208 h39 rfl rfl
def f_X5_does_40 (k8 : Int32 → St → Option (Int32 × St)) : Nat → Int32 → Int32 → St → Option (Int32 × St)
  | 0, _, _, _ => none
  | n9 + 1, x5, x6, σ7 =>
    if (120 : Int32) ≤ x6 then
      (k8 x5 σ7)
    else
      ((f_X3_hasMore σ7).bind (fun q11 =>
      if q11.1 = 0 then
        (k8 x5 q11.2)
      else
        ((f_X3_readCommand q11.2).bind (fun q13 =>
        if q13.1 = 0 then
          (k8 x5 q13.2)
        else
          ((f_X5_obeys (q13.2.1 3 4) q13.2).bind (fun q15 =>
          if q15.1 = 0 then
            (f_X5_does_40 k8 n9 x5 (x6 + 1) q15.2)
          else
            (f_X5_does_40 k8 n9 (x5 + 1) (x6 + 1) q15.2)))))))
def f_X5_does (σ : St) : Option (Int32 × St) :=
(f_X3_findFault σ).bind (fun q1 =>
  if q1.1 = (-1 : Int32) then
    ((f_X1_keep q1.2).bind (fun q3 =>
    (f_X3_rewind q3).bind (fun q4 =>
    f_X5_does_40 (fun (x17 : Int32) (σ18 : St) =>
      some (x17, σ18)) 1000 (0 : Int32) (0 : Int32) q4)))
  else
    (some (((-10 : Int32) - q1.1), q1.2)))
abbrev mX5_does : Me := (yX5_does, cX5_does, 4, (some .int), 9, 269)
set_option maxRecDepth 100000 in
set_option maxHeartbeats 4000000 in
theorem l_X5_does_40 {Γ : Cxt} (G : OK Γ RX5 cX5_does 4 (some .int) 9 269) {res : Int32 × St} (hR : RetOK Γ (some (.int res.1)) res.2) (k8 : Int32 → St → Option (Int32 × St)) (hk : ∀ (y2 : Int32) (z : St), k8 y2 z = some res → WW Γ 99 [none, none, some (.int y2), none] [] z) : ∀ (n9 : Nat) (x5 : Int32) (x6 : Int32) (σ7 : St), f_X5_does_40 k8 n9 x5 x6 σ7 = some res → WW Γ 40 [some (.ref 0), none, some (.int x5), some (.int x6)] [] σ7 := by
  intro n9
  induction n9 with
  | zero =>
    intro x5 x6 σ7 hf
    cases hf
  | succ n9 ih =>
    intro x5 x6 σ7 hf
    unfold f_X5_does_40 at hf
    refine s_iload_n G dX5_does_40 rfl ?_
    refine s_bipush G dX5_does_41 (v := 120) (by decide) ?_
    refine s_icmp_ge (tgt := 99) G dX5_does_43 (by decide) (fun c10 => ?_) (fun c10 => ?_)
    · replace hf := ifp c10 hf
      refine s_fgt [false, true, true, false] rfl ?_
      exact hk x5 σ7 hf
    · replace hf := ifn c10 hf
      refine s_aload_n G dX5_does_46 rfl ?_
      refine s_getR G dX5_does_47 lkF_X5_26 (by decide) rfl rfl ?_
      obtain ⟨q11, hq11, hf⟩ := bnd hf
      refine s_callV G dX5_does_50 (c_X3_hasMore hq11) lkM_X5_259 yk_X3_hasMore yv_X3_hasMore (by decide) rfl rfl _ [] rfl rfl rfl (Nat.le_of_ble_eq_true rfl) (by decide) ?_
      refine s_if_eq (tgt := 99) G dX5_does_53 (by decide) (fun c12 => ?_) (fun c12 => ?_)
      · replace hf := ifp c12 hf
        refine s_fgt [false, true, true, false] rfl ?_
        exact hk x5 q11.2 hf
      · replace hf := ifn c12 hf
        refine s_aload_n G dX5_does_56 rfl ?_
        refine s_getR G dX5_does_57 lkF_X5_26 (by decide) rfl rfl ?_
        obtain ⟨q13, hq13, hf⟩ := bnd hf
        refine s_callV G dX5_does_60 (c_X3_readCommand hq13) lkM_X5_262 yk_X3_readCommand yv_X3_readCommand (by decide) rfl rfl _ [] rfl rfl rfl (Nat.le_of_ble_eq_true rfl) (by decide) ?_
        refine s_if_ne (tgt := 69) G dX5_does_63 (by decide) (fun c14 => ?_) (fun c14 => ?_)
        · replace hf := ifn c14 hf
          refine s_aload_n G dX5_does_69 rfl ?_
          refine s_aload_n G dX5_does_70 rfl ?_
          refine s_getR G dX5_does_71 lkF_X5_26 (by decide) rfl rfl ?_
          refine s_getI (n := 0) G dX5_does_74 lkF_X5_265 (by decide) rfl rfl ?_
          refine s_aload_n G dX5_does_77 rfl ?_
          refine s_getR G dX5_does_78 lkF_X5_26 (by decide) rfl rfl ?_
          refine s_getR G dX5_does_81 lkF_X5_268 (by decide) rfl rfl ?_
          obtain ⟨q15, hq15, hf⟩ := bnd hf
          refine s_callV G dX5_does_84 (c_X5_obeys hq15) lkM_X5_271 yk_X5_obeys yv_X5_obeys (by decide) rfl rfl _ [] rfl rfl rfl (Nat.le_of_ble_eq_true rfl) (by decide) ?_
          refine s_if_eq (tgt := 93) G dX5_does_87 (by decide) (fun c16 => ?_) (fun c16 => ?_)
          · replace hf := ifp c16 hf
            refine s_iinc G dX5_does_93 rfl (v := (x6 + 1)) rfl (by decide) rfl rfl ?_
            refine s_goto (tgt := 40) G dX5_does_96 (by decide) ?_
            exact ih x5 (x6 + 1) q15.2 hf
          · replace hf := ifn c16 hf
            refine s_iinc G dX5_does_90 rfl (v := (x5 + 1)) rfl (by decide) rfl rfl ?_
            refine s_iinc G dX5_does_93 rfl (v := (x6 + 1)) rfl (by decide) rfl rfl ?_
            refine s_goto (tgt := 40) G dX5_does_96 (by decide) ?_
            exact ih (x5 + 1) (x6 + 1) q15.2 hf
        · replace hf := ifp c14 hf
          refine s_goto (tgt := 99) G dX5_does_66 (by decide) ?_
          refine s_fgt [false, true, true, false] rfl ?_
          exact hk x5 q13.2 hf
set_option maxRecDepth 100000 in
set_option maxHeartbeats 4000000 in
theorem c_X5_does  {σ : St} {res : Int32 × St} (hf : f_X5_does σ = some res) : Mt mX5_does [.ref 0] σ (some (.int res.1)) res.2 := by
  unfold f_X5_does at hf
  refine mt_of (by decide) (Nat.le_of_ble_eq_true rfl) [some (.ref 0), none, none, none] rfl (fun Γ G hR => ?_)
  have G : OK Γ RX5 cX5_does 4 (some .int) 9 269 := G
  refine s_aload_n G dX5_does_0 rfl ?_
  refine s_getR G dX5_does_1 lkF_X5_26 (by decide) rfl rfl ?_
  obtain ⟨q1, hq1, hf⟩ := bnd hf
  refine s_callV G dX5_does_4 (c_X3_findFault hq1) lkM_X5_253 yk_X3_findFault yv_X3_findFault (by decide) rfl rfl _ [] rfl rfl rfl (Nat.le_of_ble_eq_true rfl) (by decide) ?_
  refine s_istore_n G dX5_does_7 rfl (by decide) rfl rfl ?_
  refine s_iload_n G dX5_does_8 rfl ?_
  refine s_iconst G dX5_does_9 (v := -1) (by decide) ?_
  refine s_icmp_eq (tgt := 18) G dX5_does_10 (by decide) (fun c2 => ?_) (fun c2 => ?_)
  · replace hf := ifp c2 hf
    refine s_aload_n G dX5_does_18 rfl ?_
    refine s_getR G dX5_does_19 lkF_X5_19 (by decide) rfl rfl ?_
    refine s_aload_n G dX5_does_22 rfl ?_
    refine s_getR G dX5_does_23 lkF_X5_10 (by decide) rfl rfl ?_
    obtain ⟨q3, hq3, hf⟩ := bnd hf
    refine s_callV G dX5_does_26 (c_X1_keep hq3) lkM_X5_54 yk_X1_keep yv_X1_keep (by decide) rfl rfl _ [] rfl rfl rfl (Nat.le_of_ble_eq_true rfl) (by decide) ?_
    refine s_iconst G dX5_does_29 (v := 0) (by decide) ?_
    refine s_istore_n G dX5_does_30 rfl (by decide) rfl rfl ?_
    refine s_aload_n G dX5_does_31 rfl ?_
    refine s_getR G dX5_does_32 lkF_X5_26 (by decide) rfl rfl ?_
    obtain ⟨q4, hq4, hf⟩ := bnd hf
    refine s_callV G dX5_does_35 (c_X3_rewind hq4) lkM_X5_256 yk_X3_rewind yv_X3_rewind (by decide) rfl rfl _ [] rfl rfl rfl (Nat.le_of_ble_eq_true rfl) (by decide) ?_
    refine s_iconst G dX5_does_38 (v := 0) (by decide) ?_
    refine s_istore_n G dX5_does_39 rfl (by decide) rfl rfl ?_
    refine s_fgt [true, false, true, true] rfl ?_
    refine l_X5_does_40 G hR _ (fun x17 σ18 hf => ?_) 1000 (0 : Int32) (0 : Int32) q4 hf
    refine s_iload_n G dX5_does_99 rfl ?_
    replace hf := Option.some.inj hf
    subst hf
    exact s_iret G hR dX5_does_100 rfl rfl
  · replace hf := ifn c2 hf
    refine s_bipush G dX5_does_13 (v := -10) (by decide) ?_
    refine s_iload_n G dX5_does_15 rfl ?_
    refine s_isub G dX5_does_16 ?_
    replace hf := Option.some.inj hf
    subst hf
    exact s_iret G hR dX5_does_17 rfl rfl
def f_X5_back (σ : St) : Option (Int32 × St) :=
if (σ.1 1 2) = 0 then
    ((f_X5_no σ).bind (fun q3 =>
    some (q3.1, q3.2)))
  else
    ((f_X1_restore σ).bind (fun q2 =>
    some (q2.1, q2.2)))
abbrev mX5_back : Me := (yX5_back, cX5_back, 1, (some .int), 2, 44)
set_option maxRecDepth 100000 in
set_option maxHeartbeats 4000000 in
theorem c_X5_back  {σ : St} {res : Int32 × St} (hf : f_X5_back σ = some res) : Mt mX5_back [.ref 0] σ (some (.int res.1)) res.2 := by
  unfold f_X5_back at hf
  refine mt_of (by decide) (Nat.le_of_ble_eq_true rfl) [some (.ref 0)] rfl (fun Γ G hR => ?_)
  have G : OK Γ RX5 cX5_back 1 (some .int) 2 44 := G
  refine s_aload_n G dX5_back_0 rfl ?_
  refine s_getR G dX5_back_1 lkF_X5_19 (by decide) rfl rfl ?_
  refine s_getI (n := 0) G dX5_back_4 lkF_X5_275 (by decide) rfl rfl ?_
  refine s_if_ne (tgt := 15) G dX5_back_7 (by decide) (fun c1 => ?_) (fun c1 => ?_)
  · replace hf := ifn c1 hf
    refine s_aload_n G dX5_back_15 rfl ?_
    refine s_getR G dX5_back_16 lkF_X5_19 (by decide) rfl rfl ?_
    refine s_aload_n G dX5_back_19 rfl ?_
    refine s_getR G dX5_back_20 lkF_X5_10 (by decide) rfl rfl ?_
    obtain ⟨q2, hq2, hf⟩ := bnd hf
    refine s_callV G dX5_back_23 (c_X1_restore hq2) lkM_X5_278 yk_X1_restore yv_X1_restore (by decide) rfl rfl _ [] rfl rfl rfl (Nat.le_of_ble_eq_true rfl) (by decide) ?_
    replace hf := Option.some.inj hf
    subst hf
    exact s_iret G hR dX5_back_26 rfl rfl
  · replace hf := ifp c1 hf
    refine s_aload_n G dX5_back_10 rfl ?_
    obtain ⟨q3, hq3, hf⟩ := bnd hf
    refine s_callV G dX5_back_11 (c_X5_no hq3) lkM_X5_175 yk_X5_no yv_X5_no (by decide) rfl rfl _ [] rfl rfl rfl (Nat.le_of_ble_eq_true rfl) (by decide) ?_
    replace hf := Option.some.inj hf
    subst hf
    exact s_iret G hR dX5_back_14 rfl rfl
def f_X5_told (a1 : Int32) (σ : St) : Option (Int32 × St) :=
if a1 = 0 then
    (some ((σ.1 0 5), σ))
  else (if a1 = 1 then
    (some ((σ.1 0 6), σ))
  else (if a1 = 2 then
    (some ((σ.1 0 7), σ))
  else (if a1 = 3 then
    (some ((σ.1 24 6), σ))
  else (if a1 = 4 then
    (some ((σ.1 24 7), σ))
  else (if a1 = 5 then
    (some ((σ.1 3 2), σ))
  else (if a1 = 6 then
    (some ((σ.1 1 2), σ))
  else ((f_X5_bad σ).bind (fun q8 =>
  some (q8.1, q8.2)))))))))
abbrev mX5_told : Me := (yX5_told, cX5_told, 2, (some .int), 1, 20)
set_option maxRecDepth 100000 in
set_option maxHeartbeats 4000000 in
theorem c_X5_told {a1 : Int32} {σ : St} {res : Int32 × St} (hf : f_X5_told a1 σ = some res) : Mt mX5_told [.ref 0, .int a1] σ (some (.int res.1)) res.2 := by
  unfold f_X5_told at hf
  refine mt_of (by decide) (Nat.le_of_ble_eq_true rfl) [some (.ref 0), some (.int a1)] rfl (fun Γ G hR => ?_)
  have G : OK Γ RX5 cX5_told 2 (some .int) 1 20 := G
  refine s_iload_n G dX5_told_0 rfl ?_
  by_cases c1 : a1 = 0
  · replace hf := ifp c1 hf
    refine s_tabIn (tgt := 44) G dX5_told_1 (by rw [c1]; decide) (by rw [c1]; decide) (by rw [c1]; rfl) (by decide) ?_
    refine s_aload_n G dX5_told_44 rfl ?_
    refine s_getI (n := 0) G dX5_told_45 lkF_X5_282 (by decide) rfl rfl ?_
    replace hf := Option.some.inj hf
    subst hf
    exact s_iret G hR dX5_told_48 rfl rfl
  replace hf := ifn c1 hf
  by_cases c2 : a1 = 1
  · replace hf := ifp c2 hf
    refine s_tabIn (tgt := 49) G dX5_told_1 (by rw [c2]; decide) (by rw [c2]; decide) (by rw [c2]; rfl) (by decide) ?_
    refine s_aload_n G dX5_told_49 rfl ?_
    refine s_getI (n := 0) G dX5_told_50 lkF_X5_285 (by decide) rfl rfl ?_
    replace hf := Option.some.inj hf
    subst hf
    exact s_iret G hR dX5_told_53 rfl rfl
  replace hf := ifn c2 hf
  by_cases c3 : a1 = 2
  · replace hf := ifp c3 hf
    refine s_tabIn (tgt := 54) G dX5_told_1 (by rw [c3]; decide) (by rw [c3]; decide) (by rw [c3]; rfl) (by decide) ?_
    refine s_aload_n G dX5_told_54 rfl ?_
    refine s_getI (n := 0) G dX5_told_55 lkF_X5_288 (by decide) rfl rfl ?_
    replace hf := Option.some.inj hf
    subst hf
    exact s_iret G hR dX5_told_58 rfl rfl
  replace hf := ifn c3 hf
  by_cases c4 : a1 = 3
  · replace hf := ifp c4 hf
    refine s_tabIn (tgt := 59) G dX5_told_1 (by rw [c4]; decide) (by rw [c4]; decide) (by rw [c4]; rfl) (by decide) ?_
    refine s_aload_n G dX5_told_59 rfl ?_
    refine s_getR G dX5_told_60 lkF_X5_10 (by decide) rfl rfl ?_
    refine s_getI (n := 0) G dX5_told_63 lkF_X5_291 (by decide) rfl rfl ?_
    replace hf := Option.some.inj hf
    subst hf
    exact s_iret G hR dX5_told_66 rfl rfl
  replace hf := ifn c4 hf
  by_cases c5 : a1 = 4
  · replace hf := ifp c5 hf
    refine s_tabIn (tgt := 67) G dX5_told_1 (by rw [c5]; decide) (by rw [c5]; decide) (by rw [c5]; rfl) (by decide) ?_
    refine s_aload_n G dX5_told_67 rfl ?_
    refine s_getR G dX5_told_68 lkF_X5_10 (by decide) rfl rfl ?_
    refine s_getI (n := 0) G dX5_told_71 lkF_X5_231 (by decide) rfl rfl ?_
    replace hf := Option.some.inj hf
    subst hf
    exact s_iret G hR dX5_told_74 rfl rfl
  replace hf := ifn c5 hf
  by_cases c6 : a1 = 5
  · replace hf := ifp c6 hf
    refine s_tabIn (tgt := 75) G dX5_told_1 (by rw [c6]; decide) (by rw [c6]; decide) (by rw [c6]; rfl) (by decide) ?_
    refine s_aload_n G dX5_told_75 rfl ?_
    refine s_getR G dX5_told_76 lkF_X5_26 (by decide) rfl rfl ?_
    refine s_getI (n := 0) G dX5_told_79 lkF_X5_294 (by decide) rfl rfl ?_
    replace hf := Option.some.inj hf
    subst hf
    exact s_iret G hR dX5_told_82 rfl rfl
  replace hf := ifn c6 hf
  by_cases c7 : a1 = 6
  · replace hf := ifp c7 hf
    refine s_tabIn (tgt := 83) G dX5_told_1 (by rw [c7]; decide) (by rw [c7]; decide) (by rw [c7]; rfl) (by decide) ?_
    refine s_aload_n G dX5_told_83 rfl ?_
    refine s_getR G dX5_told_84 lkF_X5_19 (by decide) rfl rfl ?_
    refine s_getI (n := 0) G dX5_told_87 lkF_X5_275 (by decide) rfl rfl ?_
    replace hf := Option.some.inj hf
    subst hf
    exact s_iret G hR dX5_told_90 rfl rfl
  replace hf := ifn c7 hf
  refine s_tabOut (tgt := 91) G dX5_told_1 (tab_out 6 (by decide) (by intro k hk; match k, hk with | 0, _ => exact c1 | 1, _ => exact c2 | 2, _ => exact c3 | 3, _ => exact c4 | 4, _ => exact c5 | 5, _ => exact c6 | 6, _ => exact c7)) (by decide) ?_
  refine s_aload_n G dX5_told_91 rfl ?_
  obtain ⟨q8, hq8, hf⟩ := bnd hf
  refine s_callV G dX5_told_92 (c_X5_bad hq8) lkM_X5_50 yk_X5_bad yv_X5_bad (by decide) rfl rfl _ [] rfl rfl rfl (Nat.le_of_ble_eq_true rfl) (by decide) ?_
  replace hf := Option.some.inj hf
  subst hf
  exact s_iret G hR dX5_told_95 rfl rfl
def f_X5_mixed (a1 : Int64) (a2 : Int64) (σ : St) : Option (Int64 × St) :=
some ((((31 : Int64) * a1) + a2), σ)
abbrev mX5_mixed : Me := (yX5_mixed, cX5_mixed, 4, (some .long), 0, 0)
set_option maxRecDepth 100000 in
set_option maxHeartbeats 4000000 in
theorem c_X5_mixed {a1 : Int64} {a2 : Int64} {σ : St} {res : Int64 × St} (hf : f_X5_mixed a1 a2 σ = some res) : Mt mX5_mixed [.long a1, .long a2] σ (some (.long res.1)) res.2 := by
  unfold f_X5_mixed at hf
  refine mt_of (by decide) (Nat.le_of_ble_eq_true rfl) [some (.long a1), none, some (.long a2), none] rfl (fun Γ G hR => ?_)
  have G : OK Γ RX5 cX5_mixed 4 (some .long) 0 0 := G
  refine s_ldc2 G dX5_mixed_0 kc_X5_333 ?_
  refine s_lload_n G dX5_mixed_3 rfl ?_
  refine s_lmul G dX5_mixed_4 ?_
  refine s_lload_n G dX5_mixed_5 rfl ?_
  refine s_ladd G dX5_mixed_6 ?_
  replace hf := Option.some.inj hf
  subst hf
  exact s_lret G hR dX5_mixed_7 rfl rfl
def f_X5_digest_6 (k4 : Int64 → St → Option (Int64 × St)) : Nat → Int64 → Int32 → St → Option (Int64 × St)
  | 0, _, _, _ => none
  | n5 + 1, x1, x2, σ3 =>
    if (6 : Int32) < x2 then
      (k4 x1 σ3)
    else
      ((f_X5_told x2 σ3).bind (fun q7 =>
      (f_X5_mixed x1 q7.1.toInt64 q7.2).bind (fun q8 =>
      f_X5_digest_6 k4 n5 q8.1 (x2 + 1) q8.2)))
def f_X5_digest_31 (k14 : Int64 → St → Option (Int64 × St)) : Nat → Int64 → Int32 → St → Option (Int64 × St)
  | 0, _, _, _ => none
  | n15 + 1, x11, x12, σ13 =>
    if (σ13.1 24 6) ≤ x12 then
      (k14 x11 σ13)
    else
      (chk (ib x12 6) (
      (f_X5_mixed x11 (σ13.1 25 x12.toNatClampNeg).toInt64 σ13).bind (fun q18 =>
      (f_X5_island x12 q18.2).bind (fun q19 =>
      (f_X5_mixed q18.1 q19.1.toInt64 q19.2).bind (fun q20 =>
      f_X5_digest_31 k14 n15 q20.1 (x12 + 1) q20.2)))))
def f_X5_digest_90 (x24 : Int32) (k32 : Int64 → St → Option (Int64 × St)) : Nat → Int64 → Int32 → St → Option (Int64 × St)
  | 0, _, _, _ => none
  | n33 + 1, x29, x30, σ31 =>
    if (5 : Int32) < x30 then
      (k32 x29 σ31)
    else
      ((f_X5_of x24 x30 σ31).bind (fun q35 =>
      (f_X5_mixed x29 q35.1.toInt64 q35.2).bind (fun q36 =>
      f_X5_digest_90 x24 k32 n33 q36.1 (x30 + 1) q36.2)))
def f_X5_digest_76 (k26 : Int64 → St → Option (Int64 × St)) : Nat → Int64 → Int32 → St → Option (Int64 × St)
  | 0, _, _, _ => none
  | n27 + 1, x23, x24, σ25 =>
    if (σ25.1 24 7) ≤ x24 then
      (k26 x23 σ25)
    else
      (f_X5_digest_90 x24 (fun (x37 : Int64) (σ38 : St) =>
        (f_X5_flow x24 (0 : Int32) σ38).bind (fun q39 =>
        (f_X5_mixed x37 q39.1 q39.2).bind (fun q40 =>
        (f_X5_flow x24 (1 : Int32) q40.2).bind (fun q41 =>
        (f_X5_mixed q40.1 q41.1 q41.2).bind (fun q42 =>
        f_X5_digest_76 k26 n27 q42.1 (x24 + 1) q42.2))))) 1000 x23 (0 : Int32) σ25)
def f_X5_digest_156 (k50 : Int64 → St → Option (Int64 × St)) : Nat → Int64 → Int32 → St → Option (Int64 × St)
  | 0, _, _, _ => none
  | n51 + 1, x47, x48, σ49 =>
    if (5 : Int32) < x48 then
      (k50 x47 σ49)
    else
      ((f_X5_count x48 σ49).bind (fun q53 =>
      (f_X5_mixed x47 q53.1.toInt64 q53.2).bind (fun q54 =>
      f_X5_digest_156 k50 n51 q54.1 (x48 + 1) q54.2)))
def f_X5_digest (σ : St) : Option (Int64 × St) :=
f_X5_digest_6 (fun (x9 : Int64) (σ10 : St) =>
    f_X5_digest_31 (fun (x21 : Int64) (σ22 : St) =>
      f_X5_digest_76 (fun (x43 : Int64) (σ44 : St) =>
        (f_X5_worst (-1 : Int32) (0 : Int32) σ44).bind (fun q45 =>
        (f_X5_mixed x43 q45.1 q45.2).bind (fun q46 =>
        f_X5_digest_156 (fun (x55 : Int64) (σ56 : St) =>
          some (x55, σ56)) 1000 q46.1 (0 : Int32) q46.2))) 1000 x21 (0 : Int32) σ22) 1000 x9 (0 : Int32) σ10) 1000 (1898 : Int64) (0 : Int32) σ
abbrev mX5_digest : Me := (yX5_digest, cX5_digest, 5, (some .long), 7, 153)
set_option maxRecDepth 100000 in
set_option maxHeartbeats 4000000 in
theorem l_X5_digest_6 {Γ : Cxt} (G : OK Γ RX5 cX5_digest 5 (some .long) 7 153) {res : Int64 × St} (hR : RetOK Γ (some (.long res.1)) res.2) (k4 : Int64 → St → Option (Int64 × St)) (hk : ∀ (y1 : Int64) (z : St), k4 y1 z = some res → WW Γ 29 [some (.ref 0), some (.long y1), none, none, none] [] z) : ∀ (n5 : Nat) (x1 : Int64) (x2 : Int32) (σ3 : St), f_X5_digest_6 k4 n5 x1 x2 σ3 = some res → WW Γ 6 [some (.ref 0), some (.long x1), none, some (.int x2), none] [] σ3 := by
  intro n5
  induction n5 with
  | zero =>
    intro x1 x2 σ3 hf
    cases hf
  | succ n5 ih =>
    intro x1 x2 σ3 hf
    unfold f_X5_digest_6 at hf
    refine s_iload_n G dX5_digest_6 rfl ?_
    refine s_bipush G dX5_digest_7 (v := 6) (by decide) ?_
    refine s_icmp_gt (tgt := 29) G dX5_digest_9 (by decide) (fun c6 => ?_) (fun c6 => ?_)
    · replace hf := ifp c6 hf
      refine s_fgt [true, true, true, false, true] rfl ?_
      exact hk x1 σ3 hf
    · replace hf := ifn c6 hf
      refine s_lload_n G dX5_digest_12 rfl ?_
      refine s_aload_n G dX5_digest_13 rfl ?_
      refine s_iload_n G dX5_digest_14 rfl ?_
      obtain ⟨q7, hq7, hf⟩ := bnd hf
      refine s_callV G dX5_digest_15 (c_X5_told hq7) lkM_X5_299 yk_X5_told yv_X5_told (by decide) rfl rfl _ [.long x1] rfl rfl rfl (Nat.le_of_ble_eq_true rfl) (by decide) ?_
      refine s_i2l G dX5_digest_18 ?_
      obtain ⟨q8, hq8, hf⟩ := bnd hf
      refine s_callS G dX5_digest_19 (c_X5_mixed hq8) lkM_X5_302 yk_X5_mixed ys_X5_mixed _ [] rfl rfl rfl (Nat.le_of_ble_eq_true rfl) (by decide) ?_
      refine s_lstore_n G dX5_digest_22 rfl (by decide) rfl rfl ?_
      refine s_iinc G dX5_digest_23 rfl (v := (x2 + 1)) rfl (by decide) rfl rfl ?_
      refine s_goto (tgt := 6) G dX5_digest_26 (by decide) ?_
      exact ih q8.1 (x2 + 1) q8.2 hf
set_option maxRecDepth 100000 in
set_option maxHeartbeats 4000000 in
theorem l_X5_digest_31 {Γ : Cxt} (G : OK Γ RX5 cX5_digest 5 (some .long) 7 153) {res : Int64 × St} (hR : RetOK Γ (some (.long res.1)) res.2) (k14 : Int64 → St → Option (Int64 × St)) (hk : ∀ (y1 : Int64) (z : St), k14 y1 z = some res → WW Γ 74 [some (.ref 0), some (.long y1), none, none, none] [] z) : ∀ (n15 : Nat) (x11 : Int64) (x12 : Int32) (σ13 : St), f_X5_digest_31 k14 n15 x11 x12 σ13 = some res → WW Γ 31 [some (.ref 0), some (.long x11), none, some (.int x12), none] [] σ13 := by
  intro n15
  induction n15 with
  | zero =>
    intro x11 x12 σ13 hf
    cases hf
  | succ n15 ih =>
    intro x11 x12 σ13 hf
    unfold f_X5_digest_31 at hf
    refine s_iload_n G dX5_digest_31 rfl ?_
    refine s_aload_n G dX5_digest_32 rfl ?_
    refine s_getR G dX5_digest_33 lkF_X5_10 (by decide) rfl rfl ?_
    refine s_getI (n := 0) G dX5_digest_36 lkF_X5_291 (by decide) rfl rfl ?_
    refine s_icmp_ge (tgt := 74) G dX5_digest_39 (by decide) (fun c16 => ?_) (fun c16 => ?_)
    · replace hf := ifp c16 hf
      refine s_fgt [true, true, true, false, true] rfl ?_
      exact hk x11 σ13 hf
    · replace hf := ifn c16 hf
      refine s_lload_n G dX5_digest_42 rfl ?_
      refine s_aload_n G dX5_digest_43 rfl ?_
      refine s_getR G dX5_digest_44 lkF_X5_10 (by decide) rfl rfl ?_
      refine s_getR G dX5_digest_47 lkF_X5_169 (by decide) rfl rfl ?_
      refine s_iload_n G dX5_digest_50 rfl ?_
      have h17 := chk_1 hf
      replace hf := chk_2 hf
      refine s_iald G dX5_digest_51 (by decide) rfl h17 ?_
      refine s_i2l G dX5_digest_52 ?_
      obtain ⟨q18, hq18, hf⟩ := bnd hf
      refine s_callS G dX5_digest_53 (c_X5_mixed hq18) lkM_X5_302 yk_X5_mixed ys_X5_mixed _ [] rfl rfl rfl (Nat.le_of_ble_eq_true rfl) (by decide) ?_
      refine s_lstore_n G dX5_digest_56 rfl (by decide) rfl rfl ?_
      refine s_lload_n G dX5_digest_57 rfl ?_
      refine s_aload_n G dX5_digest_58 rfl ?_
      refine s_iload_n G dX5_digest_59 rfl ?_
      obtain ⟨q19, hq19, hf⟩ := bnd hf
      refine s_callV G dX5_digest_60 (c_X5_island hq19) lkM_X5_306 yk_X5_island yv_X5_island (by decide) rfl rfl _ [.long q18.1] rfl rfl rfl (Nat.le_of_ble_eq_true rfl) (by decide) ?_
      refine s_i2l G dX5_digest_63 ?_
      obtain ⟨q20, hq20, hf⟩ := bnd hf
      refine s_callS G dX5_digest_64 (c_X5_mixed hq20) lkM_X5_302 yk_X5_mixed ys_X5_mixed _ [] rfl rfl rfl (Nat.le_of_ble_eq_true rfl) (by decide) ?_
      refine s_lstore_n G dX5_digest_67 rfl (by decide) rfl rfl ?_
      refine s_iinc G dX5_digest_68 rfl (v := (x12 + 1)) rfl (by decide) rfl rfl ?_
      refine s_goto (tgt := 31) G dX5_digest_71 (by decide) ?_
      exact ih q20.1 (x12 + 1) q20.2 hf
set_option maxRecDepth 100000 in
set_option maxHeartbeats 4000000 in
theorem l_X5_digest_90 {Γ : Cxt} (G : OK Γ RX5 cX5_digest 5 (some .long) 7 153) {res : Int64 × St} (hR : RetOK Γ (some (.long res.1)) res.2) (x24 : Int32) (k32 : Int64 → St → Option (Int64 × St)) (hk : ∀ (y1 : Int64) (z : St), k32 y1 z = some res → WW Γ 115 [some (.ref 0), some (.long y1), none, some (.int x24), none] [] z) : ∀ (n33 : Nat) (x29 : Int64) (x30 : Int32) (σ31 : St), f_X5_digest_90 x24 k32 n33 x29 x30 σ31 = some res → WW Γ 90 [some (.ref 0), some (.long x29), none, some (.int x24), some (.int x30)] [] σ31 := by
  intro n33
  induction n33 with
  | zero =>
    intro x29 x30 σ31 hf
    cases hf
  | succ n33 ih =>
    intro x29 x30 σ31 hf
    unfold f_X5_digest_90 at hf
    refine s_iload G dX5_digest_90 rfl ?_
    refine s_iconst G dX5_digest_92 (v := 5) (by decide) ?_
    refine s_icmp_gt (tgt := 115) G dX5_digest_93 (by decide) (fun c34 => ?_) (fun c34 => ?_)
    · replace hf := ifp c34 hf
      refine s_fgt [true, true, true, true, false] rfl ?_
      exact hk x29 σ31 hf
    · replace hf := ifn c34 hf
      refine s_lload_n G dX5_digest_96 rfl ?_
      refine s_aload_n G dX5_digest_97 rfl ?_
      refine s_iload_n G dX5_digest_98 rfl ?_
      refine s_iload G dX5_digest_99 rfl ?_
      obtain ⟨q35, hq35, hf⟩ := bnd hf
      refine s_callV G dX5_digest_101 (c_X5_of hq35) lkM_X5_309 yk_X5_of yv_X5_of (by decide) rfl rfl _ [.long x29] rfl rfl rfl (Nat.le_of_ble_eq_true rfl) (by decide) ?_
      refine s_i2l G dX5_digest_104 ?_
      obtain ⟨q36, hq36, hf⟩ := bnd hf
      refine s_callS G dX5_digest_105 (c_X5_mixed hq36) lkM_X5_302 yk_X5_mixed ys_X5_mixed _ [] rfl rfl rfl (Nat.le_of_ble_eq_true rfl) (by decide) ?_
      refine s_lstore_n G dX5_digest_108 rfl (by decide) rfl rfl ?_
      refine s_iinc G dX5_digest_109 rfl (v := (x30 + 1)) rfl (by decide) rfl rfl ?_
      refine s_goto (tgt := 90) G dX5_digest_112 (by decide) ?_
      exact ih q36.1 (x30 + 1) q36.2 hf
set_option maxRecDepth 100000 in
set_option maxHeartbeats 4000000 in
theorem l_X5_digest_76 {Γ : Cxt} (G : OK Γ RX5 cX5_digest 5 (some .long) 7 153) {res : Int64 × St} (hR : RetOK Γ (some (.long res.1)) res.2) (k26 : Int64 → St → Option (Int64 × St)) (hk : ∀ (y1 : Int64) (z : St), k26 y1 z = some res → WW Γ 143 [some (.ref 0), some (.long y1), none, none, none] [] z) : ∀ (n27 : Nat) (x23 : Int64) (x24 : Int32) (σ25 : St), f_X5_digest_76 k26 n27 x23 x24 σ25 = some res → WW Γ 76 [some (.ref 0), some (.long x23), none, some (.int x24), none] [] σ25 := by
  intro n27
  induction n27 with
  | zero =>
    intro x23 x24 σ25 hf
    cases hf
  | succ n27 ih =>
    intro x23 x24 σ25 hf
    unfold f_X5_digest_76 at hf
    refine s_iload_n G dX5_digest_76 rfl ?_
    refine s_aload_n G dX5_digest_77 rfl ?_
    refine s_getR G dX5_digest_78 lkF_X5_10 (by decide) rfl rfl ?_
    refine s_getI (n := 0) G dX5_digest_81 lkF_X5_231 (by decide) rfl rfl ?_
    refine s_icmp_ge (tgt := 143) G dX5_digest_84 (by decide) (fun c28 => ?_) (fun c28 => ?_)
    · replace hf := ifp c28 hf
      refine s_fgt [true, true, true, false, true] rfl ?_
      exact hk x23 σ25 hf
    · replace hf := ifn c28 hf
      refine s_iconst G dX5_digest_87 (v := 0) (by decide) ?_
      refine s_istore G dX5_digest_88 (by decide) rfl rfl ?_
      refine l_X5_digest_90 G hR x24 _ (fun x37 σ38 hf => ?_) 1000 x23 (0 : Int32) σ25 hf
      refine s_lload_n G dX5_digest_115 rfl ?_
      refine s_aload_n G dX5_digest_116 rfl ?_
      refine s_iload_n G dX5_digest_117 rfl ?_
      refine s_iconst G dX5_digest_118 (v := 0) (by decide) ?_
      obtain ⟨q39, hq39, hf⟩ := bnd hf
      refine s_callV G dX5_digest_119 (c_X5_flow hq39) lkM_X5_312 yk_X5_flow yv_X5_flow (by decide) rfl rfl _ [.long x37] rfl rfl rfl (Nat.le_of_ble_eq_true rfl) (by decide) ?_
      obtain ⟨q40, hq40, hf⟩ := bnd hf
      refine s_callS G dX5_digest_122 (c_X5_mixed hq40) lkM_X5_302 yk_X5_mixed ys_X5_mixed _ [] rfl rfl rfl (Nat.le_of_ble_eq_true rfl) (by decide) ?_
      refine s_lstore_n G dX5_digest_125 rfl (by decide) rfl rfl ?_
      refine s_lload_n G dX5_digest_126 rfl ?_
      refine s_aload_n G dX5_digest_127 rfl ?_
      refine s_iload_n G dX5_digest_128 rfl ?_
      refine s_iconst G dX5_digest_129 (v := 1) (by decide) ?_
      obtain ⟨q41, hq41, hf⟩ := bnd hf
      refine s_callV G dX5_digest_130 (c_X5_flow hq41) lkM_X5_312 yk_X5_flow yv_X5_flow (by decide) rfl rfl _ [.long q40.1] rfl rfl rfl (Nat.le_of_ble_eq_true rfl) (by decide) ?_
      obtain ⟨q42, hq42, hf⟩ := bnd hf
      refine s_callS G dX5_digest_133 (c_X5_mixed hq42) lkM_X5_302 yk_X5_mixed ys_X5_mixed _ [] rfl rfl rfl (Nat.le_of_ble_eq_true rfl) (by decide) ?_
      refine s_lstore_n G dX5_digest_136 rfl (by decide) rfl rfl ?_
      refine s_iinc G dX5_digest_137 rfl (v := (x24 + 1)) rfl (by decide) rfl rfl ?_
      refine s_goto (tgt := 76) G dX5_digest_140 (by decide) ?_
      exact ih q42.1 (x24 + 1) q42.2 hf
set_option maxRecDepth 100000 in
set_option maxHeartbeats 4000000 in
theorem l_X5_digest_156 {Γ : Cxt} (G : OK Γ RX5 cX5_digest 5 (some .long) 7 153) {res : Int64 × St} (hR : RetOK Γ (some (.long res.1)) res.2) (k50 : Int64 → St → Option (Int64 × St)) (hk : ∀ (y1 : Int64) (z : St), k50 y1 z = some res → WW Γ 178 [none, some (.long y1), none, none, none] [] z) : ∀ (n51 : Nat) (x47 : Int64) (x48 : Int32) (σ49 : St), f_X5_digest_156 k50 n51 x47 x48 σ49 = some res → WW Γ 156 [some (.ref 0), some (.long x47), none, some (.int x48), none] [] σ49 := by
  intro n51
  induction n51 with
  | zero =>
    intro x47 x48 σ49 hf
    cases hf
  | succ n51 ih =>
    intro x47 x48 σ49 hf
    unfold f_X5_digest_156 at hf
    refine s_iload_n G dX5_digest_156 rfl ?_
    refine s_iconst G dX5_digest_157 (v := 5) (by decide) ?_
    refine s_icmp_gt (tgt := 178) G dX5_digest_158 (by decide) (fun c52 => ?_) (fun c52 => ?_)
    · replace hf := ifp c52 hf
      refine s_fgt [false, true, true, false, true] rfl ?_
      exact hk x47 σ49 hf
    · replace hf := ifn c52 hf
      refine s_lload_n G dX5_digest_161 rfl ?_
      refine s_aload_n G dX5_digest_162 rfl ?_
      refine s_iload_n G dX5_digest_163 rfl ?_
      obtain ⟨q53, hq53, hf⟩ := bnd hf
      refine s_callV G dX5_digest_164 (c_X5_count hq53) lkM_X5_319 yk_X5_count yv_X5_count (by decide) rfl rfl _ [.long x47] rfl rfl rfl (Nat.le_of_ble_eq_true rfl) (by decide) ?_
      refine s_i2l G dX5_digest_167 ?_
      obtain ⟨q54, hq54, hf⟩ := bnd hf
      refine s_callS G dX5_digest_168 (c_X5_mixed hq54) lkM_X5_302 yk_X5_mixed ys_X5_mixed _ [] rfl rfl rfl (Nat.le_of_ble_eq_true rfl) (by decide) ?_
      refine s_lstore_n G dX5_digest_171 rfl (by decide) rfl rfl ?_
      refine s_iinc G dX5_digest_172 rfl (v := (x48 + 1)) rfl (by decide) rfl rfl ?_
      refine s_goto (tgt := 156) G dX5_digest_175 (by decide) ?_
      exact ih q54.1 (x48 + 1) q54.2 hf
set_option maxRecDepth 100000 in
set_option maxHeartbeats 4000000 in
theorem c_X5_digest  {σ : St} {res : Int64 × St} (hf : f_X5_digest σ = some res) : Mt mX5_digest [.ref 0] σ (some (.long res.1)) res.2 := by
  unfold f_X5_digest at hf
  refine mt_of (by decide) (Nat.le_of_ble_eq_true rfl) [some (.ref 0), none, none, none, none] rfl (fun Γ G hR => ?_)
  have G : OK Γ RX5 cX5_digest 5 (some .long) 7 153 := G
  refine s_ldc2 G dX5_digest_0 kc_X5_297 ?_
  refine s_lstore_n G dX5_digest_3 rfl (by decide) rfl rfl ?_
  refine s_iconst G dX5_digest_4 (v := 0) (by decide) ?_
  refine s_istore_n G dX5_digest_5 rfl (by decide) rfl rfl ?_
  refine l_X5_digest_6 G hR _ (fun x9 σ10 hf => ?_) 1000 (1898 : Int64) (0 : Int32) σ hf
  refine s_iconst G dX5_digest_29 (v := 0) (by decide) ?_
  refine s_istore_n G dX5_digest_30 rfl (by decide) rfl rfl ?_
  refine l_X5_digest_31 G hR _ (fun x21 σ22 hf => ?_) 1000 x9 (0 : Int32) σ10 hf
  refine s_iconst G dX5_digest_74 (v := 0) (by decide) ?_
  refine s_istore_n G dX5_digest_75 rfl (by decide) rfl rfl ?_
  refine l_X5_digest_76 G hR _ (fun x43 σ44 hf => ?_) 1000 x21 (0 : Int32) σ22 hf
  refine s_lload_n G dX5_digest_143 rfl ?_
  refine s_aload_n G dX5_digest_144 rfl ?_
  refine s_iconst G dX5_digest_145 (v := -1) (by decide) ?_
  refine s_iconst G dX5_digest_146 (v := 0) (by decide) ?_
  obtain ⟨q45, hq45, hf⟩ := bnd hf
  refine s_callV G dX5_digest_147 (c_X5_worst hq45) lkM_X5_316 yk_X5_worst yv_X5_worst (by decide) rfl rfl _ [.long x43] rfl rfl rfl (Nat.le_of_ble_eq_true rfl) (by decide) ?_
  obtain ⟨q46, hq46, hf⟩ := bnd hf
  refine s_callS G dX5_digest_150 (c_X5_mixed hq46) lkM_X5_302 yk_X5_mixed ys_X5_mixed _ [] rfl rfl rfl (Nat.le_of_ble_eq_true rfl) (by decide) ?_
  refine s_lstore_n G dX5_digest_153 rfl (by decide) rfl rfl ?_
  refine s_iconst G dX5_digest_154 (v := 0) (by decide) ?_
  refine s_istore_n G dX5_digest_155 rfl (by decide) rfl rfl ?_
  refine l_X5_digest_156 G hR _ (fun x55 σ56 hf => ?_) 1000 q46.1 (0 : Int32) q46.2 hf
  refine s_lload_n G dX5_digest_178 rfl ?_
  replace hf := Option.some.inj hf
  subst hf
  exact s_lret G hR dX5_digest_179 rfl rfl
