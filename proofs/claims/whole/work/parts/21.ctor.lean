/-! the constructors -/
abbrev rX2_init : Room := { frames := 1, cells := 1, slots := 60, locals := 20 }
set_option maxHeartbeats 4000000 in
set_option maxRecDepth 100000 in
theorem c_X2_init (l : Launch) (g : zg) (h_ : Nat) : zMn l g yX2_init wsX2_init rX2_init [.ref h_] [(h_, .inr (2, [.null, .int 0, .int 0]))] 1 60 (fun wo => ∃ q1 : Nat, wo = [(h_, .inr (2, [.ref q1, .int 0, .int (-1)])), (q1, .inl (g.2.1, 60, .inl (fun _ => 0)))]) := by
  refine z_metn (own := RX2) (cc := cX2_init) (maxL := 1) (by decide +kernel) rfl rfl (Nat.le_of_ble_eq_true rfl) rfl ?_
  intro P S M X F
  refine z_Le (L' := [(0, .ref h_)]) rfl ?_
  have m_oi : Cond.methodLink RX2 3 objectInit ∈ wsX2_init := by decide +kernel
  have m_oj : Cond.instanceMethod objectInit ∈ wsX2_init := by decide +kernel
  have m_ok : Cond.code objectInit ⟨#[0xb1]⟩ 1 none ∈ wsX2_init := by decide +kernel
  have m_int : Cond.arrayClass .int ∈ wsX2_init := by decide +kernel
  have i_RX2 : ∀ w ∈ wsX20, w ∈ wsX2_init := by decide +kernel
  have f_9 : Cond.fieldLink RX2 9 (TX2 0).1 (TX2 0).2.1 (TX2 0).2.2.1 ∈ wsX2_init := by decide +kernel
  have f_15 : Cond.fieldLink RX2 15 (TX2 2).1 (TX2 2).2.1 (TX2 2).2.2.1 ∈ wsX2_init := by decide +kernel
  refine z_aload_n X dX2_init_0 rfl 0 rfl ?_
  refine z_objInit X m_oi m_oj m_ok (Nat.le_of_ble_eq_true rfl) (Nat.le_of_ble_eq_true rfl) (by decide) dX2_init_1 ?_
  refine z_aload_n X dX2_init_4 rfl 0 rfl ?_
  refine z_bipush (v := nI 60) X dX2_init_5 (by decide) ?_
  refine z_newaI (N := 60) X m_int (Nat.le_of_ble_eq_true rfl) (Nat.le_of_ble_eq_true rfl) (Nat.le_of_ble_eq_true rfl) dX2_init_7 (fun q1 => ?_)
  refine z_ws (ws' := [(h_, .inr (2, [.null, .int 0, .int 0])), (q1, .inl (g.2.1, 60, .inl (fun _ => 0)))]) rfl ?_
  have X := zX.mv (c' := (1, 60)) X
  have F := zFn.mv (c' := (1, 60)) F
  refine z_putF (ws' := [(h_, .inr (2, [.ref q1, .int 0, .int 0])), (q1, .inl (g.2.1, 60, .inl (fun _ => 0)))]) (N := 3) X F.2.2.2 i_RX2 (ci := 2) rfl tyX2 tyX2_ok nmX2 0 rfl 0 (by decide) f_9 rfl rfl (ty := .array .int) (by decide +kernel) rfl rfl (Nat.le_of_ble_eq_true rfl) dX2_init_9 rfl ?_
  refine z_aload_n X dX2_init_12 rfl 0 rfl ?_
  refine z_iconst (v := (-1)) X dX2_init_13 (by decide) ?_
  refine z_put (ws' := [(h_, .inr (2, [.ref q1, .int 0, .int (-1)])), (q1, .inl (g.2.1, 60, .inl (fun _ => 0)))]) (N := 3) X i_RX2 (ci := 2) rfl tyX2 tyX2_ok nmX2 0 rfl 2 (by decide) f_15 rfl (ty := .int) (by decide +kernel) rfl rfl (Nat.le_of_ble_eq_true rfl) dX2_init_14 rfl ?_
  exact z_vretn X F (Nat.le_of_ble_eq_true rfl) (Nat.le_of_ble_eq_true rfl) dX2_init_17 rfl ⟨q1, rfl⟩
abbrev rX1_init : Room := { frames := 1, cells := 4, slots := 32, locals := 20 }
set_option maxHeartbeats 4000000 in
set_option maxRecDepth 100000 in
theorem c_X1_init (l : Launch) (g : zg) (h_ : Nat) : zMn l g yX1_init wsX1_init rX1_init [.ref h_] [(h_, .inr (1, [.null, .null, .null, .null, .int 0]))] 4 32 (fun wo => ∃ q1 q2 q3 q4 : Nat, wo = [(h_, .inr (1, [.ref q1, .ref q2, .ref q3, .ref q4, .int 0])), (q1, .inl (g.2.1, 8, .inl (fun _ => 0))), (q2, .inl (g.2.1, 8, .inl (fun _ => 0))), (q3, .inl (g.2.1, 8, .inl (fun _ => 0))), (q4, .inl (g.2.2.1, 8, .inl (fun _ => 0)))]) := by
  refine z_metn (own := RX1) (cc := cX1_init) (maxL := 1) (by decide +kernel) rfl rfl (Nat.le_of_ble_eq_true rfl) rfl ?_
  intro P S M X F
  refine z_Le (L' := [(0, .ref h_)]) rfl ?_
  have m_oi : Cond.methodLink RX1 3 objectInit ∈ wsX1_init := by decide +kernel
  have m_oj : Cond.instanceMethod objectInit ∈ wsX1_init := by decide +kernel
  have m_ok : Cond.code objectInit ⟨#[0xb1]⟩ 1 none ∈ wsX1_init := by decide +kernel
  have m_int : Cond.arrayClass .int ∈ wsX1_init := by decide +kernel
  have i_RX1 : ∀ w ∈ wsX10, w ∈ wsX1_init := by decide +kernel
  have f_9 : Cond.fieldLink RX1 9 (TX1 0).1 (TX1 0).2.1 (TX1 0).2.2.1 ∈ wsX1_init := by decide +kernel
  have f_15 : Cond.fieldLink RX1 15 (TX1 1).1 (TX1 1).2.1 (TX1 1).2.2.1 ∈ wsX1_init := by decide +kernel
  have f_18 : Cond.fieldLink RX1 18 (TX1 2).1 (TX1 2).2.1 (TX1 2).2.2.1 ∈ wsX1_init := by decide +kernel
  have m_boolean : Cond.arrayClass .boolean ∈ wsX1_init := by decide +kernel
  have f_21 : Cond.fieldLink RX1 21 (TX1 3).1 (TX1 3).2.1 (TX1 3).2.2.1 ∈ wsX1_init := by decide +kernel
  refine z_aload_n X dX1_init_0 rfl 0 rfl ?_
  refine z_objInit X m_oi m_oj m_ok (Nat.le_of_ble_eq_true rfl) (Nat.le_of_ble_eq_true rfl) (by decide) dX1_init_1 ?_
  refine z_aload_n X dX1_init_4 rfl 0 rfl ?_
  refine z_bipush (v := nI 8) X dX1_init_5 (by decide) ?_
  refine z_newaI (N := 8) X m_int (Nat.le_of_ble_eq_true rfl) (Nat.le_of_ble_eq_true rfl) (Nat.le_of_ble_eq_true rfl) dX1_init_7 (fun q1 => ?_)
  refine z_ws (ws' := [(h_, .inr (1, [.null, .null, .null, .null, .int 0])), (q1, .inl (g.2.1, 8, .inl (fun _ => 0)))]) rfl ?_
  have X := zX.mv (c' := (1, 8)) X
  have F := zFn.mv (c' := (1, 8)) F
  refine z_putF (ws' := [(h_, .inr (1, [.ref q1, .null, .null, .null, .int 0])), (q1, .inl (g.2.1, 8, .inl (fun _ => 0)))]) (N := 5) X F.2.2.2 i_RX1 (ci := 1) rfl tyX1 tyX1_ok nmX1 0 rfl 0 (by decide) f_9 rfl rfl (ty := .array .int) (by decide +kernel) rfl rfl (Nat.le_of_ble_eq_true rfl) dX1_init_9 rfl ?_
  refine z_aload_n X dX1_init_12 rfl 0 rfl ?_
  refine z_bipush (v := nI 8) X dX1_init_13 (by decide) ?_
  refine z_newaI (N := 8) X m_int (Nat.le_of_ble_eq_true rfl) (Nat.le_of_ble_eq_true rfl) (Nat.le_of_ble_eq_true rfl) dX1_init_15 (fun q2 => ?_)
  refine z_ws (ws' := [(h_, .inr (1, [.ref q1, .null, .null, .null, .int 0])), (q1, .inl (g.2.1, 8, .inl (fun _ => 0))), (q2, .inl (g.2.1, 8, .inl (fun _ => 0)))]) rfl ?_
  have X := zX.mv (c' := (2, 16)) X
  have F := zFn.mv (c' := (2, 16)) F
  refine z_putF (ws' := [(h_, .inr (1, [.ref q1, .ref q2, .null, .null, .int 0])), (q1, .inl (g.2.1, 8, .inl (fun _ => 0))), (q2, .inl (g.2.1, 8, .inl (fun _ => 0)))]) (N := 5) X F.2.2.2 i_RX1 (ci := 1) rfl tyX1 tyX1_ok nmX1 0 rfl 1 (by decide) f_15 rfl rfl (ty := .array .int) (by decide +kernel) rfl rfl (Nat.le_of_ble_eq_true rfl) dX1_init_17 rfl ?_
  refine z_aload_n X dX1_init_20 rfl 0 rfl ?_
  refine z_bipush (v := nI 8) X dX1_init_21 (by decide) ?_
  refine z_newaI (N := 8) X m_int (Nat.le_of_ble_eq_true rfl) (Nat.le_of_ble_eq_true rfl) (Nat.le_of_ble_eq_true rfl) dX1_init_23 (fun q3 => ?_)
  refine z_ws (ws' := [(h_, .inr (1, [.ref q1, .ref q2, .null, .null, .int 0])), (q1, .inl (g.2.1, 8, .inl (fun _ => 0))), (q2, .inl (g.2.1, 8, .inl (fun _ => 0))), (q3, .inl (g.2.1, 8, .inl (fun _ => 0)))]) rfl ?_
  have X := zX.mv (c' := (3, 24)) X
  have F := zFn.mv (c' := (3, 24)) F
  refine z_putF (ws' := [(h_, .inr (1, [.ref q1, .ref q2, .ref q3, .null, .int 0])), (q1, .inl (g.2.1, 8, .inl (fun _ => 0))), (q2, .inl (g.2.1, 8, .inl (fun _ => 0))), (q3, .inl (g.2.1, 8, .inl (fun _ => 0)))]) (N := 5) X F.2.2.2 i_RX1 (ci := 1) rfl tyX1 tyX1_ok nmX1 0 rfl 2 (by decide) f_18 rfl rfl (ty := .array .int) (by decide +kernel) rfl rfl (Nat.le_of_ble_eq_true rfl) dX1_init_25 rfl ?_
  refine z_aload_n X dX1_init_28 rfl 0 rfl ?_
  refine z_bipush (v := nI 8) X dX1_init_29 (by decide) ?_
  refine z_newaZ (N := 8) X m_boolean (Nat.le_of_ble_eq_true rfl) (Nat.le_of_ble_eq_true rfl) (Nat.le_of_ble_eq_true rfl) dX1_init_31 (fun q4 => ?_)
  refine z_ws (ws' := [(h_, .inr (1, [.ref q1, .ref q2, .ref q3, .null, .int 0])), (q1, .inl (g.2.1, 8, .inl (fun _ => 0))), (q2, .inl (g.2.1, 8, .inl (fun _ => 0))), (q3, .inl (g.2.1, 8, .inl (fun _ => 0))), (q4, .inl (g.2.2.1, 8, .inl (fun _ => 0)))]) rfl ?_
  have X := zX.mv (c' := (4, 32)) X
  have F := zFn.mv (c' := (4, 32)) F
  refine z_putF (ws' := [(h_, .inr (1, [.ref q1, .ref q2, .ref q3, .ref q4, .int 0])), (q1, .inl (g.2.1, 8, .inl (fun _ => 0))), (q2, .inl (g.2.1, 8, .inl (fun _ => 0))), (q3, .inl (g.2.1, 8, .inl (fun _ => 0))), (q4, .inl (g.2.2.1, 8, .inl (fun _ => 0)))]) (N := 5) X F.2.2.2 i_RX1 (ci := 1) rfl tyX1 tyX1_ok nmX1 0 rfl 3 (by decide) f_21 rfl rfl (ty := .array .boolean) (by decide +kernel) rfl rfl (Nat.le_of_ble_eq_true rfl) dX1_init_33 rfl ?_
  exact z_vretn X F (Nat.le_of_ble_eq_true rfl) (Nat.le_of_ble_eq_true rfl) dX1_init_36 rfl ⟨q1, q2, q3, q4, rfl⟩
abbrev rX0_init : Room := { frames := 1, cells := 5, slots := 22, locals := 20 }
set_option maxHeartbeats 4000000 in
set_option maxRecDepth 100000 in
theorem c_X0_init (l : Launch) (g : zg) (h_ : Nat) : zMn l g yX0_init wsX0_init rX0_init [.ref h_] [(h_, .inr (0, [.null, .null, .null, .null, .null, .int 0, .int 0, .int 0]))] 5 22 (fun wo => ∃ q1 q2 q3 q4 q5 : Nat, wo = [(h_, .inr (0, [.ref q1, .ref q2, .ref q3, .ref q4, .ref q5, .int 0, .int 0, .int 0])), (q1, .inl (g.2.1, 6, .inl (fun _ => 0))), (q2, .inl (g.2.1, 4, .inl (fun _ => 0))), (q3, .inl (g.2.1, 4, .inl (fun _ => 0))), (q4, .inl (g.2.1, 4, .inl (fun _ => 0))), (q5, .inl (g.2.1, 4, .inl (fun _ => 0)))]) := by
  refine z_metn (own := RX0) (cc := cX0_init) (maxL := 1) (by decide +kernel) rfl rfl (Nat.le_of_ble_eq_true rfl) rfl ?_
  intro P S M X F
  refine z_Le (L' := [(0, .ref h_)]) rfl ?_
  have m_oi : Cond.methodLink RX0 3 objectInit ∈ wsX0_init := by decide +kernel
  have m_oj : Cond.instanceMethod objectInit ∈ wsX0_init := by decide +kernel
  have m_ok : Cond.code objectInit ⟨#[0xb1]⟩ 1 none ∈ wsX0_init := by decide +kernel
  have m_int : Cond.arrayClass .int ∈ wsX0_init := by decide +kernel
  have i_RX0 : ∀ w ∈ wsX00, w ∈ wsX0_init := by decide +kernel
  have f_9 : Cond.fieldLink RX0 9 (TX0 0).1 (TX0 0).2.1 (TX0 0).2.2.1 ∈ wsX0_init := by decide +kernel
  have f_15 : Cond.fieldLink RX0 15 (TX0 1).1 (TX0 1).2.1 (TX0 1).2.2.1 ∈ wsX0_init := by decide +kernel
  have f_18 : Cond.fieldLink RX0 18 (TX0 2).1 (TX0 2).2.1 (TX0 2).2.2.1 ∈ wsX0_init := by decide +kernel
  have f_21 : Cond.fieldLink RX0 21 (TX0 3).1 (TX0 3).2.1 (TX0 3).2.2.1 ∈ wsX0_init := by decide +kernel
  have f_24 : Cond.fieldLink RX0 24 (TX0 4).1 (TX0 4).2.1 (TX0 4).2.2.1 ∈ wsX0_init := by decide +kernel
  refine z_aload_n X dX0_init_0 rfl 0 rfl ?_
  refine z_objInit X m_oi m_oj m_ok (Nat.le_of_ble_eq_true rfl) (Nat.le_of_ble_eq_true rfl) (by decide) dX0_init_1 ?_
  refine z_aload_n X dX0_init_4 rfl 0 rfl ?_
  refine z_bipush (v := nI 6) X dX0_init_5 (by decide) ?_
  refine z_newaI (N := 6) X m_int (Nat.le_of_ble_eq_true rfl) (Nat.le_of_ble_eq_true rfl) (Nat.le_of_ble_eq_true rfl) dX0_init_7 (fun q1 => ?_)
  refine z_ws (ws' := [(h_, .inr (0, [.null, .null, .null, .null, .null, .int 0, .int 0, .int 0])), (q1, .inl (g.2.1, 6, .inl (fun _ => 0)))]) rfl ?_
  have X := zX.mv (c' := (1, 6)) X
  have F := zFn.mv (c' := (1, 6)) F
  refine z_putF (ws' := [(h_, .inr (0, [.ref q1, .null, .null, .null, .null, .int 0, .int 0, .int 0])), (q1, .inl (g.2.1, 6, .inl (fun _ => 0)))]) (N := 8) X F.2.2.2 i_RX0 (ci := 0) rfl tyX0 tyX0_ok nmX0 0 rfl 0 (by decide) f_9 rfl rfl (ty := .array .int) (by decide +kernel) rfl rfl (Nat.le_of_ble_eq_true rfl) dX0_init_9 rfl ?_
  refine z_aload_n X dX0_init_12 rfl 0 rfl ?_
  refine z_iconst (v := nI 4) X dX0_init_13 (by decide) ?_
  refine z_newaI (N := 4) X m_int (Nat.le_of_ble_eq_true rfl) (Nat.le_of_ble_eq_true rfl) (Nat.le_of_ble_eq_true rfl) dX0_init_14 (fun q2 => ?_)
  refine z_ws (ws' := [(h_, .inr (0, [.ref q1, .null, .null, .null, .null, .int 0, .int 0, .int 0])), (q1, .inl (g.2.1, 6, .inl (fun _ => 0))), (q2, .inl (g.2.1, 4, .inl (fun _ => 0)))]) rfl ?_
  have X := zX.mv (c' := (2, 10)) X
  have F := zFn.mv (c' := (2, 10)) F
  refine z_putF (ws' := [(h_, .inr (0, [.ref q1, .ref q2, .null, .null, .null, .int 0, .int 0, .int 0])), (q1, .inl (g.2.1, 6, .inl (fun _ => 0))), (q2, .inl (g.2.1, 4, .inl (fun _ => 0)))]) (N := 8) X F.2.2.2 i_RX0 (ci := 0) rfl tyX0 tyX0_ok nmX0 0 rfl 1 (by decide) f_15 rfl rfl (ty := .array .int) (by decide +kernel) rfl rfl (Nat.le_of_ble_eq_true rfl) dX0_init_16 rfl ?_
  refine z_aload_n X dX0_init_19 rfl 0 rfl ?_
  refine z_iconst (v := nI 4) X dX0_init_20 (by decide) ?_
  refine z_newaI (N := 4) X m_int (Nat.le_of_ble_eq_true rfl) (Nat.le_of_ble_eq_true rfl) (Nat.le_of_ble_eq_true rfl) dX0_init_21 (fun q3 => ?_)
  refine z_ws (ws' := [(h_, .inr (0, [.ref q1, .ref q2, .null, .null, .null, .int 0, .int 0, .int 0])), (q1, .inl (g.2.1, 6, .inl (fun _ => 0))), (q2, .inl (g.2.1, 4, .inl (fun _ => 0))), (q3, .inl (g.2.1, 4, .inl (fun _ => 0)))]) rfl ?_
  have X := zX.mv (c' := (3, 14)) X
  have F := zFn.mv (c' := (3, 14)) F
  refine z_putF (ws' := [(h_, .inr (0, [.ref q1, .ref q2, .ref q3, .null, .null, .int 0, .int 0, .int 0])), (q1, .inl (g.2.1, 6, .inl (fun _ => 0))), (q2, .inl (g.2.1, 4, .inl (fun _ => 0))), (q3, .inl (g.2.1, 4, .inl (fun _ => 0)))]) (N := 8) X F.2.2.2 i_RX0 (ci := 0) rfl tyX0 tyX0_ok nmX0 0 rfl 2 (by decide) f_18 rfl rfl (ty := .array .int) (by decide +kernel) rfl rfl (Nat.le_of_ble_eq_true rfl) dX0_init_23 rfl ?_
  refine z_aload_n X dX0_init_26 rfl 0 rfl ?_
  refine z_iconst (v := nI 4) X dX0_init_27 (by decide) ?_
  refine z_newaI (N := 4) X m_int (Nat.le_of_ble_eq_true rfl) (Nat.le_of_ble_eq_true rfl) (Nat.le_of_ble_eq_true rfl) dX0_init_28 (fun q4 => ?_)
  refine z_ws (ws' := [(h_, .inr (0, [.ref q1, .ref q2, .ref q3, .null, .null, .int 0, .int 0, .int 0])), (q1, .inl (g.2.1, 6, .inl (fun _ => 0))), (q2, .inl (g.2.1, 4, .inl (fun _ => 0))), (q3, .inl (g.2.1, 4, .inl (fun _ => 0))), (q4, .inl (g.2.1, 4, .inl (fun _ => 0)))]) rfl ?_
  have X := zX.mv (c' := (4, 18)) X
  have F := zFn.mv (c' := (4, 18)) F
  refine z_putF (ws' := [(h_, .inr (0, [.ref q1, .ref q2, .ref q3, .ref q4, .null, .int 0, .int 0, .int 0])), (q1, .inl (g.2.1, 6, .inl (fun _ => 0))), (q2, .inl (g.2.1, 4, .inl (fun _ => 0))), (q3, .inl (g.2.1, 4, .inl (fun _ => 0))), (q4, .inl (g.2.1, 4, .inl (fun _ => 0)))]) (N := 8) X F.2.2.2 i_RX0 (ci := 0) rfl tyX0 tyX0_ok nmX0 0 rfl 3 (by decide) f_21 rfl rfl (ty := .array .int) (by decide +kernel) rfl rfl (Nat.le_of_ble_eq_true rfl) dX0_init_30 rfl ?_
  refine z_aload_n X dX0_init_33 rfl 0 rfl ?_
  refine z_iconst (v := nI 4) X dX0_init_34 (by decide) ?_
  refine z_newaI (N := 4) X m_int (Nat.le_of_ble_eq_true rfl) (Nat.le_of_ble_eq_true rfl) (Nat.le_of_ble_eq_true rfl) dX0_init_35 (fun q5 => ?_)
  refine z_ws (ws' := [(h_, .inr (0, [.ref q1, .ref q2, .ref q3, .ref q4, .null, .int 0, .int 0, .int 0])), (q1, .inl (g.2.1, 6, .inl (fun _ => 0))), (q2, .inl (g.2.1, 4, .inl (fun _ => 0))), (q3, .inl (g.2.1, 4, .inl (fun _ => 0))), (q4, .inl (g.2.1, 4, .inl (fun _ => 0))), (q5, .inl (g.2.1, 4, .inl (fun _ => 0)))]) rfl ?_
  have X := zX.mv (c' := (5, 22)) X
  have F := zFn.mv (c' := (5, 22)) F
  refine z_putF (ws' := [(h_, .inr (0, [.ref q1, .ref q2, .ref q3, .ref q4, .ref q5, .int 0, .int 0, .int 0])), (q1, .inl (g.2.1, 6, .inl (fun _ => 0))), (q2, .inl (g.2.1, 4, .inl (fun _ => 0))), (q3, .inl (g.2.1, 4, .inl (fun _ => 0))), (q4, .inl (g.2.1, 4, .inl (fun _ => 0))), (q5, .inl (g.2.1, 4, .inl (fun _ => 0)))]) (N := 8) X F.2.2.2 i_RX0 (ci := 0) rfl tyX0 tyX0_ok nmX0 0 rfl 4 (by decide) f_24 rfl rfl (ty := .array .int) (by decide +kernel) rfl rfl (Nat.le_of_ble_eq_true rfl) dX0_init_37 rfl ?_
  exact z_vretn X F (Nat.le_of_ble_eq_true rfl) (Nat.le_of_ble_eq_true rfl) dX0_init_40 rfl ⟨q1, q2, q3, q4, q5, rfl⟩
abbrev rX4_init : Room := { frames := 2, cells := 20, slots := 323, locals := 40 }
set_option maxHeartbeats 4000000 in
set_option maxRecDepth 100000 in
theorem c_X4_init (l : Launch) (g : zg) (h_ : Nat) : zMn l g yX4_init wsX4_init rX4_init [.ref h_] [(h_, .inr (3, [.null, .null, .null, .int 0, .int 0]))] 20 323 (fun wo => ∃ q1 q2 q3 q4 q5 q6 q7 q8 q9 q10 q11 q12 q13 q14 q15 q16 q17 q18 q19 q20 : Nat, wo = [(h_, .inr (3, [.ref q1, .ref q7, .ref q12, .int 0, .int 0])), (q1, .inr (0, [.ref q2, .ref q3, .ref q4, .ref q5, .ref q6, .int 0, .int 0, .int 0])), (q2, .inl (g.2.1, 6, .inl (fun _ => 0))), (q3, .inl (g.2.1, 4, .inl (fun _ => 0))), (q4, .inl (g.2.1, 4, .inl (fun _ => 0))), (q5, .inl (g.2.1, 4, .inl (fun _ => 0))), (q6, .inl (g.2.1, 4, .inl (fun _ => 0))), (q7, .inr (1, [.ref q8, .ref q9, .ref q10, .ref q11, .int 0])), (q8, .inl (g.2.1, 8, .inl (fun _ => 0))), (q9, .inl (g.2.1, 8, .inl (fun _ => 0))), (q10, .inl (g.2.1, 8, .inl (fun _ => 0))), (q11, .inl (g.2.2.1, 8, .inl (fun _ => 0))), (q12, .inl (g.2.2.2, 4, .inr (.inr (.inr (.inr (va_up (va_up (va_up (va_up (fun _ => none) 0 (some q13)) 1 (some q15)) 2 (some q17)) 3 (some q19))))))), (q13, .inr (2, [.ref q14, .int 0, .int (-1)])), (q14, .inl (g.2.1, 60, .inl (fun _ => 0))), (q15, .inr (2, [.ref q16, .int 0, .int (-1)])), (q16, .inl (g.2.1, 60, .inl (fun _ => 0))), (q17, .inr (2, [.ref q18, .int 0, .int (-1)])), (q18, .inl (g.2.1, 60, .inl (fun _ => 0))), (q19, .inr (2, [.ref q20, .int 0, .int (-1)])), (q20, .inl (g.2.1, 60, .inl (fun _ => 0)))]) := by
  refine z_metn (own := RX4) (cc := cX4_init) (maxL := 2) (by decide +kernel) rfl rfl (Nat.le_of_ble_eq_true rfl) rfl ?_
  intro P S M X F
  refine z_Le (L' := [(0, .ref h_)]) rfl ?_
  have m_oi : Cond.methodLink RX4 3 objectInit ∈ wsX4_init := by decide +kernel
  have m_oj : Cond.instanceMethod objectInit ∈ wsX4_init := by decide +kernel
  have m_ok : Cond.code objectInit ⟨#[0xb1]⟩ 1 none ∈ wsX4_init := by decide +kernel
  have m_cl9 : Cond.classLink RX4 9 RX0 ∈ wsX4_init := by decide +kernel
  have m_inX0 : Cond.instantiable RX0 8 ∈ wsX4_init := by decide +kernel
  have m_itX0 : Cond.initialized RX0 ∈ wsX4_init := by decide +kernel
  have i_RX0 : ∀ w ∈ wsX00, w ∈ wsX4_init := by decide +kernel
  have m_imX0_init : Cond.instanceMethod yX0_init ∈ wsX4_init := by decide +kernel
  have m_nl11 : (RX4, 11, yX0_init, RX4) ∈ zNl3 := by decide +kernel
  have i_RX4 : ∀ w ∈ wsX40, w ∈ wsX4_init := by decide +kernel
  have f_12 : Cond.fieldLink RX4 12 (TX4 0).1 (TX4 0).2.1 (TX4 0).2.2.1 ∈ wsX4_init := by decide +kernel
  have m_cl18 : Cond.classLink RX4 18 RX1 ∈ wsX4_init := by decide +kernel
  have m_inX1 : Cond.instantiable RX1 5 ∈ wsX4_init := by decide +kernel
  have m_itX1 : Cond.initialized RX1 ∈ wsX4_init := by decide +kernel
  have i_RX1 : ∀ w ∈ wsX10, w ∈ wsX4_init := by decide +kernel
  have m_imX1_init : Cond.instanceMethod yX1_init ∈ wsX4_init := by decide +kernel
  have m_nl20 : (RX4, 20, yX1_init, RX4) ∈ zNl3 := by decide +kernel
  have f_21 : Cond.fieldLink RX4 21 (TX4 1).1 (TX4 1).2.1 (TX4 1).2.2.1 ∈ wsX4_init := by decide +kernel
  have m_cl25 : Cond.classLink RX4 25 RX2 ∈ wsX4_init := by decide +kernel
  have f_27 : Cond.fieldLink RX4 27 (TX4 2).1 (TX4 2).2.1 (TX4 2).2.2.1 ∈ wsX4_init := by decide +kernel
  have m_inX2 : Cond.instantiable RX2 3 ∈ wsX4_init := by decide +kernel
  have m_itX2 : Cond.initialized RX2 ∈ wsX4_init := by decide +kernel
  have i_RX2 : ∀ w ∈ wsX20, w ∈ wsX4_init := by decide +kernel
  have m_imX2_init : Cond.instanceMethod yX2_init ∈ wsX4_init := by decide +kernel
  have m_nl31 : (RX4, 31, yX2_init, RX4) ∈ zNl3 := by decide +kernel
  refine z_aload_n X dX4_init_0 rfl 0 rfl ?_
  refine z_objInit X m_oi m_oj m_ok (Nat.le_of_ble_eq_true rfl) (Nat.le_of_ble_eq_true rfl) (by decide) dX4_init_1 ?_
  refine z_aload_n X dX4_init_4 rfl 0 rfl ?_
  refine z_newN X i_RX0 tyX0 tyX0_ok m_cl9 m_inX0 m_itX0 (ci := 0) rfl (fs := [.null, .null, .null, .null, .null, .int 0, .int 0, .int 0]) (fun j hj => by rcases (by omega : j = 0 ∨ j = 1 ∨ j = 2 ∨ j = 3 ∨ j = 4 ∨ j = 5 ∨ j = 6 ∨ j = 7) with rfl | rfl | rfl | rfl | rfl | rfl | rfl | rfl <;> rfl) (Nat.le_of_ble_eq_true rfl) (Nat.le_of_ble_eq_true rfl) dX4_init_5 (fun q1 => ?_)
  refine z_ws (ws' := [(h_, .inr (3, [.null, .null, .null, .int 0, .int 0])), (q1, .inr (0, [.null, .null, .null, .null, .null, .int 0, .int 0, .int 0]))]) rfl ?_
  have X := zX.mv (c' := (1, 8)) X
  have F := zFn.mv (c' := (1, 8)) F
  refine z_dup X dX4_init_8 rfl ?_
  refine z_callIN X (c_X0_init l g q1) gX4_init_X0_init_n11 m_itX0 m_nl11 m_imX0_init rfl rfl ⟨rfl, rfl⟩ (n := 0) (by decide +kernel) ⟨Nat.le_of_ble_eq_true rfl, Nat.le_of_ble_eq_true rfl⟩ ⟨Nat.le_of_ble_eq_true rfl, Nat.le_of_ble_eq_true rfl⟩ F.2.2.1 [1] [0] (by decide) rfl (wr := [(h_, .inr (3, [.null, .null, .null, .int 0, .int 0]))]) rfl (by decide) (by decide) (As := []) rfl rfl (Nat.le_of_ble_eq_true rfl) dX4_init_9 (fun wo_ hw_ => ?_)
  obtain ⟨q2, q3, q4, q5, q6, rfl⟩ := hw_
  refine z_ws (ws' := [(h_, .inr (3, [.null, .null, .null, .int 0, .int 0])), (q1, .inr (0, [.ref q2, .ref q3, .ref q4, .ref q5, .ref q6, .int 0, .int 0, .int 0])), (q2, .inl (g.2.1, 6, .inl (fun _ => 0))), (q3, .inl (g.2.1, 4, .inl (fun _ => 0))), (q4, .inl (g.2.1, 4, .inl (fun _ => 0))), (q5, .inl (g.2.1, 4, .inl (fun _ => 0))), (q6, .inl (g.2.1, 4, .inl (fun _ => 0)))]) rfl ?_
  have X := zX.mv (c' := (6, 30)) X
  have F := zFn.mv (c' := (6, 30)) F
  refine z_putF (ws' := [(h_, .inr (3, [.ref q1, .null, .null, .int 0, .int 0])), (q1, .inr (0, [.ref q2, .ref q3, .ref q4, .ref q5, .ref q6, .int 0, .int 0, .int 0])), (q2, .inl (g.2.1, 6, .inl (fun _ => 0))), (q3, .inl (g.2.1, 4, .inl (fun _ => 0))), (q4, .inl (g.2.1, 4, .inl (fun _ => 0))), (q5, .inl (g.2.1, 4, .inl (fun _ => 0))), (q6, .inl (g.2.1, 4, .inl (fun _ => 0)))]) (N := 5) X F.2.2.2 i_RX4 (ci := 3) rfl tyX4 tyX4_ok nmX4 0 rfl 0 (by decide) f_12 rfl rfl (ty := .object RX0) (by decide +kernel) rfl rfl (Nat.le_of_ble_eq_true rfl) dX4_init_12 rfl ?_
  refine z_aload_n X dX4_init_15 rfl 0 rfl ?_
  refine z_newN X i_RX1 tyX1 tyX1_ok m_cl18 m_inX1 m_itX1 (ci := 1) rfl (fs := [.null, .null, .null, .null, .int 0]) (fun j hj => by rcases (by omega : j = 0 ∨ j = 1 ∨ j = 2 ∨ j = 3 ∨ j = 4) with rfl | rfl | rfl | rfl | rfl <;> rfl) (Nat.le_of_ble_eq_true rfl) (Nat.le_of_ble_eq_true rfl) dX4_init_16 (fun q7 => ?_)
  refine z_ws (ws' := [(h_, .inr (3, [.ref q1, .null, .null, .int 0, .int 0])), (q1, .inr (0, [.ref q2, .ref q3, .ref q4, .ref q5, .ref q6, .int 0, .int 0, .int 0])), (q2, .inl (g.2.1, 6, .inl (fun _ => 0))), (q3, .inl (g.2.1, 4, .inl (fun _ => 0))), (q4, .inl (g.2.1, 4, .inl (fun _ => 0))), (q5, .inl (g.2.1, 4, .inl (fun _ => 0))), (q6, .inl (g.2.1, 4, .inl (fun _ => 0))), (q7, .inr (1, [.null, .null, .null, .null, .int 0]))]) rfl ?_
  have X := zX.mv (c' := (7, 35)) X
  have F := zFn.mv (c' := (7, 35)) F
  refine z_dup X dX4_init_19 rfl ?_
  refine z_callIN X (c_X1_init l g q7) gX4_init_X1_init_n20 m_itX1 m_nl20 m_imX1_init rfl rfl ⟨rfl, rfl⟩ (n := 0) (by decide +kernel) ⟨Nat.le_of_ble_eq_true rfl, Nat.le_of_ble_eq_true rfl⟩ ⟨Nat.le_of_ble_eq_true rfl, Nat.le_of_ble_eq_true rfl⟩ F.2.2.1 [7] [0, 1, 2, 3, 4, 5, 6] (by decide) rfl (wr := [(h_, .inr (3, [.ref q1, .null, .null, .int 0, .int 0])), (q1, .inr (0, [.ref q2, .ref q3, .ref q4, .ref q5, .ref q6, .int 0, .int 0, .int 0])), (q2, .inl (g.2.1, 6, .inl (fun _ => 0))), (q3, .inl (g.2.1, 4, .inl (fun _ => 0))), (q4, .inl (g.2.1, 4, .inl (fun _ => 0))), (q5, .inl (g.2.1, 4, .inl (fun _ => 0))), (q6, .inl (g.2.1, 4, .inl (fun _ => 0)))]) rfl (by decide) (by decide) (As := []) rfl rfl (Nat.le_of_ble_eq_true rfl) dX4_init_20 (fun wo_ hw_ => ?_)
  obtain ⟨q8, q9, q10, q11, rfl⟩ := hw_
  refine z_ws (ws' := [(h_, .inr (3, [.ref q1, .null, .null, .int 0, .int 0])), (q1, .inr (0, [.ref q2, .ref q3, .ref q4, .ref q5, .ref q6, .int 0, .int 0, .int 0])), (q2, .inl (g.2.1, 6, .inl (fun _ => 0))), (q3, .inl (g.2.1, 4, .inl (fun _ => 0))), (q4, .inl (g.2.1, 4, .inl (fun _ => 0))), (q5, .inl (g.2.1, 4, .inl (fun _ => 0))), (q6, .inl (g.2.1, 4, .inl (fun _ => 0))), (q7, .inr (1, [.ref q8, .ref q9, .ref q10, .ref q11, .int 0])), (q8, .inl (g.2.1, 8, .inl (fun _ => 0))), (q9, .inl (g.2.1, 8, .inl (fun _ => 0))), (q10, .inl (g.2.1, 8, .inl (fun _ => 0))), (q11, .inl (g.2.2.1, 8, .inl (fun _ => 0)))]) rfl ?_
  have X := zX.mv (c' := (11, 67)) X
  have F := zFn.mv (c' := (11, 67)) F
  refine z_putF (ws' := [(h_, .inr (3, [.ref q1, .ref q7, .null, .int 0, .int 0])), (q1, .inr (0, [.ref q2, .ref q3, .ref q4, .ref q5, .ref q6, .int 0, .int 0, .int 0])), (q2, .inl (g.2.1, 6, .inl (fun _ => 0))), (q3, .inl (g.2.1, 4, .inl (fun _ => 0))), (q4, .inl (g.2.1, 4, .inl (fun _ => 0))), (q5, .inl (g.2.1, 4, .inl (fun _ => 0))), (q6, .inl (g.2.1, 4, .inl (fun _ => 0))), (q7, .inr (1, [.ref q8, .ref q9, .ref q10, .ref q11, .int 0])), (q8, .inl (g.2.1, 8, .inl (fun _ => 0))), (q9, .inl (g.2.1, 8, .inl (fun _ => 0))), (q10, .inl (g.2.1, 8, .inl (fun _ => 0))), (q11, .inl (g.2.2.1, 8, .inl (fun _ => 0)))]) (N := 5) X F.2.2.2 i_RX4 (ci := 3) rfl tyX4 tyX4_ok nmX4 0 rfl 1 (by decide) f_21 rfl rfl (ty := .object RX1) (by decide +kernel) rfl rfl (Nat.le_of_ble_eq_true rfl) dX4_init_23 rfl ?_
  refine z_aload_n X dX4_init_26 rfl 0 rfl ?_
  refine z_iconst (v := nI 4) X dX4_init_27 (by decide) ?_
  refine z_newq (N := 4) X m_cl25 F.2.2.1.2 (Nat.le_of_ble_eq_true rfl) (Nat.le_of_ble_eq_true rfl) (Nat.le_of_ble_eq_true rfl) dX4_init_28 (fun q12 => ?_)
  refine z_ws (ws' := [(h_, .inr (3, [.ref q1, .ref q7, .null, .int 0, .int 0])), (q1, .inr (0, [.ref q2, .ref q3, .ref q4, .ref q5, .ref q6, .int 0, .int 0, .int 0])), (q2, .inl (g.2.1, 6, .inl (fun _ => 0))), (q3, .inl (g.2.1, 4, .inl (fun _ => 0))), (q4, .inl (g.2.1, 4, .inl (fun _ => 0))), (q5, .inl (g.2.1, 4, .inl (fun _ => 0))), (q6, .inl (g.2.1, 4, .inl (fun _ => 0))), (q7, .inr (1, [.ref q8, .ref q9, .ref q10, .ref q11, .int 0])), (q8, .inl (g.2.1, 8, .inl (fun _ => 0))), (q9, .inl (g.2.1, 8, .inl (fun _ => 0))), (q10, .inl (g.2.1, 8, .inl (fun _ => 0))), (q11, .inl (g.2.2.1, 8, .inl (fun _ => 0))), (q12, .inl (g.2.2.2, 4, .inr (.inr (.inr (.inr (fun _ => none))))))]) rfl ?_
  have X := zX.mv (c' := (12, 71)) X
  have F := zFn.mv (c' := (12, 71)) F
  refine z_putF (ws' := [(h_, .inr (3, [.ref q1, .ref q7, .ref q12, .int 0, .int 0])), (q1, .inr (0, [.ref q2, .ref q3, .ref q4, .ref q5, .ref q6, .int 0, .int 0, .int 0])), (q2, .inl (g.2.1, 6, .inl (fun _ => 0))), (q3, .inl (g.2.1, 4, .inl (fun _ => 0))), (q4, .inl (g.2.1, 4, .inl (fun _ => 0))), (q5, .inl (g.2.1, 4, .inl (fun _ => 0))), (q6, .inl (g.2.1, 4, .inl (fun _ => 0))), (q7, .inr (1, [.ref q8, .ref q9, .ref q10, .ref q11, .int 0])), (q8, .inl (g.2.1, 8, .inl (fun _ => 0))), (q9, .inl (g.2.1, 8, .inl (fun _ => 0))), (q10, .inl (g.2.1, 8, .inl (fun _ => 0))), (q11, .inl (g.2.2.1, 8, .inl (fun _ => 0))), (q12, .inl (g.2.2.2, 4, .inr (.inr (.inr (.inr (fun _ => none))))))]) (N := 5) X F.2.2.2 i_RX4 (ci := 3) rfl tyX4 tyX4_ok nmX4 0 rfl 2 (by decide) f_27 rfl rfl (ty := .array (.object RX2)) (by decide +kernel) rfl rfl (Nat.le_of_ble_eq_true rfl) dX4_init_31 rfl ?_
  refine z_iconst (v := nI 0) X dX4_init_34 (by decide) ?_
  refine z_istore_n (L' := [(1, .int (nI 0)), (0, .ref h_)]) X dX4_init_35 rfl (by decide) rfl ?_
  refine z_iload_n X dX4_init_36 rfl 0 rfl ?_
  refine z_aload_n X dX4_init_37 rfl 1 rfl ?_
  refine z_get (v := .ref q12) (N := 5) X i_RX4 (ci := 3) rfl 0 rfl 2 (by decide) f_27 rfl dX4_init_38 ?_
  refine z_alenQ X 12 rfl dX4_init_41 ?_
  refine z_icmp_geN (tgt := 64) X dX4_init_42 (by decide) (by decide) (by decide) (fun h => absurd h (by decide)) (fun _ => ?_)
  refine z_aload_n X dX4_init_45 rfl 1 rfl ?_
  refine z_get (v := .ref q12) (N := 5) X i_RX4 (ci := 3) rfl 0 rfl 2 (by decide) f_27 rfl dX4_init_46 ?_
  refine z_iload_n X dX4_init_49 rfl 0 rfl ?_
  refine z_newN X i_RX2 tyX2 tyX2_ok m_cl25 m_inX2 m_itX2 (ci := 2) rfl (fs := [.null, .int 0, .int 0]) (fun j hj => by rcases (by omega : j = 0 ∨ j = 1 ∨ j = 2) with rfl | rfl | rfl <;> rfl) (Nat.le_of_ble_eq_true rfl) (Nat.le_of_ble_eq_true rfl) dX4_init_50 (fun q13 => ?_)
  refine z_ws (ws' := [(h_, .inr (3, [.ref q1, .ref q7, .ref q12, .int 0, .int 0])), (q1, .inr (0, [.ref q2, .ref q3, .ref q4, .ref q5, .ref q6, .int 0, .int 0, .int 0])), (q2, .inl (g.2.1, 6, .inl (fun _ => 0))), (q3, .inl (g.2.1, 4, .inl (fun _ => 0))), (q4, .inl (g.2.1, 4, .inl (fun _ => 0))), (q5, .inl (g.2.1, 4, .inl (fun _ => 0))), (q6, .inl (g.2.1, 4, .inl (fun _ => 0))), (q7, .inr (1, [.ref q8, .ref q9, .ref q10, .ref q11, .int 0])), (q8, .inl (g.2.1, 8, .inl (fun _ => 0))), (q9, .inl (g.2.1, 8, .inl (fun _ => 0))), (q10, .inl (g.2.1, 8, .inl (fun _ => 0))), (q11, .inl (g.2.2.1, 8, .inl (fun _ => 0))), (q12, .inl (g.2.2.2, 4, .inr (.inr (.inr (.inr (fun _ => none)))))), (q13, .inr (2, [.null, .int 0, .int 0]))]) rfl ?_
  have X := zX.mv (c' := (13, 74)) X
  have F := zFn.mv (c' := (13, 74)) F
  refine z_dup X dX4_init_53 rfl ?_
  refine z_callIN X (c_X2_init l g q13) gX4_init_X2_init_n31 m_itX2 m_nl31 m_imX2_init rfl rfl ⟨rfl, rfl⟩ (n := 0) (by decide +kernel) ⟨Nat.le_of_ble_eq_true rfl, Nat.le_of_ble_eq_true rfl⟩ ⟨Nat.le_of_ble_eq_true rfl, Nat.le_of_ble_eq_true rfl⟩ F.2.2.1 [13] [0, 1, 2, 3, 4, 5, 6, 7, 8, 9, 10, 11, 12] (by decide) rfl (wr := [(h_, .inr (3, [.ref q1, .ref q7, .ref q12, .int 0, .int 0])), (q1, .inr (0, [.ref q2, .ref q3, .ref q4, .ref q5, .ref q6, .int 0, .int 0, .int 0])), (q2, .inl (g.2.1, 6, .inl (fun _ => 0))), (q3, .inl (g.2.1, 4, .inl (fun _ => 0))), (q4, .inl (g.2.1, 4, .inl (fun _ => 0))), (q5, .inl (g.2.1, 4, .inl (fun _ => 0))), (q6, .inl (g.2.1, 4, .inl (fun _ => 0))), (q7, .inr (1, [.ref q8, .ref q9, .ref q10, .ref q11, .int 0])), (q8, .inl (g.2.1, 8, .inl (fun _ => 0))), (q9, .inl (g.2.1, 8, .inl (fun _ => 0))), (q10, .inl (g.2.1, 8, .inl (fun _ => 0))), (q11, .inl (g.2.2.1, 8, .inl (fun _ => 0))), (q12, .inl (g.2.2.2, 4, .inr (.inr (.inr (.inr (fun _ => none))))))]) rfl (by decide) (by decide) (As := []) rfl rfl (Nat.le_of_ble_eq_true rfl) dX4_init_54 (fun wo_ hw_ => ?_)
  obtain ⟨q14, rfl⟩ := hw_
  refine z_ws (ws' := [(h_, .inr (3, [.ref q1, .ref q7, .ref q12, .int 0, .int 0])), (q1, .inr (0, [.ref q2, .ref q3, .ref q4, .ref q5, .ref q6, .int 0, .int 0, .int 0])), (q2, .inl (g.2.1, 6, .inl (fun _ => 0))), (q3, .inl (g.2.1, 4, .inl (fun _ => 0))), (q4, .inl (g.2.1, 4, .inl (fun _ => 0))), (q5, .inl (g.2.1, 4, .inl (fun _ => 0))), (q6, .inl (g.2.1, 4, .inl (fun _ => 0))), (q7, .inr (1, [.ref q8, .ref q9, .ref q10, .ref q11, .int 0])), (q8, .inl (g.2.1, 8, .inl (fun _ => 0))), (q9, .inl (g.2.1, 8, .inl (fun _ => 0))), (q10, .inl (g.2.1, 8, .inl (fun _ => 0))), (q11, .inl (g.2.2.1, 8, .inl (fun _ => 0))), (q12, .inl (g.2.2.2, 4, .inr (.inr (.inr (.inr (fun _ => none)))))), (q13, .inr (2, [.ref q14, .int 0, .int (-1)])), (q14, .inl (g.2.1, 60, .inl (fun _ => 0)))]) rfl ?_
  have X := zX.mv (c' := (14, 134)) X
  have F := zFn.mv (c' := (14, 134)) F
  refine z_astqN (ws' := [(h_, .inr (3, [.ref q1, .ref q7, .ref q12, .int 0, .int 0])), (q1, .inr (0, [.ref q2, .ref q3, .ref q4, .ref q5, .ref q6, .int 0, .int 0, .int 0])), (q2, .inl (g.2.1, 6, .inl (fun _ => 0))), (q3, .inl (g.2.1, 4, .inl (fun _ => 0))), (q4, .inl (g.2.1, 4, .inl (fun _ => 0))), (q5, .inl (g.2.1, 4, .inl (fun _ => 0))), (q6, .inl (g.2.1, 4, .inl (fun _ => 0))), (q7, .inr (1, [.ref q8, .ref q9, .ref q10, .ref q11, .int 0])), (q8, .inl (g.2.1, 8, .inl (fun _ => 0))), (q9, .inl (g.2.1, 8, .inl (fun _ => 0))), (q10, .inl (g.2.1, 8, .inl (fun _ => 0))), (q11, .inl (g.2.2.1, 8, .inl (fun _ => 0))), (q12, .inl (g.2.2.2, 4, .inr (.inr (.inr (.inr (va_up (fun _ => none) 0 (some q13))))))), (q13, .inr (2, [.ref q14, .int 0, .int (-1)])), (q14, .inl (g.2.1, 60, .inl (fun _ => 0)))]) X 12 13 rfl rfl (ci := 2) rfl rfl (by decide) (by decide) dX4_init_57 rfl ?_
  refine z_iinc (v := nI 1) (L' := [(1, .int (nI 1)), (0, .ref h_)]) X dX4_init_58 0 rfl (nI_inc 0 1) (by decide) rfl ?_
  refine z_goto (tgt := 36) X dX4_init_61 (by decide) ?_
  refine z_iload_n X dX4_init_36 rfl 0 rfl ?_
  refine z_aload_n X dX4_init_37 rfl 1 rfl ?_
  refine z_get (v := .ref q12) (N := 5) X i_RX4 (ci := 3) rfl 0 rfl 2 (by decide) f_27 rfl dX4_init_38 ?_
  refine z_alenQ X 12 rfl dX4_init_41 ?_
  refine z_icmp_geN (tgt := 64) X dX4_init_42 (by decide) (by decide) (by decide) (fun h => absurd h (by decide)) (fun _ => ?_)
  refine z_aload_n X dX4_init_45 rfl 1 rfl ?_
  refine z_get (v := .ref q12) (N := 5) X i_RX4 (ci := 3) rfl 0 rfl 2 (by decide) f_27 rfl dX4_init_46 ?_
  refine z_iload_n X dX4_init_49 rfl 0 rfl ?_
  refine z_newN X i_RX2 tyX2 tyX2_ok m_cl25 m_inX2 m_itX2 (ci := 2) rfl (fs := [.null, .int 0, .int 0]) (fun j hj => by rcases (by omega : j = 0 ∨ j = 1 ∨ j = 2) with rfl | rfl | rfl <;> rfl) (Nat.le_of_ble_eq_true rfl) (Nat.le_of_ble_eq_true rfl) dX4_init_50 (fun q15 => ?_)
  refine z_ws (ws' := [(h_, .inr (3, [.ref q1, .ref q7, .ref q12, .int 0, .int 0])), (q1, .inr (0, [.ref q2, .ref q3, .ref q4, .ref q5, .ref q6, .int 0, .int 0, .int 0])), (q2, .inl (g.2.1, 6, .inl (fun _ => 0))), (q3, .inl (g.2.1, 4, .inl (fun _ => 0))), (q4, .inl (g.2.1, 4, .inl (fun _ => 0))), (q5, .inl (g.2.1, 4, .inl (fun _ => 0))), (q6, .inl (g.2.1, 4, .inl (fun _ => 0))), (q7, .inr (1, [.ref q8, .ref q9, .ref q10, .ref q11, .int 0])), (q8, .inl (g.2.1, 8, .inl (fun _ => 0))), (q9, .inl (g.2.1, 8, .inl (fun _ => 0))), (q10, .inl (g.2.1, 8, .inl (fun _ => 0))), (q11, .inl (g.2.2.1, 8, .inl (fun _ => 0))), (q12, .inl (g.2.2.2, 4, .inr (.inr (.inr (.inr (va_up (fun _ => none) 0 (some q13))))))), (q13, .inr (2, [.ref q14, .int 0, .int (-1)])), (q14, .inl (g.2.1, 60, .inl (fun _ => 0))), (q15, .inr (2, [.null, .int 0, .int 0]))]) rfl ?_
  have X := zX.mv (c' := (15, 137)) X
  have F := zFn.mv (c' := (15, 137)) F
  refine z_dup X dX4_init_53 rfl ?_
  refine z_callIN X (c_X2_init l g q15) gX4_init_X2_init_n31 m_itX2 m_nl31 m_imX2_init rfl rfl ⟨rfl, rfl⟩ (n := 0) (by decide +kernel) ⟨Nat.le_of_ble_eq_true rfl, Nat.le_of_ble_eq_true rfl⟩ ⟨Nat.le_of_ble_eq_true rfl, Nat.le_of_ble_eq_true rfl⟩ F.2.2.1 [15] [0, 1, 2, 3, 4, 5, 6, 7, 8, 9, 10, 11, 12, 13, 14] (by decide) rfl (wr := [(h_, .inr (3, [.ref q1, .ref q7, .ref q12, .int 0, .int 0])), (q1, .inr (0, [.ref q2, .ref q3, .ref q4, .ref q5, .ref q6, .int 0, .int 0, .int 0])), (q2, .inl (g.2.1, 6, .inl (fun _ => 0))), (q3, .inl (g.2.1, 4, .inl (fun _ => 0))), (q4, .inl (g.2.1, 4, .inl (fun _ => 0))), (q5, .inl (g.2.1, 4, .inl (fun _ => 0))), (q6, .inl (g.2.1, 4, .inl (fun _ => 0))), (q7, .inr (1, [.ref q8, .ref q9, .ref q10, .ref q11, .int 0])), (q8, .inl (g.2.1, 8, .inl (fun _ => 0))), (q9, .inl (g.2.1, 8, .inl (fun _ => 0))), (q10, .inl (g.2.1, 8, .inl (fun _ => 0))), (q11, .inl (g.2.2.1, 8, .inl (fun _ => 0))), (q12, .inl (g.2.2.2, 4, .inr (.inr (.inr (.inr (va_up (fun _ => none) 0 (some q13))))))), (q13, .inr (2, [.ref q14, .int 0, .int (-1)])), (q14, .inl (g.2.1, 60, .inl (fun _ => 0)))]) rfl (by decide) (by decide) (As := []) rfl rfl (Nat.le_of_ble_eq_true rfl) dX4_init_54 (fun wo_ hw_ => ?_)
  obtain ⟨q16, rfl⟩ := hw_
  refine z_ws (ws' := [(h_, .inr (3, [.ref q1, .ref q7, .ref q12, .int 0, .int 0])), (q1, .inr (0, [.ref q2, .ref q3, .ref q4, .ref q5, .ref q6, .int 0, .int 0, .int 0])), (q2, .inl (g.2.1, 6, .inl (fun _ => 0))), (q3, .inl (g.2.1, 4, .inl (fun _ => 0))), (q4, .inl (g.2.1, 4, .inl (fun _ => 0))), (q5, .inl (g.2.1, 4, .inl (fun _ => 0))), (q6, .inl (g.2.1, 4, .inl (fun _ => 0))), (q7, .inr (1, [.ref q8, .ref q9, .ref q10, .ref q11, .int 0])), (q8, .inl (g.2.1, 8, .inl (fun _ => 0))), (q9, .inl (g.2.1, 8, .inl (fun _ => 0))), (q10, .inl (g.2.1, 8, .inl (fun _ => 0))), (q11, .inl (g.2.2.1, 8, .inl (fun _ => 0))), (q12, .inl (g.2.2.2, 4, .inr (.inr (.inr (.inr (va_up (fun _ => none) 0 (some q13))))))), (q13, .inr (2, [.ref q14, .int 0, .int (-1)])), (q14, .inl (g.2.1, 60, .inl (fun _ => 0))), (q15, .inr (2, [.ref q16, .int 0, .int (-1)])), (q16, .inl (g.2.1, 60, .inl (fun _ => 0)))]) rfl ?_
  have X := zX.mv (c' := (16, 197)) X
  have F := zFn.mv (c' := (16, 197)) F
  refine z_astqN (ws' := [(h_, .inr (3, [.ref q1, .ref q7, .ref q12, .int 0, .int 0])), (q1, .inr (0, [.ref q2, .ref q3, .ref q4, .ref q5, .ref q6, .int 0, .int 0, .int 0])), (q2, .inl (g.2.1, 6, .inl (fun _ => 0))), (q3, .inl (g.2.1, 4, .inl (fun _ => 0))), (q4, .inl (g.2.1, 4, .inl (fun _ => 0))), (q5, .inl (g.2.1, 4, .inl (fun _ => 0))), (q6, .inl (g.2.1, 4, .inl (fun _ => 0))), (q7, .inr (1, [.ref q8, .ref q9, .ref q10, .ref q11, .int 0])), (q8, .inl (g.2.1, 8, .inl (fun _ => 0))), (q9, .inl (g.2.1, 8, .inl (fun _ => 0))), (q10, .inl (g.2.1, 8, .inl (fun _ => 0))), (q11, .inl (g.2.2.1, 8, .inl (fun _ => 0))), (q12, .inl (g.2.2.2, 4, .inr (.inr (.inr (.inr (va_up (va_up (fun _ => none) 0 (some q13)) 1 (some q15))))))), (q13, .inr (2, [.ref q14, .int 0, .int (-1)])), (q14, .inl (g.2.1, 60, .inl (fun _ => 0))), (q15, .inr (2, [.ref q16, .int 0, .int (-1)])), (q16, .inl (g.2.1, 60, .inl (fun _ => 0)))]) X 12 15 rfl rfl (ci := 2) rfl rfl (by decide) (by decide) dX4_init_57 rfl ?_
  refine z_iinc (v := nI 2) (L' := [(1, .int (nI 2)), (0, .ref h_)]) X dX4_init_58 0 rfl (nI_inc 1 1) (by decide) rfl ?_
  refine z_goto (tgt := 36) X dX4_init_61 (by decide) ?_
  refine z_iload_n X dX4_init_36 rfl 0 rfl ?_
  refine z_aload_n X dX4_init_37 rfl 1 rfl ?_
  refine z_get (v := .ref q12) (N := 5) X i_RX4 (ci := 3) rfl 0 rfl 2 (by decide) f_27 rfl dX4_init_38 ?_
  refine z_alenQ X 12 rfl dX4_init_41 ?_
  refine z_icmp_geN (tgt := 64) X dX4_init_42 (by decide) (by decide) (by decide) (fun h => absurd h (by decide)) (fun _ => ?_)
  refine z_aload_n X dX4_init_45 rfl 1 rfl ?_
  refine z_get (v := .ref q12) (N := 5) X i_RX4 (ci := 3) rfl 0 rfl 2 (by decide) f_27 rfl dX4_init_46 ?_
  refine z_iload_n X dX4_init_49 rfl 0 rfl ?_
  refine z_newN X i_RX2 tyX2 tyX2_ok m_cl25 m_inX2 m_itX2 (ci := 2) rfl (fs := [.null, .int 0, .int 0]) (fun j hj => by rcases (by omega : j = 0 ∨ j = 1 ∨ j = 2) with rfl | rfl | rfl <;> rfl) (Nat.le_of_ble_eq_true rfl) (Nat.le_of_ble_eq_true rfl) dX4_init_50 (fun q17 => ?_)
  refine z_ws (ws' := [(h_, .inr (3, [.ref q1, .ref q7, .ref q12, .int 0, .int 0])), (q1, .inr (0, [.ref q2, .ref q3, .ref q4, .ref q5, .ref q6, .int 0, .int 0, .int 0])), (q2, .inl (g.2.1, 6, .inl (fun _ => 0))), (q3, .inl (g.2.1, 4, .inl (fun _ => 0))), (q4, .inl (g.2.1, 4, .inl (fun _ => 0))), (q5, .inl (g.2.1, 4, .inl (fun _ => 0))), (q6, .inl (g.2.1, 4, .inl (fun _ => 0))), (q7, .inr (1, [.ref q8, .ref q9, .ref q10, .ref q11, .int 0])), (q8, .inl (g.2.1, 8, .inl (fun _ => 0))), (q9, .inl (g.2.1, 8, .inl (fun _ => 0))), (q10, .inl (g.2.1, 8, .inl (fun _ => 0))), (q11, .inl (g.2.2.1, 8, .inl (fun _ => 0))), (q12, .inl (g.2.2.2, 4, .inr (.inr (.inr (.inr (va_up (va_up (fun _ => none) 0 (some q13)) 1 (some q15))))))), (q13, .inr (2, [.ref q14, .int 0, .int (-1)])), (q14, .inl (g.2.1, 60, .inl (fun _ => 0))), (q15, .inr (2, [.ref q16, .int 0, .int (-1)])), (q16, .inl (g.2.1, 60, .inl (fun _ => 0))), (q17, .inr (2, [.null, .int 0, .int 0]))]) rfl ?_
  have X := zX.mv (c' := (17, 200)) X
  have F := zFn.mv (c' := (17, 200)) F
  refine z_dup X dX4_init_53 rfl ?_
  refine z_callIN X (c_X2_init l g q17) gX4_init_X2_init_n31 m_itX2 m_nl31 m_imX2_init rfl rfl ⟨rfl, rfl⟩ (n := 0) (by decide +kernel) ⟨Nat.le_of_ble_eq_true rfl, Nat.le_of_ble_eq_true rfl⟩ ⟨Nat.le_of_ble_eq_true rfl, Nat.le_of_ble_eq_true rfl⟩ F.2.2.1 [17] [0, 1, 2, 3, 4, 5, 6, 7, 8, 9, 10, 11, 12, 13, 14, 15, 16] (by decide) rfl (wr := [(h_, .inr (3, [.ref q1, .ref q7, .ref q12, .int 0, .int 0])), (q1, .inr (0, [.ref q2, .ref q3, .ref q4, .ref q5, .ref q6, .int 0, .int 0, .int 0])), (q2, .inl (g.2.1, 6, .inl (fun _ => 0))), (q3, .inl (g.2.1, 4, .inl (fun _ => 0))), (q4, .inl (g.2.1, 4, .inl (fun _ => 0))), (q5, .inl (g.2.1, 4, .inl (fun _ => 0))), (q6, .inl (g.2.1, 4, .inl (fun _ => 0))), (q7, .inr (1, [.ref q8, .ref q9, .ref q10, .ref q11, .int 0])), (q8, .inl (g.2.1, 8, .inl (fun _ => 0))), (q9, .inl (g.2.1, 8, .inl (fun _ => 0))), (q10, .inl (g.2.1, 8, .inl (fun _ => 0))), (q11, .inl (g.2.2.1, 8, .inl (fun _ => 0))), (q12, .inl (g.2.2.2, 4, .inr (.inr (.inr (.inr (va_up (va_up (fun _ => none) 0 (some q13)) 1 (some q15))))))), (q13, .inr (2, [.ref q14, .int 0, .int (-1)])), (q14, .inl (g.2.1, 60, .inl (fun _ => 0))), (q15, .inr (2, [.ref q16, .int 0, .int (-1)])), (q16, .inl (g.2.1, 60, .inl (fun _ => 0)))]) rfl (by decide) (by decide) (As := []) rfl rfl (Nat.le_of_ble_eq_true rfl) dX4_init_54 (fun wo_ hw_ => ?_)
  obtain ⟨q18, rfl⟩ := hw_
  refine z_ws (ws' := [(h_, .inr (3, [.ref q1, .ref q7, .ref q12, .int 0, .int 0])), (q1, .inr (0, [.ref q2, .ref q3, .ref q4, .ref q5, .ref q6, .int 0, .int 0, .int 0])), (q2, .inl (g.2.1, 6, .inl (fun _ => 0))), (q3, .inl (g.2.1, 4, .inl (fun _ => 0))), (q4, .inl (g.2.1, 4, .inl (fun _ => 0))), (q5, .inl (g.2.1, 4, .inl (fun _ => 0))), (q6, .inl (g.2.1, 4, .inl (fun _ => 0))), (q7, .inr (1, [.ref q8, .ref q9, .ref q10, .ref q11, .int 0])), (q8, .inl (g.2.1, 8, .inl (fun _ => 0))), (q9, .inl (g.2.1, 8, .inl (fun _ => 0))), (q10, .inl (g.2.1, 8, .inl (fun _ => 0))), (q11, .inl (g.2.2.1, 8, .inl (fun _ => 0))), (q12, .inl (g.2.2.2, 4, .inr (.inr (.inr (.inr (va_up (va_up (fun _ => none) 0 (some q13)) 1 (some q15))))))), (q13, .inr (2, [.ref q14, .int 0, .int (-1)])), (q14, .inl (g.2.1, 60, .inl (fun _ => 0))), (q15, .inr (2, [.ref q16, .int 0, .int (-1)])), (q16, .inl (g.2.1, 60, .inl (fun _ => 0))), (q17, .inr (2, [.ref q18, .int 0, .int (-1)])), (q18, .inl (g.2.1, 60, .inl (fun _ => 0)))]) rfl ?_
  have X := zX.mv (c' := (18, 260)) X
  have F := zFn.mv (c' := (18, 260)) F
  refine z_astqN (ws' := [(h_, .inr (3, [.ref q1, .ref q7, .ref q12, .int 0, .int 0])), (q1, .inr (0, [.ref q2, .ref q3, .ref q4, .ref q5, .ref q6, .int 0, .int 0, .int 0])), (q2, .inl (g.2.1, 6, .inl (fun _ => 0))), (q3, .inl (g.2.1, 4, .inl (fun _ => 0))), (q4, .inl (g.2.1, 4, .inl (fun _ => 0))), (q5, .inl (g.2.1, 4, .inl (fun _ => 0))), (q6, .inl (g.2.1, 4, .inl (fun _ => 0))), (q7, .inr (1, [.ref q8, .ref q9, .ref q10, .ref q11, .int 0])), (q8, .inl (g.2.1, 8, .inl (fun _ => 0))), (q9, .inl (g.2.1, 8, .inl (fun _ => 0))), (q10, .inl (g.2.1, 8, .inl (fun _ => 0))), (q11, .inl (g.2.2.1, 8, .inl (fun _ => 0))), (q12, .inl (g.2.2.2, 4, .inr (.inr (.inr (.inr (va_up (va_up (va_up (fun _ => none) 0 (some q13)) 1 (some q15)) 2 (some q17))))))), (q13, .inr (2, [.ref q14, .int 0, .int (-1)])), (q14, .inl (g.2.1, 60, .inl (fun _ => 0))), (q15, .inr (2, [.ref q16, .int 0, .int (-1)])), (q16, .inl (g.2.1, 60, .inl (fun _ => 0))), (q17, .inr (2, [.ref q18, .int 0, .int (-1)])), (q18, .inl (g.2.1, 60, .inl (fun _ => 0)))]) X 12 17 rfl rfl (ci := 2) rfl rfl (by decide) (by decide) dX4_init_57 rfl ?_
  refine z_iinc (v := nI 3) (L' := [(1, .int (nI 3)), (0, .ref h_)]) X dX4_init_58 0 rfl (nI_inc 2 1) (by decide) rfl ?_
  refine z_goto (tgt := 36) X dX4_init_61 (by decide) ?_
  refine z_iload_n X dX4_init_36 rfl 0 rfl ?_
  refine z_aload_n X dX4_init_37 rfl 1 rfl ?_
  refine z_get (v := .ref q12) (N := 5) X i_RX4 (ci := 3) rfl 0 rfl 2 (by decide) f_27 rfl dX4_init_38 ?_
  refine z_alenQ X 12 rfl dX4_init_41 ?_
  refine z_icmp_geN (tgt := 64) X dX4_init_42 (by decide) (by decide) (by decide) (fun h => absurd h (by decide)) (fun _ => ?_)
  refine z_aload_n X dX4_init_45 rfl 1 rfl ?_
  refine z_get (v := .ref q12) (N := 5) X i_RX4 (ci := 3) rfl 0 rfl 2 (by decide) f_27 rfl dX4_init_46 ?_
  refine z_iload_n X dX4_init_49 rfl 0 rfl ?_
  refine z_newN X i_RX2 tyX2 tyX2_ok m_cl25 m_inX2 m_itX2 (ci := 2) rfl (fs := [.null, .int 0, .int 0]) (fun j hj => by rcases (by omega : j = 0 ∨ j = 1 ∨ j = 2) with rfl | rfl | rfl <;> rfl) (Nat.le_of_ble_eq_true rfl) (Nat.le_of_ble_eq_true rfl) dX4_init_50 (fun q19 => ?_)
  refine z_ws (ws' := [(h_, .inr (3, [.ref q1, .ref q7, .ref q12, .int 0, .int 0])), (q1, .inr (0, [.ref q2, .ref q3, .ref q4, .ref q5, .ref q6, .int 0, .int 0, .int 0])), (q2, .inl (g.2.1, 6, .inl (fun _ => 0))), (q3, .inl (g.2.1, 4, .inl (fun _ => 0))), (q4, .inl (g.2.1, 4, .inl (fun _ => 0))), (q5, .inl (g.2.1, 4, .inl (fun _ => 0))), (q6, .inl (g.2.1, 4, .inl (fun _ => 0))), (q7, .inr (1, [.ref q8, .ref q9, .ref q10, .ref q11, .int 0])), (q8, .inl (g.2.1, 8, .inl (fun _ => 0))), (q9, .inl (g.2.1, 8, .inl (fun _ => 0))), (q10, .inl (g.2.1, 8, .inl (fun _ => 0))), (q11, .inl (g.2.2.1, 8, .inl (fun _ => 0))), (q12, .inl (g.2.2.2, 4, .inr (.inr (.inr (.inr (va_up (va_up (va_up (fun _ => none) 0 (some q13)) 1 (some q15)) 2 (some q17))))))), (q13, .inr (2, [.ref q14, .int 0, .int (-1)])), (q14, .inl (g.2.1, 60, .inl (fun _ => 0))), (q15, .inr (2, [.ref q16, .int 0, .int (-1)])), (q16, .inl (g.2.1, 60, .inl (fun _ => 0))), (q17, .inr (2, [.ref q18, .int 0, .int (-1)])), (q18, .inl (g.2.1, 60, .inl (fun _ => 0))), (q19, .inr (2, [.null, .int 0, .int 0]))]) rfl ?_
  have X := zX.mv (c' := (19, 263)) X
  have F := zFn.mv (c' := (19, 263)) F
  refine z_dup X dX4_init_53 rfl ?_
  refine z_callIN X (c_X2_init l g q19) gX4_init_X2_init_n31 m_itX2 m_nl31 m_imX2_init rfl rfl ⟨rfl, rfl⟩ (n := 0) (by decide +kernel) ⟨Nat.le_of_ble_eq_true rfl, Nat.le_of_ble_eq_true rfl⟩ ⟨Nat.le_of_ble_eq_true rfl, Nat.le_of_ble_eq_true rfl⟩ F.2.2.1 [19] [0, 1, 2, 3, 4, 5, 6, 7, 8, 9, 10, 11, 12, 13, 14, 15, 16, 17, 18] (by decide) rfl (wr := [(h_, .inr (3, [.ref q1, .ref q7, .ref q12, .int 0, .int 0])), (q1, .inr (0, [.ref q2, .ref q3, .ref q4, .ref q5, .ref q6, .int 0, .int 0, .int 0])), (q2, .inl (g.2.1, 6, .inl (fun _ => 0))), (q3, .inl (g.2.1, 4, .inl (fun _ => 0))), (q4, .inl (g.2.1, 4, .inl (fun _ => 0))), (q5, .inl (g.2.1, 4, .inl (fun _ => 0))), (q6, .inl (g.2.1, 4, .inl (fun _ => 0))), (q7, .inr (1, [.ref q8, .ref q9, .ref q10, .ref q11, .int 0])), (q8, .inl (g.2.1, 8, .inl (fun _ => 0))), (q9, .inl (g.2.1, 8, .inl (fun _ => 0))), (q10, .inl (g.2.1, 8, .inl (fun _ => 0))), (q11, .inl (g.2.2.1, 8, .inl (fun _ => 0))), (q12, .inl (g.2.2.2, 4, .inr (.inr (.inr (.inr (va_up (va_up (va_up (fun _ => none) 0 (some q13)) 1 (some q15)) 2 (some q17))))))), (q13, .inr (2, [.ref q14, .int 0, .int (-1)])), (q14, .inl (g.2.1, 60, .inl (fun _ => 0))), (q15, .inr (2, [.ref q16, .int 0, .int (-1)])), (q16, .inl (g.2.1, 60, .inl (fun _ => 0))), (q17, .inr (2, [.ref q18, .int 0, .int (-1)])), (q18, .inl (g.2.1, 60, .inl (fun _ => 0)))]) rfl (by decide) (by decide) (As := []) rfl rfl (Nat.le_of_ble_eq_true rfl) dX4_init_54 (fun wo_ hw_ => ?_)
  obtain ⟨q20, rfl⟩ := hw_
  refine z_ws (ws' := [(h_, .inr (3, [.ref q1, .ref q7, .ref q12, .int 0, .int 0])), (q1, .inr (0, [.ref q2, .ref q3, .ref q4, .ref q5, .ref q6, .int 0, .int 0, .int 0])), (q2, .inl (g.2.1, 6, .inl (fun _ => 0))), (q3, .inl (g.2.1, 4, .inl (fun _ => 0))), (q4, .inl (g.2.1, 4, .inl (fun _ => 0))), (q5, .inl (g.2.1, 4, .inl (fun _ => 0))), (q6, .inl (g.2.1, 4, .inl (fun _ => 0))), (q7, .inr (1, [.ref q8, .ref q9, .ref q10, .ref q11, .int 0])), (q8, .inl (g.2.1, 8, .inl (fun _ => 0))), (q9, .inl (g.2.1, 8, .inl (fun _ => 0))), (q10, .inl (g.2.1, 8, .inl (fun _ => 0))), (q11, .inl (g.2.2.1, 8, .inl (fun _ => 0))), (q12, .inl (g.2.2.2, 4, .inr (.inr (.inr (.inr (va_up (va_up (va_up (fun _ => none) 0 (some q13)) 1 (some q15)) 2 (some q17))))))), (q13, .inr (2, [.ref q14, .int 0, .int (-1)])), (q14, .inl (g.2.1, 60, .inl (fun _ => 0))), (q15, .inr (2, [.ref q16, .int 0, .int (-1)])), (q16, .inl (g.2.1, 60, .inl (fun _ => 0))), (q17, .inr (2, [.ref q18, .int 0, .int (-1)])), (q18, .inl (g.2.1, 60, .inl (fun _ => 0))), (q19, .inr (2, [.ref q20, .int 0, .int (-1)])), (q20, .inl (g.2.1, 60, .inl (fun _ => 0)))]) rfl ?_
  have X := zX.mv (c' := (20, 323)) X
  have F := zFn.mv (c' := (20, 323)) F
  refine z_astqN (ws' := [(h_, .inr (3, [.ref q1, .ref q7, .ref q12, .int 0, .int 0])), (q1, .inr (0, [.ref q2, .ref q3, .ref q4, .ref q5, .ref q6, .int 0, .int 0, .int 0])), (q2, .inl (g.2.1, 6, .inl (fun _ => 0))), (q3, .inl (g.2.1, 4, .inl (fun _ => 0))), (q4, .inl (g.2.1, 4, .inl (fun _ => 0))), (q5, .inl (g.2.1, 4, .inl (fun _ => 0))), (q6, .inl (g.2.1, 4, .inl (fun _ => 0))), (q7, .inr (1, [.ref q8, .ref q9, .ref q10, .ref q11, .int 0])), (q8, .inl (g.2.1, 8, .inl (fun _ => 0))), (q9, .inl (g.2.1, 8, .inl (fun _ => 0))), (q10, .inl (g.2.1, 8, .inl (fun _ => 0))), (q11, .inl (g.2.2.1, 8, .inl (fun _ => 0))), (q12, .inl (g.2.2.2, 4, .inr (.inr (.inr (.inr (va_up (va_up (va_up (va_up (fun _ => none) 0 (some q13)) 1 (some q15)) 2 (some q17)) 3 (some q19))))))), (q13, .inr (2, [.ref q14, .int 0, .int (-1)])), (q14, .inl (g.2.1, 60, .inl (fun _ => 0))), (q15, .inr (2, [.ref q16, .int 0, .int (-1)])), (q16, .inl (g.2.1, 60, .inl (fun _ => 0))), (q17, .inr (2, [.ref q18, .int 0, .int (-1)])), (q18, .inl (g.2.1, 60, .inl (fun _ => 0))), (q19, .inr (2, [.ref q20, .int 0, .int (-1)])), (q20, .inl (g.2.1, 60, .inl (fun _ => 0)))]) X 12 19 rfl rfl (ci := 2) rfl rfl (by decide) (by decide) dX4_init_57 rfl ?_
  refine z_iinc (v := nI 4) (L' := [(1, .int (nI 4)), (0, .ref h_)]) X dX4_init_58 0 rfl (nI_inc 3 1) (by decide) rfl ?_
  refine z_goto (tgt := 36) X dX4_init_61 (by decide) ?_
  refine z_iload_n X dX4_init_36 rfl 0 rfl ?_
  refine z_aload_n X dX4_init_37 rfl 1 rfl ?_
  refine z_get (v := .ref q12) (N := 5) X i_RX4 (ci := 3) rfl 0 rfl 2 (by decide) f_27 rfl dX4_init_38 ?_
  refine z_alenQ X 12 rfl dX4_init_41 ?_
  refine z_icmp_geN (tgt := 64) X dX4_init_42 (by decide) (by decide) (by decide) (fun _ => ?_) (fun h => absurd h (by decide))
  exact z_vretn X F (Nat.le_of_ble_eq_true rfl) (Nat.le_of_ble_eq_true rfl) dX4_init_64 rfl ⟨q1, q2, q3, q4, q5, q6, q7, q8, q9, q10, q11, q12, q13, q14, q15, q16, q17, q18, q19, q20, rfl⟩
abbrev rX5_init : Room := { frames := 1, cells := 18, slots := 384, locals := 20 }
set_option maxHeartbeats 4000000 in
set_option maxRecDepth 100000 in
theorem c_X5_init (l : Launch) (g : zg) (h_ : Nat) : zMn l g yX5_init wsX5_init rX5_init [.ref h_] [(h_, .inr (4, [.int 0, .int 0, .int 0, .null, .int 0, .null, .null, .null, .null, .int 0, .int 0, .int 0, .int 0, .int 0, .null, .null, .null, .null, .null, .int 0, .null, .null, .null, .null, .null, .null, .null, .null, .int 0]))] 18 384 (fun wo => ∃ q1 q2 q3 q4 q5 q6 q7 q8 q9 q10 q11 q12 q13 q14 q15 q16 q17 q18 : Nat, wo = [(h_, .inr (4, [.int 0, .int 0, .int 0, .ref q1, .int 0, .ref q2, .ref q3, .ref q4, .ref q5, .int (-9), .int 0, .int 0, .int 0, .int 0, .ref q6, .ref q7, .ref q8, .ref q9, .ref q10, .int 0, .ref q11, .ref q12, .ref q13, .ref q14, .ref q15, .ref q16, .ref q17, .ref q18, .int 0])), (q1, .inl (g.2.1, 6, .inl (fun _ => 0))), (q2, .inl (g.2.1, 4, .inl (fun _ => 0))), (q3, .inl (g.2.1, 4, .inl (fun _ => 0))), (q4, .inl (g.2.1, 4, .inl (fun _ => 0))), (q5, .inl (g.2.1, 4, .inl (fun _ => 0))), (q6, .inl (g.2.1, 6, .inl (fun _ => 0))), (q7, .inl (g.2.1, 4, .inl (fun _ => 0))), (q8, .inl (g.2.1, 4, .inl (fun _ => 0))), (q9, .inl (g.2.1, 4, .inl (fun _ => 0))), (q10, .inl (g.2.1, 4, .inl (fun _ => 0))), (q11, .inl (g.2.1, 8, .inl (fun _ => 0))), (q12, .inl (g.2.1, 8, .inl (fun _ => 0))), (q13, .inl (g.2.1, 8, .inl (fun _ => 0))), (q14, .inl (g.2.2.1, 8, .inl (fun _ => 0))), (q15, .inl (g.2.1, 4, .inl (upd (upd (upd (upd (fun _ => 0) 0 (-1)) 1 (-1)) 2 (-1)) 3 (-1)))), (q16, .inl (g.2.1, 4, .inl (fun _ => 0))), (q17, .inl (g.2.1, 240, .inl (fun _ => 0))), (q18, .inl (g.2.1, 60, .inl (fun _ => 0)))]) := by
  refine z_metn (own := RX5) (cc := cX5_init) (maxL := 2) (by decide +kernel) rfl rfl (Nat.le_of_ble_eq_true rfl) rfl ?_
  intro P S M X F
  refine z_Le (L' := [(0, .ref h_)]) rfl ?_
  have m_oi : Cond.methodLink RX5 1 objectInit ∈ wsX5_init := by decide +kernel
  have m_oj : Cond.instanceMethod objectInit ∈ wsX5_init := by decide +kernel
  have m_ok : Cond.code objectInit ⟨#[0xb1]⟩ 1 none ∈ wsX5_init := by decide +kernel
  have m_int : Cond.arrayClass .int ∈ wsX5_init := by decide +kernel
  have i_RX5 : ∀ w ∈ wsX50, w ∈ wsX5_init := by decide +kernel
  have f_7 : Cond.fieldLink RX5 7 (TX5 3).1 (TX5 3).2.1 (TX5 3).2.2.1 ∈ wsX5_init := by decide +kernel
  have f_13 : Cond.fieldLink RX5 13 (TX5 5).1 (TX5 5).2.1 (TX5 5).2.2.1 ∈ wsX5_init := by decide +kernel
  have f_16 : Cond.fieldLink RX5 16 (TX5 6).1 (TX5 6).2.1 (TX5 6).2.2.1 ∈ wsX5_init := by decide +kernel
  have f_19 : Cond.fieldLink RX5 19 (TX5 7).1 (TX5 7).2.1 (TX5 7).2.2.1 ∈ wsX5_init := by decide +kernel
  have f_22 : Cond.fieldLink RX5 22 (TX5 8).1 (TX5 8).2.1 (TX5 8).2.2.1 ∈ wsX5_init := by decide +kernel
  have f_25 : Cond.fieldLink RX5 25 (TX5 9).1 (TX5 9).2.1 (TX5 9).2.2.1 ∈ wsX5_init := by decide +kernel
  have f_29 : Cond.fieldLink RX5 29 (TX5 14).1 (TX5 14).2.1 (TX5 14).2.2.1 ∈ wsX5_init := by decide +kernel
  have f_32 : Cond.fieldLink RX5 32 (TX5 15).1 (TX5 15).2.1 (TX5 15).2.2.1 ∈ wsX5_init := by decide +kernel
  have f_35 : Cond.fieldLink RX5 35 (TX5 16).1 (TX5 16).2.1 (TX5 16).2.2.1 ∈ wsX5_init := by decide +kernel
  have f_38 : Cond.fieldLink RX5 38 (TX5 17).1 (TX5 17).2.1 (TX5 17).2.2.1 ∈ wsX5_init := by decide +kernel
  have f_41 : Cond.fieldLink RX5 41 (TX5 18).1 (TX5 18).2.1 (TX5 18).2.2.1 ∈ wsX5_init := by decide +kernel
  have f_44 : Cond.fieldLink RX5 44 (TX5 20).1 (TX5 20).2.1 (TX5 20).2.2.1 ∈ wsX5_init := by decide +kernel
  have f_47 : Cond.fieldLink RX5 47 (TX5 21).1 (TX5 21).2.1 (TX5 21).2.2.1 ∈ wsX5_init := by decide +kernel
  have f_50 : Cond.fieldLink RX5 50 (TX5 22).1 (TX5 22).2.1 (TX5 22).2.2.1 ∈ wsX5_init := by decide +kernel
  have m_boolean : Cond.arrayClass .boolean ∈ wsX5_init := by decide +kernel
  have f_53 : Cond.fieldLink RX5 53 (TX5 23).1 (TX5 23).2.1 (TX5 23).2.2.1 ∈ wsX5_init := by decide +kernel
  have f_57 : Cond.fieldLink RX5 57 (TX5 24).1 (TX5 24).2.1 (TX5 24).2.2.1 ∈ wsX5_init := by decide +kernel
  have f_60 : Cond.fieldLink RX5 60 (TX5 25).1 (TX5 25).2.1 (TX5 25).2.2.1 ∈ wsX5_init := by decide +kernel
  have f_63 : Cond.fieldLink RX5 63 (TX5 26).1 (TX5 26).2.1 (TX5 26).2.2.1 ∈ wsX5_init := by decide +kernel
  have f_66 : Cond.fieldLink RX5 66 (TX5 27).1 (TX5 27).2.1 (TX5 27).2.2.1 ∈ wsX5_init := by decide +kernel
  refine z_aload_n X dX5_init_0 rfl 0 rfl ?_
  refine z_objInit X m_oi m_oj m_ok (Nat.le_of_ble_eq_true rfl) (Nat.le_of_ble_eq_true rfl) (by decide) dX5_init_1 ?_
  refine z_aload_n X dX5_init_4 rfl 0 rfl ?_
  refine z_bipush (v := nI 6) X dX5_init_5 (by decide) ?_
  refine z_newaI (N := 6) X m_int (Nat.le_of_ble_eq_true rfl) (Nat.le_of_ble_eq_true rfl) (Nat.le_of_ble_eq_true rfl) dX5_init_7 (fun q1 => ?_)
  refine z_ws (ws' := [(h_, .inr (4, [.int 0, .int 0, .int 0, .null, .int 0, .null, .null, .null, .null, .int 0, .int 0, .int 0, .int 0, .int 0, .null, .null, .null, .null, .null, .int 0, .null, .null, .null, .null, .null, .null, .null, .null, .int 0])), (q1, .inl (g.2.1, 6, .inl (fun _ => 0)))]) rfl ?_
  have X := zX.mv (c' := (1, 6)) X
  have F := zFn.mv (c' := (1, 6)) F
  refine z_putF (ws' := [(h_, .inr (4, [.int 0, .int 0, .int 0, .ref q1, .int 0, .null, .null, .null, .null, .int 0, .int 0, .int 0, .int 0, .int 0, .null, .null, .null, .null, .null, .int 0, .null, .null, .null, .null, .null, .null, .null, .null, .int 0])), (q1, .inl (g.2.1, 6, .inl (fun _ => 0)))]) (N := 29) X F.2.2.2 i_RX5 (ci := 4) rfl tyX5 tyX5_ok nmX5 0 rfl 3 (by decide) f_7 rfl rfl (ty := .array .int) (by decide +kernel) rfl rfl (Nat.le_of_ble_eq_true rfl) dX5_init_9 rfl ?_
  refine z_aload_n X dX5_init_12 rfl 0 rfl ?_
  refine z_iconst (v := nI 4) X dX5_init_13 (by decide) ?_
  refine z_newaI (N := 4) X m_int (Nat.le_of_ble_eq_true rfl) (Nat.le_of_ble_eq_true rfl) (Nat.le_of_ble_eq_true rfl) dX5_init_14 (fun q2 => ?_)
  refine z_ws (ws' := [(h_, .inr (4, [.int 0, .int 0, .int 0, .ref q1, .int 0, .null, .null, .null, .null, .int 0, .int 0, .int 0, .int 0, .int 0, .null, .null, .null, .null, .null, .int 0, .null, .null, .null, .null, .null, .null, .null, .null, .int 0])), (q1, .inl (g.2.1, 6, .inl (fun _ => 0))), (q2, .inl (g.2.1, 4, .inl (fun _ => 0)))]) rfl ?_
  have X := zX.mv (c' := (2, 10)) X
  have F := zFn.mv (c' := (2, 10)) F
  refine z_putF (ws' := [(h_, .inr (4, [.int 0, .int 0, .int 0, .ref q1, .int 0, .ref q2, .null, .null, .null, .int 0, .int 0, .int 0, .int 0, .int 0, .null, .null, .null, .null, .null, .int 0, .null, .null, .null, .null, .null, .null, .null, .null, .int 0])), (q1, .inl (g.2.1, 6, .inl (fun _ => 0))), (q2, .inl (g.2.1, 4, .inl (fun _ => 0)))]) (N := 29) X F.2.2.2 i_RX5 (ci := 4) rfl tyX5 tyX5_ok nmX5 0 rfl 5 (by decide) f_13 rfl rfl (ty := .array .int) (by decide +kernel) rfl rfl (Nat.le_of_ble_eq_true rfl) dX5_init_16 rfl ?_
  refine z_aload_n X dX5_init_19 rfl 0 rfl ?_
  refine z_iconst (v := nI 4) X dX5_init_20 (by decide) ?_
  refine z_newaI (N := 4) X m_int (Nat.le_of_ble_eq_true rfl) (Nat.le_of_ble_eq_true rfl) (Nat.le_of_ble_eq_true rfl) dX5_init_21 (fun q3 => ?_)
  refine z_ws (ws' := [(h_, .inr (4, [.int 0, .int 0, .int 0, .ref q1, .int 0, .ref q2, .null, .null, .null, .int 0, .int 0, .int 0, .int 0, .int 0, .null, .null, .null, .null, .null, .int 0, .null, .null, .null, .null, .null, .null, .null, .null, .int 0])), (q1, .inl (g.2.1, 6, .inl (fun _ => 0))), (q2, .inl (g.2.1, 4, .inl (fun _ => 0))), (q3, .inl (g.2.1, 4, .inl (fun _ => 0)))]) rfl ?_
  have X := zX.mv (c' := (3, 14)) X
  have F := zFn.mv (c' := (3, 14)) F
  refine z_putF (ws' := [(h_, .inr (4, [.int 0, .int 0, .int 0, .ref q1, .int 0, .ref q2, .ref q3, .null, .null, .int 0, .int 0, .int 0, .int 0, .int 0, .null, .null, .null, .null, .null, .int 0, .null, .null, .null, .null, .null, .null, .null, .null, .int 0])), (q1, .inl (g.2.1, 6, .inl (fun _ => 0))), (q2, .inl (g.2.1, 4, .inl (fun _ => 0))), (q3, .inl (g.2.1, 4, .inl (fun _ => 0)))]) (N := 29) X F.2.2.2 i_RX5 (ci := 4) rfl tyX5 tyX5_ok nmX5 0 rfl 6 (by decide) f_16 rfl rfl (ty := .array .int) (by decide +kernel) rfl rfl (Nat.le_of_ble_eq_true rfl) dX5_init_23 rfl ?_
  refine z_aload_n X dX5_init_26 rfl 0 rfl ?_
  refine z_iconst (v := nI 4) X dX5_init_27 (by decide) ?_
  refine z_newaI (N := 4) X m_int (Nat.le_of_ble_eq_true rfl) (Nat.le_of_ble_eq_true rfl) (Nat.le_of_ble_eq_true rfl) dX5_init_28 (fun q4 => ?_)
  refine z_ws (ws' := [(h_, .inr (4, [.int 0, .int 0, .int 0, .ref q1, .int 0, .ref q2, .ref q3, .null, .null, .int 0, .int 0, .int 0, .int 0, .int 0, .null, .null, .null, .null, .null, .int 0, .null, .null, .null, .null, .null, .null, .null, .null, .int 0])), (q1, .inl (g.2.1, 6, .inl (fun _ => 0))), (q2, .inl (g.2.1, 4, .inl (fun _ => 0))), (q3, .inl (g.2.1, 4, .inl (fun _ => 0))), (q4, .inl (g.2.1, 4, .inl (fun _ => 0)))]) rfl ?_
  have X := zX.mv (c' := (4, 18)) X
  have F := zFn.mv (c' := (4, 18)) F
  refine z_putF (ws' := [(h_, .inr (4, [.int 0, .int 0, .int 0, .ref q1, .int 0, .ref q2, .ref q3, .ref q4, .null, .int 0, .int 0, .int 0, .int 0, .int 0, .null, .null, .null, .null, .null, .int 0, .null, .null, .null, .null, .null, .null, .null, .null, .int 0])), (q1, .inl (g.2.1, 6, .inl (fun _ => 0))), (q2, .inl (g.2.1, 4, .inl (fun _ => 0))), (q3, .inl (g.2.1, 4, .inl (fun _ => 0))), (q4, .inl (g.2.1, 4, .inl (fun _ => 0)))]) (N := 29) X F.2.2.2 i_RX5 (ci := 4) rfl tyX5 tyX5_ok nmX5 0 rfl 7 (by decide) f_19 rfl rfl (ty := .array .int) (by decide +kernel) rfl rfl (Nat.le_of_ble_eq_true rfl) dX5_init_30 rfl ?_
  refine z_aload_n X dX5_init_33 rfl 0 rfl ?_
  refine z_iconst (v := nI 4) X dX5_init_34 (by decide) ?_
  refine z_newaI (N := 4) X m_int (Nat.le_of_ble_eq_true rfl) (Nat.le_of_ble_eq_true rfl) (Nat.le_of_ble_eq_true rfl) dX5_init_35 (fun q5 => ?_)
  refine z_ws (ws' := [(h_, .inr (4, [.int 0, .int 0, .int 0, .ref q1, .int 0, .ref q2, .ref q3, .ref q4, .null, .int 0, .int 0, .int 0, .int 0, .int 0, .null, .null, .null, .null, .null, .int 0, .null, .null, .null, .null, .null, .null, .null, .null, .int 0])), (q1, .inl (g.2.1, 6, .inl (fun _ => 0))), (q2, .inl (g.2.1, 4, .inl (fun _ => 0))), (q3, .inl (g.2.1, 4, .inl (fun _ => 0))), (q4, .inl (g.2.1, 4, .inl (fun _ => 0))), (q5, .inl (g.2.1, 4, .inl (fun _ => 0)))]) rfl ?_
  have X := zX.mv (c' := (5, 22)) X
  have F := zFn.mv (c' := (5, 22)) F
  refine z_putF (ws' := [(h_, .inr (4, [.int 0, .int 0, .int 0, .ref q1, .int 0, .ref q2, .ref q3, .ref q4, .ref q5, .int 0, .int 0, .int 0, .int 0, .int 0, .null, .null, .null, .null, .null, .int 0, .null, .null, .null, .null, .null, .null, .null, .null, .int 0])), (q1, .inl (g.2.1, 6, .inl (fun _ => 0))), (q2, .inl (g.2.1, 4, .inl (fun _ => 0))), (q3, .inl (g.2.1, 4, .inl (fun _ => 0))), (q4, .inl (g.2.1, 4, .inl (fun _ => 0))), (q5, .inl (g.2.1, 4, .inl (fun _ => 0)))]) (N := 29) X F.2.2.2 i_RX5 (ci := 4) rfl tyX5 tyX5_ok nmX5 0 rfl 8 (by decide) f_22 rfl rfl (ty := .array .int) (by decide +kernel) rfl rfl (Nat.le_of_ble_eq_true rfl) dX5_init_37 rfl ?_
  refine z_aload_n X dX5_init_40 rfl 0 rfl ?_
  refine z_bipush (v := (-9)) X dX5_init_41 (by decide) ?_
  refine z_put (ws' := [(h_, .inr (4, [.int 0, .int 0, .int 0, .ref q1, .int 0, .ref q2, .ref q3, .ref q4, .ref q5, .int (-9), .int 0, .int 0, .int 0, .int 0, .null, .null, .null, .null, .null, .int 0, .null, .null, .null, .null, .null, .null, .null, .null, .int 0])), (q1, .inl (g.2.1, 6, .inl (fun _ => 0))), (q2, .inl (g.2.1, 4, .inl (fun _ => 0))), (q3, .inl (g.2.1, 4, .inl (fun _ => 0))), (q4, .inl (g.2.1, 4, .inl (fun _ => 0))), (q5, .inl (g.2.1, 4, .inl (fun _ => 0)))]) (N := 29) X i_RX5 (ci := 4) rfl tyX5 tyX5_ok nmX5 0 rfl 9 (by decide) f_25 rfl (ty := .int) (by decide +kernel) rfl rfl (Nat.le_of_ble_eq_true rfl) dX5_init_43 rfl ?_
  refine z_aload_n X dX5_init_46 rfl 0 rfl ?_
  refine z_bipush (v := nI 6) X dX5_init_47 (by decide) ?_
  refine z_newaI (N := 6) X m_int (Nat.le_of_ble_eq_true rfl) (Nat.le_of_ble_eq_true rfl) (Nat.le_of_ble_eq_true rfl) dX5_init_49 (fun q6 => ?_)
  refine z_ws (ws' := [(h_, .inr (4, [.int 0, .int 0, .int 0, .ref q1, .int 0, .ref q2, .ref q3, .ref q4, .ref q5, .int (-9), .int 0, .int 0, .int 0, .int 0, .null, .null, .null, .null, .null, .int 0, .null, .null, .null, .null, .null, .null, .null, .null, .int 0])), (q1, .inl (g.2.1, 6, .inl (fun _ => 0))), (q2, .inl (g.2.1, 4, .inl (fun _ => 0))), (q3, .inl (g.2.1, 4, .inl (fun _ => 0))), (q4, .inl (g.2.1, 4, .inl (fun _ => 0))), (q5, .inl (g.2.1, 4, .inl (fun _ => 0))), (q6, .inl (g.2.1, 6, .inl (fun _ => 0)))]) rfl ?_
  have X := zX.mv (c' := (6, 28)) X
  have F := zFn.mv (c' := (6, 28)) F
  refine z_putF (ws' := [(h_, .inr (4, [.int 0, .int 0, .int 0, .ref q1, .int 0, .ref q2, .ref q3, .ref q4, .ref q5, .int (-9), .int 0, .int 0, .int 0, .int 0, .ref q6, .null, .null, .null, .null, .int 0, .null, .null, .null, .null, .null, .null, .null, .null, .int 0])), (q1, .inl (g.2.1, 6, .inl (fun _ => 0))), (q2, .inl (g.2.1, 4, .inl (fun _ => 0))), (q3, .inl (g.2.1, 4, .inl (fun _ => 0))), (q4, .inl (g.2.1, 4, .inl (fun _ => 0))), (q5, .inl (g.2.1, 4, .inl (fun _ => 0))), (q6, .inl (g.2.1, 6, .inl (fun _ => 0)))]) (N := 29) X F.2.2.2 i_RX5 (ci := 4) rfl tyX5 tyX5_ok nmX5 0 rfl 14 (by decide) f_29 rfl rfl (ty := .array .int) (by decide +kernel) rfl rfl (Nat.le_of_ble_eq_true rfl) dX5_init_51 rfl ?_
  refine z_aload_n X dX5_init_54 rfl 0 rfl ?_
  refine z_iconst (v := nI 4) X dX5_init_55 (by decide) ?_
  refine z_newaI (N := 4) X m_int (Nat.le_of_ble_eq_true rfl) (Nat.le_of_ble_eq_true rfl) (Nat.le_of_ble_eq_true rfl) dX5_init_56 (fun q7 => ?_)
  refine z_ws (ws' := [(h_, .inr (4, [.int 0, .int 0, .int 0, .ref q1, .int 0, .ref q2, .ref q3, .ref q4, .ref q5, .int (-9), .int 0, .int 0, .int 0, .int 0, .ref q6, .null, .null, .null, .null, .int 0, .null, .null, .null, .null, .null, .null, .null, .null, .int 0])), (q1, .inl (g.2.1, 6, .inl (fun _ => 0))), (q2, .inl (g.2.1, 4, .inl (fun _ => 0))), (q3, .inl (g.2.1, 4, .inl (fun _ => 0))), (q4, .inl (g.2.1, 4, .inl (fun _ => 0))), (q5, .inl (g.2.1, 4, .inl (fun _ => 0))), (q6, .inl (g.2.1, 6, .inl (fun _ => 0))), (q7, .inl (g.2.1, 4, .inl (fun _ => 0)))]) rfl ?_
  have X := zX.mv (c' := (7, 32)) X
  have F := zFn.mv (c' := (7, 32)) F
  refine z_putF (ws' := [(h_, .inr (4, [.int 0, .int 0, .int 0, .ref q1, .int 0, .ref q2, .ref q3, .ref q4, .ref q5, .int (-9), .int 0, .int 0, .int 0, .int 0, .ref q6, .ref q7, .null, .null, .null, .int 0, .null, .null, .null, .null, .null, .null, .null, .null, .int 0])), (q1, .inl (g.2.1, 6, .inl (fun _ => 0))), (q2, .inl (g.2.1, 4, .inl (fun _ => 0))), (q3, .inl (g.2.1, 4, .inl (fun _ => 0))), (q4, .inl (g.2.1, 4, .inl (fun _ => 0))), (q5, .inl (g.2.1, 4, .inl (fun _ => 0))), (q6, .inl (g.2.1, 6, .inl (fun _ => 0))), (q7, .inl (g.2.1, 4, .inl (fun _ => 0)))]) (N := 29) X F.2.2.2 i_RX5 (ci := 4) rfl tyX5 tyX5_ok nmX5 0 rfl 15 (by decide) f_32 rfl rfl (ty := .array .int) (by decide +kernel) rfl rfl (Nat.le_of_ble_eq_true rfl) dX5_init_58 rfl ?_
  refine z_aload_n X dX5_init_61 rfl 0 rfl ?_
  refine z_iconst (v := nI 4) X dX5_init_62 (by decide) ?_
  refine z_newaI (N := 4) X m_int (Nat.le_of_ble_eq_true rfl) (Nat.le_of_ble_eq_true rfl) (Nat.le_of_ble_eq_true rfl) dX5_init_63 (fun q8 => ?_)
  refine z_ws (ws' := [(h_, .inr (4, [.int 0, .int 0, .int 0, .ref q1, .int 0, .ref q2, .ref q3, .ref q4, .ref q5, .int (-9), .int 0, .int 0, .int 0, .int 0, .ref q6, .ref q7, .null, .null, .null, .int 0, .null, .null, .null, .null, .null, .null, .null, .null, .int 0])), (q1, .inl (g.2.1, 6, .inl (fun _ => 0))), (q2, .inl (g.2.1, 4, .inl (fun _ => 0))), (q3, .inl (g.2.1, 4, .inl (fun _ => 0))), (q4, .inl (g.2.1, 4, .inl (fun _ => 0))), (q5, .inl (g.2.1, 4, .inl (fun _ => 0))), (q6, .inl (g.2.1, 6, .inl (fun _ => 0))), (q7, .inl (g.2.1, 4, .inl (fun _ => 0))), (q8, .inl (g.2.1, 4, .inl (fun _ => 0)))]) rfl ?_
  have X := zX.mv (c' := (8, 36)) X
  have F := zFn.mv (c' := (8, 36)) F
  refine z_putF (ws' := [(h_, .inr (4, [.int 0, .int 0, .int 0, .ref q1, .int 0, .ref q2, .ref q3, .ref q4, .ref q5, .int (-9), .int 0, .int 0, .int 0, .int 0, .ref q6, .ref q7, .ref q8, .null, .null, .int 0, .null, .null, .null, .null, .null, .null, .null, .null, .int 0])), (q1, .inl (g.2.1, 6, .inl (fun _ => 0))), (q2, .inl (g.2.1, 4, .inl (fun _ => 0))), (q3, .inl (g.2.1, 4, .inl (fun _ => 0))), (q4, .inl (g.2.1, 4, .inl (fun _ => 0))), (q5, .inl (g.2.1, 4, .inl (fun _ => 0))), (q6, .inl (g.2.1, 6, .inl (fun _ => 0))), (q7, .inl (g.2.1, 4, .inl (fun _ => 0))), (q8, .inl (g.2.1, 4, .inl (fun _ => 0)))]) (N := 29) X F.2.2.2 i_RX5 (ci := 4) rfl tyX5 tyX5_ok nmX5 0 rfl 16 (by decide) f_35 rfl rfl (ty := .array .int) (by decide +kernel) rfl rfl (Nat.le_of_ble_eq_true rfl) dX5_init_65 rfl ?_
  refine z_aload_n X dX5_init_68 rfl 0 rfl ?_
  refine z_iconst (v := nI 4) X dX5_init_69 (by decide) ?_
  refine z_newaI (N := 4) X m_int (Nat.le_of_ble_eq_true rfl) (Nat.le_of_ble_eq_true rfl) (Nat.le_of_ble_eq_true rfl) dX5_init_70 (fun q9 => ?_)
  refine z_ws (ws' := [(h_, .inr (4, [.int 0, .int 0, .int 0, .ref q1, .int 0, .ref q2, .ref q3, .ref q4, .ref q5, .int (-9), .int 0, .int 0, .int 0, .int 0, .ref q6, .ref q7, .ref q8, .null, .null, .int 0, .null, .null, .null, .null, .null, .null, .null, .null, .int 0])), (q1, .inl (g.2.1, 6, .inl (fun _ => 0))), (q2, .inl (g.2.1, 4, .inl (fun _ => 0))), (q3, .inl (g.2.1, 4, .inl (fun _ => 0))), (q4, .inl (g.2.1, 4, .inl (fun _ => 0))), (q5, .inl (g.2.1, 4, .inl (fun _ => 0))), (q6, .inl (g.2.1, 6, .inl (fun _ => 0))), (q7, .inl (g.2.1, 4, .inl (fun _ => 0))), (q8, .inl (g.2.1, 4, .inl (fun _ => 0))), (q9, .inl (g.2.1, 4, .inl (fun _ => 0)))]) rfl ?_
  have X := zX.mv (c' := (9, 40)) X
  have F := zFn.mv (c' := (9, 40)) F
  refine z_putF (ws' := [(h_, .inr (4, [.int 0, .int 0, .int 0, .ref q1, .int 0, .ref q2, .ref q3, .ref q4, .ref q5, .int (-9), .int 0, .int 0, .int 0, .int 0, .ref q6, .ref q7, .ref q8, .ref q9, .null, .int 0, .null, .null, .null, .null, .null, .null, .null, .null, .int 0])), (q1, .inl (g.2.1, 6, .inl (fun _ => 0))), (q2, .inl (g.2.1, 4, .inl (fun _ => 0))), (q3, .inl (g.2.1, 4, .inl (fun _ => 0))), (q4, .inl (g.2.1, 4, .inl (fun _ => 0))), (q5, .inl (g.2.1, 4, .inl (fun _ => 0))), (q6, .inl (g.2.1, 6, .inl (fun _ => 0))), (q7, .inl (g.2.1, 4, .inl (fun _ => 0))), (q8, .inl (g.2.1, 4, .inl (fun _ => 0))), (q9, .inl (g.2.1, 4, .inl (fun _ => 0)))]) (N := 29) X F.2.2.2 i_RX5 (ci := 4) rfl tyX5 tyX5_ok nmX5 0 rfl 17 (by decide) f_38 rfl rfl (ty := .array .int) (by decide +kernel) rfl rfl (Nat.le_of_ble_eq_true rfl) dX5_init_72 rfl ?_
  refine z_aload_n X dX5_init_75 rfl 0 rfl ?_
  refine z_iconst (v := nI 4) X dX5_init_76 (by decide) ?_
  refine z_newaI (N := 4) X m_int (Nat.le_of_ble_eq_true rfl) (Nat.le_of_ble_eq_true rfl) (Nat.le_of_ble_eq_true rfl) dX5_init_77 (fun q10 => ?_)
  refine z_ws (ws' := [(h_, .inr (4, [.int 0, .int 0, .int 0, .ref q1, .int 0, .ref q2, .ref q3, .ref q4, .ref q5, .int (-9), .int 0, .int 0, .int 0, .int 0, .ref q6, .ref q7, .ref q8, .ref q9, .null, .int 0, .null, .null, .null, .null, .null, .null, .null, .null, .int 0])), (q1, .inl (g.2.1, 6, .inl (fun _ => 0))), (q2, .inl (g.2.1, 4, .inl (fun _ => 0))), (q3, .inl (g.2.1, 4, .inl (fun _ => 0))), (q4, .inl (g.2.1, 4, .inl (fun _ => 0))), (q5, .inl (g.2.1, 4, .inl (fun _ => 0))), (q6, .inl (g.2.1, 6, .inl (fun _ => 0))), (q7, .inl (g.2.1, 4, .inl (fun _ => 0))), (q8, .inl (g.2.1, 4, .inl (fun _ => 0))), (q9, .inl (g.2.1, 4, .inl (fun _ => 0))), (q10, .inl (g.2.1, 4, .inl (fun _ => 0)))]) rfl ?_
  have X := zX.mv (c' := (10, 44)) X
  have F := zFn.mv (c' := (10, 44)) F
  refine z_putF (ws' := [(h_, .inr (4, [.int 0, .int 0, .int 0, .ref q1, .int 0, .ref q2, .ref q3, .ref q4, .ref q5, .int (-9), .int 0, .int 0, .int 0, .int 0, .ref q6, .ref q7, .ref q8, .ref q9, .ref q10, .int 0, .null, .null, .null, .null, .null, .null, .null, .null, .int 0])), (q1, .inl (g.2.1, 6, .inl (fun _ => 0))), (q2, .inl (g.2.1, 4, .inl (fun _ => 0))), (q3, .inl (g.2.1, 4, .inl (fun _ => 0))), (q4, .inl (g.2.1, 4, .inl (fun _ => 0))), (q5, .inl (g.2.1, 4, .inl (fun _ => 0))), (q6, .inl (g.2.1, 6, .inl (fun _ => 0))), (q7, .inl (g.2.1, 4, .inl (fun _ => 0))), (q8, .inl (g.2.1, 4, .inl (fun _ => 0))), (q9, .inl (g.2.1, 4, .inl (fun _ => 0))), (q10, .inl (g.2.1, 4, .inl (fun _ => 0)))]) (N := 29) X F.2.2.2 i_RX5 (ci := 4) rfl tyX5 tyX5_ok nmX5 0 rfl 18 (by decide) f_41 rfl rfl (ty := .array .int) (by decide +kernel) rfl rfl (Nat.le_of_ble_eq_true rfl) dX5_init_79 rfl ?_
  refine z_aload_n X dX5_init_82 rfl 0 rfl ?_
  refine z_bipush (v := nI 8) X dX5_init_83 (by decide) ?_
  refine z_newaI (N := 8) X m_int (Nat.le_of_ble_eq_true rfl) (Nat.le_of_ble_eq_true rfl) (Nat.le_of_ble_eq_true rfl) dX5_init_85 (fun q11 => ?_)
  refine z_ws (ws' := [(h_, .inr (4, [.int 0, .int 0, .int 0, .ref q1, .int 0, .ref q2, .ref q3, .ref q4, .ref q5, .int (-9), .int 0, .int 0, .int 0, .int 0, .ref q6, .ref q7, .ref q8, .ref q9, .ref q10, .int 0, .null, .null, .null, .null, .null, .null, .null, .null, .int 0])), (q1, .inl (g.2.1, 6, .inl (fun _ => 0))), (q2, .inl (g.2.1, 4, .inl (fun _ => 0))), (q3, .inl (g.2.1, 4, .inl (fun _ => 0))), (q4, .inl (g.2.1, 4, .inl (fun _ => 0))), (q5, .inl (g.2.1, 4, .inl (fun _ => 0))), (q6, .inl (g.2.1, 6, .inl (fun _ => 0))), (q7, .inl (g.2.1, 4, .inl (fun _ => 0))), (q8, .inl (g.2.1, 4, .inl (fun _ => 0))), (q9, .inl (g.2.1, 4, .inl (fun _ => 0))), (q10, .inl (g.2.1, 4, .inl (fun _ => 0))), (q11, .inl (g.2.1, 8, .inl (fun _ => 0)))]) rfl ?_
  have X := zX.mv (c' := (11, 52)) X
  have F := zFn.mv (c' := (11, 52)) F
  refine z_putF (ws' := [(h_, .inr (4, [.int 0, .int 0, .int 0, .ref q1, .int 0, .ref q2, .ref q3, .ref q4, .ref q5, .int (-9), .int 0, .int 0, .int 0, .int 0, .ref q6, .ref q7, .ref q8, .ref q9, .ref q10, .int 0, .ref q11, .null, .null, .null, .null, .null, .null, .null, .int 0])), (q1, .inl (g.2.1, 6, .inl (fun _ => 0))), (q2, .inl (g.2.1, 4, .inl (fun _ => 0))), (q3, .inl (g.2.1, 4, .inl (fun _ => 0))), (q4, .inl (g.2.1, 4, .inl (fun _ => 0))), (q5, .inl (g.2.1, 4, .inl (fun _ => 0))), (q6, .inl (g.2.1, 6, .inl (fun _ => 0))), (q7, .inl (g.2.1, 4, .inl (fun _ => 0))), (q8, .inl (g.2.1, 4, .inl (fun _ => 0))), (q9, .inl (g.2.1, 4, .inl (fun _ => 0))), (q10, .inl (g.2.1, 4, .inl (fun _ => 0))), (q11, .inl (g.2.1, 8, .inl (fun _ => 0)))]) (N := 29) X F.2.2.2 i_RX5 (ci := 4) rfl tyX5 tyX5_ok nmX5 0 rfl 20 (by decide) f_44 rfl rfl (ty := .array .int) (by decide +kernel) rfl rfl (Nat.le_of_ble_eq_true rfl) dX5_init_87 rfl ?_
  refine z_aload_n X dX5_init_90 rfl 0 rfl ?_
  refine z_bipush (v := nI 8) X dX5_init_91 (by decide) ?_
  refine z_newaI (N := 8) X m_int (Nat.le_of_ble_eq_true rfl) (Nat.le_of_ble_eq_true rfl) (Nat.le_of_ble_eq_true rfl) dX5_init_93 (fun q12 => ?_)
  refine z_ws (ws' := [(h_, .inr (4, [.int 0, .int 0, .int 0, .ref q1, .int 0, .ref q2, .ref q3, .ref q4, .ref q5, .int (-9), .int 0, .int 0, .int 0, .int 0, .ref q6, .ref q7, .ref q8, .ref q9, .ref q10, .int 0, .ref q11, .null, .null, .null, .null, .null, .null, .null, .int 0])), (q1, .inl (g.2.1, 6, .inl (fun _ => 0))), (q2, .inl (g.2.1, 4, .inl (fun _ => 0))), (q3, .inl (g.2.1, 4, .inl (fun _ => 0))), (q4, .inl (g.2.1, 4, .inl (fun _ => 0))), (q5, .inl (g.2.1, 4, .inl (fun _ => 0))), (q6, .inl (g.2.1, 6, .inl (fun _ => 0))), (q7, .inl (g.2.1, 4, .inl (fun _ => 0))), (q8, .inl (g.2.1, 4, .inl (fun _ => 0))), (q9, .inl (g.2.1, 4, .inl (fun _ => 0))), (q10, .inl (g.2.1, 4, .inl (fun _ => 0))), (q11, .inl (g.2.1, 8, .inl (fun _ => 0))), (q12, .inl (g.2.1, 8, .inl (fun _ => 0)))]) rfl ?_
  have X := zX.mv (c' := (12, 60)) X
  have F := zFn.mv (c' := (12, 60)) F
  refine z_putF (ws' := [(h_, .inr (4, [.int 0, .int 0, .int 0, .ref q1, .int 0, .ref q2, .ref q3, .ref q4, .ref q5, .int (-9), .int 0, .int 0, .int 0, .int 0, .ref q6, .ref q7, .ref q8, .ref q9, .ref q10, .int 0, .ref q11, .ref q12, .null, .null, .null, .null, .null, .null, .int 0])), (q1, .inl (g.2.1, 6, .inl (fun _ => 0))), (q2, .inl (g.2.1, 4, .inl (fun _ => 0))), (q3, .inl (g.2.1, 4, .inl (fun _ => 0))), (q4, .inl (g.2.1, 4, .inl (fun _ => 0))), (q5, .inl (g.2.1, 4, .inl (fun _ => 0))), (q6, .inl (g.2.1, 6, .inl (fun _ => 0))), (q7, .inl (g.2.1, 4, .inl (fun _ => 0))), (q8, .inl (g.2.1, 4, .inl (fun _ => 0))), (q9, .inl (g.2.1, 4, .inl (fun _ => 0))), (q10, .inl (g.2.1, 4, .inl (fun _ => 0))), (q11, .inl (g.2.1, 8, .inl (fun _ => 0))), (q12, .inl (g.2.1, 8, .inl (fun _ => 0)))]) (N := 29) X F.2.2.2 i_RX5 (ci := 4) rfl tyX5 tyX5_ok nmX5 0 rfl 21 (by decide) f_47 rfl rfl (ty := .array .int) (by decide +kernel) rfl rfl (Nat.le_of_ble_eq_true rfl) dX5_init_95 rfl ?_
  refine z_aload_n X dX5_init_98 rfl 0 rfl ?_
  refine z_bipush (v := nI 8) X dX5_init_99 (by decide) ?_
  refine z_newaI (N := 8) X m_int (Nat.le_of_ble_eq_true rfl) (Nat.le_of_ble_eq_true rfl) (Nat.le_of_ble_eq_true rfl) dX5_init_101 (fun q13 => ?_)
  refine z_ws (ws' := [(h_, .inr (4, [.int 0, .int 0, .int 0, .ref q1, .int 0, .ref q2, .ref q3, .ref q4, .ref q5, .int (-9), .int 0, .int 0, .int 0, .int 0, .ref q6, .ref q7, .ref q8, .ref q9, .ref q10, .int 0, .ref q11, .ref q12, .null, .null, .null, .null, .null, .null, .int 0])), (q1, .inl (g.2.1, 6, .inl (fun _ => 0))), (q2, .inl (g.2.1, 4, .inl (fun _ => 0))), (q3, .inl (g.2.1, 4, .inl (fun _ => 0))), (q4, .inl (g.2.1, 4, .inl (fun _ => 0))), (q5, .inl (g.2.1, 4, .inl (fun _ => 0))), (q6, .inl (g.2.1, 6, .inl (fun _ => 0))), (q7, .inl (g.2.1, 4, .inl (fun _ => 0))), (q8, .inl (g.2.1, 4, .inl (fun _ => 0))), (q9, .inl (g.2.1, 4, .inl (fun _ => 0))), (q10, .inl (g.2.1, 4, .inl (fun _ => 0))), (q11, .inl (g.2.1, 8, .inl (fun _ => 0))), (q12, .inl (g.2.1, 8, .inl (fun _ => 0))), (q13, .inl (g.2.1, 8, .inl (fun _ => 0)))]) rfl ?_
  have X := zX.mv (c' := (13, 68)) X
  have F := zFn.mv (c' := (13, 68)) F
  refine z_putF (ws' := [(h_, .inr (4, [.int 0, .int 0, .int 0, .ref q1, .int 0, .ref q2, .ref q3, .ref q4, .ref q5, .int (-9), .int 0, .int 0, .int 0, .int 0, .ref q6, .ref q7, .ref q8, .ref q9, .ref q10, .int 0, .ref q11, .ref q12, .ref q13, .null, .null, .null, .null, .null, .int 0])), (q1, .inl (g.2.1, 6, .inl (fun _ => 0))), (q2, .inl (g.2.1, 4, .inl (fun _ => 0))), (q3, .inl (g.2.1, 4, .inl (fun _ => 0))), (q4, .inl (g.2.1, 4, .inl (fun _ => 0))), (q5, .inl (g.2.1, 4, .inl (fun _ => 0))), (q6, .inl (g.2.1, 6, .inl (fun _ => 0))), (q7, .inl (g.2.1, 4, .inl (fun _ => 0))), (q8, .inl (g.2.1, 4, .inl (fun _ => 0))), (q9, .inl (g.2.1, 4, .inl (fun _ => 0))), (q10, .inl (g.2.1, 4, .inl (fun _ => 0))), (q11, .inl (g.2.1, 8, .inl (fun _ => 0))), (q12, .inl (g.2.1, 8, .inl (fun _ => 0))), (q13, .inl (g.2.1, 8, .inl (fun _ => 0)))]) (N := 29) X F.2.2.2 i_RX5 (ci := 4) rfl tyX5 tyX5_ok nmX5 0 rfl 22 (by decide) f_50 rfl rfl (ty := .array .int) (by decide +kernel) rfl rfl (Nat.le_of_ble_eq_true rfl) dX5_init_103 rfl ?_
  refine z_aload_n X dX5_init_106 rfl 0 rfl ?_
  refine z_bipush (v := nI 8) X dX5_init_107 (by decide) ?_
  refine z_newaZ (N := 8) X m_boolean (Nat.le_of_ble_eq_true rfl) (Nat.le_of_ble_eq_true rfl) (Nat.le_of_ble_eq_true rfl) dX5_init_109 (fun q14 => ?_)
  refine z_ws (ws' := [(h_, .inr (4, [.int 0, .int 0, .int 0, .ref q1, .int 0, .ref q2, .ref q3, .ref q4, .ref q5, .int (-9), .int 0, .int 0, .int 0, .int 0, .ref q6, .ref q7, .ref q8, .ref q9, .ref q10, .int 0, .ref q11, .ref q12, .ref q13, .null, .null, .null, .null, .null, .int 0])), (q1, .inl (g.2.1, 6, .inl (fun _ => 0))), (q2, .inl (g.2.1, 4, .inl (fun _ => 0))), (q3, .inl (g.2.1, 4, .inl (fun _ => 0))), (q4, .inl (g.2.1, 4, .inl (fun _ => 0))), (q5, .inl (g.2.1, 4, .inl (fun _ => 0))), (q6, .inl (g.2.1, 6, .inl (fun _ => 0))), (q7, .inl (g.2.1, 4, .inl (fun _ => 0))), (q8, .inl (g.2.1, 4, .inl (fun _ => 0))), (q9, .inl (g.2.1, 4, .inl (fun _ => 0))), (q10, .inl (g.2.1, 4, .inl (fun _ => 0))), (q11, .inl (g.2.1, 8, .inl (fun _ => 0))), (q12, .inl (g.2.1, 8, .inl (fun _ => 0))), (q13, .inl (g.2.1, 8, .inl (fun _ => 0))), (q14, .inl (g.2.2.1, 8, .inl (fun _ => 0)))]) rfl ?_
  have X := zX.mv (c' := (14, 76)) X
  have F := zFn.mv (c' := (14, 76)) F
  refine z_putF (ws' := [(h_, .inr (4, [.int 0, .int 0, .int 0, .ref q1, .int 0, .ref q2, .ref q3, .ref q4, .ref q5, .int (-9), .int 0, .int 0, .int 0, .int 0, .ref q6, .ref q7, .ref q8, .ref q9, .ref q10, .int 0, .ref q11, .ref q12, .ref q13, .ref q14, .null, .null, .null, .null, .int 0])), (q1, .inl (g.2.1, 6, .inl (fun _ => 0))), (q2, .inl (g.2.1, 4, .inl (fun _ => 0))), (q3, .inl (g.2.1, 4, .inl (fun _ => 0))), (q4, .inl (g.2.1, 4, .inl (fun _ => 0))), (q5, .inl (g.2.1, 4, .inl (fun _ => 0))), (q6, .inl (g.2.1, 6, .inl (fun _ => 0))), (q7, .inl (g.2.1, 4, .inl (fun _ => 0))), (q8, .inl (g.2.1, 4, .inl (fun _ => 0))), (q9, .inl (g.2.1, 4, .inl (fun _ => 0))), (q10, .inl (g.2.1, 4, .inl (fun _ => 0))), (q11, .inl (g.2.1, 8, .inl (fun _ => 0))), (q12, .inl (g.2.1, 8, .inl (fun _ => 0))), (q13, .inl (g.2.1, 8, .inl (fun _ => 0))), (q14, .inl (g.2.2.1, 8, .inl (fun _ => 0)))]) (N := 29) X F.2.2.2 i_RX5 (ci := 4) rfl tyX5 tyX5_ok nmX5 0 rfl 23 (by decide) f_53 rfl rfl (ty := .array .boolean) (by decide +kernel) rfl rfl (Nat.le_of_ble_eq_true rfl) dX5_init_111 rfl ?_
  refine z_aload_n X dX5_init_114 rfl 0 rfl ?_
  refine z_iconst (v := nI 4) X dX5_init_115 (by decide) ?_
  refine z_newaI (N := 4) X m_int (Nat.le_of_ble_eq_true rfl) (Nat.le_of_ble_eq_true rfl) (Nat.le_of_ble_eq_true rfl) dX5_init_116 (fun q15 => ?_)
  refine z_ws (ws' := [(h_, .inr (4, [.int 0, .int 0, .int 0, .ref q1, .int 0, .ref q2, .ref q3, .ref q4, .ref q5, .int (-9), .int 0, .int 0, .int 0, .int 0, .ref q6, .ref q7, .ref q8, .ref q9, .ref q10, .int 0, .ref q11, .ref q12, .ref q13, .ref q14, .null, .null, .null, .null, .int 0])), (q1, .inl (g.2.1, 6, .inl (fun _ => 0))), (q2, .inl (g.2.1, 4, .inl (fun _ => 0))), (q3, .inl (g.2.1, 4, .inl (fun _ => 0))), (q4, .inl (g.2.1, 4, .inl (fun _ => 0))), (q5, .inl (g.2.1, 4, .inl (fun _ => 0))), (q6, .inl (g.2.1, 6, .inl (fun _ => 0))), (q7, .inl (g.2.1, 4, .inl (fun _ => 0))), (q8, .inl (g.2.1, 4, .inl (fun _ => 0))), (q9, .inl (g.2.1, 4, .inl (fun _ => 0))), (q10, .inl (g.2.1, 4, .inl (fun _ => 0))), (q11, .inl (g.2.1, 8, .inl (fun _ => 0))), (q12, .inl (g.2.1, 8, .inl (fun _ => 0))), (q13, .inl (g.2.1, 8, .inl (fun _ => 0))), (q14, .inl (g.2.2.1, 8, .inl (fun _ => 0))), (q15, .inl (g.2.1, 4, .inl (fun _ => 0)))]) rfl ?_
  have X := zX.mv (c' := (15, 80)) X
  have F := zFn.mv (c' := (15, 80)) F
  refine z_putF (ws' := [(h_, .inr (4, [.int 0, .int 0, .int 0, .ref q1, .int 0, .ref q2, .ref q3, .ref q4, .ref q5, .int (-9), .int 0, .int 0, .int 0, .int 0, .ref q6, .ref q7, .ref q8, .ref q9, .ref q10, .int 0, .ref q11, .ref q12, .ref q13, .ref q14, .ref q15, .null, .null, .null, .int 0])), (q1, .inl (g.2.1, 6, .inl (fun _ => 0))), (q2, .inl (g.2.1, 4, .inl (fun _ => 0))), (q3, .inl (g.2.1, 4, .inl (fun _ => 0))), (q4, .inl (g.2.1, 4, .inl (fun _ => 0))), (q5, .inl (g.2.1, 4, .inl (fun _ => 0))), (q6, .inl (g.2.1, 6, .inl (fun _ => 0))), (q7, .inl (g.2.1, 4, .inl (fun _ => 0))), (q8, .inl (g.2.1, 4, .inl (fun _ => 0))), (q9, .inl (g.2.1, 4, .inl (fun _ => 0))), (q10, .inl (g.2.1, 4, .inl (fun _ => 0))), (q11, .inl (g.2.1, 8, .inl (fun _ => 0))), (q12, .inl (g.2.1, 8, .inl (fun _ => 0))), (q13, .inl (g.2.1, 8, .inl (fun _ => 0))), (q14, .inl (g.2.2.1, 8, .inl (fun _ => 0))), (q15, .inl (g.2.1, 4, .inl (fun _ => 0)))]) (N := 29) X F.2.2.2 i_RX5 (ci := 4) rfl tyX5 tyX5_ok nmX5 0 rfl 24 (by decide) f_57 rfl rfl (ty := .array .int) (by decide +kernel) rfl rfl (Nat.le_of_ble_eq_true rfl) dX5_init_118 rfl ?_
  refine z_aload_n X dX5_init_121 rfl 0 rfl ?_
  refine z_iconst (v := nI 4) X dX5_init_122 (by decide) ?_
  refine z_newaI (N := 4) X m_int (Nat.le_of_ble_eq_true rfl) (Nat.le_of_ble_eq_true rfl) (Nat.le_of_ble_eq_true rfl) dX5_init_123 (fun q16 => ?_)
  refine z_ws (ws' := [(h_, .inr (4, [.int 0, .int 0, .int 0, .ref q1, .int 0, .ref q2, .ref q3, .ref q4, .ref q5, .int (-9), .int 0, .int 0, .int 0, .int 0, .ref q6, .ref q7, .ref q8, .ref q9, .ref q10, .int 0, .ref q11, .ref q12, .ref q13, .ref q14, .ref q15, .null, .null, .null, .int 0])), (q1, .inl (g.2.1, 6, .inl (fun _ => 0))), (q2, .inl (g.2.1, 4, .inl (fun _ => 0))), (q3, .inl (g.2.1, 4, .inl (fun _ => 0))), (q4, .inl (g.2.1, 4, .inl (fun _ => 0))), (q5, .inl (g.2.1, 4, .inl (fun _ => 0))), (q6, .inl (g.2.1, 6, .inl (fun _ => 0))), (q7, .inl (g.2.1, 4, .inl (fun _ => 0))), (q8, .inl (g.2.1, 4, .inl (fun _ => 0))), (q9, .inl (g.2.1, 4, .inl (fun _ => 0))), (q10, .inl (g.2.1, 4, .inl (fun _ => 0))), (q11, .inl (g.2.1, 8, .inl (fun _ => 0))), (q12, .inl (g.2.1, 8, .inl (fun _ => 0))), (q13, .inl (g.2.1, 8, .inl (fun _ => 0))), (q14, .inl (g.2.2.1, 8, .inl (fun _ => 0))), (q15, .inl (g.2.1, 4, .inl (fun _ => 0))), (q16, .inl (g.2.1, 4, .inl (fun _ => 0)))]) rfl ?_
  have X := zX.mv (c' := (16, 84)) X
  have F := zFn.mv (c' := (16, 84)) F
  refine z_putF (ws' := [(h_, .inr (4, [.int 0, .int 0, .int 0, .ref q1, .int 0, .ref q2, .ref q3, .ref q4, .ref q5, .int (-9), .int 0, .int 0, .int 0, .int 0, .ref q6, .ref q7, .ref q8, .ref q9, .ref q10, .int 0, .ref q11, .ref q12, .ref q13, .ref q14, .ref q15, .ref q16, .null, .null, .int 0])), (q1, .inl (g.2.1, 6, .inl (fun _ => 0))), (q2, .inl (g.2.1, 4, .inl (fun _ => 0))), (q3, .inl (g.2.1, 4, .inl (fun _ => 0))), (q4, .inl (g.2.1, 4, .inl (fun _ => 0))), (q5, .inl (g.2.1, 4, .inl (fun _ => 0))), (q6, .inl (g.2.1, 6, .inl (fun _ => 0))), (q7, .inl (g.2.1, 4, .inl (fun _ => 0))), (q8, .inl (g.2.1, 4, .inl (fun _ => 0))), (q9, .inl (g.2.1, 4, .inl (fun _ => 0))), (q10, .inl (g.2.1, 4, .inl (fun _ => 0))), (q11, .inl (g.2.1, 8, .inl (fun _ => 0))), (q12, .inl (g.2.1, 8, .inl (fun _ => 0))), (q13, .inl (g.2.1, 8, .inl (fun _ => 0))), (q14, .inl (g.2.2.1, 8, .inl (fun _ => 0))), (q15, .inl (g.2.1, 4, .inl (fun _ => 0))), (q16, .inl (g.2.1, 4, .inl (fun _ => 0)))]) (N := 29) X F.2.2.2 i_RX5 (ci := 4) rfl tyX5 tyX5_ok nmX5 0 rfl 25 (by decide) f_60 rfl rfl (ty := .array .int) (by decide +kernel) rfl rfl (Nat.le_of_ble_eq_true rfl) dX5_init_125 rfl ?_
  refine z_aload_n X dX5_init_128 rfl 0 rfl ?_
  refine z_sipush (v := nI 240) X dX5_init_129 (by decide) ?_
  refine z_newaI (N := 240) X m_int (Nat.le_of_ble_eq_true rfl) (Nat.le_of_ble_eq_true rfl) (Nat.le_of_ble_eq_true rfl) dX5_init_132 (fun q17 => ?_)
  refine z_ws (ws' := [(h_, .inr (4, [.int 0, .int 0, .int 0, .ref q1, .int 0, .ref q2, .ref q3, .ref q4, .ref q5, .int (-9), .int 0, .int 0, .int 0, .int 0, .ref q6, .ref q7, .ref q8, .ref q9, .ref q10, .int 0, .ref q11, .ref q12, .ref q13, .ref q14, .ref q15, .ref q16, .null, .null, .int 0])), (q1, .inl (g.2.1, 6, .inl (fun _ => 0))), (q2, .inl (g.2.1, 4, .inl (fun _ => 0))), (q3, .inl (g.2.1, 4, .inl (fun _ => 0))), (q4, .inl (g.2.1, 4, .inl (fun _ => 0))), (q5, .inl (g.2.1, 4, .inl (fun _ => 0))), (q6, .inl (g.2.1, 6, .inl (fun _ => 0))), (q7, .inl (g.2.1, 4, .inl (fun _ => 0))), (q8, .inl (g.2.1, 4, .inl (fun _ => 0))), (q9, .inl (g.2.1, 4, .inl (fun _ => 0))), (q10, .inl (g.2.1, 4, .inl (fun _ => 0))), (q11, .inl (g.2.1, 8, .inl (fun _ => 0))), (q12, .inl (g.2.1, 8, .inl (fun _ => 0))), (q13, .inl (g.2.1, 8, .inl (fun _ => 0))), (q14, .inl (g.2.2.1, 8, .inl (fun _ => 0))), (q15, .inl (g.2.1, 4, .inl (fun _ => 0))), (q16, .inl (g.2.1, 4, .inl (fun _ => 0))), (q17, .inl (g.2.1, 240, .inl (fun _ => 0)))]) rfl ?_
  have X := zX.mv (c' := (17, 324)) X
  have F := zFn.mv (c' := (17, 324)) F
  refine z_putF (ws' := [(h_, .inr (4, [.int 0, .int 0, .int 0, .ref q1, .int 0, .ref q2, .ref q3, .ref q4, .ref q5, .int (-9), .int 0, .int 0, .int 0, .int 0, .ref q6, .ref q7, .ref q8, .ref q9, .ref q10, .int 0, .ref q11, .ref q12, .ref q13, .ref q14, .ref q15, .ref q16, .ref q17, .null, .int 0])), (q1, .inl (g.2.1, 6, .inl (fun _ => 0))), (q2, .inl (g.2.1, 4, .inl (fun _ => 0))), (q3, .inl (g.2.1, 4, .inl (fun _ => 0))), (q4, .inl (g.2.1, 4, .inl (fun _ => 0))), (q5, .inl (g.2.1, 4, .inl (fun _ => 0))), (q6, .inl (g.2.1, 6, .inl (fun _ => 0))), (q7, .inl (g.2.1, 4, .inl (fun _ => 0))), (q8, .inl (g.2.1, 4, .inl (fun _ => 0))), (q9, .inl (g.2.1, 4, .inl (fun _ => 0))), (q10, .inl (g.2.1, 4, .inl (fun _ => 0))), (q11, .inl (g.2.1, 8, .inl (fun _ => 0))), (q12, .inl (g.2.1, 8, .inl (fun _ => 0))), (q13, .inl (g.2.1, 8, .inl (fun _ => 0))), (q14, .inl (g.2.2.1, 8, .inl (fun _ => 0))), (q15, .inl (g.2.1, 4, .inl (fun _ => 0))), (q16, .inl (g.2.1, 4, .inl (fun _ => 0))), (q17, .inl (g.2.1, 240, .inl (fun _ => 0)))]) (N := 29) X F.2.2.2 i_RX5 (ci := 4) rfl tyX5 tyX5_ok nmX5 0 rfl 26 (by decide) f_63 rfl rfl (ty := .array .int) (by decide +kernel) rfl rfl (Nat.le_of_ble_eq_true rfl) dX5_init_134 rfl ?_
  refine z_aload_n X dX5_init_137 rfl 0 rfl ?_
  refine z_bipush (v := nI 60) X dX5_init_138 (by decide) ?_
  refine z_newaI (N := 60) X m_int (Nat.le_of_ble_eq_true rfl) (Nat.le_of_ble_eq_true rfl) (Nat.le_of_ble_eq_true rfl) dX5_init_140 (fun q18 => ?_)
  refine z_ws (ws' := [(h_, .inr (4, [.int 0, .int 0, .int 0, .ref q1, .int 0, .ref q2, .ref q3, .ref q4, .ref q5, .int (-9), .int 0, .int 0, .int 0, .int 0, .ref q6, .ref q7, .ref q8, .ref q9, .ref q10, .int 0, .ref q11, .ref q12, .ref q13, .ref q14, .ref q15, .ref q16, .ref q17, .null, .int 0])), (q1, .inl (g.2.1, 6, .inl (fun _ => 0))), (q2, .inl (g.2.1, 4, .inl (fun _ => 0))), (q3, .inl (g.2.1, 4, .inl (fun _ => 0))), (q4, .inl (g.2.1, 4, .inl (fun _ => 0))), (q5, .inl (g.2.1, 4, .inl (fun _ => 0))), (q6, .inl (g.2.1, 6, .inl (fun _ => 0))), (q7, .inl (g.2.1, 4, .inl (fun _ => 0))), (q8, .inl (g.2.1, 4, .inl (fun _ => 0))), (q9, .inl (g.2.1, 4, .inl (fun _ => 0))), (q10, .inl (g.2.1, 4, .inl (fun _ => 0))), (q11, .inl (g.2.1, 8, .inl (fun _ => 0))), (q12, .inl (g.2.1, 8, .inl (fun _ => 0))), (q13, .inl (g.2.1, 8, .inl (fun _ => 0))), (q14, .inl (g.2.2.1, 8, .inl (fun _ => 0))), (q15, .inl (g.2.1, 4, .inl (fun _ => 0))), (q16, .inl (g.2.1, 4, .inl (fun _ => 0))), (q17, .inl (g.2.1, 240, .inl (fun _ => 0))), (q18, .inl (g.2.1, 60, .inl (fun _ => 0)))]) rfl ?_
  have X := zX.mv (c' := (18, 384)) X
  have F := zFn.mv (c' := (18, 384)) F
  refine z_putF (ws' := [(h_, .inr (4, [.int 0, .int 0, .int 0, .ref q1, .int 0, .ref q2, .ref q3, .ref q4, .ref q5, .int (-9), .int 0, .int 0, .int 0, .int 0, .ref q6, .ref q7, .ref q8, .ref q9, .ref q10, .int 0, .ref q11, .ref q12, .ref q13, .ref q14, .ref q15, .ref q16, .ref q17, .ref q18, .int 0])), (q1, .inl (g.2.1, 6, .inl (fun _ => 0))), (q2, .inl (g.2.1, 4, .inl (fun _ => 0))), (q3, .inl (g.2.1, 4, .inl (fun _ => 0))), (q4, .inl (g.2.1, 4, .inl (fun _ => 0))), (q5, .inl (g.2.1, 4, .inl (fun _ => 0))), (q6, .inl (g.2.1, 6, .inl (fun _ => 0))), (q7, .inl (g.2.1, 4, .inl (fun _ => 0))), (q8, .inl (g.2.1, 4, .inl (fun _ => 0))), (q9, .inl (g.2.1, 4, .inl (fun _ => 0))), (q10, .inl (g.2.1, 4, .inl (fun _ => 0))), (q11, .inl (g.2.1, 8, .inl (fun _ => 0))), (q12, .inl (g.2.1, 8, .inl (fun _ => 0))), (q13, .inl (g.2.1, 8, .inl (fun _ => 0))), (q14, .inl (g.2.2.1, 8, .inl (fun _ => 0))), (q15, .inl (g.2.1, 4, .inl (fun _ => 0))), (q16, .inl (g.2.1, 4, .inl (fun _ => 0))), (q17, .inl (g.2.1, 240, .inl (fun _ => 0))), (q18, .inl (g.2.1, 60, .inl (fun _ => 0)))]) (N := 29) X F.2.2.2 i_RX5 (ci := 4) rfl tyX5 tyX5_ok nmX5 0 rfl 27 (by decide) f_66 rfl rfl (ty := .array .int) (by decide +kernel) rfl rfl (Nat.le_of_ble_eq_true rfl) dX5_init_142 rfl ?_
  refine z_iconst (v := nI 0) X dX5_init_145 (by decide) ?_
  refine z_istore_n (L' := [(1, .int (nI 0)), (0, .ref h_)]) X dX5_init_146 rfl (by decide) rfl ?_
  refine z_iload_n X dX5_init_147 rfl 0 rfl ?_
  refine z_iconst (v := nI 4) X dX5_init_148 (by decide) ?_
  refine z_icmp_geN (tgt := 165) X dX5_init_149 (by decide) (by decide) (by decide) (fun h => absurd h (by decide)) (fun _ => ?_)
  refine z_aload_n X dX5_init_152 rfl 1 rfl ?_
  refine z_get (v := .ref q15) (N := 29) X i_RX5 (ci := 4) rfl 0 rfl 24 (by decide) f_57 rfl dX5_init_153 ?_
  refine z_iload_n X dX5_init_156 rfl 0 rfl ?_
  refine z_iconst (v := (-1)) X dX5_init_157 (by decide) ?_
  refine z_iastN (ws' := [(h_, .inr (4, [.int 0, .int 0, .int 0, .ref q1, .int 0, .ref q2, .ref q3, .ref q4, .ref q5, .int (-9), .int 0, .int 0, .int 0, .int 0, .ref q6, .ref q7, .ref q8, .ref q9, .ref q10, .int 0, .ref q11, .ref q12, .ref q13, .ref q14, .ref q15, .ref q16, .ref q17, .ref q18, .int 0])), (q1, .inl (g.2.1, 6, .inl (fun _ => 0))), (q2, .inl (g.2.1, 4, .inl (fun _ => 0))), (q3, .inl (g.2.1, 4, .inl (fun _ => 0))), (q4, .inl (g.2.1, 4, .inl (fun _ => 0))), (q5, .inl (g.2.1, 4, .inl (fun _ => 0))), (q6, .inl (g.2.1, 6, .inl (fun _ => 0))), (q7, .inl (g.2.1, 4, .inl (fun _ => 0))), (q8, .inl (g.2.1, 4, .inl (fun _ => 0))), (q9, .inl (g.2.1, 4, .inl (fun _ => 0))), (q10, .inl (g.2.1, 4, .inl (fun _ => 0))), (q11, .inl (g.2.1, 8, .inl (fun _ => 0))), (q12, .inl (g.2.1, 8, .inl (fun _ => 0))), (q13, .inl (g.2.1, 8, .inl (fun _ => 0))), (q14, .inl (g.2.2.1, 8, .inl (fun _ => 0))), (q15, .inl (g.2.1, 4, .inl (upd (fun _ => 0) 0 (-1)))), (q16, .inl (g.2.1, 4, .inl (fun _ => 0))), (q17, .inl (g.2.1, 240, .inl (fun _ => 0))), (q18, .inl (g.2.1, 60, .inl (fun _ => 0)))]) X 15 rfl (by decide) (by decide) dX5_init_158 rfl ?_
  refine z_iinc (v := nI 1) (L' := [(1, .int (nI 1)), (0, .ref h_)]) X dX5_init_159 0 rfl (nI_inc 0 1) (by decide) rfl ?_
  refine z_goto (tgt := 147) X dX5_init_162 (by decide) ?_
  refine z_iload_n X dX5_init_147 rfl 0 rfl ?_
  refine z_iconst (v := nI 4) X dX5_init_148 (by decide) ?_
  refine z_icmp_geN (tgt := 165) X dX5_init_149 (by decide) (by decide) (by decide) (fun h => absurd h (by decide)) (fun _ => ?_)
  refine z_aload_n X dX5_init_152 rfl 1 rfl ?_
  refine z_get (v := .ref q15) (N := 29) X i_RX5 (ci := 4) rfl 0 rfl 24 (by decide) f_57 rfl dX5_init_153 ?_
  refine z_iload_n X dX5_init_156 rfl 0 rfl ?_
  refine z_iconst (v := (-1)) X dX5_init_157 (by decide) ?_
  refine z_iastN (ws' := [(h_, .inr (4, [.int 0, .int 0, .int 0, .ref q1, .int 0, .ref q2, .ref q3, .ref q4, .ref q5, .int (-9), .int 0, .int 0, .int 0, .int 0, .ref q6, .ref q7, .ref q8, .ref q9, .ref q10, .int 0, .ref q11, .ref q12, .ref q13, .ref q14, .ref q15, .ref q16, .ref q17, .ref q18, .int 0])), (q1, .inl (g.2.1, 6, .inl (fun _ => 0))), (q2, .inl (g.2.1, 4, .inl (fun _ => 0))), (q3, .inl (g.2.1, 4, .inl (fun _ => 0))), (q4, .inl (g.2.1, 4, .inl (fun _ => 0))), (q5, .inl (g.2.1, 4, .inl (fun _ => 0))), (q6, .inl (g.2.1, 6, .inl (fun _ => 0))), (q7, .inl (g.2.1, 4, .inl (fun _ => 0))), (q8, .inl (g.2.1, 4, .inl (fun _ => 0))), (q9, .inl (g.2.1, 4, .inl (fun _ => 0))), (q10, .inl (g.2.1, 4, .inl (fun _ => 0))), (q11, .inl (g.2.1, 8, .inl (fun _ => 0))), (q12, .inl (g.2.1, 8, .inl (fun _ => 0))), (q13, .inl (g.2.1, 8, .inl (fun _ => 0))), (q14, .inl (g.2.2.1, 8, .inl (fun _ => 0))), (q15, .inl (g.2.1, 4, .inl (upd (upd (fun _ => 0) 0 (-1)) 1 (-1)))), (q16, .inl (g.2.1, 4, .inl (fun _ => 0))), (q17, .inl (g.2.1, 240, .inl (fun _ => 0))), (q18, .inl (g.2.1, 60, .inl (fun _ => 0)))]) X 15 rfl (by decide) (by decide) dX5_init_158 rfl ?_
  refine z_iinc (v := nI 2) (L' := [(1, .int (nI 2)), (0, .ref h_)]) X dX5_init_159 0 rfl (nI_inc 1 1) (by decide) rfl ?_
  refine z_goto (tgt := 147) X dX5_init_162 (by decide) ?_
  refine z_iload_n X dX5_init_147 rfl 0 rfl ?_
  refine z_iconst (v := nI 4) X dX5_init_148 (by decide) ?_
  refine z_icmp_geN (tgt := 165) X dX5_init_149 (by decide) (by decide) (by decide) (fun h => absurd h (by decide)) (fun _ => ?_)
  refine z_aload_n X dX5_init_152 rfl 1 rfl ?_
  refine z_get (v := .ref q15) (N := 29) X i_RX5 (ci := 4) rfl 0 rfl 24 (by decide) f_57 rfl dX5_init_153 ?_
  refine z_iload_n X dX5_init_156 rfl 0 rfl ?_
  refine z_iconst (v := (-1)) X dX5_init_157 (by decide) ?_
  refine z_iastN (ws' := [(h_, .inr (4, [.int 0, .int 0, .int 0, .ref q1, .int 0, .ref q2, .ref q3, .ref q4, .ref q5, .int (-9), .int 0, .int 0, .int 0, .int 0, .ref q6, .ref q7, .ref q8, .ref q9, .ref q10, .int 0, .ref q11, .ref q12, .ref q13, .ref q14, .ref q15, .ref q16, .ref q17, .ref q18, .int 0])), (q1, .inl (g.2.1, 6, .inl (fun _ => 0))), (q2, .inl (g.2.1, 4, .inl (fun _ => 0))), (q3, .inl (g.2.1, 4, .inl (fun _ => 0))), (q4, .inl (g.2.1, 4, .inl (fun _ => 0))), (q5, .inl (g.2.1, 4, .inl (fun _ => 0))), (q6, .inl (g.2.1, 6, .inl (fun _ => 0))), (q7, .inl (g.2.1, 4, .inl (fun _ => 0))), (q8, .inl (g.2.1, 4, .inl (fun _ => 0))), (q9, .inl (g.2.1, 4, .inl (fun _ => 0))), (q10, .inl (g.2.1, 4, .inl (fun _ => 0))), (q11, .inl (g.2.1, 8, .inl (fun _ => 0))), (q12, .inl (g.2.1, 8, .inl (fun _ => 0))), (q13, .inl (g.2.1, 8, .inl (fun _ => 0))), (q14, .inl (g.2.2.1, 8, .inl (fun _ => 0))), (q15, .inl (g.2.1, 4, .inl (upd (upd (upd (fun _ => 0) 0 (-1)) 1 (-1)) 2 (-1)))), (q16, .inl (g.2.1, 4, .inl (fun _ => 0))), (q17, .inl (g.2.1, 240, .inl (fun _ => 0))), (q18, .inl (g.2.1, 60, .inl (fun _ => 0)))]) X 15 rfl (by decide) (by decide) dX5_init_158 rfl ?_
  refine z_iinc (v := nI 3) (L' := [(1, .int (nI 3)), (0, .ref h_)]) X dX5_init_159 0 rfl (nI_inc 2 1) (by decide) rfl ?_
  refine z_goto (tgt := 147) X dX5_init_162 (by decide) ?_
  refine z_iload_n X dX5_init_147 rfl 0 rfl ?_
  refine z_iconst (v := nI 4) X dX5_init_148 (by decide) ?_
  refine z_icmp_geN (tgt := 165) X dX5_init_149 (by decide) (by decide) (by decide) (fun h => absurd h (by decide)) (fun _ => ?_)
  refine z_aload_n X dX5_init_152 rfl 1 rfl ?_
  refine z_get (v := .ref q15) (N := 29) X i_RX5 (ci := 4) rfl 0 rfl 24 (by decide) f_57 rfl dX5_init_153 ?_
  refine z_iload_n X dX5_init_156 rfl 0 rfl ?_
  refine z_iconst (v := (-1)) X dX5_init_157 (by decide) ?_
  refine z_iastN (ws' := [(h_, .inr (4, [.int 0, .int 0, .int 0, .ref q1, .int 0, .ref q2, .ref q3, .ref q4, .ref q5, .int (-9), .int 0, .int 0, .int 0, .int 0, .ref q6, .ref q7, .ref q8, .ref q9, .ref q10, .int 0, .ref q11, .ref q12, .ref q13, .ref q14, .ref q15, .ref q16, .ref q17, .ref q18, .int 0])), (q1, .inl (g.2.1, 6, .inl (fun _ => 0))), (q2, .inl (g.2.1, 4, .inl (fun _ => 0))), (q3, .inl (g.2.1, 4, .inl (fun _ => 0))), (q4, .inl (g.2.1, 4, .inl (fun _ => 0))), (q5, .inl (g.2.1, 4, .inl (fun _ => 0))), (q6, .inl (g.2.1, 6, .inl (fun _ => 0))), (q7, .inl (g.2.1, 4, .inl (fun _ => 0))), (q8, .inl (g.2.1, 4, .inl (fun _ => 0))), (q9, .inl (g.2.1, 4, .inl (fun _ => 0))), (q10, .inl (g.2.1, 4, .inl (fun _ => 0))), (q11, .inl (g.2.1, 8, .inl (fun _ => 0))), (q12, .inl (g.2.1, 8, .inl (fun _ => 0))), (q13, .inl (g.2.1, 8, .inl (fun _ => 0))), (q14, .inl (g.2.2.1, 8, .inl (fun _ => 0))), (q15, .inl (g.2.1, 4, .inl (upd (upd (upd (upd (fun _ => 0) 0 (-1)) 1 (-1)) 2 (-1)) 3 (-1)))), (q16, .inl (g.2.1, 4, .inl (fun _ => 0))), (q17, .inl (g.2.1, 240, .inl (fun _ => 0))), (q18, .inl (g.2.1, 60, .inl (fun _ => 0)))]) X 15 rfl (by decide) (by decide) dX5_init_158 rfl ?_
  refine z_iinc (v := nI 4) (L' := [(1, .int (nI 4)), (0, .ref h_)]) X dX5_init_159 0 rfl (nI_inc 3 1) (by decide) rfl ?_
  refine z_goto (tgt := 147) X dX5_init_162 (by decide) ?_
  refine z_iload_n X dX5_init_147 rfl 0 rfl ?_
  refine z_iconst (v := nI 4) X dX5_init_148 (by decide) ?_
  refine z_icmp_geN (tgt := 165) X dX5_init_149 (by decide) (by decide) (by decide) (fun _ => ?_) (fun h => absurd h (by decide))
  exact z_vretn X F (Nat.le_of_ble_eq_true rfl) (Nat.le_of_ble_eq_true rfl) dX5_init_165 rfl ⟨q1, q2, q3, q4, q5, q6, q7, q8, q9, q10, q11, q12, q13, q14, q15, q16, q17, q18, rfl⟩
