abbrev rX4_faulted : Room := { frames := 0, cells := 0, slots := 0, locals := 0 }
set_option maxHeartbeats 4000000 in
set_option maxRecDepth 100000 in
theorem c_X4_faulted (l : Launch) (g : zg) (a : Nat → Nat) (ft : Int32) (tr : Int32) (f : Int32) : zM l g yX4_faulted wsX4_faulted rX4_faulted [.ref (a 0), .int f] (wO g a ft tr) (some (.int ((-10) - f))) (wO g a f tr) := by
  refine z_met (own := RX4) (cc := cX4_faulted) (maxL := 2) (ret := some .int) (by decide +kernel) rfl rfl (Nat.le_of_ble_eq_true rfl) ?_
  intro M X ZF
  refine z_Le (L' := [(0, .ref (a 0)), (1, .int f)]) rfl ?_
  have i_RX4 : ∀ w ∈ wsX40, w ∈ wsX4_faulted := by decide +kernel
  have f_32 : Cond.fieldLink RX4 32 (TX4 3).1 (TX4 3).2.1 (TX4 3).2.2.1 ∈ wsX4_faulted := by decide +kernel
  refine z_aload_n X dX4_faulted_0 rfl 0 rfl ?_
  refine z_iload_n X dX4_faulted_1 rfl 1 rfl ?_
  refine z_put (ws' := (wO g a f tr)) (N := 5) X i_RX4 (ci := 3) rfl tyX4 tyX4_ok nmX4 0 rfl 3 (by decide) f_32 rfl (ty := .int) (by decide +kernel) rfl rfl (Nat.le_of_ble_eq_true rfl) dX4_faulted_2 rfl ?_
  refine z_bipush (v := (-10)) X dX4_faulted_5 (by decide) ?_
  refine z_iload_n X dX4_faulted_7 rfl 1 rfl ?_
  refine z_isub X dX4_faulted_8 ?_
  exact z_iret X ZF dX4_faulted_9 rfl rfl
abbrev rX4_leaveInTrace : Room := { frames := 0, cells := 0, slots := 0, locals := 0 }
set_option maxHeartbeats 4000000 in
set_option maxRecDepth 100000 in
theorem c_X4_leaveInTrace (l : Launch) (g : zg) (a : Nat → Nat) (ft : Int32) (tr : Int32) (m : Int32) : zM l g yX4_leaveInTrace wsX4_leaveInTrace rX4_leaveInTrace [.ref (a 0), .int m] (wO g a ft tr) none (wO g a ft (nI 31 * tr + m)) := by
  refine z_met (own := RX4) (cc := cX4_leaveInTrace) (maxL := 2) (ret := none) (by decide +kernel) rfl rfl (Nat.le_of_ble_eq_true rfl) ?_
  intro M X ZF
  refine z_Le (L' := [(0, .ref (a 0)), (1, .int m)]) rfl ?_
  have i_RX4 : ∀ w ∈ wsX40, w ∈ wsX4_leaveInTrace := by decide +kernel
  have f_239 : Cond.fieldLink RX4 239 (TX4 4).1 (TX4 4).2.1 (TX4 4).2.2.1 ∈ wsX4_leaveInTrace := by decide +kernel
  refine z_aload_n X dX4_leaveInTrace_0 rfl 0 rfl ?_
  refine z_bipush (v := nI 31) X dX4_leaveInTrace_1 (by decide) ?_
  refine z_aload_n X dX4_leaveInTrace_3 rfl 0 rfl ?_
  refine z_get (v := .int tr) (N := 5) X i_RX4 (ci := 3) rfl 0 rfl 4 (by decide) f_239 rfl dX4_leaveInTrace_4 ?_
  refine z_imul X dX4_leaveInTrace_7 ?_
  refine z_iload_n X dX4_leaveInTrace_8 rfl 1 rfl ?_
  refine z_iadd X dX4_leaveInTrace_9 ?_
  refine z_put (ws' := (wO g a ft (((nI 31) * tr) + m))) (N := 5) X i_RX4 (ci := 3) rfl tyX4 tyX4_ok nmX4 0 rfl 4 (by decide) f_239 rfl (ty := .int) (by decide +kernel) rfl rfl (Nat.le_of_ble_eq_true rfl) dX4_leaveInTrace_10 rfl ?_
  exact z_vret X ZF dX4_leaveInTrace_13 rfl
abbrev rX4_sheetAt_in : Room := { frames := 0, cells := 0, slots := 0, locals := 0 }
set_option maxHeartbeats 4000000 in
set_option maxRecDepth 100000 in
theorem c_X4_sheetAt_in (l : Launch) (g : zg) (a : Nat → Nat) (ft : Int32) (tr : Int32) (k : Nat) (hk : k < 4) : zM l g yX4_sheetAt wsX4_sheetAt rX4_sheetAt_in [.ref (a 0), .int (nI k)] (wO g a ft tr ++ (wH g a)) (some (.ref (a (13 + 2 * k)))) (wO g a ft tr ++ (wH g a)) := by
  refine z_met (own := RX4) (cc := cX4_sheetAt) (maxL := 2) (ret := some (.object "MustardFast$Sheet")) (by decide +kernel) rfl rfl (Nat.le_of_ble_eq_true rfl) ?_
  intro M X ZF
  refine z_Le (L' := [(0, .ref (a 0)), (1, .int (nI k))]) rfl ?_
  have i_RX4 : ∀ w ∈ wsX40, w ∈ wsX4_sheetAt := by decide +kernel
  have f_27 : Cond.fieldLink RX4 27 (TX4 2).1 (TX4 2).2.1 (TX4 2).2.2.1 ∈ wsX4_sheetAt := by decide +kernel
  refine z_iload_n X dX4_sheetAt_0 rfl 1 rfl ?_
  refine z_if_ltN (tgt := 22) X dX4_sheetAt_1 (by decide) (by omega) (fun hq1 => ?_) (fun hq1 => ?_)
  ·
    exact absurd hq1 (by omega)
  ·
    refine z_iload_n X dX4_sheetAt_4 rfl 1 rfl ?_
    refine z_aload_n X dX4_sheetAt_5 rfl 0 rfl ?_
    refine z_get (v := .ref (a 12)) (N := 5) X i_RX4 (ci := 3) rfl 0 rfl 2 (by decide) f_27 rfl dX4_sheetAt_6 ?_
    refine z_alenQ X 1 rfl dX4_sheetAt_9 ?_
    refine z_icmp_geN (tgt := 22) X dX4_sheetAt_10 (by decide) (by omega) (by omega) (fun hq2 => ?_) (fun hq2 => ?_)
    ·
      exact absurd hq2 (by omega)
    ·
      refine z_aload_n X dX4_sheetAt_13 rfl 0 rfl ?_
      refine z_get (v := .ref (a 12)) (N := 5) X i_RX4 (ci := 3) rfl 0 rfl 2 (by decide) f_27 rfl dX4_sheetAt_14 ?_
      refine z_iload_n X dX4_sheetAt_17 rfl 1 rfl ?_
      refine z_aldqN (v := .ref (a (13 + 2 * k))) X 1 rfl (by omega) (by omega) rfl dX4_sheetAt_18 ?_
      refine z_goto (tgt := 23) X dX4_sheetAt_19 (by decide) ?_
      exact z_aret X ZF ⟨_, rfl⟩ (Or.inr ⟨_, rfl⟩) dX4_sheetAt_23 rfl rfl
abbrev rX4_sheetAt_out : Room := { frames := 0, cells := 0, slots := 0, locals := 0 }
set_option maxHeartbeats 4000000 in
set_option maxRecDepth 100000 in
theorem c_X4_sheetAt_out (l : Launch) (g : zg) (a : Nat → Nat) (ft : Int32) (tr : Int32) (x : Int32) (hx : zin x 4 = false) : zM l g yX4_sheetAt wsX4_sheetAt rX4_sheetAt_out [.ref (a 0), .int x] (wO g a ft tr ++ (wH g a)) (some (.null)) (wO g a ft tr ++ (wH g a)) := by
  refine z_met (own := RX4) (cc := cX4_sheetAt) (maxL := 2) (ret := some (.object "MustardFast$Sheet")) (by decide +kernel) rfl rfl (Nat.le_of_ble_eq_true rfl) ?_
  intro M X ZF
  refine z_Le (L' := [(0, .ref (a 0)), (1, .int x)]) rfl ?_
  have i_RX4 : ∀ w ∈ wsX40, w ∈ wsX4_sheetAt := by decide +kernel
  have f_27 : Cond.fieldLink RX4 27 (TX4 2).1 (TX4 2).2.1 (TX4 2).2.2.1 ∈ wsX4_sheetAt := by decide +kernel
  refine z_iload_n X dX4_sheetAt_0 rfl 1 rfl ?_
  refine z_if_lt (tgt := 22) X dX4_sheetAt_1 (by decide) (fun hq1 => ?_) (fun hq1 => ?_)
  ·
    refine z_null X dX4_sheetAt_22 ?_
    exact z_aret X ZF ⟨_, rfl⟩ (Or.inl rfl) dX4_sheetAt_23 rfl rfl
  ·
    refine z_iload_n X dX4_sheetAt_4 rfl 1 rfl ?_
    refine z_aload_n X dX4_sheetAt_5 rfl 0 rfl ?_
    refine z_get (v := .ref (a 12)) (N := 5) X i_RX4 (ci := 3) rfl 0 rfl 2 (by decide) f_27 rfl dX4_sheetAt_6 ?_
    refine z_alenQ X 1 rfl dX4_sheetAt_9 ?_
    refine z_icmp_ge (tgt := 22) X dX4_sheetAt_10 (by decide) (fun hq2 => ?_) (fun hq2 => ?_)
    ·
      refine z_null X dX4_sheetAt_22 ?_
      exact z_aret X ZF ⟨_, rfl⟩ (Or.inl rfl) dX4_sheetAt_23 rfl rfl
    ·
      exact absurd ((zin_c hq1 hq2).symm.trans hx) (by decide)
abbrev rX4_isAskedOfPlans : Room := { frames := 1, cells := 0, slots := 0, locals := 21 }
set_option maxHeartbeats 4000000 in
set_option maxRecDepth 100000 in
theorem c_X4_isAskedOfPlans (l : Launch) (g : zg) (x : Int32) : zM l g yX4_isAskedOfPlans wsX4_isAskedOfPlans rX4_isAskedOfPlans [.int x] [] (some (.int (bI (apl x)))) [] := by
  refine z_met (own := RX4) (cc := cX4_isAskedOfPlans) (maxL := 1) (ret := some .boolean) (by decide +kernel) rfl rfl (Nat.le_of_ble_eq_true rfl) ?_
  intro M X ZF
  refine z_Le (L' := [(0, .int x)]) rfl ?_
  refine z_iload_n X dX4_isAskedOfPlans_0 rfl 0 rfl ?_
  refine z_iconst (v := nI 3) X dX4_isAskedOfPlans_1 (by decide) ?_
  refine z_callS0 X (c_X4_isFrom0To l g x 3 (by omega)) gX4_isAskedOfPlans_X4_isFrom0To rfl ⟨rfl, rfl⟩ (by decide +kernel) ⟨Nat.le_of_ble_eq_true rfl, Nat.le_of_ble_eq_true rfl⟩ ZF.room (As := [.int x, .int (nI 3)]) (n := 2) rfl rfl (st1 := [.int (bI (zin x (3 + 1)))]) rfl (Nat.le_of_ble_eq_true rfl) dX4_isAskedOfPlans_2 ?_
  refine z_if_neB (tgt := 20) X dX4_isAskedOfPlans_5 (by decide) (fun hq1 => ?_) (fun hq1 => ?_)
  ·
    refine z_iconst (v := nI 1) X dX4_isAskedOfPlans_20 (by decide) ?_
    refine z_goto (tgt := 25) X dX4_isAskedOfPlans_21 (by decide) ?_
    exact z_zret X ZF dX4_isAskedOfPlans_25 (bI_nar _) (by simp [apl, bI, nI_one, nI_0, hq1]) rfl
  ·
    refine z_iload_n X dX4_isAskedOfPlans_8 rfl 0 rfl ?_
    refine z_bipush (v := nI 10) X dX4_isAskedOfPlans_9 (by decide) ?_
    refine z_icmp_lt (tgt := 24) X dX4_isAskedOfPlans_11 (by decide) (fun hq2 => ?_) (fun hq2 => ?_)
    ·
      refine z_iconst (v := nI 0) X dX4_isAskedOfPlans_24 (by decide) ?_
      exact z_zret X ZF dX4_isAskedOfPlans_25 (bI_nar _) (by simp [apl, bI, nI_one, nI_0, hq1, hq2]) rfl
    ·
      refine z_iload_n X dX4_isAskedOfPlans_14 rfl 0 rfl ?_
      refine z_bipush (v := nI 16) X dX4_isAskedOfPlans_15 (by decide) ?_
      refine z_icmp_ge (tgt := 24) X dX4_isAskedOfPlans_17 (by decide) (fun hq3 => ?_) (fun hq3 => ?_)
      ·
        refine z_iconst (v := nI 0) X dX4_isAskedOfPlans_24 (by decide) ?_
        exact z_zret X ZF dX4_isAskedOfPlans_25 (bI_nar _) (by simp [apl, bI, nI_one, nI_0, hq1, hq2, hq3]) rfl
      ·
        refine z_iconst (v := nI 1) X dX4_isAskedOfPlans_20 (by decide) ?_
        refine z_goto (tgt := 25) X dX4_isAskedOfPlans_21 (by decide) ?_
        exact z_zret X ZF dX4_isAskedOfPlans_25 (bI_nar _) (by simp [apl, bI, nI_one, nI_0, hq1, hq2, hq3]) rfl
abbrev rX4_eaterTelling : Room := { frames := 2, cells := 0, slots := 0, locals := 42 }
set_option maxHeartbeats 4000000 in
set_option maxRecDepth 100000 in
theorem c_X4_eaterTelling (l : Launch) (g : zg) (a : Nat → Nat) (ft : Int32) (tr : Int32) (D : Nat) (E : Nat) (so : Int32) (lk : Nat → Int32) (kd : Nat → Int32) (st : Nat → Int32) (sp : Nat → Int32) (nd : Nat → Int32) (k : Nat) (hk : k < 4) : zM l g yX4_eaterTelling wsX4_eaterTelling rX4_eaterTelling [.ref (a 0), .int (nI k)] (wO g a ft tr ++ (wD g a D E so lk kd st sp nd)) (some (.int (sp k))) (wO g a ft (nI 31 * tr + nI 1) ++ (wD g a D E so lk kd st sp nd)) := by
  refine z_met (own := RX4) (cc := cX4_eaterTelling) (maxL := 2) (ret := some .int) (by decide +kernel) rfl rfl (Nat.le_of_ble_eq_true rfl) ?_
  intro M X ZF
  refine z_Le (L' := [(0, .ref (a 0)), (1, .int (nI k))]) rfl ?_
  have i_RX4 : ∀ w ∈ wsX40, w ∈ wsX4_eaterTelling := by decide +kernel
  have f_12 : Cond.fieldLink RX4 12 (TX4 0).1 (TX4 0).2.1 (TX4 0).2.2.1 ∈ wsX4_eaterTelling := by decide +kernel
  refine z_aload_n X dX4_eaterTelling_0 rfl 0 rfl ?_
  refine z_iconst (v := nI 1) X dX4_eaterTelling_1 (by decide) ?_
  refine z_callV X (c_X4_leaveInTrace l g a ft tr (nI 1)) gX4_eaterTelling_X4_leaveInTrace rfl ⟨rfl, rfl⟩ (by decide +kernel) ⟨Nat.le_of_ble_eq_true rfl, Nat.le_of_ble_eq_true rfl⟩ ZF.room (ci := 3) rfl 0 rfl (isC := [0]) (by decide) rfl rfl (ws' := (wO g a ft (nI 31 * tr + (nI 1)) ++ (wD g a D E so lk kd st sp nd))) rfl (As := [.int (nI 1)]) (n := 1) rfl rfl (st1 := []) rfl (Nat.le_of_ble_eq_true rfl) dX4_eaterTelling_2 ?_
  refine z_aload_n X dX4_eaterTelling_5 rfl 0 rfl ?_
  refine z_get (v := .ref (a 1)) (N := 5) X i_RX4 (ci := 3) rfl 0 rfl 0 (by decide) f_12 rfl dX4_eaterTelling_6 ?_
  refine z_iload_n X dX4_eaterTelling_9 rfl 1 rfl ?_
  refine z_callV X (c_X0_spoonsOf l g a D E so lk kd st sp nd k (by omega)) gX4_eaterTelling_X0_spoonsOf rfl ⟨rfl, rfl⟩ (by decide +kernel) ⟨Nat.le_of_ble_eq_true rfl, Nat.le_of_ble_eq_true rfl⟩ ZF.room (ci := 0) rfl 1 rfl (isC := [1, 2, 3, 4, 5, 6]) (by decide) rfl rfl (ws' := (wO g a ft (nI 31 * tr + (nI 1)) ++ (wD g a D E so lk kd st sp nd))) rfl (As := [.int (nI k)]) (n := 1) rfl rfl (st1 := [.int (sp k)]) rfl (Nat.le_of_ble_eq_true rfl) dX4_eaterTelling_10 ?_
  exact z_iret X ZF dX4_eaterTelling_13 rfl rfl
abbrev rX4_slyTelling : Room := { frames := 3, cells := 0, slots := 0, locals := 63 }
set_option maxHeartbeats 4000000 in
set_option maxRecDepth 100000 in
theorem c_X4_slyTelling (l : Launch) (g : zg) (a : Nat → Nat) (ft : Int32) (tr : Int32) (D : Nat) (E : Nat) (so : Int32) (lk : Nat → Int32) (kd : Nat → Int32) (st : Nat → Int32) (sp : Nat → Int32) (nd : Nat → Int32) (k : Nat) (hk : k < 4) : zM l g yX4_slyTelling wsX4_slyTelling rX4_slyTelling [.ref (a 0), .int (nI k)] (wO g a ft tr ++ (wD g a D E so lk kd st sp nd)) (some (.int (sp k + nI 100))) (wO g a ft (nI 31 * (nI 31 * tr + nI 2) + nI 1) ++ (wD g a D E so lk kd st sp nd)) := by
  refine z_met (own := RX4) (cc := cX4_slyTelling) (maxL := 2) (ret := some .int) (by decide +kernel) rfl rfl (Nat.le_of_ble_eq_true rfl) ?_
  intro M X ZF
  refine z_Le (L' := [(0, .ref (a 0)), (1, .int (nI k))]) rfl ?_
  refine z_aload_n X dX4_slyTelling_0 rfl 0 rfl ?_
  refine z_iconst (v := nI 2) X dX4_slyTelling_1 (by decide) ?_
  refine z_callV X (c_X4_leaveInTrace l g a ft tr (nI 2)) gX4_slyTelling_X4_leaveInTrace rfl ⟨rfl, rfl⟩ (by decide +kernel) ⟨Nat.le_of_ble_eq_true rfl, Nat.le_of_ble_eq_true rfl⟩ ZF.room (ci := 3) rfl 0 rfl (isC := [0]) (by decide) rfl rfl (ws' := (wO g a ft (nI 31 * tr + (nI 2)) ++ (wD g a D E so lk kd st sp nd))) rfl (As := [.int (nI 2)]) (n := 1) rfl rfl (st1 := []) rfl (Nat.le_of_ble_eq_true rfl) dX4_slyTelling_2 ?_
  refine z_aload_n X dX4_slyTelling_5 rfl 0 rfl ?_
  refine z_iload_n X dX4_slyTelling_6 rfl 1 rfl ?_
  refine z_callVM X (c_X4_eaterTelling l g a ft (nI 31 * tr + (nI 2)) D E so lk kd st sp nd k (by omega)) gX4_slyTelling_X4_eaterTelling rfl ⟨rfl, rfl⟩ (by decide +kernel) ⟨Nat.le_of_ble_eq_true rfl, Nat.le_of_ble_eq_true rfl⟩ ZF.room (ci := 3) rfl 0 rfl rfl (As := [.int (nI k)]) (n := 1) rfl rfl (st1 := [.int (sp k)]) rfl (Nat.le_of_ble_eq_true rfl) dX4_slyTelling_7 ?_
  refine z_bipush (v := nI 100) X dX4_slyTelling_10 (by decide) ?_
  refine z_iadd X dX4_slyTelling_12 ?_
  exact z_iret X ZF dX4_slyTelling_13 rfl rfl
abbrev rX4_strangerTelling : Room := { frames := 4, cells := 0, slots := 0, locals := 84 }
set_option maxHeartbeats 4000000 in
set_option maxRecDepth 100000 in
theorem c_X4_strangerTelling (l : Launch) (g : zg) (a : Nat → Nat) (ft : Int32) (tr : Int32) (D : Nat) (E : Nat) (so : Int32) (lk : Nat → Int32) (kd : Nat → Int32) (st : Nat → Int32) (sp : Nat → Int32) (nd : Nat → Int32) (k : Nat) (hk : k < 4) : zM l g yX4_strangerTelling wsX4_strangerTelling rX4_strangerTelling [.ref (a 0), .int (nI k)] (wO g a ft tr ++ (wD g a D E so lk kd st sp nd)) (some (.int ((sp k + nI 100) + sp k))) (wO g a ft (nI 31 * (nI 31 * (nI 31 * (nI 31 * tr + nI 3) + nI 2) + nI 1) + nI 1) ++ (wD g a D E so lk kd st sp nd)) := by
  refine z_met (own := RX4) (cc := cX4_strangerTelling) (maxL := 3) (ret := some .int) (by decide +kernel) rfl rfl (Nat.le_of_ble_eq_true rfl) ?_
  intro M X ZF
  refine z_Le (L' := [(0, .ref (a 0)), (1, .int (nI k))]) rfl ?_
  refine z_aload_n X dX4_strangerTelling_0 rfl 0 rfl ?_
  refine z_iconst (v := nI 3) X dX4_strangerTelling_1 (by decide) ?_
  refine z_callV X (c_X4_leaveInTrace l g a ft tr (nI 3)) gX4_strangerTelling_X4_leaveInTrace rfl ⟨rfl, rfl⟩ (by decide +kernel) ⟨Nat.le_of_ble_eq_true rfl, Nat.le_of_ble_eq_true rfl⟩ ZF.room (ci := 3) rfl 0 rfl (isC := [0]) (by decide) rfl rfl (ws' := (wO g a ft (nI 31 * tr + (nI 3)) ++ (wD g a D E so lk kd st sp nd))) rfl (As := [.int (nI 3)]) (n := 1) rfl rfl (st1 := []) rfl (Nat.le_of_ble_eq_true rfl) dX4_strangerTelling_2 ?_
  refine z_aload_n X dX4_strangerTelling_5 rfl 0 rfl ?_
  refine z_iload_n X dX4_strangerTelling_6 rfl 1 rfl ?_
  refine z_callVM X (c_X4_slyTelling l g a ft (nI 31 * tr + (nI 3)) D E so lk kd st sp nd k (by omega)) gX4_strangerTelling_X4_slyTelling rfl ⟨rfl, rfl⟩ (by decide +kernel) ⟨Nat.le_of_ble_eq_true rfl, Nat.le_of_ble_eq_true rfl⟩ ZF.room (ci := 3) rfl 0 rfl rfl (As := [.int (nI k)]) (n := 1) rfl rfl (st1 := [.int (sp k + nI 100)]) rfl (Nat.le_of_ble_eq_true rfl) dX4_strangerTelling_7 ?_
  refine z_istore_n (L' := [(2, .int (sp k + nI 100)), (0, .ref (a 0)), (1, .int (nI k))]) X dX4_strangerTelling_10 rfl (by decide) rfl ?_
  refine z_iload_n X dX4_strangerTelling_11 rfl 0 rfl ?_
  refine z_aload_n X dX4_strangerTelling_12 rfl 1 rfl ?_
  refine z_iload_n X dX4_strangerTelling_13 rfl 2 rfl ?_
  refine z_callVM X (c_X4_eaterTelling l g a ft (nI 31 * (nI 31 * (nI 31 * tr + (nI 3)) + nI 2) + nI 1) D E so lk kd st sp nd k (by omega)) gX4_strangerTelling_X4_eaterTelling rfl ⟨rfl, rfl⟩ (by decide +kernel) ⟨Nat.le_of_ble_eq_true rfl, Nat.le_of_ble_eq_true rfl⟩ ZF.room (ci := 3) rfl 0 rfl rfl (As := [.int (nI k)]) (n := 1) rfl rfl (st1 := [.int (sp k), .int (sp k + nI 100)]) rfl (Nat.le_of_ble_eq_true rfl) dX4_strangerTelling_14 ?_
  refine z_iadd X dX4_strangerTelling_17 ?_
  exact z_iret X ZF dX4_strangerTelling_18 rfl rfl
abbrev rX4_lentSniffing : Room := { frames := 1, cells := 0, slots := 0, locals := 21 }
set_option maxHeartbeats 4000000 in
set_option maxRecDepth 100000 in
theorem c_X4_lentSniffing (l : Launch) (g : zg) (a : Nat → Nat) (ft : Int32) (tr : Int32) (k : Nat) : zM l g yX4_lentSniffing wsX4_lentSniffing rX4_lentSniffing [.ref (a 0), .int (nI k)] (wO g a ft tr) (some (.int (nI k))) (wO g a ft (nI 31 * tr + nI 4)) := by
  refine z_met (own := RX4) (cc := cX4_lentSniffing) (maxL := 2) (ret := some .int) (by decide +kernel) rfl rfl (Nat.le_of_ble_eq_true rfl) ?_
  intro M X ZF
  refine z_Le (L' := [(0, .ref (a 0)), (1, .int (nI k))]) rfl ?_
  refine z_aload_n X dX4_lentSniffing_0 rfl 0 rfl ?_
  refine z_iconst (v := nI 4) X dX4_lentSniffing_1 (by decide) ?_
  refine z_callV X (c_X4_leaveInTrace l g a ft tr (nI 4)) gX4_lentSniffing_X4_leaveInTrace rfl ⟨rfl, rfl⟩ (by decide +kernel) ⟨Nat.le_of_ble_eq_true rfl, Nat.le_of_ble_eq_true rfl⟩ ZF.room (ci := 3) rfl 0 rfl (isC := [0]) (by decide) rfl rfl (ws' := (wO g a ft (nI 31 * tr + (nI 4)))) rfl (As := [.int (nI 4)]) (n := 1) rfl rfl (st1 := []) rfl (Nat.le_of_ble_eq_true rfl) dX4_lentSniffing_2 ?_
  refine z_iload_n X dX4_lentSniffing_5 rfl 1 rfl ?_
  exact z_iret X ZF dX4_lentSniffing_6 rfl rfl
abbrev rX4_strangerSniffing : Room := { frames := 1, cells := 0, slots := 0, locals := 21 }
set_option maxHeartbeats 4000000 in
set_option maxRecDepth 100000 in
theorem c_X4_strangerSniffing (l : Launch) (g : zg) (a : Nat → Nat) (ft : Int32) (tr : Int32) : zM l g yX4_strangerSniffing wsX4_strangerSniffing rX4_strangerSniffing [.ref (a 0)] (wO g a ft tr) (some (.int (nI 40))) (wO g a ft (nI 31 * tr + nI 5)) := by
  refine z_met (own := RX4) (cc := cX4_strangerSniffing) (maxL := 1) (ret := some .int) (by decide +kernel) rfl rfl (Nat.le_of_ble_eq_true rfl) ?_
  intro M X ZF
  refine z_Le (L' := [(0, .ref (a 0))]) rfl ?_
  refine z_aload_n X dX4_strangerSniffing_0 rfl 0 rfl ?_
  refine z_iconst (v := nI 5) X dX4_strangerSniffing_1 (by decide) ?_
  refine z_callV X (c_X4_leaveInTrace l g a ft tr (nI 5)) gX4_strangerSniffing_X4_leaveInTrace rfl ⟨rfl, rfl⟩ (by decide +kernel) ⟨Nat.le_of_ble_eq_true rfl, Nat.le_of_ble_eq_true rfl⟩ ZF.room (ci := 3) rfl 0 rfl (isC := [0]) (by decide) rfl rfl (ws' := (wO g a ft (nI 31 * tr + (nI 5)))) rfl (As := [.int (nI 5)]) (n := 1) rfl rfl (st1 := []) rfl (Nat.le_of_ble_eq_true rfl) dX4_strangerSniffing_2 ?_
  refine z_bipush (v := nI 40) X dX4_strangerSniffing_5 (by decide) ?_
  exact z_iret X ZF dX4_strangerSniffing_7 rfl rfl
abbrev rX4_ofPlan : Room := { frames := 5, cells := 0, slots := 0, locals := 112 }
set_option maxHeartbeats 4000000 in
set_option maxRecDepth 100000 in
theorem c_X4_ofPlan (l : Launch) (g : zg) (a : Nat → Nat) (p : Nat) (q : Nat) (ft : Int32) (tr : Int32) (D : Nat) (E : Nat) (so : Int32) (lk : Nat → Int32) (kd : Nat → Int32) (st : Nat → Int32) (sp : Nat → Int32) (nd : Nat → Int32) (ln : Int32) (le : Int32) (ce : Nat → Int32) (i_i : Nat) (w : Int32) (hii : i_i + E ≤ 60) (hE : E ≤ 4) (hD : D ≤ 6) (hL : vL kd st E) (hSp : vS sp E) (hF : ∀ a_, a_ < E → ce (i_i + a_) = nI (tn (ce (i_i + a_))) ∧ tn (ce (i_i + a_)) < 2 ^ D) (hap : apl w = true) : zM l g yX4_ofPlan wsX4_ofPlan rX4_ofPlan [.ref (a 0), .ref p, .int (nI i_i), .int w] (wO g a ft tr ++ (wD g a D E so lk kd st sp nd ++ (wS g p q ln le ce))) (some (.int (ofp D E lk so kd st sp nd ce i_i w))) (wO g a ft tr ++ (wD g a D E so lk kd st sp nd ++ (wS g p q ln le ce))) := by
  refine z_met (own := RX4) (cc := cX4_ofPlan) (maxL := 4) (ret := some .int) (by decide +kernel) rfl rfl (Nat.le_of_ble_eq_true rfl) ?_
  intro M X ZF
  refine z_Le (L' := [(0, .ref (a 0)), (1, .ref p), (2, .int (nI i_i)), (3, .int w)]) rfl ?_
  have i_RX4 : ∀ w ∈ wsX40, w ∈ wsX4_ofPlan := by decide +kernel
  have f_12 : Cond.fieldLink RX4 12 (TX4 0).1 (TX4 0).2.1 (TX4 0).2.2.1 ∈ wsX4_ofPlan := by decide +kernel
  refine z_iload_n X dX4_ofPlan_0 rfl 3 rfl ?_
  by_cases hq1 : w = nI 0
  ·
    subst hq1
    refine z_tableIn (off := 31) (tgt := 32) X dX4_ofPlan_1 (by decide +kernel) (by decide +kernel) (by decide +kernel) (by decide) ?_
    refine z_aload_n X dX4_ofPlan_32 rfl 0 rfl ?_
    refine z_get (v := .ref (a 1)) (N := 5) X i_RX4 (ci := 3) rfl 0 rfl 0 (by decide) f_12 rfl dX4_ofPlan_33 ?_
    refine z_aload_n X dX4_ofPlan_36 rfl 1 rfl ?_
    refine z_iload_n X dX4_ofPlan_37 rfl 2 rfl ?_
    refine z_callV X (c_X0_finesOfPlan l g a p q D E so lk kd st sp nd ln le ce i_i (by omega) (by omega) (by omega) (by first | assumption | omega) (by first | assumption | omega) (by first | assumption | omega)) gX4_ofPlan_X0_finesOfPlan rfl ⟨rfl, rfl⟩ (by decide +kernel) ⟨Nat.le_of_ble_eq_true rfl, Nat.le_of_ble_eq_true rfl⟩ ZF.room (ci := 0) rfl 1 rfl (isC := [1, 2, 3, 4, 5, 6, 7, 8]) (by decide) rfl rfl (ws' := (wO g a ft tr ++ (wD g a D E so lk kd st sp nd ++ (wS g p q ln le ce)))) rfl (As := [.ref p, .int (nI i_i)]) (n := 2) rfl rfl (st1 := [.int (nI (fpl D kd st sp (fs lk so D) ce i_i E))]) rfl (Nat.le_of_ble_eq_true rfl) dX4_ofPlan_38 ?_
    exact z_iret X ZF dX4_ofPlan_41 (by simp [ofp, nI_inj5, ]) rfl
  ·
    by_cases hq2 : w = nI 1
    ·
      subst hq2
      refine z_tableIn (off := 41) (tgt := 42) X dX4_ofPlan_1 (by decide +kernel) (by decide +kernel) (by decide +kernel) (by decide) ?_
      refine z_aload_n X dX4_ofPlan_42 rfl 0 rfl ?_
      refine z_get (v := .ref (a 1)) (N := 5) X i_RX4 (ci := 3) rfl 0 rfl 0 (by decide) f_12 rfl dX4_ofPlan_43 ?_
      refine z_aload_n X dX4_ofPlan_46 rfl 1 rfl ?_
      refine z_iload_n X dX4_ofPlan_47 rfl 2 rfl ?_
      refine z_callV X (c_X0_firstDayOfPlan l g a p q D E so lk kd st sp nd ln le ce i_i (by omega) (by omega) (by omega) (by first | assumption | omega) (by first | assumption | omega)) gX4_ofPlan_X0_firstDayOfPlan rfl ⟨rfl, rfl⟩ (by decide +kernel) ⟨Nat.le_of_ble_eq_true rfl, Nat.le_of_ble_eq_true rfl⟩ ZF.room (ci := 0) rfl 1 rfl (isC := [1, 2, 3, 4, 5, 6, 7, 8]) (by decide) rfl rfl (ws' := (wO g a ft tr ++ (wD g a D E so lk kd st sp nd ++ (wS g p q ln le ce)))) rfl (As := [.ref p, .int (nI i_i)]) (n := 2) rfl rfl (st1 := [.int (fdx (opl D kd st (fs lk so D) ce i_i E) D 0)]) rfl (Nat.le_of_ble_eq_true rfl) dX4_ofPlan_48 ?_
      exact z_iret X ZF dX4_ofPlan_51 (by simp [ofp, nI_inj5, hq1]) rfl
    ·
      by_cases hq3 : w = nI 2
      ·
        subst hq3
        refine z_tableIn (off := 51) (tgt := 52) X dX4_ofPlan_1 (by decide +kernel) (by decide +kernel) (by decide +kernel) (by decide) ?_
        refine z_aload_n X dX4_ofPlan_52 rfl 0 rfl ?_
        refine z_get (v := .ref (a 1)) (N := 5) X i_RX4 (ci := 3) rfl 0 rfl 0 (by decide) f_12 rfl dX4_ofPlan_53 ?_
        refine z_aload_n X dX4_ofPlan_56 rfl 1 rfl ?_
        refine z_iload_n X dX4_ofPlan_57 rfl 2 rfl ?_
        refine z_callV X (c_X0_foundEatersOfPlan l g a p q D E so lk kd st sp nd ln le ce i_i (by omega) (by omega) (by omega) (by first | assumption | omega) (by first | assumption | omega)) gX4_ofPlan_X0_foundEatersOfPlan rfl ⟨rfl, rfl⟩ (by decide +kernel) ⟨Nat.le_of_ble_eq_true rfl, Nat.le_of_ble_eq_true rfl⟩ ZF.room (ci := 0) rfl 1 rfl (isC := [1, 2, 3, 4, 5, 6, 7, 8]) (by decide) rfl rfl (ws' := (wO g a ft tr ++ (wD g a D E so lk kd st sp nd ++ (wS g p q ln le ce)))) rfl (As := [.ref p, .int (nI i_i)]) (n := 2) rfl rfl (st1 := [.int (nI (wpl D kd st (fs lk so D) ce i_i E))]) rfl (Nat.le_of_ble_eq_true rfl) dX4_ofPlan_58 ?_
        exact z_iret X ZF dX4_ofPlan_61 (by simp [ofp, nI_inj5, hq1, hq2]) rfl
      ·
        by_cases hq4 : w = nI 3
        ·
          subst hq4
          refine z_tableIn (off := 61) (tgt := 62) X dX4_ofPlan_1 (by decide +kernel) (by decide +kernel) (by decide +kernel) (by decide) ?_
          refine z_aload_n X dX4_ofPlan_62 rfl 0 rfl ?_
          refine z_get (v := .ref (a 1)) (N := 5) X i_RX4 (ci := 3) rfl 0 rfl 0 (by decide) f_12 rfl dX4_ofPlan_63 ?_
          refine z_aload_n X dX4_ofPlan_66 rfl 1 rfl ?_
          refine z_iload_n X dX4_ofPlan_67 rfl 2 rfl ?_
          refine z_callV X (c_X0_starvedEatersOfPlan l g a p q D E so lk kd st sp nd ln le ce i_i (by omega) (by omega) (by omega) (by first | assumption | omega)) gX4_ofPlan_X0_starvedEatersOfPlan rfl ⟨rfl, rfl⟩ (by decide +kernel) ⟨Nat.le_of_ble_eq_true rfl, Nat.le_of_ble_eq_true rfl⟩ ZF.room (ci := 0) rfl 1 rfl (isC := [1, 2, 3, 4, 5, 6, 7, 8]) (by decide) rfl rfl (ws' := (wO g a ft tr ++ (wD g a D E so lk kd st sp nd ++ (wS g p q ln le ce)))) rfl (As := [.ref p, .int (nI i_i)]) (n := 2) rfl rfl (st1 := [.int (nI (hpl nd ce i_i E))]) rfl (Nat.le_of_ble_eq_true rfl) dX4_ofPlan_68 ?_
          exact z_iret X ZF dX4_ofPlan_71 (by simp [ofp, nI_inj5, hq1, hq2, hq3]) rfl
        ·
          refine z_tableOut (tgt := 72) X dX4_ofPlan_1 (by have := lv_neT (k := nI 0) (a := 0) hq1 (by decide +kernel); have := lv_neT (k := nI 1) (a := 1) hq2 (by decide +kernel); have := lv_neT (k := nI 2) (a := 2) hq3 (by decide +kernel); have := lv_neT (k := nI 3) (a := 3) hq4 (by decide +kernel); omega) (by decide) ?_
          obtain ⟨w_a, hw1_a, hw2_a, hw3_a⟩ := apl_d hap hq1 hq2 hq3 hq4
          subst hw3_a
          have hws_a : nI w_a - nI 10 = nI (w_a - 10) := pk_sub (by omega)
          have hwt_a : tn (nI (w_a - 10)) = w_a - 10 := nI_clamp (by omega)
          refine z_aload_n X dX4_ofPlan_72 rfl 0 rfl ?_
          refine z_get (v := .ref (a 1)) (N := 5) X i_RX4 (ci := 3) rfl 0 rfl 0 (by decide) f_12 rfl dX4_ofPlan_73 ?_
          refine z_iload_n X dX4_ofPlan_76 rfl 3 rfl ?_
          refine z_bipush (v := nI 10) X dX4_ofPlan_77 (by decide) ?_
          refine z_isub' (v := nI (w_a - 10)) X dX4_ofPlan_79 (pk_sub (by omega)) ?_
          refine z_callV X (c_X0_hasDay l g a D E so lk kd st sp nd (nI (w_a - 10)) (by omega)) gX4_ofPlan_X0_hasDay rfl ⟨rfl, rfl⟩ (by decide +kernel) ⟨Nat.le_of_ble_eq_true rfl, Nat.le_of_ble_eq_true rfl⟩ ZF.room (ci := 0) rfl 1 rfl (isC := [1, 2, 3, 4, 5, 6]) (by decide) rfl rfl (ws' := (wO g a ft tr ++ (wD g a D E so lk kd st sp nd ++ (wS g p q ln le ce)))) rfl (As := [.int (nI (w_a - 10))]) (n := 1) rfl rfl (st1 := [.int (bI (zin (nI (w_a - 10)) D))]) rfl (Nat.le_of_ble_eq_true rfl) dX4_ofPlan_80 ?_
          refine z_if_eqB (tgt := 102) X dX4_ofPlan_83 (by decide) (fun hq5 => ?_) (fun hq5 => ?_)
          ·
            refine z_bipush (v := (-9)) X dX4_ofPlan_102 (by decide) ?_
            exact z_iret X ZF dX4_ofPlan_104 (by simp [ofp, nI_inj5, hq1, hq2, hq3, hq4, hws_a, hwt_a, hq5]) rfl
          ·
            refine z_aload_n X dX4_ofPlan_86 rfl 0 rfl ?_
            refine z_get (v := .ref (a 1)) (N := 5) X i_RX4 (ci := 3) rfl 0 rfl 0 (by decide) f_12 rfl dX4_ofPlan_87 ?_
            refine z_aload_n X dX4_ofPlan_90 rfl 1 rfl ?_
            refine z_iload_n X dX4_ofPlan_91 rfl 2 rfl ?_
            refine z_iload_n X dX4_ofPlan_92 rfl 3 rfl ?_
            refine z_bipush (v := nI 10) X dX4_ofPlan_93 (by decide) ?_
            refine z_isub' (v := nI (w_a - 10)) X dX4_ofPlan_95 (pk_sub (by omega)) ?_
            refine z_callV X (c_X0_foundOnDayOfPlan l g a p q D E so lk kd st sp nd ln le ce i_i (w_a - 10) (by omega) (by omega) (by omega) (by first | assumption | omega) (by first | assumption | omega) (zin_lt (by omega) (by omega) hq5)) gX4_ofPlan_X0_foundOnDayOfPlan rfl ⟨rfl, rfl⟩ (by decide +kernel) ⟨Nat.le_of_ble_eq_true rfl, Nat.le_of_ble_eq_true rfl⟩ ZF.room (ci := 0) rfl 1 rfl (isC := [1, 2, 3, 4, 5, 6, 7, 8]) (by decide) rfl rfl (ws' := (wO g a ft tr ++ (wD g a D E so lk kd st sp nd ++ (wS g p q ln le ce)))) rfl (As := [.ref p, .int (nI i_i), .int (nI (w_a - 10))]) (n := 3) rfl rfl (st1 := [.int (nI (dpl D kd st (fs lk so D) ce i_i (w_a - 10) E))]) rfl (Nat.le_of_ble_eq_true rfl) dX4_ofPlan_96 ?_
            refine z_goto (tgt := 104) X dX4_ofPlan_99 (by decide) ?_
            exact z_iret X ZF dX4_ofPlan_104 (by simp [ofp, nI_inj5, hq1, hq2, hq3, hq4, hws_a, hwt_a, hq5]) rfl
abbrev rX4_ofEater : Room := { frames := 2, cells := 0, slots := 0, locals := 43 }
set_option maxHeartbeats 4000000 in
set_option maxRecDepth 100000 in
theorem c_X4_ofEater (l : Launch) (g : zg) (a : Nat → Nat) (ft : Int32) (tr : Int32) (D : Nat) (E : Nat) (so : Int32) (lk : Nat → Int32) (kd : Nat → Int32) (st : Nat → Int32) (sp : Nat → Int32) (nd : Nat → Int32) (x : Int32) (w : Int32) (hE : E ≤ 4) (hK : vK kd st E) : zM l g yX4_ofEater wsX4_ofEater rX4_ofEater [.ref (a 0), .int x, .int w] (wO g a ft tr ++ (wD g a D E so lk kd st sp nd)) (some (.int (if zin x E then ofe kd st sp nd (tn x) w else -1))) (wO g a ft tr ++ (wD g a D E so lk kd st sp nd)) := by
  refine z_met (own := RX4) (cc := cX4_ofEater) (maxL := 3) (ret := some .int) (by decide +kernel) rfl rfl (Nat.le_of_ble_eq_true rfl) ?_
  intro M X ZF
  refine z_Le (L' := [(0, .ref (a 0)), (1, .int x), (2, .int w)]) rfl ?_
  have hL := vK_L hK
  have i_RX4 : ∀ w ∈ wsX40, w ∈ wsX4_ofEater := by decide +kernel
  have f_12 : Cond.fieldLink RX4 12 (TX4 0).1 (TX4 0).2.1 (TX4 0).2.2.1 ∈ wsX4_ofEater := by decide +kernel
  refine z_aload_n X dX4_ofEater_0 rfl 0 rfl ?_
  refine z_get (v := .ref (a 1)) (N := 5) X i_RX4 (ci := 3) rfl 0 rfl 0 (by decide) f_12 rfl dX4_ofEater_1 ?_
  refine z_iload_n X dX4_ofEater_4 rfl 1 rfl ?_
  refine z_callV X (c_X0_hasEater l g a D E so lk kd st sp nd x (by omega)) gX4_ofEater_X0_hasEater rfl ⟨rfl, rfl⟩ (by decide +kernel) ⟨Nat.le_of_ble_eq_true rfl, Nat.le_of_ble_eq_true rfl⟩ ZF.room (ci := 0) rfl 1 rfl (isC := [1, 2, 3, 4, 5, 6]) (by decide) rfl rfl (ws' := (wO g a ft tr ++ (wD g a D E so lk kd st sp nd))) rfl (As := [.int x]) (n := 1) rfl rfl (st1 := [.int (bI (zin x E))]) rfl (Nat.le_of_ble_eq_true rfl) dX4_ofEater_5 ?_
  refine z_if_neB (tgt := 13) X dX4_ofEater_8 (by decide) (fun hq1 => ?_) (fun hq1 => ?_)
  ·
    obtain ⟨jv2, hj2, ej2⟩ := zin_t (by omega) hq1
    subst ej2
    have hc2 : tn (nI jv2) = jv2 := nI_clamp (by omega)
    refine z_iload_n X dX4_ofEater_13 rfl 2 rfl ?_
    by_cases hq3 : w = nI 0
    ·
      subst hq3
      refine z_tableIn (off := 34) (tgt := 48) X dX4_ofEater_14 (by decide +kernel) (by decide +kernel) (by decide +kernel) (by decide) ?_
      refine z_aload_n X dX4_ofEater_48 rfl 0 rfl ?_
      refine z_get (v := .ref (a 1)) (N := 5) X i_RX4 (ci := 3) rfl 0 rfl 0 (by decide) f_12 rfl dX4_ofEater_49 ?_
      refine z_iload_n X dX4_ofEater_52 rfl 1 rfl ?_
      refine z_callV X (c_X0_kindOf l g a D E so lk kd st sp nd jv2 (by omega)) gX4_ofEater_X0_kindOf rfl ⟨rfl, rfl⟩ (by decide +kernel) ⟨Nat.le_of_ble_eq_true rfl, Nat.le_of_ble_eq_true rfl⟩ ZF.room (ci := 0) rfl 1 rfl (isC := [1, 2, 3, 4, 5, 6]) (by decide) rfl rfl (ws' := (wO g a ft tr ++ (wD g a D E so lk kd st sp nd))) rfl (As := [.int (nI jv2)]) (n := 1) rfl rfl (st1 := [.int (kd jv2)]) rfl (Nat.le_of_ble_eq_true rfl) dX4_ofEater_53 ?_
      exact z_iret X ZF dX4_ofEater_56 (by simp [ofe, nI_inj5, hq1, hc2]) rfl
    ·
      by_cases hq4 : w = nI 1
      ·
        subst hq4
        refine z_tableIn (off := 43) (tgt := 57) X dX4_ofEater_14 (by decide +kernel) (by decide +kernel) (by decide +kernel) (by decide) ?_
        refine z_aload_n X dX4_ofEater_57 rfl 0 rfl ?_
        refine z_get (v := .ref (a 1)) (N := 5) X i_RX4 (ci := 3) rfl 0 rfl 0 (by decide) f_12 rfl dX4_ofEater_58 ?_
        refine z_iload_n X dX4_ofEater_61 rfl 1 rfl ?_
        refine z_callV X (c_X0_stayOf l g a D E so lk kd st sp nd jv2 (by omega)) gX4_ofEater_X0_stayOf rfl ⟨rfl, rfl⟩ (by decide +kernel) ⟨Nat.le_of_ble_eq_true rfl, Nat.le_of_ble_eq_true rfl⟩ ZF.room (ci := 0) rfl 1 rfl (isC := [1, 2, 3, 4, 5, 6]) (by decide) rfl rfl (ws' := (wO g a ft tr ++ (wD g a D E so lk kd st sp nd))) rfl (As := [.int (nI jv2)]) (n := 1) rfl rfl (st1 := [.int (st jv2)]) rfl (Nat.le_of_ble_eq_true rfl) dX4_ofEater_62 ?_
        exact z_iret X ZF dX4_ofEater_65 (by simp [ofe, nI_inj5, hq1, hc2, hq3]) rfl
      ·
        by_cases hq5 : w = nI 2
        ·
          subst hq5
          refine z_tableIn (off := 52) (tgt := 66) X dX4_ofEater_14 (by decide +kernel) (by decide +kernel) (by decide +kernel) (by decide) ?_
          refine z_aload_n X dX4_ofEater_66 rfl 0 rfl ?_
          refine z_get (v := .ref (a 1)) (N := 5) X i_RX4 (ci := 3) rfl 0 rfl 0 (by decide) f_12 rfl dX4_ofEater_67 ?_
          refine z_iload_n X dX4_ofEater_70 rfl 1 rfl ?_
          refine z_callV X (c_X0_spoonsOf l g a D E so lk kd st sp nd jv2 (by omega)) gX4_ofEater_X0_spoonsOf rfl ⟨rfl, rfl⟩ (by decide +kernel) ⟨Nat.le_of_ble_eq_true rfl, Nat.le_of_ble_eq_true rfl⟩ ZF.room (ci := 0) rfl 1 rfl (isC := [1, 2, 3, 4, 5, 6]) (by decide) rfl rfl (ws' := (wO g a ft tr ++ (wD g a D E so lk kd st sp nd))) rfl (As := [.int (nI jv2)]) (n := 1) rfl rfl (st1 := [.int (sp jv2)]) rfl (Nat.le_of_ble_eq_true rfl) dX4_ofEater_71 ?_
          exact z_iret X ZF dX4_ofEater_74 (by simp [ofe, nI_inj5, hq1, hc2, hq3, hq4]) rfl
        ·
          by_cases hq6 : w = nI 3
          ·
            subst hq6
            refine z_tableIn (off := 61) (tgt := 75) X dX4_ofEater_14 (by decide +kernel) (by decide +kernel) (by decide +kernel) (by decide) ?_
            refine z_aload_n X dX4_ofEater_75 rfl 0 rfl ?_
            refine z_get (v := .ref (a 1)) (N := 5) X i_RX4 (ci := 3) rfl 0 rfl 0 (by decide) f_12 rfl dX4_ofEater_76 ?_
            refine z_iload_n X dX4_ofEater_79 rfl 1 rfl ?_
            refine z_callV X (c_X0_needOf l g a D E so lk kd st sp nd jv2 (by omega)) gX4_ofEater_X0_needOf rfl ⟨rfl, rfl⟩ (by decide +kernel) ⟨Nat.le_of_ble_eq_true rfl, Nat.le_of_ble_eq_true rfl⟩ ZF.room (ci := 0) rfl 1 rfl (isC := [1, 2, 3, 4, 5, 6]) (by decide) rfl rfl (ws' := (wO g a ft tr ++ (wD g a D E so lk kd st sp nd))) rfl (As := [.int (nI jv2)]) (n := 1) rfl rfl (st1 := [.int (nd jv2)]) rfl (Nat.le_of_ble_eq_true rfl) dX4_ofEater_80 ?_
            exact z_iret X ZF dX4_ofEater_83 (by simp [ofe, nI_inj5, hq1, hc2, hq3, hq4, hq5]) rfl
          ·
            by_cases hq7 : w = nI 4
            ·
              subst hq7
              refine z_tableIn (off := 70) (tgt := 84) X dX4_ofEater_14 (by decide +kernel) (by decide +kernel) (by decide +kernel) (by decide) ?_
              refine z_aload_n X dX4_ofEater_84 rfl 0 rfl ?_
              refine z_get (v := .ref (a 1)) (N := 5) X i_RX4 (ci := 3) rfl 0 rfl 0 (by decide) f_12 rfl dX4_ofEater_85 ?_
              refine z_iload_n X dX4_ofEater_88 rfl 1 rfl ?_
              refine z_callV X (c_X0_lastsOf l g a D E so lk kd st sp nd jv2 (by omega) (by omega) (by first | assumption | omega)) gX4_ofEater_X0_lastsOf rfl ⟨rfl, rfl⟩ (by decide +kernel) ⟨Nat.le_of_ble_eq_true rfl, Nat.le_of_ble_eq_true rfl⟩ ZF.room (ci := 0) rfl 1 rfl (isC := [1, 2, 3, 4, 5, 6]) (by decide) rfl rfl (ws' := (wO g a ft tr ++ (wD g a D E so lk kd st sp nd))) rfl (As := [.int (nI jv2)]) (n := 1) rfl rfl (st1 := [.int (nI (Lf kd st jv2))]) rfl (Nat.le_of_ble_eq_true rfl) dX4_ofEater_89 ?_
              exact z_iret X ZF dX4_ofEater_92 (by simp [ofe, nI_inj5, hq1, hc2, hq3, hq4, hq5, hq6]) rfl
            ·
              refine z_tableOut (tgt := 93) X dX4_ofEater_14 (by have := lv_neT (k := nI 0) (a := 0) hq3 (by decide +kernel); have := lv_neT (k := nI 1) (a := 1) hq4 (by decide +kernel); have := lv_neT (k := nI 2) (a := 2) hq5 (by decide +kernel); have := lv_neT (k := nI 3) (a := 3) hq6 (by decide +kernel); have := lv_neT (k := nI 4) (a := 4) hq7 (by decide +kernel); omega) (by decide) ?_
              refine z_bipush (v := (-2)) X dX4_ofEater_93 (by decide) ?_
              exact z_iret X ZF dX4_ofEater_95 (by simp [ofe, nI_inj5, hq1, hc2, hq3, hq4, hq5, hq6, hq7]) rfl
  ·
    refine z_iconst (v := (-1)) X dX4_ofEater_11 (by decide) ?_
    exact z_iret X ZF dX4_ofEater_12 (by simp [ofe, nI_inj5, hq1]) rfl
abbrev rX4_look : Room := { frames := 2, cells := 0, slots := 0, locals := 42 }
set_option maxHeartbeats 4000000 in
set_option maxRecDepth 100000 in
theorem c_X4_look (l : Launch) (g : zg) (a : Nat → Nat) (ft : Int32) (tr : Int32) (D : Nat) (E : Nat) (so : Int32) (lk : Nat → Int32) (kd : Nat → Int32) (st : Nat → Int32) (sp : Nat → Int32) (nd : Nat → Int32) (x : Int32) (hD : D ≤ 6) : zM l g yX4_look wsX4_look rX4_look [.ref (a 0), .int x] (wO g a ft tr ++ (wD g a D E so lk kd st sp nd)) (some (.int (if zin x D then lk (tn x) else -1))) (wO g a ft tr ++ (wD g a D E so lk kd st sp nd)) := by
  refine z_met (own := RX4) (cc := cX4_look) (maxL := 2) (ret := some .int) (by decide +kernel) rfl rfl (Nat.le_of_ble_eq_true rfl) ?_
  intro M X ZF
  refine z_Le (L' := [(0, .ref (a 0)), (1, .int x)]) rfl ?_
  have i_RX4 : ∀ w ∈ wsX40, w ∈ wsX4_look := by decide +kernel
  have f_12 : Cond.fieldLink RX4 12 (TX4 0).1 (TX4 0).2.1 (TX4 0).2.2.1 ∈ wsX4_look := by decide +kernel
  refine z_aload_n X dX4_look_0 rfl 0 rfl ?_
  refine z_get (v := .ref (a 1)) (N := 5) X i_RX4 (ci := 3) rfl 0 rfl 0 (by decide) f_12 rfl dX4_look_1 ?_
  refine z_iload_n X dX4_look_4 rfl 1 rfl ?_
  refine z_callV X (c_X0_hasDay l g a D E so lk kd st sp nd x (by omega)) gX4_look_X0_hasDay rfl ⟨rfl, rfl⟩ (by decide +kernel) ⟨Nat.le_of_ble_eq_true rfl, Nat.le_of_ble_eq_true rfl⟩ ZF.room (ci := 0) rfl 1 rfl (isC := [1, 2, 3, 4, 5, 6]) (by decide) rfl rfl (ws' := (wO g a ft tr ++ (wD g a D E so lk kd st sp nd))) rfl (As := [.int x]) (n := 1) rfl rfl (st1 := [.int (bI (zin x D))]) rfl (Nat.le_of_ble_eq_true rfl) dX4_look_5 ?_
  refine z_if_eqB (tgt := 22) X dX4_look_8 (by decide) (fun hq1 => ?_) (fun hq1 => ?_)
  ·
    refine z_iconst (v := (-1)) X dX4_look_22 (by decide) ?_
    exact z_iret X ZF dX4_look_23 (by simp [hq1]) rfl
  ·
    obtain ⟨jv2, hj2, ej2⟩ := zin_t (by omega) hq1
    subst ej2
    have hc2 : tn (nI jv2) = jv2 := nI_clamp (by omega)
    refine z_aload_n X dX4_look_11 rfl 0 rfl ?_
    refine z_get (v := .ref (a 1)) (N := 5) X i_RX4 (ci := 3) rfl 0 rfl 0 (by decide) f_12 rfl dX4_look_12 ?_
    refine z_iload_n X dX4_look_15 rfl 1 rfl ?_
    refine z_callV X (c_X0_lookOf l g a D E so lk kd st sp nd jv2 (by omega)) gX4_look_X0_lookOf rfl ⟨rfl, rfl⟩ (by decide +kernel) ⟨Nat.le_of_ble_eq_true rfl, Nat.le_of_ble_eq_true rfl⟩ ZF.room (ci := 0) rfl 1 rfl (isC := [1, 2, 3, 4, 5, 6]) (by decide) rfl rfl (ws' := (wO g a ft tr ++ (wD g a D E so lk kd st sp nd))) rfl (As := [.int (nI jv2)]) (n := 1) rfl rfl (st1 := [.int (lk jv2)]) rfl (Nat.le_of_ble_eq_true rfl) dX4_look_16 ?_
    refine z_goto (tgt := 23) X dX4_look_19 (by decide) ?_
    exact z_iret X ZF dX4_look_23 (by simp [hq1, hc2]) rfl
abbrev rX4_pull : Room := { frames := 2, cells := 0, slots := 0, locals := 44 }
set_option maxHeartbeats 4000000 in
set_option maxRecDepth 100000 in
theorem c_X4_pull (l : Launch) (g : zg) (a : Nat → Nat) (ft : Int32) (tr : Int32) (D : Nat) (E : Nat) (so : Int32) (lk : Nat → Int32) (kd : Nat → Int32) (st : Nat → Int32) (sp : Nat → Int32) (nd : Nat → Int32) (x : Int32) (v : Int32) (hD : D ≤ 6) : zM l g yX4_pull wsX4_pull rX4_pull [.ref (a 0), .int x, .int v] (wO g a ft tr ++ (wD g a D E so lk kd st sp nd)) (some (.int (if zin x D then (if zin v 10 then lk (tn x) else -2) else -1))) (wO g a ft tr ++ (wD g a D E so (if zin x D && zin v 10 then upd lk (tn x) v else lk) kd st sp nd)) := by
  refine z_met (own := RX4) (cc := cX4_pull) (maxL := 4) (ret := some .int) (by decide +kernel) rfl rfl (Nat.le_of_ble_eq_true rfl) ?_
  intro M X ZF
  refine z_Le (L' := [(0, .ref (a 0)), (1, .int x), (2, .int v)]) rfl ?_
  have i_RX4 : ∀ w ∈ wsX40, w ∈ wsX4_pull := by decide +kernel
  have f_12 : Cond.fieldLink RX4 12 (TX4 0).1 (TX4 0).2.1 (TX4 0).2.2.1 ∈ wsX4_pull := by decide +kernel
  refine z_aload_n X dX4_pull_0 rfl 0 rfl ?_
  refine z_get (v := .ref (a 1)) (N := 5) X i_RX4 (ci := 3) rfl 0 rfl 0 (by decide) f_12 rfl dX4_pull_1 ?_
  refine z_iload_n X dX4_pull_4 rfl 1 rfl ?_
  refine z_callV X (c_X0_hasDay l g a D E so lk kd st sp nd x (by omega)) gX4_pull_X0_hasDay rfl ⟨rfl, rfl⟩ (by decide +kernel) ⟨Nat.le_of_ble_eq_true rfl, Nat.le_of_ble_eq_true rfl⟩ ZF.room (ci := 0) rfl 1 rfl (isC := [1, 2, 3, 4, 5, 6]) (by decide) rfl rfl (ws' := (wO g a ft tr ++ (wD g a D E so lk kd st sp nd))) rfl (As := [.int x]) (n := 1) rfl rfl (st1 := [.int (bI (zin x D))]) rfl (Nat.le_of_ble_eq_true rfl) dX4_pull_5 ?_
  refine z_if_neB (tgt := 13) X dX4_pull_8 (by decide) (fun hq1 => ?_) (fun hq1 => ?_)
  ·
    obtain ⟨jv2, hj2, ej2⟩ := zin_t (by omega) hq1
    subst ej2
    have hc2 : tn (nI jv2) = jv2 := nI_clamp (by omega)
    refine z_iload_n X dX4_pull_13 rfl 2 rfl ?_
    refine z_bipush (v := nI 9) X dX4_pull_14 (by decide) ?_
    refine z_callS0 X (c_X4_isFrom0To l g v 9 (by omega)) gX4_pull_X4_isFrom0To rfl ⟨rfl, rfl⟩ (by decide +kernel) ⟨Nat.le_of_ble_eq_true rfl, Nat.le_of_ble_eq_true rfl⟩ ZF.room (As := [.int v, .int (nI 9)]) (n := 2) rfl rfl (st1 := [.int (bI (zin v (9 + 1)))]) rfl (Nat.le_of_ble_eq_true rfl) dX4_pull_16 ?_
    refine z_if_neB (tgt := 25) X dX4_pull_19 (by decide) (fun hq3 => ?_) (fun hq3 => ?_)
    ·
      obtain ⟨jv4, hj4, ej4⟩ := zin_t (by omega) hq3
      subst ej4
      have hc4 : tn (nI jv4) = jv4 := nI_clamp (by omega)
      refine z_aload_n X dX4_pull_25 rfl 0 rfl ?_
      refine z_get (v := .ref (a 1)) (N := 5) X i_RX4 (ci := 3) rfl 0 rfl 0 (by decide) f_12 rfl dX4_pull_26 ?_
      refine z_iload_n X dX4_pull_29 rfl 1 rfl ?_
      refine z_callV X (c_X0_lookOf l g a D E so lk kd st sp nd jv2 (by omega)) gX4_pull_X0_lookOf rfl ⟨rfl, rfl⟩ (by decide +kernel) ⟨Nat.le_of_ble_eq_true rfl, Nat.le_of_ble_eq_true rfl⟩ ZF.room (ci := 0) rfl 1 rfl (isC := [1, 2, 3, 4, 5, 6]) (by decide) rfl rfl (ws' := (wO g a ft tr ++ (wD g a D E so lk kd st sp nd))) rfl (As := [.int (nI jv2)]) (n := 1) rfl rfl (st1 := [.int (lk jv2)]) rfl (Nat.le_of_ble_eq_true rfl) dX4_pull_30 ?_
      refine z_istore_n (L' := [(3, .int (lk jv2)), (0, .ref (a 0)), (1, .int (nI jv2)), (2, .int (nI jv4))]) X dX4_pull_33 rfl (by decide) rfl ?_
      refine z_aload_n X dX4_pull_34 rfl 1 rfl ?_
      refine z_get (v := .ref (a 1)) (N := 5) X i_RX4 (ci := 3) rfl 0 rfl 0 (by decide) f_12 rfl dX4_pull_35 ?_
      refine z_iload_n X dX4_pull_38 rfl 2 rfl ?_
      refine z_iload_n X dX4_pull_39 rfl 3 rfl ?_
      refine z_callV X (c_X0_changeLook l g a D E so lk kd st sp nd jv2 (nI jv4) (by omega)) gX4_pull_X0_changeLook rfl ⟨rfl, rfl⟩ (by decide +kernel) ⟨Nat.le_of_ble_eq_true rfl, Nat.le_of_ble_eq_true rfl⟩ ZF.room (ci := 0) rfl 1 rfl (isC := [1, 2, 3, 4, 5, 6]) (by decide) rfl rfl (ws' := (wO g a ft tr ++ (wD g a D E so (upd lk jv2 (nI jv4)) kd st sp nd))) rfl (As := [.int (nI jv2), .int (nI jv4)]) (n := 2) rfl rfl (st1 := []) rfl (Nat.le_of_ble_eq_true rfl) dX4_pull_40 ?_
      refine z_iload_n X dX4_pull_43 rfl 0 rfl ?_
      have e5 : (if zin (nI jv2) D && zin (nI jv4) 10 then upd lk (tn (nI jv2)) (nI jv4) else lk) = (upd lk jv2 (nI jv4)) := by simp [hq1, hc2, hq3, hc4]
      exact z_iret X ZF dX4_pull_44 (by simp [hq1, hc2, hq3, hc4]) (by rw [e5])
    ·
      refine z_bipush (v := (-2)) X dX4_pull_22 (by decide) ?_
      have e6 : (if zin (nI jv2) D && zin v 10 then upd lk (tn (nI jv2)) v else lk) = lk := by simp [hq1, hc2, hq3]
      exact z_iret X ZF dX4_pull_24 (by simp [hq1, hc2, hq3]) (by rw [e6])
  ·
    refine z_iconst (v := (-1)) X dX4_pull_11 (by decide) ?_
    have e7 : (if zin x D && zin v 10 then upd lk (tn x) v else lk) = lk := by simp [hq1]
    exact z_iret X ZF dX4_pull_12 (by simp [hq1]) (by rw [e7])
abbrev rX4_sour : Room := { frames := 1, cells := 0, slots := 0, locals := 21 }
set_option maxHeartbeats 4000000 in
set_option maxRecDepth 100000 in
theorem c_X4_sour (l : Launch) (g : zg) (a : Nat → Nat) (ft : Int32) (tr : Int32) (D : Nat) (E : Nat) (so : Int32) (lk : Nat → Int32) (kd : Nat → Int32) (st : Nat → Int32) (sp : Nat → Int32) (nd : Nat → Int32) (v : Int32) (hE : E ≤ 4) : zM l g yX4_sour wsX4_sour rX4_sour [.ref (a 0), .int v] (wO g a ft tr ++ (wD g a D E so lk kd st sp nd)) (some (.int (if zin v 10 then (if 0 < E then so else -3) else -2))) (wO g a ft tr ++ (wD g a D E (if zin v 10 && decide (0 < E) then v else so) lk kd st sp nd)) := by
  refine z_met (own := RX4) (cc := cX4_sour) (maxL := 3) (ret := some .int) (by decide +kernel) rfl rfl (Nat.le_of_ble_eq_true rfl) ?_
  intro M X ZF
  refine z_Le (L' := [(0, .ref (a 0)), (1, .int v)]) rfl ?_
  have i_RX4 : ∀ w ∈ wsX40, w ∈ wsX4_sour := by decide +kernel
  have f_12 : Cond.fieldLink RX4 12 (TX4 0).1 (TX4 0).2.1 (TX4 0).2.2.1 ∈ wsX4_sour := by decide +kernel
  refine z_iload_n X dX4_sour_0 rfl 1 rfl ?_
  refine z_bipush (v := nI 9) X dX4_sour_1 (by decide) ?_
  refine z_callS0 X (c_X4_isFrom0To l g v 9 (by omega)) gX4_sour_X4_isFrom0To rfl ⟨rfl, rfl⟩ (by decide +kernel) ⟨Nat.le_of_ble_eq_true rfl, Nat.le_of_ble_eq_true rfl⟩ ZF.room (As := [.int v, .int (nI 9)]) (n := 2) rfl rfl (st1 := [.int (bI (zin v (9 + 1)))]) rfl (Nat.le_of_ble_eq_true rfl) dX4_sour_3 ?_
  refine z_if_neB (tgt := 12) X dX4_sour_6 (by decide) (fun hq1 => ?_) (fun hq1 => ?_)
  ·
    obtain ⟨jv2, hj2, ej2⟩ := zin_t (by omega) hq1
    subst ej2
    have hc2 : tn (nI jv2) = jv2 := nI_clamp (by omega)
    refine z_aload_n X dX4_sour_12 rfl 0 rfl ?_
    refine z_get (v := .ref (a 1)) (N := 5) X i_RX4 (ci := 3) rfl 0 rfl 0 (by decide) f_12 rfl dX4_sour_13 ?_
    refine z_callV X (c_X0_isTold l g a D E so lk kd st sp nd (by omega)) gX4_sour_X0_isTold rfl ⟨rfl, rfl⟩ (by decide +kernel) ⟨Nat.le_of_ble_eq_true rfl, Nat.le_of_ble_eq_true rfl⟩ ZF.room (ci := 0) rfl 1 rfl (isC := [1, 2, 3, 4, 5, 6]) (by decide) rfl rfl (ws' := (wO g a ft tr ++ (wD g a D E so lk kd st sp nd))) rfl (As := []) (n := 0) rfl rfl (st1 := [.int (bI (decide (0 < E)))]) rfl (Nat.le_of_ble_eq_true rfl) dX4_sour_16 ?_
    refine z_if_neB (tgt := 25) X dX4_sour_19 (by decide) (fun hq3 => ?_) (fun hq3 => ?_)
    ·
      have hq4 : (0 < E) := of_decide_eq_true hq3
      refine z_aload_n X dX4_sour_25 rfl 0 rfl ?_
      refine z_get (v := .ref (a 1)) (N := 5) X i_RX4 (ci := 3) rfl 0 rfl 0 (by decide) f_12 rfl dX4_sour_26 ?_
      refine z_callV X (c_X0_sourLook l g a D E so lk kd st sp nd) gX4_sour_X0_sourLook rfl ⟨rfl, rfl⟩ (by decide +kernel) ⟨Nat.le_of_ble_eq_true rfl, Nat.le_of_ble_eq_true rfl⟩ ZF.room (ci := 0) rfl 1 rfl (isC := [1, 2, 3, 4, 5, 6]) (by decide) rfl rfl (ws' := (wO g a ft tr ++ (wD g a D E so lk kd st sp nd))) rfl (As := []) (n := 0) rfl rfl (st1 := [.int so]) rfl (Nat.le_of_ble_eq_true rfl) dX4_sour_29 ?_
      refine z_istore_n (L' := [(2, .int so), (0, .ref (a 0)), (1, .int (nI jv2))]) X dX4_sour_32 rfl (by decide) rfl ?_
      refine z_aload_n X dX4_sour_33 rfl 1 rfl ?_
      refine z_get (v := .ref (a 1)) (N := 5) X i_RX4 (ci := 3) rfl 0 rfl 0 (by decide) f_12 rfl dX4_sour_34 ?_
      refine z_iload_n X dX4_sour_37 rfl 2 rfl ?_
      refine z_callV X (c_X0_changeSour l g a D E so lk kd st sp nd (nI jv2)) gX4_sour_X0_changeSour rfl ⟨rfl, rfl⟩ (by decide +kernel) ⟨Nat.le_of_ble_eq_true rfl, Nat.le_of_ble_eq_true rfl⟩ ZF.room (ci := 0) rfl 1 rfl (isC := [1, 2, 3, 4, 5, 6]) (by decide) rfl rfl (ws' := (wO g a ft tr ++ (wD g a D E (nI jv2) lk kd st sp nd))) rfl (As := [.int (nI jv2)]) (n := 1) rfl rfl (st1 := []) rfl (Nat.le_of_ble_eq_true rfl) dX4_sour_38 ?_
      refine z_iload_n X dX4_sour_41 rfl 0 rfl ?_
      have e5 : (if zin (nI jv2) 10 && decide (0 < E) then (nI jv2) else so) = (nI jv2) := by simp [hq1, hc2, hq4]
      exact z_iret X ZF dX4_sour_42 (by simp [hq1, hc2, hq4]) (by rw [e5])
    ·
      have hq6 : ¬ (0 < E) := of_decide_eq_false hq3
      refine z_bipush (v := (-3)) X dX4_sour_22 (by decide) ?_
      have e7 : (if zin (nI jv2) 10 && decide (0 < E) then (nI jv2) else so) = so := by simp [hq1, hc2, hq6]
      exact z_iret X ZF dX4_sour_24 (by simp [hq1, hc2, hq6]) (by rw [e7])
  ·
    refine z_bipush (v := (-2)) X dX4_sour_9 (by decide) ?_
    have e8 : (if zin v 10 && decide (0 < E) then v else so) = so := by simp [hq1]
    exact z_iret X ZF dX4_sour_11 (by simp [hq1]) (by rw [e8])
abbrev rX4_crave : Room := { frames := 2, cells := 0, slots := 0, locals := 44 }
set_option maxHeartbeats 4000000 in
set_option maxRecDepth 100000 in
theorem c_X4_crave (l : Launch) (g : zg) (a : Nat → Nat) (ft : Int32) (tr : Int32) (D : Nat) (E : Nat) (so : Int32) (lk : Nat → Int32) (kd : Nat → Int32) (st : Nat → Int32) (sp : Nat → Int32) (nd : Nat → Int32) (x : Int32) (v : Int32) (hE : E ≤ 4) : zM l g yX4_crave wsX4_crave rX4_crave [.ref (a 0), .int x, .int v] (wO g a ft tr ++ (wD g a D E so lk kd st sp nd)) (some (.int (if zin x E then (if zin v 7 then nd (tn x) else -2) else -1))) (wO g a ft tr ++ (wD g a D E so lk kd st sp (if zin x E && zin v 7 then upd nd (tn x) v else nd))) := by
  refine z_met (own := RX4) (cc := cX4_crave) (maxL := 4) (ret := some .int) (by decide +kernel) rfl rfl (Nat.le_of_ble_eq_true rfl) ?_
  intro M X ZF
  refine z_Le (L' := [(0, .ref (a 0)), (1, .int x), (2, .int v)]) rfl ?_
  have i_RX4 : ∀ w ∈ wsX40, w ∈ wsX4_crave := by decide +kernel
  have f_12 : Cond.fieldLink RX4 12 (TX4 0).1 (TX4 0).2.1 (TX4 0).2.2.1 ∈ wsX4_crave := by decide +kernel
  refine z_aload_n X dX4_crave_0 rfl 0 rfl ?_
  refine z_get (v := .ref (a 1)) (N := 5) X i_RX4 (ci := 3) rfl 0 rfl 0 (by decide) f_12 rfl dX4_crave_1 ?_
  refine z_iload_n X dX4_crave_4 rfl 1 rfl ?_
  refine z_callV X (c_X0_hasEater l g a D E so lk kd st sp nd x (by omega)) gX4_crave_X0_hasEater rfl ⟨rfl, rfl⟩ (by decide +kernel) ⟨Nat.le_of_ble_eq_true rfl, Nat.le_of_ble_eq_true rfl⟩ ZF.room (ci := 0) rfl 1 rfl (isC := [1, 2, 3, 4, 5, 6]) (by decide) rfl rfl (ws' := (wO g a ft tr ++ (wD g a D E so lk kd st sp nd))) rfl (As := [.int x]) (n := 1) rfl rfl (st1 := [.int (bI (zin x E))]) rfl (Nat.le_of_ble_eq_true rfl) dX4_crave_5 ?_
  refine z_if_neB (tgt := 13) X dX4_crave_8 (by decide) (fun hq1 => ?_) (fun hq1 => ?_)
  ·
    obtain ⟨jv2, hj2, ej2⟩ := zin_t (by omega) hq1
    subst ej2
    have hc2 : tn (nI jv2) = jv2 := nI_clamp (by omega)
    refine z_iload_n X dX4_crave_13 rfl 2 rfl ?_
    refine z_bipush (v := nI 6) X dX4_crave_14 (by decide) ?_
    refine z_callS0 X (c_X4_isFrom0To l g v 6 (by omega)) gX4_crave_X4_isFrom0To rfl ⟨rfl, rfl⟩ (by decide +kernel) ⟨Nat.le_of_ble_eq_true rfl, Nat.le_of_ble_eq_true rfl⟩ ZF.room (As := [.int v, .int (nI 6)]) (n := 2) rfl rfl (st1 := [.int (bI (zin v (6 + 1)))]) rfl (Nat.le_of_ble_eq_true rfl) dX4_crave_16 ?_
    refine z_if_neB (tgt := 25) X dX4_crave_19 (by decide) (fun hq3 => ?_) (fun hq3 => ?_)
    ·
      obtain ⟨jv4, hj4, ej4⟩ := zin_t (by omega) hq3
      subst ej4
      have hc4 : tn (nI jv4) = jv4 := nI_clamp (by omega)
      refine z_aload_n X dX4_crave_25 rfl 0 rfl ?_
      refine z_get (v := .ref (a 1)) (N := 5) X i_RX4 (ci := 3) rfl 0 rfl 0 (by decide) f_12 rfl dX4_crave_26 ?_
      refine z_iload_n X dX4_crave_29 rfl 1 rfl ?_
      refine z_callV X (c_X0_needOf l g a D E so lk kd st sp nd jv2 (by omega)) gX4_crave_X0_needOf rfl ⟨rfl, rfl⟩ (by decide +kernel) ⟨Nat.le_of_ble_eq_true rfl, Nat.le_of_ble_eq_true rfl⟩ ZF.room (ci := 0) rfl 1 rfl (isC := [1, 2, 3, 4, 5, 6]) (by decide) rfl rfl (ws' := (wO g a ft tr ++ (wD g a D E so lk kd st sp nd))) rfl (As := [.int (nI jv2)]) (n := 1) rfl rfl (st1 := [.int (nd jv2)]) rfl (Nat.le_of_ble_eq_true rfl) dX4_crave_30 ?_
      refine z_istore_n (L' := [(3, .int (nd jv2)), (0, .ref (a 0)), (1, .int (nI jv2)), (2, .int (nI jv4))]) X dX4_crave_33 rfl (by decide) rfl ?_
      refine z_aload_n X dX4_crave_34 rfl 1 rfl ?_
      refine z_get (v := .ref (a 1)) (N := 5) X i_RX4 (ci := 3) rfl 0 rfl 0 (by decide) f_12 rfl dX4_crave_35 ?_
      refine z_iload_n X dX4_crave_38 rfl 2 rfl ?_
      refine z_iload_n X dX4_crave_39 rfl 3 rfl ?_
      refine z_callV X (c_X0_changeNeed l g a D E so lk kd st sp nd jv2 (nI jv4) (by omega)) gX4_crave_X0_changeNeed rfl ⟨rfl, rfl⟩ (by decide +kernel) ⟨Nat.le_of_ble_eq_true rfl, Nat.le_of_ble_eq_true rfl⟩ ZF.room (ci := 0) rfl 1 rfl (isC := [1, 2, 3, 4, 5, 6]) (by decide) rfl rfl (ws' := (wO g a ft tr ++ (wD g a D E so lk kd st sp (upd nd jv2 (nI jv4))))) rfl (As := [.int (nI jv2), .int (nI jv4)]) (n := 2) rfl rfl (st1 := []) rfl (Nat.le_of_ble_eq_true rfl) dX4_crave_40 ?_
      refine z_iload_n X dX4_crave_43 rfl 0 rfl ?_
      have e5 : (if zin (nI jv2) E && zin (nI jv4) 7 then upd nd (tn (nI jv2)) (nI jv4) else nd) = (upd nd jv2 (nI jv4)) := by simp [hq1, hc2, hq3, hc4]
      exact z_iret X ZF dX4_crave_44 (by simp [hq1, hc2, hq3, hc4]) (by rw [e5])
    ·
      refine z_bipush (v := (-2)) X dX4_crave_22 (by decide) ?_
      have e6 : (if zin (nI jv2) E && zin v 7 then upd nd (tn (nI jv2)) v else nd) = nd := by simp [hq1, hc2, hq3]
      exact z_iret X ZF dX4_crave_24 (by simp [hq1, hc2, hq3]) (by rw [e6])
  ·
    refine z_iconst (v := (-1)) X dX4_crave_11 (by decide) ?_
    have e7 : (if zin x E && zin v 7 then upd nd (tn x) v else nd) = nd := by simp [hq1]
    exact z_iret X ZF dX4_crave_12 (by simp [hq1]) (by rw [e7])
abbrev rX4_fasts : Room := { frames := 2, cells := 0, slots := 0, locals := 43 }
set_option maxHeartbeats 4000000 in
set_option maxRecDepth 100000 in
theorem c_X4_fasts (l : Launch) (g : zg) (a : Nat → Nat) (ft : Int32) (tr : Int32) (D : Nat) (E : Nat) (so : Int32) (lk : Nat → Int32) (kd : Nat → Int32) (st : Nat → Int32) (sp : Nat → Int32) (nd : Nat → Int32) (hE : E ≤ 4) (hD : D ≤ 6) : zM l g yX4_fasts wsX4_fasts rX4_fasts [.ref (a 0)] (wO g a ft tr ++ (wD g a D E so lk kd st sp nd)) (some (.int (if 0 < E then nI (fs lk so D) else -3))) (wO g a ft tr ++ (wD g a D E so lk kd st sp nd)) := by
  refine z_met (own := RX4) (cc := cX4_fasts) (maxL := 1) (ret := some .int) (by decide +kernel) rfl rfl (Nat.le_of_ble_eq_true rfl) ?_
  intro M X ZF
  refine z_Le (L' := [(0, .ref (a 0))]) rfl ?_
  have i_RX4 : ∀ w ∈ wsX40, w ∈ wsX4_fasts := by decide +kernel
  have f_12 : Cond.fieldLink RX4 12 (TX4 0).1 (TX4 0).2.1 (TX4 0).2.2.1 ∈ wsX4_fasts := by decide +kernel
  refine z_aload_n X dX4_fasts_0 rfl 0 rfl ?_
  refine z_get (v := .ref (a 1)) (N := 5) X i_RX4 (ci := 3) rfl 0 rfl 0 (by decide) f_12 rfl dX4_fasts_1 ?_
  refine z_callV X (c_X0_isTold l g a D E so lk kd st sp nd (by omega)) gX4_fasts_X0_isTold rfl ⟨rfl, rfl⟩ (by decide +kernel) ⟨Nat.le_of_ble_eq_true rfl, Nat.le_of_ble_eq_true rfl⟩ ZF.room (ci := 0) rfl 1 rfl (isC := [1, 2, 3, 4, 5, 6]) (by decide) rfl rfl (ws' := (wO g a ft tr ++ (wD g a D E so lk kd st sp nd))) rfl (As := []) (n := 0) rfl rfl (st1 := [.int (bI (decide (0 < E)))]) rfl (Nat.le_of_ble_eq_true rfl) dX4_fasts_4 ?_
  refine z_if_eqB (tgt := 20) X dX4_fasts_7 (by decide) (fun hq1 => ?_) (fun hq1 => ?_)
  ·
    have hq2 : ¬ (0 < E) := of_decide_eq_false hq1
    refine z_bipush (v := (-3)) X dX4_fasts_20 (by decide) ?_
    exact z_iret X ZF dX4_fasts_22 (by simp [hq2]) rfl
  ·
    have hq3 : (0 < E) := of_decide_eq_true hq1
    refine z_aload_n X dX4_fasts_10 rfl 0 rfl ?_
    refine z_get (v := .ref (a 1)) (N := 5) X i_RX4 (ci := 3) rfl 0 rfl 0 (by decide) f_12 rfl dX4_fasts_11 ?_
    refine z_callV X (c_X0_fastDays l g a D E so lk kd st sp nd (by omega)) gX4_fasts_X0_fastDays rfl ⟨rfl, rfl⟩ (by decide +kernel) ⟨Nat.le_of_ble_eq_true rfl, Nat.le_of_ble_eq_true rfl⟩ ZF.room (ci := 0) rfl 1 rfl (isC := [1, 2, 3, 4, 5, 6]) (by decide) rfl rfl (ws' := (wO g a ft tr ++ (wD g a D E so lk kd st sp nd))) rfl (As := []) (n := 0) rfl rfl (st1 := [.int (nI (fs lk so D))]) rfl (Nat.le_of_ble_eq_true rfl) dX4_fasts_14 ?_
    refine z_goto (tgt := 22) X dX4_fasts_17 (by decide) ?_
    exact z_iret X ZF dX4_fasts_22 (by simp [hq3]) rfl
abbrev rX4_yellow : Room := { frames := 2, cells := 0, slots := 0, locals := 44 }
set_option maxHeartbeats 4000000 in
set_option maxRecDepth 100000 in
theorem c_X4_yellow (l : Launch) (g : zg) (a : Nat → Nat) (ft : Int32) (tr : Int32) (D : Nat) (E : Nat) (so : Int32) (lk : Nat → Int32) (kd : Nat → Int32) (st : Nat → Int32) (sp : Nat → Int32) (nd : Nat → Int32) (x : Int32) (s : Int32) (hE : E ≤ 4) (hD : D ≤ 6) (hK : vK kd st E) : zM l g yX4_yellow wsX4_yellow rX4_yellow [.ref (a 0), .int x, .int s] (wO g a ft tr ++ (wD g a D E so lk kd st sp nd)) (some (.int (if zin x E then (if zin s (2 ^ D) then nI (yl D (Lf kd st (tn x)) (tn s)) else -2) else -1))) (wO g a ft tr ++ (wD g a D E so lk kd st sp nd)) := by
  refine z_met (own := RX4) (cc := cX4_yellow) (maxL := 3) (ret := some .int) (by decide +kernel) rfl rfl (Nat.le_of_ble_eq_true rfl) ?_
  intro M X ZF
  refine z_Le (L' := [(0, .ref (a 0)), (1, .int x), (2, .int s)]) rfl ?_
  have hL := vK_L hK
  have hpD : 2 ^ D ≤ 2 ^ 6 := Nat.pow_le_pow_right (by omega) hD
  have i_RX4 : ∀ w ∈ wsX40, w ∈ wsX4_yellow := by decide +kernel
  have f_12 : Cond.fieldLink RX4 12 (TX4 0).1 (TX4 0).2.1 (TX4 0).2.2.1 ∈ wsX4_yellow := by decide +kernel
  refine z_aload_n X dX4_yellow_0 rfl 0 rfl ?_
  refine z_get (v := .ref (a 1)) (N := 5) X i_RX4 (ci := 3) rfl 0 rfl 0 (by decide) f_12 rfl dX4_yellow_1 ?_
  refine z_iload_n X dX4_yellow_4 rfl 1 rfl ?_
  refine z_callV X (c_X0_hasEater l g a D E so lk kd st sp nd x (by omega)) gX4_yellow_X0_hasEater rfl ⟨rfl, rfl⟩ (by decide +kernel) ⟨Nat.le_of_ble_eq_true rfl, Nat.le_of_ble_eq_true rfl⟩ ZF.room (ci := 0) rfl 1 rfl (isC := [1, 2, 3, 4, 5, 6]) (by decide) rfl rfl (ws' := (wO g a ft tr ++ (wD g a D E so lk kd st sp nd))) rfl (As := [.int x]) (n := 1) rfl rfl (st1 := [.int (bI (zin x E))]) rfl (Nat.le_of_ble_eq_true rfl) dX4_yellow_5 ?_
  refine z_if_neB (tgt := 13) X dX4_yellow_8 (by decide) (fun hq1 => ?_) (fun hq1 => ?_)
  ·
    obtain ⟨jv2, hj2, ej2⟩ := zin_t (by omega) hq1
    subst ej2
    have hc2 : tn (nI jv2) = jv2 := nI_clamp (by omega)
    refine z_aload_n X dX4_yellow_13 rfl 0 rfl ?_
    refine z_get (v := .ref (a 1)) (N := 5) X i_RX4 (ci := 3) rfl 0 rfl 0 (by decide) f_12 rfl dX4_yellow_14 ?_
    refine z_iload_n X dX4_yellow_17 rfl 2 rfl ?_
    refine z_callV X (c_X0_hasDays l g a D E so lk kd st sp nd s (by omega)) gX4_yellow_X0_hasDays rfl ⟨rfl, rfl⟩ (by decide +kernel) ⟨Nat.le_of_ble_eq_true rfl, Nat.le_of_ble_eq_true rfl⟩ ZF.room (ci := 0) rfl 1 rfl (isC := [1, 2, 3, 4, 5, 6]) (by decide) rfl rfl (ws' := (wO g a ft tr ++ (wD g a D E so lk kd st sp nd))) rfl (As := [.int s]) (n := 1) rfl rfl (st1 := [.int (bI (zin s (2 ^ D)))]) rfl (Nat.le_of_ble_eq_true rfl) dX4_yellow_18 ?_
    refine z_if_neB (tgt := 27) X dX4_yellow_21 (by decide) (fun hq3 => ?_) (fun hq3 => ?_)
    ·
      obtain ⟨jv4, hj4, ej4⟩ := zin_t (by omega) hq3
      subst ej4
      have hc4 : tn (nI jv4) = jv4 := nI_clamp (by omega)
      refine z_aload_n X dX4_yellow_27 rfl 0 rfl ?_
      refine z_get (v := .ref (a 1)) (N := 5) X i_RX4 (ci := 3) rfl 0 rfl 0 (by decide) f_12 rfl dX4_yellow_28 ?_
      refine z_aload_n X dX4_yellow_31 rfl 0 rfl ?_
      refine z_get (v := .ref (a 1)) (N := 5) X i_RX4 (ci := 3) rfl 0 rfl 0 (by decide) f_12 rfl dX4_yellow_32 ?_
      refine z_iload_n X dX4_yellow_35 rfl 1 rfl ?_
      refine z_callV X (c_X0_lastsOf l g a D E so lk kd st sp nd jv2 (by omega) (by omega) (by first | assumption | omega)) gX4_yellow_X0_lastsOf rfl ⟨rfl, rfl⟩ (by decide +kernel) ⟨Nat.le_of_ble_eq_true rfl, Nat.le_of_ble_eq_true rfl⟩ ZF.room (ci := 0) rfl 1 rfl (isC := [1, 2, 3, 4, 5, 6]) (by decide) rfl rfl (ws' := (wO g a ft tr ++ (wD g a D E so lk kd st sp nd))) rfl (As := [.int (nI jv2)]) (n := 1) rfl rfl (st1 := [.int (nI (Lf kd st jv2)), .ref (a 1)]) rfl (Nat.le_of_ble_eq_true rfl) dX4_yellow_36 ?_
      refine z_iload_n X dX4_yellow_39 rfl 2 rfl ?_
      refine z_callV X (c_X0_yellowDays l g a D E so lk kd st sp nd (Lf kd st jv2) jv4 (by omega) (hL _ (by omega)).2) gX4_yellow_X0_yellowDays rfl ⟨rfl, rfl⟩ (by decide +kernel) ⟨Nat.le_of_ble_eq_true rfl, Nat.le_of_ble_eq_true rfl⟩ ZF.room (ci := 0) rfl 1 rfl (isC := [1, 2, 3, 4, 5, 6]) (by decide) rfl rfl (ws' := (wO g a ft tr ++ (wD g a D E so lk kd st sp nd))) rfl (As := [.int (nI (Lf kd st jv2)), .int (nI jv4)]) (n := 2) rfl rfl (st1 := [.int (nI (yl D (Lf kd st jv2) jv4))]) rfl (Nat.le_of_ble_eq_true rfl) dX4_yellow_40 ?_
      exact z_iret X ZF dX4_yellow_43 (by simp [hq1, hc2, hq3, hc4]) rfl
    ·
      refine z_bipush (v := (-2)) X dX4_yellow_24 (by decide) ?_
      exact z_iret X ZF dX4_yellow_26 (by simp [hq1, hc2, hq3]) rfl
  ·
    refine z_iconst (v := (-1)) X dX4_yellow_11 (by decide) ?_
    exact z_iret X ZF dX4_yellow_12 (by simp [hq1]) rfl
abbrev rX4_found : Room := { frames := 4, cells := 0, slots := 0, locals := 88 }
set_option maxHeartbeats 4000000 in
set_option maxRecDepth 100000 in
theorem c_X4_found (l : Launch) (g : zg) (a : Nat → Nat) (ft : Int32) (tr : Int32) (D : Nat) (E : Nat) (so : Int32) (lk : Nat → Int32) (kd : Nat → Int32) (st : Nat → Int32) (sp : Nat → Int32) (nd : Nat → Int32) (x : Int32) (s : Int32) (w : Int32) (hE : E ≤ 4) (hD : D ≤ 6) (hK : vK kd st E) (hSp : vS sp E) : zM l g yX4_found wsX4_found rX4_found [.ref (a 0), .int x, .int s, .int w] (wO g a ft tr ++ (wD g a D E so lk kd st sp nd)) (some (.int (if zin x E then (if zin s (2 ^ D) && zin w 2 then (if tn w = 0 then nI (fnd D (Lf kd st (tn x)) (tn s) (fs lk so D)) else nI (pc (fnd D (Lf kd st (tn x)) (tn s) (fs lk so D)) * tn (sp (tn x)))) else -2) else -1))) (wO g a ft tr ++ (wD g a D E so lk kd st sp nd)) := by
  refine z_met (own := RX4) (cc := cX4_found) (maxL := 4) (ret := some .int) (by decide +kernel) rfl rfl (Nat.le_of_ble_eq_true rfl) ?_
  intro M X ZF
  refine z_Le (L' := [(0, .ref (a 0)), (1, .int x), (2, .int s), (3, .int w)]) rfl ?_
  have hL := vK_L hK
  have hpD : 2 ^ D ≤ 2 ^ 6 := Nat.pow_le_pow_right (by omega) hD
  have i_RX4 : ∀ w ∈ wsX40, w ∈ wsX4_found := by decide +kernel
  have f_12 : Cond.fieldLink RX4 12 (TX4 0).1 (TX4 0).2.1 (TX4 0).2.2.1 ∈ wsX4_found := by decide +kernel
  refine z_aload_n X dX4_found_0 rfl 0 rfl ?_
  refine z_get (v := .ref (a 1)) (N := 5) X i_RX4 (ci := 3) rfl 0 rfl 0 (by decide) f_12 rfl dX4_found_1 ?_
  refine z_iload_n X dX4_found_4 rfl 1 rfl ?_
  refine z_callV X (c_X0_hasEater l g a D E so lk kd st sp nd x (by omega)) gX4_found_X0_hasEater rfl ⟨rfl, rfl⟩ (by decide +kernel) ⟨Nat.le_of_ble_eq_true rfl, Nat.le_of_ble_eq_true rfl⟩ ZF.room (ci := 0) rfl 1 rfl (isC := [1, 2, 3, 4, 5, 6]) (by decide) rfl rfl (ws' := (wO g a ft tr ++ (wD g a D E so lk kd st sp nd))) rfl (As := [.int x]) (n := 1) rfl rfl (st1 := [.int (bI (zin x E))]) rfl (Nat.le_of_ble_eq_true rfl) dX4_found_5 ?_
  refine z_if_neB (tgt := 13) X dX4_found_8 (by decide) (fun hq1 => ?_) (fun hq1 => ?_)
  ·
    obtain ⟨jv2, hj2, ej2⟩ := zin_t (by omega) hq1
    subst ej2
    have hc2 : tn (nI jv2) = jv2 := nI_clamp (by omega)
    refine z_aload_n X dX4_found_13 rfl 0 rfl ?_
    refine z_get (v := .ref (a 1)) (N := 5) X i_RX4 (ci := 3) rfl 0 rfl 0 (by decide) f_12 rfl dX4_found_14 ?_
    refine z_iload_n X dX4_found_17 rfl 2 rfl ?_
    refine z_callV X (c_X0_hasDays l g a D E so lk kd st sp nd s (by omega)) gX4_found_X0_hasDays rfl ⟨rfl, rfl⟩ (by decide +kernel) ⟨Nat.le_of_ble_eq_true rfl, Nat.le_of_ble_eq_true rfl⟩ ZF.room (ci := 0) rfl 1 rfl (isC := [1, 2, 3, 4, 5, 6]) (by decide) rfl rfl (ws' := (wO g a ft tr ++ (wD g a D E so lk kd st sp nd))) rfl (As := [.int s]) (n := 1) rfl rfl (st1 := [.int (bI (zin s (2 ^ D)))]) rfl (Nat.le_of_ble_eq_true rfl) dX4_found_18 ?_
    refine z_if_eqB (tgt := 32) X dX4_found_21 (by decide) (fun hq3 => ?_) (fun hq3 => ?_)
    ·
      refine z_bipush (v := (-2)) X dX4_found_32 (by decide) ?_
      exact z_iret X ZF dX4_found_34 (by simp [z02, t00, hq1, hc2, hq3]) rfl
    ·
      obtain ⟨jv4, hj4, ej4⟩ := zin_t (by omega) hq3
      subst ej4
      have hc4 : tn (nI jv4) = jv4 := nI_clamp (by omega)
      refine z_iload_n X dX4_found_24 rfl 3 rfl ?_
      refine z_iconst (v := nI 1) X dX4_found_25 (by decide) ?_
      refine z_callS0 X (c_X4_isFrom0To l g w 1 (by omega)) gX4_found_X4_isFrom0To rfl ⟨rfl, rfl⟩ (by decide +kernel) ⟨Nat.le_of_ble_eq_true rfl, Nat.le_of_ble_eq_true rfl⟩ ZF.room (As := [.int w, .int (nI 1)]) (n := 2) rfl rfl (st1 := [.int (bI (zin w (1 + 1)))]) rfl (Nat.le_of_ble_eq_true rfl) dX4_found_26 ?_
      refine z_if_neB (tgt := 35) X dX4_found_29 (by decide) (fun hq5 => ?_) (fun hq5 => ?_)
      ·
        obtain ⟨jv6, hj6, ej6⟩ := zin_t (by omega) hq5
        subst ej6
        have hc6 : tn (nI jv6) = jv6 := nI_clamp (by omega)
        refine z_iload_n X dX4_found_35 rfl 3 rfl ?_
        refine z_if_neN (tgt := 51) X dX4_found_36 (by decide) (by omega) (fun hq7 => ?_) (fun hq7 => ?_)
        ·
          refine z_aload_n X dX4_found_51 rfl 0 rfl ?_
          refine z_get (v := .ref (a 1)) (N := 5) X i_RX4 (ci := 3) rfl 0 rfl 0 (by decide) f_12 rfl dX4_found_52 ?_
          refine z_iload_n X dX4_found_55 rfl 1 rfl ?_
          refine z_iload_n X dX4_found_56 rfl 2 rfl ?_
          refine z_callV X (c_X0_fineOf l g a D E so lk kd st sp nd jv2 jv4 (by omega) (by omega) (by omega) (by first | assumption | omega) (by first | assumption | omega)) gX4_found_X0_fineOf rfl ⟨rfl, rfl⟩ (by decide +kernel) ⟨Nat.le_of_ble_eq_true rfl, Nat.le_of_ble_eq_true rfl⟩ ZF.room (ci := 0) rfl 1 rfl (isC := [1, 2, 3, 4, 5, 6]) (by decide) rfl rfl (ws' := (wO g a ft tr ++ (wD g a D E so lk kd st sp nd))) rfl (As := [.int (nI jv2), .int (nI jv4)]) (n := 2) rfl rfl (st1 := [.int (nI (pc (fnd D (Lf kd st jv2) jv4 (fs lk so D)) * tn (sp jv2)))]) rfl (Nat.le_of_ble_eq_true rfl) dX4_found_57 ?_
          exact z_iret X ZF dX4_found_60 (by simp [z02, t00, hq1, hc2, hq3, hc4, hq5, hc6, hq7]) rfl
        ·
          refine z_aload_n X dX4_found_39 rfl 0 rfl ?_
          refine z_get (v := .ref (a 1)) (N := 5) X i_RX4 (ci := 3) rfl 0 rfl 0 (by decide) f_12 rfl dX4_found_40 ?_
          refine z_iload_n X dX4_found_43 rfl 1 rfl ?_
          refine z_iload_n X dX4_found_44 rfl 2 rfl ?_
          refine z_callV X (c_X0_foundDays l g a D E so lk kd st sp nd jv2 jv4 (by omega) (by omega) (by omega) (by first | assumption | omega)) gX4_found_X0_foundDays rfl ⟨rfl, rfl⟩ (by decide +kernel) ⟨Nat.le_of_ble_eq_true rfl, Nat.le_of_ble_eq_true rfl⟩ ZF.room (ci := 0) rfl 1 rfl (isC := [1, 2, 3, 4, 5, 6]) (by decide) rfl rfl (ws' := (wO g a ft tr ++ (wD g a D E so lk kd st sp nd))) rfl (As := [.int (nI jv2), .int (nI jv4)]) (n := 2) rfl rfl (st1 := [.int (nI (fnd D (Lf kd st jv2) jv4 (fs lk so D)))]) rfl (Nat.le_of_ble_eq_true rfl) dX4_found_45 ?_
          refine z_goto (tgt := 60) X dX4_found_48 (by decide) ?_
          exact z_iret X ZF dX4_found_60 (by simp [z02, t00, hq1, hc2, hq3, hc4, hq5, hc6, hq7]) rfl
      ·
        refine z_bipush (v := (-2)) X dX4_found_32 (by decide) ?_
        exact z_iret X ZF dX4_found_34 (by simp [z02, t00, hq1, hc2, hq3, hc4, hq5]) rfl
  ·
    refine z_iconst (v := (-1)) X dX4_found_11 (by decide) ?_
    exact z_iret X ZF dX4_found_12 (by simp [z02, t00, hq1]) rfl
abbrev rX4_best : Room := { frames := 4, cells := 0, slots := 0, locals := 88 }
set_option maxHeartbeats 4000000 in
set_option maxRecDepth 100000 in
theorem c_X4_best (l : Launch) (g : zg) (a : Nat → Nat) (ft : Int32) (tr : Int32) (D : Nat) (E : Nat) (so : Int32) (lk : Nat → Int32) (kd : Nat → Int32) (st : Nat → Int32) (sp : Nat → Int32) (nd : Nat → Int32) (x : Int32) (w : Int32) (hE : E ≤ 4) (hD : D ≤ 6) (hK : vK kd st E) (hSp : vS sp E) : zM l g yX4_best wsX4_best rX4_best [.ref (a 0), .int x, .int w] (wO g a ft tr ++ (wD g a D E so lk kd st sp nd)) (some (.int (if zin x E then (if zin w 2 then besI (bst D (Lf kd st (tn x)) (nd (tn x)) (fs lk so D)) w (tn (sp (tn x))) else -2) else -1))) (wO g a ft tr ++ (wD g a D E so lk kd st sp nd)) := by
  refine z_met (own := RX4) (cc := cX4_best) (maxL := 4) (ret := some .int) (by decide +kernel) rfl rfl (Nat.le_of_ble_eq_true rfl) ?_
  intro M X ZF
  refine z_Le (L' := [(0, .ref (a 0)), (1, .int x), (2, .int w)]) rfl ?_
  have hL := vK_L hK
  have hpD : 2 ^ D ≤ 2 ^ 6 := Nat.pow_le_pow_right (by omega) hD
  have hfs := fs_lt6 (lk := lk) (so := so) hD
  have i_RX4 : ∀ w ∈ wsX40, w ∈ wsX4_best := by decide +kernel
  have f_12 : Cond.fieldLink RX4 12 (TX4 0).1 (TX4 0).2.1 (TX4 0).2.2.1 ∈ wsX4_best := by decide +kernel
  refine z_aload_n X dX4_best_0 rfl 0 rfl ?_
  refine z_get (v := .ref (a 1)) (N := 5) X i_RX4 (ci := 3) rfl 0 rfl 0 (by decide) f_12 rfl dX4_best_1 ?_
  refine z_iload_n X dX4_best_4 rfl 1 rfl ?_
  refine z_callV X (c_X0_hasEater l g a D E so lk kd st sp nd x (by omega)) gX4_best_X0_hasEater rfl ⟨rfl, rfl⟩ (by decide +kernel) ⟨Nat.le_of_ble_eq_true rfl, Nat.le_of_ble_eq_true rfl⟩ ZF.room (ci := 0) rfl 1 rfl (isC := [1, 2, 3, 4, 5, 6]) (by decide) rfl rfl (ws' := (wO g a ft tr ++ (wD g a D E so lk kd st sp nd))) rfl (As := [.int x]) (n := 1) rfl rfl (st1 := [.int (bI (zin x E))]) rfl (Nat.le_of_ble_eq_true rfl) dX4_best_5 ?_
  refine z_if_neB (tgt := 13) X dX4_best_8 (by decide) (fun hq1 => ?_) (fun hq1 => ?_)
  ·
    obtain ⟨jv2, hj2, ej2⟩ := zin_t (by omega) hq1
    subst ej2
    have hc2 : tn (nI jv2) = jv2 := nI_clamp (by omega)
    refine z_iload_n X dX4_best_13 rfl 2 rfl ?_
    refine z_iconst (v := nI 1) X dX4_best_14 (by decide) ?_
    refine z_callS0 X (c_X4_isFrom0To l g w 1 (by omega)) gX4_best_X4_isFrom0To rfl ⟨rfl, rfl⟩ (by decide +kernel) ⟨Nat.le_of_ble_eq_true rfl, Nat.le_of_ble_eq_true rfl⟩ ZF.room (As := [.int w, .int (nI 1)]) (n := 2) rfl rfl (st1 := [.int (bI (zin w (1 + 1)))]) rfl (Nat.le_of_ble_eq_true rfl) dX4_best_15 ?_
    refine z_if_neB (tgt := 24) X dX4_best_18 (by decide) (fun hq3 => ?_) (fun hq3 => ?_)
    ·
      obtain ⟨jv4, hj4, ej4⟩ := zin_t (by omega) hq3
      subst ej4
      have hc4 : tn (nI jv4) = jv4 := nI_clamp (by omega)
      refine z_aload_n X dX4_best_24 rfl 0 rfl ?_
      refine z_get (v := .ref (a 1)) (N := 5) X i_RX4 (ci := 3) rfl 0 rfl 0 (by decide) f_12 rfl dX4_best_25 ?_
      refine z_iload_n X dX4_best_28 rfl 1 rfl ?_
      refine z_aload_n X dX4_best_29 rfl 0 rfl ?_
      refine z_get (v := .ref (a 1)) (N := 5) X i_RX4 (ci := 3) rfl 0 rfl 0 (by decide) f_12 rfl dX4_best_30 ?_
      refine z_callV X (c_X0_fastDays l g a D E so lk kd st sp nd (by omega)) gX4_best_X0_fastDays rfl ⟨rfl, rfl⟩ (by decide +kernel) ⟨Nat.le_of_ble_eq_true rfl, Nat.le_of_ble_eq_true rfl⟩ ZF.room (ci := 0) rfl 1 rfl (isC := [1, 2, 3, 4, 5, 6]) (by decide) rfl rfl (ws' := (wO g a ft tr ++ (wD g a D E so lk kd st sp nd))) rfl (As := []) (n := 0) rfl rfl (st1 := [.int (nI (fs lk so D)), .int (nI jv2), .ref (a 1)]) rfl (Nat.le_of_ble_eq_true rfl) dX4_best_33 ?_
      refine z_callV X (c_X0_bestSet l g a D E so lk kd st sp nd jv2 (fs lk so D) (by omega) (by omega) (by omega) (by first | assumption | omega) hfs) gX4_best_X0_bestSet rfl ⟨rfl, rfl⟩ (by decide +kernel) ⟨Nat.le_of_ble_eq_true rfl, Nat.le_of_ble_eq_true rfl⟩ ZF.room (ci := 0) rfl 1 rfl (isC := [1, 2, 3, 4, 5, 6]) (by decide) rfl rfl (ws' := (wO g a ft tr ++ (wD g a D E so lk kd st sp nd))) rfl (As := [.int (nI jv2), .int (nI (fs lk so D))]) (n := 2) rfl rfl (st1 := [.int (obI (bst D (Lf kd st jv2) (nd jv2) (fs lk so D)))]) rfl (Nat.le_of_ble_eq_true rfl) dX4_best_36 ?_
      rcases hbv : bst D (Lf kd st jv2) (nd jv2) (fs lk so D) with _ | ⟨b_v, m_v⟩
      ·
        refine z_st (st' := [.int (-9)]) rfl ?_
        refine z_istore_n (L' := [(3, .int (-9)), (0, .ref (a 0)), (1, .int (nI jv2)), (2, .int (nI jv4))]) X dX4_best_39 rfl (by decide) rfl ?_
        refine z_iload_n X dX4_best_40 rfl 0 rfl ?_
        refine z_bipush (v := (-9)) X dX4_best_41 (by decide) ?_
        refine z_icmp_eq (tgt := 50) X dX4_best_43 (by decide) (fun hq5 => ?_) (fun hq5 => ?_)
        ·
          refine z_iload_n X dX4_best_50 rfl 0 rfl ?_
          refine z_goto (tgt := 63) X dX4_best_51 (by decide) ?_
          exact z_iret X ZF dX4_best_63 (by simp [besI, z02, t00, hq1, hc2, hq3, hc4, hbv, hq5]; try (rw [hbl.2.2])) rfl
        ·
          exact absurd rfl hq5
      ·
        have hbl := bst_lt hbv
        refine z_st (st' := [.int (nI b_v)]) rfl ?_
        refine z_istore_n (L' := [(3, .int (nI b_v)), (0, .ref (a 0)), (1, .int (nI jv2)), (2, .int (nI jv4))]) X dX4_best_39 rfl (by decide) rfl ?_
        refine z_iload_n X dX4_best_40 rfl 0 rfl ?_
        refine z_bipush (v := (-9)) X dX4_best_41 (by decide) ?_
        refine z_icmp_eq (tgt := 50) X dX4_best_43 (by decide) (fun hq6 => ?_) (fun hq6 => ?_)
        ·
          exact absurd hq6 (nI_nm (k := 8) (by omega) (by decide +kernel))
        ·
          refine z_iload_n X dX4_best_46 rfl 3 rfl ?_
          refine z_if_neN (tgt := 54) X dX4_best_47 (by decide) (by omega) (fun hq7 => ?_) (fun hq7 => ?_)
          ·
            refine z_aload_n X dX4_best_54 rfl 1 rfl ?_
            refine z_get (v := .ref (a 1)) (N := 5) X i_RX4 (ci := 3) rfl 0 rfl 0 (by decide) f_12 rfl dX4_best_55 ?_
            refine z_iload_n X dX4_best_58 rfl 2 rfl ?_
            refine z_iload_n X dX4_best_59 rfl 0 rfl ?_
            refine z_callV X (c_X0_fineOf l g a D E so lk kd st sp nd jv2 b_v (by omega) (by omega) (by omega) (by first | assumption | omega) (by first | assumption | omega)) gX4_best_X0_fineOf rfl ⟨rfl, rfl⟩ (by decide +kernel) ⟨Nat.le_of_ble_eq_true rfl, Nat.le_of_ble_eq_true rfl⟩ ZF.room (ci := 0) rfl 1 rfl (isC := [1, 2, 3, 4, 5, 6]) (by decide) rfl rfl (ws' := (wO g a ft tr ++ (wD g a D E so lk kd st sp nd))) rfl (As := [.int (nI jv2), .int (nI b_v)]) (n := 2) rfl rfl (st1 := [.int (nI (pc (fnd D (Lf kd st jv2) b_v (fs lk so D)) * tn (sp jv2)))]) rfl (Nat.le_of_ble_eq_true rfl) dX4_best_60 ?_
            exact z_iret X ZF dX4_best_63 (by simp [besI, z02, t00, hq1, hc2, hq3, hc4, hbv, hq6, hq7]; try (rw [hbl.2.2])) rfl
          ·
            refine z_iload_n X dX4_best_50 rfl 0 rfl ?_
            refine z_goto (tgt := 63) X dX4_best_51 (by decide) ?_
            exact z_iret X ZF dX4_best_63 (by simp [besI, z02, t00, hq1, hc2, hq3, hc4, hbv, hq6, hq7]; try (rw [hbl.2.2])) rfl
    ·
      refine z_bipush (v := (-2)) X dX4_best_21 (by decide) ?_
      exact z_iret X ZF dX4_best_23 (by simp [besI, z02, t00, hq1, hc2, hq3]; try (rw [hbl.2.2])) rfl
  ·
    refine z_iconst (v := (-1)) X dX4_best_11 (by decide) ?_
    exact z_iret X ZF dX4_best_12 (by simp [besI, z02, t00, hq1]; try (rw [hbl.2.2])) rfl
abbrev rX4_village : Room := { frames := 4, cells := 0, slots := 0, locals := 97 }
set_option maxHeartbeats 4000000 in
set_option maxRecDepth 100000 in
theorem c_X4_village (l : Launch) (g : zg) (a : Nat → Nat) (ft : Int32) (tr : Int32) (D : Nat) (E : Nat) (so : Int32) (lk : Nat → Int32) (kd : Nat → Int32) (st : Nat → Int32) (sp : Nat → Int32) (nd : Nat → Int32) (hE : E ≤ 4) (hD : D ≤ 6) (hK : vK kd st E) (hSp : vS sp E) : zM l g yX4_village wsX4_village rX4_village [.ref (a 0)] (wO g a ft tr ++ (wD g a D E so lk kd st sp nd)) (some (.int (if 0 < E then onI (vil D kd st sp nd (fs lk so D) E) else -3))) (wO g a ft tr ++ (wD g a D E so lk kd st sp nd)) := by
  refine z_met (own := RX4) (cc := cX4_village) (maxL := 1) (ret := some .int) (by decide +kernel) rfl rfl (Nat.le_of_ble_eq_true rfl) ?_
  intro M X ZF
  refine z_Le (L' := [(0, .ref (a 0))]) rfl ?_
  have hL := vK_L hK
  have hfs := fs_lt6 (lk := lk) (so := so) hD
  have i_RX4 : ∀ w ∈ wsX40, w ∈ wsX4_village := by decide +kernel
  have f_12 : Cond.fieldLink RX4 12 (TX4 0).1 (TX4 0).2.1 (TX4 0).2.2.1 ∈ wsX4_village := by decide +kernel
  refine z_aload_n X dX4_village_0 rfl 0 rfl ?_
  refine z_get (v := .ref (a 1)) (N := 5) X i_RX4 (ci := 3) rfl 0 rfl 0 (by decide) f_12 rfl dX4_village_1 ?_
  refine z_callV X (c_X0_isTold l g a D E so lk kd st sp nd (by omega)) gX4_village_X0_isTold rfl ⟨rfl, rfl⟩ (by decide +kernel) ⟨Nat.le_of_ble_eq_true rfl, Nat.le_of_ble_eq_true rfl⟩ ZF.room (ci := 0) rfl 1 rfl (isC := [1, 2, 3, 4, 5, 6]) (by decide) rfl rfl (ws' := (wO g a ft tr ++ (wD g a D E so lk kd st sp nd))) rfl (As := []) (n := 0) rfl rfl (st1 := [.int (bI (decide (0 < E)))]) rfl (Nat.le_of_ble_eq_true rfl) dX4_village_4 ?_
  refine z_if_eqB (tgt := 27) X dX4_village_7 (by decide) (fun hq1 => ?_) (fun hq1 => ?_)
  ·
    have hq2 : ¬ (0 < E) := of_decide_eq_false hq1
    refine z_bipush (v := (-3)) X dX4_village_27 (by decide) ?_
    exact z_iret X ZF dX4_village_29 (by simp [hq2]) rfl
  ·
    have hq3 : (0 < E) := of_decide_eq_true hq1
    refine z_aload_n X dX4_village_10 rfl 0 rfl ?_
    refine z_get (v := .ref (a 1)) (N := 5) X i_RX4 (ci := 3) rfl 0 rfl 0 (by decide) f_12 rfl dX4_village_11 ?_
    refine z_aload_n X dX4_village_14 rfl 0 rfl ?_
    refine z_get (v := .ref (a 1)) (N := 5) X i_RX4 (ci := 3) rfl 0 rfl 0 (by decide) f_12 rfl dX4_village_15 ?_
    refine z_callV X (c_X0_fastDays l g a D E so lk kd st sp nd (by omega)) gX4_village_X0_fastDays rfl ⟨rfl, rfl⟩ (by decide +kernel) ⟨Nat.le_of_ble_eq_true rfl, Nat.le_of_ble_eq_true rfl⟩ ZF.room (ci := 0) rfl 1 rfl (isC := [1, 2, 3, 4, 5, 6]) (by decide) rfl rfl (ws' := (wO g a ft tr ++ (wD g a D E so lk kd st sp nd))) rfl (As := []) (n := 0) rfl rfl (st1 := [.int (nI (fs lk so D)), .ref (a 1)]) rfl (Nat.le_of_ble_eq_true rfl) dX4_village_18 ?_
    refine z_callV X (c_X0_villagePays l g a D E so lk kd st sp nd (fs lk so D) (by omega) (by omega) (by first | assumption | omega) (by first | assumption | omega) (by omega)) gX4_village_X0_villagePays rfl ⟨rfl, rfl⟩ (by decide +kernel) ⟨Nat.le_of_ble_eq_true rfl, Nat.le_of_ble_eq_true rfl⟩ ZF.room (ci := 0) rfl 1 rfl (isC := [1, 2, 3, 4, 5, 6]) (by decide) rfl rfl (ws' := (wO g a ft tr ++ (wD g a D E so lk kd st sp nd))) rfl (As := [.int (nI (fs lk so D))]) (n := 1) rfl rfl (st1 := [.int (onI (vil D kd st sp nd (fs lk so D) E))]) rfl (Nat.le_of_ble_eq_true rfl) dX4_village_21 ?_
    refine z_goto (tgt := 29) X dX4_village_24 (by decide) ?_
    exact z_iret X ZF dX4_village_29 (by simp [hq3]) rfl
abbrev rX4_smile : Room := { frames := 5, cells := 0, slots := 0, locals := 122 }
set_option maxHeartbeats 4000000 in
set_option maxRecDepth 100000 in
theorem c_X4_smile (l : Launch) (g : zg) (a : Nat → Nat) (ft : Int32) (tr : Int32) (D : Nat) (E : Nat) (so : Int32) (lk : Nat → Int32) (kd : Nat → Int32) (st : Nat → Int32) (sp : Nat → Int32) (nd : Nat → Int32) (w : Int32) (hE : E ≤ 4) (hD : D ≤ 6) (hK : vK kd st E) (hSp : vS sp E) : zM l g yX4_smile wsX4_smile rX4_smile [.ref (a 0), .int w] (wO g a ft tr ++ (wD g a D E so lk kd st sp nd)) (some (.int (if zin w 2 then (if 0 < E then smiI (smF D E kd st sp nd (fs lk so D) D) w else -3) else -2))) (wO g a ft tr ++ (wD g a D E so lk kd st sp nd)) := by
  refine z_met (own := RX4) (cc := cX4_smile) (maxL := 3) (ret := some .int) (by decide +kernel) rfl rfl (Nat.le_of_ble_eq_true rfl) ?_
  intro M X ZF
  refine z_Le (L' := [(0, .ref (a 0)), (1, .int w)]) rfl ?_
  have hL := vK_L hK
  have hfs := fs_lt6 (lk := lk) (so := so) hD
  have i_RX4 : ∀ w ∈ wsX40, w ∈ wsX4_smile := by decide +kernel
  have f_12 : Cond.fieldLink RX4 12 (TX4 0).1 (TX4 0).2.1 (TX4 0).2.2.1 ∈ wsX4_smile := by decide +kernel
  refine z_iload_n X dX4_smile_0 rfl 1 rfl ?_
  refine z_iconst (v := nI 1) X dX4_smile_1 (by decide) ?_
  refine z_callS0 X (c_X4_isFrom0To l g w 1 (by omega)) gX4_smile_X4_isFrom0To rfl ⟨rfl, rfl⟩ (by decide +kernel) ⟨Nat.le_of_ble_eq_true rfl, Nat.le_of_ble_eq_true rfl⟩ ZF.room (As := [.int w, .int (nI 1)]) (n := 2) rfl rfl (st1 := [.int (bI (zin w (1 + 1)))]) rfl (Nat.le_of_ble_eq_true rfl) dX4_smile_2 ?_
  refine z_if_neB (tgt := 11) X dX4_smile_5 (by decide) (fun hq1 => ?_) (fun hq1 => ?_)
  ·
    obtain ⟨jv2, hj2, ej2⟩ := zin_t (by omega) hq1
    subst ej2
    have hc2 : tn (nI jv2) = jv2 := nI_clamp (by omega)
    refine z_aload_n X dX4_smile_11 rfl 0 rfl ?_
    refine z_get (v := .ref (a 1)) (N := 5) X i_RX4 (ci := 3) rfl 0 rfl 0 (by decide) f_12 rfl dX4_smile_12 ?_
    refine z_callV X (c_X0_isTold l g a D E so lk kd st sp nd (by omega)) gX4_smile_X0_isTold rfl ⟨rfl, rfl⟩ (by decide +kernel) ⟨Nat.le_of_ble_eq_true rfl, Nat.le_of_ble_eq_true rfl⟩ ZF.room (ci := 0) rfl 1 rfl (isC := [1, 2, 3, 4, 5, 6]) (by decide) rfl rfl (ws' := (wO g a ft tr ++ (wD g a D E so lk kd st sp nd))) rfl (As := []) (n := 0) rfl rfl (st1 := [.int (bI (decide (0 < E)))]) rfl (Nat.le_of_ble_eq_true rfl) dX4_smile_15 ?_
    refine z_if_neB (tgt := 24) X dX4_smile_18 (by decide) (fun hq3 => ?_) (fun hq3 => ?_)
    ·
      have hq4 : (0 < E) := of_decide_eq_true hq3
      refine z_aload_n X dX4_smile_24 rfl 0 rfl ?_
      refine z_get (v := .ref (a 1)) (N := 5) X i_RX4 (ci := 3) rfl 0 rfl 0 (by decide) f_12 rfl dX4_smile_25 ?_
      refine z_callV X (c_X0_smileDay l g a D E so lk kd st sp nd (by omega) (by omega) (by first | assumption | omega) (by first | assumption | omega)) gX4_smile_X0_smileDay rfl ⟨rfl, rfl⟩ (by decide +kernel) ⟨Nat.le_of_ble_eq_true rfl, Nat.le_of_ble_eq_true rfl⟩ ZF.room (ci := 0) rfl 1 rfl (isC := [1, 2, 3, 4, 5, 6]) (by decide) rfl rfl (ws' := (wO g a ft tr ++ (wD g a D E so lk kd st sp nd))) rfl (As := []) (n := 0) rfl rfl (st1 := [.int (obI (smF D E kd st sp nd (fs lk so D) D))]) rfl (Nat.le_of_ble_eq_true rfl) dX4_smile_28 ?_
      rcases hbv : smF D E kd st sp nd (fs lk so D) D with _ | ⟨s_v, m_v⟩
      ·
        refine z_st (st' := [.int (-9)]) rfl ?_
        refine z_istore_n (L' := [(2, .int (-9)), (0, .ref (a 0)), (1, .int (nI jv2))]) X dX4_smile_31 rfl (by decide) rfl ?_
        refine z_iload_n X dX4_smile_32 rfl 0 rfl ?_
        refine z_bipush (v := (-9)) X dX4_smile_33 (by decide) ?_
        refine z_icmp_eq (tgt := 42) X dX4_smile_35 (by decide) (fun hq5 => ?_) (fun hq5 => ?_)
        ·
          refine z_iload_n X dX4_smile_42 rfl 0 rfl ?_
          refine z_goto (tgt := 61) X dX4_smile_43 (by decide) ?_
          exact z_iret X ZF dX4_smile_61 (by first | (simp [smiI, z02, t00, hq1, hc2, hq4, hbv, hq5]; done) | (simp [smiI, z02, t00, hsv, onI, hq1, hc2, hq4, hbv, hq5])) rfl
        ·
          exact absurd rfl hq5
      ·
        have hsl := smF_le hSp _ hbv
        have hsv := smF_val _ hbv
        refine z_st (st' := [.int (nI s_v)]) rfl ?_
        refine z_istore_n (L' := [(2, .int (nI s_v)), (0, .ref (a 0)), (1, .int (nI jv2))]) X dX4_smile_31 rfl (by decide) rfl ?_
        refine z_iload_n X dX4_smile_32 rfl 0 rfl ?_
        refine z_bipush (v := (-9)) X dX4_smile_33 (by decide) ?_
        refine z_icmp_eq (tgt := 42) X dX4_smile_35 (by decide) (fun hq6 => ?_) (fun hq6 => ?_)
        ·
          exact absurd hq6 (nI_nm (k := 8) (by omega) (by decide +kernel))
        ·
          refine z_iload_n X dX4_smile_38 rfl 2 rfl ?_
          refine z_if_neN (tgt := 46) X dX4_smile_39 (by decide) (by omega) (fun hq7 => ?_) (fun hq7 => ?_)
          ·
            refine z_aload_n X dX4_smile_46 rfl 1 rfl ?_
            refine z_get (v := .ref (a 1)) (N := 5) X i_RX4 (ci := 3) rfl 0 rfl 0 (by decide) f_12 rfl dX4_smile_47 ?_
            refine z_aload_n X dX4_smile_50 rfl 1 rfl ?_
            refine z_get (v := .ref (a 1)) (N := 5) X i_RX4 (ci := 3) rfl 0 rfl 0 (by decide) f_12 rfl dX4_smile_51 ?_
            refine z_iload_n X dX4_smile_54 rfl 0 rfl ?_
            refine z_callV X (c_X0_fastDaysBut l g a D E so lk kd st sp nd s_v (by omega) (by omega)) gX4_smile_X0_fastDaysBut rfl ⟨rfl, rfl⟩ (by decide +kernel) ⟨Nat.le_of_ble_eq_true rfl, Nat.le_of_ble_eq_true rfl⟩ ZF.room (ci := 0) rfl 1 rfl (isC := [1, 2, 3, 4, 5, 6]) (by decide) rfl rfl (ws' := (wO g a ft tr ++ (wD g a D E so lk kd st sp nd))) rfl (As := [.int (nI s_v)]) (n := 1) rfl rfl (st1 := [.int (nI (clr (fs lk so D) s_v)), .ref (a 1)]) rfl (Nat.le_of_ble_eq_true rfl) dX4_smile_55 ?_
            refine z_callV X (c_X0_villagePays l g a D E so lk kd st sp nd (clr (fs lk so D) s_v) (by omega) (by omega) (by first | assumption | omega) (by first | assumption | omega) clr_lt) gX4_smile_X0_villagePays rfl ⟨rfl, rfl⟩ (by decide +kernel) ⟨Nat.le_of_ble_eq_true rfl, Nat.le_of_ble_eq_true rfl⟩ ZF.room (ci := 0) rfl 1 rfl (isC := [1, 2, 3, 4, 5, 6]) (by decide) rfl rfl (ws' := (wO g a ft tr ++ (wD g a D E so lk kd st sp nd))) rfl (As := [.int (nI (clr (fs lk so D) s_v))]) (n := 1) rfl rfl (st1 := [.int (onI (vil D kd st sp nd (clr (fs lk so D) s_v) E))]) rfl (Nat.le_of_ble_eq_true rfl) dX4_smile_58 ?_
            exact z_iret X ZF dX4_smile_61 (by first | (simp [smiI, z02, t00, hq1, hc2, hq4, hbv, hq6, hq7]; done) | (simp [smiI, z02, t00, hsv, onI, hq1, hc2, hq4, hbv, hq6, hq7])) rfl
          ·
            refine z_iload_n X dX4_smile_42 rfl 0 rfl ?_
            refine z_goto (tgt := 61) X dX4_smile_43 (by decide) ?_
            exact z_iret X ZF dX4_smile_61 (by first | (simp [smiI, z02, t00, hq1, hc2, hq4, hbv, hq6, hq7]; done) | (simp [smiI, z02, t00, hsv, onI, hq1, hc2, hq4, hbv, hq6, hq7])) rfl
    ·
      have hq8 : ¬ (0 < E) := of_decide_eq_false hq3
      refine z_bipush (v := (-3)) X dX4_smile_21 (by decide) ?_
      exact z_iret X ZF dX4_smile_23 (by first | (simp [smiI, z02, t00, hq1, hc2, hq8]; done) | (simp [smiI, z02, t00, hsv, onI, hq1, hc2, hq8])) rfl
  ·
    refine z_bipush (v := (-2)) X dX4_smile_8 (by decide) ?_
    exact z_iret X ZF dX4_smile_10 (by first | (simp [smiI, z02, t00, hq1]; done) | (simp [smiI, z02, t00, hsv, onI, hq1])) rfl
abbrev rX4_reading : Room := { frames := 2, cells := 0, slots := 0, locals := 46 }
set_option maxHeartbeats 4000000 in
set_option maxRecDepth 100000 in
theorem c_X4_reading (l : Launch) (g : zg) (a : Nat → Nat) (ft : Int32) (tr : Int32) (D : Nat) (E : Nat) (so : Int32) (lk : Nat → Int32) (kd : Nat → Int32) (st : Nat → Int32) (sp : Nat → Int32) (nd : Nat → Int32) (C : Nat) (rO : Nat → Int32) (rB : Nat → Int32) (rD : Nat → Int32) (rW : Nat → Int32) (x : Int32) (s : Int32) (d : Int32) (b4 : Bool) (hE : E ≤ 4) (hD : D ≤ 6) (hC : C ≤ 8) : zM l g yX4_reading wsX4_reading rX4_reading [.ref (a 0), .int x, .int s, .int d, .int (bI b4)] (wO g a ft tr ++ (wD g a D E so lk kd st sp nd ++ (wR g a C rO rB rD rW))) (some (.int (if zin x E then (if zin s (2 ^ D) then (if zin d D then (if 8 ≤ C then -4 else nI C) else -1) else -2) else -1))) (wO g a ft tr ++ (wD g a D E so lk kd st sp nd ++ (wR g a (if rok D E C x s d then C + 1 else C) (if rok D E C x s d then upd rO C x else rO) (if rok D E C x s d then upd rB C s else rB) (if rok D E C x s d then upd rD C d else rD) (if rok D E C x s d then upd rW C (bI b4) else rW)))) := by
  refine z_met (own := RX4) (cc := cX4_reading) (maxL := 5) (ret := some .int) (by decide +kernel) rfl rfl (Nat.le_of_ble_eq_true rfl) ?_
  intro M X ZF
  refine z_Le (L' := [(0, .ref (a 0)), (1, .int x), (2, .int s), (3, .int d), (4, .int (bI b4))]) rfl ?_
  have hpD : 2 ^ D ≤ 2 ^ 6 := Nat.pow_le_pow_right (by omega) hD
  have i_RX4 : ∀ w ∈ wsX40, w ∈ wsX4_reading := by decide +kernel
  have f_12 : Cond.fieldLink RX4 12 (TX4 0).1 (TX4 0).2.1 (TX4 0).2.2.1 ∈ wsX4_reading := by decide +kernel
  have f_21 : Cond.fieldLink RX4 21 (TX4 1).1 (TX4 1).2.1 (TX4 1).2.2.1 ∈ wsX4_reading := by decide +kernel
  refine z_aload_n X dX4_reading_0 rfl 0 rfl ?_
  refine z_get (v := .ref (a 1)) (N := 5) X i_RX4 (ci := 3) rfl 0 rfl 0 (by decide) f_12 rfl dX4_reading_1 ?_
  refine z_iload_n X dX4_reading_4 rfl 1 rfl ?_
  refine z_callV X (c_X0_hasEater l g a D E so lk kd st sp nd x (by omega)) gX4_reading_X0_hasEater rfl ⟨rfl, rfl⟩ (by decide +kernel) ⟨Nat.le_of_ble_eq_true rfl, Nat.le_of_ble_eq_true rfl⟩ ZF.room (ci := 0) rfl 1 rfl (isC := [1, 2, 3, 4, 5, 6]) (by decide) rfl rfl (ws' := (wO g a ft tr ++ (wD g a D E so lk kd st sp nd ++ (wR g a C rO rB rD rW)))) rfl (As := [.int x]) (n := 1) rfl rfl (st1 := [.int (bI (zin x E))]) rfl (Nat.le_of_ble_eq_true rfl) dX4_reading_5 ?_
  refine z_if_neB (tgt := 13) X dX4_reading_8 (by decide) (fun hq1 => ?_) (fun hq1 => ?_)
  ·
    obtain ⟨jv2, hj2, ej2⟩ := zin_t (by omega) hq1
    subst ej2
    have hc2 : tn (nI jv2) = jv2 := nI_clamp (by omega)
    refine z_aload_n X dX4_reading_13 rfl 0 rfl ?_
    refine z_get (v := .ref (a 1)) (N := 5) X i_RX4 (ci := 3) rfl 0 rfl 0 (by decide) f_12 rfl dX4_reading_14 ?_
    refine z_iload_n X dX4_reading_17 rfl 2 rfl ?_
    refine z_callV X (c_X0_hasDays l g a D E so lk kd st sp nd s (by omega)) gX4_reading_X0_hasDays rfl ⟨rfl, rfl⟩ (by decide +kernel) ⟨Nat.le_of_ble_eq_true rfl, Nat.le_of_ble_eq_true rfl⟩ ZF.room (ci := 0) rfl 1 rfl (isC := [1, 2, 3, 4, 5, 6]) (by decide) rfl rfl (ws' := (wO g a ft tr ++ (wD g a D E so lk kd st sp nd ++ (wR g a C rO rB rD rW)))) rfl (As := [.int s]) (n := 1) rfl rfl (st1 := [.int (bI (zin s (2 ^ D)))]) rfl (Nat.le_of_ble_eq_true rfl) dX4_reading_18 ?_
    refine z_if_neB (tgt := 27) X dX4_reading_21 (by decide) (fun hq3 => ?_) (fun hq3 => ?_)
    ·
      obtain ⟨jv4, hj4, ej4⟩ := zin_t (by omega) hq3
      subst ej4
      have hc4 : tn (nI jv4) = jv4 := nI_clamp (by omega)
      refine z_aload_n X dX4_reading_27 rfl 0 rfl ?_
      refine z_get (v := .ref (a 1)) (N := 5) X i_RX4 (ci := 3) rfl 0 rfl 0 (by decide) f_12 rfl dX4_reading_28 ?_
      refine z_iload_n X dX4_reading_31 rfl 3 rfl ?_
      refine z_callV X (c_X0_hasDay l g a D E so lk kd st sp nd d (by omega)) gX4_reading_X0_hasDay rfl ⟨rfl, rfl⟩ (by decide +kernel) ⟨Nat.le_of_ble_eq_true rfl, Nat.le_of_ble_eq_true rfl⟩ ZF.room (ci := 0) rfl 1 rfl (isC := [1, 2, 3, 4, 5, 6]) (by decide) rfl rfl (ws' := (wO g a ft tr ++ (wD g a D E so lk kd st sp nd ++ (wR g a C rO rB rD rW)))) rfl (As := [.int d]) (n := 1) rfl rfl (st1 := [.int (bI (zin d D))]) rfl (Nat.le_of_ble_eq_true rfl) dX4_reading_32 ?_
      refine z_if_neB (tgt := 40) X dX4_reading_35 (by decide) (fun hq5 => ?_) (fun hq5 => ?_)
      ·
        obtain ⟨jv6, hj6, ej6⟩ := zin_t (by omega) hq5
        subst ej6
        have hc6 : tn (nI jv6) = jv6 := nI_clamp (by omega)
        refine z_aload_n X dX4_reading_40 rfl 0 rfl ?_
        refine z_get (v := .ref (a 7)) (N := 5) X i_RX4 (ci := 3) rfl 0 rfl 1 (by decide) f_21 rfl dX4_reading_41 ?_
        refine z_callV X (c_X1_isFull l g a C rO rB rD rW (by omega)) gX4_reading_X1_isFull rfl ⟨rfl, rfl⟩ (by decide +kernel) ⟨Nat.le_of_ble_eq_true rfl, Nat.le_of_ble_eq_true rfl⟩ ZF.room (ci := 1) rfl 7 rfl (isC := [7, 8, 9, 10, 11]) (by decide) rfl rfl (ws' := (wO g a ft tr ++ (wD g a D E so lk kd st sp nd ++ (wR g a C rO rB rD rW)))) rfl (As := []) (n := 0) rfl rfl (st1 := [.int (bI (decide (8 ≤ C)))]) rfl (Nat.le_of_ble_eq_true rfl) dX4_reading_44 ?_
        refine z_if_eqB (tgt := 53) X dX4_reading_47 (by decide) (fun hq7 => ?_) (fun hq7 => ?_)
        ·
          have hq8 : ¬ (8 ≤ C) := of_decide_eq_false hq7
          refine z_aload_n X dX4_reading_53 rfl 0 rfl ?_
          refine z_get (v := .ref (a 7)) (N := 5) X i_RX4 (ci := 3) rfl 0 rfl 1 (by decide) f_21 rfl dX4_reading_54 ?_
          refine z_iload_n X dX4_reading_57 rfl 1 rfl ?_
          refine z_iload_n X dX4_reading_58 rfl 2 rfl ?_
          refine z_iload_n X dX4_reading_59 rfl 3 rfl ?_
          refine z_iload X dX4_reading_60 4 rfl ?_
          refine z_callV X (c_X1_keep l g a C rO rB rD rW jv2 jv4 jv6 b4 (by omega)) gX4_reading_X1_keep rfl ⟨rfl, rfl⟩ (by decide +kernel) ⟨Nat.le_of_ble_eq_true rfl, Nat.le_of_ble_eq_true rfl⟩ ZF.room (ci := 1) rfl 7 rfl (isC := [7, 8, 9, 10, 11]) (by decide) rfl rfl (ws' := (wO g a ft tr ++ (wD g a D E so lk kd st sp nd ++ (wR g a (C + 1) (upd rO C (nI jv2)) (upd rB C (nI jv4)) (upd rD C (nI jv6)) (upd rW C (bI b4)))))) rfl (As := [.int (nI jv2), .int (nI jv4), .int (nI jv6), .int (bI b4)]) (n := 4) rfl rfl (st1 := []) rfl (Nat.le_of_ble_eq_true rfl) dX4_reading_62 ?_
          refine z_aload_n X dX4_reading_65 rfl 0 rfl ?_
          refine z_get (v := .ref (a 7)) (N := 5) X i_RX4 (ci := 3) rfl 0 rfl 1 (by decide) f_21 rfl dX4_reading_66 ?_
          refine z_callV X (c_X1_keptCount l g a (C + 1) (upd rO C (nI jv2)) (upd rB C (nI jv4)) (upd rD C (nI jv6)) (upd rW C (bI b4))) gX4_reading_X1_keptCount rfl ⟨rfl, rfl⟩ (by decide +kernel) ⟨Nat.le_of_ble_eq_true rfl, Nat.le_of_ble_eq_true rfl⟩ ZF.room (ci := 1) rfl 7 rfl (isC := [7, 8, 9, 10, 11]) (by decide) rfl rfl (ws' := (wO g a ft tr ++ (wD g a D E so lk kd st sp nd ++ (wR g a (C + 1) (upd rO C (nI jv2)) (upd rB C (nI jv4)) (upd rD C (nI jv6)) (upd rW C (bI b4)))))) rfl (As := []) (n := 0) rfl rfl (st1 := [.int (nI (C + 1))]) rfl (Nat.le_of_ble_eq_true rfl) dX4_reading_69 ?_
          refine z_iconst (v := nI 1) X dX4_reading_72 (by decide) ?_
          refine z_isub' (v := nI ((C + 1) - 1)) X dX4_reading_73 (pk_sub (by omega)) ?_
          have e9 : (if rok D E C (nI jv2) (nI jv4) (nI jv6) then C + 1 else C) = (C + 1) := by simp [rok, hq1, hc2, hq3, hc4, hq5, hc6, hq8]; try omega
          have e10 : (if rok D E C (nI jv2) (nI jv4) (nI jv6) then upd rO C (nI jv2) else rO) = (upd rO C (nI jv2)) := by simp [rok, hq1, hc2, hq3, hc4, hq5, hc6, hq8]; try omega
          have e11 : (if rok D E C (nI jv2) (nI jv4) (nI jv6) then upd rB C (nI jv4) else rB) = (upd rB C (nI jv4)) := by simp [rok, hq1, hc2, hq3, hc4, hq5, hc6, hq8]; try omega
          have e12 : (if rok D E C (nI jv2) (nI jv4) (nI jv6) then upd rD C (nI jv6) else rD) = (upd rD C (nI jv6)) := by simp [rok, hq1, hc2, hq3, hc4, hq5, hc6, hq8]; try omega
          have e13 : (if rok D E C (nI jv2) (nI jv4) (nI jv6) then upd rW C (bI b4) else rW) = (upd rW C (bI b4)) := by simp [rok, hq1, hc2, hq3, hc4, hq5, hc6, hq8]; try omega
          exact z_iret X ZF dX4_reading_74 (by simp [rok, hq1, hc2, hq3, hc4, hq5, hc6, hq8]; try omega) (by first | rw [e13, e12, e11, e10, e9] | (simp only [e13, e12, e11, e10, e9]))
        ·
          have hq14 : (8 ≤ C) := of_decide_eq_true hq7
          refine z_bipush (v := (-4)) X dX4_reading_50 (by decide) ?_
          have e15 : (if rok D E C (nI jv2) (nI jv4) (nI jv6) then C + 1 else C) = C := by simp [rok, hq1, hc2, hq3, hc4, hq5, hc6, hq14]; try omega
          have e16 : (if rok D E C (nI jv2) (nI jv4) (nI jv6) then upd rO C (nI jv2) else rO) = rO := by simp [rok, hq1, hc2, hq3, hc4, hq5, hc6, hq14]; try omega
          have e17 : (if rok D E C (nI jv2) (nI jv4) (nI jv6) then upd rB C (nI jv4) else rB) = rB := by simp [rok, hq1, hc2, hq3, hc4, hq5, hc6, hq14]; try omega
          have e18 : (if rok D E C (nI jv2) (nI jv4) (nI jv6) then upd rD C (nI jv6) else rD) = rD := by simp [rok, hq1, hc2, hq3, hc4, hq5, hc6, hq14]; try omega
          have e19 : (if rok D E C (nI jv2) (nI jv4) (nI jv6) then upd rW C (bI b4) else rW) = rW := by simp [rok, hq1, hc2, hq3, hc4, hq5, hc6, hq14]; try omega
          exact z_iret X ZF dX4_reading_52 (by simp [rok, hq1, hc2, hq3, hc4, hq5, hc6, hq14]; try omega) (by first | rw [e19, e18, e17, e16, e15] | (simp only [e19, e18, e17, e16, e15]))
      ·
        refine z_iconst (v := (-1)) X dX4_reading_38 (by decide) ?_
        have e20 : (if rok D E C (nI jv2) (nI jv4) d then C + 1 else C) = C := by simp [rok, hq1, hc2, hq3, hc4, hq5]; try omega
        have e21 : (if rok D E C (nI jv2) (nI jv4) d then upd rO C (nI jv2) else rO) = rO := by simp [rok, hq1, hc2, hq3, hc4, hq5]; try omega
        have e22 : (if rok D E C (nI jv2) (nI jv4) d then upd rB C (nI jv4) else rB) = rB := by simp [rok, hq1, hc2, hq3, hc4, hq5]; try omega
        have e23 : (if rok D E C (nI jv2) (nI jv4) d then upd rD C d else rD) = rD := by simp [rok, hq1, hc2, hq3, hc4, hq5]; try omega
        have e24 : (if rok D E C (nI jv2) (nI jv4) d then upd rW C (bI b4) else rW) = rW := by simp [rok, hq1, hc2, hq3, hc4, hq5]; try omega
        exact z_iret X ZF dX4_reading_39 (by simp [rok, hq1, hc2, hq3, hc4, hq5]; try omega) (by first | rw [e24, e23, e22, e21, e20] | (simp only [e24, e23, e22, e21, e20]))
    ·
      refine z_bipush (v := (-2)) X dX4_reading_24 (by decide) ?_
      have e25 : (if rok D E C (nI jv2) s d then C + 1 else C) = C := by simp [rok, hq1, hc2, hq3]; try omega
      have e26 : (if rok D E C (nI jv2) s d then upd rO C (nI jv2) else rO) = rO := by simp [rok, hq1, hc2, hq3]; try omega
      have e27 : (if rok D E C (nI jv2) s d then upd rB C s else rB) = rB := by simp [rok, hq1, hc2, hq3]; try omega
      have e28 : (if rok D E C (nI jv2) s d then upd rD C d else rD) = rD := by simp [rok, hq1, hc2, hq3]; try omega
      have e29 : (if rok D E C (nI jv2) s d then upd rW C (bI b4) else rW) = rW := by simp [rok, hq1, hc2, hq3]; try omega
      exact z_iret X ZF dX4_reading_26 (by simp [rok, hq1, hc2, hq3]; try omega) (by first | rw [e29, e28, e27, e26, e25] | (simp only [e29, e28, e27, e26, e25]))
  ·
    refine z_iconst (v := (-1)) X dX4_reading_11 (by decide) ?_
    have e30 : (if rok D E C x s d then C + 1 else C) = C := by simp [rok, hq1]; try omega
    have e31 : (if rok D E C x s d then upd rO C x else rO) = rO := by simp [rok, hq1]; try omega
    have e32 : (if rok D E C x s d then upd rB C s else rB) = rB := by simp [rok, hq1]; try omega
    have e33 : (if rok D E C x s d then upd rD C d else rD) = rD := by simp [rok, hq1]; try omega
    have e34 : (if rok D E C x s d then upd rW C (bI b4) else rW) = rW := by simp [rok, hq1]; try omega
    exact z_iret X ZF dX4_reading_12 (by simp [rok, hq1]; try omega) (by first | rw [e34, e33, e32, e31, e30] | (simp only [e34, e33, e32, e31, e30]))
abbrev rX4_back : Room := { frames := 1, cells := 0, slots := 0, locals := 21 }
set_option maxHeartbeats 4000000 in
set_option maxRecDepth 100000 in
theorem c_X4_back (l : Launch) (g : zg) (a : Nat → Nat) (ft : Int32) (tr : Int32) (C : Nat) (rO : Nat → Int32) (rB : Nat → Int32) (rD : Nat → Int32) (rW : Nat → Int32) (m : Int32) (hC : C ≤ 8) : zM l g yX4_back wsX4_back rX4_back [.ref (a 0), .int m] (wO g a ft tr ++ (wR g a C rO rB rD rW)) (some (.int (if zin m (C + 1) then nI (C - tn m) else -2))) (wO g a ft tr ++ (wR g a (if zin m (C + 1) then C - tn m else C) rO rB rD rW)) := by
  refine z_met (own := RX4) (cc := cX4_back) (maxL := 2) (ret := some .int) (by decide +kernel) rfl rfl (Nat.le_of_ble_eq_true rfl) ?_
  intro M X ZF
  refine z_Le (L' := [(0, .ref (a 0)), (1, .int m)]) rfl ?_
  have i_RX4 : ∀ w ∈ wsX40, w ∈ wsX4_back := by decide +kernel
  have f_21 : Cond.fieldLink RX4 21 (TX4 1).1 (TX4 1).2.1 (TX4 1).2.2.1 ∈ wsX4_back := by decide +kernel
  refine z_iload_n X dX4_back_0 rfl 1 rfl ?_
  refine z_aload_n X dX4_back_1 rfl 0 rfl ?_
  refine z_get (v := .ref (a 7)) (N := 5) X i_RX4 (ci := 3) rfl 0 rfl 1 (by decide) f_21 rfl dX4_back_2 ?_
  refine z_callV X (c_X1_keptCount l g a C rO rB rD rW) gX4_back_X1_keptCount rfl ⟨rfl, rfl⟩ (by decide +kernel) ⟨Nat.le_of_ble_eq_true rfl, Nat.le_of_ble_eq_true rfl⟩ ZF.room (ci := 1) rfl 1 rfl (isC := [1, 2, 3, 4, 5]) (by decide) rfl rfl (ws' := (wO g a ft tr ++ (wR g a C rO rB rD rW))) rfl (As := []) (n := 0) rfl rfl (st1 := [.int (nI C), .int m]) rfl (Nat.le_of_ble_eq_true rfl) dX4_back_5 ?_
  refine z_callS0 X (c_X4_isFrom0To l g m C (by omega)) gX4_back_X4_isFrom0To rfl ⟨rfl, rfl⟩ (by decide +kernel) ⟨Nat.le_of_ble_eq_true rfl, Nat.le_of_ble_eq_true rfl⟩ ZF.room (As := [.int m, .int (nI C)]) (n := 2) rfl rfl (st1 := [.int (bI (zin m (C + 1)))]) rfl (Nat.le_of_ble_eq_true rfl) dX4_back_8 ?_
  refine z_if_neB (tgt := 17) X dX4_back_11 (by decide) (fun hq1 => ?_) (fun hq1 => ?_)
  ·
    obtain ⟨jv2, hj2, ej2⟩ := zin_t (by omega) hq1
    subst ej2
    have hc2 : tn (nI jv2) = jv2 := nI_clamp (by omega)
    refine z_aload_n X dX4_back_17 rfl 0 rfl ?_
    refine z_get (v := .ref (a 7)) (N := 5) X i_RX4 (ci := 3) rfl 0 rfl 1 (by decide) f_21 rfl dX4_back_18 ?_
    refine z_iload_n X dX4_back_21 rfl 1 rfl ?_
    refine z_callV X (c_X1_dropLast l g a C rO rB rD rW jv2 (by omega) (by omega)) gX4_back_X1_dropLast rfl ⟨rfl, rfl⟩ (by decide +kernel) ⟨Nat.le_of_ble_eq_true rfl, Nat.le_of_ble_eq_true rfl⟩ ZF.room (ci := 1) rfl 1 rfl (isC := [1, 2, 3, 4, 5]) (by decide) rfl rfl (ws' := (wO g a ft tr ++ (wR g a (C - jv2) rO rB rD rW))) rfl (As := [.int (nI jv2)]) (n := 1) rfl rfl (st1 := []) rfl (Nat.le_of_ble_eq_true rfl) dX4_back_22 ?_
    refine z_aload_n X dX4_back_25 rfl 0 rfl ?_
    refine z_get (v := .ref (a 7)) (N := 5) X i_RX4 (ci := 3) rfl 0 rfl 1 (by decide) f_21 rfl dX4_back_26 ?_
    refine z_callV X (c_X1_keptCount l g a (C - jv2) rO rB rD rW) gX4_back_X1_keptCount rfl ⟨rfl, rfl⟩ (by decide +kernel) ⟨Nat.le_of_ble_eq_true rfl, Nat.le_of_ble_eq_true rfl⟩ ZF.room (ci := 1) rfl 1 rfl (isC := [1, 2, 3, 4, 5]) (by decide) rfl rfl (ws' := (wO g a ft tr ++ (wR g a (C - jv2) rO rB rD rW))) rfl (As := []) (n := 0) rfl rfl (st1 := [.int (nI (C - jv2))]) rfl (Nat.le_of_ble_eq_true rfl) dX4_back_29 ?_
    have e3 : (if zin (nI jv2) (C + 1) then C - tn (nI jv2) else C) = (C - jv2) := by simp [hq1, hc2]
    exact z_iret X ZF dX4_back_32 (by simp [hq1, hc2]) (by rw [e3])
  ·
    refine z_bipush (v := (-2)) X dX4_back_14 (by decide) ?_
    have e4 : (if zin m (C + 1) then C - tn m else C) = C := by simp [hq1]
    exact z_iret X ZF dX4_back_16 (by simp [hq1]) (by rw [e4])
abbrev rX4_stays : Room := { frames := 4, cells := 0, slots := 0, locals := 96 }
set_option maxHeartbeats 4000000 in
set_option maxRecDepth 100000 in
theorem c_X4_stays (l : Launch) (g : zg) (a : Nat → Nat) (ft : Int32) (tr : Int32) (D : Nat) (E : Nat) (so : Int32) (lk : Nat → Int32) (kd : Nat → Int32) (st : Nat → Int32) (sp : Nat → Int32) (nd : Nat → Int32) (C : Nat) (rO : Nat → Int32) (rB : Nat → Int32) (rD : Nat → Int32) (rW : Nat → Int32) (x : Int32) (hE : E ≤ 4) (hD : D ≤ 6) (hC : C ≤ 8) (hK : vK kd st E) (hR : vR D E C rO rB rD rW) : zM l g yX4_stays wsX4_stays rX4_stays [.ref (a 0), .int x] (wO g a ft tr ++ (wD g a D E so lk kd st sp nd ++ (wR g a C rO rB rD rW))) (some (.int (if zin x E then nI (sets (fun v_ => ar D lk so kd (upd st (tn x) (nI v_)) rO rB rD rW C) 6) else -1))) (wO g a ft tr ++ (wD g a D E so lk kd st sp nd ++ (wR g a C rO rB rD rW))) := by
  refine z_met (own := RX4) (cc := cX4_stays) (maxL := 5) (ret := some .int) (by decide +kernel) rfl rfl (Nat.le_of_ble_eq_true rfl) ?_
  intro M X ZF
  refine z_Le (L' := [(0, .ref (a 0)), (1, .int x)]) rfl ?_
  have hL := vK_L hK
  have i_RX4 : ∀ w ∈ wsX40, w ∈ wsX4_stays := by decide +kernel
  have f_12 : Cond.fieldLink RX4 12 (TX4 0).1 (TX4 0).2.1 (TX4 0).2.2.1 ∈ wsX4_stays := by decide +kernel
  have f_21 : Cond.fieldLink RX4 21 (TX4 1).1 (TX4 1).2.1 (TX4 1).2.2.1 ∈ wsX4_stays := by decide +kernel
  refine z_aload_n X dX4_stays_0 rfl 0 rfl ?_
  refine z_get (v := .ref (a 1)) (N := 5) X i_RX4 (ci := 3) rfl 0 rfl 0 (by decide) f_12 rfl dX4_stays_1 ?_
  refine z_iload_n X dX4_stays_4 rfl 1 rfl ?_
  refine z_callV X (c_X0_hasEater l g a D E so lk kd st sp nd x (by omega)) gX4_stays_X0_hasEater rfl ⟨rfl, rfl⟩ (by decide +kernel) ⟨Nat.le_of_ble_eq_true rfl, Nat.le_of_ble_eq_true rfl⟩ ZF.room (ci := 0) rfl 1 rfl (isC := [1, 2, 3, 4, 5, 6]) (by decide) rfl rfl (ws' := (wO g a ft tr ++ (wD g a D E so lk kd st sp nd ++ (wR g a C rO rB rD rW)))) rfl (As := [.int x]) (n := 1) rfl rfl (st1 := [.int (bI (zin x E))]) rfl (Nat.le_of_ble_eq_true rfl) dX4_stays_5 ?_
  refine z_if_neB (tgt := 13) X dX4_stays_8 (by decide) (fun hq1 => ?_) (fun hq1 => ?_)
  ·
    obtain ⟨jv2, hj2, ej2⟩ := zin_t (by omega) hq1
    subst ej2
    have hc2 : tn (nI jv2) = jv2 := nI_clamp (by omega)
    refine z_iconst (v := nI 0) X dX4_stays_13 (by decide) ?_
    refine z_istore_n (L' := [(2, .int (nI 0)), (0, .ref (a 0)), (1, .int (nI jv2))]) X dX4_stays_14 rfl (by decide) rfl ?_
    refine z_iconst (v := nI 0) X dX4_stays_15 (by decide) ?_
    refine z_istore_n (L' := [(3, .int (nI 0)), (2, .int (nI 0)), (0, .ref (a 0)), (1, .int (nI jv2))]) X dX4_stays_16 rfl (by decide) rfl ?_
    have loopv3 : ∀ (n3 v_v : Nat), v_v ≤ 6 → 6 + 1 ≤ v_v + n3 → zG l g 5 M (wO g a ft tr ++ (wD g a D E so lk kd st sp nd ++ (wR g a C rO rB rD rW))) [(0, .ref (a 0)), (1, .int (nI jv2)), (2, .int (nI (sets (fun v_ => ax D lk so kd st rO rB rD rW (nI jv2) (tn (lbI (kd jv2) (nI v_))) C) v_v))), (3, .int (nI v_v))] 17 [] := by
      intro n3
      induction n3 with
      | zero => intro v_v h1 h2; exact absurd h2 (by omega)
      | succ n3 ih3 =>
        intro v_v hi3 hn3
        refine z_iload_n X dX4_stays_17 rfl 3 rfl ?_
        refine z_iconst (v := nI 5) X dX4_stays_18 (by decide) ?_
        refine z_icmp_gtN (tgt := 72) X dX4_stays_19 (by decide) (by omega) (by omega) (fun hq4 => ?_) (fun hq4 => ?_)
        ·
          refine z_iload_n X dX4_stays_72 rfl 2 rfl ?_
          exact z_iret X ZF dX4_stays_73 (by rw [show v_v = 6 by omega, if_pos hq1, hc2]; exact congrArg nI (sets_congr (fun v_ hv_ => ax_st (by omega) (by omega) hR _ (Nat.le_refl _)))) rfl
        ·
          refine z_aload_n X dX4_stays_22 rfl 0 rfl ?_
          refine z_get (v := .ref (a 1)) (N := 5) X i_RX4 (ci := 3) rfl 0 rfl 0 (by decide) f_12 rfl dX4_stays_23 ?_
          refine z_iload_n X dX4_stays_26 rfl 1 rfl ?_
          refine z_callV X (c_X0_kindOf l g a D E so lk kd st sp nd jv2 (by omega)) gX4_stays_X0_kindOf rfl ⟨rfl, rfl⟩ (by decide +kernel) ⟨Nat.le_of_ble_eq_true rfl, Nat.le_of_ble_eq_true rfl⟩ ZF.room (ci := 0) rfl 1 rfl (isC := [1, 2, 3, 4, 5, 6]) (by decide) rfl rfl (ws' := (wO g a ft tr ++ (wD g a D E so lk kd st sp nd ++ (wR g a C rO rB rD rW)))) rfl (As := [.int (nI jv2)]) (n := 1) rfl rfl (st1 := [.int (kd jv2)]) rfl (Nat.le_of_ble_eq_true rfl) dX4_stays_27 ?_
          refine z_iload_n X dX4_stays_30 rfl 3 rfl ?_
          refine z_callS0 X (c_X0_lastsBy l g (kd jv2) (nI v_v)) gX4_stays_X0_lastsBy rfl ⟨rfl, rfl⟩ (by decide +kernel) ⟨Nat.le_of_ble_eq_true rfl, Nat.le_of_ble_eq_true rfl⟩ ZF.room (As := [.int (kd jv2), .int (nI v_v)]) (n := 2) rfl rfl (st1 := [.int (lbI (kd jv2) (nI v_v))]) rfl (Nat.le_of_ble_eq_true rfl) dX4_stays_31 ?_
          refine z_top (y := nI (tn (lbI (kd jv2) (nI v_v)))) (lbI_kd (hK _ (by omega)).1 (by omega)).1 ?_
          refine z_istore (L' := [(4, .int (nI (tn (lbI (kd jv2) (nI v_v))))), (0, .ref (a 0)), (1, .int (nI jv2)), (2, .int (nI (sets (fun v_ => ax D lk so kd st rO rB rD rW (nI jv2) (tn (lbI (kd jv2) (nI v_))) C) v_v))), (3, .int (nI v_v))]) X dX4_stays_34 (by decide) rfl ?_
          refine z_aload_n X dX4_stays_36 rfl 1 rfl ?_
          refine z_get (v := .ref (a 7)) (N := 5) X i_RX4 (ci := 3) rfl 0 rfl 1 (by decide) f_21 rfl dX4_stays_37 ?_
          refine z_aload_n X dX4_stays_40 rfl 1 rfl ?_
          refine z_get (v := .ref (a 1)) (N := 5) X i_RX4 (ci := 3) rfl 0 rfl 0 (by decide) f_12 rfl dX4_stays_41 ?_
          refine z_iload_n X dX4_stays_44 rfl 2 rfl ?_
          refine z_iload X dX4_stays_45 0 rfl ?_
          refine z_aload_n X dX4_stays_47 rfl 1 rfl ?_
          refine z_get (v := .ref (a 1)) (N := 5) X i_RX4 (ci := 3) rfl 0 rfl 0 (by decide) f_12 rfl dX4_stays_48 ?_
          refine z_callV X (c_X0_sourLook l g a D E so lk kd st sp nd) gX4_stays_X0_sourLook rfl ⟨rfl, rfl⟩ (by decide +kernel) ⟨Nat.le_of_ble_eq_true rfl, Nat.le_of_ble_eq_true rfl⟩ ZF.room (ci := 0) rfl 1 rfl (isC := [1, 2, 3, 4, 5, 6]) (by decide) rfl rfl (ws' := (wO g a ft tr ++ (wD g a D E so lk kd st sp nd ++ (wR g a C rO rB rD rW)))) rfl (As := []) (n := 0) rfl rfl (st1 := [.int so, .int (nI (tn (lbI (kd jv2) (nI v_v)))), .int (nI jv2), .ref (a 1), .ref (a 7)]) rfl (Nat.le_of_ble_eq_true rfl) dX4_stays_51 ?_
          refine z_callV X (c_X1_allAreSo l g a C rO rB rD rW D E so lk kd st sp nd (nI jv2) (tn (lbI (kd jv2) (nI v_v))) so (by omega) (by omega) (by omega) (by first | assumption | omega) (by first | assumption | omega) (lbI_kd (hK _ (by omega)).1 (by omega)).2) gX4_stays_X1_allAreSo rfl ⟨rfl, rfl⟩ (by decide +kernel) ⟨Nat.le_of_ble_eq_true rfl, Nat.le_of_ble_eq_true rfl⟩ ZF.room (ci := 1) rfl 7 rfl (isC := [7, 8, 9, 10, 11, 1, 2, 3, 4, 5, 6]) (by decide) rfl rfl (ws' := (wO g a ft tr ++ (wD g a D E so lk kd st sp nd ++ (wR g a C rO rB rD rW)))) rfl (As := [.ref (a 1), .int (nI jv2), .int (nI (tn (lbI (kd jv2) (nI v_v)))), .int so]) (n := 4) rfl rfl (st1 := [.int (bI (ax D lk so kd st rO rB rD rW (nI jv2) (tn (lbI (kd jv2) (nI v_v))) C))]) rfl (Nat.le_of_ble_eq_true rfl) dX4_stays_54 ?_
          refine z_if_eqB (tgt := 66) X dX4_stays_57 (by decide) (fun hq5 => ?_) (fun hq5 => ?_)
          ·
            refine z_iinc (v := nI (v_v + 1)) (L' := [(3, .int (nI (v_v + 1))), (4, .int (nI (tn (lbI (kd jv2) (nI v_v))))), (0, .ref (a 0)), (1, .int (nI jv2)), (2, .int (nI (sets (fun v_ => ax D lk so kd st rO rB rD rW (nI jv2) (tn (lbI (kd jv2) (nI v_))) C) v_v)))]) X dX4_stays_66 4 rfl (nI_inc v_v 1) (by decide) rfl ?_
            refine z_goto (tgt := 17) X dX4_stays_69 (by decide) ?_
            refine z_ls (L' := [(0, .ref (a 0)), (1, .int (nI jv2)), (2, .int (nI (sets (fun v_ => ax D lk so kd st rO rB rD rW (nI jv2) (tn (lbI (kd jv2) (nI v_))) C) v_v))), (3, .int (nI (v_v + 1)))]) [2, 3, 4, 0] rfl ?_
            have e6 : (nI (sets (fun v_ => ax D lk so kd st rO rB rD rW (nI jv2) (tn (lbI (kd jv2) (nI v_))) C) v_v)) = (nI (sets (fun v_ => ax D lk so kd st rO rB rD rW (nI jv2) (tn (lbI (kd jv2) (nI v_))) C) (v_v + 1))) := by first | rfl | simp [sets, hq1, hc2, hq4, hq5]
            refine z_Le (L' := [(0, .ref (a 0)), (1, .int (nI jv2)), (2, .int (nI (sets (fun v_ => ax D lk so kd st rO rB rD rW (nI jv2) (tn (lbI (kd jv2) (nI v_))) C) (v_v + 1)))), (3, .int (nI (v_v + 1)))]) (by rw [← e6]) ?_
            exact ih3 (v_v + 1) (by omega) (by omega)
          ·
            refine z_iload_n X dX4_stays_60 rfl 3 rfl ?_
            refine z_iconst (v := nI 1) X dX4_stays_61 (by decide) ?_
            refine z_iload_n X dX4_stays_62 rfl 4 rfl ?_
            refine z_ishl' (v := nI (2 ^ v_v)) X dX4_stays_63 (nI_shl1 (by omega)) ?_
            refine z_ior' (v := nI ((sets (fun v_ => ax D lk so kd st rO rB rD rW (nI jv2) (tn (lbI (kd jv2) (nI v_))) C) v_v) ||| (2 ^ v_v))) X dX4_stays_64 (fa_or _ _) ?_
            refine z_istore_n (L' := [(2, .int (nI ((sets (fun v_ => ax D lk so kd st rO rB rD rW (nI jv2) (tn (lbI (kd jv2) (nI v_))) C) v_v) ||| (2 ^ v_v)))), (4, .int (nI (tn (lbI (kd jv2) (nI v_v))))), (0, .ref (a 0)), (1, .int (nI jv2)), (3, .int (nI v_v))]) X dX4_stays_65 rfl (by decide) rfl ?_
            refine z_iinc (v := nI (v_v + 1)) (L' := [(3, .int (nI (v_v + 1))), (2, .int (nI ((sets (fun v_ => ax D lk so kd st rO rB rD rW (nI jv2) (tn (lbI (kd jv2) (nI v_))) C) v_v) ||| (2 ^ v_v)))), (4, .int (nI (tn (lbI (kd jv2) (nI v_v))))), (0, .ref (a 0)), (1, .int (nI jv2))]) X dX4_stays_66 4 rfl (nI_inc v_v 1) (by decide) rfl ?_
            refine z_goto (tgt := 17) X dX4_stays_69 (by decide) ?_
            refine z_ls (L' := [(0, .ref (a 0)), (1, .int (nI jv2)), (2, .int (nI ((sets (fun v_ => ax D lk so kd st rO rB rD rW (nI jv2) (tn (lbI (kd jv2) (nI v_))) C) v_v) ||| (2 ^ v_v)))), (3, .int (nI (v_v + 1)))]) [3, 4, 1, 0] rfl ?_
            have e7 : (nI ((sets (fun v_ => ax D lk so kd st rO rB rD rW (nI jv2) (tn (lbI (kd jv2) (nI v_))) C) v_v) ||| (2 ^ v_v))) = (nI (sets (fun v_ => ax D lk so kd st rO rB rD rW (nI jv2) (tn (lbI (kd jv2) (nI v_))) C) (v_v + 1))) := by first | rfl | simp [sets, hq1, hc2, hq4, hq5]
            refine z_Le (L' := [(0, .ref (a 0)), (1, .int (nI jv2)), (2, .int (nI (sets (fun v_ => ax D lk so kd st rO rB rD rW (nI jv2) (tn (lbI (kd jv2) (nI v_))) C) (v_v + 1)))), (3, .int (nI (v_v + 1)))]) (by rw [← e7]) ?_
            exact ih3 (v_v + 1) (by omega) (by omega)
    refine z_ls (L' := [(0, .ref (a 0)), (1, .int (nI jv2)), (2, .int (nI 0)), (3, .int (nI 0))]) [2, 3, 1, 0] rfl ?_
    have e8 : (nI 0) = (nI (sets (fun v_ => ax D lk so kd st rO rB rD rW (nI jv2) (tn (lbI (kd jv2) (nI v_))) C) 0)) := by first | rfl | simp [sets, hq1, hc2]
    refine z_Le (L' := [(0, .ref (a 0)), (1, .int (nI jv2)), (2, .int (nI (sets (fun v_ => ax D lk so kd st rO rB rD rW (nI jv2) (tn (lbI (kd jv2) (nI v_))) C) 0))), (3, .int (nI 0))]) (by rw [← e8]) ?_
    exact loopv3 (6 + 1) 0 (by omega) (by omega)
  ·
    refine z_iconst (v := (-1)) X dX4_stays_11 (by decide) ?_
    exact z_iret X ZF dX4_stays_12 (by simp [hq1]) rfl
abbrev rX4_kinds : Room := { frames := 4, cells := 0, slots := 0, locals := 96 }
set_option maxHeartbeats 4000000 in
set_option maxRecDepth 100000 in
theorem c_X4_kinds (l : Launch) (g : zg) (a : Nat → Nat) (ft : Int32) (tr : Int32) (D : Nat) (E : Nat) (so : Int32) (lk : Nat → Int32) (kd : Nat → Int32) (st : Nat → Int32) (sp : Nat → Int32) (nd : Nat → Int32) (C : Nat) (rO : Nat → Int32) (rB : Nat → Int32) (rD : Nat → Int32) (rW : Nat → Int32) (x : Int32) (hE : E ≤ 4) (hD : D ≤ 6) (hC : C ≤ 8) (hK : vK kd st E) (hR : vR D E C rO rB rD rW) : zM l g yX4_kinds wsX4_kinds rX4_kinds [.ref (a 0), .int x] (wO g a ft tr ++ (wD g a D E so lk kd st sp nd ++ (wR g a C rO rB rD rW))) (some (.int (if zin x E then nI (sets (fun v_ => ar D lk so (upd kd (tn x) (nI v_)) st rO rB rD rW C) 3) else -1))) (wO g a ft tr ++ (wD g a D E so lk kd st sp nd ++ (wR g a C rO rB rD rW))) := by
  refine z_met (own := RX4) (cc := cX4_kinds) (maxL := 5) (ret := some .int) (by decide +kernel) rfl rfl (Nat.le_of_ble_eq_true rfl) ?_
  intro M X ZF
  refine z_Le (L' := [(0, .ref (a 0)), (1, .int x)]) rfl ?_
  have hL := vK_L hK
  have i_RX4 : ∀ w ∈ wsX40, w ∈ wsX4_kinds := by decide +kernel
  have f_12 : Cond.fieldLink RX4 12 (TX4 0).1 (TX4 0).2.1 (TX4 0).2.2.1 ∈ wsX4_kinds := by decide +kernel
  have f_21 : Cond.fieldLink RX4 21 (TX4 1).1 (TX4 1).2.1 (TX4 1).2.2.1 ∈ wsX4_kinds := by decide +kernel
  refine z_aload_n X dX4_kinds_0 rfl 0 rfl ?_
  refine z_get (v := .ref (a 1)) (N := 5) X i_RX4 (ci := 3) rfl 0 rfl 0 (by decide) f_12 rfl dX4_kinds_1 ?_
  refine z_iload_n X dX4_kinds_4 rfl 1 rfl ?_
  refine z_callV X (c_X0_hasEater l g a D E so lk kd st sp nd x (by omega)) gX4_kinds_X0_hasEater rfl ⟨rfl, rfl⟩ (by decide +kernel) ⟨Nat.le_of_ble_eq_true rfl, Nat.le_of_ble_eq_true rfl⟩ ZF.room (ci := 0) rfl 1 rfl (isC := [1, 2, 3, 4, 5, 6]) (by decide) rfl rfl (ws' := (wO g a ft tr ++ (wD g a D E so lk kd st sp nd ++ (wR g a C rO rB rD rW)))) rfl (As := [.int x]) (n := 1) rfl rfl (st1 := [.int (bI (zin x E))]) rfl (Nat.le_of_ble_eq_true rfl) dX4_kinds_5 ?_
  refine z_if_neB (tgt := 13) X dX4_kinds_8 (by decide) (fun hq1 => ?_) (fun hq1 => ?_)
  ·
    obtain ⟨jv2, hj2, ej2⟩ := zin_t (by omega) hq1
    subst ej2
    have hc2 : tn (nI jv2) = jv2 := nI_clamp (by omega)
    refine z_iconst (v := nI 0) X dX4_kinds_13 (by decide) ?_
    refine z_istore_n (L' := [(2, .int (nI 0)), (0, .ref (a 0)), (1, .int (nI jv2))]) X dX4_kinds_14 rfl (by decide) rfl ?_
    refine z_iconst (v := nI 0) X dX4_kinds_15 (by decide) ?_
    refine z_istore_n (L' := [(3, .int (nI 0)), (2, .int (nI 0)), (0, .ref (a 0)), (1, .int (nI jv2))]) X dX4_kinds_16 rfl (by decide) rfl ?_
    have loopv3 : ∀ (n3 v_v : Nat), v_v ≤ 3 → 3 + 1 ≤ v_v + n3 → zG l g 5 M (wO g a ft tr ++ (wD g a D E so lk kd st sp nd ++ (wR g a C rO rB rD rW))) [(0, .ref (a 0)), (1, .int (nI jv2)), (2, .int (nI (sets (fun v_ => ax D lk so kd st rO rB rD rW (nI jv2) (tn (lbI (nI v_) (st jv2))) C) v_v))), (3, .int (nI v_v))] 17 [] := by
      intro n3
      induction n3 with
      | zero => intro v_v h1 h2; exact absurd h2 (by omega)
      | succ n3 ih3 =>
        intro v_v hi3 hn3
        refine z_iload_n X dX4_kinds_17 rfl 3 rfl ?_
        refine z_iconst (v := nI 2) X dX4_kinds_18 (by decide) ?_
        refine z_icmp_gtN (tgt := 72) X dX4_kinds_19 (by decide) (by omega) (by omega) (fun hq4 => ?_) (fun hq4 => ?_)
        ·
          refine z_iload_n X dX4_kinds_72 rfl 2 rfl ?_
          exact z_iret X ZF dX4_kinds_73 (by rw [show v_v = 3 by omega, if_pos hq1, hc2]; exact congrArg nI (sets_congr (fun v_ hv_ => ax_kd (by omega) (by omega) hR _ (Nat.le_refl _)))) rfl
        ·
          refine z_iload_n X dX4_kinds_22 rfl 3 rfl ?_
          refine z_aload_n X dX4_kinds_23 rfl 0 rfl ?_
          refine z_get (v := .ref (a 1)) (N := 5) X i_RX4 (ci := 3) rfl 0 rfl 0 (by decide) f_12 rfl dX4_kinds_24 ?_
          refine z_iload_n X dX4_kinds_27 rfl 1 rfl ?_
          refine z_callV X (c_X0_stayOf l g a D E so lk kd st sp nd jv2 (by omega)) gX4_kinds_X0_stayOf rfl ⟨rfl, rfl⟩ (by decide +kernel) ⟨Nat.le_of_ble_eq_true rfl, Nat.le_of_ble_eq_true rfl⟩ ZF.room (ci := 0) rfl 1 rfl (isC := [1, 2, 3, 4, 5, 6]) (by decide) rfl rfl (ws' := (wO g a ft tr ++ (wD g a D E so lk kd st sp nd ++ (wR g a C rO rB rD rW)))) rfl (As := [.int (nI jv2)]) (n := 1) rfl rfl (st1 := [.int (st jv2), .int (nI v_v)]) rfl (Nat.le_of_ble_eq_true rfl) dX4_kinds_28 ?_
          refine z_callS0 X (c_X0_lastsBy l g (nI v_v) (st jv2)) gX4_kinds_X0_lastsBy rfl ⟨rfl, rfl⟩ (by decide +kernel) ⟨Nat.le_of_ble_eq_true rfl, Nat.le_of_ble_eq_true rfl⟩ ZF.room (As := [.int (nI v_v), .int (st jv2)]) (n := 2) rfl rfl (st1 := [.int (lbI (nI v_v) (st jv2))]) rfl (Nat.le_of_ble_eq_true rfl) dX4_kinds_31 ?_
          refine z_top (y := nI (tn (lbI (nI v_v) (st jv2)))) (lbI_st (hK _ (by omega)).2 (by omega)).1 ?_
          refine z_istore (L' := [(4, .int (nI (tn (lbI (nI v_v) (st jv2))))), (0, .ref (a 0)), (1, .int (nI jv2)), (2, .int (nI (sets (fun v_ => ax D lk so kd st rO rB rD rW (nI jv2) (tn (lbI (nI v_) (st jv2))) C) v_v))), (3, .int (nI v_v))]) X dX4_kinds_34 (by decide) rfl ?_
          refine z_aload_n X dX4_kinds_36 rfl 1 rfl ?_
          refine z_get (v := .ref (a 7)) (N := 5) X i_RX4 (ci := 3) rfl 0 rfl 1 (by decide) f_21 rfl dX4_kinds_37 ?_
          refine z_aload_n X dX4_kinds_40 rfl 1 rfl ?_
          refine z_get (v := .ref (a 1)) (N := 5) X i_RX4 (ci := 3) rfl 0 rfl 0 (by decide) f_12 rfl dX4_kinds_41 ?_
          refine z_iload_n X dX4_kinds_44 rfl 2 rfl ?_
          refine z_iload X dX4_kinds_45 0 rfl ?_
          refine z_aload_n X dX4_kinds_47 rfl 1 rfl ?_
          refine z_get (v := .ref (a 1)) (N := 5) X i_RX4 (ci := 3) rfl 0 rfl 0 (by decide) f_12 rfl dX4_kinds_48 ?_
          refine z_callV X (c_X0_sourLook l g a D E so lk kd st sp nd) gX4_kinds_X0_sourLook rfl ⟨rfl, rfl⟩ (by decide +kernel) ⟨Nat.le_of_ble_eq_true rfl, Nat.le_of_ble_eq_true rfl⟩ ZF.room (ci := 0) rfl 1 rfl (isC := [1, 2, 3, 4, 5, 6]) (by decide) rfl rfl (ws' := (wO g a ft tr ++ (wD g a D E so lk kd st sp nd ++ (wR g a C rO rB rD rW)))) rfl (As := []) (n := 0) rfl rfl (st1 := [.int so, .int (nI (tn (lbI (nI v_v) (st jv2)))), .int (nI jv2), .ref (a 1), .ref (a 7)]) rfl (Nat.le_of_ble_eq_true rfl) dX4_kinds_51 ?_
          refine z_callV X (c_X1_allAreSo l g a C rO rB rD rW D E so lk kd st sp nd (nI jv2) (tn (lbI (nI v_v) (st jv2))) so (by omega) (by omega) (by omega) (by first | assumption | omega) (by first | assumption | omega) (lbI_st (hK _ (by omega)).2 (by omega)).2) gX4_kinds_X1_allAreSo rfl ⟨rfl, rfl⟩ (by decide +kernel) ⟨Nat.le_of_ble_eq_true rfl, Nat.le_of_ble_eq_true rfl⟩ ZF.room (ci := 1) rfl 7 rfl (isC := [7, 8, 9, 10, 11, 1, 2, 3, 4, 5, 6]) (by decide) rfl rfl (ws' := (wO g a ft tr ++ (wD g a D E so lk kd st sp nd ++ (wR g a C rO rB rD rW)))) rfl (As := [.ref (a 1), .int (nI jv2), .int (nI (tn (lbI (nI v_v) (st jv2)))), .int so]) (n := 4) rfl rfl (st1 := [.int (bI (ax D lk so kd st rO rB rD rW (nI jv2) (tn (lbI (nI v_v) (st jv2))) C))]) rfl (Nat.le_of_ble_eq_true rfl) dX4_kinds_54 ?_
          refine z_if_eqB (tgt := 66) X dX4_kinds_57 (by decide) (fun hq5 => ?_) (fun hq5 => ?_)
          ·
            refine z_iinc (v := nI (v_v + 1)) (L' := [(3, .int (nI (v_v + 1))), (4, .int (nI (tn (lbI (nI v_v) (st jv2))))), (0, .ref (a 0)), (1, .int (nI jv2)), (2, .int (nI (sets (fun v_ => ax D lk so kd st rO rB rD rW (nI jv2) (tn (lbI (nI v_) (st jv2))) C) v_v)))]) X dX4_kinds_66 4 rfl (nI_inc v_v 1) (by decide) rfl ?_
            refine z_goto (tgt := 17) X dX4_kinds_69 (by decide) ?_
            refine z_ls (L' := [(0, .ref (a 0)), (1, .int (nI jv2)), (2, .int (nI (sets (fun v_ => ax D lk so kd st rO rB rD rW (nI jv2) (tn (lbI (nI v_) (st jv2))) C) v_v))), (3, .int (nI (v_v + 1)))]) [2, 3, 4, 0] rfl ?_
            have e6 : (nI (sets (fun v_ => ax D lk so kd st rO rB rD rW (nI jv2) (tn (lbI (nI v_) (st jv2))) C) v_v)) = (nI (sets (fun v_ => ax D lk so kd st rO rB rD rW (nI jv2) (tn (lbI (nI v_) (st jv2))) C) (v_v + 1))) := by first | rfl | simp [sets, hq1, hc2, hq4, hq5]
            refine z_Le (L' := [(0, .ref (a 0)), (1, .int (nI jv2)), (2, .int (nI (sets (fun v_ => ax D lk so kd st rO rB rD rW (nI jv2) (tn (lbI (nI v_) (st jv2))) C) (v_v + 1)))), (3, .int (nI (v_v + 1)))]) (by rw [← e6]) ?_
            exact ih3 (v_v + 1) (by omega) (by omega)
          ·
            refine z_iload_n X dX4_kinds_60 rfl 3 rfl ?_
            refine z_iconst (v := nI 1) X dX4_kinds_61 (by decide) ?_
            refine z_iload_n X dX4_kinds_62 rfl 4 rfl ?_
            refine z_ishl' (v := nI (2 ^ v_v)) X dX4_kinds_63 (nI_shl1 (by omega)) ?_
            refine z_ior' (v := nI ((sets (fun v_ => ax D lk so kd st rO rB rD rW (nI jv2) (tn (lbI (nI v_) (st jv2))) C) v_v) ||| (2 ^ v_v))) X dX4_kinds_64 (fa_or _ _) ?_
            refine z_istore_n (L' := [(2, .int (nI ((sets (fun v_ => ax D lk so kd st rO rB rD rW (nI jv2) (tn (lbI (nI v_) (st jv2))) C) v_v) ||| (2 ^ v_v)))), (4, .int (nI (tn (lbI (nI v_v) (st jv2))))), (0, .ref (a 0)), (1, .int (nI jv2)), (3, .int (nI v_v))]) X dX4_kinds_65 rfl (by decide) rfl ?_
            refine z_iinc (v := nI (v_v + 1)) (L' := [(3, .int (nI (v_v + 1))), (2, .int (nI ((sets (fun v_ => ax D lk so kd st rO rB rD rW (nI jv2) (tn (lbI (nI v_) (st jv2))) C) v_v) ||| (2 ^ v_v)))), (4, .int (nI (tn (lbI (nI v_v) (st jv2))))), (0, .ref (a 0)), (1, .int (nI jv2))]) X dX4_kinds_66 4 rfl (nI_inc v_v 1) (by decide) rfl ?_
            refine z_goto (tgt := 17) X dX4_kinds_69 (by decide) ?_
            refine z_ls (L' := [(0, .ref (a 0)), (1, .int (nI jv2)), (2, .int (nI ((sets (fun v_ => ax D lk so kd st rO rB rD rW (nI jv2) (tn (lbI (nI v_) (st jv2))) C) v_v) ||| (2 ^ v_v)))), (3, .int (nI (v_v + 1)))]) [3, 4, 1, 0] rfl ?_
            have e7 : (nI ((sets (fun v_ => ax D lk so kd st rO rB rD rW (nI jv2) (tn (lbI (nI v_) (st jv2))) C) v_v) ||| (2 ^ v_v))) = (nI (sets (fun v_ => ax D lk so kd st rO rB rD rW (nI jv2) (tn (lbI (nI v_) (st jv2))) C) (v_v + 1))) := by first | rfl | simp [sets, hq1, hc2, hq4, hq5]
            refine z_Le (L' := [(0, .ref (a 0)), (1, .int (nI jv2)), (2, .int (nI (sets (fun v_ => ax D lk so kd st rO rB rD rW (nI jv2) (tn (lbI (nI v_) (st jv2))) C) (v_v + 1)))), (3, .int (nI (v_v + 1)))]) (by rw [← e7]) ?_
            exact ih3 (v_v + 1) (by omega) (by omega)
    refine z_ls (L' := [(0, .ref (a 0)), (1, .int (nI jv2)), (2, .int (nI 0)), (3, .int (nI 0))]) [2, 3, 1, 0] rfl ?_
    have e8 : (nI 0) = (nI (sets (fun v_ => ax D lk so kd st rO rB rD rW (nI jv2) (tn (lbI (nI v_) (st jv2))) C) 0)) := by first | rfl | simp [sets, hq1, hc2]
    refine z_Le (L' := [(0, .ref (a 0)), (1, .int (nI jv2)), (2, .int (nI (sets (fun v_ => ax D lk so kd st rO rB rD rW (nI jv2) (tn (lbI (nI v_) (st jv2))) C) 0))), (3, .int (nI 0))]) (by rw [← e8]) ?_
    exact loopv3 (3 + 1) 0 (by omega) (by omega)
  ·
    refine z_iconst (v := (-1)) X dX4_kinds_11 (by decide) ?_
    exact z_iret X ZF dX4_kinds_12 (by simp [hq1]) rfl
abbrev rX4_sours : Room := { frames := 4, cells := 0, slots := 0, locals := 96 }
set_option maxHeartbeats 4000000 in
set_option maxRecDepth 100000 in
theorem c_X4_sours (l : Launch) (g : zg) (a : Nat → Nat) (ft : Int32) (tr : Int32) (D : Nat) (E : Nat) (so : Int32) (lk : Nat → Int32) (kd : Nat → Int32) (st : Nat → Int32) (sp : Nat → Int32) (nd : Nat → Int32) (C : Nat) (rO : Nat → Int32) (rB : Nat → Int32) (rD : Nat → Int32) (rW : Nat → Int32) (hE : E ≤ 4) (hD : D ≤ 6) (hC : C ≤ 8) (hK : vK kd st E) (hR : vR D E C rO rB rD rW) : zM l g yX4_sours wsX4_sours rX4_sours [.ref (a 0)] (wO g a ft tr ++ (wD g a D E so lk kd st sp nd ++ (wR g a C rO rB rD rW))) (some (.int (if 0 < E then nI (sets (fun v_ => ar D lk (nI v_) kd st rO rB rD rW C) 10) else -3))) (wO g a ft tr ++ (wD g a D E so lk kd st sp nd ++ (wR g a C rO rB rD rW))) := by
  refine z_met (own := RX4) (cc := cX4_sours) (maxL := 3) (ret := some .int) (by decide +kernel) rfl rfl (Nat.le_of_ble_eq_true rfl) ?_
  intro M X ZF
  refine z_Le (L' := [(0, .ref (a 0))]) rfl ?_
  have hL := vK_L hK
  have i_RX4 : ∀ w ∈ wsX40, w ∈ wsX4_sours := by decide +kernel
  have f_12 : Cond.fieldLink RX4 12 (TX4 0).1 (TX4 0).2.1 (TX4 0).2.2.1 ∈ wsX4_sours := by decide +kernel
  have f_21 : Cond.fieldLink RX4 21 (TX4 1).1 (TX4 1).2.1 (TX4 1).2.2.1 ∈ wsX4_sours := by decide +kernel
  refine z_aload_n X dX4_sours_0 rfl 0 rfl ?_
  refine z_get (v := .ref (a 1)) (N := 5) X i_RX4 (ci := 3) rfl 0 rfl 0 (by decide) f_12 rfl dX4_sours_1 ?_
  refine z_callV X (c_X0_isTold l g a D E so lk kd st sp nd (by omega)) gX4_sours_X0_isTold rfl ⟨rfl, rfl⟩ (by decide +kernel) ⟨Nat.le_of_ble_eq_true rfl, Nat.le_of_ble_eq_true rfl⟩ ZF.room (ci := 0) rfl 1 rfl (isC := [1, 2, 3, 4, 5, 6]) (by decide) rfl rfl (ws' := (wO g a ft tr ++ (wD g a D E so lk kd st sp nd ++ (wR g a C rO rB rD rW)))) rfl (As := []) (n := 0) rfl rfl (st1 := [.int (bI (decide (0 < E)))]) rfl (Nat.le_of_ble_eq_true rfl) dX4_sours_4 ?_
  refine z_if_neB (tgt := 13) X dX4_sours_7 (by decide) (fun hq1 => ?_) (fun hq1 => ?_)
  ·
    have hq2 : (0 < E) := of_decide_eq_true hq1
    refine z_iconst (v := nI 0) X dX4_sours_13 (by decide) ?_
    refine z_istore_n (L' := [(1, .int (nI 0)), (0, .ref (a 0))]) X dX4_sours_14 rfl (by decide) rfl ?_
    refine z_iconst (v := nI 0) X dX4_sours_15 (by decide) ?_
    refine z_istore_n (L' := [(2, .int (nI 0)), (1, .int (nI 0)), (0, .ref (a 0))]) X dX4_sours_16 rfl (by decide) rfl ?_
    have loopv3 : ∀ (n3 v_v : Nat), v_v ≤ 10 → 10 + 1 ≤ v_v + n3 → zG l g 3 M (wO g a ft tr ++ (wD g a D E so lk kd st sp nd ++ (wR g a C rO rB rD rW))) [(0, .ref (a 0)), (1, .int (nI (sets (fun v_ => ax D lk (nI v_) kd st rO rB rD rW (-1) 0 C) v_v))), (2, .int (nI v_v))] 17 [] := by
      intro n3
      induction n3 with
      | zero => intro v_v h1 h2; exact absurd h2 (by omega)
      | succ n3 ih3 =>
        intro v_v hi3 hn3
        refine z_iload_n X dX4_sours_17 rfl 2 rfl ?_
        refine z_bipush (v := nI 9) X dX4_sours_18 (by decide) ?_
        refine z_icmp_gtN (tgt := 52) X dX4_sours_20 (by decide) (by omega) (by omega) (fun hq4 => ?_) (fun hq4 => ?_)
        ·
          refine z_iload_n X dX4_sours_52 rfl 1 rfl ?_
          exact z_iret X ZF dX4_sours_53 (by rw [show v_v = 10 by omega, if_pos hq2]; exact congrArg nI (sets_congr (fun v_ hv_ => ax_no (by omega) hR _ (Nat.le_refl _)))) rfl
        ·
          refine z_aload_n X dX4_sours_23 rfl 0 rfl ?_
          refine z_get (v := .ref (a 7)) (N := 5) X i_RX4 (ci := 3) rfl 0 rfl 1 (by decide) f_21 rfl dX4_sours_24 ?_
          refine z_aload_n X dX4_sours_27 rfl 0 rfl ?_
          refine z_get (v := .ref (a 1)) (N := 5) X i_RX4 (ci := 3) rfl 0 rfl 0 (by decide) f_12 rfl dX4_sours_28 ?_
          refine z_iconst (v := (-1)) X dX4_sours_31 (by decide) ?_
          refine z_iconst (v := nI 0) X dX4_sours_32 (by decide) ?_
          refine z_iload_n X dX4_sours_33 rfl 2 rfl ?_
          refine z_callV X (c_X1_allAreSo l g a C rO rB rD rW D E so lk kd st sp nd (-1) 0 (nI v_v) (by omega) (by omega) (by omega) (by first | assumption | omega) (by first | assumption | omega) (by omega)) gX4_sours_X1_allAreSo rfl ⟨rfl, rfl⟩ (by decide +kernel) ⟨Nat.le_of_ble_eq_true rfl, Nat.le_of_ble_eq_true rfl⟩ ZF.room (ci := 1) rfl 7 rfl (isC := [7, 8, 9, 10, 11, 1, 2, 3, 4, 5, 6]) (by decide) rfl rfl (ws' := (wO g a ft tr ++ (wD g a D E so lk kd st sp nd ++ (wR g a C rO rB rD rW)))) rfl (As := [.ref (a 1), .int (-1), .int (nI 0), .int (nI v_v)]) (n := 4) rfl rfl (st1 := [.int (bI (ax D lk (nI v_v) kd st rO rB rD rW (-1) 0 C))]) rfl (Nat.le_of_ble_eq_true rfl) dX4_sours_34 ?_
          refine z_if_eqB (tgt := 46) X dX4_sours_37 (by decide) (fun hq5 => ?_) (fun hq5 => ?_)
          ·
            refine z_iinc (v := nI (v_v + 1)) (L' := [(2, .int (nI (v_v + 1))), (0, .ref (a 0)), (1, .int (nI (sets (fun v_ => ax D lk (nI v_) kd st rO rB rD rW (-1) 0 C) v_v)))]) X dX4_sours_46 2 rfl (nI_inc v_v 1) (by decide) rfl ?_
            refine z_goto (tgt := 17) X dX4_sours_49 (by decide) ?_
            refine z_ls (L' := [(0, .ref (a 0)), (1, .int (nI (sets (fun v_ => ax D lk (nI v_) kd st rO rB rD rW (-1) 0 C) v_v))), (2, .int (nI (v_v + 1)))]) [1, 2, 0] rfl ?_
            have e6 : (nI (sets (fun v_ => ax D lk (nI v_) kd st rO rB rD rW (-1) 0 C) v_v)) = (nI (sets (fun v_ => ax D lk (nI v_) kd st rO rB rD rW (-1) 0 C) (v_v + 1))) := by first | rfl | simp [sets, hq2, hq4, hq5]
            refine z_Le (L' := [(0, .ref (a 0)), (1, .int (nI (sets (fun v_ => ax D lk (nI v_) kd st rO rB rD rW (-1) 0 C) (v_v + 1)))), (2, .int (nI (v_v + 1)))]) (by rw [← e6]) ?_
            exact ih3 (v_v + 1) (by omega) (by omega)
          ·
            refine z_iload_n X dX4_sours_40 rfl 1 rfl ?_
            refine z_iconst (v := nI 1) X dX4_sours_41 (by decide) ?_
            refine z_iload_n X dX4_sours_42 rfl 2 rfl ?_
            refine z_ishl' (v := nI (2 ^ v_v)) X dX4_sours_43 (nI_shl1 (by omega)) ?_
            refine z_ior' (v := nI ((sets (fun v_ => ax D lk (nI v_) kd st rO rB rD rW (-1) 0 C) v_v) ||| (2 ^ v_v))) X dX4_sours_44 (fa_or _ _) ?_
            refine z_istore_n (L' := [(1, .int (nI ((sets (fun v_ => ax D lk (nI v_) kd st rO rB rD rW (-1) 0 C) v_v) ||| (2 ^ v_v)))), (0, .ref (a 0)), (2, .int (nI v_v))]) X dX4_sours_45 rfl (by decide) rfl ?_
            refine z_iinc (v := nI (v_v + 1)) (L' := [(2, .int (nI (v_v + 1))), (1, .int (nI ((sets (fun v_ => ax D lk (nI v_) kd st rO rB rD rW (-1) 0 C) v_v) ||| (2 ^ v_v)))), (0, .ref (a 0))]) X dX4_sours_46 2 rfl (nI_inc v_v 1) (by decide) rfl ?_
            refine z_goto (tgt := 17) X dX4_sours_49 (by decide) ?_
            refine z_ls (L' := [(0, .ref (a 0)), (1, .int (nI ((sets (fun v_ => ax D lk (nI v_) kd st rO rB rD rW (-1) 0 C) v_v) ||| (2 ^ v_v)))), (2, .int (nI (v_v + 1)))]) [2, 1, 0] rfl ?_
            have e7 : (nI ((sets (fun v_ => ax D lk (nI v_) kd st rO rB rD rW (-1) 0 C) v_v) ||| (2 ^ v_v))) = (nI (sets (fun v_ => ax D lk (nI v_) kd st rO rB rD rW (-1) 0 C) (v_v + 1))) := by first | rfl | simp [sets, hq2, hq4, hq5]
            refine z_Le (L' := [(0, .ref (a 0)), (1, .int (nI (sets (fun v_ => ax D lk (nI v_) kd st rO rB rD rW (-1) 0 C) (v_v + 1)))), (2, .int (nI (v_v + 1)))]) (by rw [← e7]) ?_
            exact ih3 (v_v + 1) (by omega) (by omega)
    refine z_ls (L' := [(0, .ref (a 0)), (1, .int (nI 0)), (2, .int (nI 0))]) [2, 1, 0] rfl ?_
    have e8 : (nI 0) = (nI (sets (fun v_ => ax D lk (nI v_) kd st rO rB rD rW (-1) 0 C) 0)) := by first | rfl | simp [sets, hq2]
    refine z_Le (L' := [(0, .ref (a 0)), (1, .int (nI (sets (fun v_ => ax D lk (nI v_) kd st rO rB rD rW (-1) 0 C) 0))), (2, .int (nI 0))]) (by rw [← e8]) ?_
    exact loopv3 (10 + 1) 0 (by omega) (by omega)
  ·
    have hq9 : ¬ (0 < E) := of_decide_eq_false hq1
    refine z_bipush (v := (-3)) X dX4_sours_10 (by decide) ?_
    exact z_iret X ZF dX4_sours_12 (by simp [hq9]) rfl
abbrev rX4_odds : Room := { frames := 2, cells := 0, slots := 0, locals := 44 }
set_option maxHeartbeats 4000000 in
set_option maxRecDepth 100000 in
theorem c_X4_odds (l : Launch) (g : zg) (a : Nat → Nat) (ft : Int32) (tr : Int32) (D : Nat) (E : Nat) (so : Int32) (lk : Nat → Int32) (kd : Nat → Int32) (st : Nat → Int32) (sp : Nat → Int32) (nd : Nat → Int32) (x : Int32) (s : Int32) (w : Int32) (hE : E ≤ 4) (hD : D ≤ 6) (hK : vK kd st E) : zM l g yX4_odds wsX4_odds rX4_odds [.ref (a 0), .int x, .int s, .int w] (wO g a ft tr ++ (wD g a D E so lk kd st sp nd)) (some (.long (if zin x E && zin s (2 ^ D) && zin w 2 then (if tn w = 0 then 1 else lN (2 ^ pc (yl D (Lf kd st (tn x)) (tn s)))) else -9223372036854775808))) (wO g a ft tr ++ (wD g a D E so lk kd st sp nd)) := by
  refine z_met (own := RX4) (cc := cX4_odds) (maxL := 4) (ret := some .long) (by decide +kernel) rfl rfl (Nat.le_of_ble_eq_true rfl) ?_
  intro M X ZF
  refine z_Le (L' := [(0, .ref (a 0)), (1, .int x), (2, .int s), (3, .int w)]) rfl ?_
  have hL := vK_L hK
  have hpD : 2 ^ D ≤ 2 ^ 6 := Nat.pow_le_pow_right (by omega) hD
  have i_RX4 : ∀ w ∈ wsX40, w ∈ wsX4_odds := by decide +kernel
  have f_12 : Cond.fieldLink RX4 12 (TX4 0).1 (TX4 0).2.1 (TX4 0).2.2.1 ∈ wsX4_odds := by decide +kernel
  have k_189 : Cond.constantLong RX4 189 (-9223372036854775808) ∈ wsX4_odds := by decide +kernel
  refine z_aload_n X dX4_odds_0 rfl 0 rfl ?_
  refine z_get (v := .ref (a 1)) (N := 5) X i_RX4 (ci := 3) rfl 0 rfl 0 (by decide) f_12 rfl dX4_odds_1 ?_
  refine z_iload_n X dX4_odds_4 rfl 1 rfl ?_
  refine z_callV X (c_X0_hasEater l g a D E so lk kd st sp nd x (by omega)) gX4_odds_X0_hasEater rfl ⟨rfl, rfl⟩ (by decide +kernel) ⟨Nat.le_of_ble_eq_true rfl, Nat.le_of_ble_eq_true rfl⟩ ZF.room (ci := 0) rfl 1 rfl (isC := [1, 2, 3, 4, 5, 6]) (by decide) rfl rfl (ws' := (wO g a ft tr ++ (wD g a D E so lk kd st sp nd))) rfl (As := [.int x]) (n := 1) rfl rfl (st1 := [.int (bI (zin x E))]) rfl (Nat.le_of_ble_eq_true rfl) dX4_odds_5 ?_
  refine z_if_eqB (tgt := 30) X dX4_odds_8 (by decide) (fun hq1 => ?_) (fun hq1 => ?_)
  ·
    refine z_ldc2 (v := -9223372036854775808) X dX4_odds_30 k_189 ?_
    exact z_lret X ZF dX4_odds_33 (by simp [z02, t00, hq1]; try exact odd_shl _ (pc_le _)) rfl
  ·
    obtain ⟨jv2, hj2, ej2⟩ := zin_t (by omega) hq1
    subst ej2
    have hc2 : tn (nI jv2) = jv2 := nI_clamp (by omega)
    refine z_aload_n X dX4_odds_11 rfl 0 rfl ?_
    refine z_get (v := .ref (a 1)) (N := 5) X i_RX4 (ci := 3) rfl 0 rfl 0 (by decide) f_12 rfl dX4_odds_12 ?_
    refine z_iload_n X dX4_odds_15 rfl 2 rfl ?_
    refine z_callV X (c_X0_hasDays l g a D E so lk kd st sp nd s (by omega)) gX4_odds_X0_hasDays rfl ⟨rfl, rfl⟩ (by decide +kernel) ⟨Nat.le_of_ble_eq_true rfl, Nat.le_of_ble_eq_true rfl⟩ ZF.room (ci := 0) rfl 1 rfl (isC := [1, 2, 3, 4, 5, 6]) (by decide) rfl rfl (ws' := (wO g a ft tr ++ (wD g a D E so lk kd st sp nd))) rfl (As := [.int s]) (n := 1) rfl rfl (st1 := [.int (bI (zin s (2 ^ D)))]) rfl (Nat.le_of_ble_eq_true rfl) dX4_odds_16 ?_
    refine z_if_eqB (tgt := 30) X dX4_odds_19 (by decide) (fun hq3 => ?_) (fun hq3 => ?_)
    ·
      refine z_ldc2 (v := -9223372036854775808) X dX4_odds_30 k_189 ?_
      exact z_lret X ZF dX4_odds_33 (by simp [z02, t00, hq1, hc2, hq3]; try exact odd_shl _ (pc_le _)) rfl
    ·
      obtain ⟨jv4, hj4, ej4⟩ := zin_t (by omega) hq3
      subst ej4
      have hc4 : tn (nI jv4) = jv4 := nI_clamp (by omega)
      refine z_iload_n X dX4_odds_22 rfl 3 rfl ?_
      refine z_iconst (v := nI 1) X dX4_odds_23 (by decide) ?_
      refine z_callS0 X (c_X4_isFrom0To l g w 1 (by omega)) gX4_odds_X4_isFrom0To rfl ⟨rfl, rfl⟩ (by decide +kernel) ⟨Nat.le_of_ble_eq_true rfl, Nat.le_of_ble_eq_true rfl⟩ ZF.room (As := [.int w, .int (nI 1)]) (n := 2) rfl rfl (st1 := [.int (bI (zin w (1 + 1)))]) rfl (Nat.le_of_ble_eq_true rfl) dX4_odds_24 ?_
      refine z_if_neB (tgt := 34) X dX4_odds_27 (by decide) (fun hq5 => ?_) (fun hq5 => ?_)
      ·
        obtain ⟨jv6, hj6, ej6⟩ := zin_t (by omega) hq5
        subst ej6
        have hc6 : tn (nI jv6) = jv6 := nI_clamp (by omega)
        refine z_iload_n X dX4_odds_34 rfl 3 rfl ?_
        refine z_if_neN (tgt := 42) X dX4_odds_35 (by decide) (by omega) (fun hq7 => ?_) (fun hq7 => ?_)
        ·
          refine z_lconst (v := 1) X dX4_odds_42 (by decide) ?_
          refine z_aload_n X dX4_odds_43 rfl 0 rfl ?_
          refine z_get (v := .ref (a 1)) (N := 5) X i_RX4 (ci := 3) rfl 0 rfl 0 (by decide) f_12 rfl dX4_odds_44 ?_
          refine z_aload_n X dX4_odds_47 rfl 0 rfl ?_
          refine z_get (v := .ref (a 1)) (N := 5) X i_RX4 (ci := 3) rfl 0 rfl 0 (by decide) f_12 rfl dX4_odds_48 ?_
          refine z_iload_n X dX4_odds_51 rfl 1 rfl ?_
          refine z_callV X (c_X0_lastsOf l g a D E so lk kd st sp nd jv2 (by omega) (by omega) (by first | assumption | omega)) gX4_odds_X0_lastsOf rfl ⟨rfl, rfl⟩ (by decide +kernel) ⟨Nat.le_of_ble_eq_true rfl, Nat.le_of_ble_eq_true rfl⟩ ZF.room (ci := 0) rfl 1 rfl (isC := [1, 2, 3, 4, 5, 6]) (by decide) rfl rfl (ws' := (wO g a ft tr ++ (wD g a D E so lk kd st sp nd))) rfl (As := [.int (nI jv2)]) (n := 1) rfl rfl (st1 := [.int (nI (Lf kd st jv2)), .ref (a 1), .long 1]) rfl (Nat.le_of_ble_eq_true rfl) dX4_odds_52 ?_
          refine z_iload_n X dX4_odds_55 rfl 2 rfl ?_
          refine z_callV X (c_X0_yellowDays l g a D E so lk kd st sp nd (Lf kd st jv2) jv4 (by omega) (hL _ (by omega)).2) gX4_odds_X0_yellowDays rfl ⟨rfl, rfl⟩ (by decide +kernel) ⟨Nat.le_of_ble_eq_true rfl, Nat.le_of_ble_eq_true rfl⟩ ZF.room (ci := 0) rfl 1 rfl (isC := [1, 2, 3, 4, 5, 6]) (by decide) rfl rfl (ws' := (wO g a ft tr ++ (wD g a D E so lk kd st sp nd))) rfl (As := [.int (nI (Lf kd st jv2)), .int (nI jv4)]) (n := 2) rfl rfl (st1 := [.int (nI (yl D (Lf kd st jv2) jv4)), .long 1]) rfl (Nat.le_of_ble_eq_true rfl) dX4_odds_56 ?_
          refine z_callS0 X (c_J6_bitCount_0f7a4 l g (yl D (Lf kd st jv2) jv4) (yl_lt hD)) gX4_odds_J6_bitCount_0f7a4 rfl ⟨rfl, rfl⟩ (by decide +kernel) ⟨Nat.le_of_ble_eq_true rfl, Nat.le_of_ble_eq_true rfl⟩ ZF.room (As := [.int (nI (yl D (Lf kd st jv2) jv4))]) (n := 1) rfl rfl (st1 := [.int (nI (pc (yl D (Lf kd st jv2) jv4))), .long 1]) rfl (Nat.le_of_ble_eq_true rfl) dX4_odds_59 ?_
          refine z_lshl (v := 1 <<< ((nI (pc (yl D (Lf kd st jv2) jv4))).toInt64 &&& 63)) X dX4_odds_62 rfl ?_
          exact z_lret X ZF dX4_odds_63 (by simp [z02, t00, hq1, hc2, hq3, hc4, hq5, hc6, hq7]; try exact odd_shl _ (pc_le _)) rfl
        ·
          refine z_lconst (v := 1) X dX4_odds_38 (by decide) ?_
          refine z_goto (tgt := 63) X dX4_odds_39 (by decide) ?_
          exact z_lret X ZF dX4_odds_63 (by simp [z02, t00, hq1, hc2, hq3, hc4, hq5, hc6, hq7]; try exact odd_shl _ (pc_le _)) rfl
      ·
        refine z_ldc2 (v := -9223372036854775808) X dX4_odds_30 k_189 ?_
        exact z_lret X ZF dX4_odds_33 (by simp [z02, t00, hq1, hc2, hq3, hc4, hq5]; try exact odd_shl _ (pc_le _)) rfl
abbrev rX4_tell : Room := { frames := 5, cells := 0, slots := 0, locals := 106 }
set_option maxHeartbeats 4000000 in
set_option maxRecDepth 100000 in
theorem c_X4_tell (l : Launch) (g : zg) (a : Nat → Nat) (ft : Int32) (tr : Int32) (D : Nat) (E : Nat) (so : Int32) (lk : Nat → Int32) (kd : Nat → Int32) (st : Nat → Int32) (sp : Nat → Int32) (nd : Nat → Int32) (x : Int32) (hE : E ≤ 4) (hK : vK kd st E) : zM l g yX4_tell wsX4_tell rX4_tell [.ref (a 0), .int x] (wO g a ft tr ++ (wD g a D E so lk kd st sp nd)) (some (.int (if zin x E then telI (kd (tn x)) (sp (tn x)) else -1))) (wO g a ft (if zin x E then telT (kd (tn x)) tr else tr) ++ (wD g a D E so lk kd st sp nd)) := by
  refine z_met (own := RX4) (cc := cX4_tell) (maxL := 2) (ret := some .int) (by decide +kernel) rfl rfl (Nat.le_of_ble_eq_true rfl) ?_
  intro M X ZF
  refine z_Le (L' := [(0, .ref (a 0)), (1, .int x)]) rfl ?_
  have i_RX4 : ∀ w ∈ wsX40, w ∈ wsX4_tell := by decide +kernel
  have f_12 : Cond.fieldLink RX4 12 (TX4 0).1 (TX4 0).2.1 (TX4 0).2.2.1 ∈ wsX4_tell := by decide +kernel
  refine z_aload_n X dX4_tell_0 rfl 0 rfl ?_
  refine z_get (v := .ref (a 1)) (N := 5) X i_RX4 (ci := 3) rfl 0 rfl 0 (by decide) f_12 rfl dX4_tell_1 ?_
  refine z_iload_n X dX4_tell_4 rfl 1 rfl ?_
  refine z_callV X (c_X0_hasEater l g a D E so lk kd st sp nd x (by omega)) gX4_tell_X0_hasEater rfl ⟨rfl, rfl⟩ (by decide +kernel) ⟨Nat.le_of_ble_eq_true rfl, Nat.le_of_ble_eq_true rfl⟩ ZF.room (ci := 0) rfl 1 rfl (isC := [1, 2, 3, 4, 5, 6]) (by decide) rfl rfl (ws' := (wO g a ft tr ++ (wD g a D E so lk kd st sp nd))) rfl (As := [.int x]) (n := 1) rfl rfl (st1 := [.int (bI (zin x E))]) rfl (Nat.le_of_ble_eq_true rfl) dX4_tell_5 ?_
  refine z_if_neB (tgt := 13) X dX4_tell_8 (by decide) (fun hq1 => ?_) (fun hq1 => ?_)
  ·
    obtain ⟨jv2, hj2, ej2⟩ := zin_t (by omega) hq1
    subst ej2
    have hc2 : tn (nI jv2) = jv2 := nI_clamp (by omega)
    refine z_aload_n X dX4_tell_13 rfl 0 rfl ?_
    refine z_get (v := .ref (a 1)) (N := 5) X i_RX4 (ci := 3) rfl 0 rfl 0 (by decide) f_12 rfl dX4_tell_14 ?_
    refine z_iload_n X dX4_tell_17 rfl 1 rfl ?_
    refine z_callV X (c_X0_kindOf l g a D E so lk kd st sp nd jv2 (by omega)) gX4_tell_X0_kindOf rfl ⟨rfl, rfl⟩ (by decide +kernel) ⟨Nat.le_of_ble_eq_true rfl, Nat.le_of_ble_eq_true rfl⟩ ZF.room (ci := 0) rfl 1 rfl (isC := [1, 2, 3, 4, 5, 6]) (by decide) rfl rfl (ws' := (wO g a ft tr ++ (wD g a D E so lk kd st sp nd))) rfl (As := [.int (nI jv2)]) (n := 1) rfl rfl (st1 := [.int (kd jv2)]) rfl (Nat.le_of_ble_eq_true rfl) dX4_tell_18 ?_
    by_cases hq3 : (kd jv2) = nI 1
    ·
      refine z_top hq3 ?_
      refine z_lookup (off := 33) (tgt := 54) X dX4_tell_21 (by decide +kernel) (by decide +kernel) (by decide) ?_
      refine z_aload_n X dX4_tell_54 rfl 0 rfl ?_
      refine z_iload_n X dX4_tell_55 rfl 1 rfl ?_
      refine z_callVM X (c_X4_slyTelling l g a ft tr D E so lk kd st sp nd jv2 (by omega)) gX4_tell_X4_slyTelling rfl ⟨rfl, rfl⟩ (by decide +kernel) ⟨Nat.le_of_ble_eq_true rfl, Nat.le_of_ble_eq_true rfl⟩ ZF.room (ci := 3) rfl 0 rfl rfl (As := [.int (nI jv2)]) (n := 1) rfl rfl (st1 := [.int (sp jv2 + nI 100)]) rfl (Nat.le_of_ble_eq_true rfl) dX4_tell_56 ?_
      have e4 : (if zin (nI jv2) E then telT (kd (tn (nI jv2))) tr else tr) = (nI 31 * (nI 31 * tr + nI 2) + nI 1) := by simp [telI, telT, nI_12, nI_21, hq1, hc2, hq3]
      exact z_iret X ZF dX4_tell_59 (by simp [telI, telT, nI_12, nI_21, hq1, hc2, hq3]) (by rw [e4])
    ·
      by_cases hq5 : (kd jv2) = nI 2
      ·
        refine z_top hq5 ?_
        refine z_lookup (off := 27) (tgt := 48) X dX4_tell_21 (by decide +kernel) (by decide +kernel) (by decide) ?_
        refine z_aload_n X dX4_tell_48 rfl 0 rfl ?_
        refine z_iload_n X dX4_tell_49 rfl 1 rfl ?_
        refine z_callVM X (c_X4_strangerTelling l g a ft tr D E so lk kd st sp nd jv2 (by omega)) gX4_tell_X4_strangerTelling rfl ⟨rfl, rfl⟩ (by decide +kernel) ⟨Nat.le_of_ble_eq_true rfl, Nat.le_of_ble_eq_true rfl⟩ ZF.room (ci := 3) rfl 0 rfl rfl (As := [.int (nI jv2)]) (n := 1) rfl rfl (st1 := [.int ((sp jv2 + nI 100) + sp jv2)]) rfl (Nat.le_of_ble_eq_true rfl) dX4_tell_50 ?_
        have e6 : (if zin (nI jv2) E then telT (kd (tn (nI jv2))) tr else tr) = (nI 31 * (nI 31 * (nI 31 * (nI 31 * tr + nI 3) + nI 2) + nI 1) + nI 1) := by simp [telI, telT, nI_12, nI_21, hq1, hc2, hq3, hq5]
        exact z_iret X ZF dX4_tell_53 (by simp [telI, telT, nI_12, nI_21, hq1, hc2, hq3, hq5]) (by rw [e6])
      ·
        refine z_lookup (off := 39) (tgt := 60) X dX4_tell_21 (by decide +kernel) (by show Op.lookupswitch.offset [(1, 33), (2, 27)] (39) _ = _; rw [lv_osw (k := nI 1) hq3 (by decide +kernel), lv_osw (k := nI 2) hq5 (by decide +kernel)]; rfl) (by decide) ?_
        refine z_aload_n X dX4_tell_60 rfl 0 rfl ?_
        refine z_iload_n X dX4_tell_61 rfl 1 rfl ?_
        refine z_callVM X (c_X4_eaterTelling l g a ft tr D E so lk kd st sp nd jv2 (by omega)) gX4_tell_X4_eaterTelling rfl ⟨rfl, rfl⟩ (by decide +kernel) ⟨Nat.le_of_ble_eq_true rfl, Nat.le_of_ble_eq_true rfl⟩ ZF.room (ci := 3) rfl 0 rfl rfl (As := [.int (nI jv2)]) (n := 1) rfl rfl (st1 := [.int (sp jv2)]) rfl (Nat.le_of_ble_eq_true rfl) dX4_tell_62 ?_
        have e7 : (if zin (nI jv2) E then telT (kd (tn (nI jv2))) tr else tr) = (nI 31 * tr + nI 1) := by simp [telI, telT, nI_12, nI_21, hq1, hc2, hq3, hq5]
        exact z_iret X ZF dX4_tell_65 (by simp [telI, telT, nI_12, nI_21, hq1, hc2, hq3, hq5]) (by rw [e7])
  ·
    refine z_iconst (v := (-1)) X dX4_tell_11 (by decide) ?_
    have e8 : (if zin x E then telT (kd (tn x)) tr else tr) = tr := by simp [telI, telT, nI_12, nI_21, hq1]
    exact z_iret X ZF dX4_tell_12 (by simp [telI, telT, nI_12, nI_21, hq1]) (by rw [e8])
abbrev rX4_sniff : Room := { frames := 2, cells := 0, slots := 0, locals := 42 }
set_option maxHeartbeats 4000000 in
set_option maxRecDepth 100000 in
theorem c_X4_sniff (l : Launch) (g : zg) (a : Nat → Nat) (ft : Int32) (tr : Int32) (D : Nat) (E : Nat) (so : Int32) (lk : Nat → Int32) (kd : Nat → Int32) (st : Nat → Int32) (sp : Nat → Int32) (nd : Nat → Int32) (x : Int32) (hE : E ≤ 4) : zM l g yX4_sniff wsX4_sniff rX4_sniff [.ref (a 0), .int x] (wO g a ft tr ++ (wD g a D E so lk kd st sp nd)) (some (.int (if zin x E then (if kd (tn x) = nI 2 then nI 40 else x) else -1))) (wO g a ft (if zin x E then nI 31 * tr + (if kd (tn x) = nI 2 then nI 5 else nI 4) else tr) ++ (wD g a D E so lk kd st sp nd)) := by
  refine z_met (own := RX4) (cc := cX4_sniff) (maxL := 2) (ret := some .int) (by decide +kernel) rfl rfl (Nat.le_of_ble_eq_true rfl) ?_
  intro M X ZF
  refine z_Le (L' := [(0, .ref (a 0)), (1, .int x)]) rfl ?_
  have i_RX4 : ∀ w ∈ wsX40, w ∈ wsX4_sniff := by decide +kernel
  have f_12 : Cond.fieldLink RX4 12 (TX4 0).1 (TX4 0).2.1 (TX4 0).2.2.1 ∈ wsX4_sniff := by decide +kernel
  refine z_aload_n X dX4_sniff_0 rfl 0 rfl ?_
  refine z_get (v := .ref (a 1)) (N := 5) X i_RX4 (ci := 3) rfl 0 rfl 0 (by decide) f_12 rfl dX4_sniff_1 ?_
  refine z_iload_n X dX4_sniff_4 rfl 1 rfl ?_
  refine z_callV X (c_X0_hasEater l g a D E so lk kd st sp nd x (by omega)) gX4_sniff_X0_hasEater rfl ⟨rfl, rfl⟩ (by decide +kernel) ⟨Nat.le_of_ble_eq_true rfl, Nat.le_of_ble_eq_true rfl⟩ ZF.room (ci := 0) rfl 1 rfl (isC := [1, 2, 3, 4, 5, 6]) (by decide) rfl rfl (ws' := (wO g a ft tr ++ (wD g a D E so lk kd st sp nd))) rfl (As := [.int x]) (n := 1) rfl rfl (st1 := [.int (bI (zin x E))]) rfl (Nat.le_of_ble_eq_true rfl) dX4_sniff_5 ?_
  refine z_if_neB (tgt := 13) X dX4_sniff_8 (by decide) (fun hq1 => ?_) (fun hq1 => ?_)
  ·
    obtain ⟨jv2, hj2, ej2⟩ := zin_t (by omega) hq1
    subst ej2
    have hc2 : tn (nI jv2) = jv2 := nI_clamp (by omega)
    refine z_aload_n X dX4_sniff_13 rfl 0 rfl ?_
    refine z_get (v := .ref (a 1)) (N := 5) X i_RX4 (ci := 3) rfl 0 rfl 0 (by decide) f_12 rfl dX4_sniff_14 ?_
    refine z_iload_n X dX4_sniff_17 rfl 1 rfl ?_
    refine z_callV X (c_X0_kindOf l g a D E so lk kd st sp nd jv2 (by omega)) gX4_sniff_X0_kindOf rfl ⟨rfl, rfl⟩ (by decide +kernel) ⟨Nat.le_of_ble_eq_true rfl, Nat.le_of_ble_eq_true rfl⟩ ZF.room (ci := 0) rfl 1 rfl (isC := [1, 2, 3, 4, 5, 6]) (by decide) rfl rfl (ws' := (wO g a ft tr ++ (wD g a D E so lk kd st sp nd))) rfl (As := [.int (nI jv2)]) (n := 1) rfl rfl (st1 := [.int (kd jv2)]) rfl (Nat.le_of_ble_eq_true rfl) dX4_sniff_18 ?_
    refine z_iconst (v := nI 2) X dX4_sniff_21 (by decide) ?_
    refine z_icmp_ne (tgt := 32) X dX4_sniff_22 (by decide) (fun hq3 => ?_) (fun hq3 => ?_)
    ·
      refine z_aload_n X dX4_sniff_32 rfl 0 rfl ?_
      refine z_iload_n X dX4_sniff_33 rfl 1 rfl ?_
      refine z_callV X (c_X4_lentSniffing l g a ft tr jv2) gX4_sniff_X4_lentSniffing rfl ⟨rfl, rfl⟩ (by decide +kernel) ⟨Nat.le_of_ble_eq_true rfl, Nat.le_of_ble_eq_true rfl⟩ ZF.room (ci := 3) rfl 0 rfl (isC := [0]) (by decide) rfl rfl (ws' := (wO g a ft (nI 31 * tr + nI 4) ++ (wD g a D E so lk kd st sp nd))) rfl (As := [.int (nI jv2)]) (n := 1) rfl rfl (st1 := [.int (nI jv2)]) rfl (Nat.le_of_ble_eq_true rfl) dX4_sniff_34 ?_
      have e4 : (if zin (nI jv2) E then nI 31 * tr + (if kd (tn (nI jv2)) = nI 2 then nI 5 else nI 4) else tr) = (nI 31 * tr + nI 4) := by simp [hq1, hc2, hq3]
      exact z_iret X ZF dX4_sniff_37 (by simp [hq1, hc2, hq3]) (by rw [e4])
    ·
      refine z_aload_n X dX4_sniff_25 rfl 0 rfl ?_
      refine z_callV X (c_X4_strangerSniffing l g a ft tr) gX4_sniff_X4_strangerSniffing rfl ⟨rfl, rfl⟩ (by decide +kernel) ⟨Nat.le_of_ble_eq_true rfl, Nat.le_of_ble_eq_true rfl⟩ ZF.room (ci := 3) rfl 0 rfl (isC := [0]) (by decide) rfl rfl (ws' := (wO g a ft (nI 31 * tr + nI 5) ++ (wD g a D E so lk kd st sp nd))) rfl (As := []) (n := 0) rfl rfl (st1 := [.int (nI 40)]) rfl (Nat.le_of_ble_eq_true rfl) dX4_sniff_26 ?_
      refine z_goto (tgt := 37) X dX4_sniff_29 (by decide) ?_
      have e5 : (if zin (nI jv2) E then nI 31 * tr + (if kd (tn (nI jv2)) = nI 2 then nI 5 else nI 4) else tr) = (nI 31 * tr + nI 5) := by simp [hq1, hc2, hq3]
      exact z_iret X ZF dX4_sniff_37 (by simp [hq1, hc2, hq3]) (by rw [e5])
  ·
    refine z_iconst (v := (-1)) X dX4_sniff_11 (by decide) ?_
    have e6 : (if zin x E then nI 31 * tr + (if kd (tn x) = nI 2 then nI 5 else nI 4) else tr) = tr := by simp [hq1]
    exact z_iret X ZF dX4_sniff_12 (by simp [hq1]) (by rw [e6])
abbrev rX4_as : Room := { frames := 2, cells := 0, slots := 0, locals := 42 }
set_option maxHeartbeats 4000000 in
set_option maxRecDepth 100000 in
theorem c_X4_as (l : Launch) (g : zg) (a : Nat → Nat) (ft : Int32) (tr : Int32) (D : Nat) (E : Nat) (so : Int32) (lk : Nat → Int32) (kd : Nat → Int32) (st : Nat → Int32) (sp : Nat → Int32) (nd : Nat → Int32) (x : Int32) (k : Int32) (hE : E ≤ 4) : zM l g yX4_as wsX4_as rX4_as [.ref (a 0), .int x, .int k] (wO g a ft tr ++ (wD g a D E so lk kd st sp nd)) (some (.int (if zin x E then (if zin k 3 then (if kd (tn x) < k then (-10) - nI 2 else nI 1) else -2) else -1))) (wO g a (if zin x E && zin k 3 && decide (kd (tn x) < k) then nI 2 else nI 0) tr ++ (wD g a D E so lk kd st sp nd)) := by
  refine z_met (own := RX4) (cc := cX4_as) (maxL := 3) (ret := some .int) (by decide +kernel) rfl rfl (Nat.le_of_ble_eq_true rfl) ?_
  intro M X ZF
  refine z_Le (L' := [(0, .ref (a 0)), (1, .int x), (2, .int k)]) rfl ?_
  have i_RX4 : ∀ w ∈ wsX40, w ∈ wsX4_as := by decide +kernel
  have f_32 : Cond.fieldLink RX4 32 (TX4 3).1 (TX4 3).2.1 (TX4 3).2.2.1 ∈ wsX4_as := by decide +kernel
  have f_12 : Cond.fieldLink RX4 12 (TX4 0).1 (TX4 0).2.1 (TX4 0).2.2.1 ∈ wsX4_as := by decide +kernel
  refine z_aload_n X dX4_as_0 rfl 0 rfl ?_
  refine z_iconst (v := nI 0) X dX4_as_1 (by decide) ?_
  refine z_put (ws' := (wO g a (nI 0) tr ++ (wD g a D E so lk kd st sp nd))) (N := 5) X i_RX4 (ci := 3) rfl tyX4 tyX4_ok nmX4 0 rfl 3 (by decide) f_32 rfl (ty := .int) (by decide +kernel) rfl rfl (Nat.le_of_ble_eq_true rfl) dX4_as_2 rfl ?_
  refine z_aload_n X dX4_as_5 rfl 0 rfl ?_
  refine z_get (v := .ref (a 1)) (N := 5) X i_RX4 (ci := 3) rfl 0 rfl 0 (by decide) f_12 rfl dX4_as_6 ?_
  refine z_iload_n X dX4_as_9 rfl 1 rfl ?_
  refine z_callV X (c_X0_hasEater l g a D E so lk kd st sp nd x (by omega)) gX4_as_X0_hasEater rfl ⟨rfl, rfl⟩ (by decide +kernel) ⟨Nat.le_of_ble_eq_true rfl, Nat.le_of_ble_eq_true rfl⟩ ZF.room (ci := 0) rfl 1 rfl (isC := [1, 2, 3, 4, 5, 6]) (by decide) rfl rfl (ws' := (wO g a (nI 0) tr ++ (wD g a D E so lk kd st sp nd))) rfl (As := [.int x]) (n := 1) rfl rfl (st1 := [.int (bI (zin x E))]) rfl (Nat.le_of_ble_eq_true rfl) dX4_as_10 ?_
  refine z_if_neB (tgt := 18) X dX4_as_13 (by decide) (fun hq1 => ?_) (fun hq1 => ?_)
  ·
    obtain ⟨jv2, hj2, ej2⟩ := zin_t (by omega) hq1
    subst ej2
    have hc2 : tn (nI jv2) = jv2 := nI_clamp (by omega)
    refine z_iload_n X dX4_as_18 rfl 2 rfl ?_
    refine z_iconst (v := nI 2) X dX4_as_19 (by decide) ?_
    refine z_callS0 X (c_X4_isFrom0To l g k 2 (by omega)) gX4_as_X4_isFrom0To rfl ⟨rfl, rfl⟩ (by decide +kernel) ⟨Nat.le_of_ble_eq_true rfl, Nat.le_of_ble_eq_true rfl⟩ ZF.room (As := [.int k, .int (nI 2)]) (n := 2) rfl rfl (st1 := [.int (bI (zin k (2 + 1)))]) rfl (Nat.le_of_ble_eq_true rfl) dX4_as_20 ?_
    refine z_if_neB (tgt := 29) X dX4_as_23 (by decide) (fun hq3 => ?_) (fun hq3 => ?_)
    ·
      obtain ⟨jv4, hj4, ej4⟩ := zin_t (by omega) hq3
      subst ej4
      have hc4 : tn (nI jv4) = jv4 := nI_clamp (by omega)
      refine z_aload_n X dX4_as_29 rfl 0 rfl ?_
      refine z_get (v := .ref (a 1)) (N := 5) X i_RX4 (ci := 3) rfl 0 rfl 0 (by decide) f_12 rfl dX4_as_30 ?_
      refine z_iload_n X dX4_as_33 rfl 1 rfl ?_
      refine z_callV X (c_X0_kindOf l g a D E so lk kd st sp nd jv2 (by omega)) gX4_as_X0_kindOf rfl ⟨rfl, rfl⟩ (by decide +kernel) ⟨Nat.le_of_ble_eq_true rfl, Nat.le_of_ble_eq_true rfl⟩ ZF.room (ci := 0) rfl 1 rfl (isC := [1, 2, 3, 4, 5, 6]) (by decide) rfl rfl (ws' := (wO g a (nI 0) tr ++ (wD g a D E so lk kd st sp nd))) rfl (As := [.int (nI jv2)]) (n := 1) rfl rfl (st1 := [.int (kd jv2)]) rfl (Nat.le_of_ble_eq_true rfl) dX4_as_34 ?_
      refine z_iload_n X dX4_as_37 rfl 2 rfl ?_
      refine z_icmp_lt (tgt := 45) X dX4_as_38 (by decide) (fun hq5 => ?_) (fun hq5 => ?_)
      ·
        refine z_aload_n X dX4_as_45 rfl 0 rfl ?_
        refine z_iconst (v := nI 2) X dX4_as_46 (by decide) ?_
        refine z_callV X (c_X4_faulted l g a (nI 0) tr (nI 2)) gX4_as_X4_faulted rfl ⟨rfl, rfl⟩ (by decide +kernel) ⟨Nat.le_of_ble_eq_true rfl, Nat.le_of_ble_eq_true rfl⟩ ZF.room (ci := 3) rfl 0 rfl (isC := [0]) (by decide) rfl rfl (ws' := (wO g a (nI 2) tr ++ (wD g a D E so lk kd st sp nd))) rfl (As := [.int (nI 2)]) (n := 1) rfl rfl (st1 := [.int ((-10) - (nI 2))]) rfl (Nat.le_of_ble_eq_true rfl) dX4_as_47 ?_
        have e6 : (if zin (nI jv2) E && zin (nI jv4) 3 && decide (kd (tn (nI jv2)) < (nI jv4)) then nI 2 else nI 0) = (nI 2) := by first | (simp [hq1, hc2, hq3, hc4, hq5]; done) | (simp [hq1, hc2, hq3, hc4, hq5]; decide)
        exact z_iret X ZF dX4_as_50 (by first | (simp [hq1, hc2, hq3, hc4, hq5]; done) | (simp [hq1, hc2, hq3, hc4, hq5]; decide)) (by rw [e6])
      ·
        refine z_iconst (v := nI 1) X dX4_as_41 (by decide) ?_
        refine z_goto (tgt := 50) X dX4_as_42 (by decide) ?_
        have e7 : (if zin (nI jv2) E && zin (nI jv4) 3 && decide (kd (tn (nI jv2)) < (nI jv4)) then nI 2 else nI 0) = (nI 0) := by first | (simp [hq1, hc2, hq3, hc4, hq5]; done) | (simp [hq1, hc2, hq3, hc4, hq5]; decide)
        exact z_iret X ZF dX4_as_50 (by first | (simp [hq1, hc2, hq3, hc4, hq5]; done) | (simp [hq1, hc2, hq3, hc4, hq5]; decide)) (by rw [e7])
    ·
      refine z_bipush (v := (-2)) X dX4_as_26 (by decide) ?_
      have e8 : (if zin (nI jv2) E && zin k 3 && decide (kd (tn (nI jv2)) < k) then nI 2 else nI 0) = (nI 0) := by first | (simp [hq1, hc2, hq3]; done) | (simp [hq1, hc2, hq3]; decide)
      exact z_iret X ZF dX4_as_28 (by first | (simp [hq1, hc2, hq3]; done) | (simp [hq1, hc2, hq3]; decide)) (by rw [e8])
  ·
    refine z_iconst (v := (-1)) X dX4_as_16 (by decide) ?_
    have e9 : (if zin x E && zin k 3 && decide (kd (tn x) < k) then nI 2 else nI 0) = (nI 0) := by first | (simp [hq1]; done) | (simp [hq1]; decide)
    exact z_iret X ZF dX4_as_17 (by first | (simp [hq1]; done) | (simp [hq1]; decide)) (by rw [e9])
abbrev rX4_trace : Room := { frames := 0, cells := 0, slots := 0, locals := 0 }
set_option maxHeartbeats 4000000 in
set_option maxRecDepth 100000 in
theorem c_X4_trace (l : Launch) (g : zg) (a : Nat → Nat) (ft : Int32) (tr : Int32) : zM l g yX4_trace wsX4_trace rX4_trace [.ref (a 0)] (wO g a ft tr) (some (.int tr)) (wO g a ft tr) := by
  refine z_met (own := RX4) (cc := cX4_trace) (maxL := 1) (ret := some .int) (by decide +kernel) rfl rfl (Nat.le_of_ble_eq_true rfl) ?_
  intro M X ZF
  refine z_Le (L' := [(0, .ref (a 0))]) rfl ?_
  have i_RX4 : ∀ w ∈ wsX40, w ∈ wsX4_trace := by decide +kernel
  have f_239 : Cond.fieldLink RX4 239 (TX4 4).1 (TX4 4).2.1 (TX4 4).2.2.1 ∈ wsX4_trace := by decide +kernel
  refine z_aload_n X dX4_trace_0 rfl 0 rfl ?_
  refine z_get (v := .int tr) (N := 5) X i_RX4 (ci := 3) rfl 0 rfl 4 (by decide) f_239 rfl dX4_trace_1 ?_
  exact z_iret X ZF dX4_trace_4 rfl rfl
abbrev rX4_fault : Room := { frames := 0, cells := 0, slots := 0, locals := 0 }
set_option maxHeartbeats 4000000 in
set_option maxRecDepth 100000 in
theorem c_X4_fault (l : Launch) (g : zg) (a : Nat → Nat) (ft : Int32) (tr : Int32) : zM l g yX4_fault wsX4_fault rX4_fault [.ref (a 0)] (wO g a ft tr) (some (.int ft)) (wO g a ft tr) := by
  refine z_met (own := RX4) (cc := cX4_fault) (maxL := 1) (ret := some .int) (by decide +kernel) rfl rfl (Nat.le_of_ble_eq_true rfl) ?_
  intro M X ZF
  refine z_Le (L' := [(0, .ref (a 0))]) rfl ?_
  have i_RX4 : ∀ w ∈ wsX40, w ∈ wsX4_fault := by decide +kernel
  have f_32 : Cond.fieldLink RX4 32 (TX4 3).1 (TX4 3).2.1 (TX4 3).2.2.1 ∈ wsX4_fault := by decide +kernel
  refine z_aload_n X dX4_fault_0 rfl 0 rfl ?_
  refine z_get (v := .int ft) (N := 5) X i_RX4 (ci := 3) rfl 0 rfl 3 (by decide) f_32 rfl dX4_fault_1 ?_
  exact z_iret X ZF dX4_fault_4 rfl rfl
abbrev rX4_many : Room := { frames := 1, cells := 0, slots := 0, locals := 20 }
set_option maxHeartbeats 4000000 in
set_option maxRecDepth 100000 in
theorem c_X4_many (l : Launch) (g : zg) (a : Nat → Nat) (ft : Int32) (tr : Int32) (D : Nat) (E : Nat) (so : Int32) (lk : Nat → Int32) (kd : Nat → Int32) (st : Nat → Int32) (sp : Nat → Int32) (nd : Nat → Int32) (C : Nat) (rO : Nat → Int32) (rB : Nat → Int32) (rD : Nat → Int32) (rW : Nat → Int32) (w : Int32) : zM l g yX4_many wsX4_many rX4_many [.ref (a 0), .int w] (wO g a ft tr ++ (wD g a D E so lk kd st sp nd ++ (wR g a C rO rB rD rW))) (some (.int (if w = nI 0 then nI E else if w = nI 1 then nI D else if w = nI 2 then so else if w = nI 3 then nI C else -2))) (wO g a ft tr ++ (wD g a D E so lk kd st sp nd ++ (wR g a C rO rB rD rW))) := by
  refine z_met (own := RX4) (cc := cX4_many) (maxL := 2) (ret := some .int) (by decide +kernel) rfl rfl (Nat.le_of_ble_eq_true rfl) ?_
  intro M X ZF
  refine z_Le (L' := [(0, .ref (a 0)), (1, .int w)]) rfl ?_
  have i_RX4 : ∀ w ∈ wsX40, w ∈ wsX4_many := by decide +kernel
  have f_12 : Cond.fieldLink RX4 12 (TX4 0).1 (TX4 0).2.1 (TX4 0).2.2.1 ∈ wsX4_many := by decide +kernel
  have f_21 : Cond.fieldLink RX4 21 (TX4 1).1 (TX4 1).2.1 (TX4 1).2.2.1 ∈ wsX4_many := by decide +kernel
  refine z_iload_n X dX4_many_0 rfl 1 rfl ?_
  by_cases hq1 : w = nI 0
  ·
    subst hq1
    refine z_tableIn (off := 31) (tgt := 32) X dX4_many_1 (by decide +kernel) (by decide +kernel) (by decide +kernel) (by decide) ?_
    refine z_aload_n X dX4_many_32 rfl 0 rfl ?_
    refine z_get (v := .ref (a 1)) (N := 5) X i_RX4 (ci := 3) rfl 0 rfl 0 (by decide) f_12 rfl dX4_many_33 ?_
    refine z_callV X (c_X0_eaterCount l g a D E so lk kd st sp nd) gX4_many_X0_eaterCount rfl ⟨rfl, rfl⟩ (by decide +kernel) ⟨Nat.le_of_ble_eq_true rfl, Nat.le_of_ble_eq_true rfl⟩ ZF.room (ci := 0) rfl 1 rfl (isC := [1, 2, 3, 4, 5, 6]) (by decide) rfl rfl (ws' := (wO g a ft tr ++ (wD g a D E so lk kd st sp nd ++ (wR g a C rO rB rD rW)))) rfl (As := []) (n := 0) rfl rfl (st1 := [.int (nI E)]) rfl (Nat.le_of_ble_eq_true rfl) dX4_many_36 ?_
    exact z_iret X ZF dX4_many_39 (by simp [nI_inj5, ]) rfl
  ·
    by_cases hq2 : w = nI 1
    ·
      subst hq2
      refine z_tableIn (off := 39) (tgt := 40) X dX4_many_1 (by decide +kernel) (by decide +kernel) (by decide +kernel) (by decide) ?_
      refine z_aload_n X dX4_many_40 rfl 0 rfl ?_
      refine z_get (v := .ref (a 1)) (N := 5) X i_RX4 (ci := 3) rfl 0 rfl 0 (by decide) f_12 rfl dX4_many_41 ?_
      refine z_callV X (c_X0_dayCount l g a D E so lk kd st sp nd) gX4_many_X0_dayCount rfl ⟨rfl, rfl⟩ (by decide +kernel) ⟨Nat.le_of_ble_eq_true rfl, Nat.le_of_ble_eq_true rfl⟩ ZF.room (ci := 0) rfl 1 rfl (isC := [1, 2, 3, 4, 5, 6]) (by decide) rfl rfl (ws' := (wO g a ft tr ++ (wD g a D E so lk kd st sp nd ++ (wR g a C rO rB rD rW)))) rfl (As := []) (n := 0) rfl rfl (st1 := [.int (nI D)]) rfl (Nat.le_of_ble_eq_true rfl) dX4_many_44 ?_
      exact z_iret X ZF dX4_many_47 (by simp [nI_inj5, hq1]) rfl
    ·
      by_cases hq3 : w = nI 2
      ·
        subst hq3
        refine z_tableIn (off := 47) (tgt := 48) X dX4_many_1 (by decide +kernel) (by decide +kernel) (by decide +kernel) (by decide) ?_
        refine z_aload_n X dX4_many_48 rfl 0 rfl ?_
        refine z_get (v := .ref (a 1)) (N := 5) X i_RX4 (ci := 3) rfl 0 rfl 0 (by decide) f_12 rfl dX4_many_49 ?_
        refine z_callV X (c_X0_sourLook l g a D E so lk kd st sp nd) gX4_many_X0_sourLook rfl ⟨rfl, rfl⟩ (by decide +kernel) ⟨Nat.le_of_ble_eq_true rfl, Nat.le_of_ble_eq_true rfl⟩ ZF.room (ci := 0) rfl 1 rfl (isC := [1, 2, 3, 4, 5, 6]) (by decide) rfl rfl (ws' := (wO g a ft tr ++ (wD g a D E so lk kd st sp nd ++ (wR g a C rO rB rD rW)))) rfl (As := []) (n := 0) rfl rfl (st1 := [.int so]) rfl (Nat.le_of_ble_eq_true rfl) dX4_many_52 ?_
        exact z_iret X ZF dX4_many_55 (by simp [nI_inj5, hq1, hq2]) rfl
      ·
        by_cases hq4 : w = nI 3
        ·
          subst hq4
          refine z_tableIn (off := 55) (tgt := 56) X dX4_many_1 (by decide +kernel) (by decide +kernel) (by decide +kernel) (by decide) ?_
          refine z_aload_n X dX4_many_56 rfl 0 rfl ?_
          refine z_get (v := .ref (a 7)) (N := 5) X i_RX4 (ci := 3) rfl 0 rfl 1 (by decide) f_21 rfl dX4_many_57 ?_
          refine z_callV X (c_X1_keptCount l g a C rO rB rD rW) gX4_many_X1_keptCount rfl ⟨rfl, rfl⟩ (by decide +kernel) ⟨Nat.le_of_ble_eq_true rfl, Nat.le_of_ble_eq_true rfl⟩ ZF.room (ci := 1) rfl 7 rfl (isC := [7, 8, 9, 10, 11]) (by decide) rfl rfl (ws' := (wO g a ft tr ++ (wD g a D E so lk kd st sp nd ++ (wR g a C rO rB rD rW)))) rfl (As := []) (n := 0) rfl rfl (st1 := [.int (nI C)]) rfl (Nat.le_of_ble_eq_true rfl) dX4_many_60 ?_
          exact z_iret X ZF dX4_many_63 (by simp [nI_inj5, hq1, hq2, hq3]) rfl
        ·
          refine z_tableOut (tgt := 64) X dX4_many_1 (by have := lv_neT (k := nI 0) (a := 0) hq1 (by decide +kernel); have := lv_neT (k := nI 1) (a := 1) hq2 (by decide +kernel); have := lv_neT (k := nI 2) (a := 2) hq3 (by decide +kernel); have := lv_neT (k := nI 3) (a := 3) hq4 (by decide +kernel); omega) (by decide) ?_
          refine z_bipush (v := (-2)) X dX4_many_64 (by decide) ?_
          exact z_iret X ZF dX4_many_66 (by simp [nI_inj5, hq1, hq2, hq3, hq4]) rfl
