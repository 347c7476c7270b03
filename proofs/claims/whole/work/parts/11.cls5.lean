abbrev rX4_duchy_0 : Room := { frames := 4, cells := 0, slots := 0, locals := 92 }
set_option maxHeartbeats 4000000 in
set_option maxRecDepth 100000 in
theorem c_X4_duchy_0 (l : Launch) (g : zg) (a : Nat → Nat) (ft : Int32) (tr : Int32) (D : Nat) (E : Nat) (so : Int32) (lk : Nat → Int32) (kd : Nat → Int32) (st : Nat → Int32) (sp : Nat → Int32) (nd : Nat → Int32) (C : Nat) (rO : Nat → Int32) (rB : Nat → Int32) (rD : Nat → Int32) (rW : Nat → Int32) (lnF : Nat → Int32) (leF : Nat → Int32) (ceF : Nat → Nat → Int32) (lane : Int32) (i : Int32) (n : Int32) (hle : vle (leF 0)) (hE : E ≤ 4) : zM l g yX4_duchy wsX4_duchy rX4_duchy_0 [.ref (a 0), .int (nI 0), .int lane, .int i, .int n] (wO g a ft tr ++ (wD g a D E so lk kd st sp nd ++ (wR g a C rO rB rD rW ++ (wH g a ++ (wS g (a 13) (a 14) (lnF 0) (leF 0) (ceF 0)))))) (some (.int (dur lane (foc (lnF 0) (leF 0) lane i n) (frun (ceF 0) (tn i) (tn n) 0 0 0 0) (tea (tn n) (tdy (ceF 0) (tn i) (tn n)))))) (wO g a (if zin lane 3 then foc (lnF 0) (leF 0) lane i n else nI 0) tr ++ (wD g a (if duk lane (foc (lnF 0) (leF 0) lane i n) (frun (ceF 0) (tn i) (tn n) 0 0 0 0) then (tdy (ceF 0) (tn i) (tn n)) else D) (if duk lane (foc (lnF 0) (leF 0) lane i n) (frun (ceF 0) (tn i) (tn n) 0 0 0 0) then (tea (tn n) (tdy (ceF 0) (tn i) (tn n))) else E) (if duk lane (foc (lnF 0) (leF 0) lane i n) (frun (ceF 0) (tn i) (tn n) 0 0 0 0) then ceF 0 (tn i + 1) - nI 48 else so) (if duk lane (foc (lnF 0) (leF 0) lane i n) (frun (ceF 0) (tn i) (tn n) 0 0 0 0) then tlk (ceF 0) (tn i) lk (tdy (ceF 0) (tn i) (tn n)) else lk) (if duk lane (foc (lnF 0) (leF 0) lane i n) (frun (ceF 0) (tn i) (tn n) 0 0 0 0) then tkd (ceF 0) (tn i) (3 + (tdy (ceF 0) (tn i) (tn n))) kd (tea (tn n) (tdy (ceF 0) (tn i) (tn n))) else kd) (if duk lane (foc (lnF 0) (leF 0) lane i n) (frun (ceF 0) (tn i) (tn n) 0 0 0 0) then tst (ceF 0) (tn i) (3 + (tdy (ceF 0) (tn i) (tn n))) 2 st (tea (tn n) (tdy (ceF 0) (tn i) (tn n))) else st) (if duk lane (foc (lnF 0) (leF 0) lane i n) (frun (ceF 0) (tn i) (tn n) 0 0 0 0) then tst (ceF 0) (tn i) (3 + (tdy (ceF 0) (tn i) (tn n))) 3 sp (tea (tn n) (tdy (ceF 0) (tn i) (tn n))) else sp) (if duk lane (foc (lnF 0) (leF 0) lane i n) (frun (ceF 0) (tn i) (tn n) 0 0 0 0) then tst (ceF 0) (tn i) (3 + (tdy (ceF 0) (tn i) (tn n))) 4 nd (tea (tn n) (tdy (ceF 0) (tn i) (tn n))) else nd) ++ (wR g a (if duk lane (foc (lnF 0) (leF 0) lane i n) (frun (ceF 0) (tn i) (tn n) 0 0 0 0) then 0 else C) rO rB rD rW ++ (wH g a ++ (wS g (a 13) (a 14) (lnF 0) (leF 0) (ceF 0)))))) := by
  refine z_met (own := RX4) (cc := cX4_duchy) (maxL := 8) (ret := some .int) (by decide +kernel) rfl rfl (Nat.le_of_ble_eq_true rfl) ?_
  intro M X ZF
  refine z_Le (L' := [(0, .ref (a 0)), (1, .int (nI 0)), (2, .int lane), (3, .int i), (4, .int n)]) rfl ?_
  have i_RX4 : ∀ w ∈ wsX40, w ∈ wsX4_duchy := by decide +kernel
  have f_32 : Cond.fieldLink RX4 32 (TX4 3).1 (TX4 3).2.1 (TX4 3).2.2.1 ∈ wsX4_duchy := by decide +kernel
  have f_12 : Cond.fieldLink RX4 12 (TX4 0).1 (TX4 0).2.1 (TX4 0).2.2.1 ∈ wsX4_duchy := by decide +kernel
  have f_21 : Cond.fieldLink RX4 21 (TX4 1).1 (TX4 1).2.1 (TX4 1).2.2.1 ∈ wsX4_duchy := by decide +kernel
  refine z_aload_n X dX4_duchy_0 rfl 0 rfl ?_
  refine z_iconst (v := nI 0) X dX4_duchy_1 (by decide) ?_
  refine z_put (ws' := (wO g a (nI 0) tr ++ (wD g a D E so lk kd st sp nd ++ (wR g a C rO rB rD rW ++ (wH g a ++ (wS g (a 13) (a 14) (lnF 0) (leF 0) (ceF 0))))))) (N := 5) X i_RX4 (ci := 3) rfl tyX4 tyX4_ok nmX4 0 rfl 3 (by decide) f_32 rfl (ty := .int) (by decide +kernel) rfl rfl (Nat.le_of_ble_eq_true rfl) dX4_duchy_2 rfl ?_
  refine z_aload_n X dX4_duchy_5 rfl 0 rfl ?_
  refine z_iload_n X dX4_duchy_6 rfl 1 rfl ?_
  refine z_callV X (c_X4_sheetAt_in l g a (nI 0) tr 0 (by omega)) gX4_duchy_X4_sheetAt rfl ⟨rfl, rfl⟩ (by decide +kernel) ⟨Nat.le_of_ble_eq_true rfl, Nat.le_of_ble_eq_true rfl⟩ ZF.room (ci := 3) rfl 0 rfl (isC := [0, 12]) (by decide) rfl rfl (ws' := (wO g a (nI 0) tr ++ (wD g a D E so lk kd st sp nd ++ (wR g a C rO rB rD rW ++ (wH g a ++ (wS g (a 13) (a 14) (lnF 0) (leF 0) (ceF 0))))))) rfl (As := [.int (nI 0)]) (n := 1) rfl rfl (st1 := [.ref (a 13)]) rfl (Nat.le_of_ble_eq_true rfl) dX4_duchy_7 ?_
  refine z_astore (L' := [(5, .ref (a 13)), (0, .ref (a 0)), (1, .int (nI 0)), (2, .int lane), (3, .int i), (4, .int n)]) X dX4_duchy_10 (by decide) rfl ?_
  refine z_aload X dX4_duchy_12 0 rfl ?_
  refine z_ifnonnull (tgt := 19) X dX4_duchy_14 (by decide) ?_
  refine z_iload_n X dX4_duchy_19 rfl 3 rfl ?_
  refine z_callS0 X (c_X4_isLane l g lane) gX4_duchy_X4_isLane rfl ⟨rfl, rfl⟩ (by decide +kernel) ⟨Nat.le_of_ble_eq_true rfl, Nat.le_of_ble_eq_true rfl⟩ ZF.room (As := [.int lane]) (n := 1) rfl rfl (st1 := [.int (bI (zin lane 3))]) rfl (Nat.le_of_ble_eq_true rfl) dX4_duchy_20 ?_
  refine z_if_neB (tgt := 29) X dX4_duchy_23 (by decide) (fun hq1 => ?_) (fun hq1 => ?_)
  ·
    obtain ⟨jv2, hj2, ej2⟩ := zin_t (by omega) hq1
    subst ej2
    have hc2 : tn (nI jv2) = jv2 := nI_clamp (by omega)
    refine z_aload X dX4_duchy_29 0 rfl ?_
    refine z_iload_n X dX4_duchy_31 rfl 3 rfl ?_
    refine z_iload_n X dX4_duchy_32 rfl 4 rfl ?_
    refine z_iload X dX4_duchy_33 5 rfl ?_
    refine z_callV X (c_X2_faultOfCells l g (a 13) (a 14) (lnF 0) (leF 0) (ceF 0) (nI jv2) i n) gX4_duchy_X2_faultOfCells rfl ⟨rfl, rfl⟩ (by decide +kernel) ⟨Nat.le_of_ble_eq_true rfl, Nat.le_of_ble_eq_true rfl⟩ ZF.room (ci := 2) rfl 13 rfl (isC := [13, 14]) (by decide) rfl rfl (ws' := (wO g a (nI 0) tr ++ (wD g a D E so lk kd st sp nd ++ (wR g a C rO rB rD rW ++ (wH g a ++ (wS g (a 13) (a 14) (lnF 0) (leF 0) (ceF 0))))))) rfl (As := [.int (nI jv2), .int i, .int n]) (n := 3) rfl rfl (st1 := [.int (foc (lnF 0) (leF 0) (nI jv2) i n)]) rfl (Nat.le_of_ble_eq_true rfl) dX4_duchy_35 ?_
    refine z_istore (L' := [(6, .int (foc (lnF 0) (leF 0) (nI jv2) i n)), (5, .ref (a 13)), (0, .ref (a 0)), (1, .int (nI 0)), (2, .int (nI jv2)), (3, .int i), (4, .int n)]) X dX4_duchy_38 (by decide) rfl ?_
    refine z_iload X dX4_duchy_40 0 rfl ?_
    refine z_if_eq (tgt := 52) X dX4_duchy_42 (by decide) (fun hq3 => ?_) (fun hq3 => ?_)
    ·
      obtain ⟨i_a, n_a, ei_a, en_a, hin_a, m_a, hm_a, him_a⟩ := foc0 hle hq3
      subst ei_a; subst en_a
      have hti_a : tn (nI i_a) = i_a := nI_clamp (by omega)
      have htn_a : tn (nI n_a) = n_a := nI_clamp (by omega)
      refine z_aload X dX4_duchy_52 1 rfl ?_
      refine z_iload_n X dX4_duchy_54 rfl 5 rfl ?_
      refine z_iload X dX4_duchy_55 6 rfl ?_
      refine z_callS X (c_X3_firstFault l g (a 13) (a 14) (lnF 0) (leF 0) (ceF 0) i_a n_a (by omega)) gX4_duchy_X3_firstFault rfl ⟨rfl, rfl⟩ (by decide +kernel) ⟨Nat.le_of_ble_eq_true rfl, Nat.le_of_ble_eq_true rfl⟩ ZF.room (isC := [13, 14]) (by decide) rfl rfl (ws' := (wO g a (nI 0) tr ++ (wD g a D E so lk kd st sp nd ++ (wR g a C rO rB rD rW ++ (wH g a ++ (wS g (a 13) (a 14) (lnF 0) (leF 0) (ceF 0))))))) rfl (As := [.ref (a 13), .int (nI i_a), .int (nI n_a)]) (n := 3) rfl rfl (st1 := [.int (frun (ceF 0) i_a n_a 0 0 0 0)]) rfl (Nat.le_of_ble_eq_true rfl) dX4_duchy_57 ?_
      refine z_istore (L' := [(7, .int (frun (ceF 0) i_a n_a 0 0 0 0)), (6, .int (foc (lnF 0) (leF 0) (nI jv2) (nI i_a) (nI n_a))), (5, .ref (a 13)), (0, .ref (a 0)), (1, .int (nI 0)), (2, .int (nI jv2)), (3, .int (nI i_a)), (4, .int (nI n_a))]) X dX4_duchy_60 (by decide) rfl ?_
      refine z_iload X dX4_duchy_62 0 rfl ?_
      refine z_iconst (v := (-1)) X dX4_duchy_64 (by decide) ?_
      refine z_icmp_eq (tgt := 74) X dX4_duchy_65 (by decide) (fun hq4 => ?_) (fun hq4 => ?_)
      ·
        refine z_aload_n X dX4_duchy_74 rfl 3 rfl ?_
        refine z_get (v := .ref (a 1)) (N := 5) X i_RX4 (ci := 3) rfl 0 rfl 0 (by decide) f_12 rfl dX4_duchy_75 ?_
        refine z_aload X dX4_duchy_78 2 rfl ?_
        refine z_iload_n X dX4_duchy_80 rfl 6 rfl ?_
        refine z_iload X dX4_duchy_81 7 rfl ?_
        refine z_callV X (c_X0_takeText l g a (a 13) (a 14) D E so lk kd st sp nd (lnF 0) (leF 0) (ceF 0) i_a n_a (by omega) (frun_2 hq4)) gX4_duchy_X0_takeText rfl ⟨rfl, rfl⟩ (by decide +kernel) ⟨Nat.le_of_ble_eq_true rfl, Nat.le_of_ble_eq_true rfl⟩ ZF.room (ci := 0) rfl 1 rfl (isC := [1, 2, 3, 4, 5, 6, 13, 14]) (by decide) rfl rfl (ws' := (wO g a (nI 0) tr ++ (wD g a (tdy (ceF 0) i_a n_a) (tea n_a (tdy (ceF 0) i_a n_a)) ((ceF 0) (i_a + 1) - nI 48) (tlk (ceF 0) i_a lk (tdy (ceF 0) i_a n_a)) (tkd (ceF 0) i_a (3 + tdy (ceF 0) i_a n_a) kd (tea n_a (tdy (ceF 0) i_a n_a))) (tst (ceF 0) i_a (3 + tdy (ceF 0) i_a n_a) 2 st (tea n_a (tdy (ceF 0) i_a n_a))) (tst (ceF 0) i_a (3 + tdy (ceF 0) i_a n_a) 3 sp (tea n_a (tdy (ceF 0) i_a n_a))) (tst (ceF 0) i_a (3 + tdy (ceF 0) i_a n_a) 4 nd (tea n_a (tdy (ceF 0) i_a n_a))) ++ (wR g a C rO rB rD rW ++ (wH g a ++ (wS g (a 13) (a 14) (lnF 0) (leF 0) (ceF 0))))))) rfl (As := [.ref (a 13), .int (nI i_a), .int (nI n_a)]) (n := 3) rfl rfl (st1 := []) rfl (Nat.le_of_ble_eq_true rfl) dX4_duchy_83 ?_
        refine z_aload_n X dX4_duchy_86 rfl 3 rfl ?_
        refine z_get (v := .ref (a 7)) (N := 5) X i_RX4 (ci := 3) rfl 0 rfl 1 (by decide) f_21 rfl dX4_duchy_87 ?_
        refine z_callV X (c_X1_dropAll l g a C rO rB rD rW) gX4_duchy_X1_dropAll rfl ⟨rfl, rfl⟩ (by decide +kernel) ⟨Nat.le_of_ble_eq_true rfl, Nat.le_of_ble_eq_true rfl⟩ ZF.room (ci := 1) rfl 7 rfl (isC := [7, 8, 9, 10, 11]) (by decide) rfl rfl (ws' := (wO g a (nI 0) tr ++ (wD g a (tdy (ceF 0) i_a n_a) (tea n_a (tdy (ceF 0) i_a n_a)) ((ceF 0) (i_a + 1) - nI 48) (tlk (ceF 0) i_a lk (tdy (ceF 0) i_a n_a)) (tkd (ceF 0) i_a (3 + tdy (ceF 0) i_a n_a) kd (tea n_a (tdy (ceF 0) i_a n_a))) (tst (ceF 0) i_a (3 + tdy (ceF 0) i_a n_a) 2 st (tea n_a (tdy (ceF 0) i_a n_a))) (tst (ceF 0) i_a (3 + tdy (ceF 0) i_a n_a) 3 sp (tea n_a (tdy (ceF 0) i_a n_a))) (tst (ceF 0) i_a (3 + tdy (ceF 0) i_a n_a) 4 nd (tea n_a (tdy (ceF 0) i_a n_a))) ++ (wR g a 0 rO rB rD rW ++ (wH g a ++ (wS g (a 13) (a 14) (lnF 0) (leF 0) (ceF 0))))))) rfl (As := []) (n := 0) rfl rfl (st1 := []) rfl (Nat.le_of_ble_eq_true rfl) dX4_duchy_90 ?_
        refine z_aload_n X dX4_duchy_93 rfl 3 rfl ?_
        refine z_get (v := .ref (a 1)) (N := 5) X i_RX4 (ci := 3) rfl 0 rfl 0 (by decide) f_12 rfl dX4_duchy_94 ?_
        refine z_callV X (c_X0_eaterCount l g a (tdy (ceF 0) i_a n_a) (tea n_a (tdy (ceF 0) i_a n_a)) ((ceF 0) (i_a + 1) - nI 48) (tlk (ceF 0) i_a lk (tdy (ceF 0) i_a n_a)) (tkd (ceF 0) i_a (3 + tdy (ceF 0) i_a n_a) kd (tea n_a (tdy (ceF 0) i_a n_a))) (tst (ceF 0) i_a (3 + tdy (ceF 0) i_a n_a) 2 st (tea n_a (tdy (ceF 0) i_a n_a))) (tst (ceF 0) i_a (3 + tdy (ceF 0) i_a n_a) 3 sp (tea n_a (tdy (ceF 0) i_a n_a))) (tst (ceF 0) i_a (3 + tdy (ceF 0) i_a n_a) 4 nd (tea n_a (tdy (ceF 0) i_a n_a)))) gX4_duchy_X0_eaterCount rfl ⟨rfl, rfl⟩ (by decide +kernel) ⟨Nat.le_of_ble_eq_true rfl, Nat.le_of_ble_eq_true rfl⟩ ZF.room (ci := 0) rfl 1 rfl (isC := [1, 2, 3, 4, 5, 6]) (by decide) rfl rfl (ws' := (wO g a (nI 0) tr ++ (wD g a (tdy (ceF 0) i_a n_a) (tea n_a (tdy (ceF 0) i_a n_a)) ((ceF 0) (i_a + 1) - nI 48) (tlk (ceF 0) i_a lk (tdy (ceF 0) i_a n_a)) (tkd (ceF 0) i_a (3 + tdy (ceF 0) i_a n_a) kd (tea n_a (tdy (ceF 0) i_a n_a))) (tst (ceF 0) i_a (3 + tdy (ceF 0) i_a n_a) 2 st (tea n_a (tdy (ceF 0) i_a n_a))) (tst (ceF 0) i_a (3 + tdy (ceF 0) i_a n_a) 3 sp (tea n_a (tdy (ceF 0) i_a n_a))) (tst (ceF 0) i_a (3 + tdy (ceF 0) i_a n_a) 4 nd (tea n_a (tdy (ceF 0) i_a n_a))) ++ (wR g a 0 rO rB rD rW ++ (wH g a ++ (wS g (a 13) (a 14) (lnF 0) (leF 0) (ceF 0))))))) rfl (As := []) (n := 0) rfl rfl (st1 := [.int (nI (tea n_a (tdy (ceF 0) i_a n_a)))]) rfl (Nat.le_of_ble_eq_true rfl) dX4_duchy_97 ?_
        have e5 : (if zin (nI jv2) 3 then foc (lnF 0) (leF 0) (nI jv2) (nI i_a) (nI n_a) else nI 0) = (nI 0) := by simp [dur, duk, nI_0, hq1, hc2, hq3, hti_a, htn_a, hq4]
        have e6 : (if duk (nI jv2) (foc (lnF 0) (leF 0) (nI jv2) (nI i_a) (nI n_a)) (frun (ceF 0) (tn (nI i_a)) (tn (nI n_a)) 0 0 0 0) then (tdy (ceF 0) (tn (nI i_a)) (tn (nI n_a))) else D) = (tdy (ceF 0) i_a n_a) := by simp [dur, duk, nI_0, hq1, hc2, hq3, hti_a, htn_a, hq4]
        have e7 : (if duk (nI jv2) (foc (lnF 0) (leF 0) (nI jv2) (nI i_a) (nI n_a)) (frun (ceF 0) (tn (nI i_a)) (tn (nI n_a)) 0 0 0 0) then (tea (tn (nI n_a)) (tdy (ceF 0) (tn (nI i_a)) (tn (nI n_a)))) else E) = (tea n_a (tdy (ceF 0) i_a n_a)) := by simp [dur, duk, nI_0, hq1, hc2, hq3, hti_a, htn_a, hq4]
        have e8 : (if duk (nI jv2) (foc (lnF 0) (leF 0) (nI jv2) (nI i_a) (nI n_a)) (frun (ceF 0) (tn (nI i_a)) (tn (nI n_a)) 0 0 0 0) then ceF 0 (tn (nI i_a) + 1) - nI 48 else so) = ((ceF 0) (i_a + 1) - nI 48) := by simp [dur, duk, nI_0, hq1, hc2, hq3, hti_a, htn_a, hq4]
        have e9 : (if duk (nI jv2) (foc (lnF 0) (leF 0) (nI jv2) (nI i_a) (nI n_a)) (frun (ceF 0) (tn (nI i_a)) (tn (nI n_a)) 0 0 0 0) then tlk (ceF 0) (tn (nI i_a)) lk (tdy (ceF 0) (tn (nI i_a)) (tn (nI n_a))) else lk) = (tlk (ceF 0) i_a lk (tdy (ceF 0) i_a n_a)) := by simp [dur, duk, nI_0, hq1, hc2, hq3, hti_a, htn_a, hq4]
        have e10 : (if duk (nI jv2) (foc (lnF 0) (leF 0) (nI jv2) (nI i_a) (nI n_a)) (frun (ceF 0) (tn (nI i_a)) (tn (nI n_a)) 0 0 0 0) then tkd (ceF 0) (tn (nI i_a)) (3 + (tdy (ceF 0) (tn (nI i_a)) (tn (nI n_a)))) kd (tea (tn (nI n_a)) (tdy (ceF 0) (tn (nI i_a)) (tn (nI n_a)))) else kd) = (tkd (ceF 0) i_a (3 + tdy (ceF 0) i_a n_a) kd (tea n_a (tdy (ceF 0) i_a n_a))) := by simp [dur, duk, nI_0, hq1, hc2, hq3, hti_a, htn_a, hq4]
        have e11 : (if duk (nI jv2) (foc (lnF 0) (leF 0) (nI jv2) (nI i_a) (nI n_a)) (frun (ceF 0) (tn (nI i_a)) (tn (nI n_a)) 0 0 0 0) then tst (ceF 0) (tn (nI i_a)) (3 + (tdy (ceF 0) (tn (nI i_a)) (tn (nI n_a)))) 2 st (tea (tn (nI n_a)) (tdy (ceF 0) (tn (nI i_a)) (tn (nI n_a)))) else st) = (tst (ceF 0) i_a (3 + tdy (ceF 0) i_a n_a) 2 st (tea n_a (tdy (ceF 0) i_a n_a))) := by simp [dur, duk, nI_0, hq1, hc2, hq3, hti_a, htn_a, hq4]
        have e12 : (if duk (nI jv2) (foc (lnF 0) (leF 0) (nI jv2) (nI i_a) (nI n_a)) (frun (ceF 0) (tn (nI i_a)) (tn (nI n_a)) 0 0 0 0) then tst (ceF 0) (tn (nI i_a)) (3 + (tdy (ceF 0) (tn (nI i_a)) (tn (nI n_a)))) 3 sp (tea (tn (nI n_a)) (tdy (ceF 0) (tn (nI i_a)) (tn (nI n_a)))) else sp) = (tst (ceF 0) i_a (3 + tdy (ceF 0) i_a n_a) 3 sp (tea n_a (tdy (ceF 0) i_a n_a))) := by simp [dur, duk, nI_0, hq1, hc2, hq3, hti_a, htn_a, hq4]
        have e13 : (if duk (nI jv2) (foc (lnF 0) (leF 0) (nI jv2) (nI i_a) (nI n_a)) (frun (ceF 0) (tn (nI i_a)) (tn (nI n_a)) 0 0 0 0) then tst (ceF 0) (tn (nI i_a)) (3 + (tdy (ceF 0) (tn (nI i_a)) (tn (nI n_a)))) 4 nd (tea (tn (nI n_a)) (tdy (ceF 0) (tn (nI i_a)) (tn (nI n_a)))) else nd) = (tst (ceF 0) i_a (3 + tdy (ceF 0) i_a n_a) 4 nd (tea n_a (tdy (ceF 0) i_a n_a))) := by simp [dur, duk, nI_0, hq1, hc2, hq3, hti_a, htn_a, hq4]
        have e14 : (if duk (nI jv2) (foc (lnF 0) (leF 0) (nI jv2) (nI i_a) (nI n_a)) (frun (ceF 0) (tn (nI i_a)) (tn (nI n_a)) 0 0 0 0) then 0 else C) = 0 := by simp [dur, duk, nI_0, hq1, hc2, hq3, hti_a, htn_a, hq4]
        exact z_iret X ZF dX4_duchy_100 (by simp [dur, duk, nI_0, hq1, hc2, hq3, hti_a, htn_a, hq4]) (by first | rw [e14, e13, e12, e11, e10, e9, e8, e7, e6, e5] | (simp only [e14, e13, e12, e11, e10, e9, e8, e7, e6, e5]))
      ·
        refine z_bipush (v := (-100)) X dX4_duchy_68 (by decide) ?_
        refine z_iload X dX4_duchy_70 0 rfl ?_
        refine z_isub X dX4_duchy_72 ?_
        have e15 : (if zin (nI jv2) 3 then foc (lnF 0) (leF 0) (nI jv2) (nI i_a) (nI n_a) else nI 0) = (nI 0) := by simp [dur, duk, nI_0, hq1, hc2, hq3, hti_a, htn_a, hq4]
        have e16 : (if duk (nI jv2) (foc (lnF 0) (leF 0) (nI jv2) (nI i_a) (nI n_a)) (frun (ceF 0) (tn (nI i_a)) (tn (nI n_a)) 0 0 0 0) then (tdy (ceF 0) (tn (nI i_a)) (tn (nI n_a))) else D) = D := by simp [dur, duk, nI_0, hq1, hc2, hq3, hti_a, htn_a, hq4]
        have e17 : (if duk (nI jv2) (foc (lnF 0) (leF 0) (nI jv2) (nI i_a) (nI n_a)) (frun (ceF 0) (tn (nI i_a)) (tn (nI n_a)) 0 0 0 0) then (tea (tn (nI n_a)) (tdy (ceF 0) (tn (nI i_a)) (tn (nI n_a)))) else E) = E := by simp [dur, duk, nI_0, hq1, hc2, hq3, hti_a, htn_a, hq4]
        have e18 : (if duk (nI jv2) (foc (lnF 0) (leF 0) (nI jv2) (nI i_a) (nI n_a)) (frun (ceF 0) (tn (nI i_a)) (tn (nI n_a)) 0 0 0 0) then ceF 0 (tn (nI i_a) + 1) - nI 48 else so) = so := by simp [dur, duk, nI_0, hq1, hc2, hq3, hti_a, htn_a, hq4]
        have e19 : (if duk (nI jv2) (foc (lnF 0) (leF 0) (nI jv2) (nI i_a) (nI n_a)) (frun (ceF 0) (tn (nI i_a)) (tn (nI n_a)) 0 0 0 0) then tlk (ceF 0) (tn (nI i_a)) lk (tdy (ceF 0) (tn (nI i_a)) (tn (nI n_a))) else lk) = lk := by simp [dur, duk, nI_0, hq1, hc2, hq3, hti_a, htn_a, hq4]
        have e20 : (if duk (nI jv2) (foc (lnF 0) (leF 0) (nI jv2) (nI i_a) (nI n_a)) (frun (ceF 0) (tn (nI i_a)) (tn (nI n_a)) 0 0 0 0) then tkd (ceF 0) (tn (nI i_a)) (3 + (tdy (ceF 0) (tn (nI i_a)) (tn (nI n_a)))) kd (tea (tn (nI n_a)) (tdy (ceF 0) (tn (nI i_a)) (tn (nI n_a)))) else kd) = kd := by simp [dur, duk, nI_0, hq1, hc2, hq3, hti_a, htn_a, hq4]
        have e21 : (if duk (nI jv2) (foc (lnF 0) (leF 0) (nI jv2) (nI i_a) (nI n_a)) (frun (ceF 0) (tn (nI i_a)) (tn (nI n_a)) 0 0 0 0) then tst (ceF 0) (tn (nI i_a)) (3 + (tdy (ceF 0) (tn (nI i_a)) (tn (nI n_a)))) 2 st (tea (tn (nI n_a)) (tdy (ceF 0) (tn (nI i_a)) (tn (nI n_a)))) else st) = st := by simp [dur, duk, nI_0, hq1, hc2, hq3, hti_a, htn_a, hq4]
        have e22 : (if duk (nI jv2) (foc (lnF 0) (leF 0) (nI jv2) (nI i_a) (nI n_a)) (frun (ceF 0) (tn (nI i_a)) (tn (nI n_a)) 0 0 0 0) then tst (ceF 0) (tn (nI i_a)) (3 + (tdy (ceF 0) (tn (nI i_a)) (tn (nI n_a)))) 3 sp (tea (tn (nI n_a)) (tdy (ceF 0) (tn (nI i_a)) (tn (nI n_a)))) else sp) = sp := by simp [dur, duk, nI_0, hq1, hc2, hq3, hti_a, htn_a, hq4]
        have e23 : (if duk (nI jv2) (foc (lnF 0) (leF 0) (nI jv2) (nI i_a) (nI n_a)) (frun (ceF 0) (tn (nI i_a)) (tn (nI n_a)) 0 0 0 0) then tst (ceF 0) (tn (nI i_a)) (3 + (tdy (ceF 0) (tn (nI i_a)) (tn (nI n_a)))) 4 nd (tea (tn (nI n_a)) (tdy (ceF 0) (tn (nI i_a)) (tn (nI n_a)))) else nd) = nd := by simp [dur, duk, nI_0, hq1, hc2, hq3, hti_a, htn_a, hq4]
        have e24 : (if duk (nI jv2) (foc (lnF 0) (leF 0) (nI jv2) (nI i_a) (nI n_a)) (frun (ceF 0) (tn (nI i_a)) (tn (nI n_a)) 0 0 0 0) then 0 else C) = C := by simp [dur, duk, nI_0, hq1, hc2, hq3, hti_a, htn_a, hq4]
        exact z_iret X ZF dX4_duchy_73 (by simp [dur, duk, nI_0, hq1, hc2, hq3, hti_a, htn_a, hq4]) (by first | rw [e24, e23, e22, e21, e20, e19, e18, e17, e16, e15] | (simp only [e24, e23, e22, e21, e20, e19, e18, e17, e16, e15]))
    ·
      refine z_aload_n X dX4_duchy_45 rfl 2 rfl ?_
      refine z_iload X dX4_duchy_46 0 rfl ?_
      refine z_callV X (c_X4_faulted l g a (nI 0) tr (foc (lnF 0) (leF 0) (nI jv2) i n)) gX4_duchy_X4_faulted rfl ⟨rfl, rfl⟩ (by decide +kernel) ⟨Nat.le_of_ble_eq_true rfl, Nat.le_of_ble_eq_true rfl⟩ ZF.room (ci := 3) rfl 0 rfl (isC := [0]) (by decide) rfl rfl (ws' := (wO g a (foc (lnF 0) (leF 0) (nI jv2) i n) tr ++ (wD g a D E so lk kd st sp nd ++ (wR g a C rO rB rD rW ++ (wH g a ++ (wS g (a 13) (a 14) (lnF 0) (leF 0) (ceF 0))))))) rfl (As := [.int (foc (lnF 0) (leF 0) (nI jv2) i n)]) (n := 1) rfl rfl (st1 := [.int ((-10) - (foc (lnF 0) (leF 0) (nI jv2) i n))]) rfl (Nat.le_of_ble_eq_true rfl) dX4_duchy_48 ?_
      have e25 : (if zin (nI jv2) 3 then foc (lnF 0) (leF 0) (nI jv2) i n else nI 0) = (foc (lnF 0) (leF 0) (nI jv2) i n) := by simp [dur, duk, nI_0, hq1, hc2, hq3]
      have e26 : (if duk (nI jv2) (foc (lnF 0) (leF 0) (nI jv2) i n) (frun (ceF 0) (tn i) (tn n) 0 0 0 0) then (tdy (ceF 0) (tn i) (tn n)) else D) = D := by simp [dur, duk, nI_0, hq1, hc2, hq3]
      have e27 : (if duk (nI jv2) (foc (lnF 0) (leF 0) (nI jv2) i n) (frun (ceF 0) (tn i) (tn n) 0 0 0 0) then (tea (tn n) (tdy (ceF 0) (tn i) (tn n))) else E) = E := by simp [dur, duk, nI_0, hq1, hc2, hq3]
      have e28 : (if duk (nI jv2) (foc (lnF 0) (leF 0) (nI jv2) i n) (frun (ceF 0) (tn i) (tn n) 0 0 0 0) then ceF 0 (tn i + 1) - nI 48 else so) = so := by simp [dur, duk, nI_0, hq1, hc2, hq3]
      have e29 : (if duk (nI jv2) (foc (lnF 0) (leF 0) (nI jv2) i n) (frun (ceF 0) (tn i) (tn n) 0 0 0 0) then tlk (ceF 0) (tn i) lk (tdy (ceF 0) (tn i) (tn n)) else lk) = lk := by simp [dur, duk, nI_0, hq1, hc2, hq3]
      have e30 : (if duk (nI jv2) (foc (lnF 0) (leF 0) (nI jv2) i n) (frun (ceF 0) (tn i) (tn n) 0 0 0 0) then tkd (ceF 0) (tn i) (3 + (tdy (ceF 0) (tn i) (tn n))) kd (tea (tn n) (tdy (ceF 0) (tn i) (tn n))) else kd) = kd := by simp [dur, duk, nI_0, hq1, hc2, hq3]
      have e31 : (if duk (nI jv2) (foc (lnF 0) (leF 0) (nI jv2) i n) (frun (ceF 0) (tn i) (tn n) 0 0 0 0) then tst (ceF 0) (tn i) (3 + (tdy (ceF 0) (tn i) (tn n))) 2 st (tea (tn n) (tdy (ceF 0) (tn i) (tn n))) else st) = st := by simp [dur, duk, nI_0, hq1, hc2, hq3]
      have e32 : (if duk (nI jv2) (foc (lnF 0) (leF 0) (nI jv2) i n) (frun (ceF 0) (tn i) (tn n) 0 0 0 0) then tst (ceF 0) (tn i) (3 + (tdy (ceF 0) (tn i) (tn n))) 3 sp (tea (tn n) (tdy (ceF 0) (tn i) (tn n))) else sp) = sp := by simp [dur, duk, nI_0, hq1, hc2, hq3]
      have e33 : (if duk (nI jv2) (foc (lnF 0) (leF 0) (nI jv2) i n) (frun (ceF 0) (tn i) (tn n) 0 0 0 0) then tst (ceF 0) (tn i) (3 + (tdy (ceF 0) (tn i) (tn n))) 4 nd (tea (tn n) (tdy (ceF 0) (tn i) (tn n))) else nd) = nd := by simp [dur, duk, nI_0, hq1, hc2, hq3]
      have e34 : (if duk (nI jv2) (foc (lnF 0) (leF 0) (nI jv2) i n) (frun (ceF 0) (tn i) (tn n) 0 0 0 0) then 0 else C) = C := by simp [dur, duk, nI_0, hq1, hc2, hq3]
      exact z_iret X ZF dX4_duchy_51 (by simp [dur, duk, nI_0, hq1, hc2, hq3]) (by first | rw [e34, e33, e32, e31, e30, e29, e28, e27, e26, e25] | (simp only [e34, e33, e32, e31, e30, e29, e28, e27, e26, e25]))
  ·
    refine z_bipush (v := (-2)) X dX4_duchy_26 (by decide) ?_
    have e35 : (if zin lane 3 then foc (lnF 0) (leF 0) lane i n else nI 0) = (nI 0) := by simp [dur, duk, nI_0, hq1]
    have e36 : (if duk lane (foc (lnF 0) (leF 0) lane i n) (frun (ceF 0) (tn i) (tn n) 0 0 0 0) then (tdy (ceF 0) (tn i) (tn n)) else D) = D := by simp [dur, duk, nI_0, hq1]
    have e37 : (if duk lane (foc (lnF 0) (leF 0) lane i n) (frun (ceF 0) (tn i) (tn n) 0 0 0 0) then (tea (tn n) (tdy (ceF 0) (tn i) (tn n))) else E) = E := by simp [dur, duk, nI_0, hq1]
    have e38 : (if duk lane (foc (lnF 0) (leF 0) lane i n) (frun (ceF 0) (tn i) (tn n) 0 0 0 0) then ceF 0 (tn i + 1) - nI 48 else so) = so := by simp [dur, duk, nI_0, hq1]
    have e39 : (if duk lane (foc (lnF 0) (leF 0) lane i n) (frun (ceF 0) (tn i) (tn n) 0 0 0 0) then tlk (ceF 0) (tn i) lk (tdy (ceF 0) (tn i) (tn n)) else lk) = lk := by simp [dur, duk, nI_0, hq1]
    have e40 : (if duk lane (foc (lnF 0) (leF 0) lane i n) (frun (ceF 0) (tn i) (tn n) 0 0 0 0) then tkd (ceF 0) (tn i) (3 + (tdy (ceF 0) (tn i) (tn n))) kd (tea (tn n) (tdy (ceF 0) (tn i) (tn n))) else kd) = kd := by simp [dur, duk, nI_0, hq1]
    have e41 : (if duk lane (foc (lnF 0) (leF 0) lane i n) (frun (ceF 0) (tn i) (tn n) 0 0 0 0) then tst (ceF 0) (tn i) (3 + (tdy (ceF 0) (tn i) (tn n))) 2 st (tea (tn n) (tdy (ceF 0) (tn i) (tn n))) else st) = st := by simp [dur, duk, nI_0, hq1]
    have e42 : (if duk lane (foc (lnF 0) (leF 0) lane i n) (frun (ceF 0) (tn i) (tn n) 0 0 0 0) then tst (ceF 0) (tn i) (3 + (tdy (ceF 0) (tn i) (tn n))) 3 sp (tea (tn n) (tdy (ceF 0) (tn i) (tn n))) else sp) = sp := by simp [dur, duk, nI_0, hq1]
    have e43 : (if duk lane (foc (lnF 0) (leF 0) lane i n) (frun (ceF 0) (tn i) (tn n) 0 0 0 0) then tst (ceF 0) (tn i) (3 + (tdy (ceF 0) (tn i) (tn n))) 4 nd (tea (tn n) (tdy (ceF 0) (tn i) (tn n))) else nd) = nd := by simp [dur, duk, nI_0, hq1]
    have e44 : (if duk lane (foc (lnF 0) (leF 0) lane i n) (frun (ceF 0) (tn i) (tn n) 0 0 0 0) then 0 else C) = C := by simp [dur, duk, nI_0, hq1]
    exact z_iret X ZF dX4_duchy_28 (by simp [dur, duk, nI_0, hq1]) (by first | rw [e44, e43, e42, e41, e40, e39, e38, e37, e36, e35] | (simp only [e44, e43, e42, e41, e40, e39, e38, e37, e36, e35]))
abbrev rX4_plan_0 : Room := { frames := 6, cells := 0, slots := 0, locals := 135 }
set_option maxHeartbeats 4000000 in
set_option maxRecDepth 100000 in
theorem c_X4_plan_0 (l : Launch) (g : zg) (a : Nat → Nat) (ft : Int32) (tr : Int32) (D : Nat) (E : Nat) (so : Int32) (lk : Nat → Int32) (kd : Nat → Int32) (st : Nat → Int32) (sp : Nat → Int32) (nd : Nat → Int32) (lnF : Nat → Int32) (leF : Nat → Int32) (ceF : Nat → Nat → Int32) (lane : Int32) (i : Int32) (n : Int32) (w : Int32) (hle : vle (leF 0)) (hE : E ≤ 4) (hD : D ≤ 6) (hK : vK kd st E) (hSp : vS sp E) : zM l g yX4_plan wsX4_plan rX4_plan_0 [.ref (a 0), .int (nI 0), .int lane, .int i, .int n, .int w] (wO g a ft tr ++ (wD g a D E so lk kd st sp nd ++ (wH g a ++ (wS g (a 13) (a 14) (lnF 0) (leF 0) (ceF 0))))) (some (.int (plr lane w E (foc (lnF 0) (leF 0) lane i n) (decide (tn n = E) && alp (ceF 0) (tn i) D E) (ofp D E lk so kd st sp nd (ceF 0) (tn i) w)))) (wO g a (if zin lane 3 && apl w && decide (0 < E) then foc (lnF 0) (leF 0) lane i n else nI 0) tr ++ (wD g a D E so lk kd st sp nd ++ (wH g a ++ (wS g (a 13) (a 14) (lnF 0) (leF 0) (ceF 0))))) := by
  refine z_met (own := RX4) (cc := cX4_plan) (maxL := 8) (ret := some .int) (by decide +kernel) rfl rfl (Nat.le_of_ble_eq_true rfl) ?_
  intro M X ZF
  refine z_Le (L' := [(0, .ref (a 0)), (1, .int (nI 0)), (2, .int lane), (3, .int i), (4, .int n), (5, .int w)]) rfl ?_
  have hL := vK_L hK
  have i_RX4 : ∀ w ∈ wsX40, w ∈ wsX4_plan := by decide +kernel
  have f_32 : Cond.fieldLink RX4 32 (TX4 3).1 (TX4 3).2.1 (TX4 3).2.2.1 ∈ wsX4_plan := by decide +kernel
  have f_12 : Cond.fieldLink RX4 12 (TX4 0).1 (TX4 0).2.1 (TX4 0).2.2.1 ∈ wsX4_plan := by decide +kernel
  refine z_aload_n X dX4_plan_0 rfl 0 rfl ?_
  refine z_iconst (v := nI 0) X dX4_plan_1 (by decide) ?_
  refine z_put (ws' := (wO g a (nI 0) tr ++ (wD g a D E so lk kd st sp nd ++ (wH g a ++ (wS g (a 13) (a 14) (lnF 0) (leF 0) (ceF 0)))))) (N := 5) X i_RX4 (ci := 3) rfl tyX4 tyX4_ok nmX4 0 rfl 3 (by decide) f_32 rfl (ty := .int) (by decide +kernel) rfl rfl (Nat.le_of_ble_eq_true rfl) dX4_plan_2 rfl ?_
  refine z_aload_n X dX4_plan_5 rfl 0 rfl ?_
  refine z_iload_n X dX4_plan_6 rfl 1 rfl ?_
  refine z_callV X (c_X4_sheetAt_in l g a (nI 0) tr 0 (by omega)) gX4_plan_X4_sheetAt rfl ⟨rfl, rfl⟩ (by decide +kernel) ⟨Nat.le_of_ble_eq_true rfl, Nat.le_of_ble_eq_true rfl⟩ ZF.room (ci := 3) rfl 0 rfl (isC := [0, 7]) (by decide) rfl rfl (ws' := (wO g a (nI 0) tr ++ (wD g a D E so lk kd st sp nd ++ (wH g a ++ (wS g (a 13) (a 14) (lnF 0) (leF 0) (ceF 0)))))) rfl (As := [.int (nI 0)]) (n := 1) rfl rfl (st1 := [.ref (a 13)]) rfl (Nat.le_of_ble_eq_true rfl) dX4_plan_7 ?_
  refine z_astore (L' := [(6, .ref (a 13)), (0, .ref (a 0)), (1, .int (nI 0)), (2, .int lane), (3, .int i), (4, .int n), (5, .int w)]) X dX4_plan_10 (by decide) rfl ?_
  refine z_aload X dX4_plan_12 0 rfl ?_
  refine z_ifnonnull (tgt := 19) X dX4_plan_14 (by decide) ?_
  refine z_iload_n X dX4_plan_19 rfl 3 rfl ?_
  refine z_callS0 X (c_X4_isLane l g lane) gX4_plan_X4_isLane rfl ⟨rfl, rfl⟩ (by decide +kernel) ⟨Nat.le_of_ble_eq_true rfl, Nat.le_of_ble_eq_true rfl⟩ ZF.room (As := [.int lane]) (n := 1) rfl rfl (st1 := [.int (bI (zin lane 3))]) rfl (Nat.le_of_ble_eq_true rfl) dX4_plan_20 ?_
  refine z_if_eqB (tgt := 34) X dX4_plan_23 (by decide) (fun hq1 => ?_) (fun hq1 => ?_)
  ·
    refine z_bipush (v := (-2)) X dX4_plan_34 (by decide) ?_
    have e2 : (if zin lane 3 && apl w && decide (0 < E) then foc (lnF 0) (leF 0) lane i n else nI 0) = (nI 0) := by simp [plr, nI_0, hq1]
    exact z_iret X ZF dX4_plan_36 (by simp [plr, nI_0, hq1]) (by rw [e2])
  ·
    obtain ⟨jv3, hj3, ej3⟩ := zin_t (by omega) hq1
    subst ej3
    have hc3 : tn (nI jv3) = jv3 := nI_clamp (by omega)
    refine z_iload X dX4_plan_26 6 rfl ?_
    refine z_callS0 X (c_X4_isAskedOfPlans l g w) gX4_plan_X4_isAskedOfPlans rfl ⟨rfl, rfl⟩ (by decide +kernel) ⟨Nat.le_of_ble_eq_true rfl, Nat.le_of_ble_eq_true rfl⟩ ZF.room (As := [.int w]) (n := 1) rfl rfl (st1 := [.int (bI (apl w))]) rfl (Nat.le_of_ble_eq_true rfl) dX4_plan_28 ?_
    refine z_if_neB (tgt := 37) X dX4_plan_31 (by decide) (fun hq4 => ?_) (fun hq4 => ?_)
    ·
      refine z_aload_n X dX4_plan_37 rfl 1 rfl ?_
      refine z_get (v := .ref (a 1)) (N := 5) X i_RX4 (ci := 3) rfl 0 rfl 0 (by decide) f_12 rfl dX4_plan_38 ?_
      refine z_callV X (c_X0_isTold l g a D E so lk kd st sp nd (by omega)) gX4_plan_X0_isTold rfl ⟨rfl, rfl⟩ (by decide +kernel) ⟨Nat.le_of_ble_eq_true rfl, Nat.le_of_ble_eq_true rfl⟩ ZF.room (ci := 0) rfl 1 rfl (isC := [1, 2, 3, 4, 5, 6]) (by decide) rfl rfl (ws' := (wO g a (nI 0) tr ++ (wD g a D E so lk kd st sp nd ++ (wH g a ++ (wS g (a 13) (a 14) (lnF 0) (leF 0) (ceF 0)))))) rfl (As := []) (n := 0) rfl rfl (st1 := [.int (bI (decide (0 < E)))]) rfl (Nat.le_of_ble_eq_true rfl) dX4_plan_41 ?_
      refine z_if_neB (tgt := 50) X dX4_plan_44 (by decide) (fun hq5 => ?_) (fun hq5 => ?_)
      ·
        have hq6 : (0 < E) := of_decide_eq_true hq5
        refine z_aload X dX4_plan_50 0 rfl ?_
        refine z_iload_n X dX4_plan_52 rfl 3 rfl ?_
        refine z_iload_n X dX4_plan_53 rfl 4 rfl ?_
        refine z_iload X dX4_plan_54 5 rfl ?_
        refine z_callV X (c_X2_faultOfCells l g (a 13) (a 14) (lnF 0) (leF 0) (ceF 0) (nI jv3) i n) gX4_plan_X2_faultOfCells rfl ⟨rfl, rfl⟩ (by decide +kernel) ⟨Nat.le_of_ble_eq_true rfl, Nat.le_of_ble_eq_true rfl⟩ ZF.room (ci := 2) rfl 8 rfl (isC := [8, 9]) (by decide) rfl rfl (ws' := (wO g a (nI 0) tr ++ (wD g a D E so lk kd st sp nd ++ (wH g a ++ (wS g (a 13) (a 14) (lnF 0) (leF 0) (ceF 0)))))) rfl (As := [.int (nI jv3), .int i, .int n]) (n := 3) rfl rfl (st1 := [.int (foc (lnF 0) (leF 0) (nI jv3) i n)]) rfl (Nat.le_of_ble_eq_true rfl) dX4_plan_56 ?_
        refine z_istore (L' := [(7, .int (foc (lnF 0) (leF 0) (nI jv3) i n)), (6, .ref (a 13)), (0, .ref (a 0)), (1, .int (nI 0)), (2, .int (nI jv3)), (3, .int i), (4, .int n), (5, .int w)]) X dX4_plan_59 (by decide) rfl ?_
        refine z_iload X dX4_plan_61 0 rfl ?_
        refine z_if_eq (tgt := 73) X dX4_plan_63 (by decide) (fun hq7 => ?_) (fun hq7 => ?_)
        ·
          obtain ⟨i_a, n_a, ei_a, en_a, hin_a, m_a, hm_a, him_a⟩ := foc0 hle hq7
          subst ei_a; subst en_a
          have hti_a : tn (nI i_a) = i_a := nI_clamp (by omega)
          have htn_a : tn (nI n_a) = n_a := nI_clamp (by omega)
          refine z_aload_n X dX4_plan_73 rfl 2 rfl ?_
          refine z_get (v := .ref (a 1)) (N := 5) X i_RX4 (ci := 3) rfl 0 rfl 0 (by decide) f_12 rfl dX4_plan_74 ?_
          refine z_aload X dX4_plan_77 1 rfl ?_
          refine z_iload_n X dX4_plan_79 rfl 5 rfl ?_
          refine z_iload X dX4_plan_80 6 rfl ?_
          refine z_callV X (c_X0_hasPlan l g a (a 13) (a 14) D E so lk kd st sp nd (lnF 0) (leF 0) (ceF 0) i_a n_a (by omega) (by omega) (by omega)) gX4_plan_X0_hasPlan rfl ⟨rfl, rfl⟩ (by decide +kernel) ⟨Nat.le_of_ble_eq_true rfl, Nat.le_of_ble_eq_true rfl⟩ ZF.room (ci := 0) rfl 1 rfl (isC := [1, 2, 3, 4, 5, 6, 8, 9]) (by decide) rfl rfl (ws' := (wO g a (nI 0) tr ++ (wD g a D E so lk kd st sp nd ++ (wH g a ++ (wS g (a 13) (a 14) (lnF 0) (leF 0) (ceF 0)))))) rfl (As := [.ref (a 13), .int (nI i_a), .int (nI n_a)]) (n := 3) rfl rfl (st1 := [.int (bI (decide (n_a = E) && alp (ceF 0) i_a D E))]) rfl (Nat.le_of_ble_eq_true rfl) dX4_plan_82 ?_
          refine z_if_neB (tgt := 91) X dX4_plan_85 (by decide) (fun hq8 => ?_) (fun hq8 => ?_)
          ·
            have hpn_a : n_a = E ∧ alp (ceF 0) i_a D E = true := by simpa using hq8
            have hF := alp_hF hD hpn_a.2
            refine z_aload_n X dX4_plan_91 rfl 2 rfl ?_
            refine z_aload X dX4_plan_92 1 rfl ?_
            refine z_iload_n X dX4_plan_94 rfl 5 rfl ?_
            refine z_iload X dX4_plan_95 7 rfl ?_
            refine z_callV X (c_X4_ofPlan l g a (a 13) (a 14) (nI 0) tr D E so lk kd st sp nd (lnF 0) (leF 0) (ceF 0) i_a w (by omega) (by omega) (by omega) (by first | assumption | omega) (by first | assumption | omega) hF (by first | assumption | omega)) gX4_plan_X4_ofPlan rfl ⟨rfl, rfl⟩ (by decide +kernel) ⟨Nat.le_of_ble_eq_true rfl, Nat.le_of_ble_eq_true rfl⟩ ZF.room (ci := 3) rfl 0 rfl (isC := [0, 1, 2, 3, 4, 5, 6, 8, 9]) (by decide) rfl rfl (ws' := (wO g a (nI 0) tr ++ (wD g a D E so lk kd st sp nd ++ (wH g a ++ (wS g (a 13) (a 14) (lnF 0) (leF 0) (ceF 0)))))) rfl (As := [.ref (a 13), .int (nI i_a), .int w]) (n := 3) rfl rfl (st1 := [.int (ofp D E lk so kd st sp nd (ceF 0) i_a w)]) rfl (Nat.le_of_ble_eq_true rfl) dX4_plan_97 ?_
            have e9 : (if zin (nI jv3) 3 && apl w && decide (0 < E) then foc (lnF 0) (leF 0) (nI jv3) (nI i_a) (nI n_a) else nI 0) = (nI 0) := by simp [plr, nI_0, hq1, hc3, hq4, hq6, hq7, hti_a, htn_a, hq8]
            exact z_iret X ZF dX4_plan_100 (by simp [plr, nI_0, hq1, hc3, hq4, hq6, hq7, hti_a, htn_a, hq8]) (by rw [e9])
          ·
            refine z_bipush (v := (-2)) X dX4_plan_88 (by decide) ?_
            have e10 : (if zin (nI jv3) 3 && apl w && decide (0 < E) then foc (lnF 0) (leF 0) (nI jv3) (nI i_a) (nI n_a) else nI 0) = (nI 0) := by simp [plr, nI_0, hq1, hc3, hq4, hq6, hq7, hti_a, htn_a, hq8]
            exact z_iret X ZF dX4_plan_90 (by simp [plr, nI_0, hq1, hc3, hq4, hq6, hq7, hti_a, htn_a, hq8]) (by rw [e10])
        ·
          refine z_aload_n X dX4_plan_66 rfl 2 rfl ?_
          refine z_iload X dX4_plan_67 0 rfl ?_
          refine z_callV X (c_X4_faulted l g a (nI 0) tr (foc (lnF 0) (leF 0) (nI jv3) i n)) gX4_plan_X4_faulted rfl ⟨rfl, rfl⟩ (by decide +kernel) ⟨Nat.le_of_ble_eq_true rfl, Nat.le_of_ble_eq_true rfl⟩ ZF.room (ci := 3) rfl 0 rfl (isC := [0]) (by decide) rfl rfl (ws' := (wO g a (foc (lnF 0) (leF 0) (nI jv3) i n) tr ++ (wD g a D E so lk kd st sp nd ++ (wH g a ++ (wS g (a 13) (a 14) (lnF 0) (leF 0) (ceF 0)))))) rfl (As := [.int (foc (lnF 0) (leF 0) (nI jv3) i n)]) (n := 1) rfl rfl (st1 := [.int ((-10) - (foc (lnF 0) (leF 0) (nI jv3) i n))]) rfl (Nat.le_of_ble_eq_true rfl) dX4_plan_69 ?_
          have e11 : (if zin (nI jv3) 3 && apl w && decide (0 < E) then foc (lnF 0) (leF 0) (nI jv3) i n else nI 0) = (foc (lnF 0) (leF 0) (nI jv3) i n) := by simp [plr, nI_0, hq1, hc3, hq4, hq6, hq7]
          exact z_iret X ZF dX4_plan_72 (by simp [plr, nI_0, hq1, hc3, hq4, hq6, hq7]) (by rw [e11])
      ·
        have hq12 : ¬ (0 < E) := of_decide_eq_false hq5
        refine z_bipush (v := (-3)) X dX4_plan_47 (by decide) ?_
        have e13 : (if zin (nI jv3) 3 && apl w && decide (0 < E) then foc (lnF 0) (leF 0) (nI jv3) i n else nI 0) = (nI 0) := by simp [plr, nI_0, hq1, hc3, hq4, hq12]
        exact z_iret X ZF dX4_plan_49 (by simp [plr, nI_0, hq1, hc3, hq4, hq12]) (by rw [e13])
    ·
      refine z_bipush (v := (-2)) X dX4_plan_34 (by decide) ?_
      have e14 : (if zin (nI jv3) 3 && apl w && decide (0 < E) then foc (lnF 0) (leF 0) (nI jv3) i n else nI 0) = (nI 0) := by simp [plr, nI_0, hq1, hc3, hq4]
      exact z_iret X ZF dX4_plan_36 (by simp [plr, nI_0, hq1, hc3, hq4]) (by rw [e14])
abbrev rX4_sheet_0 : Room := { frames := 2, cells := 0, slots := 0, locals := 45 }
set_option maxHeartbeats 4000000 in
set_option maxRecDepth 100000 in
theorem c_X4_sheet_0 (l : Launch) (g : zg) (a : Nat → Nat) (ft : Int32) (tr : Int32) (lnF : Nat → Int32) (leF : Nat → Int32) (ceF : Nat → Nat → Int32) (lane : Int32) (n : Int32) : zM l g yX4_sheet wsX4_sheet rX4_sheet_0 [.ref (a 0), .int (nI 0), .int lane, .int n] (wO g a ft tr ++ (wH g a ++ (wS g (a 13) (a 14) (lnF 0) (leF 0) (ceF 0)))) (some (.int (if zin lane 3 && !decide (nI 60 < n) then (if 0 ≤ n then nI 1 else (-10) - nI 4) else -2))) (wO g a (if zin lane 3 && !decide (nI 60 < n) && !decide (0 ≤ n) then nI 4 else nI 0) tr ++ (wH g a ++ (wS g (a 13) (a 14) (if shk lane n then lane else lnF 0) (if shk lane n then n else leF 0) (if shk lane n then fil (ceF 0) (nI 0) 60 else ceF 0)))) := by
  refine z_met (own := RX4) (cc := cX4_sheet) (maxL := 5) (ret := some .int) (by decide +kernel) rfl rfl (Nat.le_of_ble_eq_true rfl) ?_
  intro M X ZF
  refine z_Le (L' := [(0, .ref (a 0)), (1, .int (nI 0)), (2, .int lane), (3, .int n)]) rfl ?_
  have i_RX4 : ∀ w ∈ wsX40, w ∈ wsX4_sheet := by decide +kernel
  have f_32 : Cond.fieldLink RX4 32 (TX4 3).1 (TX4 3).2.1 (TX4 3).2.2.1 ∈ wsX4_sheet := by decide +kernel
  refine z_aload_n X dX4_sheet_0 rfl 0 rfl ?_
  refine z_iconst (v := nI 0) X dX4_sheet_1 (by decide) ?_
  refine z_put (ws' := (wO g a (nI 0) tr ++ (wH g a ++ (wS g (a 13) (a 14) (lnF 0) (leF 0) (ceF 0))))) (N := 5) X i_RX4 (ci := 3) rfl tyX4 tyX4_ok nmX4 0 rfl 3 (by decide) f_32 rfl (ty := .int) (by decide +kernel) rfl rfl (Nat.le_of_ble_eq_true rfl) dX4_sheet_2 rfl ?_
  refine z_aload_n X dX4_sheet_5 rfl 0 rfl ?_
  refine z_iload_n X dX4_sheet_6 rfl 1 rfl ?_
  refine z_callV X (c_X4_sheetAt_in l g a (nI 0) tr 0 (by omega)) gX4_sheet_X4_sheetAt rfl ⟨rfl, rfl⟩ (by decide +kernel) ⟨Nat.le_of_ble_eq_true rfl, Nat.le_of_ble_eq_true rfl⟩ ZF.room (ci := 3) rfl 0 rfl (isC := [0, 1]) (by decide) rfl rfl (ws' := (wO g a (nI 0) tr ++ (wH g a ++ (wS g (a 13) (a 14) (lnF 0) (leF 0) (ceF 0))))) rfl (As := [.int (nI 0)]) (n := 1) rfl rfl (st1 := [.ref (a 13)]) rfl (Nat.le_of_ble_eq_true rfl) dX4_sheet_7 ?_
  refine z_astore (L' := [(4, .ref (a 13)), (0, .ref (a 0)), (1, .int (nI 0)), (2, .int lane), (3, .int n)]) X dX4_sheet_10 (by decide) rfl ?_
  refine z_aload X dX4_sheet_12 0 rfl ?_
  refine z_ifnonnull (tgt := 19) X dX4_sheet_14 (by decide) ?_
  refine z_iload_n X dX4_sheet_19 rfl 3 rfl ?_
  refine z_callS0 X (c_X4_isLane l g lane) gX4_sheet_X4_isLane rfl ⟨rfl, rfl⟩ (by decide +kernel) ⟨Nat.le_of_ble_eq_true rfl, Nat.le_of_ble_eq_true rfl⟩ ZF.room (As := [.int lane]) (n := 1) rfl rfl (st1 := [.int (bI (zin lane 3))]) rfl (Nat.le_of_ble_eq_true rfl) dX4_sheet_20 ?_
  refine z_if_eqB (tgt := 32) X dX4_sheet_23 (by decide) (fun hq1 => ?_) (fun hq1 => ?_)
  ·
    refine z_bipush (v := (-2)) X dX4_sheet_32 (by decide) ?_
    have e2 : (if zin lane 3 && !decide (nI 60 < n) && !decide (0 ≤ n) then nI 4 else nI 0) = (nI 0) := by first | (simp [shk, hq1]; done) | (simp [shk, hq1]; decide)
    have e3 : (if shk lane n then lane else lnF 0) = (lnF 0) := by first | (simp [shk, hq1]; done) | (simp [shk, hq1]; decide)
    have e4 : (if shk lane n then n else leF 0) = (leF 0) := by first | (simp [shk, hq1]; done) | (simp [shk, hq1]; decide)
    have e5 : (if shk lane n then fil (ceF 0) (nI 0) 60 else ceF 0) = (ceF 0) := by first | (simp [shk, hq1]; done) | (simp [shk, hq1]; decide)
    exact z_iret X ZF dX4_sheet_34 (by first | (simp [shk, hq1]; done) | (simp [shk, hq1]; decide)) (by first | rw [e5, e4, e3, e2] | (simp only [e5, e4, e3, e2]))
  ·
    refine z_iload_n X dX4_sheet_26 rfl 4 rfl ?_
    refine z_bipush (v := nI 60) X dX4_sheet_27 (by decide) ?_
    refine z_icmp_le (tgt := 35) X dX4_sheet_29 (by decide) (fun hq6 => ?_) (fun hq6 => ?_)
    ·
      refine z_iload_n X dX4_sheet_35 rfl 4 rfl ?_
      refine z_if_ge (tgt := 45) X dX4_sheet_36 (by decide) (fun hq7 => ?_) (fun hq7 => ?_)
      ·
        refine z_aload X dX4_sheet_45 0 rfl ?_
        refine z_iload_n X dX4_sheet_47 rfl 3 rfl ?_
        refine z_iload_n X dX4_sheet_48 rfl 4 rfl ?_
        refine z_callV X (c_X2_makeRow l g (a 13) (a 14) (lnF 0) (leF 0) (ceF 0) lane n) gX4_sheet_X2_makeRow rfl ⟨rfl, rfl⟩ (by decide +kernel) ⟨Nat.le_of_ble_eq_true rfl, Nat.le_of_ble_eq_true rfl⟩ ZF.room (ci := 2) rfl 2 rfl (isC := [2, 3]) (by decide) rfl rfl (ws' := (wO g a (nI 0) tr ++ (wH g a ++ (wS g (a 13) (a 14) lane n (fil (ceF 0) (nI 0) 60))))) rfl (As := [.int lane, .int n]) (n := 2) rfl rfl (st1 := []) rfl (Nat.le_of_ble_eq_true rfl) dX4_sheet_49 ?_
        refine z_iconst (v := nI 1) X dX4_sheet_52 (by decide) ?_
        have e8 : (if zin lane 3 && !decide (nI 60 < n) && !decide (0 ≤ n) then nI 4 else nI 0) = (nI 0) := by first | (simp [shk, hq1, hq6, hq7]; done) | (simp [shk, hq1, hq6, hq7]; decide)
        have e9 : (if shk lane n then lane else lnF 0) = lane := by first | (simp [shk, hq1, hq6, hq7]; done) | (simp [shk, hq1, hq6, hq7]; decide)
        have e10 : (if shk lane n then n else leF 0) = n := by first | (simp [shk, hq1, hq6, hq7]; done) | (simp [shk, hq1, hq6, hq7]; decide)
        have e11 : (if shk lane n then fil (ceF 0) (nI 0) 60 else ceF 0) = (fil (ceF 0) (nI 0) 60) := by first | (simp [shk, hq1, hq6, hq7]; done) | (simp [shk, hq1, hq6, hq7]; decide)
        exact z_iret X ZF dX4_sheet_53 (by first | (simp [shk, hq1, hq6, hq7]; done) | (simp [shk, hq1, hq6, hq7]; decide)) (by first | rw [e11, e10, e9, e8] | (simp only [e11, e10, e9, e8]))
      ·
        refine z_aload_n X dX4_sheet_39 rfl 1 rfl ?_
        refine z_iconst (v := nI 4) X dX4_sheet_40 (by decide) ?_
        refine z_callV X (c_X4_faulted l g a (nI 0) tr (nI 4)) gX4_sheet_X4_faulted rfl ⟨rfl, rfl⟩ (by decide +kernel) ⟨Nat.le_of_ble_eq_true rfl, Nat.le_of_ble_eq_true rfl⟩ ZF.room (ci := 3) rfl 0 rfl (isC := [0]) (by decide) rfl rfl (ws' := (wO g a (nI 4) tr ++ (wH g a ++ (wS g (a 13) (a 14) (lnF 0) (leF 0) (ceF 0))))) rfl (As := [.int (nI 4)]) (n := 1) rfl rfl (st1 := [.int ((-10) - (nI 4))]) rfl (Nat.le_of_ble_eq_true rfl) dX4_sheet_41 ?_
        have e12 : (if zin lane 3 && !decide (nI 60 < n) && !decide (0 ≤ n) then nI 4 else nI 0) = (nI 4) := by first | (simp [shk, hq1, hq6, hq7]; done) | (simp [shk, hq1, hq6, hq7]; decide)
        have e13 : (if shk lane n then lane else lnF 0) = (lnF 0) := by first | (simp [shk, hq1, hq6, hq7]; done) | (simp [shk, hq1, hq6, hq7]; decide)
        have e14 : (if shk lane n then n else leF 0) = (leF 0) := by first | (simp [shk, hq1, hq6, hq7]; done) | (simp [shk, hq1, hq6, hq7]; decide)
        have e15 : (if shk lane n then fil (ceF 0) (nI 0) 60 else ceF 0) = (ceF 0) := by first | (simp [shk, hq1, hq6, hq7]; done) | (simp [shk, hq1, hq6, hq7]; decide)
        exact z_iret X ZF dX4_sheet_44 (by first | (simp [shk, hq1, hq6, hq7]; done) | (simp [shk, hq1, hq6, hq7]; decide)) (by first | rw [e15, e14, e13, e12] | (simp only [e15, e14, e13, e12]))
    ·
      refine z_bipush (v := (-2)) X dX4_sheet_32 (by decide) ?_
      have e16 : (if zin lane 3 && !decide (nI 60 < n) && !decide (0 ≤ n) then nI 4 else nI 0) = (nI 0) := by first | (simp [shk, hq1, hq6]; done) | (simp [shk, hq1, hq6]; decide)
      have e17 : (if shk lane n then lane else lnF 0) = (lnF 0) := by first | (simp [shk, hq1, hq6]; done) | (simp [shk, hq1, hq6]; decide)
      have e18 : (if shk lane n then n else leF 0) = (leF 0) := by first | (simp [shk, hq1, hq6]; done) | (simp [shk, hq1, hq6]; decide)
      have e19 : (if shk lane n then fil (ceF 0) (nI 0) 60 else ceF 0) = (ceF 0) := by first | (simp [shk, hq1, hq6]; done) | (simp [shk, hq1, hq6]; decide)
      exact z_iret X ZF dX4_sheet_34 (by first | (simp [shk, hq1, hq6]; done) | (simp [shk, hq1, hq6]; decide)) (by first | rw [e19, e18, e17, e16] | (simp only [e19, e18, e17, e16]))
abbrev rX4_lose_0 : Room := { frames := 1, cells := 0, slots := 0, locals := 21 }
set_option maxHeartbeats 4000000 in
set_option maxRecDepth 100000 in
theorem c_X4_lose_0 (l : Launch) (g : zg) (a : Nat → Nat) (ft : Int32) (tr : Int32) (lnF : Nat → Int32) (leF : Nat → Int32) (ceF : Nat → Nat → Int32) : zM l g yX4_lose wsX4_lose rX4_lose_0 [.ref (a 0), .int (nI 0)] (wO g a ft tr ++ (wH g a ++ (wS g (a 13) (a 14) (lnF 0) (leF 0) (ceF 0)))) (some (.int (if leF 0 = (-1) then nI 0 else nI 1))) (wO g a ft tr ++ (wH g a ++ (wS g (a 13) (a 14) (lnF 0) (-1) (ceF 0)))) := by
  refine z_met (own := RX4) (cc := cX4_lose) (maxL := 3) (ret := some .int) (by decide +kernel) rfl rfl (Nat.le_of_ble_eq_true rfl) ?_
  intro M X ZF
  refine z_Le (L' := [(0, .ref (a 0)), (1, .int (nI 0))]) rfl ?_
  refine z_aload_n X dX4_lose_0 rfl 0 rfl ?_
  refine z_iload_n X dX4_lose_1 rfl 1 rfl ?_
  refine z_callV X (c_X4_sheetAt_in l g a ft tr 0 (by omega)) gX4_lose_X4_sheetAt rfl ⟨rfl, rfl⟩ (by decide +kernel) ⟨Nat.le_of_ble_eq_true rfl, Nat.le_of_ble_eq_true rfl⟩ ZF.room (ci := 3) rfl 0 rfl (isC := [0, 1]) (by decide) rfl rfl (ws' := (wO g a ft tr ++ (wH g a ++ (wS g (a 13) (a 14) (lnF 0) (leF 0) (ceF 0))))) rfl (As := [.int (nI 0)]) (n := 1) rfl rfl (st1 := [.ref (a 13)]) rfl (Nat.le_of_ble_eq_true rfl) dX4_lose_2 ?_
  refine z_astore_n (L' := [(2, .ref (a 13)), (0, .ref (a 0)), (1, .int (nI 0))]) X dX4_lose_5 rfl (by decide) rfl ?_
  refine z_aload_n X dX4_lose_6 rfl 0 rfl ?_
  refine z_ifnonnull (tgt := 12) X dX4_lose_7 (by decide) ?_
  refine z_aload_n X dX4_lose_12 rfl 0 rfl ?_
  refine z_callV X (c_X2_hasRow l g (a 13) (a 14) (lnF 0) (leF 0) (ceF 0)) gX4_lose_X2_hasRow rfl ⟨rfl, rfl⟩ (by decide +kernel) ⟨Nat.le_of_ble_eq_true rfl, Nat.le_of_ble_eq_true rfl⟩ ZF.room (ci := 2) rfl 2 rfl (isC := [2, 3]) (by decide) rfl rfl (ws' := (wO g a ft tr ++ (wH g a ++ (wS g (a 13) (a 14) (lnF 0) (leF 0) (ceF 0))))) rfl (As := []) (n := 0) rfl rfl (st1 := [.int (bI (!decide ((leF 0) = (-1))))]) rfl (Nat.le_of_ble_eq_true rfl) dX4_lose_13 ?_
  refine z_if_neB (tgt := 21) X dX4_lose_16 (by decide) (fun hq1 => ?_) (fun hq1 => ?_)
  ·
    have hq2 : (decide ((leF 0) = (-1))) = false := by simpa using hq1
    have hq3 : ¬ ((leF 0) = (-1)) := of_decide_eq_false hq2
    refine z_aload_n X dX4_lose_21 rfl 0 rfl ?_
    refine z_callV X (c_X2_dropRow l g (a 13) (a 14) (lnF 0) (leF 0) (ceF 0)) gX4_lose_X2_dropRow rfl ⟨rfl, rfl⟩ (by decide +kernel) ⟨Nat.le_of_ble_eq_true rfl, Nat.le_of_ble_eq_true rfl⟩ ZF.room (ci := 2) rfl 2 rfl (isC := [2, 3]) (by decide) rfl rfl (ws' := (wO g a ft tr ++ (wH g a ++ (wS g (a 13) (a 14) (lnF 0) (-1) (ceF 0))))) rfl (As := []) (n := 0) rfl rfl (st1 := []) rfl (Nat.le_of_ble_eq_true rfl) dX4_lose_22 ?_
    refine z_iconst (v := nI 1) X dX4_lose_25 (by decide) ?_
    exact z_iret X ZF dX4_lose_26 (by simp [hq3]) rfl
  ·
    have hq4 : (decide ((leF 0) = (-1))) = true := by simpa using hq1
    have hq5 : ((leF 0) = (-1)) := of_decide_eq_true hq4
    refine z_iconst (v := nI 0) X dX4_lose_19 (by decide) ?_
    have e6 : (-1) = (leF 0) := by simp [hq5]
    exact z_iret X ZF dX4_lose_20 (by simp [hq5]) (by rw [e6])
abbrev rX4_put_0 : Room := { frames := 2, cells := 0, slots := 0, locals := 45 }
set_option maxHeartbeats 4000000 in
set_option maxRecDepth 100000 in
theorem c_X4_put_0 (l : Launch) (g : zg) (a : Nat → Nat) (ft : Int32) (tr : Int32) (lnF : Nat → Int32) (leF : Nat → Int32) (ceF : Nat → Nat → Int32) (i : Int32) (v : Int32) (hle : vle (leF 0)) : zM l g yX4_put wsX4_put rX4_put_0 [.ref (a 0), .int (nI 0), .int i, .int v] (wO g a ft tr ++ (wH g a ++ (wS g (a 13) (a 14) (lnF 0) (leF 0) (ceF 0)))) (some (.int (if foc (lnF 0) (leF 0) (lnF 0) i (nI 1) = 0 then nI 1 else (-10) - foc (lnF 0) (leF 0) (lnF 0) i (nI 1)))) (wO g a (foc (lnF 0) (leF 0) (lnF 0) i (nI 1)) tr ++ (wH g a ++ (wS g (a 13) (a 14) (lnF 0) (leF 0) (if foc (lnF 0) (leF 0) (lnF 0) i (nI 1) = 0 then upd (ceF 0) (tn i) (cut (lnF 0) v) else ceF 0)))) := by
  refine z_met (own := RX4) (cc := cX4_put) (maxL := 6) (ret := some .int) (by decide +kernel) rfl rfl (Nat.le_of_ble_eq_true rfl) ?_
  intro M X ZF
  refine z_Le (L' := [(0, .ref (a 0)), (1, .int (nI 0)), (2, .int i), (3, .int v)]) rfl ?_
  have i_RX4 : ∀ w ∈ wsX40, w ∈ wsX4_put := by decide +kernel
  have f_32 : Cond.fieldLink RX4 32 (TX4 3).1 (TX4 3).2.1 (TX4 3).2.2.1 ∈ wsX4_put := by decide +kernel
  refine z_aload_n X dX4_put_0 rfl 0 rfl ?_
  refine z_iconst (v := nI 0) X dX4_put_1 (by decide) ?_
  refine z_put (ws' := (wO g a (nI 0) tr ++ (wH g a ++ (wS g (a 13) (a 14) (lnF 0) (leF 0) (ceF 0))))) (N := 5) X i_RX4 (ci := 3) rfl tyX4 tyX4_ok nmX4 0 rfl 3 (by decide) f_32 rfl (ty := .int) (by decide +kernel) rfl rfl (Nat.le_of_ble_eq_true rfl) dX4_put_2 rfl ?_
  refine z_aload_n X dX4_put_5 rfl 0 rfl ?_
  refine z_iload_n X dX4_put_6 rfl 1 rfl ?_
  refine z_callV X (c_X4_sheetAt_in l g a (nI 0) tr 0 (by omega)) gX4_put_X4_sheetAt rfl ⟨rfl, rfl⟩ (by decide +kernel) ⟨Nat.le_of_ble_eq_true rfl, Nat.le_of_ble_eq_true rfl⟩ ZF.room (ci := 3) rfl 0 rfl (isC := [0, 1]) (by decide) rfl rfl (ws' := (wO g a (nI 0) tr ++ (wH g a ++ (wS g (a 13) (a 14) (lnF 0) (leF 0) (ceF 0))))) rfl (As := [.int (nI 0)]) (n := 1) rfl rfl (st1 := [.ref (a 13)]) rfl (Nat.le_of_ble_eq_true rfl) dX4_put_7 ?_
  refine z_astore (L' := [(4, .ref (a 13)), (0, .ref (a 0)), (1, .int (nI 0)), (2, .int i), (3, .int v)]) X dX4_put_10 (by decide) rfl ?_
  refine z_aload X dX4_put_12 0 rfl ?_
  refine z_ifnonnull (tgt := 19) X dX4_put_14 (by decide) ?_
  refine z_aload X dX4_put_19 0 rfl ?_
  refine z_aload X dX4_put_21 0 rfl ?_
  refine z_callV X (c_X2_rowLane l g (a 13) (a 14) (lnF 0) (leF 0) (ceF 0)) gX4_put_X2_rowLane rfl ⟨rfl, rfl⟩ (by decide +kernel) ⟨Nat.le_of_ble_eq_true rfl, Nat.le_of_ble_eq_true rfl⟩ ZF.room (ci := 2) rfl 2 rfl (isC := [2, 3]) (by decide) rfl rfl (ws' := (wO g a (nI 0) tr ++ (wH g a ++ (wS g (a 13) (a 14) (lnF 0) (leF 0) (ceF 0))))) rfl (As := []) (n := 0) rfl rfl (st1 := [.int (lnF 0), .ref (a 13)]) rfl (Nat.le_of_ble_eq_true rfl) dX4_put_23 ?_
  refine z_iload_n X dX4_put_26 rfl 3 rfl ?_
  refine z_iconst (v := nI 1) X dX4_put_27 (by decide) ?_
  refine z_callV X (c_X2_faultOfCells l g (a 13) (a 14) (lnF 0) (leF 0) (ceF 0) (lnF 0) i (nI 1)) gX4_put_X2_faultOfCells rfl ⟨rfl, rfl⟩ (by decide +kernel) ⟨Nat.le_of_ble_eq_true rfl, Nat.le_of_ble_eq_true rfl⟩ ZF.room (ci := 2) rfl 2 rfl (isC := [2, 3]) (by decide) rfl rfl (ws' := (wO g a (nI 0) tr ++ (wH g a ++ (wS g (a 13) (a 14) (lnF 0) (leF 0) (ceF 0))))) rfl (As := [.int (lnF 0), .int i, .int (nI 1)]) (n := 3) rfl rfl (st1 := [.int (foc (lnF 0) (leF 0) (lnF 0) i (nI 1))]) rfl (Nat.le_of_ble_eq_true rfl) dX4_put_28 ?_
  refine z_istore (L' := [(5, .int (foc (lnF 0) (leF 0) (lnF 0) i (nI 1))), (4, .ref (a 13)), (0, .ref (a 0)), (1, .int (nI 0)), (2, .int i), (3, .int v)]) X dX4_put_31 (by decide) rfl ?_
  refine z_iload X dX4_put_33 0 rfl ?_
  refine z_if_eq (tgt := 45) X dX4_put_35 (by decide) (fun hq1 => ?_) (fun hq1 => ?_)
  ·
    obtain ⟨i_a, ei_a, hin_a, m_a, hm_a, him_a⟩ := foc1 hle hq1
    subst ei_a
    have hti_a : tn (nI i_a) = i_a := nI_clamp (by omega)
    refine z_aload X dX4_put_45 1 rfl ?_
    refine z_iload_n X dX4_put_47 rfl 4 rfl ?_
    refine z_iload_n X dX4_put_48 rfl 5 rfl ?_
    refine z_callV X (c_X2_write l g (a 13) (a 14) (lnF 0) (leF 0) (ceF 0) i_a v (by omega)) gX4_put_X2_write rfl ⟨rfl, rfl⟩ (by decide +kernel) ⟨Nat.le_of_ble_eq_true rfl, Nat.le_of_ble_eq_true rfl⟩ ZF.room (ci := 2) rfl 2 rfl (isC := [2, 3]) (by decide) rfl rfl (ws' := (wO g a (nI 0) tr ++ (wH g a ++ (wS g (a 13) (a 14) (lnF 0) (leF 0) (upd (ceF 0) i_a (cut (lnF 0) v)))))) rfl (As := [.int (nI i_a), .int v]) (n := 2) rfl rfl (st1 := []) rfl (Nat.le_of_ble_eq_true rfl) dX4_put_49 ?_
    refine z_iconst (v := nI 1) X dX4_put_52 (by decide) ?_
    have e2 : (foc (lnF 0) (leF 0) (lnF 0) (nI i_a) (nI 1)) = (nI 0) := by first | (simp [nI_0, hq1, hti_a]; done) | (simp [hq1, hti_a])
    have e3 : (if foc (lnF 0) (leF 0) (lnF 0) (nI i_a) (nI 1) = 0 then upd (ceF 0) (tn (nI i_a)) (cut (lnF 0) v) else ceF 0) = (upd (ceF 0) i_a (cut (lnF 0) v)) := by first | (simp [nI_0, hq1, hti_a]; done) | (simp [hq1, hti_a])
    exact z_iret X ZF dX4_put_53 (by first | (simp [nI_0, hq1, hti_a]; done) | (simp [hq1, hti_a])) (by first | rw [e3, e2] | (simp only [e3, e2]))
  ·
    refine z_aload_n X dX4_put_38 rfl 2 rfl ?_
    refine z_iload X dX4_put_39 0 rfl ?_
    refine z_callV X (c_X4_faulted l g a (nI 0) tr (foc (lnF 0) (leF 0) (lnF 0) i (nI 1))) gX4_put_X4_faulted rfl ⟨rfl, rfl⟩ (by decide +kernel) ⟨Nat.le_of_ble_eq_true rfl, Nat.le_of_ble_eq_true rfl⟩ ZF.room (ci := 3) rfl 0 rfl (isC := [0]) (by decide) rfl rfl (ws' := (wO g a (foc (lnF 0) (leF 0) (lnF 0) i (nI 1)) tr ++ (wH g a ++ (wS g (a 13) (a 14) (lnF 0) (leF 0) (ceF 0))))) rfl (As := [.int (foc (lnF 0) (leF 0) (lnF 0) i (nI 1))]) (n := 1) rfl rfl (st1 := [.int ((-10) - (foc (lnF 0) (leF 0) (lnF 0) i (nI 1)))]) rfl (Nat.le_of_ble_eq_true rfl) dX4_put_41 ?_
    have e4 : (if foc (lnF 0) (leF 0) (lnF 0) i (nI 1) = 0 then upd (ceF 0) (tn i) (cut (lnF 0) v) else ceF 0) = (ceF 0) := by first | (simp [nI_0, hq1]; done) | (simp [hq1])
    exact z_iret X ZF dX4_put_44 (by first | (simp [nI_0, hq1]; done) | (simp [hq1])) (by rw [e4])
abbrev rX4_cell_0 : Room := { frames := 2, cells := 0, slots := 0, locals := 45 }
set_option maxHeartbeats 4000000 in
set_option maxRecDepth 100000 in
theorem c_X4_cell_0 (l : Launch) (g : zg) (a : Nat → Nat) (ft : Int32) (tr : Int32) (lnF : Nat → Int32) (leF : Nat → Int32) (ceF : Nat → Nat → Int32) (i : Int32) (lane : Int32) (hle : vle (leF 0)) : zM l g yX4_cell wsX4_cell rX4_cell_0 [.ref (a 0), .int (nI 0), .int i, .int lane] (wO g a ft tr ++ (wH g a ++ (wS g (a 13) (a 14) (lnF 0) (leF 0) (ceF 0)))) (some (.long (if zin lane 3 && decide (foc (lnF 0) (leF 0) lane i (nI 1) = 0) then (ceF 0 (tn i)).toInt64 else -9223372036854775808))) (wO g a (if zin lane 3 then foc (lnF 0) (leF 0) lane i (nI 1) else nI 0) tr ++ (wH g a ++ (wS g (a 13) (a 14) (lnF 0) (leF 0) (ceF 0)))) := by
  refine z_met (own := RX4) (cc := cX4_cell) (maxL := 6) (ret := some .long) (by decide +kernel) rfl rfl (Nat.le_of_ble_eq_true rfl) ?_
  intro M X ZF
  refine z_Le (L' := [(0, .ref (a 0)), (1, .int (nI 0)), (2, .int i), (3, .int lane)]) rfl ?_
  have i_RX4 : ∀ w ∈ wsX40, w ∈ wsX4_cell := by decide +kernel
  have f_32 : Cond.fieldLink RX4 32 (TX4 3).1 (TX4 3).2.1 (TX4 3).2.2.1 ∈ wsX4_cell := by decide +kernel
  have k_189 : Cond.constantLong RX4 189 (-9223372036854775808) ∈ wsX4_cell := by decide +kernel
  refine z_aload_n X dX4_cell_0 rfl 0 rfl ?_
  refine z_iconst (v := nI 0) X dX4_cell_1 (by decide) ?_
  refine z_put (ws' := (wO g a (nI 0) tr ++ (wH g a ++ (wS g (a 13) (a 14) (lnF 0) (leF 0) (ceF 0))))) (N := 5) X i_RX4 (ci := 3) rfl tyX4 tyX4_ok nmX4 0 rfl 3 (by decide) f_32 rfl (ty := .int) (by decide +kernel) rfl rfl (Nat.le_of_ble_eq_true rfl) dX4_cell_2 rfl ?_
  refine z_aload_n X dX4_cell_5 rfl 0 rfl ?_
  refine z_iload_n X dX4_cell_6 rfl 1 rfl ?_
  refine z_callV X (c_X4_sheetAt_in l g a (nI 0) tr 0 (by omega)) gX4_cell_X4_sheetAt rfl ⟨rfl, rfl⟩ (by decide +kernel) ⟨Nat.le_of_ble_eq_true rfl, Nat.le_of_ble_eq_true rfl⟩ ZF.room (ci := 3) rfl 0 rfl (isC := [0, 1]) (by decide) rfl rfl (ws' := (wO g a (nI 0) tr ++ (wH g a ++ (wS g (a 13) (a 14) (lnF 0) (leF 0) (ceF 0))))) rfl (As := [.int (nI 0)]) (n := 1) rfl rfl (st1 := [.ref (a 13)]) rfl (Nat.le_of_ble_eq_true rfl) dX4_cell_7 ?_
  refine z_astore (L' := [(4, .ref (a 13)), (0, .ref (a 0)), (1, .int (nI 0)), (2, .int i), (3, .int lane)]) X dX4_cell_10 (by decide) rfl ?_
  refine z_aload X dX4_cell_12 0 rfl ?_
  refine z_ifnull X dX4_cell_14 ?_
  refine z_iload_n X dX4_cell_17 rfl 4 rfl ?_
  refine z_callS0 X (c_X4_isLane l g lane) gX4_cell_X4_isLane rfl ⟨rfl, rfl⟩ (by decide +kernel) ⟨Nat.le_of_ble_eq_true rfl, Nat.le_of_ble_eq_true rfl⟩ ZF.room (As := [.int lane]) (n := 1) rfl rfl (st1 := [.int (bI (zin lane 3))]) rfl (Nat.le_of_ble_eq_true rfl) dX4_cell_18 ?_
  refine z_if_neB (tgt := 28) X dX4_cell_21 (by decide) (fun hq1 => ?_) (fun hq1 => ?_)
  ·
    refine z_aload X dX4_cell_28 0 rfl ?_
    refine z_iload_n X dX4_cell_30 rfl 4 rfl ?_
    refine z_iload_n X dX4_cell_31 rfl 3 rfl ?_
    refine z_iconst (v := nI 1) X dX4_cell_32 (by decide) ?_
    refine z_callV X (c_X2_faultOfCells l g (a 13) (a 14) (lnF 0) (leF 0) (ceF 0) lane i (nI 1)) gX4_cell_X2_faultOfCells rfl ⟨rfl, rfl⟩ (by decide +kernel) ⟨Nat.le_of_ble_eq_true rfl, Nat.le_of_ble_eq_true rfl⟩ ZF.room (ci := 2) rfl 2 rfl (isC := [2, 3]) (by decide) rfl rfl (ws' := (wO g a (nI 0) tr ++ (wH g a ++ (wS g (a 13) (a 14) (lnF 0) (leF 0) (ceF 0))))) rfl (As := [.int lane, .int i, .int (nI 1)]) (n := 3) rfl rfl (st1 := [.int (foc (lnF 0) (leF 0) lane i (nI 1))]) rfl (Nat.le_of_ble_eq_true rfl) dX4_cell_33 ?_
    refine z_istore (L' := [(5, .int (foc (lnF 0) (leF 0) lane i (nI 1))), (4, .ref (a 13)), (0, .ref (a 0)), (1, .int (nI 0)), (2, .int i), (3, .int lane)]) X dX4_cell_36 (by decide) rfl ?_
    refine z_iload X dX4_cell_38 0 rfl ?_
    refine z_if_eq (tgt := 53) X dX4_cell_40 (by decide) (fun hq2 => ?_) (fun hq2 => ?_)
    ·
      obtain ⟨i_a, ei_a, hin_a, m_a, hm_a, him_a⟩ := foc1 hle hq2
      subst ei_a
      have hti_a : tn (nI i_a) = i_a := nI_clamp (by omega)
      refine z_aload X dX4_cell_53 1 rfl ?_
      refine z_iload_n X dX4_cell_55 rfl 4 rfl ?_
      refine z_callV X (c_X2_numberAt l g (a 13) (a 14) (lnF 0) (leF 0) (ceF 0) i_a (by omega)) gX4_cell_X2_numberAt rfl ⟨rfl, rfl⟩ (by decide +kernel) ⟨Nat.le_of_ble_eq_true rfl, Nat.le_of_ble_eq_true rfl⟩ ZF.room (ci := 2) rfl 2 rfl (isC := [2, 3]) (by decide) rfl rfl (ws' := (wO g a (nI 0) tr ++ (wH g a ++ (wS g (a 13) (a 14) (lnF 0) (leF 0) (ceF 0))))) rfl (As := [.int (nI i_a)]) (n := 1) rfl rfl (st1 := [.int ((ceF 0) i_a)]) rfl (Nat.le_of_ble_eq_true rfl) dX4_cell_56 ?_
      refine z_i2l (v := ((ceF 0) i_a).toInt64) X dX4_cell_59 rfl ?_
      have e3 : (if zin lane 3 then foc (lnF 0) (leF 0) lane (nI i_a) (nI 1) else nI 0) = (nI 0) := by first | (simp [nI_0, hq1, hq2, hti_a]; done) | (simp [hq1, hq2, hti_a])
      exact z_lret X ZF dX4_cell_60 (by first | (simp [nI_0, hq1, hq2, hti_a]; done) | (simp [hq1, hq2, hti_a])) (by rw [e3])
    ·
      refine z_aload_n X dX4_cell_43 rfl 2 rfl ?_
      refine z_iload X dX4_cell_44 0 rfl ?_
      refine z_put (ws' := (wO g a (foc (lnF 0) (leF 0) lane i (nI 1)) tr ++ (wH g a ++ (wS g (a 13) (a 14) (lnF 0) (leF 0) (ceF 0))))) (N := 5) X i_RX4 (ci := 3) rfl tyX4 tyX4_ok nmX4 0 rfl 3 (by decide) f_32 rfl (ty := .int) (by decide +kernel) rfl rfl (Nat.le_of_ble_eq_true rfl) dX4_cell_46 rfl ?_
      refine z_ldc2 (v := -9223372036854775808) X dX4_cell_49 k_189 ?_
      have e4 : (if zin lane 3 then foc (lnF 0) (leF 0) lane i (nI 1) else nI 0) = (foc (lnF 0) (leF 0) lane i (nI 1)) := by first | (simp [nI_0, hq1, hq2]; done) | (simp [hq1, hq2])
      exact z_lret X ZF dX4_cell_52 (by first | (simp [nI_0, hq1, hq2]; done) | (simp [hq1, hq2])) (by rw [e4])
  ·
    refine z_ldc2 (v := -9223372036854775808) X dX4_cell_24 k_189 ?_
    have e5 : (if zin lane 3 then foc (lnF 0) (leF 0) lane i (nI 1) else nI 0) = (nI 0) := by first | (simp [nI_0, hq1]; done) | (simp [hq1])
    exact z_lret X ZF dX4_cell_27 (by first | (simp [nI_0, hq1]; done) | (simp [hq1])) (by rw [e5])
abbrev rX4_duchy_1 : Room := { frames := 4, cells := 0, slots := 0, locals := 92 }
set_option maxHeartbeats 4000000 in
set_option maxRecDepth 100000 in
theorem c_X4_duchy_1 (l : Launch) (g : zg) (a : Nat → Nat) (ft : Int32) (tr : Int32) (D : Nat) (E : Nat) (so : Int32) (lk : Nat → Int32) (kd : Nat → Int32) (st : Nat → Int32) (sp : Nat → Int32) (nd : Nat → Int32) (C : Nat) (rO : Nat → Int32) (rB : Nat → Int32) (rD : Nat → Int32) (rW : Nat → Int32) (lnF : Nat → Int32) (leF : Nat → Int32) (ceF : Nat → Nat → Int32) (lane : Int32) (i : Int32) (n : Int32) (hle : vle (leF 1)) (hE : E ≤ 4) : zM l g yX4_duchy wsX4_duchy rX4_duchy_1 [.ref (a 0), .int (nI 1), .int lane, .int i, .int n] (wO g a ft tr ++ (wD g a D E so lk kd st sp nd ++ (wR g a C rO rB rD rW ++ (wH g a ++ (wS g (a 15) (a 16) (lnF 1) (leF 1) (ceF 1)))))) (some (.int (dur lane (foc (lnF 1) (leF 1) lane i n) (frun (ceF 1) (tn i) (tn n) 0 0 0 0) (tea (tn n) (tdy (ceF 1) (tn i) (tn n)))))) (wO g a (if zin lane 3 then foc (lnF 1) (leF 1) lane i n else nI 0) tr ++ (wD g a (if duk lane (foc (lnF 1) (leF 1) lane i n) (frun (ceF 1) (tn i) (tn n) 0 0 0 0) then (tdy (ceF 1) (tn i) (tn n)) else D) (if duk lane (foc (lnF 1) (leF 1) lane i n) (frun (ceF 1) (tn i) (tn n) 0 0 0 0) then (tea (tn n) (tdy (ceF 1) (tn i) (tn n))) else E) (if duk lane (foc (lnF 1) (leF 1) lane i n) (frun (ceF 1) (tn i) (tn n) 0 0 0 0) then ceF 1 (tn i + 1) - nI 48 else so) (if duk lane (foc (lnF 1) (leF 1) lane i n) (frun (ceF 1) (tn i) (tn n) 0 0 0 0) then tlk (ceF 1) (tn i) lk (tdy (ceF 1) (tn i) (tn n)) else lk) (if duk lane (foc (lnF 1) (leF 1) lane i n) (frun (ceF 1) (tn i) (tn n) 0 0 0 0) then tkd (ceF 1) (tn i) (3 + (tdy (ceF 1) (tn i) (tn n))) kd (tea (tn n) (tdy (ceF 1) (tn i) (tn n))) else kd) (if duk lane (foc (lnF 1) (leF 1) lane i n) (frun (ceF 1) (tn i) (tn n) 0 0 0 0) then tst (ceF 1) (tn i) (3 + (tdy (ceF 1) (tn i) (tn n))) 2 st (tea (tn n) (tdy (ceF 1) (tn i) (tn n))) else st) (if duk lane (foc (lnF 1) (leF 1) lane i n) (frun (ceF 1) (tn i) (tn n) 0 0 0 0) then tst (ceF 1) (tn i) (3 + (tdy (ceF 1) (tn i) (tn n))) 3 sp (tea (tn n) (tdy (ceF 1) (tn i) (tn n))) else sp) (if duk lane (foc (lnF 1) (leF 1) lane i n) (frun (ceF 1) (tn i) (tn n) 0 0 0 0) then tst (ceF 1) (tn i) (3 + (tdy (ceF 1) (tn i) (tn n))) 4 nd (tea (tn n) (tdy (ceF 1) (tn i) (tn n))) else nd) ++ (wR g a (if duk lane (foc (lnF 1) (leF 1) lane i n) (frun (ceF 1) (tn i) (tn n) 0 0 0 0) then 0 else C) rO rB rD rW ++ (wH g a ++ (wS g (a 15) (a 16) (lnF 1) (leF 1) (ceF 1)))))) := by
  refine z_met (own := RX4) (cc := cX4_duchy) (maxL := 8) (ret := some .int) (by decide +kernel) rfl rfl (Nat.le_of_ble_eq_true rfl) ?_
  intro M X ZF
  refine z_Le (L' := [(0, .ref (a 0)), (1, .int (nI 1)), (2, .int lane), (3, .int i), (4, .int n)]) rfl ?_
  have i_RX4 : ∀ w ∈ wsX40, w ∈ wsX4_duchy := by decide +kernel
  have f_32 : Cond.fieldLink RX4 32 (TX4 3).1 (TX4 3).2.1 (TX4 3).2.2.1 ∈ wsX4_duchy := by decide +kernel
  have f_12 : Cond.fieldLink RX4 12 (TX4 0).1 (TX4 0).2.1 (TX4 0).2.2.1 ∈ wsX4_duchy := by decide +kernel
  have f_21 : Cond.fieldLink RX4 21 (TX4 1).1 (TX4 1).2.1 (TX4 1).2.2.1 ∈ wsX4_duchy := by decide +kernel
  refine z_aload_n X dX4_duchy_0 rfl 0 rfl ?_
  refine z_iconst (v := nI 0) X dX4_duchy_1 (by decide) ?_
  refine z_put (ws' := (wO g a (nI 0) tr ++ (wD g a D E so lk kd st sp nd ++ (wR g a C rO rB rD rW ++ (wH g a ++ (wS g (a 15) (a 16) (lnF 1) (leF 1) (ceF 1))))))) (N := 5) X i_RX4 (ci := 3) rfl tyX4 tyX4_ok nmX4 0 rfl 3 (by decide) f_32 rfl (ty := .int) (by decide +kernel) rfl rfl (Nat.le_of_ble_eq_true rfl) dX4_duchy_2 rfl ?_
  refine z_aload_n X dX4_duchy_5 rfl 0 rfl ?_
  refine z_iload_n X dX4_duchy_6 rfl 1 rfl ?_
  refine z_callV X (c_X4_sheetAt_in l g a (nI 0) tr 1 (by omega)) gX4_duchy_X4_sheetAt rfl ⟨rfl, rfl⟩ (by decide +kernel) ⟨Nat.le_of_ble_eq_true rfl, Nat.le_of_ble_eq_true rfl⟩ ZF.room (ci := 3) rfl 0 rfl (isC := [0, 12]) (by decide) rfl rfl (ws' := (wO g a (nI 0) tr ++ (wD g a D E so lk kd st sp nd ++ (wR g a C rO rB rD rW ++ (wH g a ++ (wS g (a 15) (a 16) (lnF 1) (leF 1) (ceF 1))))))) rfl (As := [.int (nI 1)]) (n := 1) rfl rfl (st1 := [.ref (a 15)]) rfl (Nat.le_of_ble_eq_true rfl) dX4_duchy_7 ?_
  refine z_astore (L' := [(5, .ref (a 15)), (0, .ref (a 0)), (1, .int (nI 1)), (2, .int lane), (3, .int i), (4, .int n)]) X dX4_duchy_10 (by decide) rfl ?_
  refine z_aload X dX4_duchy_12 0 rfl ?_
  refine z_ifnonnull (tgt := 19) X dX4_duchy_14 (by decide) ?_
  refine z_iload_n X dX4_duchy_19 rfl 3 rfl ?_
  refine z_callS0 X (c_X4_isLane l g lane) gX4_duchy_X4_isLane rfl ⟨rfl, rfl⟩ (by decide +kernel) ⟨Nat.le_of_ble_eq_true rfl, Nat.le_of_ble_eq_true rfl⟩ ZF.room (As := [.int lane]) (n := 1) rfl rfl (st1 := [.int (bI (zin lane 3))]) rfl (Nat.le_of_ble_eq_true rfl) dX4_duchy_20 ?_
  refine z_if_neB (tgt := 29) X dX4_duchy_23 (by decide) (fun hq1 => ?_) (fun hq1 => ?_)
  ·
    obtain ⟨jv2, hj2, ej2⟩ := zin_t (by omega) hq1
    subst ej2
    have hc2 : tn (nI jv2) = jv2 := nI_clamp (by omega)
    refine z_aload X dX4_duchy_29 0 rfl ?_
    refine z_iload_n X dX4_duchy_31 rfl 3 rfl ?_
    refine z_iload_n X dX4_duchy_32 rfl 4 rfl ?_
    refine z_iload X dX4_duchy_33 5 rfl ?_
    refine z_callV X (c_X2_faultOfCells l g (a 15) (a 16) (lnF 1) (leF 1) (ceF 1) (nI jv2) i n) gX4_duchy_X2_faultOfCells rfl ⟨rfl, rfl⟩ (by decide +kernel) ⟨Nat.le_of_ble_eq_true rfl, Nat.le_of_ble_eq_true rfl⟩ ZF.room (ci := 2) rfl 13 rfl (isC := [13, 14]) (by decide) rfl rfl (ws' := (wO g a (nI 0) tr ++ (wD g a D E so lk kd st sp nd ++ (wR g a C rO rB rD rW ++ (wH g a ++ (wS g (a 15) (a 16) (lnF 1) (leF 1) (ceF 1))))))) rfl (As := [.int (nI jv2), .int i, .int n]) (n := 3) rfl rfl (st1 := [.int (foc (lnF 1) (leF 1) (nI jv2) i n)]) rfl (Nat.le_of_ble_eq_true rfl) dX4_duchy_35 ?_
    refine z_istore (L' := [(6, .int (foc (lnF 1) (leF 1) (nI jv2) i n)), (5, .ref (a 15)), (0, .ref (a 0)), (1, .int (nI 1)), (2, .int (nI jv2)), (3, .int i), (4, .int n)]) X dX4_duchy_38 (by decide) rfl ?_
    refine z_iload X dX4_duchy_40 0 rfl ?_
    refine z_if_eq (tgt := 52) X dX4_duchy_42 (by decide) (fun hq3 => ?_) (fun hq3 => ?_)
    ·
      obtain ⟨i_a, n_a, ei_a, en_a, hin_a, m_a, hm_a, him_a⟩ := foc0 hle hq3
      subst ei_a; subst en_a
      have hti_a : tn (nI i_a) = i_a := nI_clamp (by omega)
      have htn_a : tn (nI n_a) = n_a := nI_clamp (by omega)
      refine z_aload X dX4_duchy_52 1 rfl ?_
      refine z_iload_n X dX4_duchy_54 rfl 5 rfl ?_
      refine z_iload X dX4_duchy_55 6 rfl ?_
      refine z_callS X (c_X3_firstFault l g (a 15) (a 16) (lnF 1) (leF 1) (ceF 1) i_a n_a (by omega)) gX4_duchy_X3_firstFault rfl ⟨rfl, rfl⟩ (by decide +kernel) ⟨Nat.le_of_ble_eq_true rfl, Nat.le_of_ble_eq_true rfl⟩ ZF.room (isC := [13, 14]) (by decide) rfl rfl (ws' := (wO g a (nI 0) tr ++ (wD g a D E so lk kd st sp nd ++ (wR g a C rO rB rD rW ++ (wH g a ++ (wS g (a 15) (a 16) (lnF 1) (leF 1) (ceF 1))))))) rfl (As := [.ref (a 15), .int (nI i_a), .int (nI n_a)]) (n := 3) rfl rfl (st1 := [.int (frun (ceF 1) i_a n_a 0 0 0 0)]) rfl (Nat.le_of_ble_eq_true rfl) dX4_duchy_57 ?_
      refine z_istore (L' := [(7, .int (frun (ceF 1) i_a n_a 0 0 0 0)), (6, .int (foc (lnF 1) (leF 1) (nI jv2) (nI i_a) (nI n_a))), (5, .ref (a 15)), (0, .ref (a 0)), (1, .int (nI 1)), (2, .int (nI jv2)), (3, .int (nI i_a)), (4, .int (nI n_a))]) X dX4_duchy_60 (by decide) rfl ?_
      refine z_iload X dX4_duchy_62 0 rfl ?_
      refine z_iconst (v := (-1)) X dX4_duchy_64 (by decide) ?_
      refine z_icmp_eq (tgt := 74) X dX4_duchy_65 (by decide) (fun hq4 => ?_) (fun hq4 => ?_)
      ·
        refine z_aload_n X dX4_duchy_74 rfl 3 rfl ?_
        refine z_get (v := .ref (a 1)) (N := 5) X i_RX4 (ci := 3) rfl 0 rfl 0 (by decide) f_12 rfl dX4_duchy_75 ?_
        refine z_aload X dX4_duchy_78 2 rfl ?_
        refine z_iload_n X dX4_duchy_80 rfl 6 rfl ?_
        refine z_iload X dX4_duchy_81 7 rfl ?_
        refine z_callV X (c_X0_takeText l g a (a 15) (a 16) D E so lk kd st sp nd (lnF 1) (leF 1) (ceF 1) i_a n_a (by omega) (frun_2 hq4)) gX4_duchy_X0_takeText rfl ⟨rfl, rfl⟩ (by decide +kernel) ⟨Nat.le_of_ble_eq_true rfl, Nat.le_of_ble_eq_true rfl⟩ ZF.room (ci := 0) rfl 1 rfl (isC := [1, 2, 3, 4, 5, 6, 13, 14]) (by decide) rfl rfl (ws' := (wO g a (nI 0) tr ++ (wD g a (tdy (ceF 1) i_a n_a) (tea n_a (tdy (ceF 1) i_a n_a)) ((ceF 1) (i_a + 1) - nI 48) (tlk (ceF 1) i_a lk (tdy (ceF 1) i_a n_a)) (tkd (ceF 1) i_a (3 + tdy (ceF 1) i_a n_a) kd (tea n_a (tdy (ceF 1) i_a n_a))) (tst (ceF 1) i_a (3 + tdy (ceF 1) i_a n_a) 2 st (tea n_a (tdy (ceF 1) i_a n_a))) (tst (ceF 1) i_a (3 + tdy (ceF 1) i_a n_a) 3 sp (tea n_a (tdy (ceF 1) i_a n_a))) (tst (ceF 1) i_a (3 + tdy (ceF 1) i_a n_a) 4 nd (tea n_a (tdy (ceF 1) i_a n_a))) ++ (wR g a C rO rB rD rW ++ (wH g a ++ (wS g (a 15) (a 16) (lnF 1) (leF 1) (ceF 1))))))) rfl (As := [.ref (a 15), .int (nI i_a), .int (nI n_a)]) (n := 3) rfl rfl (st1 := []) rfl (Nat.le_of_ble_eq_true rfl) dX4_duchy_83 ?_
        refine z_aload_n X dX4_duchy_86 rfl 3 rfl ?_
        refine z_get (v := .ref (a 7)) (N := 5) X i_RX4 (ci := 3) rfl 0 rfl 1 (by decide) f_21 rfl dX4_duchy_87 ?_
        refine z_callV X (c_X1_dropAll l g a C rO rB rD rW) gX4_duchy_X1_dropAll rfl ⟨rfl, rfl⟩ (by decide +kernel) ⟨Nat.le_of_ble_eq_true rfl, Nat.le_of_ble_eq_true rfl⟩ ZF.room (ci := 1) rfl 7 rfl (isC := [7, 8, 9, 10, 11]) (by decide) rfl rfl (ws' := (wO g a (nI 0) tr ++ (wD g a (tdy (ceF 1) i_a n_a) (tea n_a (tdy (ceF 1) i_a n_a)) ((ceF 1) (i_a + 1) - nI 48) (tlk (ceF 1) i_a lk (tdy (ceF 1) i_a n_a)) (tkd (ceF 1) i_a (3 + tdy (ceF 1) i_a n_a) kd (tea n_a (tdy (ceF 1) i_a n_a))) (tst (ceF 1) i_a (3 + tdy (ceF 1) i_a n_a) 2 st (tea n_a (tdy (ceF 1) i_a n_a))) (tst (ceF 1) i_a (3 + tdy (ceF 1) i_a n_a) 3 sp (tea n_a (tdy (ceF 1) i_a n_a))) (tst (ceF 1) i_a (3 + tdy (ceF 1) i_a n_a) 4 nd (tea n_a (tdy (ceF 1) i_a n_a))) ++ (wR g a 0 rO rB rD rW ++ (wH g a ++ (wS g (a 15) (a 16) (lnF 1) (leF 1) (ceF 1))))))) rfl (As := []) (n := 0) rfl rfl (st1 := []) rfl (Nat.le_of_ble_eq_true rfl) dX4_duchy_90 ?_
        refine z_aload_n X dX4_duchy_93 rfl 3 rfl ?_
        refine z_get (v := .ref (a 1)) (N := 5) X i_RX4 (ci := 3) rfl 0 rfl 0 (by decide) f_12 rfl dX4_duchy_94 ?_
        refine z_callV X (c_X0_eaterCount l g a (tdy (ceF 1) i_a n_a) (tea n_a (tdy (ceF 1) i_a n_a)) ((ceF 1) (i_a + 1) - nI 48) (tlk (ceF 1) i_a lk (tdy (ceF 1) i_a n_a)) (tkd (ceF 1) i_a (3 + tdy (ceF 1) i_a n_a) kd (tea n_a (tdy (ceF 1) i_a n_a))) (tst (ceF 1) i_a (3 + tdy (ceF 1) i_a n_a) 2 st (tea n_a (tdy (ceF 1) i_a n_a))) (tst (ceF 1) i_a (3 + tdy (ceF 1) i_a n_a) 3 sp (tea n_a (tdy (ceF 1) i_a n_a))) (tst (ceF 1) i_a (3 + tdy (ceF 1) i_a n_a) 4 nd (tea n_a (tdy (ceF 1) i_a n_a)))) gX4_duchy_X0_eaterCount rfl ⟨rfl, rfl⟩ (by decide +kernel) ⟨Nat.le_of_ble_eq_true rfl, Nat.le_of_ble_eq_true rfl⟩ ZF.room (ci := 0) rfl 1 rfl (isC := [1, 2, 3, 4, 5, 6]) (by decide) rfl rfl (ws' := (wO g a (nI 0) tr ++ (wD g a (tdy (ceF 1) i_a n_a) (tea n_a (tdy (ceF 1) i_a n_a)) ((ceF 1) (i_a + 1) - nI 48) (tlk (ceF 1) i_a lk (tdy (ceF 1) i_a n_a)) (tkd (ceF 1) i_a (3 + tdy (ceF 1) i_a n_a) kd (tea n_a (tdy (ceF 1) i_a n_a))) (tst (ceF 1) i_a (3 + tdy (ceF 1) i_a n_a) 2 st (tea n_a (tdy (ceF 1) i_a n_a))) (tst (ceF 1) i_a (3 + tdy (ceF 1) i_a n_a) 3 sp (tea n_a (tdy (ceF 1) i_a n_a))) (tst (ceF 1) i_a (3 + tdy (ceF 1) i_a n_a) 4 nd (tea n_a (tdy (ceF 1) i_a n_a))) ++ (wR g a 0 rO rB rD rW ++ (wH g a ++ (wS g (a 15) (a 16) (lnF 1) (leF 1) (ceF 1))))))) rfl (As := []) (n := 0) rfl rfl (st1 := [.int (nI (tea n_a (tdy (ceF 1) i_a n_a)))]) rfl (Nat.le_of_ble_eq_true rfl) dX4_duchy_97 ?_
        have e5 : (if zin (nI jv2) 3 then foc (lnF 1) (leF 1) (nI jv2) (nI i_a) (nI n_a) else nI 0) = (nI 0) := by simp [dur, duk, nI_0, hq1, hc2, hq3, hti_a, htn_a, hq4]
        have e6 : (if duk (nI jv2) (foc (lnF 1) (leF 1) (nI jv2) (nI i_a) (nI n_a)) (frun (ceF 1) (tn (nI i_a)) (tn (nI n_a)) 0 0 0 0) then (tdy (ceF 1) (tn (nI i_a)) (tn (nI n_a))) else D) = (tdy (ceF 1) i_a n_a) := by simp [dur, duk, nI_0, hq1, hc2, hq3, hti_a, htn_a, hq4]
        have e7 : (if duk (nI jv2) (foc (lnF 1) (leF 1) (nI jv2) (nI i_a) (nI n_a)) (frun (ceF 1) (tn (nI i_a)) (tn (nI n_a)) 0 0 0 0) then (tea (tn (nI n_a)) (tdy (ceF 1) (tn (nI i_a)) (tn (nI n_a)))) else E) = (tea n_a (tdy (ceF 1) i_a n_a)) := by simp [dur, duk, nI_0, hq1, hc2, hq3, hti_a, htn_a, hq4]
        have e8 : (if duk (nI jv2) (foc (lnF 1) (leF 1) (nI jv2) (nI i_a) (nI n_a)) (frun (ceF 1) (tn (nI i_a)) (tn (nI n_a)) 0 0 0 0) then ceF 1 (tn (nI i_a) + 1) - nI 48 else so) = ((ceF 1) (i_a + 1) - nI 48) := by simp [dur, duk, nI_0, hq1, hc2, hq3, hti_a, htn_a, hq4]
        have e9 : (if duk (nI jv2) (foc (lnF 1) (leF 1) (nI jv2) (nI i_a) (nI n_a)) (frun (ceF 1) (tn (nI i_a)) (tn (nI n_a)) 0 0 0 0) then tlk (ceF 1) (tn (nI i_a)) lk (tdy (ceF 1) (tn (nI i_a)) (tn (nI n_a))) else lk) = (tlk (ceF 1) i_a lk (tdy (ceF 1) i_a n_a)) := by simp [dur, duk, nI_0, hq1, hc2, hq3, hti_a, htn_a, hq4]
        have e10 : (if duk (nI jv2) (foc (lnF 1) (leF 1) (nI jv2) (nI i_a) (nI n_a)) (frun (ceF 1) (tn (nI i_a)) (tn (nI n_a)) 0 0 0 0) then tkd (ceF 1) (tn (nI i_a)) (3 + (tdy (ceF 1) (tn (nI i_a)) (tn (nI n_a)))) kd (tea (tn (nI n_a)) (tdy (ceF 1) (tn (nI i_a)) (tn (nI n_a)))) else kd) = (tkd (ceF 1) i_a (3 + tdy (ceF 1) i_a n_a) kd (tea n_a (tdy (ceF 1) i_a n_a))) := by simp [dur, duk, nI_0, hq1, hc2, hq3, hti_a, htn_a, hq4]
        have e11 : (if duk (nI jv2) (foc (lnF 1) (leF 1) (nI jv2) (nI i_a) (nI n_a)) (frun (ceF 1) (tn (nI i_a)) (tn (nI n_a)) 0 0 0 0) then tst (ceF 1) (tn (nI i_a)) (3 + (tdy (ceF 1) (tn (nI i_a)) (tn (nI n_a)))) 2 st (tea (tn (nI n_a)) (tdy (ceF 1) (tn (nI i_a)) (tn (nI n_a)))) else st) = (tst (ceF 1) i_a (3 + tdy (ceF 1) i_a n_a) 2 st (tea n_a (tdy (ceF 1) i_a n_a))) := by simp [dur, duk, nI_0, hq1, hc2, hq3, hti_a, htn_a, hq4]
        have e12 : (if duk (nI jv2) (foc (lnF 1) (leF 1) (nI jv2) (nI i_a) (nI n_a)) (frun (ceF 1) (tn (nI i_a)) (tn (nI n_a)) 0 0 0 0) then tst (ceF 1) (tn (nI i_a)) (3 + (tdy (ceF 1) (tn (nI i_a)) (tn (nI n_a)))) 3 sp (tea (tn (nI n_a)) (tdy (ceF 1) (tn (nI i_a)) (tn (nI n_a)))) else sp) = (tst (ceF 1) i_a (3 + tdy (ceF 1) i_a n_a) 3 sp (tea n_a (tdy (ceF 1) i_a n_a))) := by simp [dur, duk, nI_0, hq1, hc2, hq3, hti_a, htn_a, hq4]
        have e13 : (if duk (nI jv2) (foc (lnF 1) (leF 1) (nI jv2) (nI i_a) (nI n_a)) (frun (ceF 1) (tn (nI i_a)) (tn (nI n_a)) 0 0 0 0) then tst (ceF 1) (tn (nI i_a)) (3 + (tdy (ceF 1) (tn (nI i_a)) (tn (nI n_a)))) 4 nd (tea (tn (nI n_a)) (tdy (ceF 1) (tn (nI i_a)) (tn (nI n_a)))) else nd) = (tst (ceF 1) i_a (3 + tdy (ceF 1) i_a n_a) 4 nd (tea n_a (tdy (ceF 1) i_a n_a))) := by simp [dur, duk, nI_0, hq1, hc2, hq3, hti_a, htn_a, hq4]
        have e14 : (if duk (nI jv2) (foc (lnF 1) (leF 1) (nI jv2) (nI i_a) (nI n_a)) (frun (ceF 1) (tn (nI i_a)) (tn (nI n_a)) 0 0 0 0) then 0 else C) = 0 := by simp [dur, duk, nI_0, hq1, hc2, hq3, hti_a, htn_a, hq4]
        exact z_iret X ZF dX4_duchy_100 (by simp [dur, duk, nI_0, hq1, hc2, hq3, hti_a, htn_a, hq4]) (by first | rw [e14, e13, e12, e11, e10, e9, e8, e7, e6, e5] | (simp only [e14, e13, e12, e11, e10, e9, e8, e7, e6, e5]))
      ·
        refine z_bipush (v := (-100)) X dX4_duchy_68 (by decide) ?_
        refine z_iload X dX4_duchy_70 0 rfl ?_
        refine z_isub X dX4_duchy_72 ?_
        have e15 : (if zin (nI jv2) 3 then foc (lnF 1) (leF 1) (nI jv2) (nI i_a) (nI n_a) else nI 0) = (nI 0) := by simp [dur, duk, nI_0, hq1, hc2, hq3, hti_a, htn_a, hq4]
        have e16 : (if duk (nI jv2) (foc (lnF 1) (leF 1) (nI jv2) (nI i_a) (nI n_a)) (frun (ceF 1) (tn (nI i_a)) (tn (nI n_a)) 0 0 0 0) then (tdy (ceF 1) (tn (nI i_a)) (tn (nI n_a))) else D) = D := by simp [dur, duk, nI_0, hq1, hc2, hq3, hti_a, htn_a, hq4]
        have e17 : (if duk (nI jv2) (foc (lnF 1) (leF 1) (nI jv2) (nI i_a) (nI n_a)) (frun (ceF 1) (tn (nI i_a)) (tn (nI n_a)) 0 0 0 0) then (tea (tn (nI n_a)) (tdy (ceF 1) (tn (nI i_a)) (tn (nI n_a)))) else E) = E := by simp [dur, duk, nI_0, hq1, hc2, hq3, hti_a, htn_a, hq4]
        have e18 : (if duk (nI jv2) (foc (lnF 1) (leF 1) (nI jv2) (nI i_a) (nI n_a)) (frun (ceF 1) (tn (nI i_a)) (tn (nI n_a)) 0 0 0 0) then ceF 1 (tn (nI i_a) + 1) - nI 48 else so) = so := by simp [dur, duk, nI_0, hq1, hc2, hq3, hti_a, htn_a, hq4]
        have e19 : (if duk (nI jv2) (foc (lnF 1) (leF 1) (nI jv2) (nI i_a) (nI n_a)) (frun (ceF 1) (tn (nI i_a)) (tn (nI n_a)) 0 0 0 0) then tlk (ceF 1) (tn (nI i_a)) lk (tdy (ceF 1) (tn (nI i_a)) (tn (nI n_a))) else lk) = lk := by simp [dur, duk, nI_0, hq1, hc2, hq3, hti_a, htn_a, hq4]
        have e20 : (if duk (nI jv2) (foc (lnF 1) (leF 1) (nI jv2) (nI i_a) (nI n_a)) (frun (ceF 1) (tn (nI i_a)) (tn (nI n_a)) 0 0 0 0) then tkd (ceF 1) (tn (nI i_a)) (3 + (tdy (ceF 1) (tn (nI i_a)) (tn (nI n_a)))) kd (tea (tn (nI n_a)) (tdy (ceF 1) (tn (nI i_a)) (tn (nI n_a)))) else kd) = kd := by simp [dur, duk, nI_0, hq1, hc2, hq3, hti_a, htn_a, hq4]
        have e21 : (if duk (nI jv2) (foc (lnF 1) (leF 1) (nI jv2) (nI i_a) (nI n_a)) (frun (ceF 1) (tn (nI i_a)) (tn (nI n_a)) 0 0 0 0) then tst (ceF 1) (tn (nI i_a)) (3 + (tdy (ceF 1) (tn (nI i_a)) (tn (nI n_a)))) 2 st (tea (tn (nI n_a)) (tdy (ceF 1) (tn (nI i_a)) (tn (nI n_a)))) else st) = st := by simp [dur, duk, nI_0, hq1, hc2, hq3, hti_a, htn_a, hq4]
        have e22 : (if duk (nI jv2) (foc (lnF 1) (leF 1) (nI jv2) (nI i_a) (nI n_a)) (frun (ceF 1) (tn (nI i_a)) (tn (nI n_a)) 0 0 0 0) then tst (ceF 1) (tn (nI i_a)) (3 + (tdy (ceF 1) (tn (nI i_a)) (tn (nI n_a)))) 3 sp (tea (tn (nI n_a)) (tdy (ceF 1) (tn (nI i_a)) (tn (nI n_a)))) else sp) = sp := by simp [dur, duk, nI_0, hq1, hc2, hq3, hti_a, htn_a, hq4]
        have e23 : (if duk (nI jv2) (foc (lnF 1) (leF 1) (nI jv2) (nI i_a) (nI n_a)) (frun (ceF 1) (tn (nI i_a)) (tn (nI n_a)) 0 0 0 0) then tst (ceF 1) (tn (nI i_a)) (3 + (tdy (ceF 1) (tn (nI i_a)) (tn (nI n_a)))) 4 nd (tea (tn (nI n_a)) (tdy (ceF 1) (tn (nI i_a)) (tn (nI n_a)))) else nd) = nd := by simp [dur, duk, nI_0, hq1, hc2, hq3, hti_a, htn_a, hq4]
        have e24 : (if duk (nI jv2) (foc (lnF 1) (leF 1) (nI jv2) (nI i_a) (nI n_a)) (frun (ceF 1) (tn (nI i_a)) (tn (nI n_a)) 0 0 0 0) then 0 else C) = C := by simp [dur, duk, nI_0, hq1, hc2, hq3, hti_a, htn_a, hq4]
        exact z_iret X ZF dX4_duchy_73 (by simp [dur, duk, nI_0, hq1, hc2, hq3, hti_a, htn_a, hq4]) (by first | rw [e24, e23, e22, e21, e20, e19, e18, e17, e16, e15] | (simp only [e24, e23, e22, e21, e20, e19, e18, e17, e16, e15]))
    ·
      refine z_aload_n X dX4_duchy_45 rfl 2 rfl ?_
      refine z_iload X dX4_duchy_46 0 rfl ?_
      refine z_callV X (c_X4_faulted l g a (nI 0) tr (foc (lnF 1) (leF 1) (nI jv2) i n)) gX4_duchy_X4_faulted rfl ⟨rfl, rfl⟩ (by decide +kernel) ⟨Nat.le_of_ble_eq_true rfl, Nat.le_of_ble_eq_true rfl⟩ ZF.room (ci := 3) rfl 0 rfl (isC := [0]) (by decide) rfl rfl (ws' := (wO g a (foc (lnF 1) (leF 1) (nI jv2) i n) tr ++ (wD g a D E so lk kd st sp nd ++ (wR g a C rO rB rD rW ++ (wH g a ++ (wS g (a 15) (a 16) (lnF 1) (leF 1) (ceF 1))))))) rfl (As := [.int (foc (lnF 1) (leF 1) (nI jv2) i n)]) (n := 1) rfl rfl (st1 := [.int ((-10) - (foc (lnF 1) (leF 1) (nI jv2) i n))]) rfl (Nat.le_of_ble_eq_true rfl) dX4_duchy_48 ?_
      have e25 : (if zin (nI jv2) 3 then foc (lnF 1) (leF 1) (nI jv2) i n else nI 0) = (foc (lnF 1) (leF 1) (nI jv2) i n) := by simp [dur, duk, nI_0, hq1, hc2, hq3]
      have e26 : (if duk (nI jv2) (foc (lnF 1) (leF 1) (nI jv2) i n) (frun (ceF 1) (tn i) (tn n) 0 0 0 0) then (tdy (ceF 1) (tn i) (tn n)) else D) = D := by simp [dur, duk, nI_0, hq1, hc2, hq3]
      have e27 : (if duk (nI jv2) (foc (lnF 1) (leF 1) (nI jv2) i n) (frun (ceF 1) (tn i) (tn n) 0 0 0 0) then (tea (tn n) (tdy (ceF 1) (tn i) (tn n))) else E) = E := by simp [dur, duk, nI_0, hq1, hc2, hq3]
      have e28 : (if duk (nI jv2) (foc (lnF 1) (leF 1) (nI jv2) i n) (frun (ceF 1) (tn i) (tn n) 0 0 0 0) then ceF 1 (tn i + 1) - nI 48 else so) = so := by simp [dur, duk, nI_0, hq1, hc2, hq3]
      have e29 : (if duk (nI jv2) (foc (lnF 1) (leF 1) (nI jv2) i n) (frun (ceF 1) (tn i) (tn n) 0 0 0 0) then tlk (ceF 1) (tn i) lk (tdy (ceF 1) (tn i) (tn n)) else lk) = lk := by simp [dur, duk, nI_0, hq1, hc2, hq3]
      have e30 : (if duk (nI jv2) (foc (lnF 1) (leF 1) (nI jv2) i n) (frun (ceF 1) (tn i) (tn n) 0 0 0 0) then tkd (ceF 1) (tn i) (3 + (tdy (ceF 1) (tn i) (tn n))) kd (tea (tn n) (tdy (ceF 1) (tn i) (tn n))) else kd) = kd := by simp [dur, duk, nI_0, hq1, hc2, hq3]
      have e31 : (if duk (nI jv2) (foc (lnF 1) (leF 1) (nI jv2) i n) (frun (ceF 1) (tn i) (tn n) 0 0 0 0) then tst (ceF 1) (tn i) (3 + (tdy (ceF 1) (tn i) (tn n))) 2 st (tea (tn n) (tdy (ceF 1) (tn i) (tn n))) else st) = st := by simp [dur, duk, nI_0, hq1, hc2, hq3]
      have e32 : (if duk (nI jv2) (foc (lnF 1) (leF 1) (nI jv2) i n) (frun (ceF 1) (tn i) (tn n) 0 0 0 0) then tst (ceF 1) (tn i) (3 + (tdy (ceF 1) (tn i) (tn n))) 3 sp (tea (tn n) (tdy (ceF 1) (tn i) (tn n))) else sp) = sp := by simp [dur, duk, nI_0, hq1, hc2, hq3]
      have e33 : (if duk (nI jv2) (foc (lnF 1) (leF 1) (nI jv2) i n) (frun (ceF 1) (tn i) (tn n) 0 0 0 0) then tst (ceF 1) (tn i) (3 + (tdy (ceF 1) (tn i) (tn n))) 4 nd (tea (tn n) (tdy (ceF 1) (tn i) (tn n))) else nd) = nd := by simp [dur, duk, nI_0, hq1, hc2, hq3]
      have e34 : (if duk (nI jv2) (foc (lnF 1) (leF 1) (nI jv2) i n) (frun (ceF 1) (tn i) (tn n) 0 0 0 0) then 0 else C) = C := by simp [dur, duk, nI_0, hq1, hc2, hq3]
      exact z_iret X ZF dX4_duchy_51 (by simp [dur, duk, nI_0, hq1, hc2, hq3]) (by first | rw [e34, e33, e32, e31, e30, e29, e28, e27, e26, e25] | (simp only [e34, e33, e32, e31, e30, e29, e28, e27, e26, e25]))
  ·
    refine z_bipush (v := (-2)) X dX4_duchy_26 (by decide) ?_
    have e35 : (if zin lane 3 then foc (lnF 1) (leF 1) lane i n else nI 0) = (nI 0) := by simp [dur, duk, nI_0, hq1]
    have e36 : (if duk lane (foc (lnF 1) (leF 1) lane i n) (frun (ceF 1) (tn i) (tn n) 0 0 0 0) then (tdy (ceF 1) (tn i) (tn n)) else D) = D := by simp [dur, duk, nI_0, hq1]
    have e37 : (if duk lane (foc (lnF 1) (leF 1) lane i n) (frun (ceF 1) (tn i) (tn n) 0 0 0 0) then (tea (tn n) (tdy (ceF 1) (tn i) (tn n))) else E) = E := by simp [dur, duk, nI_0, hq1]
    have e38 : (if duk lane (foc (lnF 1) (leF 1) lane i n) (frun (ceF 1) (tn i) (tn n) 0 0 0 0) then ceF 1 (tn i + 1) - nI 48 else so) = so := by simp [dur, duk, nI_0, hq1]
    have e39 : (if duk lane (foc (lnF 1) (leF 1) lane i n) (frun (ceF 1) (tn i) (tn n) 0 0 0 0) then tlk (ceF 1) (tn i) lk (tdy (ceF 1) (tn i) (tn n)) else lk) = lk := by simp [dur, duk, nI_0, hq1]
    have e40 : (if duk lane (foc (lnF 1) (leF 1) lane i n) (frun (ceF 1) (tn i) (tn n) 0 0 0 0) then tkd (ceF 1) (tn i) (3 + (tdy (ceF 1) (tn i) (tn n))) kd (tea (tn n) (tdy (ceF 1) (tn i) (tn n))) else kd) = kd := by simp [dur, duk, nI_0, hq1]
    have e41 : (if duk lane (foc (lnF 1) (leF 1) lane i n) (frun (ceF 1) (tn i) (tn n) 0 0 0 0) then tst (ceF 1) (tn i) (3 + (tdy (ceF 1) (tn i) (tn n))) 2 st (tea (tn n) (tdy (ceF 1) (tn i) (tn n))) else st) = st := by simp [dur, duk, nI_0, hq1]
    have e42 : (if duk lane (foc (lnF 1) (leF 1) lane i n) (frun (ceF 1) (tn i) (tn n) 0 0 0 0) then tst (ceF 1) (tn i) (3 + (tdy (ceF 1) (tn i) (tn n))) 3 sp (tea (tn n) (tdy (ceF 1) (tn i) (tn n))) else sp) = sp := by simp [dur, duk, nI_0, hq1]
    have e43 : (if duk lane (foc (lnF 1) (leF 1) lane i n) (frun (ceF 1) (tn i) (tn n) 0 0 0 0) then tst (ceF 1) (tn i) (3 + (tdy (ceF 1) (tn i) (tn n))) 4 nd (tea (tn n) (tdy (ceF 1) (tn i) (tn n))) else nd) = nd := by simp [dur, duk, nI_0, hq1]
    have e44 : (if duk lane (foc (lnF 1) (leF 1) lane i n) (frun (ceF 1) (tn i) (tn n) 0 0 0 0) then 0 else C) = C := by simp [dur, duk, nI_0, hq1]
    exact z_iret X ZF dX4_duchy_28 (by simp [dur, duk, nI_0, hq1]) (by first | rw [e44, e43, e42, e41, e40, e39, e38, e37, e36, e35] | (simp only [e44, e43, e42, e41, e40, e39, e38, e37, e36, e35]))
abbrev rX4_plan_1 : Room := { frames := 6, cells := 0, slots := 0, locals := 135 }
set_option maxHeartbeats 4000000 in
set_option maxRecDepth 100000 in
theorem c_X4_plan_1 (l : Launch) (g : zg) (a : Nat → Nat) (ft : Int32) (tr : Int32) (D : Nat) (E : Nat) (so : Int32) (lk : Nat → Int32) (kd : Nat → Int32) (st : Nat → Int32) (sp : Nat → Int32) (nd : Nat → Int32) (lnF : Nat → Int32) (leF : Nat → Int32) (ceF : Nat → Nat → Int32) (lane : Int32) (i : Int32) (n : Int32) (w : Int32) (hle : vle (leF 1)) (hE : E ≤ 4) (hD : D ≤ 6) (hK : vK kd st E) (hSp : vS sp E) : zM l g yX4_plan wsX4_plan rX4_plan_1 [.ref (a 0), .int (nI 1), .int lane, .int i, .int n, .int w] (wO g a ft tr ++ (wD g a D E so lk kd st sp nd ++ (wH g a ++ (wS g (a 15) (a 16) (lnF 1) (leF 1) (ceF 1))))) (some (.int (plr lane w E (foc (lnF 1) (leF 1) lane i n) (decide (tn n = E) && alp (ceF 1) (tn i) D E) (ofp D E lk so kd st sp nd (ceF 1) (tn i) w)))) (wO g a (if zin lane 3 && apl w && decide (0 < E) then foc (lnF 1) (leF 1) lane i n else nI 0) tr ++ (wD g a D E so lk kd st sp nd ++ (wH g a ++ (wS g (a 15) (a 16) (lnF 1) (leF 1) (ceF 1))))) := by
  refine z_met (own := RX4) (cc := cX4_plan) (maxL := 8) (ret := some .int) (by decide +kernel) rfl rfl (Nat.le_of_ble_eq_true rfl) ?_
  intro M X ZF
  refine z_Le (L' := [(0, .ref (a 0)), (1, .int (nI 1)), (2, .int lane), (3, .int i), (4, .int n), (5, .int w)]) rfl ?_
  have hL := vK_L hK
  have i_RX4 : ∀ w ∈ wsX40, w ∈ wsX4_plan := by decide +kernel
  have f_32 : Cond.fieldLink RX4 32 (TX4 3).1 (TX4 3).2.1 (TX4 3).2.2.1 ∈ wsX4_plan := by decide +kernel
  have f_12 : Cond.fieldLink RX4 12 (TX4 0).1 (TX4 0).2.1 (TX4 0).2.2.1 ∈ wsX4_plan := by decide +kernel
  refine z_aload_n X dX4_plan_0 rfl 0 rfl ?_
  refine z_iconst (v := nI 0) X dX4_plan_1 (by decide) ?_
  refine z_put (ws' := (wO g a (nI 0) tr ++ (wD g a D E so lk kd st sp nd ++ (wH g a ++ (wS g (a 15) (a 16) (lnF 1) (leF 1) (ceF 1)))))) (N := 5) X i_RX4 (ci := 3) rfl tyX4 tyX4_ok nmX4 0 rfl 3 (by decide) f_32 rfl (ty := .int) (by decide +kernel) rfl rfl (Nat.le_of_ble_eq_true rfl) dX4_plan_2 rfl ?_
  refine z_aload_n X dX4_plan_5 rfl 0 rfl ?_
  refine z_iload_n X dX4_plan_6 rfl 1 rfl ?_
  refine z_callV X (c_X4_sheetAt_in l g a (nI 0) tr 1 (by omega)) gX4_plan_X4_sheetAt rfl ⟨rfl, rfl⟩ (by decide +kernel) ⟨Nat.le_of_ble_eq_true rfl, Nat.le_of_ble_eq_true rfl⟩ ZF.room (ci := 3) rfl 0 rfl (isC := [0, 7]) (by decide) rfl rfl (ws' := (wO g a (nI 0) tr ++ (wD g a D E so lk kd st sp nd ++ (wH g a ++ (wS g (a 15) (a 16) (lnF 1) (leF 1) (ceF 1)))))) rfl (As := [.int (nI 1)]) (n := 1) rfl rfl (st1 := [.ref (a 15)]) rfl (Nat.le_of_ble_eq_true rfl) dX4_plan_7 ?_
  refine z_astore (L' := [(6, .ref (a 15)), (0, .ref (a 0)), (1, .int (nI 1)), (2, .int lane), (3, .int i), (4, .int n), (5, .int w)]) X dX4_plan_10 (by decide) rfl ?_
  refine z_aload X dX4_plan_12 0 rfl ?_
  refine z_ifnonnull (tgt := 19) X dX4_plan_14 (by decide) ?_
  refine z_iload_n X dX4_plan_19 rfl 3 rfl ?_
  refine z_callS0 X (c_X4_isLane l g lane) gX4_plan_X4_isLane rfl ⟨rfl, rfl⟩ (by decide +kernel) ⟨Nat.le_of_ble_eq_true rfl, Nat.le_of_ble_eq_true rfl⟩ ZF.room (As := [.int lane]) (n := 1) rfl rfl (st1 := [.int (bI (zin lane 3))]) rfl (Nat.le_of_ble_eq_true rfl) dX4_plan_20 ?_
  refine z_if_eqB (tgt := 34) X dX4_plan_23 (by decide) (fun hq1 => ?_) (fun hq1 => ?_)
  ·
    refine z_bipush (v := (-2)) X dX4_plan_34 (by decide) ?_
    have e2 : (if zin lane 3 && apl w && decide (0 < E) then foc (lnF 1) (leF 1) lane i n else nI 0) = (nI 0) := by simp [plr, nI_0, hq1]
    exact z_iret X ZF dX4_plan_36 (by simp [plr, nI_0, hq1]) (by rw [e2])
  ·
    obtain ⟨jv3, hj3, ej3⟩ := zin_t (by omega) hq1
    subst ej3
    have hc3 : tn (nI jv3) = jv3 := nI_clamp (by omega)
    refine z_iload X dX4_plan_26 6 rfl ?_
    refine z_callS0 X (c_X4_isAskedOfPlans l g w) gX4_plan_X4_isAskedOfPlans rfl ⟨rfl, rfl⟩ (by decide +kernel) ⟨Nat.le_of_ble_eq_true rfl, Nat.le_of_ble_eq_true rfl⟩ ZF.room (As := [.int w]) (n := 1) rfl rfl (st1 := [.int (bI (apl w))]) rfl (Nat.le_of_ble_eq_true rfl) dX4_plan_28 ?_
    refine z_if_neB (tgt := 37) X dX4_plan_31 (by decide) (fun hq4 => ?_) (fun hq4 => ?_)
    ·
      refine z_aload_n X dX4_plan_37 rfl 1 rfl ?_
      refine z_get (v := .ref (a 1)) (N := 5) X i_RX4 (ci := 3) rfl 0 rfl 0 (by decide) f_12 rfl dX4_plan_38 ?_
      refine z_callV X (c_X0_isTold l g a D E so lk kd st sp nd (by omega)) gX4_plan_X0_isTold rfl ⟨rfl, rfl⟩ (by decide +kernel) ⟨Nat.le_of_ble_eq_true rfl, Nat.le_of_ble_eq_true rfl⟩ ZF.room (ci := 0) rfl 1 rfl (isC := [1, 2, 3, 4, 5, 6]) (by decide) rfl rfl (ws' := (wO g a (nI 0) tr ++ (wD g a D E so lk kd st sp nd ++ (wH g a ++ (wS g (a 15) (a 16) (lnF 1) (leF 1) (ceF 1)))))) rfl (As := []) (n := 0) rfl rfl (st1 := [.int (bI (decide (0 < E)))]) rfl (Nat.le_of_ble_eq_true rfl) dX4_plan_41 ?_
      refine z_if_neB (tgt := 50) X dX4_plan_44 (by decide) (fun hq5 => ?_) (fun hq5 => ?_)
      ·
        have hq6 : (0 < E) := of_decide_eq_true hq5
        refine z_aload X dX4_plan_50 0 rfl ?_
        refine z_iload_n X dX4_plan_52 rfl 3 rfl ?_
        refine z_iload_n X dX4_plan_53 rfl 4 rfl ?_
        refine z_iload X dX4_plan_54 5 rfl ?_
        refine z_callV X (c_X2_faultOfCells l g (a 15) (a 16) (lnF 1) (leF 1) (ceF 1) (nI jv3) i n) gX4_plan_X2_faultOfCells rfl ⟨rfl, rfl⟩ (by decide +kernel) ⟨Nat.le_of_ble_eq_true rfl, Nat.le_of_ble_eq_true rfl⟩ ZF.room (ci := 2) rfl 8 rfl (isC := [8, 9]) (by decide) rfl rfl (ws' := (wO g a (nI 0) tr ++ (wD g a D E so lk kd st sp nd ++ (wH g a ++ (wS g (a 15) (a 16) (lnF 1) (leF 1) (ceF 1)))))) rfl (As := [.int (nI jv3), .int i, .int n]) (n := 3) rfl rfl (st1 := [.int (foc (lnF 1) (leF 1) (nI jv3) i n)]) rfl (Nat.le_of_ble_eq_true rfl) dX4_plan_56 ?_
        refine z_istore (L' := [(7, .int (foc (lnF 1) (leF 1) (nI jv3) i n)), (6, .ref (a 15)), (0, .ref (a 0)), (1, .int (nI 1)), (2, .int (nI jv3)), (3, .int i), (4, .int n), (5, .int w)]) X dX4_plan_59 (by decide) rfl ?_
        refine z_iload X dX4_plan_61 0 rfl ?_
        refine z_if_eq (tgt := 73) X dX4_plan_63 (by decide) (fun hq7 => ?_) (fun hq7 => ?_)
        ·
          obtain ⟨i_a, n_a, ei_a, en_a, hin_a, m_a, hm_a, him_a⟩ := foc0 hle hq7
          subst ei_a; subst en_a
          have hti_a : tn (nI i_a) = i_a := nI_clamp (by omega)
          have htn_a : tn (nI n_a) = n_a := nI_clamp (by omega)
          refine z_aload_n X dX4_plan_73 rfl 2 rfl ?_
          refine z_get (v := .ref (a 1)) (N := 5) X i_RX4 (ci := 3) rfl 0 rfl 0 (by decide) f_12 rfl dX4_plan_74 ?_
          refine z_aload X dX4_plan_77 1 rfl ?_
          refine z_iload_n X dX4_plan_79 rfl 5 rfl ?_
          refine z_iload X dX4_plan_80 6 rfl ?_
          refine z_callV X (c_X0_hasPlan l g a (a 15) (a 16) D E so lk kd st sp nd (lnF 1) (leF 1) (ceF 1) i_a n_a (by omega) (by omega) (by omega)) gX4_plan_X0_hasPlan rfl ⟨rfl, rfl⟩ (by decide +kernel) ⟨Nat.le_of_ble_eq_true rfl, Nat.le_of_ble_eq_true rfl⟩ ZF.room (ci := 0) rfl 1 rfl (isC := [1, 2, 3, 4, 5, 6, 8, 9]) (by decide) rfl rfl (ws' := (wO g a (nI 0) tr ++ (wD g a D E so lk kd st sp nd ++ (wH g a ++ (wS g (a 15) (a 16) (lnF 1) (leF 1) (ceF 1)))))) rfl (As := [.ref (a 15), .int (nI i_a), .int (nI n_a)]) (n := 3) rfl rfl (st1 := [.int (bI (decide (n_a = E) && alp (ceF 1) i_a D E))]) rfl (Nat.le_of_ble_eq_true rfl) dX4_plan_82 ?_
          refine z_if_neB (tgt := 91) X dX4_plan_85 (by decide) (fun hq8 => ?_) (fun hq8 => ?_)
          ·
            have hpn_a : n_a = E ∧ alp (ceF 1) i_a D E = true := by simpa using hq8
            have hF := alp_hF hD hpn_a.2
            refine z_aload_n X dX4_plan_91 rfl 2 rfl ?_
            refine z_aload X dX4_plan_92 1 rfl ?_
            refine z_iload_n X dX4_plan_94 rfl 5 rfl ?_
            refine z_iload X dX4_plan_95 7 rfl ?_
            refine z_callV X (c_X4_ofPlan l g a (a 15) (a 16) (nI 0) tr D E so lk kd st sp nd (lnF 1) (leF 1) (ceF 1) i_a w (by omega) (by omega) (by omega) (by first | assumption | omega) (by first | assumption | omega) hF (by first | assumption | omega)) gX4_plan_X4_ofPlan rfl ⟨rfl, rfl⟩ (by decide +kernel) ⟨Nat.le_of_ble_eq_true rfl, Nat.le_of_ble_eq_true rfl⟩ ZF.room (ci := 3) rfl 0 rfl (isC := [0, 1, 2, 3, 4, 5, 6, 8, 9]) (by decide) rfl rfl (ws' := (wO g a (nI 0) tr ++ (wD g a D E so lk kd st sp nd ++ (wH g a ++ (wS g (a 15) (a 16) (lnF 1) (leF 1) (ceF 1)))))) rfl (As := [.ref (a 15), .int (nI i_a), .int w]) (n := 3) rfl rfl (st1 := [.int (ofp D E lk so kd st sp nd (ceF 1) i_a w)]) rfl (Nat.le_of_ble_eq_true rfl) dX4_plan_97 ?_
            have e9 : (if zin (nI jv3) 3 && apl w && decide (0 < E) then foc (lnF 1) (leF 1) (nI jv3) (nI i_a) (nI n_a) else nI 0) = (nI 0) := by simp [plr, nI_0, hq1, hc3, hq4, hq6, hq7, hti_a, htn_a, hq8]
            exact z_iret X ZF dX4_plan_100 (by simp [plr, nI_0, hq1, hc3, hq4, hq6, hq7, hti_a, htn_a, hq8]) (by rw [e9])
          ·
            refine z_bipush (v := (-2)) X dX4_plan_88 (by decide) ?_
            have e10 : (if zin (nI jv3) 3 && apl w && decide (0 < E) then foc (lnF 1) (leF 1) (nI jv3) (nI i_a) (nI n_a) else nI 0) = (nI 0) := by simp [plr, nI_0, hq1, hc3, hq4, hq6, hq7, hti_a, htn_a, hq8]
            exact z_iret X ZF dX4_plan_90 (by simp [plr, nI_0, hq1, hc3, hq4, hq6, hq7, hti_a, htn_a, hq8]) (by rw [e10])
        ·
          refine z_aload_n X dX4_plan_66 rfl 2 rfl ?_
          refine z_iload X dX4_plan_67 0 rfl ?_
          refine z_callV X (c_X4_faulted l g a (nI 0) tr (foc (lnF 1) (leF 1) (nI jv3) i n)) gX4_plan_X4_faulted rfl ⟨rfl, rfl⟩ (by decide +kernel) ⟨Nat.le_of_ble_eq_true rfl, Nat.le_of_ble_eq_true rfl⟩ ZF.room (ci := 3) rfl 0 rfl (isC := [0]) (by decide) rfl rfl (ws' := (wO g a (foc (lnF 1) (leF 1) (nI jv3) i n) tr ++ (wD g a D E so lk kd st sp nd ++ (wH g a ++ (wS g (a 15) (a 16) (lnF 1) (leF 1) (ceF 1)))))) rfl (As := [.int (foc (lnF 1) (leF 1) (nI jv3) i n)]) (n := 1) rfl rfl (st1 := [.int ((-10) - (foc (lnF 1) (leF 1) (nI jv3) i n))]) rfl (Nat.le_of_ble_eq_true rfl) dX4_plan_69 ?_
          have e11 : (if zin (nI jv3) 3 && apl w && decide (0 < E) then foc (lnF 1) (leF 1) (nI jv3) i n else nI 0) = (foc (lnF 1) (leF 1) (nI jv3) i n) := by simp [plr, nI_0, hq1, hc3, hq4, hq6, hq7]
          exact z_iret X ZF dX4_plan_72 (by simp [plr, nI_0, hq1, hc3, hq4, hq6, hq7]) (by rw [e11])
      ·
        have hq12 : ¬ (0 < E) := of_decide_eq_false hq5
        refine z_bipush (v := (-3)) X dX4_plan_47 (by decide) ?_
        have e13 : (if zin (nI jv3) 3 && apl w && decide (0 < E) then foc (lnF 1) (leF 1) (nI jv3) i n else nI 0) = (nI 0) := by simp [plr, nI_0, hq1, hc3, hq4, hq12]
        exact z_iret X ZF dX4_plan_49 (by simp [plr, nI_0, hq1, hc3, hq4, hq12]) (by rw [e13])
    ·
      refine z_bipush (v := (-2)) X dX4_plan_34 (by decide) ?_
      have e14 : (if zin (nI jv3) 3 && apl w && decide (0 < E) then foc (lnF 1) (leF 1) (nI jv3) i n else nI 0) = (nI 0) := by simp [plr, nI_0, hq1, hc3, hq4]
      exact z_iret X ZF dX4_plan_36 (by simp [plr, nI_0, hq1, hc3, hq4]) (by rw [e14])
abbrev rX4_sheet_1 : Room := { frames := 2, cells := 0, slots := 0, locals := 45 }
set_option maxHeartbeats 4000000 in
set_option maxRecDepth 100000 in
theorem c_X4_sheet_1 (l : Launch) (g : zg) (a : Nat → Nat) (ft : Int32) (tr : Int32) (lnF : Nat → Int32) (leF : Nat → Int32) (ceF : Nat → Nat → Int32) (lane : Int32) (n : Int32) : zM l g yX4_sheet wsX4_sheet rX4_sheet_1 [.ref (a 0), .int (nI 1), .int lane, .int n] (wO g a ft tr ++ (wH g a ++ (wS g (a 15) (a 16) (lnF 1) (leF 1) (ceF 1)))) (some (.int (if zin lane 3 && !decide (nI 60 < n) then (if 0 ≤ n then nI 1 else (-10) - nI 4) else -2))) (wO g a (if zin lane 3 && !decide (nI 60 < n) && !decide (0 ≤ n) then nI 4 else nI 0) tr ++ (wH g a ++ (wS g (a 15) (a 16) (if shk lane n then lane else lnF 1) (if shk lane n then n else leF 1) (if shk lane n then fil (ceF 1) (nI 0) 60 else ceF 1)))) := by
  refine z_met (own := RX4) (cc := cX4_sheet) (maxL := 5) (ret := some .int) (by decide +kernel) rfl rfl (Nat.le_of_ble_eq_true rfl) ?_
  intro M X ZF
  refine z_Le (L' := [(0, .ref (a 0)), (1, .int (nI 1)), (2, .int lane), (3, .int n)]) rfl ?_
  have i_RX4 : ∀ w ∈ wsX40, w ∈ wsX4_sheet := by decide +kernel
  have f_32 : Cond.fieldLink RX4 32 (TX4 3).1 (TX4 3).2.1 (TX4 3).2.2.1 ∈ wsX4_sheet := by decide +kernel
  refine z_aload_n X dX4_sheet_0 rfl 0 rfl ?_
  refine z_iconst (v := nI 0) X dX4_sheet_1 (by decide) ?_
  refine z_put (ws' := (wO g a (nI 0) tr ++ (wH g a ++ (wS g (a 15) (a 16) (lnF 1) (leF 1) (ceF 1))))) (N := 5) X i_RX4 (ci := 3) rfl tyX4 tyX4_ok nmX4 0 rfl 3 (by decide) f_32 rfl (ty := .int) (by decide +kernel) rfl rfl (Nat.le_of_ble_eq_true rfl) dX4_sheet_2 rfl ?_
  refine z_aload_n X dX4_sheet_5 rfl 0 rfl ?_
  refine z_iload_n X dX4_sheet_6 rfl 1 rfl ?_
  refine z_callV X (c_X4_sheetAt_in l g a (nI 0) tr 1 (by omega)) gX4_sheet_X4_sheetAt rfl ⟨rfl, rfl⟩ (by decide +kernel) ⟨Nat.le_of_ble_eq_true rfl, Nat.le_of_ble_eq_true rfl⟩ ZF.room (ci := 3) rfl 0 rfl (isC := [0, 1]) (by decide) rfl rfl (ws' := (wO g a (nI 0) tr ++ (wH g a ++ (wS g (a 15) (a 16) (lnF 1) (leF 1) (ceF 1))))) rfl (As := [.int (nI 1)]) (n := 1) rfl rfl (st1 := [.ref (a 15)]) rfl (Nat.le_of_ble_eq_true rfl) dX4_sheet_7 ?_
  refine z_astore (L' := [(4, .ref (a 15)), (0, .ref (a 0)), (1, .int (nI 1)), (2, .int lane), (3, .int n)]) X dX4_sheet_10 (by decide) rfl ?_
  refine z_aload X dX4_sheet_12 0 rfl ?_
  refine z_ifnonnull (tgt := 19) X dX4_sheet_14 (by decide) ?_
  refine z_iload_n X dX4_sheet_19 rfl 3 rfl ?_
  refine z_callS0 X (c_X4_isLane l g lane) gX4_sheet_X4_isLane rfl ⟨rfl, rfl⟩ (by decide +kernel) ⟨Nat.le_of_ble_eq_true rfl, Nat.le_of_ble_eq_true rfl⟩ ZF.room (As := [.int lane]) (n := 1) rfl rfl (st1 := [.int (bI (zin lane 3))]) rfl (Nat.le_of_ble_eq_true rfl) dX4_sheet_20 ?_
  refine z_if_eqB (tgt := 32) X dX4_sheet_23 (by decide) (fun hq1 => ?_) (fun hq1 => ?_)
  ·
    refine z_bipush (v := (-2)) X dX4_sheet_32 (by decide) ?_
    have e2 : (if zin lane 3 && !decide (nI 60 < n) && !decide (0 ≤ n) then nI 4 else nI 0) = (nI 0) := by first | (simp [shk, hq1]; done) | (simp [shk, hq1]; decide)
    have e3 : (if shk lane n then lane else lnF 1) = (lnF 1) := by first | (simp [shk, hq1]; done) | (simp [shk, hq1]; decide)
    have e4 : (if shk lane n then n else leF 1) = (leF 1) := by first | (simp [shk, hq1]; done) | (simp [shk, hq1]; decide)
    have e5 : (if shk lane n then fil (ceF 1) (nI 0) 60 else ceF 1) = (ceF 1) := by first | (simp [shk, hq1]; done) | (simp [shk, hq1]; decide)
    exact z_iret X ZF dX4_sheet_34 (by first | (simp [shk, hq1]; done) | (simp [shk, hq1]; decide)) (by first | rw [e5, e4, e3, e2] | (simp only [e5, e4, e3, e2]))
  ·
    refine z_iload_n X dX4_sheet_26 rfl 4 rfl ?_
    refine z_bipush (v := nI 60) X dX4_sheet_27 (by decide) ?_
    refine z_icmp_le (tgt := 35) X dX4_sheet_29 (by decide) (fun hq6 => ?_) (fun hq6 => ?_)
    ·
      refine z_iload_n X dX4_sheet_35 rfl 4 rfl ?_
      refine z_if_ge (tgt := 45) X dX4_sheet_36 (by decide) (fun hq7 => ?_) (fun hq7 => ?_)
      ·
        refine z_aload X dX4_sheet_45 0 rfl ?_
        refine z_iload_n X dX4_sheet_47 rfl 3 rfl ?_
        refine z_iload_n X dX4_sheet_48 rfl 4 rfl ?_
        refine z_callV X (c_X2_makeRow l g (a 15) (a 16) (lnF 1) (leF 1) (ceF 1) lane n) gX4_sheet_X2_makeRow rfl ⟨rfl, rfl⟩ (by decide +kernel) ⟨Nat.le_of_ble_eq_true rfl, Nat.le_of_ble_eq_true rfl⟩ ZF.room (ci := 2) rfl 2 rfl (isC := [2, 3]) (by decide) rfl rfl (ws' := (wO g a (nI 0) tr ++ (wH g a ++ (wS g (a 15) (a 16) lane n (fil (ceF 1) (nI 0) 60))))) rfl (As := [.int lane, .int n]) (n := 2) rfl rfl (st1 := []) rfl (Nat.le_of_ble_eq_true rfl) dX4_sheet_49 ?_
        refine z_iconst (v := nI 1) X dX4_sheet_52 (by decide) ?_
        have e8 : (if zin lane 3 && !decide (nI 60 < n) && !decide (0 ≤ n) then nI 4 else nI 0) = (nI 0) := by first | (simp [shk, hq1, hq6, hq7]; done) | (simp [shk, hq1, hq6, hq7]; decide)
        have e9 : (if shk lane n then lane else lnF 1) = lane := by first | (simp [shk, hq1, hq6, hq7]; done) | (simp [shk, hq1, hq6, hq7]; decide)
        have e10 : (if shk lane n then n else leF 1) = n := by first | (simp [shk, hq1, hq6, hq7]; done) | (simp [shk, hq1, hq6, hq7]; decide)
        have e11 : (if shk lane n then fil (ceF 1) (nI 0) 60 else ceF 1) = (fil (ceF 1) (nI 0) 60) := by first | (simp [shk, hq1, hq6, hq7]; done) | (simp [shk, hq1, hq6, hq7]; decide)
        exact z_iret X ZF dX4_sheet_53 (by first | (simp [shk, hq1, hq6, hq7]; done) | (simp [shk, hq1, hq6, hq7]; decide)) (by first | rw [e11, e10, e9, e8] | (simp only [e11, e10, e9, e8]))
      ·
        refine z_aload_n X dX4_sheet_39 rfl 1 rfl ?_
        refine z_iconst (v := nI 4) X dX4_sheet_40 (by decide) ?_
        refine z_callV X (c_X4_faulted l g a (nI 0) tr (nI 4)) gX4_sheet_X4_faulted rfl ⟨rfl, rfl⟩ (by decide +kernel) ⟨Nat.le_of_ble_eq_true rfl, Nat.le_of_ble_eq_true rfl⟩ ZF.room (ci := 3) rfl 0 rfl (isC := [0]) (by decide) rfl rfl (ws' := (wO g a (nI 4) tr ++ (wH g a ++ (wS g (a 15) (a 16) (lnF 1) (leF 1) (ceF 1))))) rfl (As := [.int (nI 4)]) (n := 1) rfl rfl (st1 := [.int ((-10) - (nI 4))]) rfl (Nat.le_of_ble_eq_true rfl) dX4_sheet_41 ?_
        have e12 : (if zin lane 3 && !decide (nI 60 < n) && !decide (0 ≤ n) then nI 4 else nI 0) = (nI 4) := by first | (simp [shk, hq1, hq6, hq7]; done) | (simp [shk, hq1, hq6, hq7]; decide)
        have e13 : (if shk lane n then lane else lnF 1) = (lnF 1) := by first | (simp [shk, hq1, hq6, hq7]; done) | (simp [shk, hq1, hq6, hq7]; decide)
        have e14 : (if shk lane n then n else leF 1) = (leF 1) := by first | (simp [shk, hq1, hq6, hq7]; done) | (simp [shk, hq1, hq6, hq7]; decide)
        have e15 : (if shk lane n then fil (ceF 1) (nI 0) 60 else ceF 1) = (ceF 1) := by first | (simp [shk, hq1, hq6, hq7]; done) | (simp [shk, hq1, hq6, hq7]; decide)
        exact z_iret X ZF dX4_sheet_44 (by first | (simp [shk, hq1, hq6, hq7]; done) | (simp [shk, hq1, hq6, hq7]; decide)) (by first | rw [e15, e14, e13, e12] | (simp only [e15, e14, e13, e12]))
    ·
      refine z_bipush (v := (-2)) X dX4_sheet_32 (by decide) ?_
      have e16 : (if zin lane 3 && !decide (nI 60 < n) && !decide (0 ≤ n) then nI 4 else nI 0) = (nI 0) := by first | (simp [shk, hq1, hq6]; done) | (simp [shk, hq1, hq6]; decide)
      have e17 : (if shk lane n then lane else lnF 1) = (lnF 1) := by first | (simp [shk, hq1, hq6]; done) | (simp [shk, hq1, hq6]; decide)
      have e18 : (if shk lane n then n else leF 1) = (leF 1) := by first | (simp [shk, hq1, hq6]; done) | (simp [shk, hq1, hq6]; decide)
      have e19 : (if shk lane n then fil (ceF 1) (nI 0) 60 else ceF 1) = (ceF 1) := by first | (simp [shk, hq1, hq6]; done) | (simp [shk, hq1, hq6]; decide)
      exact z_iret X ZF dX4_sheet_34 (by first | (simp [shk, hq1, hq6]; done) | (simp [shk, hq1, hq6]; decide)) (by first | rw [e19, e18, e17, e16] | (simp only [e19, e18, e17, e16]))
abbrev rX4_lose_1 : Room := { frames := 1, cells := 0, slots := 0, locals := 21 }
set_option maxHeartbeats 4000000 in
set_option maxRecDepth 100000 in
theorem c_X4_lose_1 (l : Launch) (g : zg) (a : Nat → Nat) (ft : Int32) (tr : Int32) (lnF : Nat → Int32) (leF : Nat → Int32) (ceF : Nat → Nat → Int32) : zM l g yX4_lose wsX4_lose rX4_lose_1 [.ref (a 0), .int (nI 1)] (wO g a ft tr ++ (wH g a ++ (wS g (a 15) (a 16) (lnF 1) (leF 1) (ceF 1)))) (some (.int (if leF 1 = (-1) then nI 0 else nI 1))) (wO g a ft tr ++ (wH g a ++ (wS g (a 15) (a 16) (lnF 1) (-1) (ceF 1)))) := by
  refine z_met (own := RX4) (cc := cX4_lose) (maxL := 3) (ret := some .int) (by decide +kernel) rfl rfl (Nat.le_of_ble_eq_true rfl) ?_
  intro M X ZF
  refine z_Le (L' := [(0, .ref (a 0)), (1, .int (nI 1))]) rfl ?_
  refine z_aload_n X dX4_lose_0 rfl 0 rfl ?_
  refine z_iload_n X dX4_lose_1 rfl 1 rfl ?_
  refine z_callV X (c_X4_sheetAt_in l g a ft tr 1 (by omega)) gX4_lose_X4_sheetAt rfl ⟨rfl, rfl⟩ (by decide +kernel) ⟨Nat.le_of_ble_eq_true rfl, Nat.le_of_ble_eq_true rfl⟩ ZF.room (ci := 3) rfl 0 rfl (isC := [0, 1]) (by decide) rfl rfl (ws' := (wO g a ft tr ++ (wH g a ++ (wS g (a 15) (a 16) (lnF 1) (leF 1) (ceF 1))))) rfl (As := [.int (nI 1)]) (n := 1) rfl rfl (st1 := [.ref (a 15)]) rfl (Nat.le_of_ble_eq_true rfl) dX4_lose_2 ?_
  refine z_astore_n (L' := [(2, .ref (a 15)), (0, .ref (a 0)), (1, .int (nI 1))]) X dX4_lose_5 rfl (by decide) rfl ?_
  refine z_aload_n X dX4_lose_6 rfl 0 rfl ?_
  refine z_ifnonnull (tgt := 12) X dX4_lose_7 (by decide) ?_
  refine z_aload_n X dX4_lose_12 rfl 0 rfl ?_
  refine z_callV X (c_X2_hasRow l g (a 15) (a 16) (lnF 1) (leF 1) (ceF 1)) gX4_lose_X2_hasRow rfl ⟨rfl, rfl⟩ (by decide +kernel) ⟨Nat.le_of_ble_eq_true rfl, Nat.le_of_ble_eq_true rfl⟩ ZF.room (ci := 2) rfl 2 rfl (isC := [2, 3]) (by decide) rfl rfl (ws' := (wO g a ft tr ++ (wH g a ++ (wS g (a 15) (a 16) (lnF 1) (leF 1) (ceF 1))))) rfl (As := []) (n := 0) rfl rfl (st1 := [.int (bI (!decide ((leF 1) = (-1))))]) rfl (Nat.le_of_ble_eq_true rfl) dX4_lose_13 ?_
  refine z_if_neB (tgt := 21) X dX4_lose_16 (by decide) (fun hq1 => ?_) (fun hq1 => ?_)
  ·
    have hq2 : (decide ((leF 1) = (-1))) = false := by simpa using hq1
    have hq3 : ¬ ((leF 1) = (-1)) := of_decide_eq_false hq2
    refine z_aload_n X dX4_lose_21 rfl 0 rfl ?_
    refine z_callV X (c_X2_dropRow l g (a 15) (a 16) (lnF 1) (leF 1) (ceF 1)) gX4_lose_X2_dropRow rfl ⟨rfl, rfl⟩ (by decide +kernel) ⟨Nat.le_of_ble_eq_true rfl, Nat.le_of_ble_eq_true rfl⟩ ZF.room (ci := 2) rfl 2 rfl (isC := [2, 3]) (by decide) rfl rfl (ws' := (wO g a ft tr ++ (wH g a ++ (wS g (a 15) (a 16) (lnF 1) (-1) (ceF 1))))) rfl (As := []) (n := 0) rfl rfl (st1 := []) rfl (Nat.le_of_ble_eq_true rfl) dX4_lose_22 ?_
    refine z_iconst (v := nI 1) X dX4_lose_25 (by decide) ?_
    exact z_iret X ZF dX4_lose_26 (by simp [hq3]) rfl
  ·
    have hq4 : (decide ((leF 1) = (-1))) = true := by simpa using hq1
    have hq5 : ((leF 1) = (-1)) := of_decide_eq_true hq4
    refine z_iconst (v := nI 0) X dX4_lose_19 (by decide) ?_
    have e6 : (-1) = (leF 1) := by simp [hq5]
    exact z_iret X ZF dX4_lose_20 (by simp [hq5]) (by rw [e6])
abbrev rX4_put_1 : Room := { frames := 2, cells := 0, slots := 0, locals := 45 }
set_option maxHeartbeats 4000000 in
set_option maxRecDepth 100000 in
theorem c_X4_put_1 (l : Launch) (g : zg) (a : Nat → Nat) (ft : Int32) (tr : Int32) (lnF : Nat → Int32) (leF : Nat → Int32) (ceF : Nat → Nat → Int32) (i : Int32) (v : Int32) (hle : vle (leF 1)) : zM l g yX4_put wsX4_put rX4_put_1 [.ref (a 0), .int (nI 1), .int i, .int v] (wO g a ft tr ++ (wH g a ++ (wS g (a 15) (a 16) (lnF 1) (leF 1) (ceF 1)))) (some (.int (if foc (lnF 1) (leF 1) (lnF 1) i (nI 1) = 0 then nI 1 else (-10) - foc (lnF 1) (leF 1) (lnF 1) i (nI 1)))) (wO g a (foc (lnF 1) (leF 1) (lnF 1) i (nI 1)) tr ++ (wH g a ++ (wS g (a 15) (a 16) (lnF 1) (leF 1) (if foc (lnF 1) (leF 1) (lnF 1) i (nI 1) = 0 then upd (ceF 1) (tn i) (cut (lnF 1) v) else ceF 1)))) := by
  refine z_met (own := RX4) (cc := cX4_put) (maxL := 6) (ret := some .int) (by decide +kernel) rfl rfl (Nat.le_of_ble_eq_true rfl) ?_
  intro M X ZF
  refine z_Le (L' := [(0, .ref (a 0)), (1, .int (nI 1)), (2, .int i), (3, .int v)]) rfl ?_
  have i_RX4 : ∀ w ∈ wsX40, w ∈ wsX4_put := by decide +kernel
  have f_32 : Cond.fieldLink RX4 32 (TX4 3).1 (TX4 3).2.1 (TX4 3).2.2.1 ∈ wsX4_put := by decide +kernel
  refine z_aload_n X dX4_put_0 rfl 0 rfl ?_
  refine z_iconst (v := nI 0) X dX4_put_1 (by decide) ?_
  refine z_put (ws' := (wO g a (nI 0) tr ++ (wH g a ++ (wS g (a 15) (a 16) (lnF 1) (leF 1) (ceF 1))))) (N := 5) X i_RX4 (ci := 3) rfl tyX4 tyX4_ok nmX4 0 rfl 3 (by decide) f_32 rfl (ty := .int) (by decide +kernel) rfl rfl (Nat.le_of_ble_eq_true rfl) dX4_put_2 rfl ?_
  refine z_aload_n X dX4_put_5 rfl 0 rfl ?_
  refine z_iload_n X dX4_put_6 rfl 1 rfl ?_
  refine z_callV X (c_X4_sheetAt_in l g a (nI 0) tr 1 (by omega)) gX4_put_X4_sheetAt rfl ⟨rfl, rfl⟩ (by decide +kernel) ⟨Nat.le_of_ble_eq_true rfl, Nat.le_of_ble_eq_true rfl⟩ ZF.room (ci := 3) rfl 0 rfl (isC := [0, 1]) (by decide) rfl rfl (ws' := (wO g a (nI 0) tr ++ (wH g a ++ (wS g (a 15) (a 16) (lnF 1) (leF 1) (ceF 1))))) rfl (As := [.int (nI 1)]) (n := 1) rfl rfl (st1 := [.ref (a 15)]) rfl (Nat.le_of_ble_eq_true rfl) dX4_put_7 ?_
  refine z_astore (L' := [(4, .ref (a 15)), (0, .ref (a 0)), (1, .int (nI 1)), (2, .int i), (3, .int v)]) X dX4_put_10 (by decide) rfl ?_
  refine z_aload X dX4_put_12 0 rfl ?_
  refine z_ifnonnull (tgt := 19) X dX4_put_14 (by decide) ?_
  refine z_aload X dX4_put_19 0 rfl ?_
  refine z_aload X dX4_put_21 0 rfl ?_
  refine z_callV X (c_X2_rowLane l g (a 15) (a 16) (lnF 1) (leF 1) (ceF 1)) gX4_put_X2_rowLane rfl ⟨rfl, rfl⟩ (by decide +kernel) ⟨Nat.le_of_ble_eq_true rfl, Nat.le_of_ble_eq_true rfl⟩ ZF.room (ci := 2) rfl 2 rfl (isC := [2, 3]) (by decide) rfl rfl (ws' := (wO g a (nI 0) tr ++ (wH g a ++ (wS g (a 15) (a 16) (lnF 1) (leF 1) (ceF 1))))) rfl (As := []) (n := 0) rfl rfl (st1 := [.int (lnF 1), .ref (a 15)]) rfl (Nat.le_of_ble_eq_true rfl) dX4_put_23 ?_
  refine z_iload_n X dX4_put_26 rfl 3 rfl ?_
  refine z_iconst (v := nI 1) X dX4_put_27 (by decide) ?_
  refine z_callV X (c_X2_faultOfCells l g (a 15) (a 16) (lnF 1) (leF 1) (ceF 1) (lnF 1) i (nI 1)) gX4_put_X2_faultOfCells rfl ⟨rfl, rfl⟩ (by decide +kernel) ⟨Nat.le_of_ble_eq_true rfl, Nat.le_of_ble_eq_true rfl⟩ ZF.room (ci := 2) rfl 2 rfl (isC := [2, 3]) (by decide) rfl rfl (ws' := (wO g a (nI 0) tr ++ (wH g a ++ (wS g (a 15) (a 16) (lnF 1) (leF 1) (ceF 1))))) rfl (As := [.int (lnF 1), .int i, .int (nI 1)]) (n := 3) rfl rfl (st1 := [.int (foc (lnF 1) (leF 1) (lnF 1) i (nI 1))]) rfl (Nat.le_of_ble_eq_true rfl) dX4_put_28 ?_
  refine z_istore (L' := [(5, .int (foc (lnF 1) (leF 1) (lnF 1) i (nI 1))), (4, .ref (a 15)), (0, .ref (a 0)), (1, .int (nI 1)), (2, .int i), (3, .int v)]) X dX4_put_31 (by decide) rfl ?_
  refine z_iload X dX4_put_33 0 rfl ?_
  refine z_if_eq (tgt := 45) X dX4_put_35 (by decide) (fun hq1 => ?_) (fun hq1 => ?_)
  ·
    obtain ⟨i_a, ei_a, hin_a, m_a, hm_a, him_a⟩ := foc1 hle hq1
    subst ei_a
    have hti_a : tn (nI i_a) = i_a := nI_clamp (by omega)
    refine z_aload X dX4_put_45 1 rfl ?_
    refine z_iload_n X dX4_put_47 rfl 4 rfl ?_
    refine z_iload_n X dX4_put_48 rfl 5 rfl ?_
    refine z_callV X (c_X2_write l g (a 15) (a 16) (lnF 1) (leF 1) (ceF 1) i_a v (by omega)) gX4_put_X2_write rfl ⟨rfl, rfl⟩ (by decide +kernel) ⟨Nat.le_of_ble_eq_true rfl, Nat.le_of_ble_eq_true rfl⟩ ZF.room (ci := 2) rfl 2 rfl (isC := [2, 3]) (by decide) rfl rfl (ws' := (wO g a (nI 0) tr ++ (wH g a ++ (wS g (a 15) (a 16) (lnF 1) (leF 1) (upd (ceF 1) i_a (cut (lnF 1) v)))))) rfl (As := [.int (nI i_a), .int v]) (n := 2) rfl rfl (st1 := []) rfl (Nat.le_of_ble_eq_true rfl) dX4_put_49 ?_
    refine z_iconst (v := nI 1) X dX4_put_52 (by decide) ?_
    have e2 : (foc (lnF 1) (leF 1) (lnF 1) (nI i_a) (nI 1)) = (nI 0) := by first | (simp [nI_0, hq1, hti_a]; done) | (simp [hq1, hti_a])
    have e3 : (if foc (lnF 1) (leF 1) (lnF 1) (nI i_a) (nI 1) = 0 then upd (ceF 1) (tn (nI i_a)) (cut (lnF 1) v) else ceF 1) = (upd (ceF 1) i_a (cut (lnF 1) v)) := by first | (simp [nI_0, hq1, hti_a]; done) | (simp [hq1, hti_a])
    exact z_iret X ZF dX4_put_53 (by first | (simp [nI_0, hq1, hti_a]; done) | (simp [hq1, hti_a])) (by first | rw [e3, e2] | (simp only [e3, e2]))
  ·
    refine z_aload_n X dX4_put_38 rfl 2 rfl ?_
    refine z_iload X dX4_put_39 0 rfl ?_
    refine z_callV X (c_X4_faulted l g a (nI 0) tr (foc (lnF 1) (leF 1) (lnF 1) i (nI 1))) gX4_put_X4_faulted rfl ⟨rfl, rfl⟩ (by decide +kernel) ⟨Nat.le_of_ble_eq_true rfl, Nat.le_of_ble_eq_true rfl⟩ ZF.room (ci := 3) rfl 0 rfl (isC := [0]) (by decide) rfl rfl (ws' := (wO g a (foc (lnF 1) (leF 1) (lnF 1) i (nI 1)) tr ++ (wH g a ++ (wS g (a 15) (a 16) (lnF 1) (leF 1) (ceF 1))))) rfl (As := [.int (foc (lnF 1) (leF 1) (lnF 1) i (nI 1))]) (n := 1) rfl rfl (st1 := [.int ((-10) - (foc (lnF 1) (leF 1) (lnF 1) i (nI 1)))]) rfl (Nat.le_of_ble_eq_true rfl) dX4_put_41 ?_
    have e4 : (if foc (lnF 1) (leF 1) (lnF 1) i (nI 1) = 0 then upd (ceF 1) (tn i) (cut (lnF 1) v) else ceF 1) = (ceF 1) := by first | (simp [nI_0, hq1]; done) | (simp [hq1])
    exact z_iret X ZF dX4_put_44 (by first | (simp [nI_0, hq1]; done) | (simp [hq1])) (by rw [e4])
abbrev rX4_cell_1 : Room := { frames := 2, cells := 0, slots := 0, locals := 45 }
set_option maxHeartbeats 4000000 in
set_option maxRecDepth 100000 in
theorem c_X4_cell_1 (l : Launch) (g : zg) (a : Nat → Nat) (ft : Int32) (tr : Int32) (lnF : Nat → Int32) (leF : Nat → Int32) (ceF : Nat → Nat → Int32) (i : Int32) (lane : Int32) (hle : vle (leF 1)) : zM l g yX4_cell wsX4_cell rX4_cell_1 [.ref (a 0), .int (nI 1), .int i, .int lane] (wO g a ft tr ++ (wH g a ++ (wS g (a 15) (a 16) (lnF 1) (leF 1) (ceF 1)))) (some (.long (if zin lane 3 && decide (foc (lnF 1) (leF 1) lane i (nI 1) = 0) then (ceF 1 (tn i)).toInt64 else -9223372036854775808))) (wO g a (if zin lane 3 then foc (lnF 1) (leF 1) lane i (nI 1) else nI 0) tr ++ (wH g a ++ (wS g (a 15) (a 16) (lnF 1) (leF 1) (ceF 1)))) := by
  refine z_met (own := RX4) (cc := cX4_cell) (maxL := 6) (ret := some .long) (by decide +kernel) rfl rfl (Nat.le_of_ble_eq_true rfl) ?_
  intro M X ZF
  refine z_Le (L' := [(0, .ref (a 0)), (1, .int (nI 1)), (2, .int i), (3, .int lane)]) rfl ?_
  have i_RX4 : ∀ w ∈ wsX40, w ∈ wsX4_cell := by decide +kernel
  have f_32 : Cond.fieldLink RX4 32 (TX4 3).1 (TX4 3).2.1 (TX4 3).2.2.1 ∈ wsX4_cell := by decide +kernel
  have k_189 : Cond.constantLong RX4 189 (-9223372036854775808) ∈ wsX4_cell := by decide +kernel
  refine z_aload_n X dX4_cell_0 rfl 0 rfl ?_
  refine z_iconst (v := nI 0) X dX4_cell_1 (by decide) ?_
  refine z_put (ws' := (wO g a (nI 0) tr ++ (wH g a ++ (wS g (a 15) (a 16) (lnF 1) (leF 1) (ceF 1))))) (N := 5) X i_RX4 (ci := 3) rfl tyX4 tyX4_ok nmX4 0 rfl 3 (by decide) f_32 rfl (ty := .int) (by decide +kernel) rfl rfl (Nat.le_of_ble_eq_true rfl) dX4_cell_2 rfl ?_
  refine z_aload_n X dX4_cell_5 rfl 0 rfl ?_
  refine z_iload_n X dX4_cell_6 rfl 1 rfl ?_
  refine z_callV X (c_X4_sheetAt_in l g a (nI 0) tr 1 (by omega)) gX4_cell_X4_sheetAt rfl ⟨rfl, rfl⟩ (by decide +kernel) ⟨Nat.le_of_ble_eq_true rfl, Nat.le_of_ble_eq_true rfl⟩ ZF.room (ci := 3) rfl 0 rfl (isC := [0, 1]) (by decide) rfl rfl (ws' := (wO g a (nI 0) tr ++ (wH g a ++ (wS g (a 15) (a 16) (lnF 1) (leF 1) (ceF 1))))) rfl (As := [.int (nI 1)]) (n := 1) rfl rfl (st1 := [.ref (a 15)]) rfl (Nat.le_of_ble_eq_true rfl) dX4_cell_7 ?_
  refine z_astore (L' := [(4, .ref (a 15)), (0, .ref (a 0)), (1, .int (nI 1)), (2, .int i), (3, .int lane)]) X dX4_cell_10 (by decide) rfl ?_
  refine z_aload X dX4_cell_12 0 rfl ?_
  refine z_ifnull X dX4_cell_14 ?_
  refine z_iload_n X dX4_cell_17 rfl 4 rfl ?_
  refine z_callS0 X (c_X4_isLane l g lane) gX4_cell_X4_isLane rfl ⟨rfl, rfl⟩ (by decide +kernel) ⟨Nat.le_of_ble_eq_true rfl, Nat.le_of_ble_eq_true rfl⟩ ZF.room (As := [.int lane]) (n := 1) rfl rfl (st1 := [.int (bI (zin lane 3))]) rfl (Nat.le_of_ble_eq_true rfl) dX4_cell_18 ?_
  refine z_if_neB (tgt := 28) X dX4_cell_21 (by decide) (fun hq1 => ?_) (fun hq1 => ?_)
  ·
    refine z_aload X dX4_cell_28 0 rfl ?_
    refine z_iload_n X dX4_cell_30 rfl 4 rfl ?_
    refine z_iload_n X dX4_cell_31 rfl 3 rfl ?_
    refine z_iconst (v := nI 1) X dX4_cell_32 (by decide) ?_
    refine z_callV X (c_X2_faultOfCells l g (a 15) (a 16) (lnF 1) (leF 1) (ceF 1) lane i (nI 1)) gX4_cell_X2_faultOfCells rfl ⟨rfl, rfl⟩ (by decide +kernel) ⟨Nat.le_of_ble_eq_true rfl, Nat.le_of_ble_eq_true rfl⟩ ZF.room (ci := 2) rfl 2 rfl (isC := [2, 3]) (by decide) rfl rfl (ws' := (wO g a (nI 0) tr ++ (wH g a ++ (wS g (a 15) (a 16) (lnF 1) (leF 1) (ceF 1))))) rfl (As := [.int lane, .int i, .int (nI 1)]) (n := 3) rfl rfl (st1 := [.int (foc (lnF 1) (leF 1) lane i (nI 1))]) rfl (Nat.le_of_ble_eq_true rfl) dX4_cell_33 ?_
    refine z_istore (L' := [(5, .int (foc (lnF 1) (leF 1) lane i (nI 1))), (4, .ref (a 15)), (0, .ref (a 0)), (1, .int (nI 1)), (2, .int i), (3, .int lane)]) X dX4_cell_36 (by decide) rfl ?_
    refine z_iload X dX4_cell_38 0 rfl ?_
    refine z_if_eq (tgt := 53) X dX4_cell_40 (by decide) (fun hq2 => ?_) (fun hq2 => ?_)
    ·
      obtain ⟨i_a, ei_a, hin_a, m_a, hm_a, him_a⟩ := foc1 hle hq2
      subst ei_a
      have hti_a : tn (nI i_a) = i_a := nI_clamp (by omega)
      refine z_aload X dX4_cell_53 1 rfl ?_
      refine z_iload_n X dX4_cell_55 rfl 4 rfl ?_
      refine z_callV X (c_X2_numberAt l g (a 15) (a 16) (lnF 1) (leF 1) (ceF 1) i_a (by omega)) gX4_cell_X2_numberAt rfl ⟨rfl, rfl⟩ (by decide +kernel) ⟨Nat.le_of_ble_eq_true rfl, Nat.le_of_ble_eq_true rfl⟩ ZF.room (ci := 2) rfl 2 rfl (isC := [2, 3]) (by decide) rfl rfl (ws' := (wO g a (nI 0) tr ++ (wH g a ++ (wS g (a 15) (a 16) (lnF 1) (leF 1) (ceF 1))))) rfl (As := [.int (nI i_a)]) (n := 1) rfl rfl (st1 := [.int ((ceF 1) i_a)]) rfl (Nat.le_of_ble_eq_true rfl) dX4_cell_56 ?_
      refine z_i2l (v := ((ceF 1) i_a).toInt64) X dX4_cell_59 rfl ?_
      have e3 : (if zin lane 3 then foc (lnF 1) (leF 1) lane (nI i_a) (nI 1) else nI 0) = (nI 0) := by first | (simp [nI_0, hq1, hq2, hti_a]; done) | (simp [hq1, hq2, hti_a])
      exact z_lret X ZF dX4_cell_60 (by first | (simp [nI_0, hq1, hq2, hti_a]; done) | (simp [hq1, hq2, hti_a])) (by rw [e3])
    ·
      refine z_aload_n X dX4_cell_43 rfl 2 rfl ?_
      refine z_iload X dX4_cell_44 0 rfl ?_
      refine z_put (ws' := (wO g a (foc (lnF 1) (leF 1) lane i (nI 1)) tr ++ (wH g a ++ (wS g (a 15) (a 16) (lnF 1) (leF 1) (ceF 1))))) (N := 5) X i_RX4 (ci := 3) rfl tyX4 tyX4_ok nmX4 0 rfl 3 (by decide) f_32 rfl (ty := .int) (by decide +kernel) rfl rfl (Nat.le_of_ble_eq_true rfl) dX4_cell_46 rfl ?_
      refine z_ldc2 (v := -9223372036854775808) X dX4_cell_49 k_189 ?_
      have e4 : (if zin lane 3 then foc (lnF 1) (leF 1) lane i (nI 1) else nI 0) = (foc (lnF 1) (leF 1) lane i (nI 1)) := by first | (simp [nI_0, hq1, hq2]; done) | (simp [hq1, hq2])
      exact z_lret X ZF dX4_cell_52 (by first | (simp [nI_0, hq1, hq2]; done) | (simp [hq1, hq2])) (by rw [e4])
  ·
    refine z_ldc2 (v := -9223372036854775808) X dX4_cell_24 k_189 ?_
    have e5 : (if zin lane 3 then foc (lnF 1) (leF 1) lane i (nI 1) else nI 0) = (nI 0) := by first | (simp [nI_0, hq1]; done) | (simp [hq1])
    exact z_lret X ZF dX4_cell_27 (by first | (simp [nI_0, hq1]; done) | (simp [hq1])) (by rw [e5])
abbrev rX4_duchy_2 : Room := { frames := 4, cells := 0, slots := 0, locals := 92 }
set_option maxHeartbeats 4000000 in
set_option maxRecDepth 100000 in
theorem c_X4_duchy_2 (l : Launch) (g : zg) (a : Nat → Nat) (ft : Int32) (tr : Int32) (D : Nat) (E : Nat) (so : Int32) (lk : Nat → Int32) (kd : Nat → Int32) (st : Nat → Int32) (sp : Nat → Int32) (nd : Nat → Int32) (C : Nat) (rO : Nat → Int32) (rB : Nat → Int32) (rD : Nat → Int32) (rW : Nat → Int32) (lnF : Nat → Int32) (leF : Nat → Int32) (ceF : Nat → Nat → Int32) (lane : Int32) (i : Int32) (n : Int32) (hle : vle (leF 2)) (hE : E ≤ 4) : zM l g yX4_duchy wsX4_duchy rX4_duchy_2 [.ref (a 0), .int (nI 2), .int lane, .int i, .int n] (wO g a ft tr ++ (wD g a D E so lk kd st sp nd ++ (wR g a C rO rB rD rW ++ (wH g a ++ (wS g (a 17) (a 18) (lnF 2) (leF 2) (ceF 2)))))) (some (.int (dur lane (foc (lnF 2) (leF 2) lane i n) (frun (ceF 2) (tn i) (tn n) 0 0 0 0) (tea (tn n) (tdy (ceF 2) (tn i) (tn n)))))) (wO g a (if zin lane 3 then foc (lnF 2) (leF 2) lane i n else nI 0) tr ++ (wD g a (if duk lane (foc (lnF 2) (leF 2) lane i n) (frun (ceF 2) (tn i) (tn n) 0 0 0 0) then (tdy (ceF 2) (tn i) (tn n)) else D) (if duk lane (foc (lnF 2) (leF 2) lane i n) (frun (ceF 2) (tn i) (tn n) 0 0 0 0) then (tea (tn n) (tdy (ceF 2) (tn i) (tn n))) else E) (if duk lane (foc (lnF 2) (leF 2) lane i n) (frun (ceF 2) (tn i) (tn n) 0 0 0 0) then ceF 2 (tn i + 1) - nI 48 else so) (if duk lane (foc (lnF 2) (leF 2) lane i n) (frun (ceF 2) (tn i) (tn n) 0 0 0 0) then tlk (ceF 2) (tn i) lk (tdy (ceF 2) (tn i) (tn n)) else lk) (if duk lane (foc (lnF 2) (leF 2) lane i n) (frun (ceF 2) (tn i) (tn n) 0 0 0 0) then tkd (ceF 2) (tn i) (3 + (tdy (ceF 2) (tn i) (tn n))) kd (tea (tn n) (tdy (ceF 2) (tn i) (tn n))) else kd) (if duk lane (foc (lnF 2) (leF 2) lane i n) (frun (ceF 2) (tn i) (tn n) 0 0 0 0) then tst (ceF 2) (tn i) (3 + (tdy (ceF 2) (tn i) (tn n))) 2 st (tea (tn n) (tdy (ceF 2) (tn i) (tn n))) else st) (if duk lane (foc (lnF 2) (leF 2) lane i n) (frun (ceF 2) (tn i) (tn n) 0 0 0 0) then tst (ceF 2) (tn i) (3 + (tdy (ceF 2) (tn i) (tn n))) 3 sp (tea (tn n) (tdy (ceF 2) (tn i) (tn n))) else sp) (if duk lane (foc (lnF 2) (leF 2) lane i n) (frun (ceF 2) (tn i) (tn n) 0 0 0 0) then tst (ceF 2) (tn i) (3 + (tdy (ceF 2) (tn i) (tn n))) 4 nd (tea (tn n) (tdy (ceF 2) (tn i) (tn n))) else nd) ++ (wR g a (if duk lane (foc (lnF 2) (leF 2) lane i n) (frun (ceF 2) (tn i) (tn n) 0 0 0 0) then 0 else C) rO rB rD rW ++ (wH g a ++ (wS g (a 17) (a 18) (lnF 2) (leF 2) (ceF 2)))))) := by
  refine z_met (own := RX4) (cc := cX4_duchy) (maxL := 8) (ret := some .int) (by decide +kernel) rfl rfl (Nat.le_of_ble_eq_true rfl) ?_
  intro M X ZF
  refine z_Le (L' := [(0, .ref (a 0)), (1, .int (nI 2)), (2, .int lane), (3, .int i), (4, .int n)]) rfl ?_
  have i_RX4 : ∀ w ∈ wsX40, w ∈ wsX4_duchy := by decide +kernel
  have f_32 : Cond.fieldLink RX4 32 (TX4 3).1 (TX4 3).2.1 (TX4 3).2.2.1 ∈ wsX4_duchy := by decide +kernel
  have f_12 : Cond.fieldLink RX4 12 (TX4 0).1 (TX4 0).2.1 (TX4 0).2.2.1 ∈ wsX4_duchy := by decide +kernel
  have f_21 : Cond.fieldLink RX4 21 (TX4 1).1 (TX4 1).2.1 (TX4 1).2.2.1 ∈ wsX4_duchy := by decide +kernel
  refine z_aload_n X dX4_duchy_0 rfl 0 rfl ?_
  refine z_iconst (v := nI 0) X dX4_duchy_1 (by decide) ?_
  refine z_put (ws' := (wO g a (nI 0) tr ++ (wD g a D E so lk kd st sp nd ++ (wR g a C rO rB rD rW ++ (wH g a ++ (wS g (a 17) (a 18) (lnF 2) (leF 2) (ceF 2))))))) (N := 5) X i_RX4 (ci := 3) rfl tyX4 tyX4_ok nmX4 0 rfl 3 (by decide) f_32 rfl (ty := .int) (by decide +kernel) rfl rfl (Nat.le_of_ble_eq_true rfl) dX4_duchy_2 rfl ?_
  refine z_aload_n X dX4_duchy_5 rfl 0 rfl ?_
  refine z_iload_n X dX4_duchy_6 rfl 1 rfl ?_
  refine z_callV X (c_X4_sheetAt_in l g a (nI 0) tr 2 (by omega)) gX4_duchy_X4_sheetAt rfl ⟨rfl, rfl⟩ (by decide +kernel) ⟨Nat.le_of_ble_eq_true rfl, Nat.le_of_ble_eq_true rfl⟩ ZF.room (ci := 3) rfl 0 rfl (isC := [0, 12]) (by decide) rfl rfl (ws' := (wO g a (nI 0) tr ++ (wD g a D E so lk kd st sp nd ++ (wR g a C rO rB rD rW ++ (wH g a ++ (wS g (a 17) (a 18) (lnF 2) (leF 2) (ceF 2))))))) rfl (As := [.int (nI 2)]) (n := 1) rfl rfl (st1 := [.ref (a 17)]) rfl (Nat.le_of_ble_eq_true rfl) dX4_duchy_7 ?_
  refine z_astore (L' := [(5, .ref (a 17)), (0, .ref (a 0)), (1, .int (nI 2)), (2, .int lane), (3, .int i), (4, .int n)]) X dX4_duchy_10 (by decide) rfl ?_
  refine z_aload X dX4_duchy_12 0 rfl ?_
  refine z_ifnonnull (tgt := 19) X dX4_duchy_14 (by decide) ?_
  refine z_iload_n X dX4_duchy_19 rfl 3 rfl ?_
  refine z_callS0 X (c_X4_isLane l g lane) gX4_duchy_X4_isLane rfl ⟨rfl, rfl⟩ (by decide +kernel) ⟨Nat.le_of_ble_eq_true rfl, Nat.le_of_ble_eq_true rfl⟩ ZF.room (As := [.int lane]) (n := 1) rfl rfl (st1 := [.int (bI (zin lane 3))]) rfl (Nat.le_of_ble_eq_true rfl) dX4_duchy_20 ?_
  refine z_if_neB (tgt := 29) X dX4_duchy_23 (by decide) (fun hq1 => ?_) (fun hq1 => ?_)
  ·
    obtain ⟨jv2, hj2, ej2⟩ := zin_t (by omega) hq1
    subst ej2
    have hc2 : tn (nI jv2) = jv2 := nI_clamp (by omega)
    refine z_aload X dX4_duchy_29 0 rfl ?_
    refine z_iload_n X dX4_duchy_31 rfl 3 rfl ?_
    refine z_iload_n X dX4_duchy_32 rfl 4 rfl ?_
    refine z_iload X dX4_duchy_33 5 rfl ?_
    refine z_callV X (c_X2_faultOfCells l g (a 17) (a 18) (lnF 2) (leF 2) (ceF 2) (nI jv2) i n) gX4_duchy_X2_faultOfCells rfl ⟨rfl, rfl⟩ (by decide +kernel) ⟨Nat.le_of_ble_eq_true rfl, Nat.le_of_ble_eq_true rfl⟩ ZF.room (ci := 2) rfl 13 rfl (isC := [13, 14]) (by decide) rfl rfl (ws' := (wO g a (nI 0) tr ++ (wD g a D E so lk kd st sp nd ++ (wR g a C rO rB rD rW ++ (wH g a ++ (wS g (a 17) (a 18) (lnF 2) (leF 2) (ceF 2))))))) rfl (As := [.int (nI jv2), .int i, .int n]) (n := 3) rfl rfl (st1 := [.int (foc (lnF 2) (leF 2) (nI jv2) i n)]) rfl (Nat.le_of_ble_eq_true rfl) dX4_duchy_35 ?_
    refine z_istore (L' := [(6, .int (foc (lnF 2) (leF 2) (nI jv2) i n)), (5, .ref (a 17)), (0, .ref (a 0)), (1, .int (nI 2)), (2, .int (nI jv2)), (3, .int i), (4, .int n)]) X dX4_duchy_38 (by decide) rfl ?_
    refine z_iload X dX4_duchy_40 0 rfl ?_
    refine z_if_eq (tgt := 52) X dX4_duchy_42 (by decide) (fun hq3 => ?_) (fun hq3 => ?_)
    ·
      obtain ⟨i_a, n_a, ei_a, en_a, hin_a, m_a, hm_a, him_a⟩ := foc0 hle hq3
      subst ei_a; subst en_a
      have hti_a : tn (nI i_a) = i_a := nI_clamp (by omega)
      have htn_a : tn (nI n_a) = n_a := nI_clamp (by omega)
      refine z_aload X dX4_duchy_52 1 rfl ?_
      refine z_iload_n X dX4_duchy_54 rfl 5 rfl ?_
      refine z_iload X dX4_duchy_55 6 rfl ?_
      refine z_callS X (c_X3_firstFault l g (a 17) (a 18) (lnF 2) (leF 2) (ceF 2) i_a n_a (by omega)) gX4_duchy_X3_firstFault rfl ⟨rfl, rfl⟩ (by decide +kernel) ⟨Nat.le_of_ble_eq_true rfl, Nat.le_of_ble_eq_true rfl⟩ ZF.room (isC := [13, 14]) (by decide) rfl rfl (ws' := (wO g a (nI 0) tr ++ (wD g a D E so lk kd st sp nd ++ (wR g a C rO rB rD rW ++ (wH g a ++ (wS g (a 17) (a 18) (lnF 2) (leF 2) (ceF 2))))))) rfl (As := [.ref (a 17), .int (nI i_a), .int (nI n_a)]) (n := 3) rfl rfl (st1 := [.int (frun (ceF 2) i_a n_a 0 0 0 0)]) rfl (Nat.le_of_ble_eq_true rfl) dX4_duchy_57 ?_
      refine z_istore (L' := [(7, .int (frun (ceF 2) i_a n_a 0 0 0 0)), (6, .int (foc (lnF 2) (leF 2) (nI jv2) (nI i_a) (nI n_a))), (5, .ref (a 17)), (0, .ref (a 0)), (1, .int (nI 2)), (2, .int (nI jv2)), (3, .int (nI i_a)), (4, .int (nI n_a))]) X dX4_duchy_60 (by decide) rfl ?_
      refine z_iload X dX4_duchy_62 0 rfl ?_
      refine z_iconst (v := (-1)) X dX4_duchy_64 (by decide) ?_
      refine z_icmp_eq (tgt := 74) X dX4_duchy_65 (by decide) (fun hq4 => ?_) (fun hq4 => ?_)
      ·
        refine z_aload_n X dX4_duchy_74 rfl 3 rfl ?_
        refine z_get (v := .ref (a 1)) (N := 5) X i_RX4 (ci := 3) rfl 0 rfl 0 (by decide) f_12 rfl dX4_duchy_75 ?_
        refine z_aload X dX4_duchy_78 2 rfl ?_
        refine z_iload_n X dX4_duchy_80 rfl 6 rfl ?_
        refine z_iload X dX4_duchy_81 7 rfl ?_
        refine z_callV X (c_X0_takeText l g a (a 17) (a 18) D E so lk kd st sp nd (lnF 2) (leF 2) (ceF 2) i_a n_a (by omega) (frun_2 hq4)) gX4_duchy_X0_takeText rfl ⟨rfl, rfl⟩ (by decide +kernel) ⟨Nat.le_of_ble_eq_true rfl, Nat.le_of_ble_eq_true rfl⟩ ZF.room (ci := 0) rfl 1 rfl (isC := [1, 2, 3, 4, 5, 6, 13, 14]) (by decide) rfl rfl (ws' := (wO g a (nI 0) tr ++ (wD g a (tdy (ceF 2) i_a n_a) (tea n_a (tdy (ceF 2) i_a n_a)) ((ceF 2) (i_a + 1) - nI 48) (tlk (ceF 2) i_a lk (tdy (ceF 2) i_a n_a)) (tkd (ceF 2) i_a (3 + tdy (ceF 2) i_a n_a) kd (tea n_a (tdy (ceF 2) i_a n_a))) (tst (ceF 2) i_a (3 + tdy (ceF 2) i_a n_a) 2 st (tea n_a (tdy (ceF 2) i_a n_a))) (tst (ceF 2) i_a (3 + tdy (ceF 2) i_a n_a) 3 sp (tea n_a (tdy (ceF 2) i_a n_a))) (tst (ceF 2) i_a (3 + tdy (ceF 2) i_a n_a) 4 nd (tea n_a (tdy (ceF 2) i_a n_a))) ++ (wR g a C rO rB rD rW ++ (wH g a ++ (wS g (a 17) (a 18) (lnF 2) (leF 2) (ceF 2))))))) rfl (As := [.ref (a 17), .int (nI i_a), .int (nI n_a)]) (n := 3) rfl rfl (st1 := []) rfl (Nat.le_of_ble_eq_true rfl) dX4_duchy_83 ?_
        refine z_aload_n X dX4_duchy_86 rfl 3 rfl ?_
        refine z_get (v := .ref (a 7)) (N := 5) X i_RX4 (ci := 3) rfl 0 rfl 1 (by decide) f_21 rfl dX4_duchy_87 ?_
        refine z_callV X (c_X1_dropAll l g a C rO rB rD rW) gX4_duchy_X1_dropAll rfl ⟨rfl, rfl⟩ (by decide +kernel) ⟨Nat.le_of_ble_eq_true rfl, Nat.le_of_ble_eq_true rfl⟩ ZF.room (ci := 1) rfl 7 rfl (isC := [7, 8, 9, 10, 11]) (by decide) rfl rfl (ws' := (wO g a (nI 0) tr ++ (wD g a (tdy (ceF 2) i_a n_a) (tea n_a (tdy (ceF 2) i_a n_a)) ((ceF 2) (i_a + 1) - nI 48) (tlk (ceF 2) i_a lk (tdy (ceF 2) i_a n_a)) (tkd (ceF 2) i_a (3 + tdy (ceF 2) i_a n_a) kd (tea n_a (tdy (ceF 2) i_a n_a))) (tst (ceF 2) i_a (3 + tdy (ceF 2) i_a n_a) 2 st (tea n_a (tdy (ceF 2) i_a n_a))) (tst (ceF 2) i_a (3 + tdy (ceF 2) i_a n_a) 3 sp (tea n_a (tdy (ceF 2) i_a n_a))) (tst (ceF 2) i_a (3 + tdy (ceF 2) i_a n_a) 4 nd (tea n_a (tdy (ceF 2) i_a n_a))) ++ (wR g a 0 rO rB rD rW ++ (wH g a ++ (wS g (a 17) (a 18) (lnF 2) (leF 2) (ceF 2))))))) rfl (As := []) (n := 0) rfl rfl (st1 := []) rfl (Nat.le_of_ble_eq_true rfl) dX4_duchy_90 ?_
        refine z_aload_n X dX4_duchy_93 rfl 3 rfl ?_
        refine z_get (v := .ref (a 1)) (N := 5) X i_RX4 (ci := 3) rfl 0 rfl 0 (by decide) f_12 rfl dX4_duchy_94 ?_
        refine z_callV X (c_X0_eaterCount l g a (tdy (ceF 2) i_a n_a) (tea n_a (tdy (ceF 2) i_a n_a)) ((ceF 2) (i_a + 1) - nI 48) (tlk (ceF 2) i_a lk (tdy (ceF 2) i_a n_a)) (tkd (ceF 2) i_a (3 + tdy (ceF 2) i_a n_a) kd (tea n_a (tdy (ceF 2) i_a n_a))) (tst (ceF 2) i_a (3 + tdy (ceF 2) i_a n_a) 2 st (tea n_a (tdy (ceF 2) i_a n_a))) (tst (ceF 2) i_a (3 + tdy (ceF 2) i_a n_a) 3 sp (tea n_a (tdy (ceF 2) i_a n_a))) (tst (ceF 2) i_a (3 + tdy (ceF 2) i_a n_a) 4 nd (tea n_a (tdy (ceF 2) i_a n_a)))) gX4_duchy_X0_eaterCount rfl ⟨rfl, rfl⟩ (by decide +kernel) ⟨Nat.le_of_ble_eq_true rfl, Nat.le_of_ble_eq_true rfl⟩ ZF.room (ci := 0) rfl 1 rfl (isC := [1, 2, 3, 4, 5, 6]) (by decide) rfl rfl (ws' := (wO g a (nI 0) tr ++ (wD g a (tdy (ceF 2) i_a n_a) (tea n_a (tdy (ceF 2) i_a n_a)) ((ceF 2) (i_a + 1) - nI 48) (tlk (ceF 2) i_a lk (tdy (ceF 2) i_a n_a)) (tkd (ceF 2) i_a (3 + tdy (ceF 2) i_a n_a) kd (tea n_a (tdy (ceF 2) i_a n_a))) (tst (ceF 2) i_a (3 + tdy (ceF 2) i_a n_a) 2 st (tea n_a (tdy (ceF 2) i_a n_a))) (tst (ceF 2) i_a (3 + tdy (ceF 2) i_a n_a) 3 sp (tea n_a (tdy (ceF 2) i_a n_a))) (tst (ceF 2) i_a (3 + tdy (ceF 2) i_a n_a) 4 nd (tea n_a (tdy (ceF 2) i_a n_a))) ++ (wR g a 0 rO rB rD rW ++ (wH g a ++ (wS g (a 17) (a 18) (lnF 2) (leF 2) (ceF 2))))))) rfl (As := []) (n := 0) rfl rfl (st1 := [.int (nI (tea n_a (tdy (ceF 2) i_a n_a)))]) rfl (Nat.le_of_ble_eq_true rfl) dX4_duchy_97 ?_
        have e5 : (if zin (nI jv2) 3 then foc (lnF 2) (leF 2) (nI jv2) (nI i_a) (nI n_a) else nI 0) = (nI 0) := by simp [dur, duk, nI_0, hq1, hc2, hq3, hti_a, htn_a, hq4]
        have e6 : (if duk (nI jv2) (foc (lnF 2) (leF 2) (nI jv2) (nI i_a) (nI n_a)) (frun (ceF 2) (tn (nI i_a)) (tn (nI n_a)) 0 0 0 0) then (tdy (ceF 2) (tn (nI i_a)) (tn (nI n_a))) else D) = (tdy (ceF 2) i_a n_a) := by simp [dur, duk, nI_0, hq1, hc2, hq3, hti_a, htn_a, hq4]
        have e7 : (if duk (nI jv2) (foc (lnF 2) (leF 2) (nI jv2) (nI i_a) (nI n_a)) (frun (ceF 2) (tn (nI i_a)) (tn (nI n_a)) 0 0 0 0) then (tea (tn (nI n_a)) (tdy (ceF 2) (tn (nI i_a)) (tn (nI n_a)))) else E) = (tea n_a (tdy (ceF 2) i_a n_a)) := by simp [dur, duk, nI_0, hq1, hc2, hq3, hti_a, htn_a, hq4]
        have e8 : (if duk (nI jv2) (foc (lnF 2) (leF 2) (nI jv2) (nI i_a) (nI n_a)) (frun (ceF 2) (tn (nI i_a)) (tn (nI n_a)) 0 0 0 0) then ceF 2 (tn (nI i_a) + 1) - nI 48 else so) = ((ceF 2) (i_a + 1) - nI 48) := by simp [dur, duk, nI_0, hq1, hc2, hq3, hti_a, htn_a, hq4]
        have e9 : (if duk (nI jv2) (foc (lnF 2) (leF 2) (nI jv2) (nI i_a) (nI n_a)) (frun (ceF 2) (tn (nI i_a)) (tn (nI n_a)) 0 0 0 0) then tlk (ceF 2) (tn (nI i_a)) lk (tdy (ceF 2) (tn (nI i_a)) (tn (nI n_a))) else lk) = (tlk (ceF 2) i_a lk (tdy (ceF 2) i_a n_a)) := by simp [dur, duk, nI_0, hq1, hc2, hq3, hti_a, htn_a, hq4]
        have e10 : (if duk (nI jv2) (foc (lnF 2) (leF 2) (nI jv2) (nI i_a) (nI n_a)) (frun (ceF 2) (tn (nI i_a)) (tn (nI n_a)) 0 0 0 0) then tkd (ceF 2) (tn (nI i_a)) (3 + (tdy (ceF 2) (tn (nI i_a)) (tn (nI n_a)))) kd (tea (tn (nI n_a)) (tdy (ceF 2) (tn (nI i_a)) (tn (nI n_a)))) else kd) = (tkd (ceF 2) i_a (3 + tdy (ceF 2) i_a n_a) kd (tea n_a (tdy (ceF 2) i_a n_a))) := by simp [dur, duk, nI_0, hq1, hc2, hq3, hti_a, htn_a, hq4]
        have e11 : (if duk (nI jv2) (foc (lnF 2) (leF 2) (nI jv2) (nI i_a) (nI n_a)) (frun (ceF 2) (tn (nI i_a)) (tn (nI n_a)) 0 0 0 0) then tst (ceF 2) (tn (nI i_a)) (3 + (tdy (ceF 2) (tn (nI i_a)) (tn (nI n_a)))) 2 st (tea (tn (nI n_a)) (tdy (ceF 2) (tn (nI i_a)) (tn (nI n_a)))) else st) = (tst (ceF 2) i_a (3 + tdy (ceF 2) i_a n_a) 2 st (tea n_a (tdy (ceF 2) i_a n_a))) := by simp [dur, duk, nI_0, hq1, hc2, hq3, hti_a, htn_a, hq4]
        have e12 : (if duk (nI jv2) (foc (lnF 2) (leF 2) (nI jv2) (nI i_a) (nI n_a)) (frun (ceF 2) (tn (nI i_a)) (tn (nI n_a)) 0 0 0 0) then tst (ceF 2) (tn (nI i_a)) (3 + (tdy (ceF 2) (tn (nI i_a)) (tn (nI n_a)))) 3 sp (tea (tn (nI n_a)) (tdy (ceF 2) (tn (nI i_a)) (tn (nI n_a)))) else sp) = (tst (ceF 2) i_a (3 + tdy (ceF 2) i_a n_a) 3 sp (tea n_a (tdy (ceF 2) i_a n_a))) := by simp [dur, duk, nI_0, hq1, hc2, hq3, hti_a, htn_a, hq4]
        have e13 : (if duk (nI jv2) (foc (lnF 2) (leF 2) (nI jv2) (nI i_a) (nI n_a)) (frun (ceF 2) (tn (nI i_a)) (tn (nI n_a)) 0 0 0 0) then tst (ceF 2) (tn (nI i_a)) (3 + (tdy (ceF 2) (tn (nI i_a)) (tn (nI n_a)))) 4 nd (tea (tn (nI n_a)) (tdy (ceF 2) (tn (nI i_a)) (tn (nI n_a)))) else nd) = (tst (ceF 2) i_a (3 + tdy (ceF 2) i_a n_a) 4 nd (tea n_a (tdy (ceF 2) i_a n_a))) := by simp [dur, duk, nI_0, hq1, hc2, hq3, hti_a, htn_a, hq4]
        have e14 : (if duk (nI jv2) (foc (lnF 2) (leF 2) (nI jv2) (nI i_a) (nI n_a)) (frun (ceF 2) (tn (nI i_a)) (tn (nI n_a)) 0 0 0 0) then 0 else C) = 0 := by simp [dur, duk, nI_0, hq1, hc2, hq3, hti_a, htn_a, hq4]
        exact z_iret X ZF dX4_duchy_100 (by simp [dur, duk, nI_0, hq1, hc2, hq3, hti_a, htn_a, hq4]) (by first | rw [e14, e13, e12, e11, e10, e9, e8, e7, e6, e5] | (simp only [e14, e13, e12, e11, e10, e9, e8, e7, e6, e5]))
      ·
        refine z_bipush (v := (-100)) X dX4_duchy_68 (by decide) ?_
        refine z_iload X dX4_duchy_70 0 rfl ?_
        refine z_isub X dX4_duchy_72 ?_
        have e15 : (if zin (nI jv2) 3 then foc (lnF 2) (leF 2) (nI jv2) (nI i_a) (nI n_a) else nI 0) = (nI 0) := by simp [dur, duk, nI_0, hq1, hc2, hq3, hti_a, htn_a, hq4]
        have e16 : (if duk (nI jv2) (foc (lnF 2) (leF 2) (nI jv2) (nI i_a) (nI n_a)) (frun (ceF 2) (tn (nI i_a)) (tn (nI n_a)) 0 0 0 0) then (tdy (ceF 2) (tn (nI i_a)) (tn (nI n_a))) else D) = D := by simp [dur, duk, nI_0, hq1, hc2, hq3, hti_a, htn_a, hq4]
        have e17 : (if duk (nI jv2) (foc (lnF 2) (leF 2) (nI jv2) (nI i_a) (nI n_a)) (frun (ceF 2) (tn (nI i_a)) (tn (nI n_a)) 0 0 0 0) then (tea (tn (nI n_a)) (tdy (ceF 2) (tn (nI i_a)) (tn (nI n_a)))) else E) = E := by simp [dur, duk, nI_0, hq1, hc2, hq3, hti_a, htn_a, hq4]
        have e18 : (if duk (nI jv2) (foc (lnF 2) (leF 2) (nI jv2) (nI i_a) (nI n_a)) (frun (ceF 2) (tn (nI i_a)) (tn (nI n_a)) 0 0 0 0) then ceF 2 (tn (nI i_a) + 1) - nI 48 else so) = so := by simp [dur, duk, nI_0, hq1, hc2, hq3, hti_a, htn_a, hq4]
        have e19 : (if duk (nI jv2) (foc (lnF 2) (leF 2) (nI jv2) (nI i_a) (nI n_a)) (frun (ceF 2) (tn (nI i_a)) (tn (nI n_a)) 0 0 0 0) then tlk (ceF 2) (tn (nI i_a)) lk (tdy (ceF 2) (tn (nI i_a)) (tn (nI n_a))) else lk) = lk := by simp [dur, duk, nI_0, hq1, hc2, hq3, hti_a, htn_a, hq4]
        have e20 : (if duk (nI jv2) (foc (lnF 2) (leF 2) (nI jv2) (nI i_a) (nI n_a)) (frun (ceF 2) (tn (nI i_a)) (tn (nI n_a)) 0 0 0 0) then tkd (ceF 2) (tn (nI i_a)) (3 + (tdy (ceF 2) (tn (nI i_a)) (tn (nI n_a)))) kd (tea (tn (nI n_a)) (tdy (ceF 2) (tn (nI i_a)) (tn (nI n_a)))) else kd) = kd := by simp [dur, duk, nI_0, hq1, hc2, hq3, hti_a, htn_a, hq4]
        have e21 : (if duk (nI jv2) (foc (lnF 2) (leF 2) (nI jv2) (nI i_a) (nI n_a)) (frun (ceF 2) (tn (nI i_a)) (tn (nI n_a)) 0 0 0 0) then tst (ceF 2) (tn (nI i_a)) (3 + (tdy (ceF 2) (tn (nI i_a)) (tn (nI n_a)))) 2 st (tea (tn (nI n_a)) (tdy (ceF 2) (tn (nI i_a)) (tn (nI n_a)))) else st) = st := by simp [dur, duk, nI_0, hq1, hc2, hq3, hti_a, htn_a, hq4]
        have e22 : (if duk (nI jv2) (foc (lnF 2) (leF 2) (nI jv2) (nI i_a) (nI n_a)) (frun (ceF 2) (tn (nI i_a)) (tn (nI n_a)) 0 0 0 0) then tst (ceF 2) (tn (nI i_a)) (3 + (tdy (ceF 2) (tn (nI i_a)) (tn (nI n_a)))) 3 sp (tea (tn (nI n_a)) (tdy (ceF 2) (tn (nI i_a)) (tn (nI n_a)))) else sp) = sp := by simp [dur, duk, nI_0, hq1, hc2, hq3, hti_a, htn_a, hq4]
        have e23 : (if duk (nI jv2) (foc (lnF 2) (leF 2) (nI jv2) (nI i_a) (nI n_a)) (frun (ceF 2) (tn (nI i_a)) (tn (nI n_a)) 0 0 0 0) then tst (ceF 2) (tn (nI i_a)) (3 + (tdy (ceF 2) (tn (nI i_a)) (tn (nI n_a)))) 4 nd (tea (tn (nI n_a)) (tdy (ceF 2) (tn (nI i_a)) (tn (nI n_a)))) else nd) = nd := by simp [dur, duk, nI_0, hq1, hc2, hq3, hti_a, htn_a, hq4]
        have e24 : (if duk (nI jv2) (foc (lnF 2) (leF 2) (nI jv2) (nI i_a) (nI n_a)) (frun (ceF 2) (tn (nI i_a)) (tn (nI n_a)) 0 0 0 0) then 0 else C) = C := by simp [dur, duk, nI_0, hq1, hc2, hq3, hti_a, htn_a, hq4]
        exact z_iret X ZF dX4_duchy_73 (by simp [dur, duk, nI_0, hq1, hc2, hq3, hti_a, htn_a, hq4]) (by first | rw [e24, e23, e22, e21, e20, e19, e18, e17, e16, e15] | (simp only [e24, e23, e22, e21, e20, e19, e18, e17, e16, e15]))
    ·
      refine z_aload_n X dX4_duchy_45 rfl 2 rfl ?_
      refine z_iload X dX4_duchy_46 0 rfl ?_
      refine z_callV X (c_X4_faulted l g a (nI 0) tr (foc (lnF 2) (leF 2) (nI jv2) i n)) gX4_duchy_X4_faulted rfl ⟨rfl, rfl⟩ (by decide +kernel) ⟨Nat.le_of_ble_eq_true rfl, Nat.le_of_ble_eq_true rfl⟩ ZF.room (ci := 3) rfl 0 rfl (isC := [0]) (by decide) rfl rfl (ws' := (wO g a (foc (lnF 2) (leF 2) (nI jv2) i n) tr ++ (wD g a D E so lk kd st sp nd ++ (wR g a C rO rB rD rW ++ (wH g a ++ (wS g (a 17) (a 18) (lnF 2) (leF 2) (ceF 2))))))) rfl (As := [.int (foc (lnF 2) (leF 2) (nI jv2) i n)]) (n := 1) rfl rfl (st1 := [.int ((-10) - (foc (lnF 2) (leF 2) (nI jv2) i n))]) rfl (Nat.le_of_ble_eq_true rfl) dX4_duchy_48 ?_
      have e25 : (if zin (nI jv2) 3 then foc (lnF 2) (leF 2) (nI jv2) i n else nI 0) = (foc (lnF 2) (leF 2) (nI jv2) i n) := by simp [dur, duk, nI_0, hq1, hc2, hq3]
      have e26 : (if duk (nI jv2) (foc (lnF 2) (leF 2) (nI jv2) i n) (frun (ceF 2) (tn i) (tn n) 0 0 0 0) then (tdy (ceF 2) (tn i) (tn n)) else D) = D := by simp [dur, duk, nI_0, hq1, hc2, hq3]
      have e27 : (if duk (nI jv2) (foc (lnF 2) (leF 2) (nI jv2) i n) (frun (ceF 2) (tn i) (tn n) 0 0 0 0) then (tea (tn n) (tdy (ceF 2) (tn i) (tn n))) else E) = E := by simp [dur, duk, nI_0, hq1, hc2, hq3]
      have e28 : (if duk (nI jv2) (foc (lnF 2) (leF 2) (nI jv2) i n) (frun (ceF 2) (tn i) (tn n) 0 0 0 0) then ceF 2 (tn i + 1) - nI 48 else so) = so := by simp [dur, duk, nI_0, hq1, hc2, hq3]
      have e29 : (if duk (nI jv2) (foc (lnF 2) (leF 2) (nI jv2) i n) (frun (ceF 2) (tn i) (tn n) 0 0 0 0) then tlk (ceF 2) (tn i) lk (tdy (ceF 2) (tn i) (tn n)) else lk) = lk := by simp [dur, duk, nI_0, hq1, hc2, hq3]
      have e30 : (if duk (nI jv2) (foc (lnF 2) (leF 2) (nI jv2) i n) (frun (ceF 2) (tn i) (tn n) 0 0 0 0) then tkd (ceF 2) (tn i) (3 + (tdy (ceF 2) (tn i) (tn n))) kd (tea (tn n) (tdy (ceF 2) (tn i) (tn n))) else kd) = kd := by simp [dur, duk, nI_0, hq1, hc2, hq3]
      have e31 : (if duk (nI jv2) (foc (lnF 2) (leF 2) (nI jv2) i n) (frun (ceF 2) (tn i) (tn n) 0 0 0 0) then tst (ceF 2) (tn i) (3 + (tdy (ceF 2) (tn i) (tn n))) 2 st (tea (tn n) (tdy (ceF 2) (tn i) (tn n))) else st) = st := by simp [dur, duk, nI_0, hq1, hc2, hq3]
      have e32 : (if duk (nI jv2) (foc (lnF 2) (leF 2) (nI jv2) i n) (frun (ceF 2) (tn i) (tn n) 0 0 0 0) then tst (ceF 2) (tn i) (3 + (tdy (ceF 2) (tn i) (tn n))) 3 sp (tea (tn n) (tdy (ceF 2) (tn i) (tn n))) else sp) = sp := by simp [dur, duk, nI_0, hq1, hc2, hq3]
      have e33 : (if duk (nI jv2) (foc (lnF 2) (leF 2) (nI jv2) i n) (frun (ceF 2) (tn i) (tn n) 0 0 0 0) then tst (ceF 2) (tn i) (3 + (tdy (ceF 2) (tn i) (tn n))) 4 nd (tea (tn n) (tdy (ceF 2) (tn i) (tn n))) else nd) = nd := by simp [dur, duk, nI_0, hq1, hc2, hq3]
      have e34 : (if duk (nI jv2) (foc (lnF 2) (leF 2) (nI jv2) i n) (frun (ceF 2) (tn i) (tn n) 0 0 0 0) then 0 else C) = C := by simp [dur, duk, nI_0, hq1, hc2, hq3]
      exact z_iret X ZF dX4_duchy_51 (by simp [dur, duk, nI_0, hq1, hc2, hq3]) (by first | rw [e34, e33, e32, e31, e30, e29, e28, e27, e26, e25] | (simp only [e34, e33, e32, e31, e30, e29, e28, e27, e26, e25]))
  ·
    refine z_bipush (v := (-2)) X dX4_duchy_26 (by decide) ?_
    have e35 : (if zin lane 3 then foc (lnF 2) (leF 2) lane i n else nI 0) = (nI 0) := by simp [dur, duk, nI_0, hq1]
    have e36 : (if duk lane (foc (lnF 2) (leF 2) lane i n) (frun (ceF 2) (tn i) (tn n) 0 0 0 0) then (tdy (ceF 2) (tn i) (tn n)) else D) = D := by simp [dur, duk, nI_0, hq1]
    have e37 : (if duk lane (foc (lnF 2) (leF 2) lane i n) (frun (ceF 2) (tn i) (tn n) 0 0 0 0) then (tea (tn n) (tdy (ceF 2) (tn i) (tn n))) else E) = E := by simp [dur, duk, nI_0, hq1]
    have e38 : (if duk lane (foc (lnF 2) (leF 2) lane i n) (frun (ceF 2) (tn i) (tn n) 0 0 0 0) then ceF 2 (tn i + 1) - nI 48 else so) = so := by simp [dur, duk, nI_0, hq1]
    have e39 : (if duk lane (foc (lnF 2) (leF 2) lane i n) (frun (ceF 2) (tn i) (tn n) 0 0 0 0) then tlk (ceF 2) (tn i) lk (tdy (ceF 2) (tn i) (tn n)) else lk) = lk := by simp [dur, duk, nI_0, hq1]
    have e40 : (if duk lane (foc (lnF 2) (leF 2) lane i n) (frun (ceF 2) (tn i) (tn n) 0 0 0 0) then tkd (ceF 2) (tn i) (3 + (tdy (ceF 2) (tn i) (tn n))) kd (tea (tn n) (tdy (ceF 2) (tn i) (tn n))) else kd) = kd := by simp [dur, duk, nI_0, hq1]
    have e41 : (if duk lane (foc (lnF 2) (leF 2) lane i n) (frun (ceF 2) (tn i) (tn n) 0 0 0 0) then tst (ceF 2) (tn i) (3 + (tdy (ceF 2) (tn i) (tn n))) 2 st (tea (tn n) (tdy (ceF 2) (tn i) (tn n))) else st) = st := by simp [dur, duk, nI_0, hq1]
    have e42 : (if duk lane (foc (lnF 2) (leF 2) lane i n) (frun (ceF 2) (tn i) (tn n) 0 0 0 0) then tst (ceF 2) (tn i) (3 + (tdy (ceF 2) (tn i) (tn n))) 3 sp (tea (tn n) (tdy (ceF 2) (tn i) (tn n))) else sp) = sp := by simp [dur, duk, nI_0, hq1]
    have e43 : (if duk lane (foc (lnF 2) (leF 2) lane i n) (frun (ceF 2) (tn i) (tn n) 0 0 0 0) then tst (ceF 2) (tn i) (3 + (tdy (ceF 2) (tn i) (tn n))) 4 nd (tea (tn n) (tdy (ceF 2) (tn i) (tn n))) else nd) = nd := by simp [dur, duk, nI_0, hq1]
    have e44 : (if duk lane (foc (lnF 2) (leF 2) lane i n) (frun (ceF 2) (tn i) (tn n) 0 0 0 0) then 0 else C) = C := by simp [dur, duk, nI_0, hq1]
    exact z_iret X ZF dX4_duchy_28 (by simp [dur, duk, nI_0, hq1]) (by first | rw [e44, e43, e42, e41, e40, e39, e38, e37, e36, e35] | (simp only [e44, e43, e42, e41, e40, e39, e38, e37, e36, e35]))
abbrev rX4_plan_2 : Room := { frames := 6, cells := 0, slots := 0, locals := 135 }
set_option maxHeartbeats 4000000 in
set_option maxRecDepth 100000 in
theorem c_X4_plan_2 (l : Launch) (g : zg) (a : Nat → Nat) (ft : Int32) (tr : Int32) (D : Nat) (E : Nat) (so : Int32) (lk : Nat → Int32) (kd : Nat → Int32) (st : Nat → Int32) (sp : Nat → Int32) (nd : Nat → Int32) (lnF : Nat → Int32) (leF : Nat → Int32) (ceF : Nat → Nat → Int32) (lane : Int32) (i : Int32) (n : Int32) (w : Int32) (hle : vle (leF 2)) (hE : E ≤ 4) (hD : D ≤ 6) (hK : vK kd st E) (hSp : vS sp E) : zM l g yX4_plan wsX4_plan rX4_plan_2 [.ref (a 0), .int (nI 2), .int lane, .int i, .int n, .int w] (wO g a ft tr ++ (wD g a D E so lk kd st sp nd ++ (wH g a ++ (wS g (a 17) (a 18) (lnF 2) (leF 2) (ceF 2))))) (some (.int (plr lane w E (foc (lnF 2) (leF 2) lane i n) (decide (tn n = E) && alp (ceF 2) (tn i) D E) (ofp D E lk so kd st sp nd (ceF 2) (tn i) w)))) (wO g a (if zin lane 3 && apl w && decide (0 < E) then foc (lnF 2) (leF 2) lane i n else nI 0) tr ++ (wD g a D E so lk kd st sp nd ++ (wH g a ++ (wS g (a 17) (a 18) (lnF 2) (leF 2) (ceF 2))))) := by
  refine z_met (own := RX4) (cc := cX4_plan) (maxL := 8) (ret := some .int) (by decide +kernel) rfl rfl (Nat.le_of_ble_eq_true rfl) ?_
  intro M X ZF
  refine z_Le (L' := [(0, .ref (a 0)), (1, .int (nI 2)), (2, .int lane), (3, .int i), (4, .int n), (5, .int w)]) rfl ?_
  have hL := vK_L hK
  have i_RX4 : ∀ w ∈ wsX40, w ∈ wsX4_plan := by decide +kernel
  have f_32 : Cond.fieldLink RX4 32 (TX4 3).1 (TX4 3).2.1 (TX4 3).2.2.1 ∈ wsX4_plan := by decide +kernel
  have f_12 : Cond.fieldLink RX4 12 (TX4 0).1 (TX4 0).2.1 (TX4 0).2.2.1 ∈ wsX4_plan := by decide +kernel
  refine z_aload_n X dX4_plan_0 rfl 0 rfl ?_
  refine z_iconst (v := nI 0) X dX4_plan_1 (by decide) ?_
  refine z_put (ws' := (wO g a (nI 0) tr ++ (wD g a D E so lk kd st sp nd ++ (wH g a ++ (wS g (a 17) (a 18) (lnF 2) (leF 2) (ceF 2)))))) (N := 5) X i_RX4 (ci := 3) rfl tyX4 tyX4_ok nmX4 0 rfl 3 (by decide) f_32 rfl (ty := .int) (by decide +kernel) rfl rfl (Nat.le_of_ble_eq_true rfl) dX4_plan_2 rfl ?_
  refine z_aload_n X dX4_plan_5 rfl 0 rfl ?_
  refine z_iload_n X dX4_plan_6 rfl 1 rfl ?_
  refine z_callV X (c_X4_sheetAt_in l g a (nI 0) tr 2 (by omega)) gX4_plan_X4_sheetAt rfl ⟨rfl, rfl⟩ (by decide +kernel) ⟨Nat.le_of_ble_eq_true rfl, Nat.le_of_ble_eq_true rfl⟩ ZF.room (ci := 3) rfl 0 rfl (isC := [0, 7]) (by decide) rfl rfl (ws' := (wO g a (nI 0) tr ++ (wD g a D E so lk kd st sp nd ++ (wH g a ++ (wS g (a 17) (a 18) (lnF 2) (leF 2) (ceF 2)))))) rfl (As := [.int (nI 2)]) (n := 1) rfl rfl (st1 := [.ref (a 17)]) rfl (Nat.le_of_ble_eq_true rfl) dX4_plan_7 ?_
  refine z_astore (L' := [(6, .ref (a 17)), (0, .ref (a 0)), (1, .int (nI 2)), (2, .int lane), (3, .int i), (4, .int n), (5, .int w)]) X dX4_plan_10 (by decide) rfl ?_
  refine z_aload X dX4_plan_12 0 rfl ?_
  refine z_ifnonnull (tgt := 19) X dX4_plan_14 (by decide) ?_
  refine z_iload_n X dX4_plan_19 rfl 3 rfl ?_
  refine z_callS0 X (c_X4_isLane l g lane) gX4_plan_X4_isLane rfl ⟨rfl, rfl⟩ (by decide +kernel) ⟨Nat.le_of_ble_eq_true rfl, Nat.le_of_ble_eq_true rfl⟩ ZF.room (As := [.int lane]) (n := 1) rfl rfl (st1 := [.int (bI (zin lane 3))]) rfl (Nat.le_of_ble_eq_true rfl) dX4_plan_20 ?_
  refine z_if_eqB (tgt := 34) X dX4_plan_23 (by decide) (fun hq1 => ?_) (fun hq1 => ?_)
  ·
    refine z_bipush (v := (-2)) X dX4_plan_34 (by decide) ?_
    have e2 : (if zin lane 3 && apl w && decide (0 < E) then foc (lnF 2) (leF 2) lane i n else nI 0) = (nI 0) := by simp [plr, nI_0, hq1]
    exact z_iret X ZF dX4_plan_36 (by simp [plr, nI_0, hq1]) (by rw [e2])
  ·
    obtain ⟨jv3, hj3, ej3⟩ := zin_t (by omega) hq1
    subst ej3
    have hc3 : tn (nI jv3) = jv3 := nI_clamp (by omega)
    refine z_iload X dX4_plan_26 6 rfl ?_
    refine z_callS0 X (c_X4_isAskedOfPlans l g w) gX4_plan_X4_isAskedOfPlans rfl ⟨rfl, rfl⟩ (by decide +kernel) ⟨Nat.le_of_ble_eq_true rfl, Nat.le_of_ble_eq_true rfl⟩ ZF.room (As := [.int w]) (n := 1) rfl rfl (st1 := [.int (bI (apl w))]) rfl (Nat.le_of_ble_eq_true rfl) dX4_plan_28 ?_
    refine z_if_neB (tgt := 37) X dX4_plan_31 (by decide) (fun hq4 => ?_) (fun hq4 => ?_)
    ·
      refine z_aload_n X dX4_plan_37 rfl 1 rfl ?_
      refine z_get (v := .ref (a 1)) (N := 5) X i_RX4 (ci := 3) rfl 0 rfl 0 (by decide) f_12 rfl dX4_plan_38 ?_
      refine z_callV X (c_X0_isTold l g a D E so lk kd st sp nd (by omega)) gX4_plan_X0_isTold rfl ⟨rfl, rfl⟩ (by decide +kernel) ⟨Nat.le_of_ble_eq_true rfl, Nat.le_of_ble_eq_true rfl⟩ ZF.room (ci := 0) rfl 1 rfl (isC := [1, 2, 3, 4, 5, 6]) (by decide) rfl rfl (ws' := (wO g a (nI 0) tr ++ (wD g a D E so lk kd st sp nd ++ (wH g a ++ (wS g (a 17) (a 18) (lnF 2) (leF 2) (ceF 2)))))) rfl (As := []) (n := 0) rfl rfl (st1 := [.int (bI (decide (0 < E)))]) rfl (Nat.le_of_ble_eq_true rfl) dX4_plan_41 ?_
      refine z_if_neB (tgt := 50) X dX4_plan_44 (by decide) (fun hq5 => ?_) (fun hq5 => ?_)
      ·
        have hq6 : (0 < E) := of_decide_eq_true hq5
        refine z_aload X dX4_plan_50 0 rfl ?_
        refine z_iload_n X dX4_plan_52 rfl 3 rfl ?_
        refine z_iload_n X dX4_plan_53 rfl 4 rfl ?_
        refine z_iload X dX4_plan_54 5 rfl ?_
        refine z_callV X (c_X2_faultOfCells l g (a 17) (a 18) (lnF 2) (leF 2) (ceF 2) (nI jv3) i n) gX4_plan_X2_faultOfCells rfl ⟨rfl, rfl⟩ (by decide +kernel) ⟨Nat.le_of_ble_eq_true rfl, Nat.le_of_ble_eq_true rfl⟩ ZF.room (ci := 2) rfl 8 rfl (isC := [8, 9]) (by decide) rfl rfl (ws' := (wO g a (nI 0) tr ++ (wD g a D E so lk kd st sp nd ++ (wH g a ++ (wS g (a 17) (a 18) (lnF 2) (leF 2) (ceF 2)))))) rfl (As := [.int (nI jv3), .int i, .int n]) (n := 3) rfl rfl (st1 := [.int (foc (lnF 2) (leF 2) (nI jv3) i n)]) rfl (Nat.le_of_ble_eq_true rfl) dX4_plan_56 ?_
        refine z_istore (L' := [(7, .int (foc (lnF 2) (leF 2) (nI jv3) i n)), (6, .ref (a 17)), (0, .ref (a 0)), (1, .int (nI 2)), (2, .int (nI jv3)), (3, .int i), (4, .int n), (5, .int w)]) X dX4_plan_59 (by decide) rfl ?_
        refine z_iload X dX4_plan_61 0 rfl ?_
        refine z_if_eq (tgt := 73) X dX4_plan_63 (by decide) (fun hq7 => ?_) (fun hq7 => ?_)
        ·
          obtain ⟨i_a, n_a, ei_a, en_a, hin_a, m_a, hm_a, him_a⟩ := foc0 hle hq7
          subst ei_a; subst en_a
          have hti_a : tn (nI i_a) = i_a := nI_clamp (by omega)
          have htn_a : tn (nI n_a) = n_a := nI_clamp (by omega)
          refine z_aload_n X dX4_plan_73 rfl 2 rfl ?_
          refine z_get (v := .ref (a 1)) (N := 5) X i_RX4 (ci := 3) rfl 0 rfl 0 (by decide) f_12 rfl dX4_plan_74 ?_
          refine z_aload X dX4_plan_77 1 rfl ?_
          refine z_iload_n X dX4_plan_79 rfl 5 rfl ?_
          refine z_iload X dX4_plan_80 6 rfl ?_
          refine z_callV X (c_X0_hasPlan l g a (a 17) (a 18) D E so lk kd st sp nd (lnF 2) (leF 2) (ceF 2) i_a n_a (by omega) (by omega) (by omega)) gX4_plan_X0_hasPlan rfl ⟨rfl, rfl⟩ (by decide +kernel) ⟨Nat.le_of_ble_eq_true rfl, Nat.le_of_ble_eq_true rfl⟩ ZF.room (ci := 0) rfl 1 rfl (isC := [1, 2, 3, 4, 5, 6, 8, 9]) (by decide) rfl rfl (ws' := (wO g a (nI 0) tr ++ (wD g a D E so lk kd st sp nd ++ (wH g a ++ (wS g (a 17) (a 18) (lnF 2) (leF 2) (ceF 2)))))) rfl (As := [.ref (a 17), .int (nI i_a), .int (nI n_a)]) (n := 3) rfl rfl (st1 := [.int (bI (decide (n_a = E) && alp (ceF 2) i_a D E))]) rfl (Nat.le_of_ble_eq_true rfl) dX4_plan_82 ?_
          refine z_if_neB (tgt := 91) X dX4_plan_85 (by decide) (fun hq8 => ?_) (fun hq8 => ?_)
          ·
            have hpn_a : n_a = E ∧ alp (ceF 2) i_a D E = true := by simpa using hq8
            have hF := alp_hF hD hpn_a.2
            refine z_aload_n X dX4_plan_91 rfl 2 rfl ?_
            refine z_aload X dX4_plan_92 1 rfl ?_
            refine z_iload_n X dX4_plan_94 rfl 5 rfl ?_
            refine z_iload X dX4_plan_95 7 rfl ?_
            refine z_callV X (c_X4_ofPlan l g a (a 17) (a 18) (nI 0) tr D E so lk kd st sp nd (lnF 2) (leF 2) (ceF 2) i_a w (by omega) (by omega) (by omega) (by first | assumption | omega) (by first | assumption | omega) hF (by first | assumption | omega)) gX4_plan_X4_ofPlan rfl ⟨rfl, rfl⟩ (by decide +kernel) ⟨Nat.le_of_ble_eq_true rfl, Nat.le_of_ble_eq_true rfl⟩ ZF.room (ci := 3) rfl 0 rfl (isC := [0, 1, 2, 3, 4, 5, 6, 8, 9]) (by decide) rfl rfl (ws' := (wO g a (nI 0) tr ++ (wD g a D E so lk kd st sp nd ++ (wH g a ++ (wS g (a 17) (a 18) (lnF 2) (leF 2) (ceF 2)))))) rfl (As := [.ref (a 17), .int (nI i_a), .int w]) (n := 3) rfl rfl (st1 := [.int (ofp D E lk so kd st sp nd (ceF 2) i_a w)]) rfl (Nat.le_of_ble_eq_true rfl) dX4_plan_97 ?_
            have e9 : (if zin (nI jv3) 3 && apl w && decide (0 < E) then foc (lnF 2) (leF 2) (nI jv3) (nI i_a) (nI n_a) else nI 0) = (nI 0) := by simp [plr, nI_0, hq1, hc3, hq4, hq6, hq7, hti_a, htn_a, hq8]
            exact z_iret X ZF dX4_plan_100 (by simp [plr, nI_0, hq1, hc3, hq4, hq6, hq7, hti_a, htn_a, hq8]) (by rw [e9])
          ·
            refine z_bipush (v := (-2)) X dX4_plan_88 (by decide) ?_
            have e10 : (if zin (nI jv3) 3 && apl w && decide (0 < E) then foc (lnF 2) (leF 2) (nI jv3) (nI i_a) (nI n_a) else nI 0) = (nI 0) := by simp [plr, nI_0, hq1, hc3, hq4, hq6, hq7, hti_a, htn_a, hq8]
            exact z_iret X ZF dX4_plan_90 (by simp [plr, nI_0, hq1, hc3, hq4, hq6, hq7, hti_a, htn_a, hq8]) (by rw [e10])
        ·
          refine z_aload_n X dX4_plan_66 rfl 2 rfl ?_
          refine z_iload X dX4_plan_67 0 rfl ?_
          refine z_callV X (c_X4_faulted l g a (nI 0) tr (foc (lnF 2) (leF 2) (nI jv3) i n)) gX4_plan_X4_faulted rfl ⟨rfl, rfl⟩ (by decide +kernel) ⟨Nat.le_of_ble_eq_true rfl, Nat.le_of_ble_eq_true rfl⟩ ZF.room (ci := 3) rfl 0 rfl (isC := [0]) (by decide) rfl rfl (ws' := (wO g a (foc (lnF 2) (leF 2) (nI jv3) i n) tr ++ (wD g a D E so lk kd st sp nd ++ (wH g a ++ (wS g (a 17) (a 18) (lnF 2) (leF 2) (ceF 2)))))) rfl (As := [.int (foc (lnF 2) (leF 2) (nI jv3) i n)]) (n := 1) rfl rfl (st1 := [.int ((-10) - (foc (lnF 2) (leF 2) (nI jv3) i n))]) rfl (Nat.le_of_ble_eq_true rfl) dX4_plan_69 ?_
          have e11 : (if zin (nI jv3) 3 && apl w && decide (0 < E) then foc (lnF 2) (leF 2) (nI jv3) i n else nI 0) = (foc (lnF 2) (leF 2) (nI jv3) i n) := by simp [plr, nI_0, hq1, hc3, hq4, hq6, hq7]
          exact z_iret X ZF dX4_plan_72 (by simp [plr, nI_0, hq1, hc3, hq4, hq6, hq7]) (by rw [e11])
      ·
        have hq12 : ¬ (0 < E) := of_decide_eq_false hq5
        refine z_bipush (v := (-3)) X dX4_plan_47 (by decide) ?_
        have e13 : (if zin (nI jv3) 3 && apl w && decide (0 < E) then foc (lnF 2) (leF 2) (nI jv3) i n else nI 0) = (nI 0) := by simp [plr, nI_0, hq1, hc3, hq4, hq12]
        exact z_iret X ZF dX4_plan_49 (by simp [plr, nI_0, hq1, hc3, hq4, hq12]) (by rw [e13])
    ·
      refine z_bipush (v := (-2)) X dX4_plan_34 (by decide) ?_
      have e14 : (if zin (nI jv3) 3 && apl w && decide (0 < E) then foc (lnF 2) (leF 2) (nI jv3) i n else nI 0) = (nI 0) := by simp [plr, nI_0, hq1, hc3, hq4]
      exact z_iret X ZF dX4_plan_36 (by simp [plr, nI_0, hq1, hc3, hq4]) (by rw [e14])
abbrev rX4_sheet_2 : Room := { frames := 2, cells := 0, slots := 0, locals := 45 }
set_option maxHeartbeats 4000000 in
set_option maxRecDepth 100000 in
theorem c_X4_sheet_2 (l : Launch) (g : zg) (a : Nat → Nat) (ft : Int32) (tr : Int32) (lnF : Nat → Int32) (leF : Nat → Int32) (ceF : Nat → Nat → Int32) (lane : Int32) (n : Int32) : zM l g yX4_sheet wsX4_sheet rX4_sheet_2 [.ref (a 0), .int (nI 2), .int lane, .int n] (wO g a ft tr ++ (wH g a ++ (wS g (a 17) (a 18) (lnF 2) (leF 2) (ceF 2)))) (some (.int (if zin lane 3 && !decide (nI 60 < n) then (if 0 ≤ n then nI 1 else (-10) - nI 4) else -2))) (wO g a (if zin lane 3 && !decide (nI 60 < n) && !decide (0 ≤ n) then nI 4 else nI 0) tr ++ (wH g a ++ (wS g (a 17) (a 18) (if shk lane n then lane else lnF 2) (if shk lane n then n else leF 2) (if shk lane n then fil (ceF 2) (nI 0) 60 else ceF 2)))) := by
  refine z_met (own := RX4) (cc := cX4_sheet) (maxL := 5) (ret := some .int) (by decide +kernel) rfl rfl (Nat.le_of_ble_eq_true rfl) ?_
  intro M X ZF
  refine z_Le (L' := [(0, .ref (a 0)), (1, .int (nI 2)), (2, .int lane), (3, .int n)]) rfl ?_
  have i_RX4 : ∀ w ∈ wsX40, w ∈ wsX4_sheet := by decide +kernel
  have f_32 : Cond.fieldLink RX4 32 (TX4 3).1 (TX4 3).2.1 (TX4 3).2.2.1 ∈ wsX4_sheet := by decide +kernel
  refine z_aload_n X dX4_sheet_0 rfl 0 rfl ?_
  refine z_iconst (v := nI 0) X dX4_sheet_1 (by decide) ?_
  refine z_put (ws' := (wO g a (nI 0) tr ++ (wH g a ++ (wS g (a 17) (a 18) (lnF 2) (leF 2) (ceF 2))))) (N := 5) X i_RX4 (ci := 3) rfl tyX4 tyX4_ok nmX4 0 rfl 3 (by decide) f_32 rfl (ty := .int) (by decide +kernel) rfl rfl (Nat.le_of_ble_eq_true rfl) dX4_sheet_2 rfl ?_
  refine z_aload_n X dX4_sheet_5 rfl 0 rfl ?_
  refine z_iload_n X dX4_sheet_6 rfl 1 rfl ?_
  refine z_callV X (c_X4_sheetAt_in l g a (nI 0) tr 2 (by omega)) gX4_sheet_X4_sheetAt rfl ⟨rfl, rfl⟩ (by decide +kernel) ⟨Nat.le_of_ble_eq_true rfl, Nat.le_of_ble_eq_true rfl⟩ ZF.room (ci := 3) rfl 0 rfl (isC := [0, 1]) (by decide) rfl rfl (ws' := (wO g a (nI 0) tr ++ (wH g a ++ (wS g (a 17) (a 18) (lnF 2) (leF 2) (ceF 2))))) rfl (As := [.int (nI 2)]) (n := 1) rfl rfl (st1 := [.ref (a 17)]) rfl (Nat.le_of_ble_eq_true rfl) dX4_sheet_7 ?_
  refine z_astore (L' := [(4, .ref (a 17)), (0, .ref (a 0)), (1, .int (nI 2)), (2, .int lane), (3, .int n)]) X dX4_sheet_10 (by decide) rfl ?_
  refine z_aload X dX4_sheet_12 0 rfl ?_
  refine z_ifnonnull (tgt := 19) X dX4_sheet_14 (by decide) ?_
  refine z_iload_n X dX4_sheet_19 rfl 3 rfl ?_
  refine z_callS0 X (c_X4_isLane l g lane) gX4_sheet_X4_isLane rfl ⟨rfl, rfl⟩ (by decide +kernel) ⟨Nat.le_of_ble_eq_true rfl, Nat.le_of_ble_eq_true rfl⟩ ZF.room (As := [.int lane]) (n := 1) rfl rfl (st1 := [.int (bI (zin lane 3))]) rfl (Nat.le_of_ble_eq_true rfl) dX4_sheet_20 ?_
  refine z_if_eqB (tgt := 32) X dX4_sheet_23 (by decide) (fun hq1 => ?_) (fun hq1 => ?_)
  ·
    refine z_bipush (v := (-2)) X dX4_sheet_32 (by decide) ?_
    have e2 : (if zin lane 3 && !decide (nI 60 < n) && !decide (0 ≤ n) then nI 4 else nI 0) = (nI 0) := by first | (simp [shk, hq1]; done) | (simp [shk, hq1]; decide)
    have e3 : (if shk lane n then lane else lnF 2) = (lnF 2) := by first | (simp [shk, hq1]; done) | (simp [shk, hq1]; decide)
    have e4 : (if shk lane n then n else leF 2) = (leF 2) := by first | (simp [shk, hq1]; done) | (simp [shk, hq1]; decide)
    have e5 : (if shk lane n then fil (ceF 2) (nI 0) 60 else ceF 2) = (ceF 2) := by first | (simp [shk, hq1]; done) | (simp [shk, hq1]; decide)
    exact z_iret X ZF dX4_sheet_34 (by first | (simp [shk, hq1]; done) | (simp [shk, hq1]; decide)) (by first | rw [e5, e4, e3, e2] | (simp only [e5, e4, e3, e2]))
  ·
    refine z_iload_n X dX4_sheet_26 rfl 4 rfl ?_
    refine z_bipush (v := nI 60) X dX4_sheet_27 (by decide) ?_
    refine z_icmp_le (tgt := 35) X dX4_sheet_29 (by decide) (fun hq6 => ?_) (fun hq6 => ?_)
    ·
      refine z_iload_n X dX4_sheet_35 rfl 4 rfl ?_
      refine z_if_ge (tgt := 45) X dX4_sheet_36 (by decide) (fun hq7 => ?_) (fun hq7 => ?_)
      ·
        refine z_aload X dX4_sheet_45 0 rfl ?_
        refine z_iload_n X dX4_sheet_47 rfl 3 rfl ?_
        refine z_iload_n X dX4_sheet_48 rfl 4 rfl ?_
        refine z_callV X (c_X2_makeRow l g (a 17) (a 18) (lnF 2) (leF 2) (ceF 2) lane n) gX4_sheet_X2_makeRow rfl ⟨rfl, rfl⟩ (by decide +kernel) ⟨Nat.le_of_ble_eq_true rfl, Nat.le_of_ble_eq_true rfl⟩ ZF.room (ci := 2) rfl 2 rfl (isC := [2, 3]) (by decide) rfl rfl (ws' := (wO g a (nI 0) tr ++ (wH g a ++ (wS g (a 17) (a 18) lane n (fil (ceF 2) (nI 0) 60))))) rfl (As := [.int lane, .int n]) (n := 2) rfl rfl (st1 := []) rfl (Nat.le_of_ble_eq_true rfl) dX4_sheet_49 ?_
        refine z_iconst (v := nI 1) X dX4_sheet_52 (by decide) ?_
        have e8 : (if zin lane 3 && !decide (nI 60 < n) && !decide (0 ≤ n) then nI 4 else nI 0) = (nI 0) := by first | (simp [shk, hq1, hq6, hq7]; done) | (simp [shk, hq1, hq6, hq7]; decide)
        have e9 : (if shk lane n then lane else lnF 2) = lane := by first | (simp [shk, hq1, hq6, hq7]; done) | (simp [shk, hq1, hq6, hq7]; decide)
        have e10 : (if shk lane n then n else leF 2) = n := by first | (simp [shk, hq1, hq6, hq7]; done) | (simp [shk, hq1, hq6, hq7]; decide)
        have e11 : (if shk lane n then fil (ceF 2) (nI 0) 60 else ceF 2) = (fil (ceF 2) (nI 0) 60) := by first | (simp [shk, hq1, hq6, hq7]; done) | (simp [shk, hq1, hq6, hq7]; decide)
        exact z_iret X ZF dX4_sheet_53 (by first | (simp [shk, hq1, hq6, hq7]; done) | (simp [shk, hq1, hq6, hq7]; decide)) (by first | rw [e11, e10, e9, e8] | (simp only [e11, e10, e9, e8]))
      ·
        refine z_aload_n X dX4_sheet_39 rfl 1 rfl ?_
        refine z_iconst (v := nI 4) X dX4_sheet_40 (by decide) ?_
        refine z_callV X (c_X4_faulted l g a (nI 0) tr (nI 4)) gX4_sheet_X4_faulted rfl ⟨rfl, rfl⟩ (by decide +kernel) ⟨Nat.le_of_ble_eq_true rfl, Nat.le_of_ble_eq_true rfl⟩ ZF.room (ci := 3) rfl 0 rfl (isC := [0]) (by decide) rfl rfl (ws' := (wO g a (nI 4) tr ++ (wH g a ++ (wS g (a 17) (a 18) (lnF 2) (leF 2) (ceF 2))))) rfl (As := [.int (nI 4)]) (n := 1) rfl rfl (st1 := [.int ((-10) - (nI 4))]) rfl (Nat.le_of_ble_eq_true rfl) dX4_sheet_41 ?_
        have e12 : (if zin lane 3 && !decide (nI 60 < n) && !decide (0 ≤ n) then nI 4 else nI 0) = (nI 4) := by first | (simp [shk, hq1, hq6, hq7]; done) | (simp [shk, hq1, hq6, hq7]; decide)
        have e13 : (if shk lane n then lane else lnF 2) = (lnF 2) := by first | (simp [shk, hq1, hq6, hq7]; done) | (simp [shk, hq1, hq6, hq7]; decide)
        have e14 : (if shk lane n then n else leF 2) = (leF 2) := by first | (simp [shk, hq1, hq6, hq7]; done) | (simp [shk, hq1, hq6, hq7]; decide)
        have e15 : (if shk lane n then fil (ceF 2) (nI 0) 60 else ceF 2) = (ceF 2) := by first | (simp [shk, hq1, hq6, hq7]; done) | (simp [shk, hq1, hq6, hq7]; decide)
        exact z_iret X ZF dX4_sheet_44 (by first | (simp [shk, hq1, hq6, hq7]; done) | (simp [shk, hq1, hq6, hq7]; decide)) (by first | rw [e15, e14, e13, e12] | (simp only [e15, e14, e13, e12]))
    ·
      refine z_bipush (v := (-2)) X dX4_sheet_32 (by decide) ?_
      have e16 : (if zin lane 3 && !decide (nI 60 < n) && !decide (0 ≤ n) then nI 4 else nI 0) = (nI 0) := by first | (simp [shk, hq1, hq6]; done) | (simp [shk, hq1, hq6]; decide)
      have e17 : (if shk lane n then lane else lnF 2) = (lnF 2) := by first | (simp [shk, hq1, hq6]; done) | (simp [shk, hq1, hq6]; decide)
      have e18 : (if shk lane n then n else leF 2) = (leF 2) := by first | (simp [shk, hq1, hq6]; done) | (simp [shk, hq1, hq6]; decide)
      have e19 : (if shk lane n then fil (ceF 2) (nI 0) 60 else ceF 2) = (ceF 2) := by first | (simp [shk, hq1, hq6]; done) | (simp [shk, hq1, hq6]; decide)
      exact z_iret X ZF dX4_sheet_34 (by first | (simp [shk, hq1, hq6]; done) | (simp [shk, hq1, hq6]; decide)) (by first | rw [e19, e18, e17, e16] | (simp only [e19, e18, e17, e16]))
abbrev rX4_lose_2 : Room := { frames := 1, cells := 0, slots := 0, locals := 21 }
set_option maxHeartbeats 4000000 in
set_option maxRecDepth 100000 in
theorem c_X4_lose_2 (l : Launch) (g : zg) (a : Nat → Nat) (ft : Int32) (tr : Int32) (lnF : Nat → Int32) (leF : Nat → Int32) (ceF : Nat → Nat → Int32) : zM l g yX4_lose wsX4_lose rX4_lose_2 [.ref (a 0), .int (nI 2)] (wO g a ft tr ++ (wH g a ++ (wS g (a 17) (a 18) (lnF 2) (leF 2) (ceF 2)))) (some (.int (if leF 2 = (-1) then nI 0 else nI 1))) (wO g a ft tr ++ (wH g a ++ (wS g (a 17) (a 18) (lnF 2) (-1) (ceF 2)))) := by
  refine z_met (own := RX4) (cc := cX4_lose) (maxL := 3) (ret := some .int) (by decide +kernel) rfl rfl (Nat.le_of_ble_eq_true rfl) ?_
  intro M X ZF
  refine z_Le (L' := [(0, .ref (a 0)), (1, .int (nI 2))]) rfl ?_
  refine z_aload_n X dX4_lose_0 rfl 0 rfl ?_
  refine z_iload_n X dX4_lose_1 rfl 1 rfl ?_
  refine z_callV X (c_X4_sheetAt_in l g a ft tr 2 (by omega)) gX4_lose_X4_sheetAt rfl ⟨rfl, rfl⟩ (by decide +kernel) ⟨Nat.le_of_ble_eq_true rfl, Nat.le_of_ble_eq_true rfl⟩ ZF.room (ci := 3) rfl 0 rfl (isC := [0, 1]) (by decide) rfl rfl (ws' := (wO g a ft tr ++ (wH g a ++ (wS g (a 17) (a 18) (lnF 2) (leF 2) (ceF 2))))) rfl (As := [.int (nI 2)]) (n := 1) rfl rfl (st1 := [.ref (a 17)]) rfl (Nat.le_of_ble_eq_true rfl) dX4_lose_2 ?_
  refine z_astore_n (L' := [(2, .ref (a 17)), (0, .ref (a 0)), (1, .int (nI 2))]) X dX4_lose_5 rfl (by decide) rfl ?_
  refine z_aload_n X dX4_lose_6 rfl 0 rfl ?_
  refine z_ifnonnull (tgt := 12) X dX4_lose_7 (by decide) ?_
  refine z_aload_n X dX4_lose_12 rfl 0 rfl ?_
  refine z_callV X (c_X2_hasRow l g (a 17) (a 18) (lnF 2) (leF 2) (ceF 2)) gX4_lose_X2_hasRow rfl ⟨rfl, rfl⟩ (by decide +kernel) ⟨Nat.le_of_ble_eq_true rfl, Nat.le_of_ble_eq_true rfl⟩ ZF.room (ci := 2) rfl 2 rfl (isC := [2, 3]) (by decide) rfl rfl (ws' := (wO g a ft tr ++ (wH g a ++ (wS g (a 17) (a 18) (lnF 2) (leF 2) (ceF 2))))) rfl (As := []) (n := 0) rfl rfl (st1 := [.int (bI (!decide ((leF 2) = (-1))))]) rfl (Nat.le_of_ble_eq_true rfl) dX4_lose_13 ?_
  refine z_if_neB (tgt := 21) X dX4_lose_16 (by decide) (fun hq1 => ?_) (fun hq1 => ?_)
  ·
    have hq2 : (decide ((leF 2) = (-1))) = false := by simpa using hq1
    have hq3 : ¬ ((leF 2) = (-1)) := of_decide_eq_false hq2
    refine z_aload_n X dX4_lose_21 rfl 0 rfl ?_
    refine z_callV X (c_X2_dropRow l g (a 17) (a 18) (lnF 2) (leF 2) (ceF 2)) gX4_lose_X2_dropRow rfl ⟨rfl, rfl⟩ (by decide +kernel) ⟨Nat.le_of_ble_eq_true rfl, Nat.le_of_ble_eq_true rfl⟩ ZF.room (ci := 2) rfl 2 rfl (isC := [2, 3]) (by decide) rfl rfl (ws' := (wO g a ft tr ++ (wH g a ++ (wS g (a 17) (a 18) (lnF 2) (-1) (ceF 2))))) rfl (As := []) (n := 0) rfl rfl (st1 := []) rfl (Nat.le_of_ble_eq_true rfl) dX4_lose_22 ?_
    refine z_iconst (v := nI 1) X dX4_lose_25 (by decide) ?_
    exact z_iret X ZF dX4_lose_26 (by simp [hq3]) rfl
  ·
    have hq4 : (decide ((leF 2) = (-1))) = true := by simpa using hq1
    have hq5 : ((leF 2) = (-1)) := of_decide_eq_true hq4
    refine z_iconst (v := nI 0) X dX4_lose_19 (by decide) ?_
    have e6 : (-1) = (leF 2) := by simp [hq5]
    exact z_iret X ZF dX4_lose_20 (by simp [hq5]) (by rw [e6])
abbrev rX4_put_2 : Room := { frames := 2, cells := 0, slots := 0, locals := 45 }
set_option maxHeartbeats 4000000 in
set_option maxRecDepth 100000 in
theorem c_X4_put_2 (l : Launch) (g : zg) (a : Nat → Nat) (ft : Int32) (tr : Int32) (lnF : Nat → Int32) (leF : Nat → Int32) (ceF : Nat → Nat → Int32) (i : Int32) (v : Int32) (hle : vle (leF 2)) : zM l g yX4_put wsX4_put rX4_put_2 [.ref (a 0), .int (nI 2), .int i, .int v] (wO g a ft tr ++ (wH g a ++ (wS g (a 17) (a 18) (lnF 2) (leF 2) (ceF 2)))) (some (.int (if foc (lnF 2) (leF 2) (lnF 2) i (nI 1) = 0 then nI 1 else (-10) - foc (lnF 2) (leF 2) (lnF 2) i (nI 1)))) (wO g a (foc (lnF 2) (leF 2) (lnF 2) i (nI 1)) tr ++ (wH g a ++ (wS g (a 17) (a 18) (lnF 2) (leF 2) (if foc (lnF 2) (leF 2) (lnF 2) i (nI 1) = 0 then upd (ceF 2) (tn i) (cut (lnF 2) v) else ceF 2)))) := by
  refine z_met (own := RX4) (cc := cX4_put) (maxL := 6) (ret := some .int) (by decide +kernel) rfl rfl (Nat.le_of_ble_eq_true rfl) ?_
  intro M X ZF
  refine z_Le (L' := [(0, .ref (a 0)), (1, .int (nI 2)), (2, .int i), (3, .int v)]) rfl ?_
  have i_RX4 : ∀ w ∈ wsX40, w ∈ wsX4_put := by decide +kernel
  have f_32 : Cond.fieldLink RX4 32 (TX4 3).1 (TX4 3).2.1 (TX4 3).2.2.1 ∈ wsX4_put := by decide +kernel
  refine z_aload_n X dX4_put_0 rfl 0 rfl ?_
  refine z_iconst (v := nI 0) X dX4_put_1 (by decide) ?_
  refine z_put (ws' := (wO g a (nI 0) tr ++ (wH g a ++ (wS g (a 17) (a 18) (lnF 2) (leF 2) (ceF 2))))) (N := 5) X i_RX4 (ci := 3) rfl tyX4 tyX4_ok nmX4 0 rfl 3 (by decide) f_32 rfl (ty := .int) (by decide +kernel) rfl rfl (Nat.le_of_ble_eq_true rfl) dX4_put_2 rfl ?_
  refine z_aload_n X dX4_put_5 rfl 0 rfl ?_
  refine z_iload_n X dX4_put_6 rfl 1 rfl ?_
  refine z_callV X (c_X4_sheetAt_in l g a (nI 0) tr 2 (by omega)) gX4_put_X4_sheetAt rfl ⟨rfl, rfl⟩ (by decide +kernel) ⟨Nat.le_of_ble_eq_true rfl, Nat.le_of_ble_eq_true rfl⟩ ZF.room (ci := 3) rfl 0 rfl (isC := [0, 1]) (by decide) rfl rfl (ws' := (wO g a (nI 0) tr ++ (wH g a ++ (wS g (a 17) (a 18) (lnF 2) (leF 2) (ceF 2))))) rfl (As := [.int (nI 2)]) (n := 1) rfl rfl (st1 := [.ref (a 17)]) rfl (Nat.le_of_ble_eq_true rfl) dX4_put_7 ?_
  refine z_astore (L' := [(4, .ref (a 17)), (0, .ref (a 0)), (1, .int (nI 2)), (2, .int i), (3, .int v)]) X dX4_put_10 (by decide) rfl ?_
  refine z_aload X dX4_put_12 0 rfl ?_
  refine z_ifnonnull (tgt := 19) X dX4_put_14 (by decide) ?_
  refine z_aload X dX4_put_19 0 rfl ?_
  refine z_aload X dX4_put_21 0 rfl ?_
  refine z_callV X (c_X2_rowLane l g (a 17) (a 18) (lnF 2) (leF 2) (ceF 2)) gX4_put_X2_rowLane rfl ⟨rfl, rfl⟩ (by decide +kernel) ⟨Nat.le_of_ble_eq_true rfl, Nat.le_of_ble_eq_true rfl⟩ ZF.room (ci := 2) rfl 2 rfl (isC := [2, 3]) (by decide) rfl rfl (ws' := (wO g a (nI 0) tr ++ (wH g a ++ (wS g (a 17) (a 18) (lnF 2) (leF 2) (ceF 2))))) rfl (As := []) (n := 0) rfl rfl (st1 := [.int (lnF 2), .ref (a 17)]) rfl (Nat.le_of_ble_eq_true rfl) dX4_put_23 ?_
  refine z_iload_n X dX4_put_26 rfl 3 rfl ?_
  refine z_iconst (v := nI 1) X dX4_put_27 (by decide) ?_
  refine z_callV X (c_X2_faultOfCells l g (a 17) (a 18) (lnF 2) (leF 2) (ceF 2) (lnF 2) i (nI 1)) gX4_put_X2_faultOfCells rfl ⟨rfl, rfl⟩ (by decide +kernel) ⟨Nat.le_of_ble_eq_true rfl, Nat.le_of_ble_eq_true rfl⟩ ZF.room (ci := 2) rfl 2 rfl (isC := [2, 3]) (by decide) rfl rfl (ws' := (wO g a (nI 0) tr ++ (wH g a ++ (wS g (a 17) (a 18) (lnF 2) (leF 2) (ceF 2))))) rfl (As := [.int (lnF 2), .int i, .int (nI 1)]) (n := 3) rfl rfl (st1 := [.int (foc (lnF 2) (leF 2) (lnF 2) i (nI 1))]) rfl (Nat.le_of_ble_eq_true rfl) dX4_put_28 ?_
  refine z_istore (L' := [(5, .int (foc (lnF 2) (leF 2) (lnF 2) i (nI 1))), (4, .ref (a 17)), (0, .ref (a 0)), (1, .int (nI 2)), (2, .int i), (3, .int v)]) X dX4_put_31 (by decide) rfl ?_
  refine z_iload X dX4_put_33 0 rfl ?_
  refine z_if_eq (tgt := 45) X dX4_put_35 (by decide) (fun hq1 => ?_) (fun hq1 => ?_)
  ·
    obtain ⟨i_a, ei_a, hin_a, m_a, hm_a, him_a⟩ := foc1 hle hq1
    subst ei_a
    have hti_a : tn (nI i_a) = i_a := nI_clamp (by omega)
    refine z_aload X dX4_put_45 1 rfl ?_
    refine z_iload_n X dX4_put_47 rfl 4 rfl ?_
    refine z_iload_n X dX4_put_48 rfl 5 rfl ?_
    refine z_callV X (c_X2_write l g (a 17) (a 18) (lnF 2) (leF 2) (ceF 2) i_a v (by omega)) gX4_put_X2_write rfl ⟨rfl, rfl⟩ (by decide +kernel) ⟨Nat.le_of_ble_eq_true rfl, Nat.le_of_ble_eq_true rfl⟩ ZF.room (ci := 2) rfl 2 rfl (isC := [2, 3]) (by decide) rfl rfl (ws' := (wO g a (nI 0) tr ++ (wH g a ++ (wS g (a 17) (a 18) (lnF 2) (leF 2) (upd (ceF 2) i_a (cut (lnF 2) v)))))) rfl (As := [.int (nI i_a), .int v]) (n := 2) rfl rfl (st1 := []) rfl (Nat.le_of_ble_eq_true rfl) dX4_put_49 ?_
    refine z_iconst (v := nI 1) X dX4_put_52 (by decide) ?_
    have e2 : (foc (lnF 2) (leF 2) (lnF 2) (nI i_a) (nI 1)) = (nI 0) := by first | (simp [nI_0, hq1, hti_a]; done) | (simp [hq1, hti_a])
    have e3 : (if foc (lnF 2) (leF 2) (lnF 2) (nI i_a) (nI 1) = 0 then upd (ceF 2) (tn (nI i_a)) (cut (lnF 2) v) else ceF 2) = (upd (ceF 2) i_a (cut (lnF 2) v)) := by first | (simp [nI_0, hq1, hti_a]; done) | (simp [hq1, hti_a])
    exact z_iret X ZF dX4_put_53 (by first | (simp [nI_0, hq1, hti_a]; done) | (simp [hq1, hti_a])) (by first | rw [e3, e2] | (simp only [e3, e2]))
  ·
    refine z_aload_n X dX4_put_38 rfl 2 rfl ?_
    refine z_iload X dX4_put_39 0 rfl ?_
    refine z_callV X (c_X4_faulted l g a (nI 0) tr (foc (lnF 2) (leF 2) (lnF 2) i (nI 1))) gX4_put_X4_faulted rfl ⟨rfl, rfl⟩ (by decide +kernel) ⟨Nat.le_of_ble_eq_true rfl, Nat.le_of_ble_eq_true rfl⟩ ZF.room (ci := 3) rfl 0 rfl (isC := [0]) (by decide) rfl rfl (ws' := (wO g a (foc (lnF 2) (leF 2) (lnF 2) i (nI 1)) tr ++ (wH g a ++ (wS g (a 17) (a 18) (lnF 2) (leF 2) (ceF 2))))) rfl (As := [.int (foc (lnF 2) (leF 2) (lnF 2) i (nI 1))]) (n := 1) rfl rfl (st1 := [.int ((-10) - (foc (lnF 2) (leF 2) (lnF 2) i (nI 1)))]) rfl (Nat.le_of_ble_eq_true rfl) dX4_put_41 ?_
    have e4 : (if foc (lnF 2) (leF 2) (lnF 2) i (nI 1) = 0 then upd (ceF 2) (tn i) (cut (lnF 2) v) else ceF 2) = (ceF 2) := by first | (simp [nI_0, hq1]; done) | (simp [hq1])
    exact z_iret X ZF dX4_put_44 (by first | (simp [nI_0, hq1]; done) | (simp [hq1])) (by rw [e4])
abbrev rX4_cell_2 : Room := { frames := 2, cells := 0, slots := 0, locals := 45 }
set_option maxHeartbeats 4000000 in
set_option maxRecDepth 100000 in
theorem c_X4_cell_2 (l : Launch) (g : zg) (a : Nat → Nat) (ft : Int32) (tr : Int32) (lnF : Nat → Int32) (leF : Nat → Int32) (ceF : Nat → Nat → Int32) (i : Int32) (lane : Int32) (hle : vle (leF 2)) : zM l g yX4_cell wsX4_cell rX4_cell_2 [.ref (a 0), .int (nI 2), .int i, .int lane] (wO g a ft tr ++ (wH g a ++ (wS g (a 17) (a 18) (lnF 2) (leF 2) (ceF 2)))) (some (.long (if zin lane 3 && decide (foc (lnF 2) (leF 2) lane i (nI 1) = 0) then (ceF 2 (tn i)).toInt64 else -9223372036854775808))) (wO g a (if zin lane 3 then foc (lnF 2) (leF 2) lane i (nI 1) else nI 0) tr ++ (wH g a ++ (wS g (a 17) (a 18) (lnF 2) (leF 2) (ceF 2)))) := by
  refine z_met (own := RX4) (cc := cX4_cell) (maxL := 6) (ret := some .long) (by decide +kernel) rfl rfl (Nat.le_of_ble_eq_true rfl) ?_
  intro M X ZF
  refine z_Le (L' := [(0, .ref (a 0)), (1, .int (nI 2)), (2, .int i), (3, .int lane)]) rfl ?_
  have i_RX4 : ∀ w ∈ wsX40, w ∈ wsX4_cell := by decide +kernel
  have f_32 : Cond.fieldLink RX4 32 (TX4 3).1 (TX4 3).2.1 (TX4 3).2.2.1 ∈ wsX4_cell := by decide +kernel
  have k_189 : Cond.constantLong RX4 189 (-9223372036854775808) ∈ wsX4_cell := by decide +kernel
  refine z_aload_n X dX4_cell_0 rfl 0 rfl ?_
  refine z_iconst (v := nI 0) X dX4_cell_1 (by decide) ?_
  refine z_put (ws' := (wO g a (nI 0) tr ++ (wH g a ++ (wS g (a 17) (a 18) (lnF 2) (leF 2) (ceF 2))))) (N := 5) X i_RX4 (ci := 3) rfl tyX4 tyX4_ok nmX4 0 rfl 3 (by decide) f_32 rfl (ty := .int) (by decide +kernel) rfl rfl (Nat.le_of_ble_eq_true rfl) dX4_cell_2 rfl ?_
  refine z_aload_n X dX4_cell_5 rfl 0 rfl ?_
  refine z_iload_n X dX4_cell_6 rfl 1 rfl ?_
  refine z_callV X (c_X4_sheetAt_in l g a (nI 0) tr 2 (by omega)) gX4_cell_X4_sheetAt rfl ⟨rfl, rfl⟩ (by decide +kernel) ⟨Nat.le_of_ble_eq_true rfl, Nat.le_of_ble_eq_true rfl⟩ ZF.room (ci := 3) rfl 0 rfl (isC := [0, 1]) (by decide) rfl rfl (ws' := (wO g a (nI 0) tr ++ (wH g a ++ (wS g (a 17) (a 18) (lnF 2) (leF 2) (ceF 2))))) rfl (As := [.int (nI 2)]) (n := 1) rfl rfl (st1 := [.ref (a 17)]) rfl (Nat.le_of_ble_eq_true rfl) dX4_cell_7 ?_
  refine z_astore (L' := [(4, .ref (a 17)), (0, .ref (a 0)), (1, .int (nI 2)), (2, .int i), (3, .int lane)]) X dX4_cell_10 (by decide) rfl ?_
  refine z_aload X dX4_cell_12 0 rfl ?_
  refine z_ifnull X dX4_cell_14 ?_
  refine z_iload_n X dX4_cell_17 rfl 4 rfl ?_
  refine z_callS0 X (c_X4_isLane l g lane) gX4_cell_X4_isLane rfl ⟨rfl, rfl⟩ (by decide +kernel) ⟨Nat.le_of_ble_eq_true rfl, Nat.le_of_ble_eq_true rfl⟩ ZF.room (As := [.int lane]) (n := 1) rfl rfl (st1 := [.int (bI (zin lane 3))]) rfl (Nat.le_of_ble_eq_true rfl) dX4_cell_18 ?_
  refine z_if_neB (tgt := 28) X dX4_cell_21 (by decide) (fun hq1 => ?_) (fun hq1 => ?_)
  ·
    refine z_aload X dX4_cell_28 0 rfl ?_
    refine z_iload_n X dX4_cell_30 rfl 4 rfl ?_
    refine z_iload_n X dX4_cell_31 rfl 3 rfl ?_
    refine z_iconst (v := nI 1) X dX4_cell_32 (by decide) ?_
    refine z_callV X (c_X2_faultOfCells l g (a 17) (a 18) (lnF 2) (leF 2) (ceF 2) lane i (nI 1)) gX4_cell_X2_faultOfCells rfl ⟨rfl, rfl⟩ (by decide +kernel) ⟨Nat.le_of_ble_eq_true rfl, Nat.le_of_ble_eq_true rfl⟩ ZF.room (ci := 2) rfl 2 rfl (isC := [2, 3]) (by decide) rfl rfl (ws' := (wO g a (nI 0) tr ++ (wH g a ++ (wS g (a 17) (a 18) (lnF 2) (leF 2) (ceF 2))))) rfl (As := [.int lane, .int i, .int (nI 1)]) (n := 3) rfl rfl (st1 := [.int (foc (lnF 2) (leF 2) lane i (nI 1))]) rfl (Nat.le_of_ble_eq_true rfl) dX4_cell_33 ?_
    refine z_istore (L' := [(5, .int (foc (lnF 2) (leF 2) lane i (nI 1))), (4, .ref (a 17)), (0, .ref (a 0)), (1, .int (nI 2)), (2, .int i), (3, .int lane)]) X dX4_cell_36 (by decide) rfl ?_
    refine z_iload X dX4_cell_38 0 rfl ?_
    refine z_if_eq (tgt := 53) X dX4_cell_40 (by decide) (fun hq2 => ?_) (fun hq2 => ?_)
    ·
      obtain ⟨i_a, ei_a, hin_a, m_a, hm_a, him_a⟩ := foc1 hle hq2
      subst ei_a
      have hti_a : tn (nI i_a) = i_a := nI_clamp (by omega)
      refine z_aload X dX4_cell_53 1 rfl ?_
      refine z_iload_n X dX4_cell_55 rfl 4 rfl ?_
      refine z_callV X (c_X2_numberAt l g (a 17) (a 18) (lnF 2) (leF 2) (ceF 2) i_a (by omega)) gX4_cell_X2_numberAt rfl ⟨rfl, rfl⟩ (by decide +kernel) ⟨Nat.le_of_ble_eq_true rfl, Nat.le_of_ble_eq_true rfl⟩ ZF.room (ci := 2) rfl 2 rfl (isC := [2, 3]) (by decide) rfl rfl (ws' := (wO g a (nI 0) tr ++ (wH g a ++ (wS g (a 17) (a 18) (lnF 2) (leF 2) (ceF 2))))) rfl (As := [.int (nI i_a)]) (n := 1) rfl rfl (st1 := [.int ((ceF 2) i_a)]) rfl (Nat.le_of_ble_eq_true rfl) dX4_cell_56 ?_
      refine z_i2l (v := ((ceF 2) i_a).toInt64) X dX4_cell_59 rfl ?_
      have e3 : (if zin lane 3 then foc (lnF 2) (leF 2) lane (nI i_a) (nI 1) else nI 0) = (nI 0) := by first | (simp [nI_0, hq1, hq2, hti_a]; done) | (simp [hq1, hq2, hti_a])
      exact z_lret X ZF dX4_cell_60 (by first | (simp [nI_0, hq1, hq2, hti_a]; done) | (simp [hq1, hq2, hti_a])) (by rw [e3])
    ·
      refine z_aload_n X dX4_cell_43 rfl 2 rfl ?_
      refine z_iload X dX4_cell_44 0 rfl ?_
      refine z_put (ws' := (wO g a (foc (lnF 2) (leF 2) lane i (nI 1)) tr ++ (wH g a ++ (wS g (a 17) (a 18) (lnF 2) (leF 2) (ceF 2))))) (N := 5) X i_RX4 (ci := 3) rfl tyX4 tyX4_ok nmX4 0 rfl 3 (by decide) f_32 rfl (ty := .int) (by decide +kernel) rfl rfl (Nat.le_of_ble_eq_true rfl) dX4_cell_46 rfl ?_
      refine z_ldc2 (v := -9223372036854775808) X dX4_cell_49 k_189 ?_
      have e4 : (if zin lane 3 then foc (lnF 2) (leF 2) lane i (nI 1) else nI 0) = (foc (lnF 2) (leF 2) lane i (nI 1)) := by first | (simp [nI_0, hq1, hq2]; done) | (simp [hq1, hq2])
      exact z_lret X ZF dX4_cell_52 (by first | (simp [nI_0, hq1, hq2]; done) | (simp [hq1, hq2])) (by rw [e4])
  ·
    refine z_ldc2 (v := -9223372036854775808) X dX4_cell_24 k_189 ?_
    have e5 : (if zin lane 3 then foc (lnF 2) (leF 2) lane i (nI 1) else nI 0) = (nI 0) := by first | (simp [nI_0, hq1]; done) | (simp [hq1])
    exact z_lret X ZF dX4_cell_27 (by first | (simp [nI_0, hq1]; done) | (simp [hq1])) (by rw [e5])
abbrev rX4_duchy_3 : Room := { frames := 4, cells := 0, slots := 0, locals := 92 }
set_option maxHeartbeats 4000000 in
set_option maxRecDepth 100000 in
theorem c_X4_duchy_3 (l : Launch) (g : zg) (a : Nat → Nat) (ft : Int32) (tr : Int32) (D : Nat) (E : Nat) (so : Int32) (lk : Nat → Int32) (kd : Nat → Int32) (st : Nat → Int32) (sp : Nat → Int32) (nd : Nat → Int32) (C : Nat) (rO : Nat → Int32) (rB : Nat → Int32) (rD : Nat → Int32) (rW : Nat → Int32) (lnF : Nat → Int32) (leF : Nat → Int32) (ceF : Nat → Nat → Int32) (lane : Int32) (i : Int32) (n : Int32) (hle : vle (leF 3)) (hE : E ≤ 4) : zM l g yX4_duchy wsX4_duchy rX4_duchy_3 [.ref (a 0), .int (nI 3), .int lane, .int i, .int n] (wO g a ft tr ++ (wD g a D E so lk kd st sp nd ++ (wR g a C rO rB rD rW ++ (wH g a ++ (wS g (a 19) (a 20) (lnF 3) (leF 3) (ceF 3)))))) (some (.int (dur lane (foc (lnF 3) (leF 3) lane i n) (frun (ceF 3) (tn i) (tn n) 0 0 0 0) (tea (tn n) (tdy (ceF 3) (tn i) (tn n)))))) (wO g a (if zin lane 3 then foc (lnF 3) (leF 3) lane i n else nI 0) tr ++ (wD g a (if duk lane (foc (lnF 3) (leF 3) lane i n) (frun (ceF 3) (tn i) (tn n) 0 0 0 0) then (tdy (ceF 3) (tn i) (tn n)) else D) (if duk lane (foc (lnF 3) (leF 3) lane i n) (frun (ceF 3) (tn i) (tn n) 0 0 0 0) then (tea (tn n) (tdy (ceF 3) (tn i) (tn n))) else E) (if duk lane (foc (lnF 3) (leF 3) lane i n) (frun (ceF 3) (tn i) (tn n) 0 0 0 0) then ceF 3 (tn i + 1) - nI 48 else so) (if duk lane (foc (lnF 3) (leF 3) lane i n) (frun (ceF 3) (tn i) (tn n) 0 0 0 0) then tlk (ceF 3) (tn i) lk (tdy (ceF 3) (tn i) (tn n)) else lk) (if duk lane (foc (lnF 3) (leF 3) lane i n) (frun (ceF 3) (tn i) (tn n) 0 0 0 0) then tkd (ceF 3) (tn i) (3 + (tdy (ceF 3) (tn i) (tn n))) kd (tea (tn n) (tdy (ceF 3) (tn i) (tn n))) else kd) (if duk lane (foc (lnF 3) (leF 3) lane i n) (frun (ceF 3) (tn i) (tn n) 0 0 0 0) then tst (ceF 3) (tn i) (3 + (tdy (ceF 3) (tn i) (tn n))) 2 st (tea (tn n) (tdy (ceF 3) (tn i) (tn n))) else st) (if duk lane (foc (lnF 3) (leF 3) lane i n) (frun (ceF 3) (tn i) (tn n) 0 0 0 0) then tst (ceF 3) (tn i) (3 + (tdy (ceF 3) (tn i) (tn n))) 3 sp (tea (tn n) (tdy (ceF 3) (tn i) (tn n))) else sp) (if duk lane (foc (lnF 3) (leF 3) lane i n) (frun (ceF 3) (tn i) (tn n) 0 0 0 0) then tst (ceF 3) (tn i) (3 + (tdy (ceF 3) (tn i) (tn n))) 4 nd (tea (tn n) (tdy (ceF 3) (tn i) (tn n))) else nd) ++ (wR g a (if duk lane (foc (lnF 3) (leF 3) lane i n) (frun (ceF 3) (tn i) (tn n) 0 0 0 0) then 0 else C) rO rB rD rW ++ (wH g a ++ (wS g (a 19) (a 20) (lnF 3) (leF 3) (ceF 3)))))) := by
  refine z_met (own := RX4) (cc := cX4_duchy) (maxL := 8) (ret := some .int) (by decide +kernel) rfl rfl (Nat.le_of_ble_eq_true rfl) ?_
  intro M X ZF
  refine z_Le (L' := [(0, .ref (a 0)), (1, .int (nI 3)), (2, .int lane), (3, .int i), (4, .int n)]) rfl ?_
  have i_RX4 : ∀ w ∈ wsX40, w ∈ wsX4_duchy := by decide +kernel
  have f_32 : Cond.fieldLink RX4 32 (TX4 3).1 (TX4 3).2.1 (TX4 3).2.2.1 ∈ wsX4_duchy := by decide +kernel
  have f_12 : Cond.fieldLink RX4 12 (TX4 0).1 (TX4 0).2.1 (TX4 0).2.2.1 ∈ wsX4_duchy := by decide +kernel
  have f_21 : Cond.fieldLink RX4 21 (TX4 1).1 (TX4 1).2.1 (TX4 1).2.2.1 ∈ wsX4_duchy := by decide +kernel
  refine z_aload_n X dX4_duchy_0 rfl 0 rfl ?_
  refine z_iconst (v := nI 0) X dX4_duchy_1 (by decide) ?_
  refine z_put (ws' := (wO g a (nI 0) tr ++ (wD g a D E so lk kd st sp nd ++ (wR g a C rO rB rD rW ++ (wH g a ++ (wS g (a 19) (a 20) (lnF 3) (leF 3) (ceF 3))))))) (N := 5) X i_RX4 (ci := 3) rfl tyX4 tyX4_ok nmX4 0 rfl 3 (by decide) f_32 rfl (ty := .int) (by decide +kernel) rfl rfl (Nat.le_of_ble_eq_true rfl) dX4_duchy_2 rfl ?_
  refine z_aload_n X dX4_duchy_5 rfl 0 rfl ?_
  refine z_iload_n X dX4_duchy_6 rfl 1 rfl ?_
  refine z_callV X (c_X4_sheetAt_in l g a (nI 0) tr 3 (by omega)) gX4_duchy_X4_sheetAt rfl ⟨rfl, rfl⟩ (by decide +kernel) ⟨Nat.le_of_ble_eq_true rfl, Nat.le_of_ble_eq_true rfl⟩ ZF.room (ci := 3) rfl 0 rfl (isC := [0, 12]) (by decide) rfl rfl (ws' := (wO g a (nI 0) tr ++ (wD g a D E so lk kd st sp nd ++ (wR g a C rO rB rD rW ++ (wH g a ++ (wS g (a 19) (a 20) (lnF 3) (leF 3) (ceF 3))))))) rfl (As := [.int (nI 3)]) (n := 1) rfl rfl (st1 := [.ref (a 19)]) rfl (Nat.le_of_ble_eq_true rfl) dX4_duchy_7 ?_
  refine z_astore (L' := [(5, .ref (a 19)), (0, .ref (a 0)), (1, .int (nI 3)), (2, .int lane), (3, .int i), (4, .int n)]) X dX4_duchy_10 (by decide) rfl ?_
  refine z_aload X dX4_duchy_12 0 rfl ?_
  refine z_ifnonnull (tgt := 19) X dX4_duchy_14 (by decide) ?_
  refine z_iload_n X dX4_duchy_19 rfl 3 rfl ?_
  refine z_callS0 X (c_X4_isLane l g lane) gX4_duchy_X4_isLane rfl ⟨rfl, rfl⟩ (by decide +kernel) ⟨Nat.le_of_ble_eq_true rfl, Nat.le_of_ble_eq_true rfl⟩ ZF.room (As := [.int lane]) (n := 1) rfl rfl (st1 := [.int (bI (zin lane 3))]) rfl (Nat.le_of_ble_eq_true rfl) dX4_duchy_20 ?_
  refine z_if_neB (tgt := 29) X dX4_duchy_23 (by decide) (fun hq1 => ?_) (fun hq1 => ?_)
  ·
    obtain ⟨jv2, hj2, ej2⟩ := zin_t (by omega) hq1
    subst ej2
    have hc2 : tn (nI jv2) = jv2 := nI_clamp (by omega)
    refine z_aload X dX4_duchy_29 0 rfl ?_
    refine z_iload_n X dX4_duchy_31 rfl 3 rfl ?_
    refine z_iload_n X dX4_duchy_32 rfl 4 rfl ?_
    refine z_iload X dX4_duchy_33 5 rfl ?_
    refine z_callV X (c_X2_faultOfCells l g (a 19) (a 20) (lnF 3) (leF 3) (ceF 3) (nI jv2) i n) gX4_duchy_X2_faultOfCells rfl ⟨rfl, rfl⟩ (by decide +kernel) ⟨Nat.le_of_ble_eq_true rfl, Nat.le_of_ble_eq_true rfl⟩ ZF.room (ci := 2) rfl 13 rfl (isC := [13, 14]) (by decide) rfl rfl (ws' := (wO g a (nI 0) tr ++ (wD g a D E so lk kd st sp nd ++ (wR g a C rO rB rD rW ++ (wH g a ++ (wS g (a 19) (a 20) (lnF 3) (leF 3) (ceF 3))))))) rfl (As := [.int (nI jv2), .int i, .int n]) (n := 3) rfl rfl (st1 := [.int (foc (lnF 3) (leF 3) (nI jv2) i n)]) rfl (Nat.le_of_ble_eq_true rfl) dX4_duchy_35 ?_
    refine z_istore (L' := [(6, .int (foc (lnF 3) (leF 3) (nI jv2) i n)), (5, .ref (a 19)), (0, .ref (a 0)), (1, .int (nI 3)), (2, .int (nI jv2)), (3, .int i), (4, .int n)]) X dX4_duchy_38 (by decide) rfl ?_
    refine z_iload X dX4_duchy_40 0 rfl ?_
    refine z_if_eq (tgt := 52) X dX4_duchy_42 (by decide) (fun hq3 => ?_) (fun hq3 => ?_)
    ·
      obtain ⟨i_a, n_a, ei_a, en_a, hin_a, m_a, hm_a, him_a⟩ := foc0 hle hq3
      subst ei_a; subst en_a
      have hti_a : tn (nI i_a) = i_a := nI_clamp (by omega)
      have htn_a : tn (nI n_a) = n_a := nI_clamp (by omega)
      refine z_aload X dX4_duchy_52 1 rfl ?_
      refine z_iload_n X dX4_duchy_54 rfl 5 rfl ?_
      refine z_iload X dX4_duchy_55 6 rfl ?_
      refine z_callS X (c_X3_firstFault l g (a 19) (a 20) (lnF 3) (leF 3) (ceF 3) i_a n_a (by omega)) gX4_duchy_X3_firstFault rfl ⟨rfl, rfl⟩ (by decide +kernel) ⟨Nat.le_of_ble_eq_true rfl, Nat.le_of_ble_eq_true rfl⟩ ZF.room (isC := [13, 14]) (by decide) rfl rfl (ws' := (wO g a (nI 0) tr ++ (wD g a D E so lk kd st sp nd ++ (wR g a C rO rB rD rW ++ (wH g a ++ (wS g (a 19) (a 20) (lnF 3) (leF 3) (ceF 3))))))) rfl (As := [.ref (a 19), .int (nI i_a), .int (nI n_a)]) (n := 3) rfl rfl (st1 := [.int (frun (ceF 3) i_a n_a 0 0 0 0)]) rfl (Nat.le_of_ble_eq_true rfl) dX4_duchy_57 ?_
      refine z_istore (L' := [(7, .int (frun (ceF 3) i_a n_a 0 0 0 0)), (6, .int (foc (lnF 3) (leF 3) (nI jv2) (nI i_a) (nI n_a))), (5, .ref (a 19)), (0, .ref (a 0)), (1, .int (nI 3)), (2, .int (nI jv2)), (3, .int (nI i_a)), (4, .int (nI n_a))]) X dX4_duchy_60 (by decide) rfl ?_
      refine z_iload X dX4_duchy_62 0 rfl ?_
      refine z_iconst (v := (-1)) X dX4_duchy_64 (by decide) ?_
      refine z_icmp_eq (tgt := 74) X dX4_duchy_65 (by decide) (fun hq4 => ?_) (fun hq4 => ?_)
      ·
        refine z_aload_n X dX4_duchy_74 rfl 3 rfl ?_
        refine z_get (v := .ref (a 1)) (N := 5) X i_RX4 (ci := 3) rfl 0 rfl 0 (by decide) f_12 rfl dX4_duchy_75 ?_
        refine z_aload X dX4_duchy_78 2 rfl ?_
        refine z_iload_n X dX4_duchy_80 rfl 6 rfl ?_
        refine z_iload X dX4_duchy_81 7 rfl ?_
        refine z_callV X (c_X0_takeText l g a (a 19) (a 20) D E so lk kd st sp nd (lnF 3) (leF 3) (ceF 3) i_a n_a (by omega) (frun_2 hq4)) gX4_duchy_X0_takeText rfl ⟨rfl, rfl⟩ (by decide +kernel) ⟨Nat.le_of_ble_eq_true rfl, Nat.le_of_ble_eq_true rfl⟩ ZF.room (ci := 0) rfl 1 rfl (isC := [1, 2, 3, 4, 5, 6, 13, 14]) (by decide) rfl rfl (ws' := (wO g a (nI 0) tr ++ (wD g a (tdy (ceF 3) i_a n_a) (tea n_a (tdy (ceF 3) i_a n_a)) ((ceF 3) (i_a + 1) - nI 48) (tlk (ceF 3) i_a lk (tdy (ceF 3) i_a n_a)) (tkd (ceF 3) i_a (3 + tdy (ceF 3) i_a n_a) kd (tea n_a (tdy (ceF 3) i_a n_a))) (tst (ceF 3) i_a (3 + tdy (ceF 3) i_a n_a) 2 st (tea n_a (tdy (ceF 3) i_a n_a))) (tst (ceF 3) i_a (3 + tdy (ceF 3) i_a n_a) 3 sp (tea n_a (tdy (ceF 3) i_a n_a))) (tst (ceF 3) i_a (3 + tdy (ceF 3) i_a n_a) 4 nd (tea n_a (tdy (ceF 3) i_a n_a))) ++ (wR g a C rO rB rD rW ++ (wH g a ++ (wS g (a 19) (a 20) (lnF 3) (leF 3) (ceF 3))))))) rfl (As := [.ref (a 19), .int (nI i_a), .int (nI n_a)]) (n := 3) rfl rfl (st1 := []) rfl (Nat.le_of_ble_eq_true rfl) dX4_duchy_83 ?_
        refine z_aload_n X dX4_duchy_86 rfl 3 rfl ?_
        refine z_get (v := .ref (a 7)) (N := 5) X i_RX4 (ci := 3) rfl 0 rfl 1 (by decide) f_21 rfl dX4_duchy_87 ?_
        refine z_callV X (c_X1_dropAll l g a C rO rB rD rW) gX4_duchy_X1_dropAll rfl ⟨rfl, rfl⟩ (by decide +kernel) ⟨Nat.le_of_ble_eq_true rfl, Nat.le_of_ble_eq_true rfl⟩ ZF.room (ci := 1) rfl 7 rfl (isC := [7, 8, 9, 10, 11]) (by decide) rfl rfl (ws' := (wO g a (nI 0) tr ++ (wD g a (tdy (ceF 3) i_a n_a) (tea n_a (tdy (ceF 3) i_a n_a)) ((ceF 3) (i_a + 1) - nI 48) (tlk (ceF 3) i_a lk (tdy (ceF 3) i_a n_a)) (tkd (ceF 3) i_a (3 + tdy (ceF 3) i_a n_a) kd (tea n_a (tdy (ceF 3) i_a n_a))) (tst (ceF 3) i_a (3 + tdy (ceF 3) i_a n_a) 2 st (tea n_a (tdy (ceF 3) i_a n_a))) (tst (ceF 3) i_a (3 + tdy (ceF 3) i_a n_a) 3 sp (tea n_a (tdy (ceF 3) i_a n_a))) (tst (ceF 3) i_a (3 + tdy (ceF 3) i_a n_a) 4 nd (tea n_a (tdy (ceF 3) i_a n_a))) ++ (wR g a 0 rO rB rD rW ++ (wH g a ++ (wS g (a 19) (a 20) (lnF 3) (leF 3) (ceF 3))))))) rfl (As := []) (n := 0) rfl rfl (st1 := []) rfl (Nat.le_of_ble_eq_true rfl) dX4_duchy_90 ?_
        refine z_aload_n X dX4_duchy_93 rfl 3 rfl ?_
        refine z_get (v := .ref (a 1)) (N := 5) X i_RX4 (ci := 3) rfl 0 rfl 0 (by decide) f_12 rfl dX4_duchy_94 ?_
        refine z_callV X (c_X0_eaterCount l g a (tdy (ceF 3) i_a n_a) (tea n_a (tdy (ceF 3) i_a n_a)) ((ceF 3) (i_a + 1) - nI 48) (tlk (ceF 3) i_a lk (tdy (ceF 3) i_a n_a)) (tkd (ceF 3) i_a (3 + tdy (ceF 3) i_a n_a) kd (tea n_a (tdy (ceF 3) i_a n_a))) (tst (ceF 3) i_a (3 + tdy (ceF 3) i_a n_a) 2 st (tea n_a (tdy (ceF 3) i_a n_a))) (tst (ceF 3) i_a (3 + tdy (ceF 3) i_a n_a) 3 sp (tea n_a (tdy (ceF 3) i_a n_a))) (tst (ceF 3) i_a (3 + tdy (ceF 3) i_a n_a) 4 nd (tea n_a (tdy (ceF 3) i_a n_a)))) gX4_duchy_X0_eaterCount rfl ⟨rfl, rfl⟩ (by decide +kernel) ⟨Nat.le_of_ble_eq_true rfl, Nat.le_of_ble_eq_true rfl⟩ ZF.room (ci := 0) rfl 1 rfl (isC := [1, 2, 3, 4, 5, 6]) (by decide) rfl rfl (ws' := (wO g a (nI 0) tr ++ (wD g a (tdy (ceF 3) i_a n_a) (tea n_a (tdy (ceF 3) i_a n_a)) ((ceF 3) (i_a + 1) - nI 48) (tlk (ceF 3) i_a lk (tdy (ceF 3) i_a n_a)) (tkd (ceF 3) i_a (3 + tdy (ceF 3) i_a n_a) kd (tea n_a (tdy (ceF 3) i_a n_a))) (tst (ceF 3) i_a (3 + tdy (ceF 3) i_a n_a) 2 st (tea n_a (tdy (ceF 3) i_a n_a))) (tst (ceF 3) i_a (3 + tdy (ceF 3) i_a n_a) 3 sp (tea n_a (tdy (ceF 3) i_a n_a))) (tst (ceF 3) i_a (3 + tdy (ceF 3) i_a n_a) 4 nd (tea n_a (tdy (ceF 3) i_a n_a))) ++ (wR g a 0 rO rB rD rW ++ (wH g a ++ (wS g (a 19) (a 20) (lnF 3) (leF 3) (ceF 3))))))) rfl (As := []) (n := 0) rfl rfl (st1 := [.int (nI (tea n_a (tdy (ceF 3) i_a n_a)))]) rfl (Nat.le_of_ble_eq_true rfl) dX4_duchy_97 ?_
        have e5 : (if zin (nI jv2) 3 then foc (lnF 3) (leF 3) (nI jv2) (nI i_a) (nI n_a) else nI 0) = (nI 0) := by simp [dur, duk, nI_0, hq1, hc2, hq3, hti_a, htn_a, hq4]
        have e6 : (if duk (nI jv2) (foc (lnF 3) (leF 3) (nI jv2) (nI i_a) (nI n_a)) (frun (ceF 3) (tn (nI i_a)) (tn (nI n_a)) 0 0 0 0) then (tdy (ceF 3) (tn (nI i_a)) (tn (nI n_a))) else D) = (tdy (ceF 3) i_a n_a) := by simp [dur, duk, nI_0, hq1, hc2, hq3, hti_a, htn_a, hq4]
        have e7 : (if duk (nI jv2) (foc (lnF 3) (leF 3) (nI jv2) (nI i_a) (nI n_a)) (frun (ceF 3) (tn (nI i_a)) (tn (nI n_a)) 0 0 0 0) then (tea (tn (nI n_a)) (tdy (ceF 3) (tn (nI i_a)) (tn (nI n_a)))) else E) = (tea n_a (tdy (ceF 3) i_a n_a)) := by simp [dur, duk, nI_0, hq1, hc2, hq3, hti_a, htn_a, hq4]
        have e8 : (if duk (nI jv2) (foc (lnF 3) (leF 3) (nI jv2) (nI i_a) (nI n_a)) (frun (ceF 3) (tn (nI i_a)) (tn (nI n_a)) 0 0 0 0) then ceF 3 (tn (nI i_a) + 1) - nI 48 else so) = ((ceF 3) (i_a + 1) - nI 48) := by simp [dur, duk, nI_0, hq1, hc2, hq3, hti_a, htn_a, hq4]
        have e9 : (if duk (nI jv2) (foc (lnF 3) (leF 3) (nI jv2) (nI i_a) (nI n_a)) (frun (ceF 3) (tn (nI i_a)) (tn (nI n_a)) 0 0 0 0) then tlk (ceF 3) (tn (nI i_a)) lk (tdy (ceF 3) (tn (nI i_a)) (tn (nI n_a))) else lk) = (tlk (ceF 3) i_a lk (tdy (ceF 3) i_a n_a)) := by simp [dur, duk, nI_0, hq1, hc2, hq3, hti_a, htn_a, hq4]
        have e10 : (if duk (nI jv2) (foc (lnF 3) (leF 3) (nI jv2) (nI i_a) (nI n_a)) (frun (ceF 3) (tn (nI i_a)) (tn (nI n_a)) 0 0 0 0) then tkd (ceF 3) (tn (nI i_a)) (3 + (tdy (ceF 3) (tn (nI i_a)) (tn (nI n_a)))) kd (tea (tn (nI n_a)) (tdy (ceF 3) (tn (nI i_a)) (tn (nI n_a)))) else kd) = (tkd (ceF 3) i_a (3 + tdy (ceF 3) i_a n_a) kd (tea n_a (tdy (ceF 3) i_a n_a))) := by simp [dur, duk, nI_0, hq1, hc2, hq3, hti_a, htn_a, hq4]
        have e11 : (if duk (nI jv2) (foc (lnF 3) (leF 3) (nI jv2) (nI i_a) (nI n_a)) (frun (ceF 3) (tn (nI i_a)) (tn (nI n_a)) 0 0 0 0) then tst (ceF 3) (tn (nI i_a)) (3 + (tdy (ceF 3) (tn (nI i_a)) (tn (nI n_a)))) 2 st (tea (tn (nI n_a)) (tdy (ceF 3) (tn (nI i_a)) (tn (nI n_a)))) else st) = (tst (ceF 3) i_a (3 + tdy (ceF 3) i_a n_a) 2 st (tea n_a (tdy (ceF 3) i_a n_a))) := by simp [dur, duk, nI_0, hq1, hc2, hq3, hti_a, htn_a, hq4]
        have e12 : (if duk (nI jv2) (foc (lnF 3) (leF 3) (nI jv2) (nI i_a) (nI n_a)) (frun (ceF 3) (tn (nI i_a)) (tn (nI n_a)) 0 0 0 0) then tst (ceF 3) (tn (nI i_a)) (3 + (tdy (ceF 3) (tn (nI i_a)) (tn (nI n_a)))) 3 sp (tea (tn (nI n_a)) (tdy (ceF 3) (tn (nI i_a)) (tn (nI n_a)))) else sp) = (tst (ceF 3) i_a (3 + tdy (ceF 3) i_a n_a) 3 sp (tea n_a (tdy (ceF 3) i_a n_a))) := by simp [dur, duk, nI_0, hq1, hc2, hq3, hti_a, htn_a, hq4]
        have e13 : (if duk (nI jv2) (foc (lnF 3) (leF 3) (nI jv2) (nI i_a) (nI n_a)) (frun (ceF 3) (tn (nI i_a)) (tn (nI n_a)) 0 0 0 0) then tst (ceF 3) (tn (nI i_a)) (3 + (tdy (ceF 3) (tn (nI i_a)) (tn (nI n_a)))) 4 nd (tea (tn (nI n_a)) (tdy (ceF 3) (tn (nI i_a)) (tn (nI n_a)))) else nd) = (tst (ceF 3) i_a (3 + tdy (ceF 3) i_a n_a) 4 nd (tea n_a (tdy (ceF 3) i_a n_a))) := by simp [dur, duk, nI_0, hq1, hc2, hq3, hti_a, htn_a, hq4]
        have e14 : (if duk (nI jv2) (foc (lnF 3) (leF 3) (nI jv2) (nI i_a) (nI n_a)) (frun (ceF 3) (tn (nI i_a)) (tn (nI n_a)) 0 0 0 0) then 0 else C) = 0 := by simp [dur, duk, nI_0, hq1, hc2, hq3, hti_a, htn_a, hq4]
        exact z_iret X ZF dX4_duchy_100 (by simp [dur, duk, nI_0, hq1, hc2, hq3, hti_a, htn_a, hq4]) (by first | rw [e14, e13, e12, e11, e10, e9, e8, e7, e6, e5] | (simp only [e14, e13, e12, e11, e10, e9, e8, e7, e6, e5]))
      ·
        refine z_bipush (v := (-100)) X dX4_duchy_68 (by decide) ?_
        refine z_iload X dX4_duchy_70 0 rfl ?_
        refine z_isub X dX4_duchy_72 ?_
        have e15 : (if zin (nI jv2) 3 then foc (lnF 3) (leF 3) (nI jv2) (nI i_a) (nI n_a) else nI 0) = (nI 0) := by simp [dur, duk, nI_0, hq1, hc2, hq3, hti_a, htn_a, hq4]
        have e16 : (if duk (nI jv2) (foc (lnF 3) (leF 3) (nI jv2) (nI i_a) (nI n_a)) (frun (ceF 3) (tn (nI i_a)) (tn (nI n_a)) 0 0 0 0) then (tdy (ceF 3) (tn (nI i_a)) (tn (nI n_a))) else D) = D := by simp [dur, duk, nI_0, hq1, hc2, hq3, hti_a, htn_a, hq4]
        have e17 : (if duk (nI jv2) (foc (lnF 3) (leF 3) (nI jv2) (nI i_a) (nI n_a)) (frun (ceF 3) (tn (nI i_a)) (tn (nI n_a)) 0 0 0 0) then (tea (tn (nI n_a)) (tdy (ceF 3) (tn (nI i_a)) (tn (nI n_a)))) else E) = E := by simp [dur, duk, nI_0, hq1, hc2, hq3, hti_a, htn_a, hq4]
        have e18 : (if duk (nI jv2) (foc (lnF 3) (leF 3) (nI jv2) (nI i_a) (nI n_a)) (frun (ceF 3) (tn (nI i_a)) (tn (nI n_a)) 0 0 0 0) then ceF 3 (tn (nI i_a) + 1) - nI 48 else so) = so := by simp [dur, duk, nI_0, hq1, hc2, hq3, hti_a, htn_a, hq4]
        have e19 : (if duk (nI jv2) (foc (lnF 3) (leF 3) (nI jv2) (nI i_a) (nI n_a)) (frun (ceF 3) (tn (nI i_a)) (tn (nI n_a)) 0 0 0 0) then tlk (ceF 3) (tn (nI i_a)) lk (tdy (ceF 3) (tn (nI i_a)) (tn (nI n_a))) else lk) = lk := by simp [dur, duk, nI_0, hq1, hc2, hq3, hti_a, htn_a, hq4]
        have e20 : (if duk (nI jv2) (foc (lnF 3) (leF 3) (nI jv2) (nI i_a) (nI n_a)) (frun (ceF 3) (tn (nI i_a)) (tn (nI n_a)) 0 0 0 0) then tkd (ceF 3) (tn (nI i_a)) (3 + (tdy (ceF 3) (tn (nI i_a)) (tn (nI n_a)))) kd (tea (tn (nI n_a)) (tdy (ceF 3) (tn (nI i_a)) (tn (nI n_a)))) else kd) = kd := by simp [dur, duk, nI_0, hq1, hc2, hq3, hti_a, htn_a, hq4]
        have e21 : (if duk (nI jv2) (foc (lnF 3) (leF 3) (nI jv2) (nI i_a) (nI n_a)) (frun (ceF 3) (tn (nI i_a)) (tn (nI n_a)) 0 0 0 0) then tst (ceF 3) (tn (nI i_a)) (3 + (tdy (ceF 3) (tn (nI i_a)) (tn (nI n_a)))) 2 st (tea (tn (nI n_a)) (tdy (ceF 3) (tn (nI i_a)) (tn (nI n_a)))) else st) = st := by simp [dur, duk, nI_0, hq1, hc2, hq3, hti_a, htn_a, hq4]
        have e22 : (if duk (nI jv2) (foc (lnF 3) (leF 3) (nI jv2) (nI i_a) (nI n_a)) (frun (ceF 3) (tn (nI i_a)) (tn (nI n_a)) 0 0 0 0) then tst (ceF 3) (tn (nI i_a)) (3 + (tdy (ceF 3) (tn (nI i_a)) (tn (nI n_a)))) 3 sp (tea (tn (nI n_a)) (tdy (ceF 3) (tn (nI i_a)) (tn (nI n_a)))) else sp) = sp := by simp [dur, duk, nI_0, hq1, hc2, hq3, hti_a, htn_a, hq4]
        have e23 : (if duk (nI jv2) (foc (lnF 3) (leF 3) (nI jv2) (nI i_a) (nI n_a)) (frun (ceF 3) (tn (nI i_a)) (tn (nI n_a)) 0 0 0 0) then tst (ceF 3) (tn (nI i_a)) (3 + (tdy (ceF 3) (tn (nI i_a)) (tn (nI n_a)))) 4 nd (tea (tn (nI n_a)) (tdy (ceF 3) (tn (nI i_a)) (tn (nI n_a)))) else nd) = nd := by simp [dur, duk, nI_0, hq1, hc2, hq3, hti_a, htn_a, hq4]
        have e24 : (if duk (nI jv2) (foc (lnF 3) (leF 3) (nI jv2) (nI i_a) (nI n_a)) (frun (ceF 3) (tn (nI i_a)) (tn (nI n_a)) 0 0 0 0) then 0 else C) = C := by simp [dur, duk, nI_0, hq1, hc2, hq3, hti_a, htn_a, hq4]
        exact z_iret X ZF dX4_duchy_73 (by simp [dur, duk, nI_0, hq1, hc2, hq3, hti_a, htn_a, hq4]) (by first | rw [e24, e23, e22, e21, e20, e19, e18, e17, e16, e15] | (simp only [e24, e23, e22, e21, e20, e19, e18, e17, e16, e15]))
    ·
      refine z_aload_n X dX4_duchy_45 rfl 2 rfl ?_
      refine z_iload X dX4_duchy_46 0 rfl ?_
      refine z_callV X (c_X4_faulted l g a (nI 0) tr (foc (lnF 3) (leF 3) (nI jv2) i n)) gX4_duchy_X4_faulted rfl ⟨rfl, rfl⟩ (by decide +kernel) ⟨Nat.le_of_ble_eq_true rfl, Nat.le_of_ble_eq_true rfl⟩ ZF.room (ci := 3) rfl 0 rfl (isC := [0]) (by decide) rfl rfl (ws' := (wO g a (foc (lnF 3) (leF 3) (nI jv2) i n) tr ++ (wD g a D E so lk kd st sp nd ++ (wR g a C rO rB rD rW ++ (wH g a ++ (wS g (a 19) (a 20) (lnF 3) (leF 3) (ceF 3))))))) rfl (As := [.int (foc (lnF 3) (leF 3) (nI jv2) i n)]) (n := 1) rfl rfl (st1 := [.int ((-10) - (foc (lnF 3) (leF 3) (nI jv2) i n))]) rfl (Nat.le_of_ble_eq_true rfl) dX4_duchy_48 ?_
      have e25 : (if zin (nI jv2) 3 then foc (lnF 3) (leF 3) (nI jv2) i n else nI 0) = (foc (lnF 3) (leF 3) (nI jv2) i n) := by simp [dur, duk, nI_0, hq1, hc2, hq3]
      have e26 : (if duk (nI jv2) (foc (lnF 3) (leF 3) (nI jv2) i n) (frun (ceF 3) (tn i) (tn n) 0 0 0 0) then (tdy (ceF 3) (tn i) (tn n)) else D) = D := by simp [dur, duk, nI_0, hq1, hc2, hq3]
      have e27 : (if duk (nI jv2) (foc (lnF 3) (leF 3) (nI jv2) i n) (frun (ceF 3) (tn i) (tn n) 0 0 0 0) then (tea (tn n) (tdy (ceF 3) (tn i) (tn n))) else E) = E := by simp [dur, duk, nI_0, hq1, hc2, hq3]
      have e28 : (if duk (nI jv2) (foc (lnF 3) (leF 3) (nI jv2) i n) (frun (ceF 3) (tn i) (tn n) 0 0 0 0) then ceF 3 (tn i + 1) - nI 48 else so) = so := by simp [dur, duk, nI_0, hq1, hc2, hq3]
      have e29 : (if duk (nI jv2) (foc (lnF 3) (leF 3) (nI jv2) i n) (frun (ceF 3) (tn i) (tn n) 0 0 0 0) then tlk (ceF 3) (tn i) lk (tdy (ceF 3) (tn i) (tn n)) else lk) = lk := by simp [dur, duk, nI_0, hq1, hc2, hq3]
      have e30 : (if duk (nI jv2) (foc (lnF 3) (leF 3) (nI jv2) i n) (frun (ceF 3) (tn i) (tn n) 0 0 0 0) then tkd (ceF 3) (tn i) (3 + (tdy (ceF 3) (tn i) (tn n))) kd (tea (tn n) (tdy (ceF 3) (tn i) (tn n))) else kd) = kd := by simp [dur, duk, nI_0, hq1, hc2, hq3]
      have e31 : (if duk (nI jv2) (foc (lnF 3) (leF 3) (nI jv2) i n) (frun (ceF 3) (tn i) (tn n) 0 0 0 0) then tst (ceF 3) (tn i) (3 + (tdy (ceF 3) (tn i) (tn n))) 2 st (tea (tn n) (tdy (ceF 3) (tn i) (tn n))) else st) = st := by simp [dur, duk, nI_0, hq1, hc2, hq3]
      have e32 : (if duk (nI jv2) (foc (lnF 3) (leF 3) (nI jv2) i n) (frun (ceF 3) (tn i) (tn n) 0 0 0 0) then tst (ceF 3) (tn i) (3 + (tdy (ceF 3) (tn i) (tn n))) 3 sp (tea (tn n) (tdy (ceF 3) (tn i) (tn n))) else sp) = sp := by simp [dur, duk, nI_0, hq1, hc2, hq3]
      have e33 : (if duk (nI jv2) (foc (lnF 3) (leF 3) (nI jv2) i n) (frun (ceF 3) (tn i) (tn n) 0 0 0 0) then tst (ceF 3) (tn i) (3 + (tdy (ceF 3) (tn i) (tn n))) 4 nd (tea (tn n) (tdy (ceF 3) (tn i) (tn n))) else nd) = nd := by simp [dur, duk, nI_0, hq1, hc2, hq3]
      have e34 : (if duk (nI jv2) (foc (lnF 3) (leF 3) (nI jv2) i n) (frun (ceF 3) (tn i) (tn n) 0 0 0 0) then 0 else C) = C := by simp [dur, duk, nI_0, hq1, hc2, hq3]
      exact z_iret X ZF dX4_duchy_51 (by simp [dur, duk, nI_0, hq1, hc2, hq3]) (by first | rw [e34, e33, e32, e31, e30, e29, e28, e27, e26, e25] | (simp only [e34, e33, e32, e31, e30, e29, e28, e27, e26, e25]))
  ·
    refine z_bipush (v := (-2)) X dX4_duchy_26 (by decide) ?_
    have e35 : (if zin lane 3 then foc (lnF 3) (leF 3) lane i n else nI 0) = (nI 0) := by simp [dur, duk, nI_0, hq1]
    have e36 : (if duk lane (foc (lnF 3) (leF 3) lane i n) (frun (ceF 3) (tn i) (tn n) 0 0 0 0) then (tdy (ceF 3) (tn i) (tn n)) else D) = D := by simp [dur, duk, nI_0, hq1]
    have e37 : (if duk lane (foc (lnF 3) (leF 3) lane i n) (frun (ceF 3) (tn i) (tn n) 0 0 0 0) then (tea (tn n) (tdy (ceF 3) (tn i) (tn n))) else E) = E := by simp [dur, duk, nI_0, hq1]
    have e38 : (if duk lane (foc (lnF 3) (leF 3) lane i n) (frun (ceF 3) (tn i) (tn n) 0 0 0 0) then ceF 3 (tn i + 1) - nI 48 else so) = so := by simp [dur, duk, nI_0, hq1]
    have e39 : (if duk lane (foc (lnF 3) (leF 3) lane i n) (frun (ceF 3) (tn i) (tn n) 0 0 0 0) then tlk (ceF 3) (tn i) lk (tdy (ceF 3) (tn i) (tn n)) else lk) = lk := by simp [dur, duk, nI_0, hq1]
    have e40 : (if duk lane (foc (lnF 3) (leF 3) lane i n) (frun (ceF 3) (tn i) (tn n) 0 0 0 0) then tkd (ceF 3) (tn i) (3 + (tdy (ceF 3) (tn i) (tn n))) kd (tea (tn n) (tdy (ceF 3) (tn i) (tn n))) else kd) = kd := by simp [dur, duk, nI_0, hq1]
    have e41 : (if duk lane (foc (lnF 3) (leF 3) lane i n) (frun (ceF 3) (tn i) (tn n) 0 0 0 0) then tst (ceF 3) (tn i) (3 + (tdy (ceF 3) (tn i) (tn n))) 2 st (tea (tn n) (tdy (ceF 3) (tn i) (tn n))) else st) = st := by simp [dur, duk, nI_0, hq1]
    have e42 : (if duk lane (foc (lnF 3) (leF 3) lane i n) (frun (ceF 3) (tn i) (tn n) 0 0 0 0) then tst (ceF 3) (tn i) (3 + (tdy (ceF 3) (tn i) (tn n))) 3 sp (tea (tn n) (tdy (ceF 3) (tn i) (tn n))) else sp) = sp := by simp [dur, duk, nI_0, hq1]
    have e43 : (if duk lane (foc (lnF 3) (leF 3) lane i n) (frun (ceF 3) (tn i) (tn n) 0 0 0 0) then tst (ceF 3) (tn i) (3 + (tdy (ceF 3) (tn i) (tn n))) 4 nd (tea (tn n) (tdy (ceF 3) (tn i) (tn n))) else nd) = nd := by simp [dur, duk, nI_0, hq1]
    have e44 : (if duk lane (foc (lnF 3) (leF 3) lane i n) (frun (ceF 3) (tn i) (tn n) 0 0 0 0) then 0 else C) = C := by simp [dur, duk, nI_0, hq1]
    exact z_iret X ZF dX4_duchy_28 (by simp [dur, duk, nI_0, hq1]) (by first | rw [e44, e43, e42, e41, e40, e39, e38, e37, e36, e35] | (simp only [e44, e43, e42, e41, e40, e39, e38, e37, e36, e35]))
abbrev rX4_plan_3 : Room := { frames := 6, cells := 0, slots := 0, locals := 135 }
set_option maxHeartbeats 4000000 in
set_option maxRecDepth 100000 in
theorem c_X4_plan_3 (l : Launch) (g : zg) (a : Nat → Nat) (ft : Int32) (tr : Int32) (D : Nat) (E : Nat) (so : Int32) (lk : Nat → Int32) (kd : Nat → Int32) (st : Nat → Int32) (sp : Nat → Int32) (nd : Nat → Int32) (lnF : Nat → Int32) (leF : Nat → Int32) (ceF : Nat → Nat → Int32) (lane : Int32) (i : Int32) (n : Int32) (w : Int32) (hle : vle (leF 3)) (hE : E ≤ 4) (hD : D ≤ 6) (hK : vK kd st E) (hSp : vS sp E) : zM l g yX4_plan wsX4_plan rX4_plan_3 [.ref (a 0), .int (nI 3), .int lane, .int i, .int n, .int w] (wO g a ft tr ++ (wD g a D E so lk kd st sp nd ++ (wH g a ++ (wS g (a 19) (a 20) (lnF 3) (leF 3) (ceF 3))))) (some (.int (plr lane w E (foc (lnF 3) (leF 3) lane i n) (decide (tn n = E) && alp (ceF 3) (tn i) D E) (ofp D E lk so kd st sp nd (ceF 3) (tn i) w)))) (wO g a (if zin lane 3 && apl w && decide (0 < E) then foc (lnF 3) (leF 3) lane i n else nI 0) tr ++ (wD g a D E so lk kd st sp nd ++ (wH g a ++ (wS g (a 19) (a 20) (lnF 3) (leF 3) (ceF 3))))) := by
  refine z_met (own := RX4) (cc := cX4_plan) (maxL := 8) (ret := some .int) (by decide +kernel) rfl rfl (Nat.le_of_ble_eq_true rfl) ?_
  intro M X ZF
  refine z_Le (L' := [(0, .ref (a 0)), (1, .int (nI 3)), (2, .int lane), (3, .int i), (4, .int n), (5, .int w)]) rfl ?_
  have hL := vK_L hK
  have i_RX4 : ∀ w ∈ wsX40, w ∈ wsX4_plan := by decide +kernel
  have f_32 : Cond.fieldLink RX4 32 (TX4 3).1 (TX4 3).2.1 (TX4 3).2.2.1 ∈ wsX4_plan := by decide +kernel
  have f_12 : Cond.fieldLink RX4 12 (TX4 0).1 (TX4 0).2.1 (TX4 0).2.2.1 ∈ wsX4_plan := by decide +kernel
  refine z_aload_n X dX4_plan_0 rfl 0 rfl ?_
  refine z_iconst (v := nI 0) X dX4_plan_1 (by decide) ?_
  refine z_put (ws' := (wO g a (nI 0) tr ++ (wD g a D E so lk kd st sp nd ++ (wH g a ++ (wS g (a 19) (a 20) (lnF 3) (leF 3) (ceF 3)))))) (N := 5) X i_RX4 (ci := 3) rfl tyX4 tyX4_ok nmX4 0 rfl 3 (by decide) f_32 rfl (ty := .int) (by decide +kernel) rfl rfl (Nat.le_of_ble_eq_true rfl) dX4_plan_2 rfl ?_
  refine z_aload_n X dX4_plan_5 rfl 0 rfl ?_
  refine z_iload_n X dX4_plan_6 rfl 1 rfl ?_
  refine z_callV X (c_X4_sheetAt_in l g a (nI 0) tr 3 (by omega)) gX4_plan_X4_sheetAt rfl ⟨rfl, rfl⟩ (by decide +kernel) ⟨Nat.le_of_ble_eq_true rfl, Nat.le_of_ble_eq_true rfl⟩ ZF.room (ci := 3) rfl 0 rfl (isC := [0, 7]) (by decide) rfl rfl (ws' := (wO g a (nI 0) tr ++ (wD g a D E so lk kd st sp nd ++ (wH g a ++ (wS g (a 19) (a 20) (lnF 3) (leF 3) (ceF 3)))))) rfl (As := [.int (nI 3)]) (n := 1) rfl rfl (st1 := [.ref (a 19)]) rfl (Nat.le_of_ble_eq_true rfl) dX4_plan_7 ?_
  refine z_astore (L' := [(6, .ref (a 19)), (0, .ref (a 0)), (1, .int (nI 3)), (2, .int lane), (3, .int i), (4, .int n), (5, .int w)]) X dX4_plan_10 (by decide) rfl ?_
  refine z_aload X dX4_plan_12 0 rfl ?_
  refine z_ifnonnull (tgt := 19) X dX4_plan_14 (by decide) ?_
  refine z_iload_n X dX4_plan_19 rfl 3 rfl ?_
  refine z_callS0 X (c_X4_isLane l g lane) gX4_plan_X4_isLane rfl ⟨rfl, rfl⟩ (by decide +kernel) ⟨Nat.le_of_ble_eq_true rfl, Nat.le_of_ble_eq_true rfl⟩ ZF.room (As := [.int lane]) (n := 1) rfl rfl (st1 := [.int (bI (zin lane 3))]) rfl (Nat.le_of_ble_eq_true rfl) dX4_plan_20 ?_
  refine z_if_eqB (tgt := 34) X dX4_plan_23 (by decide) (fun hq1 => ?_) (fun hq1 => ?_)
  ·
    refine z_bipush (v := (-2)) X dX4_plan_34 (by decide) ?_
    have e2 : (if zin lane 3 && apl w && decide (0 < E) then foc (lnF 3) (leF 3) lane i n else nI 0) = (nI 0) := by simp [plr, nI_0, hq1]
    exact z_iret X ZF dX4_plan_36 (by simp [plr, nI_0, hq1]) (by rw [e2])
  ·
    obtain ⟨jv3, hj3, ej3⟩ := zin_t (by omega) hq1
    subst ej3
    have hc3 : tn (nI jv3) = jv3 := nI_clamp (by omega)
    refine z_iload X dX4_plan_26 6 rfl ?_
    refine z_callS0 X (c_X4_isAskedOfPlans l g w) gX4_plan_X4_isAskedOfPlans rfl ⟨rfl, rfl⟩ (by decide +kernel) ⟨Nat.le_of_ble_eq_true rfl, Nat.le_of_ble_eq_true rfl⟩ ZF.room (As := [.int w]) (n := 1) rfl rfl (st1 := [.int (bI (apl w))]) rfl (Nat.le_of_ble_eq_true rfl) dX4_plan_28 ?_
    refine z_if_neB (tgt := 37) X dX4_plan_31 (by decide) (fun hq4 => ?_) (fun hq4 => ?_)
    ·
      refine z_aload_n X dX4_plan_37 rfl 1 rfl ?_
      refine z_get (v := .ref (a 1)) (N := 5) X i_RX4 (ci := 3) rfl 0 rfl 0 (by decide) f_12 rfl dX4_plan_38 ?_
      refine z_callV X (c_X0_isTold l g a D E so lk kd st sp nd (by omega)) gX4_plan_X0_isTold rfl ⟨rfl, rfl⟩ (by decide +kernel) ⟨Nat.le_of_ble_eq_true rfl, Nat.le_of_ble_eq_true rfl⟩ ZF.room (ci := 0) rfl 1 rfl (isC := [1, 2, 3, 4, 5, 6]) (by decide) rfl rfl (ws' := (wO g a (nI 0) tr ++ (wD g a D E so lk kd st sp nd ++ (wH g a ++ (wS g (a 19) (a 20) (lnF 3) (leF 3) (ceF 3)))))) rfl (As := []) (n := 0) rfl rfl (st1 := [.int (bI (decide (0 < E)))]) rfl (Nat.le_of_ble_eq_true rfl) dX4_plan_41 ?_
      refine z_if_neB (tgt := 50) X dX4_plan_44 (by decide) (fun hq5 => ?_) (fun hq5 => ?_)
      ·
        have hq6 : (0 < E) := of_decide_eq_true hq5
        refine z_aload X dX4_plan_50 0 rfl ?_
        refine z_iload_n X dX4_plan_52 rfl 3 rfl ?_
        refine z_iload_n X dX4_plan_53 rfl 4 rfl ?_
        refine z_iload X dX4_plan_54 5 rfl ?_
        refine z_callV X (c_X2_faultOfCells l g (a 19) (a 20) (lnF 3) (leF 3) (ceF 3) (nI jv3) i n) gX4_plan_X2_faultOfCells rfl ⟨rfl, rfl⟩ (by decide +kernel) ⟨Nat.le_of_ble_eq_true rfl, Nat.le_of_ble_eq_true rfl⟩ ZF.room (ci := 2) rfl 8 rfl (isC := [8, 9]) (by decide) rfl rfl (ws' := (wO g a (nI 0) tr ++ (wD g a D E so lk kd st sp nd ++ (wH g a ++ (wS g (a 19) (a 20) (lnF 3) (leF 3) (ceF 3)))))) rfl (As := [.int (nI jv3), .int i, .int n]) (n := 3) rfl rfl (st1 := [.int (foc (lnF 3) (leF 3) (nI jv3) i n)]) rfl (Nat.le_of_ble_eq_true rfl) dX4_plan_56 ?_
        refine z_istore (L' := [(7, .int (foc (lnF 3) (leF 3) (nI jv3) i n)), (6, .ref (a 19)), (0, .ref (a 0)), (1, .int (nI 3)), (2, .int (nI jv3)), (3, .int i), (4, .int n), (5, .int w)]) X dX4_plan_59 (by decide) rfl ?_
        refine z_iload X dX4_plan_61 0 rfl ?_
        refine z_if_eq (tgt := 73) X dX4_plan_63 (by decide) (fun hq7 => ?_) (fun hq7 => ?_)
        ·
          obtain ⟨i_a, n_a, ei_a, en_a, hin_a, m_a, hm_a, him_a⟩ := foc0 hle hq7
          subst ei_a; subst en_a
          have hti_a : tn (nI i_a) = i_a := nI_clamp (by omega)
          have htn_a : tn (nI n_a) = n_a := nI_clamp (by omega)
          refine z_aload_n X dX4_plan_73 rfl 2 rfl ?_
          refine z_get (v := .ref (a 1)) (N := 5) X i_RX4 (ci := 3) rfl 0 rfl 0 (by decide) f_12 rfl dX4_plan_74 ?_
          refine z_aload X dX4_plan_77 1 rfl ?_
          refine z_iload_n X dX4_plan_79 rfl 5 rfl ?_
          refine z_iload X dX4_plan_80 6 rfl ?_
          refine z_callV X (c_X0_hasPlan l g a (a 19) (a 20) D E so lk kd st sp nd (lnF 3) (leF 3) (ceF 3) i_a n_a (by omega) (by omega) (by omega)) gX4_plan_X0_hasPlan rfl ⟨rfl, rfl⟩ (by decide +kernel) ⟨Nat.le_of_ble_eq_true rfl, Nat.le_of_ble_eq_true rfl⟩ ZF.room (ci := 0) rfl 1 rfl (isC := [1, 2, 3, 4, 5, 6, 8, 9]) (by decide) rfl rfl (ws' := (wO g a (nI 0) tr ++ (wD g a D E so lk kd st sp nd ++ (wH g a ++ (wS g (a 19) (a 20) (lnF 3) (leF 3) (ceF 3)))))) rfl (As := [.ref (a 19), .int (nI i_a), .int (nI n_a)]) (n := 3) rfl rfl (st1 := [.int (bI (decide (n_a = E) && alp (ceF 3) i_a D E))]) rfl (Nat.le_of_ble_eq_true rfl) dX4_plan_82 ?_
          refine z_if_neB (tgt := 91) X dX4_plan_85 (by decide) (fun hq8 => ?_) (fun hq8 => ?_)
          ·
            have hpn_a : n_a = E ∧ alp (ceF 3) i_a D E = true := by simpa using hq8
            have hF := alp_hF hD hpn_a.2
            refine z_aload_n X dX4_plan_91 rfl 2 rfl ?_
            refine z_aload X dX4_plan_92 1 rfl ?_
            refine z_iload_n X dX4_plan_94 rfl 5 rfl ?_
            refine z_iload X dX4_plan_95 7 rfl ?_
            refine z_callV X (c_X4_ofPlan l g a (a 19) (a 20) (nI 0) tr D E so lk kd st sp nd (lnF 3) (leF 3) (ceF 3) i_a w (by omega) (by omega) (by omega) (by first | assumption | omega) (by first | assumption | omega) hF (by first | assumption | omega)) gX4_plan_X4_ofPlan rfl ⟨rfl, rfl⟩ (by decide +kernel) ⟨Nat.le_of_ble_eq_true rfl, Nat.le_of_ble_eq_true rfl⟩ ZF.room (ci := 3) rfl 0 rfl (isC := [0, 1, 2, 3, 4, 5, 6, 8, 9]) (by decide) rfl rfl (ws' := (wO g a (nI 0) tr ++ (wD g a D E so lk kd st sp nd ++ (wH g a ++ (wS g (a 19) (a 20) (lnF 3) (leF 3) (ceF 3)))))) rfl (As := [.ref (a 19), .int (nI i_a), .int w]) (n := 3) rfl rfl (st1 := [.int (ofp D E lk so kd st sp nd (ceF 3) i_a w)]) rfl (Nat.le_of_ble_eq_true rfl) dX4_plan_97 ?_
            have e9 : (if zin (nI jv3) 3 && apl w && decide (0 < E) then foc (lnF 3) (leF 3) (nI jv3) (nI i_a) (nI n_a) else nI 0) = (nI 0) := by simp [plr, nI_0, hq1, hc3, hq4, hq6, hq7, hti_a, htn_a, hq8]
            exact z_iret X ZF dX4_plan_100 (by simp [plr, nI_0, hq1, hc3, hq4, hq6, hq7, hti_a, htn_a, hq8]) (by rw [e9])
          ·
            refine z_bipush (v := (-2)) X dX4_plan_88 (by decide) ?_
            have e10 : (if zin (nI jv3) 3 && apl w && decide (0 < E) then foc (lnF 3) (leF 3) (nI jv3) (nI i_a) (nI n_a) else nI 0) = (nI 0) := by simp [plr, nI_0, hq1, hc3, hq4, hq6, hq7, hti_a, htn_a, hq8]
            exact z_iret X ZF dX4_plan_90 (by simp [plr, nI_0, hq1, hc3, hq4, hq6, hq7, hti_a, htn_a, hq8]) (by rw [e10])
        ·
          refine z_aload_n X dX4_plan_66 rfl 2 rfl ?_
          refine z_iload X dX4_plan_67 0 rfl ?_
          refine z_callV X (c_X4_faulted l g a (nI 0) tr (foc (lnF 3) (leF 3) (nI jv3) i n)) gX4_plan_X4_faulted rfl ⟨rfl, rfl⟩ (by decide +kernel) ⟨Nat.le_of_ble_eq_true rfl, Nat.le_of_ble_eq_true rfl⟩ ZF.room (ci := 3) rfl 0 rfl (isC := [0]) (by decide) rfl rfl (ws' := (wO g a (foc (lnF 3) (leF 3) (nI jv3) i n) tr ++ (wD g a D E so lk kd st sp nd ++ (wH g a ++ (wS g (a 19) (a 20) (lnF 3) (leF 3) (ceF 3)))))) rfl (As := [.int (foc (lnF 3) (leF 3) (nI jv3) i n)]) (n := 1) rfl rfl (st1 := [.int ((-10) - (foc (lnF 3) (leF 3) (nI jv3) i n))]) rfl (Nat.le_of_ble_eq_true rfl) dX4_plan_69 ?_
          have e11 : (if zin (nI jv3) 3 && apl w && decide (0 < E) then foc (lnF 3) (leF 3) (nI jv3) i n else nI 0) = (foc (lnF 3) (leF 3) (nI jv3) i n) := by simp [plr, nI_0, hq1, hc3, hq4, hq6, hq7]
          exact z_iret X ZF dX4_plan_72 (by simp [plr, nI_0, hq1, hc3, hq4, hq6, hq7]) (by rw [e11])
      ·
        have hq12 : ¬ (0 < E) := of_decide_eq_false hq5
        refine z_bipush (v := (-3)) X dX4_plan_47 (by decide) ?_
        have e13 : (if zin (nI jv3) 3 && apl w && decide (0 < E) then foc (lnF 3) (leF 3) (nI jv3) i n else nI 0) = (nI 0) := by simp [plr, nI_0, hq1, hc3, hq4, hq12]
        exact z_iret X ZF dX4_plan_49 (by simp [plr, nI_0, hq1, hc3, hq4, hq12]) (by rw [e13])
    ·
      refine z_bipush (v := (-2)) X dX4_plan_34 (by decide) ?_
      have e14 : (if zin (nI jv3) 3 && apl w && decide (0 < E) then foc (lnF 3) (leF 3) (nI jv3) i n else nI 0) = (nI 0) := by simp [plr, nI_0, hq1, hc3, hq4]
      exact z_iret X ZF dX4_plan_36 (by simp [plr, nI_0, hq1, hc3, hq4]) (by rw [e14])
abbrev rX4_sheet_3 : Room := { frames := 2, cells := 0, slots := 0, locals := 45 }
set_option maxHeartbeats 4000000 in
set_option maxRecDepth 100000 in
theorem c_X4_sheet_3 (l : Launch) (g : zg) (a : Nat → Nat) (ft : Int32) (tr : Int32) (lnF : Nat → Int32) (leF : Nat → Int32) (ceF : Nat → Nat → Int32) (lane : Int32) (n : Int32) : zM l g yX4_sheet wsX4_sheet rX4_sheet_3 [.ref (a 0), .int (nI 3), .int lane, .int n] (wO g a ft tr ++ (wH g a ++ (wS g (a 19) (a 20) (lnF 3) (leF 3) (ceF 3)))) (some (.int (if zin lane 3 && !decide (nI 60 < n) then (if 0 ≤ n then nI 1 else (-10) - nI 4) else -2))) (wO g a (if zin lane 3 && !decide (nI 60 < n) && !decide (0 ≤ n) then nI 4 else nI 0) tr ++ (wH g a ++ (wS g (a 19) (a 20) (if shk lane n then lane else lnF 3) (if shk lane n then n else leF 3) (if shk lane n then fil (ceF 3) (nI 0) 60 else ceF 3)))) := by
  refine z_met (own := RX4) (cc := cX4_sheet) (maxL := 5) (ret := some .int) (by decide +kernel) rfl rfl (Nat.le_of_ble_eq_true rfl) ?_
  intro M X ZF
  refine z_Le (L' := [(0, .ref (a 0)), (1, .int (nI 3)), (2, .int lane), (3, .int n)]) rfl ?_
  have i_RX4 : ∀ w ∈ wsX40, w ∈ wsX4_sheet := by decide +kernel
  have f_32 : Cond.fieldLink RX4 32 (TX4 3).1 (TX4 3).2.1 (TX4 3).2.2.1 ∈ wsX4_sheet := by decide +kernel
  refine z_aload_n X dX4_sheet_0 rfl 0 rfl ?_
  refine z_iconst (v := nI 0) X dX4_sheet_1 (by decide) ?_
  refine z_put (ws' := (wO g a (nI 0) tr ++ (wH g a ++ (wS g (a 19) (a 20) (lnF 3) (leF 3) (ceF 3))))) (N := 5) X i_RX4 (ci := 3) rfl tyX4 tyX4_ok nmX4 0 rfl 3 (by decide) f_32 rfl (ty := .int) (by decide +kernel) rfl rfl (Nat.le_of_ble_eq_true rfl) dX4_sheet_2 rfl ?_
  refine z_aload_n X dX4_sheet_5 rfl 0 rfl ?_
  refine z_iload_n X dX4_sheet_6 rfl 1 rfl ?_
  refine z_callV X (c_X4_sheetAt_in l g a (nI 0) tr 3 (by omega)) gX4_sheet_X4_sheetAt rfl ⟨rfl, rfl⟩ (by decide +kernel) ⟨Nat.le_of_ble_eq_true rfl, Nat.le_of_ble_eq_true rfl⟩ ZF.room (ci := 3) rfl 0 rfl (isC := [0, 1]) (by decide) rfl rfl (ws' := (wO g a (nI 0) tr ++ (wH g a ++ (wS g (a 19) (a 20) (lnF 3) (leF 3) (ceF 3))))) rfl (As := [.int (nI 3)]) (n := 1) rfl rfl (st1 := [.ref (a 19)]) rfl (Nat.le_of_ble_eq_true rfl) dX4_sheet_7 ?_
  refine z_astore (L' := [(4, .ref (a 19)), (0, .ref (a 0)), (1, .int (nI 3)), (2, .int lane), (3, .int n)]) X dX4_sheet_10 (by decide) rfl ?_
  refine z_aload X dX4_sheet_12 0 rfl ?_
  refine z_ifnonnull (tgt := 19) X dX4_sheet_14 (by decide) ?_
  refine z_iload_n X dX4_sheet_19 rfl 3 rfl ?_
  refine z_callS0 X (c_X4_isLane l g lane) gX4_sheet_X4_isLane rfl ⟨rfl, rfl⟩ (by decide +kernel) ⟨Nat.le_of_ble_eq_true rfl, Nat.le_of_ble_eq_true rfl⟩ ZF.room (As := [.int lane]) (n := 1) rfl rfl (st1 := [.int (bI (zin lane 3))]) rfl (Nat.le_of_ble_eq_true rfl) dX4_sheet_20 ?_
  refine z_if_eqB (tgt := 32) X dX4_sheet_23 (by decide) (fun hq1 => ?_) (fun hq1 => ?_)
  ·
    refine z_bipush (v := (-2)) X dX4_sheet_32 (by decide) ?_
    have e2 : (if zin lane 3 && !decide (nI 60 < n) && !decide (0 ≤ n) then nI 4 else nI 0) = (nI 0) := by first | (simp [shk, hq1]; done) | (simp [shk, hq1]; decide)
    have e3 : (if shk lane n then lane else lnF 3) = (lnF 3) := by first | (simp [shk, hq1]; done) | (simp [shk, hq1]; decide)
    have e4 : (if shk lane n then n else leF 3) = (leF 3) := by first | (simp [shk, hq1]; done) | (simp [shk, hq1]; decide)
    have e5 : (if shk lane n then fil (ceF 3) (nI 0) 60 else ceF 3) = (ceF 3) := by first | (simp [shk, hq1]; done) | (simp [shk, hq1]; decide)
    exact z_iret X ZF dX4_sheet_34 (by first | (simp [shk, hq1]; done) | (simp [shk, hq1]; decide)) (by first | rw [e5, e4, e3, e2] | (simp only [e5, e4, e3, e2]))
  ·
    refine z_iload_n X dX4_sheet_26 rfl 4 rfl ?_
    refine z_bipush (v := nI 60) X dX4_sheet_27 (by decide) ?_
    refine z_icmp_le (tgt := 35) X dX4_sheet_29 (by decide) (fun hq6 => ?_) (fun hq6 => ?_)
    ·
      refine z_iload_n X dX4_sheet_35 rfl 4 rfl ?_
      refine z_if_ge (tgt := 45) X dX4_sheet_36 (by decide) (fun hq7 => ?_) (fun hq7 => ?_)
      ·
        refine z_aload X dX4_sheet_45 0 rfl ?_
        refine z_iload_n X dX4_sheet_47 rfl 3 rfl ?_
        refine z_iload_n X dX4_sheet_48 rfl 4 rfl ?_
        refine z_callV X (c_X2_makeRow l g (a 19) (a 20) (lnF 3) (leF 3) (ceF 3) lane n) gX4_sheet_X2_makeRow rfl ⟨rfl, rfl⟩ (by decide +kernel) ⟨Nat.le_of_ble_eq_true rfl, Nat.le_of_ble_eq_true rfl⟩ ZF.room (ci := 2) rfl 2 rfl (isC := [2, 3]) (by decide) rfl rfl (ws' := (wO g a (nI 0) tr ++ (wH g a ++ (wS g (a 19) (a 20) lane n (fil (ceF 3) (nI 0) 60))))) rfl (As := [.int lane, .int n]) (n := 2) rfl rfl (st1 := []) rfl (Nat.le_of_ble_eq_true rfl) dX4_sheet_49 ?_
        refine z_iconst (v := nI 1) X dX4_sheet_52 (by decide) ?_
        have e8 : (if zin lane 3 && !decide (nI 60 < n) && !decide (0 ≤ n) then nI 4 else nI 0) = (nI 0) := by first | (simp [shk, hq1, hq6, hq7]; done) | (simp [shk, hq1, hq6, hq7]; decide)
        have e9 : (if shk lane n then lane else lnF 3) = lane := by first | (simp [shk, hq1, hq6, hq7]; done) | (simp [shk, hq1, hq6, hq7]; decide)
        have e10 : (if shk lane n then n else leF 3) = n := by first | (simp [shk, hq1, hq6, hq7]; done) | (simp [shk, hq1, hq6, hq7]; decide)
        have e11 : (if shk lane n then fil (ceF 3) (nI 0) 60 else ceF 3) = (fil (ceF 3) (nI 0) 60) := by first | (simp [shk, hq1, hq6, hq7]; done) | (simp [shk, hq1, hq6, hq7]; decide)
        exact z_iret X ZF dX4_sheet_53 (by first | (simp [shk, hq1, hq6, hq7]; done) | (simp [shk, hq1, hq6, hq7]; decide)) (by first | rw [e11, e10, e9, e8] | (simp only [e11, e10, e9, e8]))
      ·
        refine z_aload_n X dX4_sheet_39 rfl 1 rfl ?_
        refine z_iconst (v := nI 4) X dX4_sheet_40 (by decide) ?_
        refine z_callV X (c_X4_faulted l g a (nI 0) tr (nI 4)) gX4_sheet_X4_faulted rfl ⟨rfl, rfl⟩ (by decide +kernel) ⟨Nat.le_of_ble_eq_true rfl, Nat.le_of_ble_eq_true rfl⟩ ZF.room (ci := 3) rfl 0 rfl (isC := [0]) (by decide) rfl rfl (ws' := (wO g a (nI 4) tr ++ (wH g a ++ (wS g (a 19) (a 20) (lnF 3) (leF 3) (ceF 3))))) rfl (As := [.int (nI 4)]) (n := 1) rfl rfl (st1 := [.int ((-10) - (nI 4))]) rfl (Nat.le_of_ble_eq_true rfl) dX4_sheet_41 ?_
        have e12 : (if zin lane 3 && !decide (nI 60 < n) && !decide (0 ≤ n) then nI 4 else nI 0) = (nI 4) := by first | (simp [shk, hq1, hq6, hq7]; done) | (simp [shk, hq1, hq6, hq7]; decide)
        have e13 : (if shk lane n then lane else lnF 3) = (lnF 3) := by first | (simp [shk, hq1, hq6, hq7]; done) | (simp [shk, hq1, hq6, hq7]; decide)
        have e14 : (if shk lane n then n else leF 3) = (leF 3) := by first | (simp [shk, hq1, hq6, hq7]; done) | (simp [shk, hq1, hq6, hq7]; decide)
        have e15 : (if shk lane n then fil (ceF 3) (nI 0) 60 else ceF 3) = (ceF 3) := by first | (simp [shk, hq1, hq6, hq7]; done) | (simp [shk, hq1, hq6, hq7]; decide)
        exact z_iret X ZF dX4_sheet_44 (by first | (simp [shk, hq1, hq6, hq7]; done) | (simp [shk, hq1, hq6, hq7]; decide)) (by first | rw [e15, e14, e13, e12] | (simp only [e15, e14, e13, e12]))
    ·
      refine z_bipush (v := (-2)) X dX4_sheet_32 (by decide) ?_
      have e16 : (if zin lane 3 && !decide (nI 60 < n) && !decide (0 ≤ n) then nI 4 else nI 0) = (nI 0) := by first | (simp [shk, hq1, hq6]; done) | (simp [shk, hq1, hq6]; decide)
      have e17 : (if shk lane n then lane else lnF 3) = (lnF 3) := by first | (simp [shk, hq1, hq6]; done) | (simp [shk, hq1, hq6]; decide)
      have e18 : (if shk lane n then n else leF 3) = (leF 3) := by first | (simp [shk, hq1, hq6]; done) | (simp [shk, hq1, hq6]; decide)
      have e19 : (if shk lane n then fil (ceF 3) (nI 0) 60 else ceF 3) = (ceF 3) := by first | (simp [shk, hq1, hq6]; done) | (simp [shk, hq1, hq6]; decide)
      exact z_iret X ZF dX4_sheet_34 (by first | (simp [shk, hq1, hq6]; done) | (simp [shk, hq1, hq6]; decide)) (by first | rw [e19, e18, e17, e16] | (simp only [e19, e18, e17, e16]))
abbrev rX4_lose_3 : Room := { frames := 1, cells := 0, slots := 0, locals := 21 }
set_option maxHeartbeats 4000000 in
set_option maxRecDepth 100000 in
theorem c_X4_lose_3 (l : Launch) (g : zg) (a : Nat → Nat) (ft : Int32) (tr : Int32) (lnF : Nat → Int32) (leF : Nat → Int32) (ceF : Nat → Nat → Int32) : zM l g yX4_lose wsX4_lose rX4_lose_3 [.ref (a 0), .int (nI 3)] (wO g a ft tr ++ (wH g a ++ (wS g (a 19) (a 20) (lnF 3) (leF 3) (ceF 3)))) (some (.int (if leF 3 = (-1) then nI 0 else nI 1))) (wO g a ft tr ++ (wH g a ++ (wS g (a 19) (a 20) (lnF 3) (-1) (ceF 3)))) := by
  refine z_met (own := RX4) (cc := cX4_lose) (maxL := 3) (ret := some .int) (by decide +kernel) rfl rfl (Nat.le_of_ble_eq_true rfl) ?_
  intro M X ZF
  refine z_Le (L' := [(0, .ref (a 0)), (1, .int (nI 3))]) rfl ?_
  refine z_aload_n X dX4_lose_0 rfl 0 rfl ?_
  refine z_iload_n X dX4_lose_1 rfl 1 rfl ?_
  refine z_callV X (c_X4_sheetAt_in l g a ft tr 3 (by omega)) gX4_lose_X4_sheetAt rfl ⟨rfl, rfl⟩ (by decide +kernel) ⟨Nat.le_of_ble_eq_true rfl, Nat.le_of_ble_eq_true rfl⟩ ZF.room (ci := 3) rfl 0 rfl (isC := [0, 1]) (by decide) rfl rfl (ws' := (wO g a ft tr ++ (wH g a ++ (wS g (a 19) (a 20) (lnF 3) (leF 3) (ceF 3))))) rfl (As := [.int (nI 3)]) (n := 1) rfl rfl (st1 := [.ref (a 19)]) rfl (Nat.le_of_ble_eq_true rfl) dX4_lose_2 ?_
  refine z_astore_n (L' := [(2, .ref (a 19)), (0, .ref (a 0)), (1, .int (nI 3))]) X dX4_lose_5 rfl (by decide) rfl ?_
  refine z_aload_n X dX4_lose_6 rfl 0 rfl ?_
  refine z_ifnonnull (tgt := 12) X dX4_lose_7 (by decide) ?_
  refine z_aload_n X dX4_lose_12 rfl 0 rfl ?_
  refine z_callV X (c_X2_hasRow l g (a 19) (a 20) (lnF 3) (leF 3) (ceF 3)) gX4_lose_X2_hasRow rfl ⟨rfl, rfl⟩ (by decide +kernel) ⟨Nat.le_of_ble_eq_true rfl, Nat.le_of_ble_eq_true rfl⟩ ZF.room (ci := 2) rfl 2 rfl (isC := [2, 3]) (by decide) rfl rfl (ws' := (wO g a ft tr ++ (wH g a ++ (wS g (a 19) (a 20) (lnF 3) (leF 3) (ceF 3))))) rfl (As := []) (n := 0) rfl rfl (st1 := [.int (bI (!decide ((leF 3) = (-1))))]) rfl (Nat.le_of_ble_eq_true rfl) dX4_lose_13 ?_
  refine z_if_neB (tgt := 21) X dX4_lose_16 (by decide) (fun hq1 => ?_) (fun hq1 => ?_)
  ·
    have hq2 : (decide ((leF 3) = (-1))) = false := by simpa using hq1
    have hq3 : ¬ ((leF 3) = (-1)) := of_decide_eq_false hq2
    refine z_aload_n X dX4_lose_21 rfl 0 rfl ?_
    refine z_callV X (c_X2_dropRow l g (a 19) (a 20) (lnF 3) (leF 3) (ceF 3)) gX4_lose_X2_dropRow rfl ⟨rfl, rfl⟩ (by decide +kernel) ⟨Nat.le_of_ble_eq_true rfl, Nat.le_of_ble_eq_true rfl⟩ ZF.room (ci := 2) rfl 2 rfl (isC := [2, 3]) (by decide) rfl rfl (ws' := (wO g a ft tr ++ (wH g a ++ (wS g (a 19) (a 20) (lnF 3) (-1) (ceF 3))))) rfl (As := []) (n := 0) rfl rfl (st1 := []) rfl (Nat.le_of_ble_eq_true rfl) dX4_lose_22 ?_
    refine z_iconst (v := nI 1) X dX4_lose_25 (by decide) ?_
    exact z_iret X ZF dX4_lose_26 (by simp [hq3]) rfl
  ·
    have hq4 : (decide ((leF 3) = (-1))) = true := by simpa using hq1
    have hq5 : ((leF 3) = (-1)) := of_decide_eq_true hq4
    refine z_iconst (v := nI 0) X dX4_lose_19 (by decide) ?_
    have e6 : (-1) = (leF 3) := by simp [hq5]
    exact z_iret X ZF dX4_lose_20 (by simp [hq5]) (by rw [e6])
abbrev rX4_put_3 : Room := { frames := 2, cells := 0, slots := 0, locals := 45 }
set_option maxHeartbeats 4000000 in
set_option maxRecDepth 100000 in
theorem c_X4_put_3 (l : Launch) (g : zg) (a : Nat → Nat) (ft : Int32) (tr : Int32) (lnF : Nat → Int32) (leF : Nat → Int32) (ceF : Nat → Nat → Int32) (i : Int32) (v : Int32) (hle : vle (leF 3)) : zM l g yX4_put wsX4_put rX4_put_3 [.ref (a 0), .int (nI 3), .int i, .int v] (wO g a ft tr ++ (wH g a ++ (wS g (a 19) (a 20) (lnF 3) (leF 3) (ceF 3)))) (some (.int (if foc (lnF 3) (leF 3) (lnF 3) i (nI 1) = 0 then nI 1 else (-10) - foc (lnF 3) (leF 3) (lnF 3) i (nI 1)))) (wO g a (foc (lnF 3) (leF 3) (lnF 3) i (nI 1)) tr ++ (wH g a ++ (wS g (a 19) (a 20) (lnF 3) (leF 3) (if foc (lnF 3) (leF 3) (lnF 3) i (nI 1) = 0 then upd (ceF 3) (tn i) (cut (lnF 3) v) else ceF 3)))) := by
  refine z_met (own := RX4) (cc := cX4_put) (maxL := 6) (ret := some .int) (by decide +kernel) rfl rfl (Nat.le_of_ble_eq_true rfl) ?_
  intro M X ZF
  refine z_Le (L' := [(0, .ref (a 0)), (1, .int (nI 3)), (2, .int i), (3, .int v)]) rfl ?_
  have i_RX4 : ∀ w ∈ wsX40, w ∈ wsX4_put := by decide +kernel
  have f_32 : Cond.fieldLink RX4 32 (TX4 3).1 (TX4 3).2.1 (TX4 3).2.2.1 ∈ wsX4_put := by decide +kernel
  refine z_aload_n X dX4_put_0 rfl 0 rfl ?_
  refine z_iconst (v := nI 0) X dX4_put_1 (by decide) ?_
  refine z_put (ws' := (wO g a (nI 0) tr ++ (wH g a ++ (wS g (a 19) (a 20) (lnF 3) (leF 3) (ceF 3))))) (N := 5) X i_RX4 (ci := 3) rfl tyX4 tyX4_ok nmX4 0 rfl 3 (by decide) f_32 rfl (ty := .int) (by decide +kernel) rfl rfl (Nat.le_of_ble_eq_true rfl) dX4_put_2 rfl ?_
  refine z_aload_n X dX4_put_5 rfl 0 rfl ?_
  refine z_iload_n X dX4_put_6 rfl 1 rfl ?_
  refine z_callV X (c_X4_sheetAt_in l g a (nI 0) tr 3 (by omega)) gX4_put_X4_sheetAt rfl ⟨rfl, rfl⟩ (by decide +kernel) ⟨Nat.le_of_ble_eq_true rfl, Nat.le_of_ble_eq_true rfl⟩ ZF.room (ci := 3) rfl 0 rfl (isC := [0, 1]) (by decide) rfl rfl (ws' := (wO g a (nI 0) tr ++ (wH g a ++ (wS g (a 19) (a 20) (lnF 3) (leF 3) (ceF 3))))) rfl (As := [.int (nI 3)]) (n := 1) rfl rfl (st1 := [.ref (a 19)]) rfl (Nat.le_of_ble_eq_true rfl) dX4_put_7 ?_
  refine z_astore (L' := [(4, .ref (a 19)), (0, .ref (a 0)), (1, .int (nI 3)), (2, .int i), (3, .int v)]) X dX4_put_10 (by decide) rfl ?_
  refine z_aload X dX4_put_12 0 rfl ?_
  refine z_ifnonnull (tgt := 19) X dX4_put_14 (by decide) ?_
  refine z_aload X dX4_put_19 0 rfl ?_
  refine z_aload X dX4_put_21 0 rfl ?_
  refine z_callV X (c_X2_rowLane l g (a 19) (a 20) (lnF 3) (leF 3) (ceF 3)) gX4_put_X2_rowLane rfl ⟨rfl, rfl⟩ (by decide +kernel) ⟨Nat.le_of_ble_eq_true rfl, Nat.le_of_ble_eq_true rfl⟩ ZF.room (ci := 2) rfl 2 rfl (isC := [2, 3]) (by decide) rfl rfl (ws' := (wO g a (nI 0) tr ++ (wH g a ++ (wS g (a 19) (a 20) (lnF 3) (leF 3) (ceF 3))))) rfl (As := []) (n := 0) rfl rfl (st1 := [.int (lnF 3), .ref (a 19)]) rfl (Nat.le_of_ble_eq_true rfl) dX4_put_23 ?_
  refine z_iload_n X dX4_put_26 rfl 3 rfl ?_
  refine z_iconst (v := nI 1) X dX4_put_27 (by decide) ?_
  refine z_callV X (c_X2_faultOfCells l g (a 19) (a 20) (lnF 3) (leF 3) (ceF 3) (lnF 3) i (nI 1)) gX4_put_X2_faultOfCells rfl ⟨rfl, rfl⟩ (by decide +kernel) ⟨Nat.le_of_ble_eq_true rfl, Nat.le_of_ble_eq_true rfl⟩ ZF.room (ci := 2) rfl 2 rfl (isC := [2, 3]) (by decide) rfl rfl (ws' := (wO g a (nI 0) tr ++ (wH g a ++ (wS g (a 19) (a 20) (lnF 3) (leF 3) (ceF 3))))) rfl (As := [.int (lnF 3), .int i, .int (nI 1)]) (n := 3) rfl rfl (st1 := [.int (foc (lnF 3) (leF 3) (lnF 3) i (nI 1))]) rfl (Nat.le_of_ble_eq_true rfl) dX4_put_28 ?_
  refine z_istore (L' := [(5, .int (foc (lnF 3) (leF 3) (lnF 3) i (nI 1))), (4, .ref (a 19)), (0, .ref (a 0)), (1, .int (nI 3)), (2, .int i), (3, .int v)]) X dX4_put_31 (by decide) rfl ?_
  refine z_iload X dX4_put_33 0 rfl ?_
  refine z_if_eq (tgt := 45) X dX4_put_35 (by decide) (fun hq1 => ?_) (fun hq1 => ?_)
  ·
    obtain ⟨i_a, ei_a, hin_a, m_a, hm_a, him_a⟩ := foc1 hle hq1
    subst ei_a
    have hti_a : tn (nI i_a) = i_a := nI_clamp (by omega)
    refine z_aload X dX4_put_45 1 rfl ?_
    refine z_iload_n X dX4_put_47 rfl 4 rfl ?_
    refine z_iload_n X dX4_put_48 rfl 5 rfl ?_
    refine z_callV X (c_X2_write l g (a 19) (a 20) (lnF 3) (leF 3) (ceF 3) i_a v (by omega)) gX4_put_X2_write rfl ⟨rfl, rfl⟩ (by decide +kernel) ⟨Nat.le_of_ble_eq_true rfl, Nat.le_of_ble_eq_true rfl⟩ ZF.room (ci := 2) rfl 2 rfl (isC := [2, 3]) (by decide) rfl rfl (ws' := (wO g a (nI 0) tr ++ (wH g a ++ (wS g (a 19) (a 20) (lnF 3) (leF 3) (upd (ceF 3) i_a (cut (lnF 3) v)))))) rfl (As := [.int (nI i_a), .int v]) (n := 2) rfl rfl (st1 := []) rfl (Nat.le_of_ble_eq_true rfl) dX4_put_49 ?_
    refine z_iconst (v := nI 1) X dX4_put_52 (by decide) ?_
    have e2 : (foc (lnF 3) (leF 3) (lnF 3) (nI i_a) (nI 1)) = (nI 0) := by first | (simp [nI_0, hq1, hti_a]; done) | (simp [hq1, hti_a])
    have e3 : (if foc (lnF 3) (leF 3) (lnF 3) (nI i_a) (nI 1) = 0 then upd (ceF 3) (tn (nI i_a)) (cut (lnF 3) v) else ceF 3) = (upd (ceF 3) i_a (cut (lnF 3) v)) := by first | (simp [nI_0, hq1, hti_a]; done) | (simp [hq1, hti_a])
    exact z_iret X ZF dX4_put_53 (by first | (simp [nI_0, hq1, hti_a]; done) | (simp [hq1, hti_a])) (by first | rw [e3, e2] | (simp only [e3, e2]))
  ·
    refine z_aload_n X dX4_put_38 rfl 2 rfl ?_
    refine z_iload X dX4_put_39 0 rfl ?_
    refine z_callV X (c_X4_faulted l g a (nI 0) tr (foc (lnF 3) (leF 3) (lnF 3) i (nI 1))) gX4_put_X4_faulted rfl ⟨rfl, rfl⟩ (by decide +kernel) ⟨Nat.le_of_ble_eq_true rfl, Nat.le_of_ble_eq_true rfl⟩ ZF.room (ci := 3) rfl 0 rfl (isC := [0]) (by decide) rfl rfl (ws' := (wO g a (foc (lnF 3) (leF 3) (lnF 3) i (nI 1)) tr ++ (wH g a ++ (wS g (a 19) (a 20) (lnF 3) (leF 3) (ceF 3))))) rfl (As := [.int (foc (lnF 3) (leF 3) (lnF 3) i (nI 1))]) (n := 1) rfl rfl (st1 := [.int ((-10) - (foc (lnF 3) (leF 3) (lnF 3) i (nI 1)))]) rfl (Nat.le_of_ble_eq_true rfl) dX4_put_41 ?_
    have e4 : (if foc (lnF 3) (leF 3) (lnF 3) i (nI 1) = 0 then upd (ceF 3) (tn i) (cut (lnF 3) v) else ceF 3) = (ceF 3) := by first | (simp [nI_0, hq1]; done) | (simp [hq1])
    exact z_iret X ZF dX4_put_44 (by first | (simp [nI_0, hq1]; done) | (simp [hq1])) (by rw [e4])
abbrev rX4_cell_3 : Room := { frames := 2, cells := 0, slots := 0, locals := 45 }
set_option maxHeartbeats 4000000 in
set_option maxRecDepth 100000 in
theorem c_X4_cell_3 (l : Launch) (g : zg) (a : Nat → Nat) (ft : Int32) (tr : Int32) (lnF : Nat → Int32) (leF : Nat → Int32) (ceF : Nat → Nat → Int32) (i : Int32) (lane : Int32) (hle : vle (leF 3)) : zM l g yX4_cell wsX4_cell rX4_cell_3 [.ref (a 0), .int (nI 3), .int i, .int lane] (wO g a ft tr ++ (wH g a ++ (wS g (a 19) (a 20) (lnF 3) (leF 3) (ceF 3)))) (some (.long (if zin lane 3 && decide (foc (lnF 3) (leF 3) lane i (nI 1) = 0) then (ceF 3 (tn i)).toInt64 else -9223372036854775808))) (wO g a (if zin lane 3 then foc (lnF 3) (leF 3) lane i (nI 1) else nI 0) tr ++ (wH g a ++ (wS g (a 19) (a 20) (lnF 3) (leF 3) (ceF 3)))) := by
  refine z_met (own := RX4) (cc := cX4_cell) (maxL := 6) (ret := some .long) (by decide +kernel) rfl rfl (Nat.le_of_ble_eq_true rfl) ?_
  intro M X ZF
  refine z_Le (L' := [(0, .ref (a 0)), (1, .int (nI 3)), (2, .int i), (3, .int lane)]) rfl ?_
  have i_RX4 : ∀ w ∈ wsX40, w ∈ wsX4_cell := by decide +kernel
  have f_32 : Cond.fieldLink RX4 32 (TX4 3).1 (TX4 3).2.1 (TX4 3).2.2.1 ∈ wsX4_cell := by decide +kernel
  have k_189 : Cond.constantLong RX4 189 (-9223372036854775808) ∈ wsX4_cell := by decide +kernel
  refine z_aload_n X dX4_cell_0 rfl 0 rfl ?_
  refine z_iconst (v := nI 0) X dX4_cell_1 (by decide) ?_
  refine z_put (ws' := (wO g a (nI 0) tr ++ (wH g a ++ (wS g (a 19) (a 20) (lnF 3) (leF 3) (ceF 3))))) (N := 5) X i_RX4 (ci := 3) rfl tyX4 tyX4_ok nmX4 0 rfl 3 (by decide) f_32 rfl (ty := .int) (by decide +kernel) rfl rfl (Nat.le_of_ble_eq_true rfl) dX4_cell_2 rfl ?_
  refine z_aload_n X dX4_cell_5 rfl 0 rfl ?_
  refine z_iload_n X dX4_cell_6 rfl 1 rfl ?_
  refine z_callV X (c_X4_sheetAt_in l g a (nI 0) tr 3 (by omega)) gX4_cell_X4_sheetAt rfl ⟨rfl, rfl⟩ (by decide +kernel) ⟨Nat.le_of_ble_eq_true rfl, Nat.le_of_ble_eq_true rfl⟩ ZF.room (ci := 3) rfl 0 rfl (isC := [0, 1]) (by decide) rfl rfl (ws' := (wO g a (nI 0) tr ++ (wH g a ++ (wS g (a 19) (a 20) (lnF 3) (leF 3) (ceF 3))))) rfl (As := [.int (nI 3)]) (n := 1) rfl rfl (st1 := [.ref (a 19)]) rfl (Nat.le_of_ble_eq_true rfl) dX4_cell_7 ?_
  refine z_astore (L' := [(4, .ref (a 19)), (0, .ref (a 0)), (1, .int (nI 3)), (2, .int i), (3, .int lane)]) X dX4_cell_10 (by decide) rfl ?_
  refine z_aload X dX4_cell_12 0 rfl ?_
  refine z_ifnull X dX4_cell_14 ?_
  refine z_iload_n X dX4_cell_17 rfl 4 rfl ?_
  refine z_callS0 X (c_X4_isLane l g lane) gX4_cell_X4_isLane rfl ⟨rfl, rfl⟩ (by decide +kernel) ⟨Nat.le_of_ble_eq_true rfl, Nat.le_of_ble_eq_true rfl⟩ ZF.room (As := [.int lane]) (n := 1) rfl rfl (st1 := [.int (bI (zin lane 3))]) rfl (Nat.le_of_ble_eq_true rfl) dX4_cell_18 ?_
  refine z_if_neB (tgt := 28) X dX4_cell_21 (by decide) (fun hq1 => ?_) (fun hq1 => ?_)
  ·
    refine z_aload X dX4_cell_28 0 rfl ?_
    refine z_iload_n X dX4_cell_30 rfl 4 rfl ?_
    refine z_iload_n X dX4_cell_31 rfl 3 rfl ?_
    refine z_iconst (v := nI 1) X dX4_cell_32 (by decide) ?_
    refine z_callV X (c_X2_faultOfCells l g (a 19) (a 20) (lnF 3) (leF 3) (ceF 3) lane i (nI 1)) gX4_cell_X2_faultOfCells rfl ⟨rfl, rfl⟩ (by decide +kernel) ⟨Nat.le_of_ble_eq_true rfl, Nat.le_of_ble_eq_true rfl⟩ ZF.room (ci := 2) rfl 2 rfl (isC := [2, 3]) (by decide) rfl rfl (ws' := (wO g a (nI 0) tr ++ (wH g a ++ (wS g (a 19) (a 20) (lnF 3) (leF 3) (ceF 3))))) rfl (As := [.int lane, .int i, .int (nI 1)]) (n := 3) rfl rfl (st1 := [.int (foc (lnF 3) (leF 3) lane i (nI 1))]) rfl (Nat.le_of_ble_eq_true rfl) dX4_cell_33 ?_
    refine z_istore (L' := [(5, .int (foc (lnF 3) (leF 3) lane i (nI 1))), (4, .ref (a 19)), (0, .ref (a 0)), (1, .int (nI 3)), (2, .int i), (3, .int lane)]) X dX4_cell_36 (by decide) rfl ?_
    refine z_iload X dX4_cell_38 0 rfl ?_
    refine z_if_eq (tgt := 53) X dX4_cell_40 (by decide) (fun hq2 => ?_) (fun hq2 => ?_)
    ·
      obtain ⟨i_a, ei_a, hin_a, m_a, hm_a, him_a⟩ := foc1 hle hq2
      subst ei_a
      have hti_a : tn (nI i_a) = i_a := nI_clamp (by omega)
      refine z_aload X dX4_cell_53 1 rfl ?_
      refine z_iload_n X dX4_cell_55 rfl 4 rfl ?_
      refine z_callV X (c_X2_numberAt l g (a 19) (a 20) (lnF 3) (leF 3) (ceF 3) i_a (by omega)) gX4_cell_X2_numberAt rfl ⟨rfl, rfl⟩ (by decide +kernel) ⟨Nat.le_of_ble_eq_true rfl, Nat.le_of_ble_eq_true rfl⟩ ZF.room (ci := 2) rfl 2 rfl (isC := [2, 3]) (by decide) rfl rfl (ws' := (wO g a (nI 0) tr ++ (wH g a ++ (wS g (a 19) (a 20) (lnF 3) (leF 3) (ceF 3))))) rfl (As := [.int (nI i_a)]) (n := 1) rfl rfl (st1 := [.int ((ceF 3) i_a)]) rfl (Nat.le_of_ble_eq_true rfl) dX4_cell_56 ?_
      refine z_i2l (v := ((ceF 3) i_a).toInt64) X dX4_cell_59 rfl ?_
      have e3 : (if zin lane 3 then foc (lnF 3) (leF 3) lane (nI i_a) (nI 1) else nI 0) = (nI 0) := by first | (simp [nI_0, hq1, hq2, hti_a]; done) | (simp [hq1, hq2, hti_a])
      exact z_lret X ZF dX4_cell_60 (by first | (simp [nI_0, hq1, hq2, hti_a]; done) | (simp [hq1, hq2, hti_a])) (by rw [e3])
    ·
      refine z_aload_n X dX4_cell_43 rfl 2 rfl ?_
      refine z_iload X dX4_cell_44 0 rfl ?_
      refine z_put (ws' := (wO g a (foc (lnF 3) (leF 3) lane i (nI 1)) tr ++ (wH g a ++ (wS g (a 19) (a 20) (lnF 3) (leF 3) (ceF 3))))) (N := 5) X i_RX4 (ci := 3) rfl tyX4 tyX4_ok nmX4 0 rfl 3 (by decide) f_32 rfl (ty := .int) (by decide +kernel) rfl rfl (Nat.le_of_ble_eq_true rfl) dX4_cell_46 rfl ?_
      refine z_ldc2 (v := -9223372036854775808) X dX4_cell_49 k_189 ?_
      have e4 : (if zin lane 3 then foc (lnF 3) (leF 3) lane i (nI 1) else nI 0) = (foc (lnF 3) (leF 3) lane i (nI 1)) := by first | (simp [nI_0, hq1, hq2]; done) | (simp [hq1, hq2])
      exact z_lret X ZF dX4_cell_52 (by first | (simp [nI_0, hq1, hq2]; done) | (simp [hq1, hq2])) (by rw [e4])
  ·
    refine z_ldc2 (v := -9223372036854775808) X dX4_cell_24 k_189 ?_
    have e5 : (if zin lane 3 then foc (lnF 3) (leF 3) lane i (nI 1) else nI 0) = (nI 0) := by first | (simp [nI_0, hq1]; done) | (simp [hq1])
    exact z_lret X ZF dX4_cell_27 (by first | (simp [nI_0, hq1]; done) | (simp [hq1])) (by rw [e5])
abbrev rX4_duchy_x : Room := { frames := 1, cells := 0, slots := 0, locals := 21 }
set_option maxHeartbeats 4000000 in
set_option maxRecDepth 100000 in
theorem c_X4_duchy_x (l : Launch) (g : zg) (a : Nat → Nat) (ft : Int32) (tr : Int32) (D : Nat) (E : Nat) (so : Int32) (lk : Nat → Int32) (kd : Nat → Int32) (st : Nat → Int32) (sp : Nat → Int32) (nd : Nat → Int32) (C : Nat) (rO : Nat → Int32) (rB : Nat → Int32) (rD : Nat → Int32) (rW : Nat → Int32) (k : Int32) (lane : Int32) (i : Int32) (n : Int32) (hx : zin k 4 = false) : zM l g yX4_duchy wsX4_duchy rX4_duchy_x [.ref (a 0), .int k, .int lane, .int i, .int n] (wO g a ft tr ++ (wD g a D E so lk kd st sp nd ++ (wR g a C rO rB rD rW ++ (wH g a)))) (some (.int (-1))) (wO g a (nI 0) tr ++ (wD g a D E so lk kd st sp nd ++ (wR g a C rO rB rD rW ++ (wH g a)))) := by
  refine z_met (own := RX4) (cc := cX4_duchy) (maxL := 8) (ret := some .int) (by decide +kernel) rfl rfl (Nat.le_of_ble_eq_true rfl) ?_
  intro M X ZF
  refine z_Le (L' := [(0, .ref (a 0)), (1, .int k), (2, .int lane), (3, .int i), (4, .int n)]) rfl ?_
  have i_RX4 : ∀ w ∈ wsX40, w ∈ wsX4_duchy := by decide +kernel
  have f_32 : Cond.fieldLink RX4 32 (TX4 3).1 (TX4 3).2.1 (TX4 3).2.2.1 ∈ wsX4_duchy := by decide +kernel
  refine z_aload_n X dX4_duchy_0 rfl 0 rfl ?_
  refine z_iconst (v := nI 0) X dX4_duchy_1 (by decide) ?_
  refine z_put (ws' := (wO g a (nI 0) tr ++ (wD g a D E so lk kd st sp nd ++ (wR g a C rO rB rD rW ++ (wH g a))))) (N := 5) X i_RX4 (ci := 3) rfl tyX4 tyX4_ok nmX4 0 rfl 3 (by decide) f_32 rfl (ty := .int) (by decide +kernel) rfl rfl (Nat.le_of_ble_eq_true rfl) dX4_duchy_2 rfl ?_
  refine z_aload_n X dX4_duchy_5 rfl 0 rfl ?_
  refine z_iload_n X dX4_duchy_6 rfl 1 rfl ?_
  refine z_callV X (c_X4_sheetAt_out l g a (nI 0) tr k (by first | assumption | omega)) gX4_duchy_X4_sheetAt rfl ⟨rfl, rfl⟩ (by decide +kernel) ⟨Nat.le_of_ble_eq_true rfl, Nat.le_of_ble_eq_true rfl⟩ ZF.room (ci := 3) rfl 0 rfl (isC := [0, 12]) (by decide) rfl rfl (ws' := (wO g a (nI 0) tr ++ (wD g a D E so lk kd st sp nd ++ (wR g a C rO rB rD rW ++ (wH g a))))) rfl (As := [.int k]) (n := 1) rfl rfl (st1 := [.null]) rfl (Nat.le_of_ble_eq_true rfl) dX4_duchy_7 ?_
  refine z_astoreN (L' := [(5, .null), (0, .ref (a 0)), (1, .int k), (2, .int lane), (3, .int i), (4, .int n)]) X dX4_duchy_10 (by decide) rfl ?_
  refine z_aloadN X dX4_duchy_12 0 rfl ?_
  refine z_ifnonnullN X dX4_duchy_14 ?_
  refine z_iconst (v := (-1)) X dX4_duchy_17 (by decide) ?_
  exact z_iret X ZF dX4_duchy_18 rfl rfl
abbrev rX4_plan_x : Room := { frames := 1, cells := 0, slots := 0, locals := 21 }
set_option maxHeartbeats 4000000 in
set_option maxRecDepth 100000 in
theorem c_X4_plan_x (l : Launch) (g : zg) (a : Nat → Nat) (ft : Int32) (tr : Int32) (D : Nat) (E : Nat) (so : Int32) (lk : Nat → Int32) (kd : Nat → Int32) (st : Nat → Int32) (sp : Nat → Int32) (nd : Nat → Int32) (k : Int32) (lane : Int32) (i : Int32) (n : Int32) (w : Int32) (hx : zin k 4 = false) : zM l g yX4_plan wsX4_plan rX4_plan_x [.ref (a 0), .int k, .int lane, .int i, .int n, .int w] (wO g a ft tr ++ (wD g a D E so lk kd st sp nd ++ (wH g a))) (some (.int (-1))) (wO g a (nI 0) tr ++ (wD g a D E so lk kd st sp nd ++ (wH g a))) := by
  refine z_met (own := RX4) (cc := cX4_plan) (maxL := 8) (ret := some .int) (by decide +kernel) rfl rfl (Nat.le_of_ble_eq_true rfl) ?_
  intro M X ZF
  refine z_Le (L' := [(0, .ref (a 0)), (1, .int k), (2, .int lane), (3, .int i), (4, .int n), (5, .int w)]) rfl ?_
  have i_RX4 : ∀ w ∈ wsX40, w ∈ wsX4_plan := by decide +kernel
  have f_32 : Cond.fieldLink RX4 32 (TX4 3).1 (TX4 3).2.1 (TX4 3).2.2.1 ∈ wsX4_plan := by decide +kernel
  refine z_aload_n X dX4_plan_0 rfl 0 rfl ?_
  refine z_iconst (v := nI 0) X dX4_plan_1 (by decide) ?_
  refine z_put (ws' := (wO g a (nI 0) tr ++ (wD g a D E so lk kd st sp nd ++ (wH g a)))) (N := 5) X i_RX4 (ci := 3) rfl tyX4 tyX4_ok nmX4 0 rfl 3 (by decide) f_32 rfl (ty := .int) (by decide +kernel) rfl rfl (Nat.le_of_ble_eq_true rfl) dX4_plan_2 rfl ?_
  refine z_aload_n X dX4_plan_5 rfl 0 rfl ?_
  refine z_iload_n X dX4_plan_6 rfl 1 rfl ?_
  refine z_callV X (c_X4_sheetAt_out l g a (nI 0) tr k (by first | assumption | omega)) gX4_plan_X4_sheetAt rfl ⟨rfl, rfl⟩ (by decide +kernel) ⟨Nat.le_of_ble_eq_true rfl, Nat.le_of_ble_eq_true rfl⟩ ZF.room (ci := 3) rfl 0 rfl (isC := [0, 7]) (by decide) rfl rfl (ws' := (wO g a (nI 0) tr ++ (wD g a D E so lk kd st sp nd ++ (wH g a)))) rfl (As := [.int k]) (n := 1) rfl rfl (st1 := [.null]) rfl (Nat.le_of_ble_eq_true rfl) dX4_plan_7 ?_
  refine z_astoreN (L' := [(6, .null), (0, .ref (a 0)), (1, .int k), (2, .int lane), (3, .int i), (4, .int n), (5, .int w)]) X dX4_plan_10 (by decide) rfl ?_
  refine z_aloadN X dX4_plan_12 0 rfl ?_
  refine z_ifnonnullN X dX4_plan_14 ?_
  refine z_iconst (v := (-1)) X dX4_plan_17 (by decide) ?_
  exact z_iret X ZF dX4_plan_18 rfl rfl
abbrev rX4_sheet_x : Room := { frames := 1, cells := 0, slots := 0, locals := 21 }
set_option maxHeartbeats 4000000 in
set_option maxRecDepth 100000 in
theorem c_X4_sheet_x (l : Launch) (g : zg) (a : Nat → Nat) (ft : Int32) (tr : Int32) (k : Int32) (lane : Int32) (n : Int32) (hx : zin k 4 = false) : zM l g yX4_sheet wsX4_sheet rX4_sheet_x [.ref (a 0), .int k, .int lane, .int n] (wO g a ft tr ++ (wH g a)) (some (.int (-1))) (wO g a (nI 0) tr ++ (wH g a)) := by
  refine z_met (own := RX4) (cc := cX4_sheet) (maxL := 5) (ret := some .int) (by decide +kernel) rfl rfl (Nat.le_of_ble_eq_true rfl) ?_
  intro M X ZF
  refine z_Le (L' := [(0, .ref (a 0)), (1, .int k), (2, .int lane), (3, .int n)]) rfl ?_
  have i_RX4 : ∀ w ∈ wsX40, w ∈ wsX4_sheet := by decide +kernel
  have f_32 : Cond.fieldLink RX4 32 (TX4 3).1 (TX4 3).2.1 (TX4 3).2.2.1 ∈ wsX4_sheet := by decide +kernel
  refine z_aload_n X dX4_sheet_0 rfl 0 rfl ?_
  refine z_iconst (v := nI 0) X dX4_sheet_1 (by decide) ?_
  refine z_put (ws' := (wO g a (nI 0) tr ++ (wH g a))) (N := 5) X i_RX4 (ci := 3) rfl tyX4 tyX4_ok nmX4 0 rfl 3 (by decide) f_32 rfl (ty := .int) (by decide +kernel) rfl rfl (Nat.le_of_ble_eq_true rfl) dX4_sheet_2 rfl ?_
  refine z_aload_n X dX4_sheet_5 rfl 0 rfl ?_
  refine z_iload_n X dX4_sheet_6 rfl 1 rfl ?_
  refine z_callV X (c_X4_sheetAt_out l g a (nI 0) tr k (by first | assumption | omega)) gX4_sheet_X4_sheetAt rfl ⟨rfl, rfl⟩ (by decide +kernel) ⟨Nat.le_of_ble_eq_true rfl, Nat.le_of_ble_eq_true rfl⟩ ZF.room (ci := 3) rfl 0 rfl (isC := [0, 1]) (by decide) rfl rfl (ws' := (wO g a (nI 0) tr ++ (wH g a))) rfl (As := [.int k]) (n := 1) rfl rfl (st1 := [.null]) rfl (Nat.le_of_ble_eq_true rfl) dX4_sheet_7 ?_
  refine z_astoreN (L' := [(4, .null), (0, .ref (a 0)), (1, .int k), (2, .int lane), (3, .int n)]) X dX4_sheet_10 (by decide) rfl ?_
  refine z_aloadN X dX4_sheet_12 0 rfl ?_
  refine z_ifnonnullN X dX4_sheet_14 ?_
  refine z_iconst (v := (-1)) X dX4_sheet_17 (by decide) ?_
  exact z_iret X ZF dX4_sheet_18 rfl rfl
abbrev rX4_lose_x : Room := { frames := 1, cells := 0, slots := 0, locals := 21 }
set_option maxHeartbeats 4000000 in
set_option maxRecDepth 100000 in
theorem c_X4_lose_x (l : Launch) (g : zg) (a : Nat → Nat) (ft : Int32) (tr : Int32) (k : Int32) (hx : zin k 4 = false) : zM l g yX4_lose wsX4_lose rX4_lose_x [.ref (a 0), .int k] (wO g a ft tr ++ (wH g a)) (some (.int (-1))) (wO g a ft tr ++ (wH g a)) := by
  refine z_met (own := RX4) (cc := cX4_lose) (maxL := 3) (ret := some .int) (by decide +kernel) rfl rfl (Nat.le_of_ble_eq_true rfl) ?_
  intro M X ZF
  refine z_Le (L' := [(0, .ref (a 0)), (1, .int k)]) rfl ?_
  refine z_aload_n X dX4_lose_0 rfl 0 rfl ?_
  refine z_iload_n X dX4_lose_1 rfl 1 rfl ?_
  refine z_callV X (c_X4_sheetAt_out l g a ft tr k (by first | assumption | omega)) gX4_lose_X4_sheetAt rfl ⟨rfl, rfl⟩ (by decide +kernel) ⟨Nat.le_of_ble_eq_true rfl, Nat.le_of_ble_eq_true rfl⟩ ZF.room (ci := 3) rfl 0 rfl (isC := [0, 1]) (by decide) rfl rfl (ws' := (wO g a ft tr ++ (wH g a))) rfl (As := [.int k]) (n := 1) rfl rfl (st1 := [.null]) rfl (Nat.le_of_ble_eq_true rfl) dX4_lose_2 ?_
  refine z_astore_nN (L' := [(2, .null), (0, .ref (a 0)), (1, .int k)]) X dX4_lose_5 rfl (by decide) rfl ?_
  refine z_aload_nN X dX4_lose_6 rfl 0 rfl ?_
  refine z_ifnonnullN X dX4_lose_7 ?_
  refine z_iconst (v := (-1)) X dX4_lose_10 (by decide) ?_
  exact z_iret X ZF dX4_lose_11 rfl rfl
abbrev rX4_put_x : Room := { frames := 1, cells := 0, slots := 0, locals := 21 }
set_option maxHeartbeats 4000000 in
set_option maxRecDepth 100000 in
theorem c_X4_put_x (l : Launch) (g : zg) (a : Nat → Nat) (ft : Int32) (tr : Int32) (k : Int32) (i : Int32) (v : Int32) (hx : zin k 4 = false) : zM l g yX4_put wsX4_put rX4_put_x [.ref (a 0), .int k, .int i, .int v] (wO g a ft tr ++ (wH g a)) (some (.int (-1))) (wO g a (nI 0) tr ++ (wH g a)) := by
  refine z_met (own := RX4) (cc := cX4_put) (maxL := 6) (ret := some .int) (by decide +kernel) rfl rfl (Nat.le_of_ble_eq_true rfl) ?_
  intro M X ZF
  refine z_Le (L' := [(0, .ref (a 0)), (1, .int k), (2, .int i), (3, .int v)]) rfl ?_
  have i_RX4 : ∀ w ∈ wsX40, w ∈ wsX4_put := by decide +kernel
  have f_32 : Cond.fieldLink RX4 32 (TX4 3).1 (TX4 3).2.1 (TX4 3).2.2.1 ∈ wsX4_put := by decide +kernel
  refine z_aload_n X dX4_put_0 rfl 0 rfl ?_
  refine z_iconst (v := nI 0) X dX4_put_1 (by decide) ?_
  refine z_put (ws' := (wO g a (nI 0) tr ++ (wH g a))) (N := 5) X i_RX4 (ci := 3) rfl tyX4 tyX4_ok nmX4 0 rfl 3 (by decide) f_32 rfl (ty := .int) (by decide +kernel) rfl rfl (Nat.le_of_ble_eq_true rfl) dX4_put_2 rfl ?_
  refine z_aload_n X dX4_put_5 rfl 0 rfl ?_
  refine z_iload_n X dX4_put_6 rfl 1 rfl ?_
  refine z_callV X (c_X4_sheetAt_out l g a (nI 0) tr k (by first | assumption | omega)) gX4_put_X4_sheetAt rfl ⟨rfl, rfl⟩ (by decide +kernel) ⟨Nat.le_of_ble_eq_true rfl, Nat.le_of_ble_eq_true rfl⟩ ZF.room (ci := 3) rfl 0 rfl (isC := [0, 1]) (by decide) rfl rfl (ws' := (wO g a (nI 0) tr ++ (wH g a))) rfl (As := [.int k]) (n := 1) rfl rfl (st1 := [.null]) rfl (Nat.le_of_ble_eq_true rfl) dX4_put_7 ?_
  refine z_astoreN (L' := [(4, .null), (0, .ref (a 0)), (1, .int k), (2, .int i), (3, .int v)]) X dX4_put_10 (by decide) rfl ?_
  refine z_aloadN X dX4_put_12 0 rfl ?_
  refine z_ifnonnullN X dX4_put_14 ?_
  refine z_iconst (v := (-1)) X dX4_put_17 (by decide) ?_
  exact z_iret X ZF dX4_put_18 rfl rfl
abbrev rX4_cell_x : Room := { frames := 1, cells := 0, slots := 0, locals := 21 }
set_option maxHeartbeats 4000000 in
set_option maxRecDepth 100000 in
theorem c_X4_cell_x (l : Launch) (g : zg) (a : Nat → Nat) (ft : Int32) (tr : Int32) (k : Int32) (i : Int32) (lane : Int32) (hx : zin k 4 = false) : zM l g yX4_cell wsX4_cell rX4_cell_x [.ref (a 0), .int k, .int i, .int lane] (wO g a ft tr ++ (wH g a)) (some (.long (-9223372036854775808))) (wO g a (nI 0) tr ++ (wH g a)) := by
  refine z_met (own := RX4) (cc := cX4_cell) (maxL := 6) (ret := some .long) (by decide +kernel) rfl rfl (Nat.le_of_ble_eq_true rfl) ?_
  intro M X ZF
  refine z_Le (L' := [(0, .ref (a 0)), (1, .int k), (2, .int i), (3, .int lane)]) rfl ?_
  have i_RX4 : ∀ w ∈ wsX40, w ∈ wsX4_cell := by decide +kernel
  have f_32 : Cond.fieldLink RX4 32 (TX4 3).1 (TX4 3).2.1 (TX4 3).2.2.1 ∈ wsX4_cell := by decide +kernel
  have k_189 : Cond.constantLong RX4 189 (-9223372036854775808) ∈ wsX4_cell := by decide +kernel
  refine z_aload_n X dX4_cell_0 rfl 0 rfl ?_
  refine z_iconst (v := nI 0) X dX4_cell_1 (by decide) ?_
  refine z_put (ws' := (wO g a (nI 0) tr ++ (wH g a))) (N := 5) X i_RX4 (ci := 3) rfl tyX4 tyX4_ok nmX4 0 rfl 3 (by decide) f_32 rfl (ty := .int) (by decide +kernel) rfl rfl (Nat.le_of_ble_eq_true rfl) dX4_cell_2 rfl ?_
  refine z_aload_n X dX4_cell_5 rfl 0 rfl ?_
  refine z_iload_n X dX4_cell_6 rfl 1 rfl ?_
  refine z_callV X (c_X4_sheetAt_out l g a (nI 0) tr k (by first | assumption | omega)) gX4_cell_X4_sheetAt rfl ⟨rfl, rfl⟩ (by decide +kernel) ⟨Nat.le_of_ble_eq_true rfl, Nat.le_of_ble_eq_true rfl⟩ ZF.room (ci := 3) rfl 0 rfl (isC := [0, 1]) (by decide) rfl rfl (ws' := (wO g a (nI 0) tr ++ (wH g a))) rfl (As := [.int k]) (n := 1) rfl rfl (st1 := [.null]) rfl (Nat.le_of_ble_eq_true rfl) dX4_cell_7 ?_
  refine z_astoreN (L' := [(4, .null), (0, .ref (a 0)), (1, .int k), (2, .int i), (3, .int lane)]) X dX4_cell_10 (by decide) rfl ?_
  refine z_aloadN X dX4_cell_12 0 rfl ?_
  refine z_ifnullN (tgt := 24) X dX4_cell_14 (by decide) ?_
  refine z_ldc2 (v := -9223372036854775808) X dX4_cell_24 k_189 ?_
  exact z_lret X ZF dX4_cell_27 rfl rfl
