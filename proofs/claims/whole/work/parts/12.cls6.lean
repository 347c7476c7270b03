abbrev rX4_copy_00 : Room := { frames := 2, cells := 0, slots := 0, locals := 46 }
set_option maxHeartbeats 4000000 in
set_option maxRecDepth 100000 in
theorem c_X4_copy_00 (l : Launch) (g : zg) (a : Nat → Nat) (ft : Int32) (tr : Int32) (lnF : Nat → Int32) (leF : Nat → Int32) (ceF : Nat → Nat → Int32) (i : Int32) (j : Int32) (n : Int32) (hle : vle (leF 0)) (hle2 : vle (leF 0)) : zM l g yX4_copy wsX4_copy rX4_copy_00 [.ref (a 0), .int (nI 0), .int i, .int (nI 0), .int j, .int n] (wO g a ft tr ++ (wH g a ++ (wS g (a 13) (a 14) (lnF 0) (leF 0) (ceF 0)))) (some (.int (cor (lnF 0) (leF 0) (lnF 0) (leF 0) i j n))) (wO g a (cof (lnF 0) (leF 0) (lnF 0) (leF 0) i j n) tr ++ (wH g a ++ (wS g (a 13) (a 14) (lnF 0) (leF 0) (if cok (lnF 0) (leF 0) (lnF 0) (leF 0) i j n then va_cpy (ceF 0) (ceF 0) (tn i) (tn j) (tn n) else ceF 0)))) := by
  refine z_met (own := RX4) (cc := cX4_copy) (maxL := 8) (ret := some .int) (by decide +kernel) rfl rfl (Nat.le_of_ble_eq_true rfl) ?_
  intro M X ZF
  refine z_Le (L' := [(0, .ref (a 0)), (1, .int (nI 0)), (2, .int i), (3, .int (nI 0)), (4, .int j), (5, .int n)]) rfl ?_
  have i_RX4 : ∀ w ∈ wsX40, w ∈ wsX4_copy := by decide +kernel
  have f_32 : Cond.fieldLink RX4 32 (TX4 3).1 (TX4 3).2.1 (TX4 3).2.2.1 ∈ wsX4_copy := by decide +kernel
  refine z_aload_n X dX4_copy_0 rfl 0 rfl ?_
  refine z_iconst (v := nI 0) X dX4_copy_1 (by decide) ?_
  refine z_put (ws' := (wO g a (nI 0) tr ++ (wH g a ++ (wS g (a 13) (a 14) (lnF 0) (leF 0) (ceF 0))))) (N := 5) X i_RX4 (ci := 3) rfl tyX4 tyX4_ok nmX4 0 rfl 3 (by decide) f_32 rfl (ty := .int) (by decide +kernel) rfl rfl (Nat.le_of_ble_eq_true rfl) dX4_copy_2 rfl ?_
  refine z_aload_n X dX4_copy_5 rfl 0 rfl ?_
  refine z_iload_n X dX4_copy_6 rfl 1 rfl ?_
  refine z_callV X (c_X4_sheetAt_in l g a (nI 0) tr 0 (by omega)) gX4_copy_X4_sheetAt rfl ⟨rfl, rfl⟩ (by decide +kernel) ⟨Nat.le_of_ble_eq_true rfl, Nat.le_of_ble_eq_true rfl⟩ ZF.room (ci := 3) rfl 0 rfl (isC := [0, 1]) (by decide) rfl rfl (ws' := (wO g a (nI 0) tr ++ (wH g a ++ (wS g (a 13) (a 14) (lnF 0) (leF 0) (ceF 0))))) rfl (As := [.int (nI 0)]) (n := 1) rfl rfl (st1 := [.ref (a 13)]) rfl (Nat.le_of_ble_eq_true rfl) dX4_copy_7 ?_
  refine z_astore (L' := [(6, .ref (a 13)), (0, .ref (a 0)), (1, .int (nI 0)), (2, .int i), (3, .int (nI 0)), (4, .int j), (5, .int n)]) X dX4_copy_10 (by decide) rfl ?_
  refine z_aload_n X dX4_copy_12 rfl 1 rfl ?_
  refine z_iload_n X dX4_copy_13 rfl 4 rfl ?_
  refine z_callV X (c_X4_sheetAt_in l g a (nI 0) tr 0 (by omega)) gX4_copy_X4_sheetAt rfl ⟨rfl, rfl⟩ (by decide +kernel) ⟨Nat.le_of_ble_eq_true rfl, Nat.le_of_ble_eq_true rfl⟩ ZF.room (ci := 3) rfl 0 rfl (isC := [0, 1]) (by decide) rfl rfl (ws' := (wO g a (nI 0) tr ++ (wH g a ++ (wS g (a 13) (a 14) (lnF 0) (leF 0) (ceF 0))))) rfl (As := [.int (nI 0)]) (n := 1) rfl rfl (st1 := [.ref (a 13)]) rfl (Nat.le_of_ble_eq_true rfl) dX4_copy_14 ?_
  refine z_astore (L' := [(7, .ref (a 13)), (6, .ref (a 13)), (0, .ref (a 0)), (1, .int (nI 0)), (2, .int i), (3, .int (nI 0)), (4, .int j), (5, .int n)]) X dX4_copy_17 (by decide) rfl ?_
  refine z_aload X dX4_copy_19 1 rfl ?_
  refine z_ifnull X dX4_copy_21 ?_
  refine z_aload X dX4_copy_24 0 rfl ?_
  refine z_ifnonnull (tgt := 31) X dX4_copy_26 (by decide) ?_
  refine z_aload X dX4_copy_31 1 rfl ?_
  refine z_callV X (c_X2_hasRow l g (a 13) (a 14) (lnF 0) (leF 0) (ceF 0)) gX4_copy_X2_hasRow rfl ⟨rfl, rfl⟩ (by decide +kernel) ⟨Nat.le_of_ble_eq_true rfl, Nat.le_of_ble_eq_true rfl⟩ ZF.room (ci := 2) rfl 2 rfl (isC := [2, 3]) (by decide) rfl rfl (ws' := (wO g a (nI 0) tr ++ (wH g a ++ (wS g (a 13) (a 14) (lnF 0) (leF 0) (ceF 0))))) rfl (As := []) (n := 0) rfl rfl (st1 := [.int (bI (!decide ((leF 0) = (-1))))]) rfl (Nat.le_of_ble_eq_true rfl) dX4_copy_33 ?_
  refine z_if_eqB (tgt := 47) X dX4_copy_36 (by decide) (fun hq1 => ?_) (fun hq1 => ?_)
  ·
    have hq2 : (decide ((leF 0) = (-1))) = true := by simpa using hq1
    have hq3 : ((leF 0) = (-1)) := of_decide_eq_true hq2
    refine z_aload_n X dX4_copy_47 rfl 2 rfl ?_
    refine z_iconst (v := nI 1) X dX4_copy_48 (by decide) ?_
    refine z_callV X (c_X4_faulted l g a (nI 0) tr (nI 1)) gX4_copy_X4_faulted rfl ⟨rfl, rfl⟩ (by decide +kernel) ⟨Nat.le_of_ble_eq_true rfl, Nat.le_of_ble_eq_true rfl⟩ ZF.room (ci := 3) rfl 0 rfl (isC := [0]) (by decide) rfl rfl (ws' := (wO g a (nI 1) tr ++ (wH g a ++ (wS g (a 13) (a 14) (lnF 0) (leF 0) (ceF 0))))) rfl (As := [.int (nI 1)]) (n := 1) rfl rfl (st1 := [.int ((-10) - (nI 1))]) rfl (Nat.le_of_ble_eq_true rfl) dX4_copy_49 ?_
    have e4 : (cof (lnF 0) (leF 0) (lnF 0) (leF 0) i j n) = (nI 1) := by first | (simp [cor, cof, cok, hq3]; done) | (simp [cor, cof, cok, hq3]; decide)
    have e5 : (if cok (lnF 0) (leF 0) (lnF 0) (leF 0) i j n then va_cpy (ceF 0) (ceF 0) (tn i) (tn j) (tn n) else ceF 0) = (ceF 0) := by first | (simp [cor, cof, cok, hq3]; done) | (simp [cor, cof, cok, hq3]; decide)
    exact z_iret X ZF dX4_copy_52 (by first | (simp [cor, cof, cok, hq3]; done) | (simp [cor, cof, cok, hq3]; decide)) (by first | rw [e5, e4] | (simp only [e5, e4]))
  ·
    have hq6 : (decide ((leF 0) = (-1))) = false := by simpa using hq1
    have hq7 : ¬ ((leF 0) = (-1)) := of_decide_eq_false hq6
    refine z_aload X dX4_copy_39 0 rfl ?_
    refine z_callV X (c_X2_hasRow l g (a 13) (a 14) (lnF 0) (leF 0) (ceF 0)) gX4_copy_X2_hasRow rfl ⟨rfl, rfl⟩ (by decide +kernel) ⟨Nat.le_of_ble_eq_true rfl, Nat.le_of_ble_eq_true rfl⟩ ZF.room (ci := 2) rfl 2 rfl (isC := [2, 3]) (by decide) rfl rfl (ws' := (wO g a (nI 0) tr ++ (wH g a ++ (wS g (a 13) (a 14) (lnF 0) (leF 0) (ceF 0))))) rfl (As := []) (n := 0) rfl rfl (st1 := [.int (bI (!decide ((leF 0) = (-1))))]) rfl (Nat.le_of_ble_eq_true rfl) dX4_copy_41 ?_
    refine z_if_neB (tgt := 53) X dX4_copy_44 (by decide) (fun hq8 => ?_) (fun hq8 => ?_)
    ·
      have hq9 : (decide ((leF 0) = (-1))) = false := by simpa using hq8
      refine z_aload X dX4_copy_53 1 rfl ?_
      refine z_callV X (c_X2_rowLane l g (a 13) (a 14) (lnF 0) (leF 0) (ceF 0)) gX4_copy_X2_rowLane rfl ⟨rfl, rfl⟩ (by decide +kernel) ⟨Nat.le_of_ble_eq_true rfl, Nat.le_of_ble_eq_true rfl⟩ ZF.room (ci := 2) rfl 2 rfl (isC := [2, 3]) (by decide) rfl rfl (ws' := (wO g a (nI 0) tr ++ (wH g a ++ (wS g (a 13) (a 14) (lnF 0) (leF 0) (ceF 0))))) rfl (As := []) (n := 0) rfl rfl (st1 := [.int (lnF 0)]) rfl (Nat.le_of_ble_eq_true rfl) dX4_copy_55 ?_
      refine z_aload X dX4_copy_58 0 rfl ?_
      refine z_callV X (c_X2_rowLane l g (a 13) (a 14) (lnF 0) (leF 0) (ceF 0)) gX4_copy_X2_rowLane rfl ⟨rfl, rfl⟩ (by decide +kernel) ⟨Nat.le_of_ble_eq_true rfl, Nat.le_of_ble_eq_true rfl⟩ ZF.room (ci := 2) rfl 2 rfl (isC := [2, 3]) (by decide) rfl rfl (ws' := (wO g a (nI 0) tr ++ (wH g a ++ (wS g (a 13) (a 14) (lnF 0) (leF 0) (ceF 0))))) rfl (As := []) (n := 0) rfl rfl (st1 := [.int (lnF 0), .int (lnF 0)]) rfl (Nat.le_of_ble_eq_true rfl) dX4_copy_60 ?_
      refine z_icmp_eq (tgt := 72) X dX4_copy_63 (by decide) (fun hq10 => ?_) (fun hq10 => ?_)
      ·
        refine z_aload X dX4_copy_72 1 rfl ?_
        refine z_iload_n X dX4_copy_74 rfl 4 rfl ?_
        refine z_iload X dX4_copy_75 7 rfl ?_
        refine z_callV X (c_X2_hasCells l g (a 13) (a 14) (lnF 0) (leF 0) (ceF 0) i n) gX4_copy_X2_hasCells rfl ⟨rfl, rfl⟩ (by decide +kernel) ⟨Nat.le_of_ble_eq_true rfl, Nat.le_of_ble_eq_true rfl⟩ ZF.room (ci := 2) rfl 2 rfl (isC := [2, 3]) (by decide) rfl rfl (ws' := (wO g a (nI 0) tr ++ (wH g a ++ (wS g (a 13) (a 14) (lnF 0) (leF 0) (ceF 0))))) rfl (As := [.int i, .int n]) (n := 2) rfl rfl (st1 := [.int (bI (hcl (leF 0) i n))]) rfl (Nat.le_of_ble_eq_true rfl) dX4_copy_77 ?_
        refine z_if_eqB (tgt := 95) X dX4_copy_80 (by decide) (fun hq11 => ?_) (fun hq11 => ?_)
        ·
          refine z_aload_n X dX4_copy_95 rfl 2 rfl ?_
          refine z_iconst (v := nI 3) X dX4_copy_96 (by decide) ?_
          refine z_callV X (c_X4_faulted l g a (nI 0) tr (nI 3)) gX4_copy_X4_faulted rfl ⟨rfl, rfl⟩ (by decide +kernel) ⟨Nat.le_of_ble_eq_true rfl, Nat.le_of_ble_eq_true rfl⟩ ZF.room (ci := 3) rfl 0 rfl (isC := [0]) (by decide) rfl rfl (ws' := (wO g a (nI 3) tr ++ (wH g a ++ (wS g (a 13) (a 14) (lnF 0) (leF 0) (ceF 0))))) rfl (As := [.int (nI 3)]) (n := 1) rfl rfl (st1 := [.int ((-10) - (nI 3))]) rfl (Nat.le_of_ble_eq_true rfl) dX4_copy_97 ?_
          have e12 : (cof (lnF 0) (leF 0) (lnF 0) (leF 0) i j n) = (nI 3) := by first | (simp [cor, cof, cok, hq7, hq10, hq11]; done) | (simp [cor, cof, cok, hq7, hq10, hq11]; decide)
          have e13 : (if cok (lnF 0) (leF 0) (lnF 0) (leF 0) i j n then va_cpy (ceF 0) (ceF 0) (tn i) (tn j) (tn n) else ceF 0) = (ceF 0) := by first | (simp [cor, cof, cok, hq7, hq10, hq11]; done) | (simp [cor, cof, cok, hq7, hq10, hq11]; decide)
          exact z_iret X ZF dX4_copy_100 (by first | (simp [cor, cof, cok, hq7, hq10, hq11]; done) | (simp [cor, cof, cok, hq7, hq10, hq11]; decide)) (by first | rw [e13, e12] | (simp only [e13, e12]))
        ·
          refine z_aload X dX4_copy_83 0 rfl ?_
          refine z_iload X dX4_copy_85 6 rfl ?_
          refine z_iload X dX4_copy_87 7 rfl ?_
          refine z_callV X (c_X2_hasCells l g (a 13) (a 14) (lnF 0) (leF 0) (ceF 0) j n) gX4_copy_X2_hasCells rfl ⟨rfl, rfl⟩ (by decide +kernel) ⟨Nat.le_of_ble_eq_true rfl, Nat.le_of_ble_eq_true rfl⟩ ZF.room (ci := 2) rfl 2 rfl (isC := [2, 3]) (by decide) rfl rfl (ws' := (wO g a (nI 0) tr ++ (wH g a ++ (wS g (a 13) (a 14) (lnF 0) (leF 0) (ceF 0))))) rfl (As := [.int j, .int n]) (n := 2) rfl rfl (st1 := [.int (bI (hcl (leF 0) j n))]) rfl (Nat.le_of_ble_eq_true rfl) dX4_copy_89 ?_
          refine z_if_neB (tgt := 101) X dX4_copy_92 (by decide) (fun hq14 => ?_) (fun hq14 => ?_)
          ·
            obtain ⟨i_a, n_a, ei_a, en_a, m_a, hm_a, him_a, hin_a⟩ := hcl_t hle hq11
            subst ei_a; subst en_a
            obtain ⟨j_a, ej_a, m_b, hm_b, hmb_b, hjn_b⟩ := hcl_t2 (by omega) hle2 hq14
            subst ej_a
            have hti_a : tn (nI i_a) = i_a := nI_clamp (by omega)
            have htn_a : tn (nI n_a) = n_a := nI_clamp (by omega)
            have htj_a : tn (nI j_a) = j_a := nI_clamp (by omega)
            refine z_aload X dX4_copy_101 1 rfl ?_
            refine z_iload_n X dX4_copy_103 rfl 4 rfl ?_
            refine z_aload X dX4_copy_104 0 rfl ?_
            refine z_iload X dX4_copy_106 6 rfl ?_
            refine z_iload X dX4_copy_108 7 rfl ?_
            refine z_callV X (c_X2_copyTo_one l g (a 13) (a 14) (lnF 0) (leF 0) (ceF 0) i_a j_a n_a (by omega) (by omega) (by first | assumption | omega) (by first | assumption | omega)) gX4_copy_X2_copyTo rfl ⟨rfl, rfl⟩ (by decide +kernel) ⟨Nat.le_of_ble_eq_true rfl, Nat.le_of_ble_eq_true rfl⟩ ZF.room (ci := 2) rfl 2 rfl (isC := [2, 3]) (by decide) rfl rfl (ws' := (wO g a (nI 0) tr ++ (wH g a ++ (wS g (a 13) (a 14) (lnF 0) (leF 0) (va_cpy (ceF 0) (ceF 0) i_a j_a n_a))))) rfl (As := [.int (nI i_a), .ref (a 13), .int (nI j_a), .int (nI n_a)]) (n := 4) rfl rfl (st1 := []) rfl (Nat.le_of_ble_eq_true rfl) dX4_copy_110 ?_
            refine z_iload X dX4_copy_113 7 rfl ?_
            have e15 : (cof (lnF 0) (leF 0) (lnF 0) (leF 0) (nI i_a) (nI j_a) (nI n_a)) = (nI 0) := by first | (simp [cor, cof, cok, hq7, hq10, hq11, hti_a, htn_a, htj_a, hq14]; done) | (simp [cor, cof, cok, hq7, hq10, hq11, hti_a, htn_a, htj_a, hq14]; decide)
            have e16 : (if cok (lnF 0) (leF 0) (lnF 0) (leF 0) (nI i_a) (nI j_a) (nI n_a) then va_cpy (ceF 0) (ceF 0) (tn (nI i_a)) (tn (nI j_a)) (tn (nI n_a)) else ceF 0) = (va_cpy (ceF 0) (ceF 0) i_a j_a n_a) := by first | (simp [cor, cof, cok, hq7, hq10, hq11, hti_a, htn_a, htj_a, hq14]; done) | (simp [cor, cof, cok, hq7, hq10, hq11, hti_a, htn_a, htj_a, hq14]; decide)
            exact z_iret X ZF dX4_copy_115 (by first | (simp [cor, cof, cok, hq7, hq10, hq11, hti_a, htn_a, htj_a, hq14]; done) | (simp [cor, cof, cok, hq7, hq10, hq11, hti_a, htn_a, htj_a, hq14]; decide)) (by first | rw [e16, e15] | (simp only [e16, e15]))
          ·
            refine z_aload_n X dX4_copy_95 rfl 2 rfl ?_
            refine z_iconst (v := nI 3) X dX4_copy_96 (by decide) ?_
            refine z_callV X (c_X4_faulted l g a (nI 0) tr (nI 3)) gX4_copy_X4_faulted rfl ⟨rfl, rfl⟩ (by decide +kernel) ⟨Nat.le_of_ble_eq_true rfl, Nat.le_of_ble_eq_true rfl⟩ ZF.room (ci := 3) rfl 0 rfl (isC := [0]) (by decide) rfl rfl (ws' := (wO g a (nI 3) tr ++ (wH g a ++ (wS g (a 13) (a 14) (lnF 0) (leF 0) (ceF 0))))) rfl (As := [.int (nI 3)]) (n := 1) rfl rfl (st1 := [.int ((-10) - (nI 3))]) rfl (Nat.le_of_ble_eq_true rfl) dX4_copy_97 ?_
            have e17 : (cof (lnF 0) (leF 0) (lnF 0) (leF 0) i j n) = (nI 3) := by first | (simp [cor, cof, cok, hq7, hq10, hq11, hq14]; done) | (simp [cor, cof, cok, hq7, hq10, hq11, hq14]; decide)
            have e18 : (if cok (lnF 0) (leF 0) (lnF 0) (leF 0) i j n then va_cpy (ceF 0) (ceF 0) (tn i) (tn j) (tn n) else ceF 0) = (ceF 0) := by first | (simp [cor, cof, cok, hq7, hq10, hq11, hq14]; done) | (simp [cor, cof, cok, hq7, hq10, hq11, hq14]; decide)
            exact z_iret X ZF dX4_copy_100 (by first | (simp [cor, cof, cok, hq7, hq10, hq11, hq14]; done) | (simp [cor, cof, cok, hq7, hq10, hq11, hq14]; decide)) (by first | rw [e18, e17] | (simp only [e18, e17]))
      ·
        exact absurd rfl hq10
    ·
      have hq19 : (decide ((leF 0) = (-1))) = true := by simpa using hq8
      exact absurd (hq6.symm.trans hq19) (by decide)
abbrev rX4_copy_01 : Room := { frames := 2, cells := 0, slots := 0, locals := 46 }
set_option maxHeartbeats 4000000 in
set_option maxRecDepth 100000 in
theorem c_X4_copy_01 (l : Launch) (g : zg) (a : Nat → Nat) (ft : Int32) (tr : Int32) (lnF : Nat → Int32) (leF : Nat → Int32) (ceF : Nat → Nat → Int32) (i : Int32) (j : Int32) (n : Int32) (hle : vle (leF 0)) (hle2 : vle (leF 1)) : zM l g yX4_copy wsX4_copy rX4_copy_01 [.ref (a 0), .int (nI 0), .int i, .int (nI 1), .int j, .int n] (wO g a ft tr ++ (wH g a ++ (wS g (a 13) (a 14) (lnF 0) (leF 0) (ceF 0) ++ (wS g (a 15) (a 16) (lnF 1) (leF 1) (ceF 1))))) (some (.int (cor (lnF 0) (leF 0) (lnF 1) (leF 1) i j n))) (wO g a (cof (lnF 0) (leF 0) (lnF 1) (leF 1) i j n) tr ++ (wH g a ++ (wS g (a 13) (a 14) (lnF 0) (leF 0) (ceF 0) ++ (wS g (a 15) (a 16) (lnF 1) (leF 1) (if cok (lnF 0) (leF 0) (lnF 1) (leF 1) i j n then va_cpy (ceF 0) (ceF 1) (tn i) (tn j) (tn n) else ceF 1))))) := by
  refine z_met (own := RX4) (cc := cX4_copy) (maxL := 8) (ret := some .int) (by decide +kernel) rfl rfl (Nat.le_of_ble_eq_true rfl) ?_
  intro M X ZF
  refine z_Le (L' := [(0, .ref (a 0)), (1, .int (nI 0)), (2, .int i), (3, .int (nI 1)), (4, .int j), (5, .int n)]) rfl ?_
  have i_RX4 : ∀ w ∈ wsX40, w ∈ wsX4_copy := by decide +kernel
  have f_32 : Cond.fieldLink RX4 32 (TX4 3).1 (TX4 3).2.1 (TX4 3).2.2.1 ∈ wsX4_copy := by decide +kernel
  refine z_aload_n X dX4_copy_0 rfl 0 rfl ?_
  refine z_iconst (v := nI 0) X dX4_copy_1 (by decide) ?_
  refine z_put (ws' := (wO g a (nI 0) tr ++ (wH g a ++ (wS g (a 13) (a 14) (lnF 0) (leF 0) (ceF 0) ++ (wS g (a 15) (a 16) (lnF 1) (leF 1) (ceF 1)))))) (N := 5) X i_RX4 (ci := 3) rfl tyX4 tyX4_ok nmX4 0 rfl 3 (by decide) f_32 rfl (ty := .int) (by decide +kernel) rfl rfl (Nat.le_of_ble_eq_true rfl) dX4_copy_2 rfl ?_
  refine z_aload_n X dX4_copy_5 rfl 0 rfl ?_
  refine z_iload_n X dX4_copy_6 rfl 1 rfl ?_
  refine z_callV X (c_X4_sheetAt_in l g a (nI 0) tr 0 (by omega)) gX4_copy_X4_sheetAt rfl ⟨rfl, rfl⟩ (by decide +kernel) ⟨Nat.le_of_ble_eq_true rfl, Nat.le_of_ble_eq_true rfl⟩ ZF.room (ci := 3) rfl 0 rfl (isC := [0, 1]) (by decide) rfl rfl (ws' := (wO g a (nI 0) tr ++ (wH g a ++ (wS g (a 13) (a 14) (lnF 0) (leF 0) (ceF 0) ++ (wS g (a 15) (a 16) (lnF 1) (leF 1) (ceF 1)))))) rfl (As := [.int (nI 0)]) (n := 1) rfl rfl (st1 := [.ref (a 13)]) rfl (Nat.le_of_ble_eq_true rfl) dX4_copy_7 ?_
  refine z_astore (L' := [(6, .ref (a 13)), (0, .ref (a 0)), (1, .int (nI 0)), (2, .int i), (3, .int (nI 1)), (4, .int j), (5, .int n)]) X dX4_copy_10 (by decide) rfl ?_
  refine z_aload_n X dX4_copy_12 rfl 1 rfl ?_
  refine z_iload_n X dX4_copy_13 rfl 4 rfl ?_
  refine z_callV X (c_X4_sheetAt_in l g a (nI 0) tr 1 (by omega)) gX4_copy_X4_sheetAt rfl ⟨rfl, rfl⟩ (by decide +kernel) ⟨Nat.le_of_ble_eq_true rfl, Nat.le_of_ble_eq_true rfl⟩ ZF.room (ci := 3) rfl 0 rfl (isC := [0, 1]) (by decide) rfl rfl (ws' := (wO g a (nI 0) tr ++ (wH g a ++ (wS g (a 13) (a 14) (lnF 0) (leF 0) (ceF 0) ++ (wS g (a 15) (a 16) (lnF 1) (leF 1) (ceF 1)))))) rfl (As := [.int (nI 1)]) (n := 1) rfl rfl (st1 := [.ref (a 15)]) rfl (Nat.le_of_ble_eq_true rfl) dX4_copy_14 ?_
  refine z_astore (L' := [(7, .ref (a 15)), (6, .ref (a 13)), (0, .ref (a 0)), (1, .int (nI 0)), (2, .int i), (3, .int (nI 1)), (4, .int j), (5, .int n)]) X dX4_copy_17 (by decide) rfl ?_
  refine z_aload X dX4_copy_19 1 rfl ?_
  refine z_ifnull X dX4_copy_21 ?_
  refine z_aload X dX4_copy_24 0 rfl ?_
  refine z_ifnonnull (tgt := 31) X dX4_copy_26 (by decide) ?_
  refine z_aload X dX4_copy_31 1 rfl ?_
  refine z_callV X (c_X2_hasRow l g (a 13) (a 14) (lnF 0) (leF 0) (ceF 0)) gX4_copy_X2_hasRow rfl ⟨rfl, rfl⟩ (by decide +kernel) ⟨Nat.le_of_ble_eq_true rfl, Nat.le_of_ble_eq_true rfl⟩ ZF.room (ci := 2) rfl 2 rfl (isC := [2, 3]) (by decide) rfl rfl (ws' := (wO g a (nI 0) tr ++ (wH g a ++ (wS g (a 13) (a 14) (lnF 0) (leF 0) (ceF 0) ++ (wS g (a 15) (a 16) (lnF 1) (leF 1) (ceF 1)))))) rfl (As := []) (n := 0) rfl rfl (st1 := [.int (bI (!decide ((leF 0) = (-1))))]) rfl (Nat.le_of_ble_eq_true rfl) dX4_copy_33 ?_
  refine z_if_eqB (tgt := 47) X dX4_copy_36 (by decide) (fun hq1 => ?_) (fun hq1 => ?_)
  ·
    have hq2 : (decide ((leF 0) = (-1))) = true := by simpa using hq1
    have hq3 : ((leF 0) = (-1)) := of_decide_eq_true hq2
    refine z_aload_n X dX4_copy_47 rfl 2 rfl ?_
    refine z_iconst (v := nI 1) X dX4_copy_48 (by decide) ?_
    refine z_callV X (c_X4_faulted l g a (nI 0) tr (nI 1)) gX4_copy_X4_faulted rfl ⟨rfl, rfl⟩ (by decide +kernel) ⟨Nat.le_of_ble_eq_true rfl, Nat.le_of_ble_eq_true rfl⟩ ZF.room (ci := 3) rfl 0 rfl (isC := [0]) (by decide) rfl rfl (ws' := (wO g a (nI 1) tr ++ (wH g a ++ (wS g (a 13) (a 14) (lnF 0) (leF 0) (ceF 0) ++ (wS g (a 15) (a 16) (lnF 1) (leF 1) (ceF 1)))))) rfl (As := [.int (nI 1)]) (n := 1) rfl rfl (st1 := [.int ((-10) - (nI 1))]) rfl (Nat.le_of_ble_eq_true rfl) dX4_copy_49 ?_
    have e4 : (cof (lnF 0) (leF 0) (lnF 1) (leF 1) i j n) = (nI 1) := by first | (simp [cor, cof, cok, hq3]; done) | (simp [cor, cof, cok, hq3]; decide)
    have e5 : (if cok (lnF 0) (leF 0) (lnF 1) (leF 1) i j n then va_cpy (ceF 0) (ceF 1) (tn i) (tn j) (tn n) else ceF 1) = (ceF 1) := by first | (simp [cor, cof, cok, hq3]; done) | (simp [cor, cof, cok, hq3]; decide)
    exact z_iret X ZF dX4_copy_52 (by first | (simp [cor, cof, cok, hq3]; done) | (simp [cor, cof, cok, hq3]; decide)) (by first | rw [e5, e4] | (simp only [e5, e4]))
  ·
    have hq6 : (decide ((leF 0) = (-1))) = false := by simpa using hq1
    have hq7 : ¬ ((leF 0) = (-1)) := of_decide_eq_false hq6
    refine z_aload X dX4_copy_39 0 rfl ?_
    refine z_callV X (c_X2_hasRow l g (a 15) (a 16) (lnF 1) (leF 1) (ceF 1)) gX4_copy_X2_hasRow rfl ⟨rfl, rfl⟩ (by decide +kernel) ⟨Nat.le_of_ble_eq_true rfl, Nat.le_of_ble_eq_true rfl⟩ ZF.room (ci := 2) rfl 4 rfl (isC := [4, 5]) (by decide) rfl rfl (ws' := (wO g a (nI 0) tr ++ (wH g a ++ (wS g (a 13) (a 14) (lnF 0) (leF 0) (ceF 0) ++ (wS g (a 15) (a 16) (lnF 1) (leF 1) (ceF 1)))))) rfl (As := []) (n := 0) rfl rfl (st1 := [.int (bI (!decide ((leF 1) = (-1))))]) rfl (Nat.le_of_ble_eq_true rfl) dX4_copy_41 ?_
    refine z_if_neB (tgt := 53) X dX4_copy_44 (by decide) (fun hq8 => ?_) (fun hq8 => ?_)
    ·
      have hq9 : (decide ((leF 1) = (-1))) = false := by simpa using hq8
      have hq10 : ¬ ((leF 1) = (-1)) := of_decide_eq_false hq9
      refine z_aload X dX4_copy_53 1 rfl ?_
      refine z_callV X (c_X2_rowLane l g (a 13) (a 14) (lnF 0) (leF 0) (ceF 0)) gX4_copy_X2_rowLane rfl ⟨rfl, rfl⟩ (by decide +kernel) ⟨Nat.le_of_ble_eq_true rfl, Nat.le_of_ble_eq_true rfl⟩ ZF.room (ci := 2) rfl 2 rfl (isC := [2, 3]) (by decide) rfl rfl (ws' := (wO g a (nI 0) tr ++ (wH g a ++ (wS g (a 13) (a 14) (lnF 0) (leF 0) (ceF 0) ++ (wS g (a 15) (a 16) (lnF 1) (leF 1) (ceF 1)))))) rfl (As := []) (n := 0) rfl rfl (st1 := [.int (lnF 0)]) rfl (Nat.le_of_ble_eq_true rfl) dX4_copy_55 ?_
      refine z_aload X dX4_copy_58 0 rfl ?_
      refine z_callV X (c_X2_rowLane l g (a 15) (a 16) (lnF 1) (leF 1) (ceF 1)) gX4_copy_X2_rowLane rfl ⟨rfl, rfl⟩ (by decide +kernel) ⟨Nat.le_of_ble_eq_true rfl, Nat.le_of_ble_eq_true rfl⟩ ZF.room (ci := 2) rfl 4 rfl (isC := [4, 5]) (by decide) rfl rfl (ws' := (wO g a (nI 0) tr ++ (wH g a ++ (wS g (a 13) (a 14) (lnF 0) (leF 0) (ceF 0) ++ (wS g (a 15) (a 16) (lnF 1) (leF 1) (ceF 1)))))) rfl (As := []) (n := 0) rfl rfl (st1 := [.int (lnF 1), .int (lnF 0)]) rfl (Nat.le_of_ble_eq_true rfl) dX4_copy_60 ?_
      refine z_icmp_eq (tgt := 72) X dX4_copy_63 (by decide) (fun hq11 => ?_) (fun hq11 => ?_)
      ·
        refine z_aload X dX4_copy_72 1 rfl ?_
        refine z_iload_n X dX4_copy_74 rfl 4 rfl ?_
        refine z_iload X dX4_copy_75 7 rfl ?_
        refine z_callV X (c_X2_hasCells l g (a 13) (a 14) (lnF 0) (leF 0) (ceF 0) i n) gX4_copy_X2_hasCells rfl ⟨rfl, rfl⟩ (by decide +kernel) ⟨Nat.le_of_ble_eq_true rfl, Nat.le_of_ble_eq_true rfl⟩ ZF.room (ci := 2) rfl 2 rfl (isC := [2, 3]) (by decide) rfl rfl (ws' := (wO g a (nI 0) tr ++ (wH g a ++ (wS g (a 13) (a 14) (lnF 0) (leF 0) (ceF 0) ++ (wS g (a 15) (a 16) (lnF 1) (leF 1) (ceF 1)))))) rfl (As := [.int i, .int n]) (n := 2) rfl rfl (st1 := [.int (bI (hcl (leF 0) i n))]) rfl (Nat.le_of_ble_eq_true rfl) dX4_copy_77 ?_
        refine z_if_eqB (tgt := 95) X dX4_copy_80 (by decide) (fun hq12 => ?_) (fun hq12 => ?_)
        ·
          refine z_aload_n X dX4_copy_95 rfl 2 rfl ?_
          refine z_iconst (v := nI 3) X dX4_copy_96 (by decide) ?_
          refine z_callV X (c_X4_faulted l g a (nI 0) tr (nI 3)) gX4_copy_X4_faulted rfl ⟨rfl, rfl⟩ (by decide +kernel) ⟨Nat.le_of_ble_eq_true rfl, Nat.le_of_ble_eq_true rfl⟩ ZF.room (ci := 3) rfl 0 rfl (isC := [0]) (by decide) rfl rfl (ws' := (wO g a (nI 3) tr ++ (wH g a ++ (wS g (a 13) (a 14) (lnF 0) (leF 0) (ceF 0) ++ (wS g (a 15) (a 16) (lnF 1) (leF 1) (ceF 1)))))) rfl (As := [.int (nI 3)]) (n := 1) rfl rfl (st1 := [.int ((-10) - (nI 3))]) rfl (Nat.le_of_ble_eq_true rfl) dX4_copy_97 ?_
          have e13 : (cof (lnF 0) (leF 0) (lnF 1) (leF 1) i j n) = (nI 3) := by first | (simp [cor, cof, cok, hq7, hq10, hq11, hq12]; done) | (simp [cor, cof, cok, hq7, hq10, hq11, hq12]; decide)
          have e14 : (if cok (lnF 0) (leF 0) (lnF 1) (leF 1) i j n then va_cpy (ceF 0) (ceF 1) (tn i) (tn j) (tn n) else ceF 1) = (ceF 1) := by first | (simp [cor, cof, cok, hq7, hq10, hq11, hq12]; done) | (simp [cor, cof, cok, hq7, hq10, hq11, hq12]; decide)
          exact z_iret X ZF dX4_copy_100 (by first | (simp [cor, cof, cok, hq7, hq10, hq11, hq12]; done) | (simp [cor, cof, cok, hq7, hq10, hq11, hq12]; decide)) (by first | rw [e14, e13] | (simp only [e14, e13]))
        ·
          refine z_aload X dX4_copy_83 0 rfl ?_
          refine z_iload X dX4_copy_85 6 rfl ?_
          refine z_iload X dX4_copy_87 7 rfl ?_
          refine z_callV X (c_X2_hasCells l g (a 15) (a 16) (lnF 1) (leF 1) (ceF 1) j n) gX4_copy_X2_hasCells rfl ⟨rfl, rfl⟩ (by decide +kernel) ⟨Nat.le_of_ble_eq_true rfl, Nat.le_of_ble_eq_true rfl⟩ ZF.room (ci := 2) rfl 4 rfl (isC := [4, 5]) (by decide) rfl rfl (ws' := (wO g a (nI 0) tr ++ (wH g a ++ (wS g (a 13) (a 14) (lnF 0) (leF 0) (ceF 0) ++ (wS g (a 15) (a 16) (lnF 1) (leF 1) (ceF 1)))))) rfl (As := [.int j, .int n]) (n := 2) rfl rfl (st1 := [.int (bI (hcl (leF 1) j n))]) rfl (Nat.le_of_ble_eq_true rfl) dX4_copy_89 ?_
          refine z_if_neB (tgt := 101) X dX4_copy_92 (by decide) (fun hq15 => ?_) (fun hq15 => ?_)
          ·
            obtain ⟨i_a, n_a, ei_a, en_a, m_a, hm_a, him_a, hin_a⟩ := hcl_t hle hq12
            subst ei_a; subst en_a
            obtain ⟨j_a, ej_a, m_b, hm_b, hmb_b, hjn_b⟩ := hcl_t2 (by omega) hle2 hq15
            subst ej_a
            have hti_a : tn (nI i_a) = i_a := nI_clamp (by omega)
            have htn_a : tn (nI n_a) = n_a := nI_clamp (by omega)
            have htj_a : tn (nI j_a) = j_a := nI_clamp (by omega)
            refine z_aload X dX4_copy_101 1 rfl ?_
            refine z_iload_n X dX4_copy_103 rfl 4 rfl ?_
            refine z_aload X dX4_copy_104 0 rfl ?_
            refine z_iload X dX4_copy_106 6 rfl ?_
            refine z_iload X dX4_copy_108 7 rfl ?_
            refine z_callV X (c_X2_copyTo_two l g (a 13) (a 14) (a 15) (a 16) (lnF 0) (leF 0) (ceF 0) (lnF 1) (leF 1) (ceF 1) i_a j_a n_a (by omega) (by omega) (by first | assumption | omega) (by first | assumption | omega)) gX4_copy_X2_copyTo rfl ⟨rfl, rfl⟩ (by decide +kernel) ⟨Nat.le_of_ble_eq_true rfl, Nat.le_of_ble_eq_true rfl⟩ ZF.room (ci := 2) rfl 2 rfl (isC := [2, 3, 4, 5]) (by decide) rfl rfl (ws' := (wO g a (nI 0) tr ++ (wH g a ++ (wS g (a 13) (a 14) (lnF 0) (leF 0) (ceF 0) ++ (wS g (a 15) (a 16) (lnF 1) (leF 1) (va_cpy (ceF 0) (ceF 1) i_a j_a n_a)))))) rfl (As := [.int (nI i_a), .ref (a 15), .int (nI j_a), .int (nI n_a)]) (n := 4) rfl rfl (st1 := []) rfl (Nat.le_of_ble_eq_true rfl) dX4_copy_110 ?_
            refine z_iload X dX4_copy_113 7 rfl ?_
            have e16 : (cof (lnF 0) (leF 0) (lnF 1) (leF 1) (nI i_a) (nI j_a) (nI n_a)) = (nI 0) := by first | (simp [cor, cof, cok, hq7, hq10, hq11, hq12, hti_a, htn_a, htj_a, hq15]; done) | (simp [cor, cof, cok, hq7, hq10, hq11, hq12, hti_a, htn_a, htj_a, hq15]; decide)
            have e17 : (if cok (lnF 0) (leF 0) (lnF 1) (leF 1) (nI i_a) (nI j_a) (nI n_a) then va_cpy (ceF 0) (ceF 1) (tn (nI i_a)) (tn (nI j_a)) (tn (nI n_a)) else ceF 1) = (va_cpy (ceF 0) (ceF 1) i_a j_a n_a) := by first | (simp [cor, cof, cok, hq7, hq10, hq11, hq12, hti_a, htn_a, htj_a, hq15]; done) | (simp [cor, cof, cok, hq7, hq10, hq11, hq12, hti_a, htn_a, htj_a, hq15]; decide)
            exact z_iret X ZF dX4_copy_115 (by first | (simp [cor, cof, cok, hq7, hq10, hq11, hq12, hti_a, htn_a, htj_a, hq15]; done) | (simp [cor, cof, cok, hq7, hq10, hq11, hq12, hti_a, htn_a, htj_a, hq15]; decide)) (by first | rw [e17, e16] | (simp only [e17, e16]))
          ·
            refine z_aload_n X dX4_copy_95 rfl 2 rfl ?_
            refine z_iconst (v := nI 3) X dX4_copy_96 (by decide) ?_
            refine z_callV X (c_X4_faulted l g a (nI 0) tr (nI 3)) gX4_copy_X4_faulted rfl ⟨rfl, rfl⟩ (by decide +kernel) ⟨Nat.le_of_ble_eq_true rfl, Nat.le_of_ble_eq_true rfl⟩ ZF.room (ci := 3) rfl 0 rfl (isC := [0]) (by decide) rfl rfl (ws' := (wO g a (nI 3) tr ++ (wH g a ++ (wS g (a 13) (a 14) (lnF 0) (leF 0) (ceF 0) ++ (wS g (a 15) (a 16) (lnF 1) (leF 1) (ceF 1)))))) rfl (As := [.int (nI 3)]) (n := 1) rfl rfl (st1 := [.int ((-10) - (nI 3))]) rfl (Nat.le_of_ble_eq_true rfl) dX4_copy_97 ?_
            have e18 : (cof (lnF 0) (leF 0) (lnF 1) (leF 1) i j n) = (nI 3) := by first | (simp [cor, cof, cok, hq7, hq10, hq11, hq12, hq15]; done) | (simp [cor, cof, cok, hq7, hq10, hq11, hq12, hq15]; decide)
            have e19 : (if cok (lnF 0) (leF 0) (lnF 1) (leF 1) i j n then va_cpy (ceF 0) (ceF 1) (tn i) (tn j) (tn n) else ceF 1) = (ceF 1) := by first | (simp [cor, cof, cok, hq7, hq10, hq11, hq12, hq15]; done) | (simp [cor, cof, cok, hq7, hq10, hq11, hq12, hq15]; decide)
            exact z_iret X ZF dX4_copy_100 (by first | (simp [cor, cof, cok, hq7, hq10, hq11, hq12, hq15]; done) | (simp [cor, cof, cok, hq7, hq10, hq11, hq12, hq15]; decide)) (by first | rw [e19, e18] | (simp only [e19, e18]))
      ·
        refine z_aload_n X dX4_copy_66 rfl 2 rfl ?_
        refine z_iconst (v := nI 2) X dX4_copy_67 (by decide) ?_
        refine z_callV X (c_X4_faulted l g a (nI 0) tr (nI 2)) gX4_copy_X4_faulted rfl ⟨rfl, rfl⟩ (by decide +kernel) ⟨Nat.le_of_ble_eq_true rfl, Nat.le_of_ble_eq_true rfl⟩ ZF.room (ci := 3) rfl 0 rfl (isC := [0]) (by decide) rfl rfl (ws' := (wO g a (nI 2) tr ++ (wH g a ++ (wS g (a 13) (a 14) (lnF 0) (leF 0) (ceF 0) ++ (wS g (a 15) (a 16) (lnF 1) (leF 1) (ceF 1)))))) rfl (As := [.int (nI 2)]) (n := 1) rfl rfl (st1 := [.int ((-10) - (nI 2))]) rfl (Nat.le_of_ble_eq_true rfl) dX4_copy_68 ?_
        have e20 : (cof (lnF 0) (leF 0) (lnF 1) (leF 1) i j n) = (nI 2) := by first | (simp [cor, cof, cok, hq7, hq10, hq11]; done) | (simp [cor, cof, cok, hq7, hq10, hq11]; decide)
        have e21 : (if cok (lnF 0) (leF 0) (lnF 1) (leF 1) i j n then va_cpy (ceF 0) (ceF 1) (tn i) (tn j) (tn n) else ceF 1) = (ceF 1) := by first | (simp [cor, cof, cok, hq7, hq10, hq11]; done) | (simp [cor, cof, cok, hq7, hq10, hq11]; decide)
        exact z_iret X ZF dX4_copy_71 (by first | (simp [cor, cof, cok, hq7, hq10, hq11]; done) | (simp [cor, cof, cok, hq7, hq10, hq11]; decide)) (by first | rw [e21, e20] | (simp only [e21, e20]))
    ·
      have hq22 : (decide ((leF 1) = (-1))) = true := by simpa using hq8
      have hq23 : ((leF 1) = (-1)) := of_decide_eq_true hq22
      refine z_aload_n X dX4_copy_47 rfl 2 rfl ?_
      refine z_iconst (v := nI 1) X dX4_copy_48 (by decide) ?_
      refine z_callV X (c_X4_faulted l g a (nI 0) tr (nI 1)) gX4_copy_X4_faulted rfl ⟨rfl, rfl⟩ (by decide +kernel) ⟨Nat.le_of_ble_eq_true rfl, Nat.le_of_ble_eq_true rfl⟩ ZF.room (ci := 3) rfl 0 rfl (isC := [0]) (by decide) rfl rfl (ws' := (wO g a (nI 1) tr ++ (wH g a ++ (wS g (a 13) (a 14) (lnF 0) (leF 0) (ceF 0) ++ (wS g (a 15) (a 16) (lnF 1) (leF 1) (ceF 1)))))) rfl (As := [.int (nI 1)]) (n := 1) rfl rfl (st1 := [.int ((-10) - (nI 1))]) rfl (Nat.le_of_ble_eq_true rfl) dX4_copy_49 ?_
      have e24 : (cof (lnF 0) (leF 0) (lnF 1) (leF 1) i j n) = (nI 1) := by first | (simp [cor, cof, cok, hq7, hq23]; done) | (simp [cor, cof, cok, hq7, hq23]; decide)
      have e25 : (if cok (lnF 0) (leF 0) (lnF 1) (leF 1) i j n then va_cpy (ceF 0) (ceF 1) (tn i) (tn j) (tn n) else ceF 1) = (ceF 1) := by first | (simp [cor, cof, cok, hq7, hq23]; done) | (simp [cor, cof, cok, hq7, hq23]; decide)
      exact z_iret X ZF dX4_copy_52 (by first | (simp [cor, cof, cok, hq7, hq23]; done) | (simp [cor, cof, cok, hq7, hq23]; decide)) (by first | rw [e25, e24] | (simp only [e25, e24]))
abbrev rX4_copy_02 : Room := { frames := 2, cells := 0, slots := 0, locals := 46 }
set_option maxHeartbeats 4000000 in
set_option maxRecDepth 100000 in
theorem c_X4_copy_02 (l : Launch) (g : zg) (a : Nat → Nat) (ft : Int32) (tr : Int32) (lnF : Nat → Int32) (leF : Nat → Int32) (ceF : Nat → Nat → Int32) (i : Int32) (j : Int32) (n : Int32) (hle : vle (leF 0)) (hle2 : vle (leF 2)) : zM l g yX4_copy wsX4_copy rX4_copy_02 [.ref (a 0), .int (nI 0), .int i, .int (nI 2), .int j, .int n] (wO g a ft tr ++ (wH g a ++ (wS g (a 13) (a 14) (lnF 0) (leF 0) (ceF 0) ++ (wS g (a 17) (a 18) (lnF 2) (leF 2) (ceF 2))))) (some (.int (cor (lnF 0) (leF 0) (lnF 2) (leF 2) i j n))) (wO g a (cof (lnF 0) (leF 0) (lnF 2) (leF 2) i j n) tr ++ (wH g a ++ (wS g (a 13) (a 14) (lnF 0) (leF 0) (ceF 0) ++ (wS g (a 17) (a 18) (lnF 2) (leF 2) (if cok (lnF 0) (leF 0) (lnF 2) (leF 2) i j n then va_cpy (ceF 0) (ceF 2) (tn i) (tn j) (tn n) else ceF 2))))) := by
  refine z_met (own := RX4) (cc := cX4_copy) (maxL := 8) (ret := some .int) (by decide +kernel) rfl rfl (Nat.le_of_ble_eq_true rfl) ?_
  intro M X ZF
  refine z_Le (L' := [(0, .ref (a 0)), (1, .int (nI 0)), (2, .int i), (3, .int (nI 2)), (4, .int j), (5, .int n)]) rfl ?_
  have i_RX4 : ∀ w ∈ wsX40, w ∈ wsX4_copy := by decide +kernel
  have f_32 : Cond.fieldLink RX4 32 (TX4 3).1 (TX4 3).2.1 (TX4 3).2.2.1 ∈ wsX4_copy := by decide +kernel
  refine z_aload_n X dX4_copy_0 rfl 0 rfl ?_
  refine z_iconst (v := nI 0) X dX4_copy_1 (by decide) ?_
  refine z_put (ws' := (wO g a (nI 0) tr ++ (wH g a ++ (wS g (a 13) (a 14) (lnF 0) (leF 0) (ceF 0) ++ (wS g (a 17) (a 18) (lnF 2) (leF 2) (ceF 2)))))) (N := 5) X i_RX4 (ci := 3) rfl tyX4 tyX4_ok nmX4 0 rfl 3 (by decide) f_32 rfl (ty := .int) (by decide +kernel) rfl rfl (Nat.le_of_ble_eq_true rfl) dX4_copy_2 rfl ?_
  refine z_aload_n X dX4_copy_5 rfl 0 rfl ?_
  refine z_iload_n X dX4_copy_6 rfl 1 rfl ?_
  refine z_callV X (c_X4_sheetAt_in l g a (nI 0) tr 0 (by omega)) gX4_copy_X4_sheetAt rfl ⟨rfl, rfl⟩ (by decide +kernel) ⟨Nat.le_of_ble_eq_true rfl, Nat.le_of_ble_eq_true rfl⟩ ZF.room (ci := 3) rfl 0 rfl (isC := [0, 1]) (by decide) rfl rfl (ws' := (wO g a (nI 0) tr ++ (wH g a ++ (wS g (a 13) (a 14) (lnF 0) (leF 0) (ceF 0) ++ (wS g (a 17) (a 18) (lnF 2) (leF 2) (ceF 2)))))) rfl (As := [.int (nI 0)]) (n := 1) rfl rfl (st1 := [.ref (a 13)]) rfl (Nat.le_of_ble_eq_true rfl) dX4_copy_7 ?_
  refine z_astore (L' := [(6, .ref (a 13)), (0, .ref (a 0)), (1, .int (nI 0)), (2, .int i), (3, .int (nI 2)), (4, .int j), (5, .int n)]) X dX4_copy_10 (by decide) rfl ?_
  refine z_aload_n X dX4_copy_12 rfl 1 rfl ?_
  refine z_iload_n X dX4_copy_13 rfl 4 rfl ?_
  refine z_callV X (c_X4_sheetAt_in l g a (nI 0) tr 2 (by omega)) gX4_copy_X4_sheetAt rfl ⟨rfl, rfl⟩ (by decide +kernel) ⟨Nat.le_of_ble_eq_true rfl, Nat.le_of_ble_eq_true rfl⟩ ZF.room (ci := 3) rfl 0 rfl (isC := [0, 1]) (by decide) rfl rfl (ws' := (wO g a (nI 0) tr ++ (wH g a ++ (wS g (a 13) (a 14) (lnF 0) (leF 0) (ceF 0) ++ (wS g (a 17) (a 18) (lnF 2) (leF 2) (ceF 2)))))) rfl (As := [.int (nI 2)]) (n := 1) rfl rfl (st1 := [.ref (a 17)]) rfl (Nat.le_of_ble_eq_true rfl) dX4_copy_14 ?_
  refine z_astore (L' := [(7, .ref (a 17)), (6, .ref (a 13)), (0, .ref (a 0)), (1, .int (nI 0)), (2, .int i), (3, .int (nI 2)), (4, .int j), (5, .int n)]) X dX4_copy_17 (by decide) rfl ?_
  refine z_aload X dX4_copy_19 1 rfl ?_
  refine z_ifnull X dX4_copy_21 ?_
  refine z_aload X dX4_copy_24 0 rfl ?_
  refine z_ifnonnull (tgt := 31) X dX4_copy_26 (by decide) ?_
  refine z_aload X dX4_copy_31 1 rfl ?_
  refine z_callV X (c_X2_hasRow l g (a 13) (a 14) (lnF 0) (leF 0) (ceF 0)) gX4_copy_X2_hasRow rfl ⟨rfl, rfl⟩ (by decide +kernel) ⟨Nat.le_of_ble_eq_true rfl, Nat.le_of_ble_eq_true rfl⟩ ZF.room (ci := 2) rfl 2 rfl (isC := [2, 3]) (by decide) rfl rfl (ws' := (wO g a (nI 0) tr ++ (wH g a ++ (wS g (a 13) (a 14) (lnF 0) (leF 0) (ceF 0) ++ (wS g (a 17) (a 18) (lnF 2) (leF 2) (ceF 2)))))) rfl (As := []) (n := 0) rfl rfl (st1 := [.int (bI (!decide ((leF 0) = (-1))))]) rfl (Nat.le_of_ble_eq_true rfl) dX4_copy_33 ?_
  refine z_if_eqB (tgt := 47) X dX4_copy_36 (by decide) (fun hq1 => ?_) (fun hq1 => ?_)
  ·
    have hq2 : (decide ((leF 0) = (-1))) = true := by simpa using hq1
    have hq3 : ((leF 0) = (-1)) := of_decide_eq_true hq2
    refine z_aload_n X dX4_copy_47 rfl 2 rfl ?_
    refine z_iconst (v := nI 1) X dX4_copy_48 (by decide) ?_
    refine z_callV X (c_X4_faulted l g a (nI 0) tr (nI 1)) gX4_copy_X4_faulted rfl ⟨rfl, rfl⟩ (by decide +kernel) ⟨Nat.le_of_ble_eq_true rfl, Nat.le_of_ble_eq_true rfl⟩ ZF.room (ci := 3) rfl 0 rfl (isC := [0]) (by decide) rfl rfl (ws' := (wO g a (nI 1) tr ++ (wH g a ++ (wS g (a 13) (a 14) (lnF 0) (leF 0) (ceF 0) ++ (wS g (a 17) (a 18) (lnF 2) (leF 2) (ceF 2)))))) rfl (As := [.int (nI 1)]) (n := 1) rfl rfl (st1 := [.int ((-10) - (nI 1))]) rfl (Nat.le_of_ble_eq_true rfl) dX4_copy_49 ?_
    have e4 : (cof (lnF 0) (leF 0) (lnF 2) (leF 2) i j n) = (nI 1) := by first | (simp [cor, cof, cok, hq3]; done) | (simp [cor, cof, cok, hq3]; decide)
    have e5 : (if cok (lnF 0) (leF 0) (lnF 2) (leF 2) i j n then va_cpy (ceF 0) (ceF 2) (tn i) (tn j) (tn n) else ceF 2) = (ceF 2) := by first | (simp [cor, cof, cok, hq3]; done) | (simp [cor, cof, cok, hq3]; decide)
    exact z_iret X ZF dX4_copy_52 (by first | (simp [cor, cof, cok, hq3]; done) | (simp [cor, cof, cok, hq3]; decide)) (by first | rw [e5, e4] | (simp only [e5, e4]))
  ·
    have hq6 : (decide ((leF 0) = (-1))) = false := by simpa using hq1
    have hq7 : ¬ ((leF 0) = (-1)) := of_decide_eq_false hq6
    refine z_aload X dX4_copy_39 0 rfl ?_
    refine z_callV X (c_X2_hasRow l g (a 17) (a 18) (lnF 2) (leF 2) (ceF 2)) gX4_copy_X2_hasRow rfl ⟨rfl, rfl⟩ (by decide +kernel) ⟨Nat.le_of_ble_eq_true rfl, Nat.le_of_ble_eq_true rfl⟩ ZF.room (ci := 2) rfl 4 rfl (isC := [4, 5]) (by decide) rfl rfl (ws' := (wO g a (nI 0) tr ++ (wH g a ++ (wS g (a 13) (a 14) (lnF 0) (leF 0) (ceF 0) ++ (wS g (a 17) (a 18) (lnF 2) (leF 2) (ceF 2)))))) rfl (As := []) (n := 0) rfl rfl (st1 := [.int (bI (!decide ((leF 2) = (-1))))]) rfl (Nat.le_of_ble_eq_true rfl) dX4_copy_41 ?_
    refine z_if_neB (tgt := 53) X dX4_copy_44 (by decide) (fun hq8 => ?_) (fun hq8 => ?_)
    ·
      have hq9 : (decide ((leF 2) = (-1))) = false := by simpa using hq8
      have hq10 : ¬ ((leF 2) = (-1)) := of_decide_eq_false hq9
      refine z_aload X dX4_copy_53 1 rfl ?_
      refine z_callV X (c_X2_rowLane l g (a 13) (a 14) (lnF 0) (leF 0) (ceF 0)) gX4_copy_X2_rowLane rfl ⟨rfl, rfl⟩ (by decide +kernel) ⟨Nat.le_of_ble_eq_true rfl, Nat.le_of_ble_eq_true rfl⟩ ZF.room (ci := 2) rfl 2 rfl (isC := [2, 3]) (by decide) rfl rfl (ws' := (wO g a (nI 0) tr ++ (wH g a ++ (wS g (a 13) (a 14) (lnF 0) (leF 0) (ceF 0) ++ (wS g (a 17) (a 18) (lnF 2) (leF 2) (ceF 2)))))) rfl (As := []) (n := 0) rfl rfl (st1 := [.int (lnF 0)]) rfl (Nat.le_of_ble_eq_true rfl) dX4_copy_55 ?_
      refine z_aload X dX4_copy_58 0 rfl ?_
      refine z_callV X (c_X2_rowLane l g (a 17) (a 18) (lnF 2) (leF 2) (ceF 2)) gX4_copy_X2_rowLane rfl ⟨rfl, rfl⟩ (by decide +kernel) ⟨Nat.le_of_ble_eq_true rfl, Nat.le_of_ble_eq_true rfl⟩ ZF.room (ci := 2) rfl 4 rfl (isC := [4, 5]) (by decide) rfl rfl (ws' := (wO g a (nI 0) tr ++ (wH g a ++ (wS g (a 13) (a 14) (lnF 0) (leF 0) (ceF 0) ++ (wS g (a 17) (a 18) (lnF 2) (leF 2) (ceF 2)))))) rfl (As := []) (n := 0) rfl rfl (st1 := [.int (lnF 2), .int (lnF 0)]) rfl (Nat.le_of_ble_eq_true rfl) dX4_copy_60 ?_
      refine z_icmp_eq (tgt := 72) X dX4_copy_63 (by decide) (fun hq11 => ?_) (fun hq11 => ?_)
      ·
        refine z_aload X dX4_copy_72 1 rfl ?_
        refine z_iload_n X dX4_copy_74 rfl 4 rfl ?_
        refine z_iload X dX4_copy_75 7 rfl ?_
        refine z_callV X (c_X2_hasCells l g (a 13) (a 14) (lnF 0) (leF 0) (ceF 0) i n) gX4_copy_X2_hasCells rfl ⟨rfl, rfl⟩ (by decide +kernel) ⟨Nat.le_of_ble_eq_true rfl, Nat.le_of_ble_eq_true rfl⟩ ZF.room (ci := 2) rfl 2 rfl (isC := [2, 3]) (by decide) rfl rfl (ws' := (wO g a (nI 0) tr ++ (wH g a ++ (wS g (a 13) (a 14) (lnF 0) (leF 0) (ceF 0) ++ (wS g (a 17) (a 18) (lnF 2) (leF 2) (ceF 2)))))) rfl (As := [.int i, .int n]) (n := 2) rfl rfl (st1 := [.int (bI (hcl (leF 0) i n))]) rfl (Nat.le_of_ble_eq_true rfl) dX4_copy_77 ?_
        refine z_if_eqB (tgt := 95) X dX4_copy_80 (by decide) (fun hq12 => ?_) (fun hq12 => ?_)
        ·
          refine z_aload_n X dX4_copy_95 rfl 2 rfl ?_
          refine z_iconst (v := nI 3) X dX4_copy_96 (by decide) ?_
          refine z_callV X (c_X4_faulted l g a (nI 0) tr (nI 3)) gX4_copy_X4_faulted rfl ⟨rfl, rfl⟩ (by decide +kernel) ⟨Nat.le_of_ble_eq_true rfl, Nat.le_of_ble_eq_true rfl⟩ ZF.room (ci := 3) rfl 0 rfl (isC := [0]) (by decide) rfl rfl (ws' := (wO g a (nI 3) tr ++ (wH g a ++ (wS g (a 13) (a 14) (lnF 0) (leF 0) (ceF 0) ++ (wS g (a 17) (a 18) (lnF 2) (leF 2) (ceF 2)))))) rfl (As := [.int (nI 3)]) (n := 1) rfl rfl (st1 := [.int ((-10) - (nI 3))]) rfl (Nat.le_of_ble_eq_true rfl) dX4_copy_97 ?_
          have e13 : (cof (lnF 0) (leF 0) (lnF 2) (leF 2) i j n) = (nI 3) := by first | (simp [cor, cof, cok, hq7, hq10, hq11, hq12]; done) | (simp [cor, cof, cok, hq7, hq10, hq11, hq12]; decide)
          have e14 : (if cok (lnF 0) (leF 0) (lnF 2) (leF 2) i j n then va_cpy (ceF 0) (ceF 2) (tn i) (tn j) (tn n) else ceF 2) = (ceF 2) := by first | (simp [cor, cof, cok, hq7, hq10, hq11, hq12]; done) | (simp [cor, cof, cok, hq7, hq10, hq11, hq12]; decide)
          exact z_iret X ZF dX4_copy_100 (by first | (simp [cor, cof, cok, hq7, hq10, hq11, hq12]; done) | (simp [cor, cof, cok, hq7, hq10, hq11, hq12]; decide)) (by first | rw [e14, e13] | (simp only [e14, e13]))
        ·
          refine z_aload X dX4_copy_83 0 rfl ?_
          refine z_iload X dX4_copy_85 6 rfl ?_
          refine z_iload X dX4_copy_87 7 rfl ?_
          refine z_callV X (c_X2_hasCells l g (a 17) (a 18) (lnF 2) (leF 2) (ceF 2) j n) gX4_copy_X2_hasCells rfl ⟨rfl, rfl⟩ (by decide +kernel) ⟨Nat.le_of_ble_eq_true rfl, Nat.le_of_ble_eq_true rfl⟩ ZF.room (ci := 2) rfl 4 rfl (isC := [4, 5]) (by decide) rfl rfl (ws' := (wO g a (nI 0) tr ++ (wH g a ++ (wS g (a 13) (a 14) (lnF 0) (leF 0) (ceF 0) ++ (wS g (a 17) (a 18) (lnF 2) (leF 2) (ceF 2)))))) rfl (As := [.int j, .int n]) (n := 2) rfl rfl (st1 := [.int (bI (hcl (leF 2) j n))]) rfl (Nat.le_of_ble_eq_true rfl) dX4_copy_89 ?_
          refine z_if_neB (tgt := 101) X dX4_copy_92 (by decide) (fun hq15 => ?_) (fun hq15 => ?_)
          ·
            obtain ⟨i_a, n_a, ei_a, en_a, m_a, hm_a, him_a, hin_a⟩ := hcl_t hle hq12
            subst ei_a; subst en_a
            obtain ⟨j_a, ej_a, m_b, hm_b, hmb_b, hjn_b⟩ := hcl_t2 (by omega) hle2 hq15
            subst ej_a
            have hti_a : tn (nI i_a) = i_a := nI_clamp (by omega)
            have htn_a : tn (nI n_a) = n_a := nI_clamp (by omega)
            have htj_a : tn (nI j_a) = j_a := nI_clamp (by omega)
            refine z_aload X dX4_copy_101 1 rfl ?_
            refine z_iload_n X dX4_copy_103 rfl 4 rfl ?_
            refine z_aload X dX4_copy_104 0 rfl ?_
            refine z_iload X dX4_copy_106 6 rfl ?_
            refine z_iload X dX4_copy_108 7 rfl ?_
            refine z_callV X (c_X2_copyTo_two l g (a 13) (a 14) (a 17) (a 18) (lnF 0) (leF 0) (ceF 0) (lnF 2) (leF 2) (ceF 2) i_a j_a n_a (by omega) (by omega) (by first | assumption | omega) (by first | assumption | omega)) gX4_copy_X2_copyTo rfl ⟨rfl, rfl⟩ (by decide +kernel) ⟨Nat.le_of_ble_eq_true rfl, Nat.le_of_ble_eq_true rfl⟩ ZF.room (ci := 2) rfl 2 rfl (isC := [2, 3, 4, 5]) (by decide) rfl rfl (ws' := (wO g a (nI 0) tr ++ (wH g a ++ (wS g (a 13) (a 14) (lnF 0) (leF 0) (ceF 0) ++ (wS g (a 17) (a 18) (lnF 2) (leF 2) (va_cpy (ceF 0) (ceF 2) i_a j_a n_a)))))) rfl (As := [.int (nI i_a), .ref (a 17), .int (nI j_a), .int (nI n_a)]) (n := 4) rfl rfl (st1 := []) rfl (Nat.le_of_ble_eq_true rfl) dX4_copy_110 ?_
            refine z_iload X dX4_copy_113 7 rfl ?_
            have e16 : (cof (lnF 0) (leF 0) (lnF 2) (leF 2) (nI i_a) (nI j_a) (nI n_a)) = (nI 0) := by first | (simp [cor, cof, cok, hq7, hq10, hq11, hq12, hti_a, htn_a, htj_a, hq15]; done) | (simp [cor, cof, cok, hq7, hq10, hq11, hq12, hti_a, htn_a, htj_a, hq15]; decide)
            have e17 : (if cok (lnF 0) (leF 0) (lnF 2) (leF 2) (nI i_a) (nI j_a) (nI n_a) then va_cpy (ceF 0) (ceF 2) (tn (nI i_a)) (tn (nI j_a)) (tn (nI n_a)) else ceF 2) = (va_cpy (ceF 0) (ceF 2) i_a j_a n_a) := by first | (simp [cor, cof, cok, hq7, hq10, hq11, hq12, hti_a, htn_a, htj_a, hq15]; done) | (simp [cor, cof, cok, hq7, hq10, hq11, hq12, hti_a, htn_a, htj_a, hq15]; decide)
            exact z_iret X ZF dX4_copy_115 (by first | (simp [cor, cof, cok, hq7, hq10, hq11, hq12, hti_a, htn_a, htj_a, hq15]; done) | (simp [cor, cof, cok, hq7, hq10, hq11, hq12, hti_a, htn_a, htj_a, hq15]; decide)) (by first | rw [e17, e16] | (simp only [e17, e16]))
          ·
            refine z_aload_n X dX4_copy_95 rfl 2 rfl ?_
            refine z_iconst (v := nI 3) X dX4_copy_96 (by decide) ?_
            refine z_callV X (c_X4_faulted l g a (nI 0) tr (nI 3)) gX4_copy_X4_faulted rfl ⟨rfl, rfl⟩ (by decide +kernel) ⟨Nat.le_of_ble_eq_true rfl, Nat.le_of_ble_eq_true rfl⟩ ZF.room (ci := 3) rfl 0 rfl (isC := [0]) (by decide) rfl rfl (ws' := (wO g a (nI 3) tr ++ (wH g a ++ (wS g (a 13) (a 14) (lnF 0) (leF 0) (ceF 0) ++ (wS g (a 17) (a 18) (lnF 2) (leF 2) (ceF 2)))))) rfl (As := [.int (nI 3)]) (n := 1) rfl rfl (st1 := [.int ((-10) - (nI 3))]) rfl (Nat.le_of_ble_eq_true rfl) dX4_copy_97 ?_
            have e18 : (cof (lnF 0) (leF 0) (lnF 2) (leF 2) i j n) = (nI 3) := by first | (simp [cor, cof, cok, hq7, hq10, hq11, hq12, hq15]; done) | (simp [cor, cof, cok, hq7, hq10, hq11, hq12, hq15]; decide)
            have e19 : (if cok (lnF 0) (leF 0) (lnF 2) (leF 2) i j n then va_cpy (ceF 0) (ceF 2) (tn i) (tn j) (tn n) else ceF 2) = (ceF 2) := by first | (simp [cor, cof, cok, hq7, hq10, hq11, hq12, hq15]; done) | (simp [cor, cof, cok, hq7, hq10, hq11, hq12, hq15]; decide)
            exact z_iret X ZF dX4_copy_100 (by first | (simp [cor, cof, cok, hq7, hq10, hq11, hq12, hq15]; done) | (simp [cor, cof, cok, hq7, hq10, hq11, hq12, hq15]; decide)) (by first | rw [e19, e18] | (simp only [e19, e18]))
      ·
        refine z_aload_n X dX4_copy_66 rfl 2 rfl ?_
        refine z_iconst (v := nI 2) X dX4_copy_67 (by decide) ?_
        refine z_callV X (c_X4_faulted l g a (nI 0) tr (nI 2)) gX4_copy_X4_faulted rfl ⟨rfl, rfl⟩ (by decide +kernel) ⟨Nat.le_of_ble_eq_true rfl, Nat.le_of_ble_eq_true rfl⟩ ZF.room (ci := 3) rfl 0 rfl (isC := [0]) (by decide) rfl rfl (ws' := (wO g a (nI 2) tr ++ (wH g a ++ (wS g (a 13) (a 14) (lnF 0) (leF 0) (ceF 0) ++ (wS g (a 17) (a 18) (lnF 2) (leF 2) (ceF 2)))))) rfl (As := [.int (nI 2)]) (n := 1) rfl rfl (st1 := [.int ((-10) - (nI 2))]) rfl (Nat.le_of_ble_eq_true rfl) dX4_copy_68 ?_
        have e20 : (cof (lnF 0) (leF 0) (lnF 2) (leF 2) i j n) = (nI 2) := by first | (simp [cor, cof, cok, hq7, hq10, hq11]; done) | (simp [cor, cof, cok, hq7, hq10, hq11]; decide)
        have e21 : (if cok (lnF 0) (leF 0) (lnF 2) (leF 2) i j n then va_cpy (ceF 0) (ceF 2) (tn i) (tn j) (tn n) else ceF 2) = (ceF 2) := by first | (simp [cor, cof, cok, hq7, hq10, hq11]; done) | (simp [cor, cof, cok, hq7, hq10, hq11]; decide)
        exact z_iret X ZF dX4_copy_71 (by first | (simp [cor, cof, cok, hq7, hq10, hq11]; done) | (simp [cor, cof, cok, hq7, hq10, hq11]; decide)) (by first | rw [e21, e20] | (simp only [e21, e20]))
    ·
      have hq22 : (decide ((leF 2) = (-1))) = true := by simpa using hq8
      have hq23 : ((leF 2) = (-1)) := of_decide_eq_true hq22
      refine z_aload_n X dX4_copy_47 rfl 2 rfl ?_
      refine z_iconst (v := nI 1) X dX4_copy_48 (by decide) ?_
      refine z_callV X (c_X4_faulted l g a (nI 0) tr (nI 1)) gX4_copy_X4_faulted rfl ⟨rfl, rfl⟩ (by decide +kernel) ⟨Nat.le_of_ble_eq_true rfl, Nat.le_of_ble_eq_true rfl⟩ ZF.room (ci := 3) rfl 0 rfl (isC := [0]) (by decide) rfl rfl (ws' := (wO g a (nI 1) tr ++ (wH g a ++ (wS g (a 13) (a 14) (lnF 0) (leF 0) (ceF 0) ++ (wS g (a 17) (a 18) (lnF 2) (leF 2) (ceF 2)))))) rfl (As := [.int (nI 1)]) (n := 1) rfl rfl (st1 := [.int ((-10) - (nI 1))]) rfl (Nat.le_of_ble_eq_true rfl) dX4_copy_49 ?_
      have e24 : (cof (lnF 0) (leF 0) (lnF 2) (leF 2) i j n) = (nI 1) := by first | (simp [cor, cof, cok, hq7, hq23]; done) | (simp [cor, cof, cok, hq7, hq23]; decide)
      have e25 : (if cok (lnF 0) (leF 0) (lnF 2) (leF 2) i j n then va_cpy (ceF 0) (ceF 2) (tn i) (tn j) (tn n) else ceF 2) = (ceF 2) := by first | (simp [cor, cof, cok, hq7, hq23]; done) | (simp [cor, cof, cok, hq7, hq23]; decide)
      exact z_iret X ZF dX4_copy_52 (by first | (simp [cor, cof, cok, hq7, hq23]; done) | (simp [cor, cof, cok, hq7, hq23]; decide)) (by first | rw [e25, e24] | (simp only [e25, e24]))
abbrev rX4_copy_03 : Room := { frames := 2, cells := 0, slots := 0, locals := 46 }
set_option maxHeartbeats 4000000 in
set_option maxRecDepth 100000 in
theorem c_X4_copy_03 (l : Launch) (g : zg) (a : Nat → Nat) (ft : Int32) (tr : Int32) (lnF : Nat → Int32) (leF : Nat → Int32) (ceF : Nat → Nat → Int32) (i : Int32) (j : Int32) (n : Int32) (hle : vle (leF 0)) (hle2 : vle (leF 3)) : zM l g yX4_copy wsX4_copy rX4_copy_03 [.ref (a 0), .int (nI 0), .int i, .int (nI 3), .int j, .int n] (wO g a ft tr ++ (wH g a ++ (wS g (a 13) (a 14) (lnF 0) (leF 0) (ceF 0) ++ (wS g (a 19) (a 20) (lnF 3) (leF 3) (ceF 3))))) (some (.int (cor (lnF 0) (leF 0) (lnF 3) (leF 3) i j n))) (wO g a (cof (lnF 0) (leF 0) (lnF 3) (leF 3) i j n) tr ++ (wH g a ++ (wS g (a 13) (a 14) (lnF 0) (leF 0) (ceF 0) ++ (wS g (a 19) (a 20) (lnF 3) (leF 3) (if cok (lnF 0) (leF 0) (lnF 3) (leF 3) i j n then va_cpy (ceF 0) (ceF 3) (tn i) (tn j) (tn n) else ceF 3))))) := by
  refine z_met (own := RX4) (cc := cX4_copy) (maxL := 8) (ret := some .int) (by decide +kernel) rfl rfl (Nat.le_of_ble_eq_true rfl) ?_
  intro M X ZF
  refine z_Le (L' := [(0, .ref (a 0)), (1, .int (nI 0)), (2, .int i), (3, .int (nI 3)), (4, .int j), (5, .int n)]) rfl ?_
  have i_RX4 : ∀ w ∈ wsX40, w ∈ wsX4_copy := by decide +kernel
  have f_32 : Cond.fieldLink RX4 32 (TX4 3).1 (TX4 3).2.1 (TX4 3).2.2.1 ∈ wsX4_copy := by decide +kernel
  refine z_aload_n X dX4_copy_0 rfl 0 rfl ?_
  refine z_iconst (v := nI 0) X dX4_copy_1 (by decide) ?_
  refine z_put (ws' := (wO g a (nI 0) tr ++ (wH g a ++ (wS g (a 13) (a 14) (lnF 0) (leF 0) (ceF 0) ++ (wS g (a 19) (a 20) (lnF 3) (leF 3) (ceF 3)))))) (N := 5) X i_RX4 (ci := 3) rfl tyX4 tyX4_ok nmX4 0 rfl 3 (by decide) f_32 rfl (ty := .int) (by decide +kernel) rfl rfl (Nat.le_of_ble_eq_true rfl) dX4_copy_2 rfl ?_
  refine z_aload_n X dX4_copy_5 rfl 0 rfl ?_
  refine z_iload_n X dX4_copy_6 rfl 1 rfl ?_
  refine z_callV X (c_X4_sheetAt_in l g a (nI 0) tr 0 (by omega)) gX4_copy_X4_sheetAt rfl ⟨rfl, rfl⟩ (by decide +kernel) ⟨Nat.le_of_ble_eq_true rfl, Nat.le_of_ble_eq_true rfl⟩ ZF.room (ci := 3) rfl 0 rfl (isC := [0, 1]) (by decide) rfl rfl (ws' := (wO g a (nI 0) tr ++ (wH g a ++ (wS g (a 13) (a 14) (lnF 0) (leF 0) (ceF 0) ++ (wS g (a 19) (a 20) (lnF 3) (leF 3) (ceF 3)))))) rfl (As := [.int (nI 0)]) (n := 1) rfl rfl (st1 := [.ref (a 13)]) rfl (Nat.le_of_ble_eq_true rfl) dX4_copy_7 ?_
  refine z_astore (L' := [(6, .ref (a 13)), (0, .ref (a 0)), (1, .int (nI 0)), (2, .int i), (3, .int (nI 3)), (4, .int j), (5, .int n)]) X dX4_copy_10 (by decide) rfl ?_
  refine z_aload_n X dX4_copy_12 rfl 1 rfl ?_
  refine z_iload_n X dX4_copy_13 rfl 4 rfl ?_
  refine z_callV X (c_X4_sheetAt_in l g a (nI 0) tr 3 (by omega)) gX4_copy_X4_sheetAt rfl ⟨rfl, rfl⟩ (by decide +kernel) ⟨Nat.le_of_ble_eq_true rfl, Nat.le_of_ble_eq_true rfl⟩ ZF.room (ci := 3) rfl 0 rfl (isC := [0, 1]) (by decide) rfl rfl (ws' := (wO g a (nI 0) tr ++ (wH g a ++ (wS g (a 13) (a 14) (lnF 0) (leF 0) (ceF 0) ++ (wS g (a 19) (a 20) (lnF 3) (leF 3) (ceF 3)))))) rfl (As := [.int (nI 3)]) (n := 1) rfl rfl (st1 := [.ref (a 19)]) rfl (Nat.le_of_ble_eq_true rfl) dX4_copy_14 ?_
  refine z_astore (L' := [(7, .ref (a 19)), (6, .ref (a 13)), (0, .ref (a 0)), (1, .int (nI 0)), (2, .int i), (3, .int (nI 3)), (4, .int j), (5, .int n)]) X dX4_copy_17 (by decide) rfl ?_
  refine z_aload X dX4_copy_19 1 rfl ?_
  refine z_ifnull X dX4_copy_21 ?_
  refine z_aload X dX4_copy_24 0 rfl ?_
  refine z_ifnonnull (tgt := 31) X dX4_copy_26 (by decide) ?_
  refine z_aload X dX4_copy_31 1 rfl ?_
  refine z_callV X (c_X2_hasRow l g (a 13) (a 14) (lnF 0) (leF 0) (ceF 0)) gX4_copy_X2_hasRow rfl ⟨rfl, rfl⟩ (by decide +kernel) ⟨Nat.le_of_ble_eq_true rfl, Nat.le_of_ble_eq_true rfl⟩ ZF.room (ci := 2) rfl 2 rfl (isC := [2, 3]) (by decide) rfl rfl (ws' := (wO g a (nI 0) tr ++ (wH g a ++ (wS g (a 13) (a 14) (lnF 0) (leF 0) (ceF 0) ++ (wS g (a 19) (a 20) (lnF 3) (leF 3) (ceF 3)))))) rfl (As := []) (n := 0) rfl rfl (st1 := [.int (bI (!decide ((leF 0) = (-1))))]) rfl (Nat.le_of_ble_eq_true rfl) dX4_copy_33 ?_
  refine z_if_eqB (tgt := 47) X dX4_copy_36 (by decide) (fun hq1 => ?_) (fun hq1 => ?_)
  ·
    have hq2 : (decide ((leF 0) = (-1))) = true := by simpa using hq1
    have hq3 : ((leF 0) = (-1)) := of_decide_eq_true hq2
    refine z_aload_n X dX4_copy_47 rfl 2 rfl ?_
    refine z_iconst (v := nI 1) X dX4_copy_48 (by decide) ?_
    refine z_callV X (c_X4_faulted l g a (nI 0) tr (nI 1)) gX4_copy_X4_faulted rfl ⟨rfl, rfl⟩ (by decide +kernel) ⟨Nat.le_of_ble_eq_true rfl, Nat.le_of_ble_eq_true rfl⟩ ZF.room (ci := 3) rfl 0 rfl (isC := [0]) (by decide) rfl rfl (ws' := (wO g a (nI 1) tr ++ (wH g a ++ (wS g (a 13) (a 14) (lnF 0) (leF 0) (ceF 0) ++ (wS g (a 19) (a 20) (lnF 3) (leF 3) (ceF 3)))))) rfl (As := [.int (nI 1)]) (n := 1) rfl rfl (st1 := [.int ((-10) - (nI 1))]) rfl (Nat.le_of_ble_eq_true rfl) dX4_copy_49 ?_
    have e4 : (cof (lnF 0) (leF 0) (lnF 3) (leF 3) i j n) = (nI 1) := by first | (simp [cor, cof, cok, hq3]; done) | (simp [cor, cof, cok, hq3]; decide)
    have e5 : (if cok (lnF 0) (leF 0) (lnF 3) (leF 3) i j n then va_cpy (ceF 0) (ceF 3) (tn i) (tn j) (tn n) else ceF 3) = (ceF 3) := by first | (simp [cor, cof, cok, hq3]; done) | (simp [cor, cof, cok, hq3]; decide)
    exact z_iret X ZF dX4_copy_52 (by first | (simp [cor, cof, cok, hq3]; done) | (simp [cor, cof, cok, hq3]; decide)) (by first | rw [e5, e4] | (simp only [e5, e4]))
  ·
    have hq6 : (decide ((leF 0) = (-1))) = false := by simpa using hq1
    have hq7 : ¬ ((leF 0) = (-1)) := of_decide_eq_false hq6
    refine z_aload X dX4_copy_39 0 rfl ?_
    refine z_callV X (c_X2_hasRow l g (a 19) (a 20) (lnF 3) (leF 3) (ceF 3)) gX4_copy_X2_hasRow rfl ⟨rfl, rfl⟩ (by decide +kernel) ⟨Nat.le_of_ble_eq_true rfl, Nat.le_of_ble_eq_true rfl⟩ ZF.room (ci := 2) rfl 4 rfl (isC := [4, 5]) (by decide) rfl rfl (ws' := (wO g a (nI 0) tr ++ (wH g a ++ (wS g (a 13) (a 14) (lnF 0) (leF 0) (ceF 0) ++ (wS g (a 19) (a 20) (lnF 3) (leF 3) (ceF 3)))))) rfl (As := []) (n := 0) rfl rfl (st1 := [.int (bI (!decide ((leF 3) = (-1))))]) rfl (Nat.le_of_ble_eq_true rfl) dX4_copy_41 ?_
    refine z_if_neB (tgt := 53) X dX4_copy_44 (by decide) (fun hq8 => ?_) (fun hq8 => ?_)
    ·
      have hq9 : (decide ((leF 3) = (-1))) = false := by simpa using hq8
      have hq10 : ¬ ((leF 3) = (-1)) := of_decide_eq_false hq9
      refine z_aload X dX4_copy_53 1 rfl ?_
      refine z_callV X (c_X2_rowLane l g (a 13) (a 14) (lnF 0) (leF 0) (ceF 0)) gX4_copy_X2_rowLane rfl ⟨rfl, rfl⟩ (by decide +kernel) ⟨Nat.le_of_ble_eq_true rfl, Nat.le_of_ble_eq_true rfl⟩ ZF.room (ci := 2) rfl 2 rfl (isC := [2, 3]) (by decide) rfl rfl (ws' := (wO g a (nI 0) tr ++ (wH g a ++ (wS g (a 13) (a 14) (lnF 0) (leF 0) (ceF 0) ++ (wS g (a 19) (a 20) (lnF 3) (leF 3) (ceF 3)))))) rfl (As := []) (n := 0) rfl rfl (st1 := [.int (lnF 0)]) rfl (Nat.le_of_ble_eq_true rfl) dX4_copy_55 ?_
      refine z_aload X dX4_copy_58 0 rfl ?_
      refine z_callV X (c_X2_rowLane l g (a 19) (a 20) (lnF 3) (leF 3) (ceF 3)) gX4_copy_X2_rowLane rfl ⟨rfl, rfl⟩ (by decide +kernel) ⟨Nat.le_of_ble_eq_true rfl, Nat.le_of_ble_eq_true rfl⟩ ZF.room (ci := 2) rfl 4 rfl (isC := [4, 5]) (by decide) rfl rfl (ws' := (wO g a (nI 0) tr ++ (wH g a ++ (wS g (a 13) (a 14) (lnF 0) (leF 0) (ceF 0) ++ (wS g (a 19) (a 20) (lnF 3) (leF 3) (ceF 3)))))) rfl (As := []) (n := 0) rfl rfl (st1 := [.int (lnF 3), .int (lnF 0)]) rfl (Nat.le_of_ble_eq_true rfl) dX4_copy_60 ?_
      refine z_icmp_eq (tgt := 72) X dX4_copy_63 (by decide) (fun hq11 => ?_) (fun hq11 => ?_)
      ·
        refine z_aload X dX4_copy_72 1 rfl ?_
        refine z_iload_n X dX4_copy_74 rfl 4 rfl ?_
        refine z_iload X dX4_copy_75 7 rfl ?_
        refine z_callV X (c_X2_hasCells l g (a 13) (a 14) (lnF 0) (leF 0) (ceF 0) i n) gX4_copy_X2_hasCells rfl ⟨rfl, rfl⟩ (by decide +kernel) ⟨Nat.le_of_ble_eq_true rfl, Nat.le_of_ble_eq_true rfl⟩ ZF.room (ci := 2) rfl 2 rfl (isC := [2, 3]) (by decide) rfl rfl (ws' := (wO g a (nI 0) tr ++ (wH g a ++ (wS g (a 13) (a 14) (lnF 0) (leF 0) (ceF 0) ++ (wS g (a 19) (a 20) (lnF 3) (leF 3) (ceF 3)))))) rfl (As := [.int i, .int n]) (n := 2) rfl rfl (st1 := [.int (bI (hcl (leF 0) i n))]) rfl (Nat.le_of_ble_eq_true rfl) dX4_copy_77 ?_
        refine z_if_eqB (tgt := 95) X dX4_copy_80 (by decide) (fun hq12 => ?_) (fun hq12 => ?_)
        ·
          refine z_aload_n X dX4_copy_95 rfl 2 rfl ?_
          refine z_iconst (v := nI 3) X dX4_copy_96 (by decide) ?_
          refine z_callV X (c_X4_faulted l g a (nI 0) tr (nI 3)) gX4_copy_X4_faulted rfl ⟨rfl, rfl⟩ (by decide +kernel) ⟨Nat.le_of_ble_eq_true rfl, Nat.le_of_ble_eq_true rfl⟩ ZF.room (ci := 3) rfl 0 rfl (isC := [0]) (by decide) rfl rfl (ws' := (wO g a (nI 3) tr ++ (wH g a ++ (wS g (a 13) (a 14) (lnF 0) (leF 0) (ceF 0) ++ (wS g (a 19) (a 20) (lnF 3) (leF 3) (ceF 3)))))) rfl (As := [.int (nI 3)]) (n := 1) rfl rfl (st1 := [.int ((-10) - (nI 3))]) rfl (Nat.le_of_ble_eq_true rfl) dX4_copy_97 ?_
          have e13 : (cof (lnF 0) (leF 0) (lnF 3) (leF 3) i j n) = (nI 3) := by first | (simp [cor, cof, cok, hq7, hq10, hq11, hq12]; done) | (simp [cor, cof, cok, hq7, hq10, hq11, hq12]; decide)
          have e14 : (if cok (lnF 0) (leF 0) (lnF 3) (leF 3) i j n then va_cpy (ceF 0) (ceF 3) (tn i) (tn j) (tn n) else ceF 3) = (ceF 3) := by first | (simp [cor, cof, cok, hq7, hq10, hq11, hq12]; done) | (simp [cor, cof, cok, hq7, hq10, hq11, hq12]; decide)
          exact z_iret X ZF dX4_copy_100 (by first | (simp [cor, cof, cok, hq7, hq10, hq11, hq12]; done) | (simp [cor, cof, cok, hq7, hq10, hq11, hq12]; decide)) (by first | rw [e14, e13] | (simp only [e14, e13]))
        ·
          refine z_aload X dX4_copy_83 0 rfl ?_
          refine z_iload X dX4_copy_85 6 rfl ?_
          refine z_iload X dX4_copy_87 7 rfl ?_
          refine z_callV X (c_X2_hasCells l g (a 19) (a 20) (lnF 3) (leF 3) (ceF 3) j n) gX4_copy_X2_hasCells rfl ⟨rfl, rfl⟩ (by decide +kernel) ⟨Nat.le_of_ble_eq_true rfl, Nat.le_of_ble_eq_true rfl⟩ ZF.room (ci := 2) rfl 4 rfl (isC := [4, 5]) (by decide) rfl rfl (ws' := (wO g a (nI 0) tr ++ (wH g a ++ (wS g (a 13) (a 14) (lnF 0) (leF 0) (ceF 0) ++ (wS g (a 19) (a 20) (lnF 3) (leF 3) (ceF 3)))))) rfl (As := [.int j, .int n]) (n := 2) rfl rfl (st1 := [.int (bI (hcl (leF 3) j n))]) rfl (Nat.le_of_ble_eq_true rfl) dX4_copy_89 ?_
          refine z_if_neB (tgt := 101) X dX4_copy_92 (by decide) (fun hq15 => ?_) (fun hq15 => ?_)
          ·
            obtain ⟨i_a, n_a, ei_a, en_a, m_a, hm_a, him_a, hin_a⟩ := hcl_t hle hq12
            subst ei_a; subst en_a
            obtain ⟨j_a, ej_a, m_b, hm_b, hmb_b, hjn_b⟩ := hcl_t2 (by omega) hle2 hq15
            subst ej_a
            have hti_a : tn (nI i_a) = i_a := nI_clamp (by omega)
            have htn_a : tn (nI n_a) = n_a := nI_clamp (by omega)
            have htj_a : tn (nI j_a) = j_a := nI_clamp (by omega)
            refine z_aload X dX4_copy_101 1 rfl ?_
            refine z_iload_n X dX4_copy_103 rfl 4 rfl ?_
            refine z_aload X dX4_copy_104 0 rfl ?_
            refine z_iload X dX4_copy_106 6 rfl ?_
            refine z_iload X dX4_copy_108 7 rfl ?_
            refine z_callV X (c_X2_copyTo_two l g (a 13) (a 14) (a 19) (a 20) (lnF 0) (leF 0) (ceF 0) (lnF 3) (leF 3) (ceF 3) i_a j_a n_a (by omega) (by omega) (by first | assumption | omega) (by first | assumption | omega)) gX4_copy_X2_copyTo rfl ⟨rfl, rfl⟩ (by decide +kernel) ⟨Nat.le_of_ble_eq_true rfl, Nat.le_of_ble_eq_true rfl⟩ ZF.room (ci := 2) rfl 2 rfl (isC := [2, 3, 4, 5]) (by decide) rfl rfl (ws' := (wO g a (nI 0) tr ++ (wH g a ++ (wS g (a 13) (a 14) (lnF 0) (leF 0) (ceF 0) ++ (wS g (a 19) (a 20) (lnF 3) (leF 3) (va_cpy (ceF 0) (ceF 3) i_a j_a n_a)))))) rfl (As := [.int (nI i_a), .ref (a 19), .int (nI j_a), .int (nI n_a)]) (n := 4) rfl rfl (st1 := []) rfl (Nat.le_of_ble_eq_true rfl) dX4_copy_110 ?_
            refine z_iload X dX4_copy_113 7 rfl ?_
            have e16 : (cof (lnF 0) (leF 0) (lnF 3) (leF 3) (nI i_a) (nI j_a) (nI n_a)) = (nI 0) := by first | (simp [cor, cof, cok, hq7, hq10, hq11, hq12, hti_a, htn_a, htj_a, hq15]; done) | (simp [cor, cof, cok, hq7, hq10, hq11, hq12, hti_a, htn_a, htj_a, hq15]; decide)
            have e17 : (if cok (lnF 0) (leF 0) (lnF 3) (leF 3) (nI i_a) (nI j_a) (nI n_a) then va_cpy (ceF 0) (ceF 3) (tn (nI i_a)) (tn (nI j_a)) (tn (nI n_a)) else ceF 3) = (va_cpy (ceF 0) (ceF 3) i_a j_a n_a) := by first | (simp [cor, cof, cok, hq7, hq10, hq11, hq12, hti_a, htn_a, htj_a, hq15]; done) | (simp [cor, cof, cok, hq7, hq10, hq11, hq12, hti_a, htn_a, htj_a, hq15]; decide)
            exact z_iret X ZF dX4_copy_115 (by first | (simp [cor, cof, cok, hq7, hq10, hq11, hq12, hti_a, htn_a, htj_a, hq15]; done) | (simp [cor, cof, cok, hq7, hq10, hq11, hq12, hti_a, htn_a, htj_a, hq15]; decide)) (by first | rw [e17, e16] | (simp only [e17, e16]))
          ·
            refine z_aload_n X dX4_copy_95 rfl 2 rfl ?_
            refine z_iconst (v := nI 3) X dX4_copy_96 (by decide) ?_
            refine z_callV X (c_X4_faulted l g a (nI 0) tr (nI 3)) gX4_copy_X4_faulted rfl ⟨rfl, rfl⟩ (by decide +kernel) ⟨Nat.le_of_ble_eq_true rfl, Nat.le_of_ble_eq_true rfl⟩ ZF.room (ci := 3) rfl 0 rfl (isC := [0]) (by decide) rfl rfl (ws' := (wO g a (nI 3) tr ++ (wH g a ++ (wS g (a 13) (a 14) (lnF 0) (leF 0) (ceF 0) ++ (wS g (a 19) (a 20) (lnF 3) (leF 3) (ceF 3)))))) rfl (As := [.int (nI 3)]) (n := 1) rfl rfl (st1 := [.int ((-10) - (nI 3))]) rfl (Nat.le_of_ble_eq_true rfl) dX4_copy_97 ?_
            have e18 : (cof (lnF 0) (leF 0) (lnF 3) (leF 3) i j n) = (nI 3) := by first | (simp [cor, cof, cok, hq7, hq10, hq11, hq12, hq15]; done) | (simp [cor, cof, cok, hq7, hq10, hq11, hq12, hq15]; decide)
            have e19 : (if cok (lnF 0) (leF 0) (lnF 3) (leF 3) i j n then va_cpy (ceF 0) (ceF 3) (tn i) (tn j) (tn n) else ceF 3) = (ceF 3) := by first | (simp [cor, cof, cok, hq7, hq10, hq11, hq12, hq15]; done) | (simp [cor, cof, cok, hq7, hq10, hq11, hq12, hq15]; decide)
            exact z_iret X ZF dX4_copy_100 (by first | (simp [cor, cof, cok, hq7, hq10, hq11, hq12, hq15]; done) | (simp [cor, cof, cok, hq7, hq10, hq11, hq12, hq15]; decide)) (by first | rw [e19, e18] | (simp only [e19, e18]))
      ·
        refine z_aload_n X dX4_copy_66 rfl 2 rfl ?_
        refine z_iconst (v := nI 2) X dX4_copy_67 (by decide) ?_
        refine z_callV X (c_X4_faulted l g a (nI 0) tr (nI 2)) gX4_copy_X4_faulted rfl ⟨rfl, rfl⟩ (by decide +kernel) ⟨Nat.le_of_ble_eq_true rfl, Nat.le_of_ble_eq_true rfl⟩ ZF.room (ci := 3) rfl 0 rfl (isC := [0]) (by decide) rfl rfl (ws' := (wO g a (nI 2) tr ++ (wH g a ++ (wS g (a 13) (a 14) (lnF 0) (leF 0) (ceF 0) ++ (wS g (a 19) (a 20) (lnF 3) (leF 3) (ceF 3)))))) rfl (As := [.int (nI 2)]) (n := 1) rfl rfl (st1 := [.int ((-10) - (nI 2))]) rfl (Nat.le_of_ble_eq_true rfl) dX4_copy_68 ?_
        have e20 : (cof (lnF 0) (leF 0) (lnF 3) (leF 3) i j n) = (nI 2) := by first | (simp [cor, cof, cok, hq7, hq10, hq11]; done) | (simp [cor, cof, cok, hq7, hq10, hq11]; decide)
        have e21 : (if cok (lnF 0) (leF 0) (lnF 3) (leF 3) i j n then va_cpy (ceF 0) (ceF 3) (tn i) (tn j) (tn n) else ceF 3) = (ceF 3) := by first | (simp [cor, cof, cok, hq7, hq10, hq11]; done) | (simp [cor, cof, cok, hq7, hq10, hq11]; decide)
        exact z_iret X ZF dX4_copy_71 (by first | (simp [cor, cof, cok, hq7, hq10, hq11]; done) | (simp [cor, cof, cok, hq7, hq10, hq11]; decide)) (by first | rw [e21, e20] | (simp only [e21, e20]))
    ·
      have hq22 : (decide ((leF 3) = (-1))) = true := by simpa using hq8
      have hq23 : ((leF 3) = (-1)) := of_decide_eq_true hq22
      refine z_aload_n X dX4_copy_47 rfl 2 rfl ?_
      refine z_iconst (v := nI 1) X dX4_copy_48 (by decide) ?_
      refine z_callV X (c_X4_faulted l g a (nI 0) tr (nI 1)) gX4_copy_X4_faulted rfl ⟨rfl, rfl⟩ (by decide +kernel) ⟨Nat.le_of_ble_eq_true rfl, Nat.le_of_ble_eq_true rfl⟩ ZF.room (ci := 3) rfl 0 rfl (isC := [0]) (by decide) rfl rfl (ws' := (wO g a (nI 1) tr ++ (wH g a ++ (wS g (a 13) (a 14) (lnF 0) (leF 0) (ceF 0) ++ (wS g (a 19) (a 20) (lnF 3) (leF 3) (ceF 3)))))) rfl (As := [.int (nI 1)]) (n := 1) rfl rfl (st1 := [.int ((-10) - (nI 1))]) rfl (Nat.le_of_ble_eq_true rfl) dX4_copy_49 ?_
      have e24 : (cof (lnF 0) (leF 0) (lnF 3) (leF 3) i j n) = (nI 1) := by first | (simp [cor, cof, cok, hq7, hq23]; done) | (simp [cor, cof, cok, hq7, hq23]; decide)
      have e25 : (if cok (lnF 0) (leF 0) (lnF 3) (leF 3) i j n then va_cpy (ceF 0) (ceF 3) (tn i) (tn j) (tn n) else ceF 3) = (ceF 3) := by first | (simp [cor, cof, cok, hq7, hq23]; done) | (simp [cor, cof, cok, hq7, hq23]; decide)
      exact z_iret X ZF dX4_copy_52 (by first | (simp [cor, cof, cok, hq7, hq23]; done) | (simp [cor, cof, cok, hq7, hq23]; decide)) (by first | rw [e25, e24] | (simp only [e25, e24]))
abbrev rX4_copy_10 : Room := { frames := 2, cells := 0, slots := 0, locals := 46 }
set_option maxHeartbeats 4000000 in
set_option maxRecDepth 100000 in
theorem c_X4_copy_10 (l : Launch) (g : zg) (a : Nat → Nat) (ft : Int32) (tr : Int32) (lnF : Nat → Int32) (leF : Nat → Int32) (ceF : Nat → Nat → Int32) (i : Int32) (j : Int32) (n : Int32) (hle : vle (leF 1)) (hle2 : vle (leF 0)) : zM l g yX4_copy wsX4_copy rX4_copy_10 [.ref (a 0), .int (nI 1), .int i, .int (nI 0), .int j, .int n] (wO g a ft tr ++ (wH g a ++ (wS g (a 15) (a 16) (lnF 1) (leF 1) (ceF 1) ++ (wS g (a 13) (a 14) (lnF 0) (leF 0) (ceF 0))))) (some (.int (cor (lnF 1) (leF 1) (lnF 0) (leF 0) i j n))) (wO g a (cof (lnF 1) (leF 1) (lnF 0) (leF 0) i j n) tr ++ (wH g a ++ (wS g (a 15) (a 16) (lnF 1) (leF 1) (ceF 1) ++ (wS g (a 13) (a 14) (lnF 0) (leF 0) (if cok (lnF 1) (leF 1) (lnF 0) (leF 0) i j n then va_cpy (ceF 1) (ceF 0) (tn i) (tn j) (tn n) else ceF 0))))) := by
  refine z_met (own := RX4) (cc := cX4_copy) (maxL := 8) (ret := some .int) (by decide +kernel) rfl rfl (Nat.le_of_ble_eq_true rfl) ?_
  intro M X ZF
  refine z_Le (L' := [(0, .ref (a 0)), (1, .int (nI 1)), (2, .int i), (3, .int (nI 0)), (4, .int j), (5, .int n)]) rfl ?_
  have i_RX4 : ∀ w ∈ wsX40, w ∈ wsX4_copy := by decide +kernel
  have f_32 : Cond.fieldLink RX4 32 (TX4 3).1 (TX4 3).2.1 (TX4 3).2.2.1 ∈ wsX4_copy := by decide +kernel
  refine z_aload_n X dX4_copy_0 rfl 0 rfl ?_
  refine z_iconst (v := nI 0) X dX4_copy_1 (by decide) ?_
  refine z_put (ws' := (wO g a (nI 0) tr ++ (wH g a ++ (wS g (a 15) (a 16) (lnF 1) (leF 1) (ceF 1) ++ (wS g (a 13) (a 14) (lnF 0) (leF 0) (ceF 0)))))) (N := 5) X i_RX4 (ci := 3) rfl tyX4 tyX4_ok nmX4 0 rfl 3 (by decide) f_32 rfl (ty := .int) (by decide +kernel) rfl rfl (Nat.le_of_ble_eq_true rfl) dX4_copy_2 rfl ?_
  refine z_aload_n X dX4_copy_5 rfl 0 rfl ?_
  refine z_iload_n X dX4_copy_6 rfl 1 rfl ?_
  refine z_callV X (c_X4_sheetAt_in l g a (nI 0) tr 1 (by omega)) gX4_copy_X4_sheetAt rfl ⟨rfl, rfl⟩ (by decide +kernel) ⟨Nat.le_of_ble_eq_true rfl, Nat.le_of_ble_eq_true rfl⟩ ZF.room (ci := 3) rfl 0 rfl (isC := [0, 1]) (by decide) rfl rfl (ws' := (wO g a (nI 0) tr ++ (wH g a ++ (wS g (a 15) (a 16) (lnF 1) (leF 1) (ceF 1) ++ (wS g (a 13) (a 14) (lnF 0) (leF 0) (ceF 0)))))) rfl (As := [.int (nI 1)]) (n := 1) rfl rfl (st1 := [.ref (a 15)]) rfl (Nat.le_of_ble_eq_true rfl) dX4_copy_7 ?_
  refine z_astore (L' := [(6, .ref (a 15)), (0, .ref (a 0)), (1, .int (nI 1)), (2, .int i), (3, .int (nI 0)), (4, .int j), (5, .int n)]) X dX4_copy_10 (by decide) rfl ?_
  refine z_aload_n X dX4_copy_12 rfl 1 rfl ?_
  refine z_iload_n X dX4_copy_13 rfl 4 rfl ?_
  refine z_callV X (c_X4_sheetAt_in l g a (nI 0) tr 0 (by omega)) gX4_copy_X4_sheetAt rfl ⟨rfl, rfl⟩ (by decide +kernel) ⟨Nat.le_of_ble_eq_true rfl, Nat.le_of_ble_eq_true rfl⟩ ZF.room (ci := 3) rfl 0 rfl (isC := [0, 1]) (by decide) rfl rfl (ws' := (wO g a (nI 0) tr ++ (wH g a ++ (wS g (a 15) (a 16) (lnF 1) (leF 1) (ceF 1) ++ (wS g (a 13) (a 14) (lnF 0) (leF 0) (ceF 0)))))) rfl (As := [.int (nI 0)]) (n := 1) rfl rfl (st1 := [.ref (a 13)]) rfl (Nat.le_of_ble_eq_true rfl) dX4_copy_14 ?_
  refine z_astore (L' := [(7, .ref (a 13)), (6, .ref (a 15)), (0, .ref (a 0)), (1, .int (nI 1)), (2, .int i), (3, .int (nI 0)), (4, .int j), (5, .int n)]) X dX4_copy_17 (by decide) rfl ?_
  refine z_aload X dX4_copy_19 1 rfl ?_
  refine z_ifnull X dX4_copy_21 ?_
  refine z_aload X dX4_copy_24 0 rfl ?_
  refine z_ifnonnull (tgt := 31) X dX4_copy_26 (by decide) ?_
  refine z_aload X dX4_copy_31 1 rfl ?_
  refine z_callV X (c_X2_hasRow l g (a 15) (a 16) (lnF 1) (leF 1) (ceF 1)) gX4_copy_X2_hasRow rfl ⟨rfl, rfl⟩ (by decide +kernel) ⟨Nat.le_of_ble_eq_true rfl, Nat.le_of_ble_eq_true rfl⟩ ZF.room (ci := 2) rfl 2 rfl (isC := [2, 3]) (by decide) rfl rfl (ws' := (wO g a (nI 0) tr ++ (wH g a ++ (wS g (a 15) (a 16) (lnF 1) (leF 1) (ceF 1) ++ (wS g (a 13) (a 14) (lnF 0) (leF 0) (ceF 0)))))) rfl (As := []) (n := 0) rfl rfl (st1 := [.int (bI (!decide ((leF 1) = (-1))))]) rfl (Nat.le_of_ble_eq_true rfl) dX4_copy_33 ?_
  refine z_if_eqB (tgt := 47) X dX4_copy_36 (by decide) (fun hq1 => ?_) (fun hq1 => ?_)
  ·
    have hq2 : (decide ((leF 1) = (-1))) = true := by simpa using hq1
    have hq3 : ((leF 1) = (-1)) := of_decide_eq_true hq2
    refine z_aload_n X dX4_copy_47 rfl 2 rfl ?_
    refine z_iconst (v := nI 1) X dX4_copy_48 (by decide) ?_
    refine z_callV X (c_X4_faulted l g a (nI 0) tr (nI 1)) gX4_copy_X4_faulted rfl ⟨rfl, rfl⟩ (by decide +kernel) ⟨Nat.le_of_ble_eq_true rfl, Nat.le_of_ble_eq_true rfl⟩ ZF.room (ci := 3) rfl 0 rfl (isC := [0]) (by decide) rfl rfl (ws' := (wO g a (nI 1) tr ++ (wH g a ++ (wS g (a 15) (a 16) (lnF 1) (leF 1) (ceF 1) ++ (wS g (a 13) (a 14) (lnF 0) (leF 0) (ceF 0)))))) rfl (As := [.int (nI 1)]) (n := 1) rfl rfl (st1 := [.int ((-10) - (nI 1))]) rfl (Nat.le_of_ble_eq_true rfl) dX4_copy_49 ?_
    have e4 : (cof (lnF 1) (leF 1) (lnF 0) (leF 0) i j n) = (nI 1) := by first | (simp [cor, cof, cok, hq3]; done) | (simp [cor, cof, cok, hq3]; decide)
    have e5 : (if cok (lnF 1) (leF 1) (lnF 0) (leF 0) i j n then va_cpy (ceF 1) (ceF 0) (tn i) (tn j) (tn n) else ceF 0) = (ceF 0) := by first | (simp [cor, cof, cok, hq3]; done) | (simp [cor, cof, cok, hq3]; decide)
    exact z_iret X ZF dX4_copy_52 (by first | (simp [cor, cof, cok, hq3]; done) | (simp [cor, cof, cok, hq3]; decide)) (by first | rw [e5, e4] | (simp only [e5, e4]))
  ·
    have hq6 : (decide ((leF 1) = (-1))) = false := by simpa using hq1
    have hq7 : ¬ ((leF 1) = (-1)) := of_decide_eq_false hq6
    refine z_aload X dX4_copy_39 0 rfl ?_
    refine z_callV X (c_X2_hasRow l g (a 13) (a 14) (lnF 0) (leF 0) (ceF 0)) gX4_copy_X2_hasRow rfl ⟨rfl, rfl⟩ (by decide +kernel) ⟨Nat.le_of_ble_eq_true rfl, Nat.le_of_ble_eq_true rfl⟩ ZF.room (ci := 2) rfl 4 rfl (isC := [4, 5]) (by decide) rfl rfl (ws' := (wO g a (nI 0) tr ++ (wH g a ++ (wS g (a 15) (a 16) (lnF 1) (leF 1) (ceF 1) ++ (wS g (a 13) (a 14) (lnF 0) (leF 0) (ceF 0)))))) rfl (As := []) (n := 0) rfl rfl (st1 := [.int (bI (!decide ((leF 0) = (-1))))]) rfl (Nat.le_of_ble_eq_true rfl) dX4_copy_41 ?_
    refine z_if_neB (tgt := 53) X dX4_copy_44 (by decide) (fun hq8 => ?_) (fun hq8 => ?_)
    ·
      have hq9 : (decide ((leF 0) = (-1))) = false := by simpa using hq8
      have hq10 : ¬ ((leF 0) = (-1)) := of_decide_eq_false hq9
      refine z_aload X dX4_copy_53 1 rfl ?_
      refine z_callV X (c_X2_rowLane l g (a 15) (a 16) (lnF 1) (leF 1) (ceF 1)) gX4_copy_X2_rowLane rfl ⟨rfl, rfl⟩ (by decide +kernel) ⟨Nat.le_of_ble_eq_true rfl, Nat.le_of_ble_eq_true rfl⟩ ZF.room (ci := 2) rfl 2 rfl (isC := [2, 3]) (by decide) rfl rfl (ws' := (wO g a (nI 0) tr ++ (wH g a ++ (wS g (a 15) (a 16) (lnF 1) (leF 1) (ceF 1) ++ (wS g (a 13) (a 14) (lnF 0) (leF 0) (ceF 0)))))) rfl (As := []) (n := 0) rfl rfl (st1 := [.int (lnF 1)]) rfl (Nat.le_of_ble_eq_true rfl) dX4_copy_55 ?_
      refine z_aload X dX4_copy_58 0 rfl ?_
      refine z_callV X (c_X2_rowLane l g (a 13) (a 14) (lnF 0) (leF 0) (ceF 0)) gX4_copy_X2_rowLane rfl ⟨rfl, rfl⟩ (by decide +kernel) ⟨Nat.le_of_ble_eq_true rfl, Nat.le_of_ble_eq_true rfl⟩ ZF.room (ci := 2) rfl 4 rfl (isC := [4, 5]) (by decide) rfl rfl (ws' := (wO g a (nI 0) tr ++ (wH g a ++ (wS g (a 15) (a 16) (lnF 1) (leF 1) (ceF 1) ++ (wS g (a 13) (a 14) (lnF 0) (leF 0) (ceF 0)))))) rfl (As := []) (n := 0) rfl rfl (st1 := [.int (lnF 0), .int (lnF 1)]) rfl (Nat.le_of_ble_eq_true rfl) dX4_copy_60 ?_
      refine z_icmp_eq (tgt := 72) X dX4_copy_63 (by decide) (fun hq11 => ?_) (fun hq11 => ?_)
      ·
        refine z_aload X dX4_copy_72 1 rfl ?_
        refine z_iload_n X dX4_copy_74 rfl 4 rfl ?_
        refine z_iload X dX4_copy_75 7 rfl ?_
        refine z_callV X (c_X2_hasCells l g (a 15) (a 16) (lnF 1) (leF 1) (ceF 1) i n) gX4_copy_X2_hasCells rfl ⟨rfl, rfl⟩ (by decide +kernel) ⟨Nat.le_of_ble_eq_true rfl, Nat.le_of_ble_eq_true rfl⟩ ZF.room (ci := 2) rfl 2 rfl (isC := [2, 3]) (by decide) rfl rfl (ws' := (wO g a (nI 0) tr ++ (wH g a ++ (wS g (a 15) (a 16) (lnF 1) (leF 1) (ceF 1) ++ (wS g (a 13) (a 14) (lnF 0) (leF 0) (ceF 0)))))) rfl (As := [.int i, .int n]) (n := 2) rfl rfl (st1 := [.int (bI (hcl (leF 1) i n))]) rfl (Nat.le_of_ble_eq_true rfl) dX4_copy_77 ?_
        refine z_if_eqB (tgt := 95) X dX4_copy_80 (by decide) (fun hq12 => ?_) (fun hq12 => ?_)
        ·
          refine z_aload_n X dX4_copy_95 rfl 2 rfl ?_
          refine z_iconst (v := nI 3) X dX4_copy_96 (by decide) ?_
          refine z_callV X (c_X4_faulted l g a (nI 0) tr (nI 3)) gX4_copy_X4_faulted rfl ⟨rfl, rfl⟩ (by decide +kernel) ⟨Nat.le_of_ble_eq_true rfl, Nat.le_of_ble_eq_true rfl⟩ ZF.room (ci := 3) rfl 0 rfl (isC := [0]) (by decide) rfl rfl (ws' := (wO g a (nI 3) tr ++ (wH g a ++ (wS g (a 15) (a 16) (lnF 1) (leF 1) (ceF 1) ++ (wS g (a 13) (a 14) (lnF 0) (leF 0) (ceF 0)))))) rfl (As := [.int (nI 3)]) (n := 1) rfl rfl (st1 := [.int ((-10) - (nI 3))]) rfl (Nat.le_of_ble_eq_true rfl) dX4_copy_97 ?_
          have e13 : (cof (lnF 1) (leF 1) (lnF 0) (leF 0) i j n) = (nI 3) := by first | (simp [cor, cof, cok, hq7, hq10, hq11, hq12]; done) | (simp [cor, cof, cok, hq7, hq10, hq11, hq12]; decide)
          have e14 : (if cok (lnF 1) (leF 1) (lnF 0) (leF 0) i j n then va_cpy (ceF 1) (ceF 0) (tn i) (tn j) (tn n) else ceF 0) = (ceF 0) := by first | (simp [cor, cof, cok, hq7, hq10, hq11, hq12]; done) | (simp [cor, cof, cok, hq7, hq10, hq11, hq12]; decide)
          exact z_iret X ZF dX4_copy_100 (by first | (simp [cor, cof, cok, hq7, hq10, hq11, hq12]; done) | (simp [cor, cof, cok, hq7, hq10, hq11, hq12]; decide)) (by first | rw [e14, e13] | (simp only [e14, e13]))
        ·
          refine z_aload X dX4_copy_83 0 rfl ?_
          refine z_iload X dX4_copy_85 6 rfl ?_
          refine z_iload X dX4_copy_87 7 rfl ?_
          refine z_callV X (c_X2_hasCells l g (a 13) (a 14) (lnF 0) (leF 0) (ceF 0) j n) gX4_copy_X2_hasCells rfl ⟨rfl, rfl⟩ (by decide +kernel) ⟨Nat.le_of_ble_eq_true rfl, Nat.le_of_ble_eq_true rfl⟩ ZF.room (ci := 2) rfl 4 rfl (isC := [4, 5]) (by decide) rfl rfl (ws' := (wO g a (nI 0) tr ++ (wH g a ++ (wS g (a 15) (a 16) (lnF 1) (leF 1) (ceF 1) ++ (wS g (a 13) (a 14) (lnF 0) (leF 0) (ceF 0)))))) rfl (As := [.int j, .int n]) (n := 2) rfl rfl (st1 := [.int (bI (hcl (leF 0) j n))]) rfl (Nat.le_of_ble_eq_true rfl) dX4_copy_89 ?_
          refine z_if_neB (tgt := 101) X dX4_copy_92 (by decide) (fun hq15 => ?_) (fun hq15 => ?_)
          ·
            obtain ⟨i_a, n_a, ei_a, en_a, m_a, hm_a, him_a, hin_a⟩ := hcl_t hle hq12
            subst ei_a; subst en_a
            obtain ⟨j_a, ej_a, m_b, hm_b, hmb_b, hjn_b⟩ := hcl_t2 (by omega) hle2 hq15
            subst ej_a
            have hti_a : tn (nI i_a) = i_a := nI_clamp (by omega)
            have htn_a : tn (nI n_a) = n_a := nI_clamp (by omega)
            have htj_a : tn (nI j_a) = j_a := nI_clamp (by omega)
            refine z_aload X dX4_copy_101 1 rfl ?_
            refine z_iload_n X dX4_copy_103 rfl 4 rfl ?_
            refine z_aload X dX4_copy_104 0 rfl ?_
            refine z_iload X dX4_copy_106 6 rfl ?_
            refine z_iload X dX4_copy_108 7 rfl ?_
            refine z_callV X (c_X2_copyTo_two l g (a 15) (a 16) (a 13) (a 14) (lnF 1) (leF 1) (ceF 1) (lnF 0) (leF 0) (ceF 0) i_a j_a n_a (by omega) (by omega) (by first | assumption | omega) (by first | assumption | omega)) gX4_copy_X2_copyTo rfl ⟨rfl, rfl⟩ (by decide +kernel) ⟨Nat.le_of_ble_eq_true rfl, Nat.le_of_ble_eq_true rfl⟩ ZF.room (ci := 2) rfl 2 rfl (isC := [2, 3, 4, 5]) (by decide) rfl rfl (ws' := (wO g a (nI 0) tr ++ (wH g a ++ (wS g (a 15) (a 16) (lnF 1) (leF 1) (ceF 1) ++ (wS g (a 13) (a 14) (lnF 0) (leF 0) (va_cpy (ceF 1) (ceF 0) i_a j_a n_a)))))) rfl (As := [.int (nI i_a), .ref (a 13), .int (nI j_a), .int (nI n_a)]) (n := 4) rfl rfl (st1 := []) rfl (Nat.le_of_ble_eq_true rfl) dX4_copy_110 ?_
            refine z_iload X dX4_copy_113 7 rfl ?_
            have e16 : (cof (lnF 1) (leF 1) (lnF 0) (leF 0) (nI i_a) (nI j_a) (nI n_a)) = (nI 0) := by first | (simp [cor, cof, cok, hq7, hq10, hq11, hq12, hti_a, htn_a, htj_a, hq15]; done) | (simp [cor, cof, cok, hq7, hq10, hq11, hq12, hti_a, htn_a, htj_a, hq15]; decide)
            have e17 : (if cok (lnF 1) (leF 1) (lnF 0) (leF 0) (nI i_a) (nI j_a) (nI n_a) then va_cpy (ceF 1) (ceF 0) (tn (nI i_a)) (tn (nI j_a)) (tn (nI n_a)) else ceF 0) = (va_cpy (ceF 1) (ceF 0) i_a j_a n_a) := by first | (simp [cor, cof, cok, hq7, hq10, hq11, hq12, hti_a, htn_a, htj_a, hq15]; done) | (simp [cor, cof, cok, hq7, hq10, hq11, hq12, hti_a, htn_a, htj_a, hq15]; decide)
            exact z_iret X ZF dX4_copy_115 (by first | (simp [cor, cof, cok, hq7, hq10, hq11, hq12, hti_a, htn_a, htj_a, hq15]; done) | (simp [cor, cof, cok, hq7, hq10, hq11, hq12, hti_a, htn_a, htj_a, hq15]; decide)) (by first | rw [e17, e16] | (simp only [e17, e16]))
          ·
            refine z_aload_n X dX4_copy_95 rfl 2 rfl ?_
            refine z_iconst (v := nI 3) X dX4_copy_96 (by decide) ?_
            refine z_callV X (c_X4_faulted l g a (nI 0) tr (nI 3)) gX4_copy_X4_faulted rfl ⟨rfl, rfl⟩ (by decide +kernel) ⟨Nat.le_of_ble_eq_true rfl, Nat.le_of_ble_eq_true rfl⟩ ZF.room (ci := 3) rfl 0 rfl (isC := [0]) (by decide) rfl rfl (ws' := (wO g a (nI 3) tr ++ (wH g a ++ (wS g (a 15) (a 16) (lnF 1) (leF 1) (ceF 1) ++ (wS g (a 13) (a 14) (lnF 0) (leF 0) (ceF 0)))))) rfl (As := [.int (nI 3)]) (n := 1) rfl rfl (st1 := [.int ((-10) - (nI 3))]) rfl (Nat.le_of_ble_eq_true rfl) dX4_copy_97 ?_
            have e18 : (cof (lnF 1) (leF 1) (lnF 0) (leF 0) i j n) = (nI 3) := by first | (simp [cor, cof, cok, hq7, hq10, hq11, hq12, hq15]; done) | (simp [cor, cof, cok, hq7, hq10, hq11, hq12, hq15]; decide)
            have e19 : (if cok (lnF 1) (leF 1) (lnF 0) (leF 0) i j n then va_cpy (ceF 1) (ceF 0) (tn i) (tn j) (tn n) else ceF 0) = (ceF 0) := by first | (simp [cor, cof, cok, hq7, hq10, hq11, hq12, hq15]; done) | (simp [cor, cof, cok, hq7, hq10, hq11, hq12, hq15]; decide)
            exact z_iret X ZF dX4_copy_100 (by first | (simp [cor, cof, cok, hq7, hq10, hq11, hq12, hq15]; done) | (simp [cor, cof, cok, hq7, hq10, hq11, hq12, hq15]; decide)) (by first | rw [e19, e18] | (simp only [e19, e18]))
      ·
        refine z_aload_n X dX4_copy_66 rfl 2 rfl ?_
        refine z_iconst (v := nI 2) X dX4_copy_67 (by decide) ?_
        refine z_callV X (c_X4_faulted l g a (nI 0) tr (nI 2)) gX4_copy_X4_faulted rfl ⟨rfl, rfl⟩ (by decide +kernel) ⟨Nat.le_of_ble_eq_true rfl, Nat.le_of_ble_eq_true rfl⟩ ZF.room (ci := 3) rfl 0 rfl (isC := [0]) (by decide) rfl rfl (ws' := (wO g a (nI 2) tr ++ (wH g a ++ (wS g (a 15) (a 16) (lnF 1) (leF 1) (ceF 1) ++ (wS g (a 13) (a 14) (lnF 0) (leF 0) (ceF 0)))))) rfl (As := [.int (nI 2)]) (n := 1) rfl rfl (st1 := [.int ((-10) - (nI 2))]) rfl (Nat.le_of_ble_eq_true rfl) dX4_copy_68 ?_
        have e20 : (cof (lnF 1) (leF 1) (lnF 0) (leF 0) i j n) = (nI 2) := by first | (simp [cor, cof, cok, hq7, hq10, hq11]; done) | (simp [cor, cof, cok, hq7, hq10, hq11]; decide)
        have e21 : (if cok (lnF 1) (leF 1) (lnF 0) (leF 0) i j n then va_cpy (ceF 1) (ceF 0) (tn i) (tn j) (tn n) else ceF 0) = (ceF 0) := by first | (simp [cor, cof, cok, hq7, hq10, hq11]; done) | (simp [cor, cof, cok, hq7, hq10, hq11]; decide)
        exact z_iret X ZF dX4_copy_71 (by first | (simp [cor, cof, cok, hq7, hq10, hq11]; done) | (simp [cor, cof, cok, hq7, hq10, hq11]; decide)) (by first | rw [e21, e20] | (simp only [e21, e20]))
    ·
      have hq22 : (decide ((leF 0) = (-1))) = true := by simpa using hq8
      have hq23 : ((leF 0) = (-1)) := of_decide_eq_true hq22
      refine z_aload_n X dX4_copy_47 rfl 2 rfl ?_
      refine z_iconst (v := nI 1) X dX4_copy_48 (by decide) ?_
      refine z_callV X (c_X4_faulted l g a (nI 0) tr (nI 1)) gX4_copy_X4_faulted rfl ⟨rfl, rfl⟩ (by decide +kernel) ⟨Nat.le_of_ble_eq_true rfl, Nat.le_of_ble_eq_true rfl⟩ ZF.room (ci := 3) rfl 0 rfl (isC := [0]) (by decide) rfl rfl (ws' := (wO g a (nI 1) tr ++ (wH g a ++ (wS g (a 15) (a 16) (lnF 1) (leF 1) (ceF 1) ++ (wS g (a 13) (a 14) (lnF 0) (leF 0) (ceF 0)))))) rfl (As := [.int (nI 1)]) (n := 1) rfl rfl (st1 := [.int ((-10) - (nI 1))]) rfl (Nat.le_of_ble_eq_true rfl) dX4_copy_49 ?_
      have e24 : (cof (lnF 1) (leF 1) (lnF 0) (leF 0) i j n) = (nI 1) := by first | (simp [cor, cof, cok, hq7, hq23]; done) | (simp [cor, cof, cok, hq7, hq23]; decide)
      have e25 : (if cok (lnF 1) (leF 1) (lnF 0) (leF 0) i j n then va_cpy (ceF 1) (ceF 0) (tn i) (tn j) (tn n) else ceF 0) = (ceF 0) := by first | (simp [cor, cof, cok, hq7, hq23]; done) | (simp [cor, cof, cok, hq7, hq23]; decide)
      exact z_iret X ZF dX4_copy_52 (by first | (simp [cor, cof, cok, hq7, hq23]; done) | (simp [cor, cof, cok, hq7, hq23]; decide)) (by first | rw [e25, e24] | (simp only [e25, e24]))
abbrev rX4_copy_11 : Room := { frames := 2, cells := 0, slots := 0, locals := 46 }
set_option maxHeartbeats 4000000 in
set_option maxRecDepth 100000 in
theorem c_X4_copy_11 (l : Launch) (g : zg) (a : Nat → Nat) (ft : Int32) (tr : Int32) (lnF : Nat → Int32) (leF : Nat → Int32) (ceF : Nat → Nat → Int32) (i : Int32) (j : Int32) (n : Int32) (hle : vle (leF 1)) (hle2 : vle (leF 1)) : zM l g yX4_copy wsX4_copy rX4_copy_11 [.ref (a 0), .int (nI 1), .int i, .int (nI 1), .int j, .int n] (wO g a ft tr ++ (wH g a ++ (wS g (a 15) (a 16) (lnF 1) (leF 1) (ceF 1)))) (some (.int (cor (lnF 1) (leF 1) (lnF 1) (leF 1) i j n))) (wO g a (cof (lnF 1) (leF 1) (lnF 1) (leF 1) i j n) tr ++ (wH g a ++ (wS g (a 15) (a 16) (lnF 1) (leF 1) (if cok (lnF 1) (leF 1) (lnF 1) (leF 1) i j n then va_cpy (ceF 1) (ceF 1) (tn i) (tn j) (tn n) else ceF 1)))) := by
  refine z_met (own := RX4) (cc := cX4_copy) (maxL := 8) (ret := some .int) (by decide +kernel) rfl rfl (Nat.le_of_ble_eq_true rfl) ?_
  intro M X ZF
  refine z_Le (L' := [(0, .ref (a 0)), (1, .int (nI 1)), (2, .int i), (3, .int (nI 1)), (4, .int j), (5, .int n)]) rfl ?_
  have i_RX4 : ∀ w ∈ wsX40, w ∈ wsX4_copy := by decide +kernel
  have f_32 : Cond.fieldLink RX4 32 (TX4 3).1 (TX4 3).2.1 (TX4 3).2.2.1 ∈ wsX4_copy := by decide +kernel
  refine z_aload_n X dX4_copy_0 rfl 0 rfl ?_
  refine z_iconst (v := nI 0) X dX4_copy_1 (by decide) ?_
  refine z_put (ws' := (wO g a (nI 0) tr ++ (wH g a ++ (wS g (a 15) (a 16) (lnF 1) (leF 1) (ceF 1))))) (N := 5) X i_RX4 (ci := 3) rfl tyX4 tyX4_ok nmX4 0 rfl 3 (by decide) f_32 rfl (ty := .int) (by decide +kernel) rfl rfl (Nat.le_of_ble_eq_true rfl) dX4_copy_2 rfl ?_
  refine z_aload_n X dX4_copy_5 rfl 0 rfl ?_
  refine z_iload_n X dX4_copy_6 rfl 1 rfl ?_
  refine z_callV X (c_X4_sheetAt_in l g a (nI 0) tr 1 (by omega)) gX4_copy_X4_sheetAt rfl ⟨rfl, rfl⟩ (by decide +kernel) ⟨Nat.le_of_ble_eq_true rfl, Nat.le_of_ble_eq_true rfl⟩ ZF.room (ci := 3) rfl 0 rfl (isC := [0, 1]) (by decide) rfl rfl (ws' := (wO g a (nI 0) tr ++ (wH g a ++ (wS g (a 15) (a 16) (lnF 1) (leF 1) (ceF 1))))) rfl (As := [.int (nI 1)]) (n := 1) rfl rfl (st1 := [.ref (a 15)]) rfl (Nat.le_of_ble_eq_true rfl) dX4_copy_7 ?_
  refine z_astore (L' := [(6, .ref (a 15)), (0, .ref (a 0)), (1, .int (nI 1)), (2, .int i), (3, .int (nI 1)), (4, .int j), (5, .int n)]) X dX4_copy_10 (by decide) rfl ?_
  refine z_aload_n X dX4_copy_12 rfl 1 rfl ?_
  refine z_iload_n X dX4_copy_13 rfl 4 rfl ?_
  refine z_callV X (c_X4_sheetAt_in l g a (nI 0) tr 1 (by omega)) gX4_copy_X4_sheetAt rfl ⟨rfl, rfl⟩ (by decide +kernel) ⟨Nat.le_of_ble_eq_true rfl, Nat.le_of_ble_eq_true rfl⟩ ZF.room (ci := 3) rfl 0 rfl (isC := [0, 1]) (by decide) rfl rfl (ws' := (wO g a (nI 0) tr ++ (wH g a ++ (wS g (a 15) (a 16) (lnF 1) (leF 1) (ceF 1))))) rfl (As := [.int (nI 1)]) (n := 1) rfl rfl (st1 := [.ref (a 15)]) rfl (Nat.le_of_ble_eq_true rfl) dX4_copy_14 ?_
  refine z_astore (L' := [(7, .ref (a 15)), (6, .ref (a 15)), (0, .ref (a 0)), (1, .int (nI 1)), (2, .int i), (3, .int (nI 1)), (4, .int j), (5, .int n)]) X dX4_copy_17 (by decide) rfl ?_
  refine z_aload X dX4_copy_19 1 rfl ?_
  refine z_ifnull X dX4_copy_21 ?_
  refine z_aload X dX4_copy_24 0 rfl ?_
  refine z_ifnonnull (tgt := 31) X dX4_copy_26 (by decide) ?_
  refine z_aload X dX4_copy_31 1 rfl ?_
  refine z_callV X (c_X2_hasRow l g (a 15) (a 16) (lnF 1) (leF 1) (ceF 1)) gX4_copy_X2_hasRow rfl ⟨rfl, rfl⟩ (by decide +kernel) ⟨Nat.le_of_ble_eq_true rfl, Nat.le_of_ble_eq_true rfl⟩ ZF.room (ci := 2) rfl 2 rfl (isC := [2, 3]) (by decide) rfl rfl (ws' := (wO g a (nI 0) tr ++ (wH g a ++ (wS g (a 15) (a 16) (lnF 1) (leF 1) (ceF 1))))) rfl (As := []) (n := 0) rfl rfl (st1 := [.int (bI (!decide ((leF 1) = (-1))))]) rfl (Nat.le_of_ble_eq_true rfl) dX4_copy_33 ?_
  refine z_if_eqB (tgt := 47) X dX4_copy_36 (by decide) (fun hq1 => ?_) (fun hq1 => ?_)
  ·
    have hq2 : (decide ((leF 1) = (-1))) = true := by simpa using hq1
    have hq3 : ((leF 1) = (-1)) := of_decide_eq_true hq2
    refine z_aload_n X dX4_copy_47 rfl 2 rfl ?_
    refine z_iconst (v := nI 1) X dX4_copy_48 (by decide) ?_
    refine z_callV X (c_X4_faulted l g a (nI 0) tr (nI 1)) gX4_copy_X4_faulted rfl ⟨rfl, rfl⟩ (by decide +kernel) ⟨Nat.le_of_ble_eq_true rfl, Nat.le_of_ble_eq_true rfl⟩ ZF.room (ci := 3) rfl 0 rfl (isC := [0]) (by decide) rfl rfl (ws' := (wO g a (nI 1) tr ++ (wH g a ++ (wS g (a 15) (a 16) (lnF 1) (leF 1) (ceF 1))))) rfl (As := [.int (nI 1)]) (n := 1) rfl rfl (st1 := [.int ((-10) - (nI 1))]) rfl (Nat.le_of_ble_eq_true rfl) dX4_copy_49 ?_
    have e4 : (cof (lnF 1) (leF 1) (lnF 1) (leF 1) i j n) = (nI 1) := by first | (simp [cor, cof, cok, hq3]; done) | (simp [cor, cof, cok, hq3]; decide)
    have e5 : (if cok (lnF 1) (leF 1) (lnF 1) (leF 1) i j n then va_cpy (ceF 1) (ceF 1) (tn i) (tn j) (tn n) else ceF 1) = (ceF 1) := by first | (simp [cor, cof, cok, hq3]; done) | (simp [cor, cof, cok, hq3]; decide)
    exact z_iret X ZF dX4_copy_52 (by first | (simp [cor, cof, cok, hq3]; done) | (simp [cor, cof, cok, hq3]; decide)) (by first | rw [e5, e4] | (simp only [e5, e4]))
  ·
    have hq6 : (decide ((leF 1) = (-1))) = false := by simpa using hq1
    have hq7 : ¬ ((leF 1) = (-1)) := of_decide_eq_false hq6
    refine z_aload X dX4_copy_39 0 rfl ?_
    refine z_callV X (c_X2_hasRow l g (a 15) (a 16) (lnF 1) (leF 1) (ceF 1)) gX4_copy_X2_hasRow rfl ⟨rfl, rfl⟩ (by decide +kernel) ⟨Nat.le_of_ble_eq_true rfl, Nat.le_of_ble_eq_true rfl⟩ ZF.room (ci := 2) rfl 2 rfl (isC := [2, 3]) (by decide) rfl rfl (ws' := (wO g a (nI 0) tr ++ (wH g a ++ (wS g (a 15) (a 16) (lnF 1) (leF 1) (ceF 1))))) rfl (As := []) (n := 0) rfl rfl (st1 := [.int (bI (!decide ((leF 1) = (-1))))]) rfl (Nat.le_of_ble_eq_true rfl) dX4_copy_41 ?_
    refine z_if_neB (tgt := 53) X dX4_copy_44 (by decide) (fun hq8 => ?_) (fun hq8 => ?_)
    ·
      have hq9 : (decide ((leF 1) = (-1))) = false := by simpa using hq8
      refine z_aload X dX4_copy_53 1 rfl ?_
      refine z_callV X (c_X2_rowLane l g (a 15) (a 16) (lnF 1) (leF 1) (ceF 1)) gX4_copy_X2_rowLane rfl ⟨rfl, rfl⟩ (by decide +kernel) ⟨Nat.le_of_ble_eq_true rfl, Nat.le_of_ble_eq_true rfl⟩ ZF.room (ci := 2) rfl 2 rfl (isC := [2, 3]) (by decide) rfl rfl (ws' := (wO g a (nI 0) tr ++ (wH g a ++ (wS g (a 15) (a 16) (lnF 1) (leF 1) (ceF 1))))) rfl (As := []) (n := 0) rfl rfl (st1 := [.int (lnF 1)]) rfl (Nat.le_of_ble_eq_true rfl) dX4_copy_55 ?_
      refine z_aload X dX4_copy_58 0 rfl ?_
      refine z_callV X (c_X2_rowLane l g (a 15) (a 16) (lnF 1) (leF 1) (ceF 1)) gX4_copy_X2_rowLane rfl ⟨rfl, rfl⟩ (by decide +kernel) ⟨Nat.le_of_ble_eq_true rfl, Nat.le_of_ble_eq_true rfl⟩ ZF.room (ci := 2) rfl 2 rfl (isC := [2, 3]) (by decide) rfl rfl (ws' := (wO g a (nI 0) tr ++ (wH g a ++ (wS g (a 15) (a 16) (lnF 1) (leF 1) (ceF 1))))) rfl (As := []) (n := 0) rfl rfl (st1 := [.int (lnF 1), .int (lnF 1)]) rfl (Nat.le_of_ble_eq_true rfl) dX4_copy_60 ?_
      refine z_icmp_eq (tgt := 72) X dX4_copy_63 (by decide) (fun hq10 => ?_) (fun hq10 => ?_)
      ·
        refine z_aload X dX4_copy_72 1 rfl ?_
        refine z_iload_n X dX4_copy_74 rfl 4 rfl ?_
        refine z_iload X dX4_copy_75 7 rfl ?_
        refine z_callV X (c_X2_hasCells l g (a 15) (a 16) (lnF 1) (leF 1) (ceF 1) i n) gX4_copy_X2_hasCells rfl ⟨rfl, rfl⟩ (by decide +kernel) ⟨Nat.le_of_ble_eq_true rfl, Nat.le_of_ble_eq_true rfl⟩ ZF.room (ci := 2) rfl 2 rfl (isC := [2, 3]) (by decide) rfl rfl (ws' := (wO g a (nI 0) tr ++ (wH g a ++ (wS g (a 15) (a 16) (lnF 1) (leF 1) (ceF 1))))) rfl (As := [.int i, .int n]) (n := 2) rfl rfl (st1 := [.int (bI (hcl (leF 1) i n))]) rfl (Nat.le_of_ble_eq_true rfl) dX4_copy_77 ?_
        refine z_if_eqB (tgt := 95) X dX4_copy_80 (by decide) (fun hq11 => ?_) (fun hq11 => ?_)
        ·
          refine z_aload_n X dX4_copy_95 rfl 2 rfl ?_
          refine z_iconst (v := nI 3) X dX4_copy_96 (by decide) ?_
          refine z_callV X (c_X4_faulted l g a (nI 0) tr (nI 3)) gX4_copy_X4_faulted rfl ⟨rfl, rfl⟩ (by decide +kernel) ⟨Nat.le_of_ble_eq_true rfl, Nat.le_of_ble_eq_true rfl⟩ ZF.room (ci := 3) rfl 0 rfl (isC := [0]) (by decide) rfl rfl (ws' := (wO g a (nI 3) tr ++ (wH g a ++ (wS g (a 15) (a 16) (lnF 1) (leF 1) (ceF 1))))) rfl (As := [.int (nI 3)]) (n := 1) rfl rfl (st1 := [.int ((-10) - (nI 3))]) rfl (Nat.le_of_ble_eq_true rfl) dX4_copy_97 ?_
          have e12 : (cof (lnF 1) (leF 1) (lnF 1) (leF 1) i j n) = (nI 3) := by first | (simp [cor, cof, cok, hq7, hq10, hq11]; done) | (simp [cor, cof, cok, hq7, hq10, hq11]; decide)
          have e13 : (if cok (lnF 1) (leF 1) (lnF 1) (leF 1) i j n then va_cpy (ceF 1) (ceF 1) (tn i) (tn j) (tn n) else ceF 1) = (ceF 1) := by first | (simp [cor, cof, cok, hq7, hq10, hq11]; done) | (simp [cor, cof, cok, hq7, hq10, hq11]; decide)
          exact z_iret X ZF dX4_copy_100 (by first | (simp [cor, cof, cok, hq7, hq10, hq11]; done) | (simp [cor, cof, cok, hq7, hq10, hq11]; decide)) (by first | rw [e13, e12] | (simp only [e13, e12]))
        ·
          refine z_aload X dX4_copy_83 0 rfl ?_
          refine z_iload X dX4_copy_85 6 rfl ?_
          refine z_iload X dX4_copy_87 7 rfl ?_
          refine z_callV X (c_X2_hasCells l g (a 15) (a 16) (lnF 1) (leF 1) (ceF 1) j n) gX4_copy_X2_hasCells rfl ⟨rfl, rfl⟩ (by decide +kernel) ⟨Nat.le_of_ble_eq_true rfl, Nat.le_of_ble_eq_true rfl⟩ ZF.room (ci := 2) rfl 2 rfl (isC := [2, 3]) (by decide) rfl rfl (ws' := (wO g a (nI 0) tr ++ (wH g a ++ (wS g (a 15) (a 16) (lnF 1) (leF 1) (ceF 1))))) rfl (As := [.int j, .int n]) (n := 2) rfl rfl (st1 := [.int (bI (hcl (leF 1) j n))]) rfl (Nat.le_of_ble_eq_true rfl) dX4_copy_89 ?_
          refine z_if_neB (tgt := 101) X dX4_copy_92 (by decide) (fun hq14 => ?_) (fun hq14 => ?_)
          ·
            obtain ⟨i_a, n_a, ei_a, en_a, m_a, hm_a, him_a, hin_a⟩ := hcl_t hle hq11
            subst ei_a; subst en_a
            obtain ⟨j_a, ej_a, m_b, hm_b, hmb_b, hjn_b⟩ := hcl_t2 (by omega) hle2 hq14
            subst ej_a
            have hti_a : tn (nI i_a) = i_a := nI_clamp (by omega)
            have htn_a : tn (nI n_a) = n_a := nI_clamp (by omega)
            have htj_a : tn (nI j_a) = j_a := nI_clamp (by omega)
            refine z_aload X dX4_copy_101 1 rfl ?_
            refine z_iload_n X dX4_copy_103 rfl 4 rfl ?_
            refine z_aload X dX4_copy_104 0 rfl ?_
            refine z_iload X dX4_copy_106 6 rfl ?_
            refine z_iload X dX4_copy_108 7 rfl ?_
            refine z_callV X (c_X2_copyTo_one l g (a 15) (a 16) (lnF 1) (leF 1) (ceF 1) i_a j_a n_a (by omega) (by omega) (by first | assumption | omega) (by first | assumption | omega)) gX4_copy_X2_copyTo rfl ⟨rfl, rfl⟩ (by decide +kernel) ⟨Nat.le_of_ble_eq_true rfl, Nat.le_of_ble_eq_true rfl⟩ ZF.room (ci := 2) rfl 2 rfl (isC := [2, 3]) (by decide) rfl rfl (ws' := (wO g a (nI 0) tr ++ (wH g a ++ (wS g (a 15) (a 16) (lnF 1) (leF 1) (va_cpy (ceF 1) (ceF 1) i_a j_a n_a))))) rfl (As := [.int (nI i_a), .ref (a 15), .int (nI j_a), .int (nI n_a)]) (n := 4) rfl rfl (st1 := []) rfl (Nat.le_of_ble_eq_true rfl) dX4_copy_110 ?_
            refine z_iload X dX4_copy_113 7 rfl ?_
            have e15 : (cof (lnF 1) (leF 1) (lnF 1) (leF 1) (nI i_a) (nI j_a) (nI n_a)) = (nI 0) := by first | (simp [cor, cof, cok, hq7, hq10, hq11, hti_a, htn_a, htj_a, hq14]; done) | (simp [cor, cof, cok, hq7, hq10, hq11, hti_a, htn_a, htj_a, hq14]; decide)
            have e16 : (if cok (lnF 1) (leF 1) (lnF 1) (leF 1) (nI i_a) (nI j_a) (nI n_a) then va_cpy (ceF 1) (ceF 1) (tn (nI i_a)) (tn (nI j_a)) (tn (nI n_a)) else ceF 1) = (va_cpy (ceF 1) (ceF 1) i_a j_a n_a) := by first | (simp [cor, cof, cok, hq7, hq10, hq11, hti_a, htn_a, htj_a, hq14]; done) | (simp [cor, cof, cok, hq7, hq10, hq11, hti_a, htn_a, htj_a, hq14]; decide)
            exact z_iret X ZF dX4_copy_115 (by first | (simp [cor, cof, cok, hq7, hq10, hq11, hti_a, htn_a, htj_a, hq14]; done) | (simp [cor, cof, cok, hq7, hq10, hq11, hti_a, htn_a, htj_a, hq14]; decide)) (by first | rw [e16, e15] | (simp only [e16, e15]))
          ·
            refine z_aload_n X dX4_copy_95 rfl 2 rfl ?_
            refine z_iconst (v := nI 3) X dX4_copy_96 (by decide) ?_
            refine z_callV X (c_X4_faulted l g a (nI 0) tr (nI 3)) gX4_copy_X4_faulted rfl ⟨rfl, rfl⟩ (by decide +kernel) ⟨Nat.le_of_ble_eq_true rfl, Nat.le_of_ble_eq_true rfl⟩ ZF.room (ci := 3) rfl 0 rfl (isC := [0]) (by decide) rfl rfl (ws' := (wO g a (nI 3) tr ++ (wH g a ++ (wS g (a 15) (a 16) (lnF 1) (leF 1) (ceF 1))))) rfl (As := [.int (nI 3)]) (n := 1) rfl rfl (st1 := [.int ((-10) - (nI 3))]) rfl (Nat.le_of_ble_eq_true rfl) dX4_copy_97 ?_
            have e17 : (cof (lnF 1) (leF 1) (lnF 1) (leF 1) i j n) = (nI 3) := by first | (simp [cor, cof, cok, hq7, hq10, hq11, hq14]; done) | (simp [cor, cof, cok, hq7, hq10, hq11, hq14]; decide)
            have e18 : (if cok (lnF 1) (leF 1) (lnF 1) (leF 1) i j n then va_cpy (ceF 1) (ceF 1) (tn i) (tn j) (tn n) else ceF 1) = (ceF 1) := by first | (simp [cor, cof, cok, hq7, hq10, hq11, hq14]; done) | (simp [cor, cof, cok, hq7, hq10, hq11, hq14]; decide)
            exact z_iret X ZF dX4_copy_100 (by first | (simp [cor, cof, cok, hq7, hq10, hq11, hq14]; done) | (simp [cor, cof, cok, hq7, hq10, hq11, hq14]; decide)) (by first | rw [e18, e17] | (simp only [e18, e17]))
      ·
        exact absurd rfl hq10
    ·
      have hq19 : (decide ((leF 1) = (-1))) = true := by simpa using hq8
      exact absurd (hq6.symm.trans hq19) (by decide)
abbrev rX4_copy_12 : Room := { frames := 2, cells := 0, slots := 0, locals := 46 }
set_option maxHeartbeats 4000000 in
set_option maxRecDepth 100000 in
theorem c_X4_copy_12 (l : Launch) (g : zg) (a : Nat → Nat) (ft : Int32) (tr : Int32) (lnF : Nat → Int32) (leF : Nat → Int32) (ceF : Nat → Nat → Int32) (i : Int32) (j : Int32) (n : Int32) (hle : vle (leF 1)) (hle2 : vle (leF 2)) : zM l g yX4_copy wsX4_copy rX4_copy_12 [.ref (a 0), .int (nI 1), .int i, .int (nI 2), .int j, .int n] (wO g a ft tr ++ (wH g a ++ (wS g (a 15) (a 16) (lnF 1) (leF 1) (ceF 1) ++ (wS g (a 17) (a 18) (lnF 2) (leF 2) (ceF 2))))) (some (.int (cor (lnF 1) (leF 1) (lnF 2) (leF 2) i j n))) (wO g a (cof (lnF 1) (leF 1) (lnF 2) (leF 2) i j n) tr ++ (wH g a ++ (wS g (a 15) (a 16) (lnF 1) (leF 1) (ceF 1) ++ (wS g (a 17) (a 18) (lnF 2) (leF 2) (if cok (lnF 1) (leF 1) (lnF 2) (leF 2) i j n then va_cpy (ceF 1) (ceF 2) (tn i) (tn j) (tn n) else ceF 2))))) := by
  refine z_met (own := RX4) (cc := cX4_copy) (maxL := 8) (ret := some .int) (by decide +kernel) rfl rfl (Nat.le_of_ble_eq_true rfl) ?_
  intro M X ZF
  refine z_Le (L' := [(0, .ref (a 0)), (1, .int (nI 1)), (2, .int i), (3, .int (nI 2)), (4, .int j), (5, .int n)]) rfl ?_
  have i_RX4 : ∀ w ∈ wsX40, w ∈ wsX4_copy := by decide +kernel
  have f_32 : Cond.fieldLink RX4 32 (TX4 3).1 (TX4 3).2.1 (TX4 3).2.2.1 ∈ wsX4_copy := by decide +kernel
  refine z_aload_n X dX4_copy_0 rfl 0 rfl ?_
  refine z_iconst (v := nI 0) X dX4_copy_1 (by decide) ?_
  refine z_put (ws' := (wO g a (nI 0) tr ++ (wH g a ++ (wS g (a 15) (a 16) (lnF 1) (leF 1) (ceF 1) ++ (wS g (a 17) (a 18) (lnF 2) (leF 2) (ceF 2)))))) (N := 5) X i_RX4 (ci := 3) rfl tyX4 tyX4_ok nmX4 0 rfl 3 (by decide) f_32 rfl (ty := .int) (by decide +kernel) rfl rfl (Nat.le_of_ble_eq_true rfl) dX4_copy_2 rfl ?_
  refine z_aload_n X dX4_copy_5 rfl 0 rfl ?_
  refine z_iload_n X dX4_copy_6 rfl 1 rfl ?_
  refine z_callV X (c_X4_sheetAt_in l g a (nI 0) tr 1 (by omega)) gX4_copy_X4_sheetAt rfl ⟨rfl, rfl⟩ (by decide +kernel) ⟨Nat.le_of_ble_eq_true rfl, Nat.le_of_ble_eq_true rfl⟩ ZF.room (ci := 3) rfl 0 rfl (isC := [0, 1]) (by decide) rfl rfl (ws' := (wO g a (nI 0) tr ++ (wH g a ++ (wS g (a 15) (a 16) (lnF 1) (leF 1) (ceF 1) ++ (wS g (a 17) (a 18) (lnF 2) (leF 2) (ceF 2)))))) rfl (As := [.int (nI 1)]) (n := 1) rfl rfl (st1 := [.ref (a 15)]) rfl (Nat.le_of_ble_eq_true rfl) dX4_copy_7 ?_
  refine z_astore (L' := [(6, .ref (a 15)), (0, .ref (a 0)), (1, .int (nI 1)), (2, .int i), (3, .int (nI 2)), (4, .int j), (5, .int n)]) X dX4_copy_10 (by decide) rfl ?_
  refine z_aload_n X dX4_copy_12 rfl 1 rfl ?_
  refine z_iload_n X dX4_copy_13 rfl 4 rfl ?_
  refine z_callV X (c_X4_sheetAt_in l g a (nI 0) tr 2 (by omega)) gX4_copy_X4_sheetAt rfl ⟨rfl, rfl⟩ (by decide +kernel) ⟨Nat.le_of_ble_eq_true rfl, Nat.le_of_ble_eq_true rfl⟩ ZF.room (ci := 3) rfl 0 rfl (isC := [0, 1]) (by decide) rfl rfl (ws' := (wO g a (nI 0) tr ++ (wH g a ++ (wS g (a 15) (a 16) (lnF 1) (leF 1) (ceF 1) ++ (wS g (a 17) (a 18) (lnF 2) (leF 2) (ceF 2)))))) rfl (As := [.int (nI 2)]) (n := 1) rfl rfl (st1 := [.ref (a 17)]) rfl (Nat.le_of_ble_eq_true rfl) dX4_copy_14 ?_
  refine z_astore (L' := [(7, .ref (a 17)), (6, .ref (a 15)), (0, .ref (a 0)), (1, .int (nI 1)), (2, .int i), (3, .int (nI 2)), (4, .int j), (5, .int n)]) X dX4_copy_17 (by decide) rfl ?_
  refine z_aload X dX4_copy_19 1 rfl ?_
  refine z_ifnull X dX4_copy_21 ?_
  refine z_aload X dX4_copy_24 0 rfl ?_
  refine z_ifnonnull (tgt := 31) X dX4_copy_26 (by decide) ?_
  refine z_aload X dX4_copy_31 1 rfl ?_
  refine z_callV X (c_X2_hasRow l g (a 15) (a 16) (lnF 1) (leF 1) (ceF 1)) gX4_copy_X2_hasRow rfl ⟨rfl, rfl⟩ (by decide +kernel) ⟨Nat.le_of_ble_eq_true rfl, Nat.le_of_ble_eq_true rfl⟩ ZF.room (ci := 2) rfl 2 rfl (isC := [2, 3]) (by decide) rfl rfl (ws' := (wO g a (nI 0) tr ++ (wH g a ++ (wS g (a 15) (a 16) (lnF 1) (leF 1) (ceF 1) ++ (wS g (a 17) (a 18) (lnF 2) (leF 2) (ceF 2)))))) rfl (As := []) (n := 0) rfl rfl (st1 := [.int (bI (!decide ((leF 1) = (-1))))]) rfl (Nat.le_of_ble_eq_true rfl) dX4_copy_33 ?_
  refine z_if_eqB (tgt := 47) X dX4_copy_36 (by decide) (fun hq1 => ?_) (fun hq1 => ?_)
  ·
    have hq2 : (decide ((leF 1) = (-1))) = true := by simpa using hq1
    have hq3 : ((leF 1) = (-1)) := of_decide_eq_true hq2
    refine z_aload_n X dX4_copy_47 rfl 2 rfl ?_
    refine z_iconst (v := nI 1) X dX4_copy_48 (by decide) ?_
    refine z_callV X (c_X4_faulted l g a (nI 0) tr (nI 1)) gX4_copy_X4_faulted rfl ⟨rfl, rfl⟩ (by decide +kernel) ⟨Nat.le_of_ble_eq_true rfl, Nat.le_of_ble_eq_true rfl⟩ ZF.room (ci := 3) rfl 0 rfl (isC := [0]) (by decide) rfl rfl (ws' := (wO g a (nI 1) tr ++ (wH g a ++ (wS g (a 15) (a 16) (lnF 1) (leF 1) (ceF 1) ++ (wS g (a 17) (a 18) (lnF 2) (leF 2) (ceF 2)))))) rfl (As := [.int (nI 1)]) (n := 1) rfl rfl (st1 := [.int ((-10) - (nI 1))]) rfl (Nat.le_of_ble_eq_true rfl) dX4_copy_49 ?_
    have e4 : (cof (lnF 1) (leF 1) (lnF 2) (leF 2) i j n) = (nI 1) := by first | (simp [cor, cof, cok, hq3]; done) | (simp [cor, cof, cok, hq3]; decide)
    have e5 : (if cok (lnF 1) (leF 1) (lnF 2) (leF 2) i j n then va_cpy (ceF 1) (ceF 2) (tn i) (tn j) (tn n) else ceF 2) = (ceF 2) := by first | (simp [cor, cof, cok, hq3]; done) | (simp [cor, cof, cok, hq3]; decide)
    exact z_iret X ZF dX4_copy_52 (by first | (simp [cor, cof, cok, hq3]; done) | (simp [cor, cof, cok, hq3]; decide)) (by first | rw [e5, e4] | (simp only [e5, e4]))
  ·
    have hq6 : (decide ((leF 1) = (-1))) = false := by simpa using hq1
    have hq7 : ¬ ((leF 1) = (-1)) := of_decide_eq_false hq6
    refine z_aload X dX4_copy_39 0 rfl ?_
    refine z_callV X (c_X2_hasRow l g (a 17) (a 18) (lnF 2) (leF 2) (ceF 2)) gX4_copy_X2_hasRow rfl ⟨rfl, rfl⟩ (by decide +kernel) ⟨Nat.le_of_ble_eq_true rfl, Nat.le_of_ble_eq_true rfl⟩ ZF.room (ci := 2) rfl 4 rfl (isC := [4, 5]) (by decide) rfl rfl (ws' := (wO g a (nI 0) tr ++ (wH g a ++ (wS g (a 15) (a 16) (lnF 1) (leF 1) (ceF 1) ++ (wS g (a 17) (a 18) (lnF 2) (leF 2) (ceF 2)))))) rfl (As := []) (n := 0) rfl rfl (st1 := [.int (bI (!decide ((leF 2) = (-1))))]) rfl (Nat.le_of_ble_eq_true rfl) dX4_copy_41 ?_
    refine z_if_neB (tgt := 53) X dX4_copy_44 (by decide) (fun hq8 => ?_) (fun hq8 => ?_)
    ·
      have hq9 : (decide ((leF 2) = (-1))) = false := by simpa using hq8
      have hq10 : ¬ ((leF 2) = (-1)) := of_decide_eq_false hq9
      refine z_aload X dX4_copy_53 1 rfl ?_
      refine z_callV X (c_X2_rowLane l g (a 15) (a 16) (lnF 1) (leF 1) (ceF 1)) gX4_copy_X2_rowLane rfl ⟨rfl, rfl⟩ (by decide +kernel) ⟨Nat.le_of_ble_eq_true rfl, Nat.le_of_ble_eq_true rfl⟩ ZF.room (ci := 2) rfl 2 rfl (isC := [2, 3]) (by decide) rfl rfl (ws' := (wO g a (nI 0) tr ++ (wH g a ++ (wS g (a 15) (a 16) (lnF 1) (leF 1) (ceF 1) ++ (wS g (a 17) (a 18) (lnF 2) (leF 2) (ceF 2)))))) rfl (As := []) (n := 0) rfl rfl (st1 := [.int (lnF 1)]) rfl (Nat.le_of_ble_eq_true rfl) dX4_copy_55 ?_
      refine z_aload X dX4_copy_58 0 rfl ?_
      refine z_callV X (c_X2_rowLane l g (a 17) (a 18) (lnF 2) (leF 2) (ceF 2)) gX4_copy_X2_rowLane rfl ⟨rfl, rfl⟩ (by decide +kernel) ⟨Nat.le_of_ble_eq_true rfl, Nat.le_of_ble_eq_true rfl⟩ ZF.room (ci := 2) rfl 4 rfl (isC := [4, 5]) (by decide) rfl rfl (ws' := (wO g a (nI 0) tr ++ (wH g a ++ (wS g (a 15) (a 16) (lnF 1) (leF 1) (ceF 1) ++ (wS g (a 17) (a 18) (lnF 2) (leF 2) (ceF 2)))))) rfl (As := []) (n := 0) rfl rfl (st1 := [.int (lnF 2), .int (lnF 1)]) rfl (Nat.le_of_ble_eq_true rfl) dX4_copy_60 ?_
      refine z_icmp_eq (tgt := 72) X dX4_copy_63 (by decide) (fun hq11 => ?_) (fun hq11 => ?_)
      ·
        refine z_aload X dX4_copy_72 1 rfl ?_
        refine z_iload_n X dX4_copy_74 rfl 4 rfl ?_
        refine z_iload X dX4_copy_75 7 rfl ?_
        refine z_callV X (c_X2_hasCells l g (a 15) (a 16) (lnF 1) (leF 1) (ceF 1) i n) gX4_copy_X2_hasCells rfl ⟨rfl, rfl⟩ (by decide +kernel) ⟨Nat.le_of_ble_eq_true rfl, Nat.le_of_ble_eq_true rfl⟩ ZF.room (ci := 2) rfl 2 rfl (isC := [2, 3]) (by decide) rfl rfl (ws' := (wO g a (nI 0) tr ++ (wH g a ++ (wS g (a 15) (a 16) (lnF 1) (leF 1) (ceF 1) ++ (wS g (a 17) (a 18) (lnF 2) (leF 2) (ceF 2)))))) rfl (As := [.int i, .int n]) (n := 2) rfl rfl (st1 := [.int (bI (hcl (leF 1) i n))]) rfl (Nat.le_of_ble_eq_true rfl) dX4_copy_77 ?_
        refine z_if_eqB (tgt := 95) X dX4_copy_80 (by decide) (fun hq12 => ?_) (fun hq12 => ?_)
        ·
          refine z_aload_n X dX4_copy_95 rfl 2 rfl ?_
          refine z_iconst (v := nI 3) X dX4_copy_96 (by decide) ?_
          refine z_callV X (c_X4_faulted l g a (nI 0) tr (nI 3)) gX4_copy_X4_faulted rfl ⟨rfl, rfl⟩ (by decide +kernel) ⟨Nat.le_of_ble_eq_true rfl, Nat.le_of_ble_eq_true rfl⟩ ZF.room (ci := 3) rfl 0 rfl (isC := [0]) (by decide) rfl rfl (ws' := (wO g a (nI 3) tr ++ (wH g a ++ (wS g (a 15) (a 16) (lnF 1) (leF 1) (ceF 1) ++ (wS g (a 17) (a 18) (lnF 2) (leF 2) (ceF 2)))))) rfl (As := [.int (nI 3)]) (n := 1) rfl rfl (st1 := [.int ((-10) - (nI 3))]) rfl (Nat.le_of_ble_eq_true rfl) dX4_copy_97 ?_
          have e13 : (cof (lnF 1) (leF 1) (lnF 2) (leF 2) i j n) = (nI 3) := by first | (simp [cor, cof, cok, hq7, hq10, hq11, hq12]; done) | (simp [cor, cof, cok, hq7, hq10, hq11, hq12]; decide)
          have e14 : (if cok (lnF 1) (leF 1) (lnF 2) (leF 2) i j n then va_cpy (ceF 1) (ceF 2) (tn i) (tn j) (tn n) else ceF 2) = (ceF 2) := by first | (simp [cor, cof, cok, hq7, hq10, hq11, hq12]; done) | (simp [cor, cof, cok, hq7, hq10, hq11, hq12]; decide)
          exact z_iret X ZF dX4_copy_100 (by first | (simp [cor, cof, cok, hq7, hq10, hq11, hq12]; done) | (simp [cor, cof, cok, hq7, hq10, hq11, hq12]; decide)) (by first | rw [e14, e13] | (simp only [e14, e13]))
        ·
          refine z_aload X dX4_copy_83 0 rfl ?_
          refine z_iload X dX4_copy_85 6 rfl ?_
          refine z_iload X dX4_copy_87 7 rfl ?_
          refine z_callV X (c_X2_hasCells l g (a 17) (a 18) (lnF 2) (leF 2) (ceF 2) j n) gX4_copy_X2_hasCells rfl ⟨rfl, rfl⟩ (by decide +kernel) ⟨Nat.le_of_ble_eq_true rfl, Nat.le_of_ble_eq_true rfl⟩ ZF.room (ci := 2) rfl 4 rfl (isC := [4, 5]) (by decide) rfl rfl (ws' := (wO g a (nI 0) tr ++ (wH g a ++ (wS g (a 15) (a 16) (lnF 1) (leF 1) (ceF 1) ++ (wS g (a 17) (a 18) (lnF 2) (leF 2) (ceF 2)))))) rfl (As := [.int j, .int n]) (n := 2) rfl rfl (st1 := [.int (bI (hcl (leF 2) j n))]) rfl (Nat.le_of_ble_eq_true rfl) dX4_copy_89 ?_
          refine z_if_neB (tgt := 101) X dX4_copy_92 (by decide) (fun hq15 => ?_) (fun hq15 => ?_)
          ·
            obtain ⟨i_a, n_a, ei_a, en_a, m_a, hm_a, him_a, hin_a⟩ := hcl_t hle hq12
            subst ei_a; subst en_a
            obtain ⟨j_a, ej_a, m_b, hm_b, hmb_b, hjn_b⟩ := hcl_t2 (by omega) hle2 hq15
            subst ej_a
            have hti_a : tn (nI i_a) = i_a := nI_clamp (by omega)
            have htn_a : tn (nI n_a) = n_a := nI_clamp (by omega)
            have htj_a : tn (nI j_a) = j_a := nI_clamp (by omega)
            refine z_aload X dX4_copy_101 1 rfl ?_
            refine z_iload_n X dX4_copy_103 rfl 4 rfl ?_
            refine z_aload X dX4_copy_104 0 rfl ?_
            refine z_iload X dX4_copy_106 6 rfl ?_
            refine z_iload X dX4_copy_108 7 rfl ?_
            refine z_callV X (c_X2_copyTo_two l g (a 15) (a 16) (a 17) (a 18) (lnF 1) (leF 1) (ceF 1) (lnF 2) (leF 2) (ceF 2) i_a j_a n_a (by omega) (by omega) (by first | assumption | omega) (by first | assumption | omega)) gX4_copy_X2_copyTo rfl ⟨rfl, rfl⟩ (by decide +kernel) ⟨Nat.le_of_ble_eq_true rfl, Nat.le_of_ble_eq_true rfl⟩ ZF.room (ci := 2) rfl 2 rfl (isC := [2, 3, 4, 5]) (by decide) rfl rfl (ws' := (wO g a (nI 0) tr ++ (wH g a ++ (wS g (a 15) (a 16) (lnF 1) (leF 1) (ceF 1) ++ (wS g (a 17) (a 18) (lnF 2) (leF 2) (va_cpy (ceF 1) (ceF 2) i_a j_a n_a)))))) rfl (As := [.int (nI i_a), .ref (a 17), .int (nI j_a), .int (nI n_a)]) (n := 4) rfl rfl (st1 := []) rfl (Nat.le_of_ble_eq_true rfl) dX4_copy_110 ?_
            refine z_iload X dX4_copy_113 7 rfl ?_
            have e16 : (cof (lnF 1) (leF 1) (lnF 2) (leF 2) (nI i_a) (nI j_a) (nI n_a)) = (nI 0) := by first | (simp [cor, cof, cok, hq7, hq10, hq11, hq12, hti_a, htn_a, htj_a, hq15]; done) | (simp [cor, cof, cok, hq7, hq10, hq11, hq12, hti_a, htn_a, htj_a, hq15]; decide)
            have e17 : (if cok (lnF 1) (leF 1) (lnF 2) (leF 2) (nI i_a) (nI j_a) (nI n_a) then va_cpy (ceF 1) (ceF 2) (tn (nI i_a)) (tn (nI j_a)) (tn (nI n_a)) else ceF 2) = (va_cpy (ceF 1) (ceF 2) i_a j_a n_a) := by first | (simp [cor, cof, cok, hq7, hq10, hq11, hq12, hti_a, htn_a, htj_a, hq15]; done) | (simp [cor, cof, cok, hq7, hq10, hq11, hq12, hti_a, htn_a, htj_a, hq15]; decide)
            exact z_iret X ZF dX4_copy_115 (by first | (simp [cor, cof, cok, hq7, hq10, hq11, hq12, hti_a, htn_a, htj_a, hq15]; done) | (simp [cor, cof, cok, hq7, hq10, hq11, hq12, hti_a, htn_a, htj_a, hq15]; decide)) (by first | rw [e17, e16] | (simp only [e17, e16]))
          ·
            refine z_aload_n X dX4_copy_95 rfl 2 rfl ?_
            refine z_iconst (v := nI 3) X dX4_copy_96 (by decide) ?_
            refine z_callV X (c_X4_faulted l g a (nI 0) tr (nI 3)) gX4_copy_X4_faulted rfl ⟨rfl, rfl⟩ (by decide +kernel) ⟨Nat.le_of_ble_eq_true rfl, Nat.le_of_ble_eq_true rfl⟩ ZF.room (ci := 3) rfl 0 rfl (isC := [0]) (by decide) rfl rfl (ws' := (wO g a (nI 3) tr ++ (wH g a ++ (wS g (a 15) (a 16) (lnF 1) (leF 1) (ceF 1) ++ (wS g (a 17) (a 18) (lnF 2) (leF 2) (ceF 2)))))) rfl (As := [.int (nI 3)]) (n := 1) rfl rfl (st1 := [.int ((-10) - (nI 3))]) rfl (Nat.le_of_ble_eq_true rfl) dX4_copy_97 ?_
            have e18 : (cof (lnF 1) (leF 1) (lnF 2) (leF 2) i j n) = (nI 3) := by first | (simp [cor, cof, cok, hq7, hq10, hq11, hq12, hq15]; done) | (simp [cor, cof, cok, hq7, hq10, hq11, hq12, hq15]; decide)
            have e19 : (if cok (lnF 1) (leF 1) (lnF 2) (leF 2) i j n then va_cpy (ceF 1) (ceF 2) (tn i) (tn j) (tn n) else ceF 2) = (ceF 2) := by first | (simp [cor, cof, cok, hq7, hq10, hq11, hq12, hq15]; done) | (simp [cor, cof, cok, hq7, hq10, hq11, hq12, hq15]; decide)
            exact z_iret X ZF dX4_copy_100 (by first | (simp [cor, cof, cok, hq7, hq10, hq11, hq12, hq15]; done) | (simp [cor, cof, cok, hq7, hq10, hq11, hq12, hq15]; decide)) (by first | rw [e19, e18] | (simp only [e19, e18]))
      ·
        refine z_aload_n X dX4_copy_66 rfl 2 rfl ?_
        refine z_iconst (v := nI 2) X dX4_copy_67 (by decide) ?_
        refine z_callV X (c_X4_faulted l g a (nI 0) tr (nI 2)) gX4_copy_X4_faulted rfl ⟨rfl, rfl⟩ (by decide +kernel) ⟨Nat.le_of_ble_eq_true rfl, Nat.le_of_ble_eq_true rfl⟩ ZF.room (ci := 3) rfl 0 rfl (isC := [0]) (by decide) rfl rfl (ws' := (wO g a (nI 2) tr ++ (wH g a ++ (wS g (a 15) (a 16) (lnF 1) (leF 1) (ceF 1) ++ (wS g (a 17) (a 18) (lnF 2) (leF 2) (ceF 2)))))) rfl (As := [.int (nI 2)]) (n := 1) rfl rfl (st1 := [.int ((-10) - (nI 2))]) rfl (Nat.le_of_ble_eq_true rfl) dX4_copy_68 ?_
        have e20 : (cof (lnF 1) (leF 1) (lnF 2) (leF 2) i j n) = (nI 2) := by first | (simp [cor, cof, cok, hq7, hq10, hq11]; done) | (simp [cor, cof, cok, hq7, hq10, hq11]; decide)
        have e21 : (if cok (lnF 1) (leF 1) (lnF 2) (leF 2) i j n then va_cpy (ceF 1) (ceF 2) (tn i) (tn j) (tn n) else ceF 2) = (ceF 2) := by first | (simp [cor, cof, cok, hq7, hq10, hq11]; done) | (simp [cor, cof, cok, hq7, hq10, hq11]; decide)
        exact z_iret X ZF dX4_copy_71 (by first | (simp [cor, cof, cok, hq7, hq10, hq11]; done) | (simp [cor, cof, cok, hq7, hq10, hq11]; decide)) (by first | rw [e21, e20] | (simp only [e21, e20]))
    ·
      have hq22 : (decide ((leF 2) = (-1))) = true := by simpa using hq8
      have hq23 : ((leF 2) = (-1)) := of_decide_eq_true hq22
      refine z_aload_n X dX4_copy_47 rfl 2 rfl ?_
      refine z_iconst (v := nI 1) X dX4_copy_48 (by decide) ?_
      refine z_callV X (c_X4_faulted l g a (nI 0) tr (nI 1)) gX4_copy_X4_faulted rfl ⟨rfl, rfl⟩ (by decide +kernel) ⟨Nat.le_of_ble_eq_true rfl, Nat.le_of_ble_eq_true rfl⟩ ZF.room (ci := 3) rfl 0 rfl (isC := [0]) (by decide) rfl rfl (ws' := (wO g a (nI 1) tr ++ (wH g a ++ (wS g (a 15) (a 16) (lnF 1) (leF 1) (ceF 1) ++ (wS g (a 17) (a 18) (lnF 2) (leF 2) (ceF 2)))))) rfl (As := [.int (nI 1)]) (n := 1) rfl rfl (st1 := [.int ((-10) - (nI 1))]) rfl (Nat.le_of_ble_eq_true rfl) dX4_copy_49 ?_
      have e24 : (cof (lnF 1) (leF 1) (lnF 2) (leF 2) i j n) = (nI 1) := by first | (simp [cor, cof, cok, hq7, hq23]; done) | (simp [cor, cof, cok, hq7, hq23]; decide)
      have e25 : (if cok (lnF 1) (leF 1) (lnF 2) (leF 2) i j n then va_cpy (ceF 1) (ceF 2) (tn i) (tn j) (tn n) else ceF 2) = (ceF 2) := by first | (simp [cor, cof, cok, hq7, hq23]; done) | (simp [cor, cof, cok, hq7, hq23]; decide)
      exact z_iret X ZF dX4_copy_52 (by first | (simp [cor, cof, cok, hq7, hq23]; done) | (simp [cor, cof, cok, hq7, hq23]; decide)) (by first | rw [e25, e24] | (simp only [e25, e24]))
abbrev rX4_copy_13 : Room := { frames := 2, cells := 0, slots := 0, locals := 46 }
set_option maxHeartbeats 4000000 in
set_option maxRecDepth 100000 in
theorem c_X4_copy_13 (l : Launch) (g : zg) (a : Nat → Nat) (ft : Int32) (tr : Int32) (lnF : Nat → Int32) (leF : Nat → Int32) (ceF : Nat → Nat → Int32) (i : Int32) (j : Int32) (n : Int32) (hle : vle (leF 1)) (hle2 : vle (leF 3)) : zM l g yX4_copy wsX4_copy rX4_copy_13 [.ref (a 0), .int (nI 1), .int i, .int (nI 3), .int j, .int n] (wO g a ft tr ++ (wH g a ++ (wS g (a 15) (a 16) (lnF 1) (leF 1) (ceF 1) ++ (wS g (a 19) (a 20) (lnF 3) (leF 3) (ceF 3))))) (some (.int (cor (lnF 1) (leF 1) (lnF 3) (leF 3) i j n))) (wO g a (cof (lnF 1) (leF 1) (lnF 3) (leF 3) i j n) tr ++ (wH g a ++ (wS g (a 15) (a 16) (lnF 1) (leF 1) (ceF 1) ++ (wS g (a 19) (a 20) (lnF 3) (leF 3) (if cok (lnF 1) (leF 1) (lnF 3) (leF 3) i j n then va_cpy (ceF 1) (ceF 3) (tn i) (tn j) (tn n) else ceF 3))))) := by
  refine z_met (own := RX4) (cc := cX4_copy) (maxL := 8) (ret := some .int) (by decide +kernel) rfl rfl (Nat.le_of_ble_eq_true rfl) ?_
  intro M X ZF
  refine z_Le (L' := [(0, .ref (a 0)), (1, .int (nI 1)), (2, .int i), (3, .int (nI 3)), (4, .int j), (5, .int n)]) rfl ?_
  have i_RX4 : ∀ w ∈ wsX40, w ∈ wsX4_copy := by decide +kernel
  have f_32 : Cond.fieldLink RX4 32 (TX4 3).1 (TX4 3).2.1 (TX4 3).2.2.1 ∈ wsX4_copy := by decide +kernel
  refine z_aload_n X dX4_copy_0 rfl 0 rfl ?_
  refine z_iconst (v := nI 0) X dX4_copy_1 (by decide) ?_
  refine z_put (ws' := (wO g a (nI 0) tr ++ (wH g a ++ (wS g (a 15) (a 16) (lnF 1) (leF 1) (ceF 1) ++ (wS g (a 19) (a 20) (lnF 3) (leF 3) (ceF 3)))))) (N := 5) X i_RX4 (ci := 3) rfl tyX4 tyX4_ok nmX4 0 rfl 3 (by decide) f_32 rfl (ty := .int) (by decide +kernel) rfl rfl (Nat.le_of_ble_eq_true rfl) dX4_copy_2 rfl ?_
  refine z_aload_n X dX4_copy_5 rfl 0 rfl ?_
  refine z_iload_n X dX4_copy_6 rfl 1 rfl ?_
  refine z_callV X (c_X4_sheetAt_in l g a (nI 0) tr 1 (by omega)) gX4_copy_X4_sheetAt rfl ⟨rfl, rfl⟩ (by decide +kernel) ⟨Nat.le_of_ble_eq_true rfl, Nat.le_of_ble_eq_true rfl⟩ ZF.room (ci := 3) rfl 0 rfl (isC := [0, 1]) (by decide) rfl rfl (ws' := (wO g a (nI 0) tr ++ (wH g a ++ (wS g (a 15) (a 16) (lnF 1) (leF 1) (ceF 1) ++ (wS g (a 19) (a 20) (lnF 3) (leF 3) (ceF 3)))))) rfl (As := [.int (nI 1)]) (n := 1) rfl rfl (st1 := [.ref (a 15)]) rfl (Nat.le_of_ble_eq_true rfl) dX4_copy_7 ?_
  refine z_astore (L' := [(6, .ref (a 15)), (0, .ref (a 0)), (1, .int (nI 1)), (2, .int i), (3, .int (nI 3)), (4, .int j), (5, .int n)]) X dX4_copy_10 (by decide) rfl ?_
  refine z_aload_n X dX4_copy_12 rfl 1 rfl ?_
  refine z_iload_n X dX4_copy_13 rfl 4 rfl ?_
  refine z_callV X (c_X4_sheetAt_in l g a (nI 0) tr 3 (by omega)) gX4_copy_X4_sheetAt rfl ⟨rfl, rfl⟩ (by decide +kernel) ⟨Nat.le_of_ble_eq_true rfl, Nat.le_of_ble_eq_true rfl⟩ ZF.room (ci := 3) rfl 0 rfl (isC := [0, 1]) (by decide) rfl rfl (ws' := (wO g a (nI 0) tr ++ (wH g a ++ (wS g (a 15) (a 16) (lnF 1) (leF 1) (ceF 1) ++ (wS g (a 19) (a 20) (lnF 3) (leF 3) (ceF 3)))))) rfl (As := [.int (nI 3)]) (n := 1) rfl rfl (st1 := [.ref (a 19)]) rfl (Nat.le_of_ble_eq_true rfl) dX4_copy_14 ?_
  refine z_astore (L' := [(7, .ref (a 19)), (6, .ref (a 15)), (0, .ref (a 0)), (1, .int (nI 1)), (2, .int i), (3, .int (nI 3)), (4, .int j), (5, .int n)]) X dX4_copy_17 (by decide) rfl ?_
  refine z_aload X dX4_copy_19 1 rfl ?_
  refine z_ifnull X dX4_copy_21 ?_
  refine z_aload X dX4_copy_24 0 rfl ?_
  refine z_ifnonnull (tgt := 31) X dX4_copy_26 (by decide) ?_
  refine z_aload X dX4_copy_31 1 rfl ?_
  refine z_callV X (c_X2_hasRow l g (a 15) (a 16) (lnF 1) (leF 1) (ceF 1)) gX4_copy_X2_hasRow rfl ⟨rfl, rfl⟩ (by decide +kernel) ⟨Nat.le_of_ble_eq_true rfl, Nat.le_of_ble_eq_true rfl⟩ ZF.room (ci := 2) rfl 2 rfl (isC := [2, 3]) (by decide) rfl rfl (ws' := (wO g a (nI 0) tr ++ (wH g a ++ (wS g (a 15) (a 16) (lnF 1) (leF 1) (ceF 1) ++ (wS g (a 19) (a 20) (lnF 3) (leF 3) (ceF 3)))))) rfl (As := []) (n := 0) rfl rfl (st1 := [.int (bI (!decide ((leF 1) = (-1))))]) rfl (Nat.le_of_ble_eq_true rfl) dX4_copy_33 ?_
  refine z_if_eqB (tgt := 47) X dX4_copy_36 (by decide) (fun hq1 => ?_) (fun hq1 => ?_)
  ·
    have hq2 : (decide ((leF 1) = (-1))) = true := by simpa using hq1
    have hq3 : ((leF 1) = (-1)) := of_decide_eq_true hq2
    refine z_aload_n X dX4_copy_47 rfl 2 rfl ?_
    refine z_iconst (v := nI 1) X dX4_copy_48 (by decide) ?_
    refine z_callV X (c_X4_faulted l g a (nI 0) tr (nI 1)) gX4_copy_X4_faulted rfl ⟨rfl, rfl⟩ (by decide +kernel) ⟨Nat.le_of_ble_eq_true rfl, Nat.le_of_ble_eq_true rfl⟩ ZF.room (ci := 3) rfl 0 rfl (isC := [0]) (by decide) rfl rfl (ws' := (wO g a (nI 1) tr ++ (wH g a ++ (wS g (a 15) (a 16) (lnF 1) (leF 1) (ceF 1) ++ (wS g (a 19) (a 20) (lnF 3) (leF 3) (ceF 3)))))) rfl (As := [.int (nI 1)]) (n := 1) rfl rfl (st1 := [.int ((-10) - (nI 1))]) rfl (Nat.le_of_ble_eq_true rfl) dX4_copy_49 ?_
    have e4 : (cof (lnF 1) (leF 1) (lnF 3) (leF 3) i j n) = (nI 1) := by first | (simp [cor, cof, cok, hq3]; done) | (simp [cor, cof, cok, hq3]; decide)
    have e5 : (if cok (lnF 1) (leF 1) (lnF 3) (leF 3) i j n then va_cpy (ceF 1) (ceF 3) (tn i) (tn j) (tn n) else ceF 3) = (ceF 3) := by first | (simp [cor, cof, cok, hq3]; done) | (simp [cor, cof, cok, hq3]; decide)
    exact z_iret X ZF dX4_copy_52 (by first | (simp [cor, cof, cok, hq3]; done) | (simp [cor, cof, cok, hq3]; decide)) (by first | rw [e5, e4] | (simp only [e5, e4]))
  ·
    have hq6 : (decide ((leF 1) = (-1))) = false := by simpa using hq1
    have hq7 : ¬ ((leF 1) = (-1)) := of_decide_eq_false hq6
    refine z_aload X dX4_copy_39 0 rfl ?_
    refine z_callV X (c_X2_hasRow l g (a 19) (a 20) (lnF 3) (leF 3) (ceF 3)) gX4_copy_X2_hasRow rfl ⟨rfl, rfl⟩ (by decide +kernel) ⟨Nat.le_of_ble_eq_true rfl, Nat.le_of_ble_eq_true rfl⟩ ZF.room (ci := 2) rfl 4 rfl (isC := [4, 5]) (by decide) rfl rfl (ws' := (wO g a (nI 0) tr ++ (wH g a ++ (wS g (a 15) (a 16) (lnF 1) (leF 1) (ceF 1) ++ (wS g (a 19) (a 20) (lnF 3) (leF 3) (ceF 3)))))) rfl (As := []) (n := 0) rfl rfl (st1 := [.int (bI (!decide ((leF 3) = (-1))))]) rfl (Nat.le_of_ble_eq_true rfl) dX4_copy_41 ?_
    refine z_if_neB (tgt := 53) X dX4_copy_44 (by decide) (fun hq8 => ?_) (fun hq8 => ?_)
    ·
      have hq9 : (decide ((leF 3) = (-1))) = false := by simpa using hq8
      have hq10 : ¬ ((leF 3) = (-1)) := of_decide_eq_false hq9
      refine z_aload X dX4_copy_53 1 rfl ?_
      refine z_callV X (c_X2_rowLane l g (a 15) (a 16) (lnF 1) (leF 1) (ceF 1)) gX4_copy_X2_rowLane rfl ⟨rfl, rfl⟩ (by decide +kernel) ⟨Nat.le_of_ble_eq_true rfl, Nat.le_of_ble_eq_true rfl⟩ ZF.room (ci := 2) rfl 2 rfl (isC := [2, 3]) (by decide) rfl rfl (ws' := (wO g a (nI 0) tr ++ (wH g a ++ (wS g (a 15) (a 16) (lnF 1) (leF 1) (ceF 1) ++ (wS g (a 19) (a 20) (lnF 3) (leF 3) (ceF 3)))))) rfl (As := []) (n := 0) rfl rfl (st1 := [.int (lnF 1)]) rfl (Nat.le_of_ble_eq_true rfl) dX4_copy_55 ?_
      refine z_aload X dX4_copy_58 0 rfl ?_
      refine z_callV X (c_X2_rowLane l g (a 19) (a 20) (lnF 3) (leF 3) (ceF 3)) gX4_copy_X2_rowLane rfl ⟨rfl, rfl⟩ (by decide +kernel) ⟨Nat.le_of_ble_eq_true rfl, Nat.le_of_ble_eq_true rfl⟩ ZF.room (ci := 2) rfl 4 rfl (isC := [4, 5]) (by decide) rfl rfl (ws' := (wO g a (nI 0) tr ++ (wH g a ++ (wS g (a 15) (a 16) (lnF 1) (leF 1) (ceF 1) ++ (wS g (a 19) (a 20) (lnF 3) (leF 3) (ceF 3)))))) rfl (As := []) (n := 0) rfl rfl (st1 := [.int (lnF 3), .int (lnF 1)]) rfl (Nat.le_of_ble_eq_true rfl) dX4_copy_60 ?_
      refine z_icmp_eq (tgt := 72) X dX4_copy_63 (by decide) (fun hq11 => ?_) (fun hq11 => ?_)
      ·
        refine z_aload X dX4_copy_72 1 rfl ?_
        refine z_iload_n X dX4_copy_74 rfl 4 rfl ?_
        refine z_iload X dX4_copy_75 7 rfl ?_
        refine z_callV X (c_X2_hasCells l g (a 15) (a 16) (lnF 1) (leF 1) (ceF 1) i n) gX4_copy_X2_hasCells rfl ⟨rfl, rfl⟩ (by decide +kernel) ⟨Nat.le_of_ble_eq_true rfl, Nat.le_of_ble_eq_true rfl⟩ ZF.room (ci := 2) rfl 2 rfl (isC := [2, 3]) (by decide) rfl rfl (ws' := (wO g a (nI 0) tr ++ (wH g a ++ (wS g (a 15) (a 16) (lnF 1) (leF 1) (ceF 1) ++ (wS g (a 19) (a 20) (lnF 3) (leF 3) (ceF 3)))))) rfl (As := [.int i, .int n]) (n := 2) rfl rfl (st1 := [.int (bI (hcl (leF 1) i n))]) rfl (Nat.le_of_ble_eq_true rfl) dX4_copy_77 ?_
        refine z_if_eqB (tgt := 95) X dX4_copy_80 (by decide) (fun hq12 => ?_) (fun hq12 => ?_)
        ·
          refine z_aload_n X dX4_copy_95 rfl 2 rfl ?_
          refine z_iconst (v := nI 3) X dX4_copy_96 (by decide) ?_
          refine z_callV X (c_X4_faulted l g a (nI 0) tr (nI 3)) gX4_copy_X4_faulted rfl ⟨rfl, rfl⟩ (by decide +kernel) ⟨Nat.le_of_ble_eq_true rfl, Nat.le_of_ble_eq_true rfl⟩ ZF.room (ci := 3) rfl 0 rfl (isC := [0]) (by decide) rfl rfl (ws' := (wO g a (nI 3) tr ++ (wH g a ++ (wS g (a 15) (a 16) (lnF 1) (leF 1) (ceF 1) ++ (wS g (a 19) (a 20) (lnF 3) (leF 3) (ceF 3)))))) rfl (As := [.int (nI 3)]) (n := 1) rfl rfl (st1 := [.int ((-10) - (nI 3))]) rfl (Nat.le_of_ble_eq_true rfl) dX4_copy_97 ?_
          have e13 : (cof (lnF 1) (leF 1) (lnF 3) (leF 3) i j n) = (nI 3) := by first | (simp [cor, cof, cok, hq7, hq10, hq11, hq12]; done) | (simp [cor, cof, cok, hq7, hq10, hq11, hq12]; decide)
          have e14 : (if cok (lnF 1) (leF 1) (lnF 3) (leF 3) i j n then va_cpy (ceF 1) (ceF 3) (tn i) (tn j) (tn n) else ceF 3) = (ceF 3) := by first | (simp [cor, cof, cok, hq7, hq10, hq11, hq12]; done) | (simp [cor, cof, cok, hq7, hq10, hq11, hq12]; decide)
          exact z_iret X ZF dX4_copy_100 (by first | (simp [cor, cof, cok, hq7, hq10, hq11, hq12]; done) | (simp [cor, cof, cok, hq7, hq10, hq11, hq12]; decide)) (by first | rw [e14, e13] | (simp only [e14, e13]))
        ·
          refine z_aload X dX4_copy_83 0 rfl ?_
          refine z_iload X dX4_copy_85 6 rfl ?_
          refine z_iload X dX4_copy_87 7 rfl ?_
          refine z_callV X (c_X2_hasCells l g (a 19) (a 20) (lnF 3) (leF 3) (ceF 3) j n) gX4_copy_X2_hasCells rfl ⟨rfl, rfl⟩ (by decide +kernel) ⟨Nat.le_of_ble_eq_true rfl, Nat.le_of_ble_eq_true rfl⟩ ZF.room (ci := 2) rfl 4 rfl (isC := [4, 5]) (by decide) rfl rfl (ws' := (wO g a (nI 0) tr ++ (wH g a ++ (wS g (a 15) (a 16) (lnF 1) (leF 1) (ceF 1) ++ (wS g (a 19) (a 20) (lnF 3) (leF 3) (ceF 3)))))) rfl (As := [.int j, .int n]) (n := 2) rfl rfl (st1 := [.int (bI (hcl (leF 3) j n))]) rfl (Nat.le_of_ble_eq_true rfl) dX4_copy_89 ?_
          refine z_if_neB (tgt := 101) X dX4_copy_92 (by decide) (fun hq15 => ?_) (fun hq15 => ?_)
          ·
            obtain ⟨i_a, n_a, ei_a, en_a, m_a, hm_a, him_a, hin_a⟩ := hcl_t hle hq12
            subst ei_a; subst en_a
            obtain ⟨j_a, ej_a, m_b, hm_b, hmb_b, hjn_b⟩ := hcl_t2 (by omega) hle2 hq15
            subst ej_a
            have hti_a : tn (nI i_a) = i_a := nI_clamp (by omega)
            have htn_a : tn (nI n_a) = n_a := nI_clamp (by omega)
            have htj_a : tn (nI j_a) = j_a := nI_clamp (by omega)
            refine z_aload X dX4_copy_101 1 rfl ?_
            refine z_iload_n X dX4_copy_103 rfl 4 rfl ?_
            refine z_aload X dX4_copy_104 0 rfl ?_
            refine z_iload X dX4_copy_106 6 rfl ?_
            refine z_iload X dX4_copy_108 7 rfl ?_
            refine z_callV X (c_X2_copyTo_two l g (a 15) (a 16) (a 19) (a 20) (lnF 1) (leF 1) (ceF 1) (lnF 3) (leF 3) (ceF 3) i_a j_a n_a (by omega) (by omega) (by first | assumption | omega) (by first | assumption | omega)) gX4_copy_X2_copyTo rfl ⟨rfl, rfl⟩ (by decide +kernel) ⟨Nat.le_of_ble_eq_true rfl, Nat.le_of_ble_eq_true rfl⟩ ZF.room (ci := 2) rfl 2 rfl (isC := [2, 3, 4, 5]) (by decide) rfl rfl (ws' := (wO g a (nI 0) tr ++ (wH g a ++ (wS g (a 15) (a 16) (lnF 1) (leF 1) (ceF 1) ++ (wS g (a 19) (a 20) (lnF 3) (leF 3) (va_cpy (ceF 1) (ceF 3) i_a j_a n_a)))))) rfl (As := [.int (nI i_a), .ref (a 19), .int (nI j_a), .int (nI n_a)]) (n := 4) rfl rfl (st1 := []) rfl (Nat.le_of_ble_eq_true rfl) dX4_copy_110 ?_
            refine z_iload X dX4_copy_113 7 rfl ?_
            have e16 : (cof (lnF 1) (leF 1) (lnF 3) (leF 3) (nI i_a) (nI j_a) (nI n_a)) = (nI 0) := by first | (simp [cor, cof, cok, hq7, hq10, hq11, hq12, hti_a, htn_a, htj_a, hq15]; done) | (simp [cor, cof, cok, hq7, hq10, hq11, hq12, hti_a, htn_a, htj_a, hq15]; decide)
            have e17 : (if cok (lnF 1) (leF 1) (lnF 3) (leF 3) (nI i_a) (nI j_a) (nI n_a) then va_cpy (ceF 1) (ceF 3) (tn (nI i_a)) (tn (nI j_a)) (tn (nI n_a)) else ceF 3) = (va_cpy (ceF 1) (ceF 3) i_a j_a n_a) := by first | (simp [cor, cof, cok, hq7, hq10, hq11, hq12, hti_a, htn_a, htj_a, hq15]; done) | (simp [cor, cof, cok, hq7, hq10, hq11, hq12, hti_a, htn_a, htj_a, hq15]; decide)
            exact z_iret X ZF dX4_copy_115 (by first | (simp [cor, cof, cok, hq7, hq10, hq11, hq12, hti_a, htn_a, htj_a, hq15]; done) | (simp [cor, cof, cok, hq7, hq10, hq11, hq12, hti_a, htn_a, htj_a, hq15]; decide)) (by first | rw [e17, e16] | (simp only [e17, e16]))
          ·
            refine z_aload_n X dX4_copy_95 rfl 2 rfl ?_
            refine z_iconst (v := nI 3) X dX4_copy_96 (by decide) ?_
            refine z_callV X (c_X4_faulted l g a (nI 0) tr (nI 3)) gX4_copy_X4_faulted rfl ⟨rfl, rfl⟩ (by decide +kernel) ⟨Nat.le_of_ble_eq_true rfl, Nat.le_of_ble_eq_true rfl⟩ ZF.room (ci := 3) rfl 0 rfl (isC := [0]) (by decide) rfl rfl (ws' := (wO g a (nI 3) tr ++ (wH g a ++ (wS g (a 15) (a 16) (lnF 1) (leF 1) (ceF 1) ++ (wS g (a 19) (a 20) (lnF 3) (leF 3) (ceF 3)))))) rfl (As := [.int (nI 3)]) (n := 1) rfl rfl (st1 := [.int ((-10) - (nI 3))]) rfl (Nat.le_of_ble_eq_true rfl) dX4_copy_97 ?_
            have e18 : (cof (lnF 1) (leF 1) (lnF 3) (leF 3) i j n) = (nI 3) := by first | (simp [cor, cof, cok, hq7, hq10, hq11, hq12, hq15]; done) | (simp [cor, cof, cok, hq7, hq10, hq11, hq12, hq15]; decide)
            have e19 : (if cok (lnF 1) (leF 1) (lnF 3) (leF 3) i j n then va_cpy (ceF 1) (ceF 3) (tn i) (tn j) (tn n) else ceF 3) = (ceF 3) := by first | (simp [cor, cof, cok, hq7, hq10, hq11, hq12, hq15]; done) | (simp [cor, cof, cok, hq7, hq10, hq11, hq12, hq15]; decide)
            exact z_iret X ZF dX4_copy_100 (by first | (simp [cor, cof, cok, hq7, hq10, hq11, hq12, hq15]; done) | (simp [cor, cof, cok, hq7, hq10, hq11, hq12, hq15]; decide)) (by first | rw [e19, e18] | (simp only [e19, e18]))
      ·
        refine z_aload_n X dX4_copy_66 rfl 2 rfl ?_
        refine z_iconst (v := nI 2) X dX4_copy_67 (by decide) ?_
        refine z_callV X (c_X4_faulted l g a (nI 0) tr (nI 2)) gX4_copy_X4_faulted rfl ⟨rfl, rfl⟩ (by decide +kernel) ⟨Nat.le_of_ble_eq_true rfl, Nat.le_of_ble_eq_true rfl⟩ ZF.room (ci := 3) rfl 0 rfl (isC := [0]) (by decide) rfl rfl (ws' := (wO g a (nI 2) tr ++ (wH g a ++ (wS g (a 15) (a 16) (lnF 1) (leF 1) (ceF 1) ++ (wS g (a 19) (a 20) (lnF 3) (leF 3) (ceF 3)))))) rfl (As := [.int (nI 2)]) (n := 1) rfl rfl (st1 := [.int ((-10) - (nI 2))]) rfl (Nat.le_of_ble_eq_true rfl) dX4_copy_68 ?_
        have e20 : (cof (lnF 1) (leF 1) (lnF 3) (leF 3) i j n) = (nI 2) := by first | (simp [cor, cof, cok, hq7, hq10, hq11]; done) | (simp [cor, cof, cok, hq7, hq10, hq11]; decide)
        have e21 : (if cok (lnF 1) (leF 1) (lnF 3) (leF 3) i j n then va_cpy (ceF 1) (ceF 3) (tn i) (tn j) (tn n) else ceF 3) = (ceF 3) := by first | (simp [cor, cof, cok, hq7, hq10, hq11]; done) | (simp [cor, cof, cok, hq7, hq10, hq11]; decide)
        exact z_iret X ZF dX4_copy_71 (by first | (simp [cor, cof, cok, hq7, hq10, hq11]; done) | (simp [cor, cof, cok, hq7, hq10, hq11]; decide)) (by first | rw [e21, e20] | (simp only [e21, e20]))
    ·
      have hq22 : (decide ((leF 3) = (-1))) = true := by simpa using hq8
      have hq23 : ((leF 3) = (-1)) := of_decide_eq_true hq22
      refine z_aload_n X dX4_copy_47 rfl 2 rfl ?_
      refine z_iconst (v := nI 1) X dX4_copy_48 (by decide) ?_
      refine z_callV X (c_X4_faulted l g a (nI 0) tr (nI 1)) gX4_copy_X4_faulted rfl ⟨rfl, rfl⟩ (by decide +kernel) ⟨Nat.le_of_ble_eq_true rfl, Nat.le_of_ble_eq_true rfl⟩ ZF.room (ci := 3) rfl 0 rfl (isC := [0]) (by decide) rfl rfl (ws' := (wO g a (nI 1) tr ++ (wH g a ++ (wS g (a 15) (a 16) (lnF 1) (leF 1) (ceF 1) ++ (wS g (a 19) (a 20) (lnF 3) (leF 3) (ceF 3)))))) rfl (As := [.int (nI 1)]) (n := 1) rfl rfl (st1 := [.int ((-10) - (nI 1))]) rfl (Nat.le_of_ble_eq_true rfl) dX4_copy_49 ?_
      have e24 : (cof (lnF 1) (leF 1) (lnF 3) (leF 3) i j n) = (nI 1) := by first | (simp [cor, cof, cok, hq7, hq23]; done) | (simp [cor, cof, cok, hq7, hq23]; decide)
      have e25 : (if cok (lnF 1) (leF 1) (lnF 3) (leF 3) i j n then va_cpy (ceF 1) (ceF 3) (tn i) (tn j) (tn n) else ceF 3) = (ceF 3) := by first | (simp [cor, cof, cok, hq7, hq23]; done) | (simp [cor, cof, cok, hq7, hq23]; decide)
      exact z_iret X ZF dX4_copy_52 (by first | (simp [cor, cof, cok, hq7, hq23]; done) | (simp [cor, cof, cok, hq7, hq23]; decide)) (by first | rw [e25, e24] | (simp only [e25, e24]))
abbrev rX4_copy_20 : Room := { frames := 2, cells := 0, slots := 0, locals := 46 }
set_option maxHeartbeats 4000000 in
set_option maxRecDepth 100000 in
theorem c_X4_copy_20 (l : Launch) (g : zg) (a : Nat → Nat) (ft : Int32) (tr : Int32) (lnF : Nat → Int32) (leF : Nat → Int32) (ceF : Nat → Nat → Int32) (i : Int32) (j : Int32) (n : Int32) (hle : vle (leF 2)) (hle2 : vle (leF 0)) : zM l g yX4_copy wsX4_copy rX4_copy_20 [.ref (a 0), .int (nI 2), .int i, .int (nI 0), .int j, .int n] (wO g a ft tr ++ (wH g a ++ (wS g (a 17) (a 18) (lnF 2) (leF 2) (ceF 2) ++ (wS g (a 13) (a 14) (lnF 0) (leF 0) (ceF 0))))) (some (.int (cor (lnF 2) (leF 2) (lnF 0) (leF 0) i j n))) (wO g a (cof (lnF 2) (leF 2) (lnF 0) (leF 0) i j n) tr ++ (wH g a ++ (wS g (a 17) (a 18) (lnF 2) (leF 2) (ceF 2) ++ (wS g (a 13) (a 14) (lnF 0) (leF 0) (if cok (lnF 2) (leF 2) (lnF 0) (leF 0) i j n then va_cpy (ceF 2) (ceF 0) (tn i) (tn j) (tn n) else ceF 0))))) := by
  refine z_met (own := RX4) (cc := cX4_copy) (maxL := 8) (ret := some .int) (by decide +kernel) rfl rfl (Nat.le_of_ble_eq_true rfl) ?_
  intro M X ZF
  refine z_Le (L' := [(0, .ref (a 0)), (1, .int (nI 2)), (2, .int i), (3, .int (nI 0)), (4, .int j), (5, .int n)]) rfl ?_
  have i_RX4 : ∀ w ∈ wsX40, w ∈ wsX4_copy := by decide +kernel
  have f_32 : Cond.fieldLink RX4 32 (TX4 3).1 (TX4 3).2.1 (TX4 3).2.2.1 ∈ wsX4_copy := by decide +kernel
  refine z_aload_n X dX4_copy_0 rfl 0 rfl ?_
  refine z_iconst (v := nI 0) X dX4_copy_1 (by decide) ?_
  refine z_put (ws' := (wO g a (nI 0) tr ++ (wH g a ++ (wS g (a 17) (a 18) (lnF 2) (leF 2) (ceF 2) ++ (wS g (a 13) (a 14) (lnF 0) (leF 0) (ceF 0)))))) (N := 5) X i_RX4 (ci := 3) rfl tyX4 tyX4_ok nmX4 0 rfl 3 (by decide) f_32 rfl (ty := .int) (by decide +kernel) rfl rfl (Nat.le_of_ble_eq_true rfl) dX4_copy_2 rfl ?_
  refine z_aload_n X dX4_copy_5 rfl 0 rfl ?_
  refine z_iload_n X dX4_copy_6 rfl 1 rfl ?_
  refine z_callV X (c_X4_sheetAt_in l g a (nI 0) tr 2 (by omega)) gX4_copy_X4_sheetAt rfl ⟨rfl, rfl⟩ (by decide +kernel) ⟨Nat.le_of_ble_eq_true rfl, Nat.le_of_ble_eq_true rfl⟩ ZF.room (ci := 3) rfl 0 rfl (isC := [0, 1]) (by decide) rfl rfl (ws' := (wO g a (nI 0) tr ++ (wH g a ++ (wS g (a 17) (a 18) (lnF 2) (leF 2) (ceF 2) ++ (wS g (a 13) (a 14) (lnF 0) (leF 0) (ceF 0)))))) rfl (As := [.int (nI 2)]) (n := 1) rfl rfl (st1 := [.ref (a 17)]) rfl (Nat.le_of_ble_eq_true rfl) dX4_copy_7 ?_
  refine z_astore (L' := [(6, .ref (a 17)), (0, .ref (a 0)), (1, .int (nI 2)), (2, .int i), (3, .int (nI 0)), (4, .int j), (5, .int n)]) X dX4_copy_10 (by decide) rfl ?_
  refine z_aload_n X dX4_copy_12 rfl 1 rfl ?_
  refine z_iload_n X dX4_copy_13 rfl 4 rfl ?_
  refine z_callV X (c_X4_sheetAt_in l g a (nI 0) tr 0 (by omega)) gX4_copy_X4_sheetAt rfl ⟨rfl, rfl⟩ (by decide +kernel) ⟨Nat.le_of_ble_eq_true rfl, Nat.le_of_ble_eq_true rfl⟩ ZF.room (ci := 3) rfl 0 rfl (isC := [0, 1]) (by decide) rfl rfl (ws' := (wO g a (nI 0) tr ++ (wH g a ++ (wS g (a 17) (a 18) (lnF 2) (leF 2) (ceF 2) ++ (wS g (a 13) (a 14) (lnF 0) (leF 0) (ceF 0)))))) rfl (As := [.int (nI 0)]) (n := 1) rfl rfl (st1 := [.ref (a 13)]) rfl (Nat.le_of_ble_eq_true rfl) dX4_copy_14 ?_
  refine z_astore (L' := [(7, .ref (a 13)), (6, .ref (a 17)), (0, .ref (a 0)), (1, .int (nI 2)), (2, .int i), (3, .int (nI 0)), (4, .int j), (5, .int n)]) X dX4_copy_17 (by decide) rfl ?_
  refine z_aload X dX4_copy_19 1 rfl ?_
  refine z_ifnull X dX4_copy_21 ?_
  refine z_aload X dX4_copy_24 0 rfl ?_
  refine z_ifnonnull (tgt := 31) X dX4_copy_26 (by decide) ?_
  refine z_aload X dX4_copy_31 1 rfl ?_
  refine z_callV X (c_X2_hasRow l g (a 17) (a 18) (lnF 2) (leF 2) (ceF 2)) gX4_copy_X2_hasRow rfl ⟨rfl, rfl⟩ (by decide +kernel) ⟨Nat.le_of_ble_eq_true rfl, Nat.le_of_ble_eq_true rfl⟩ ZF.room (ci := 2) rfl 2 rfl (isC := [2, 3]) (by decide) rfl rfl (ws' := (wO g a (nI 0) tr ++ (wH g a ++ (wS g (a 17) (a 18) (lnF 2) (leF 2) (ceF 2) ++ (wS g (a 13) (a 14) (lnF 0) (leF 0) (ceF 0)))))) rfl (As := []) (n := 0) rfl rfl (st1 := [.int (bI (!decide ((leF 2) = (-1))))]) rfl (Nat.le_of_ble_eq_true rfl) dX4_copy_33 ?_
  refine z_if_eqB (tgt := 47) X dX4_copy_36 (by decide) (fun hq1 => ?_) (fun hq1 => ?_)
  ·
    have hq2 : (decide ((leF 2) = (-1))) = true := by simpa using hq1
    have hq3 : ((leF 2) = (-1)) := of_decide_eq_true hq2
    refine z_aload_n X dX4_copy_47 rfl 2 rfl ?_
    refine z_iconst (v := nI 1) X dX4_copy_48 (by decide) ?_
    refine z_callV X (c_X4_faulted l g a (nI 0) tr (nI 1)) gX4_copy_X4_faulted rfl ⟨rfl, rfl⟩ (by decide +kernel) ⟨Nat.le_of_ble_eq_true rfl, Nat.le_of_ble_eq_true rfl⟩ ZF.room (ci := 3) rfl 0 rfl (isC := [0]) (by decide) rfl rfl (ws' := (wO g a (nI 1) tr ++ (wH g a ++ (wS g (a 17) (a 18) (lnF 2) (leF 2) (ceF 2) ++ (wS g (a 13) (a 14) (lnF 0) (leF 0) (ceF 0)))))) rfl (As := [.int (nI 1)]) (n := 1) rfl rfl (st1 := [.int ((-10) - (nI 1))]) rfl (Nat.le_of_ble_eq_true rfl) dX4_copy_49 ?_
    have e4 : (cof (lnF 2) (leF 2) (lnF 0) (leF 0) i j n) = (nI 1) := by first | (simp [cor, cof, cok, hq3]; done) | (simp [cor, cof, cok, hq3]; decide)
    have e5 : (if cok (lnF 2) (leF 2) (lnF 0) (leF 0) i j n then va_cpy (ceF 2) (ceF 0) (tn i) (tn j) (tn n) else ceF 0) = (ceF 0) := by first | (simp [cor, cof, cok, hq3]; done) | (simp [cor, cof, cok, hq3]; decide)
    exact z_iret X ZF dX4_copy_52 (by first | (simp [cor, cof, cok, hq3]; done) | (simp [cor, cof, cok, hq3]; decide)) (by first | rw [e5, e4] | (simp only [e5, e4]))
  ·
    have hq6 : (decide ((leF 2) = (-1))) = false := by simpa using hq1
    have hq7 : ¬ ((leF 2) = (-1)) := of_decide_eq_false hq6
    refine z_aload X dX4_copy_39 0 rfl ?_
    refine z_callV X (c_X2_hasRow l g (a 13) (a 14) (lnF 0) (leF 0) (ceF 0)) gX4_copy_X2_hasRow rfl ⟨rfl, rfl⟩ (by decide +kernel) ⟨Nat.le_of_ble_eq_true rfl, Nat.le_of_ble_eq_true rfl⟩ ZF.room (ci := 2) rfl 4 rfl (isC := [4, 5]) (by decide) rfl rfl (ws' := (wO g a (nI 0) tr ++ (wH g a ++ (wS g (a 17) (a 18) (lnF 2) (leF 2) (ceF 2) ++ (wS g (a 13) (a 14) (lnF 0) (leF 0) (ceF 0)))))) rfl (As := []) (n := 0) rfl rfl (st1 := [.int (bI (!decide ((leF 0) = (-1))))]) rfl (Nat.le_of_ble_eq_true rfl) dX4_copy_41 ?_
    refine z_if_neB (tgt := 53) X dX4_copy_44 (by decide) (fun hq8 => ?_) (fun hq8 => ?_)
    ·
      have hq9 : (decide ((leF 0) = (-1))) = false := by simpa using hq8
      have hq10 : ¬ ((leF 0) = (-1)) := of_decide_eq_false hq9
      refine z_aload X dX4_copy_53 1 rfl ?_
      refine z_callV X (c_X2_rowLane l g (a 17) (a 18) (lnF 2) (leF 2) (ceF 2)) gX4_copy_X2_rowLane rfl ⟨rfl, rfl⟩ (by decide +kernel) ⟨Nat.le_of_ble_eq_true rfl, Nat.le_of_ble_eq_true rfl⟩ ZF.room (ci := 2) rfl 2 rfl (isC := [2, 3]) (by decide) rfl rfl (ws' := (wO g a (nI 0) tr ++ (wH g a ++ (wS g (a 17) (a 18) (lnF 2) (leF 2) (ceF 2) ++ (wS g (a 13) (a 14) (lnF 0) (leF 0) (ceF 0)))))) rfl (As := []) (n := 0) rfl rfl (st1 := [.int (lnF 2)]) rfl (Nat.le_of_ble_eq_true rfl) dX4_copy_55 ?_
      refine z_aload X dX4_copy_58 0 rfl ?_
      refine z_callV X (c_X2_rowLane l g (a 13) (a 14) (lnF 0) (leF 0) (ceF 0)) gX4_copy_X2_rowLane rfl ⟨rfl, rfl⟩ (by decide +kernel) ⟨Nat.le_of_ble_eq_true rfl, Nat.le_of_ble_eq_true rfl⟩ ZF.room (ci := 2) rfl 4 rfl (isC := [4, 5]) (by decide) rfl rfl (ws' := (wO g a (nI 0) tr ++ (wH g a ++ (wS g (a 17) (a 18) (lnF 2) (leF 2) (ceF 2) ++ (wS g (a 13) (a 14) (lnF 0) (leF 0) (ceF 0)))))) rfl (As := []) (n := 0) rfl rfl (st1 := [.int (lnF 0), .int (lnF 2)]) rfl (Nat.le_of_ble_eq_true rfl) dX4_copy_60 ?_
      refine z_icmp_eq (tgt := 72) X dX4_copy_63 (by decide) (fun hq11 => ?_) (fun hq11 => ?_)
      ·
        refine z_aload X dX4_copy_72 1 rfl ?_
        refine z_iload_n X dX4_copy_74 rfl 4 rfl ?_
        refine z_iload X dX4_copy_75 7 rfl ?_
        refine z_callV X (c_X2_hasCells l g (a 17) (a 18) (lnF 2) (leF 2) (ceF 2) i n) gX4_copy_X2_hasCells rfl ⟨rfl, rfl⟩ (by decide +kernel) ⟨Nat.le_of_ble_eq_true rfl, Nat.le_of_ble_eq_true rfl⟩ ZF.room (ci := 2) rfl 2 rfl (isC := [2, 3]) (by decide) rfl rfl (ws' := (wO g a (nI 0) tr ++ (wH g a ++ (wS g (a 17) (a 18) (lnF 2) (leF 2) (ceF 2) ++ (wS g (a 13) (a 14) (lnF 0) (leF 0) (ceF 0)))))) rfl (As := [.int i, .int n]) (n := 2) rfl rfl (st1 := [.int (bI (hcl (leF 2) i n))]) rfl (Nat.le_of_ble_eq_true rfl) dX4_copy_77 ?_
        refine z_if_eqB (tgt := 95) X dX4_copy_80 (by decide) (fun hq12 => ?_) (fun hq12 => ?_)
        ·
          refine z_aload_n X dX4_copy_95 rfl 2 rfl ?_
          refine z_iconst (v := nI 3) X dX4_copy_96 (by decide) ?_
          refine z_callV X (c_X4_faulted l g a (nI 0) tr (nI 3)) gX4_copy_X4_faulted rfl ⟨rfl, rfl⟩ (by decide +kernel) ⟨Nat.le_of_ble_eq_true rfl, Nat.le_of_ble_eq_true rfl⟩ ZF.room (ci := 3) rfl 0 rfl (isC := [0]) (by decide) rfl rfl (ws' := (wO g a (nI 3) tr ++ (wH g a ++ (wS g (a 17) (a 18) (lnF 2) (leF 2) (ceF 2) ++ (wS g (a 13) (a 14) (lnF 0) (leF 0) (ceF 0)))))) rfl (As := [.int (nI 3)]) (n := 1) rfl rfl (st1 := [.int ((-10) - (nI 3))]) rfl (Nat.le_of_ble_eq_true rfl) dX4_copy_97 ?_
          have e13 : (cof (lnF 2) (leF 2) (lnF 0) (leF 0) i j n) = (nI 3) := by first | (simp [cor, cof, cok, hq7, hq10, hq11, hq12]; done) | (simp [cor, cof, cok, hq7, hq10, hq11, hq12]; decide)
          have e14 : (if cok (lnF 2) (leF 2) (lnF 0) (leF 0) i j n then va_cpy (ceF 2) (ceF 0) (tn i) (tn j) (tn n) else ceF 0) = (ceF 0) := by first | (simp [cor, cof, cok, hq7, hq10, hq11, hq12]; done) | (simp [cor, cof, cok, hq7, hq10, hq11, hq12]; decide)
          exact z_iret X ZF dX4_copy_100 (by first | (simp [cor, cof, cok, hq7, hq10, hq11, hq12]; done) | (simp [cor, cof, cok, hq7, hq10, hq11, hq12]; decide)) (by first | rw [e14, e13] | (simp only [e14, e13]))
        ·
          refine z_aload X dX4_copy_83 0 rfl ?_
          refine z_iload X dX4_copy_85 6 rfl ?_
          refine z_iload X dX4_copy_87 7 rfl ?_
          refine z_callV X (c_X2_hasCells l g (a 13) (a 14) (lnF 0) (leF 0) (ceF 0) j n) gX4_copy_X2_hasCells rfl ⟨rfl, rfl⟩ (by decide +kernel) ⟨Nat.le_of_ble_eq_true rfl, Nat.le_of_ble_eq_true rfl⟩ ZF.room (ci := 2) rfl 4 rfl (isC := [4, 5]) (by decide) rfl rfl (ws' := (wO g a (nI 0) tr ++ (wH g a ++ (wS g (a 17) (a 18) (lnF 2) (leF 2) (ceF 2) ++ (wS g (a 13) (a 14) (lnF 0) (leF 0) (ceF 0)))))) rfl (As := [.int j, .int n]) (n := 2) rfl rfl (st1 := [.int (bI (hcl (leF 0) j n))]) rfl (Nat.le_of_ble_eq_true rfl) dX4_copy_89 ?_
          refine z_if_neB (tgt := 101) X dX4_copy_92 (by decide) (fun hq15 => ?_) (fun hq15 => ?_)
          ·
            obtain ⟨i_a, n_a, ei_a, en_a, m_a, hm_a, him_a, hin_a⟩ := hcl_t hle hq12
            subst ei_a; subst en_a
            obtain ⟨j_a, ej_a, m_b, hm_b, hmb_b, hjn_b⟩ := hcl_t2 (by omega) hle2 hq15
            subst ej_a
            have hti_a : tn (nI i_a) = i_a := nI_clamp (by omega)
            have htn_a : tn (nI n_a) = n_a := nI_clamp (by omega)
            have htj_a : tn (nI j_a) = j_a := nI_clamp (by omega)
            refine z_aload X dX4_copy_101 1 rfl ?_
            refine z_iload_n X dX4_copy_103 rfl 4 rfl ?_
            refine z_aload X dX4_copy_104 0 rfl ?_
            refine z_iload X dX4_copy_106 6 rfl ?_
            refine z_iload X dX4_copy_108 7 rfl ?_
            refine z_callV X (c_X2_copyTo_two l g (a 17) (a 18) (a 13) (a 14) (lnF 2) (leF 2) (ceF 2) (lnF 0) (leF 0) (ceF 0) i_a j_a n_a (by omega) (by omega) (by first | assumption | omega) (by first | assumption | omega)) gX4_copy_X2_copyTo rfl ⟨rfl, rfl⟩ (by decide +kernel) ⟨Nat.le_of_ble_eq_true rfl, Nat.le_of_ble_eq_true rfl⟩ ZF.room (ci := 2) rfl 2 rfl (isC := [2, 3, 4, 5]) (by decide) rfl rfl (ws' := (wO g a (nI 0) tr ++ (wH g a ++ (wS g (a 17) (a 18) (lnF 2) (leF 2) (ceF 2) ++ (wS g (a 13) (a 14) (lnF 0) (leF 0) (va_cpy (ceF 2) (ceF 0) i_a j_a n_a)))))) rfl (As := [.int (nI i_a), .ref (a 13), .int (nI j_a), .int (nI n_a)]) (n := 4) rfl rfl (st1 := []) rfl (Nat.le_of_ble_eq_true rfl) dX4_copy_110 ?_
            refine z_iload X dX4_copy_113 7 rfl ?_
            have e16 : (cof (lnF 2) (leF 2) (lnF 0) (leF 0) (nI i_a) (nI j_a) (nI n_a)) = (nI 0) := by first | (simp [cor, cof, cok, hq7, hq10, hq11, hq12, hti_a, htn_a, htj_a, hq15]; done) | (simp [cor, cof, cok, hq7, hq10, hq11, hq12, hti_a, htn_a, htj_a, hq15]; decide)
            have e17 : (if cok (lnF 2) (leF 2) (lnF 0) (leF 0) (nI i_a) (nI j_a) (nI n_a) then va_cpy (ceF 2) (ceF 0) (tn (nI i_a)) (tn (nI j_a)) (tn (nI n_a)) else ceF 0) = (va_cpy (ceF 2) (ceF 0) i_a j_a n_a) := by first | (simp [cor, cof, cok, hq7, hq10, hq11, hq12, hti_a, htn_a, htj_a, hq15]; done) | (simp [cor, cof, cok, hq7, hq10, hq11, hq12, hti_a, htn_a, htj_a, hq15]; decide)
            exact z_iret X ZF dX4_copy_115 (by first | (simp [cor, cof, cok, hq7, hq10, hq11, hq12, hti_a, htn_a, htj_a, hq15]; done) | (simp [cor, cof, cok, hq7, hq10, hq11, hq12, hti_a, htn_a, htj_a, hq15]; decide)) (by first | rw [e17, e16] | (simp only [e17, e16]))
          ·
            refine z_aload_n X dX4_copy_95 rfl 2 rfl ?_
            refine z_iconst (v := nI 3) X dX4_copy_96 (by decide) ?_
            refine z_callV X (c_X4_faulted l g a (nI 0) tr (nI 3)) gX4_copy_X4_faulted rfl ⟨rfl, rfl⟩ (by decide +kernel) ⟨Nat.le_of_ble_eq_true rfl, Nat.le_of_ble_eq_true rfl⟩ ZF.room (ci := 3) rfl 0 rfl (isC := [0]) (by decide) rfl rfl (ws' := (wO g a (nI 3) tr ++ (wH g a ++ (wS g (a 17) (a 18) (lnF 2) (leF 2) (ceF 2) ++ (wS g (a 13) (a 14) (lnF 0) (leF 0) (ceF 0)))))) rfl (As := [.int (nI 3)]) (n := 1) rfl rfl (st1 := [.int ((-10) - (nI 3))]) rfl (Nat.le_of_ble_eq_true rfl) dX4_copy_97 ?_
            have e18 : (cof (lnF 2) (leF 2) (lnF 0) (leF 0) i j n) = (nI 3) := by first | (simp [cor, cof, cok, hq7, hq10, hq11, hq12, hq15]; done) | (simp [cor, cof, cok, hq7, hq10, hq11, hq12, hq15]; decide)
            have e19 : (if cok (lnF 2) (leF 2) (lnF 0) (leF 0) i j n then va_cpy (ceF 2) (ceF 0) (tn i) (tn j) (tn n) else ceF 0) = (ceF 0) := by first | (simp [cor, cof, cok, hq7, hq10, hq11, hq12, hq15]; done) | (simp [cor, cof, cok, hq7, hq10, hq11, hq12, hq15]; decide)
            exact z_iret X ZF dX4_copy_100 (by first | (simp [cor, cof, cok, hq7, hq10, hq11, hq12, hq15]; done) | (simp [cor, cof, cok, hq7, hq10, hq11, hq12, hq15]; decide)) (by first | rw [e19, e18] | (simp only [e19, e18]))
      ·
        refine z_aload_n X dX4_copy_66 rfl 2 rfl ?_
        refine z_iconst (v := nI 2) X dX4_copy_67 (by decide) ?_
        refine z_callV X (c_X4_faulted l g a (nI 0) tr (nI 2)) gX4_copy_X4_faulted rfl ⟨rfl, rfl⟩ (by decide +kernel) ⟨Nat.le_of_ble_eq_true rfl, Nat.le_of_ble_eq_true rfl⟩ ZF.room (ci := 3) rfl 0 rfl (isC := [0]) (by decide) rfl rfl (ws' := (wO g a (nI 2) tr ++ (wH g a ++ (wS g (a 17) (a 18) (lnF 2) (leF 2) (ceF 2) ++ (wS g (a 13) (a 14) (lnF 0) (leF 0) (ceF 0)))))) rfl (As := [.int (nI 2)]) (n := 1) rfl rfl (st1 := [.int ((-10) - (nI 2))]) rfl (Nat.le_of_ble_eq_true rfl) dX4_copy_68 ?_
        have e20 : (cof (lnF 2) (leF 2) (lnF 0) (leF 0) i j n) = (nI 2) := by first | (simp [cor, cof, cok, hq7, hq10, hq11]; done) | (simp [cor, cof, cok, hq7, hq10, hq11]; decide)
        have e21 : (if cok (lnF 2) (leF 2) (lnF 0) (leF 0) i j n then va_cpy (ceF 2) (ceF 0) (tn i) (tn j) (tn n) else ceF 0) = (ceF 0) := by first | (simp [cor, cof, cok, hq7, hq10, hq11]; done) | (simp [cor, cof, cok, hq7, hq10, hq11]; decide)
        exact z_iret X ZF dX4_copy_71 (by first | (simp [cor, cof, cok, hq7, hq10, hq11]; done) | (simp [cor, cof, cok, hq7, hq10, hq11]; decide)) (by first | rw [e21, e20] | (simp only [e21, e20]))
    ·
      have hq22 : (decide ((leF 0) = (-1))) = true := by simpa using hq8
      have hq23 : ((leF 0) = (-1)) := of_decide_eq_true hq22
      refine z_aload_n X dX4_copy_47 rfl 2 rfl ?_
      refine z_iconst (v := nI 1) X dX4_copy_48 (by decide) ?_
      refine z_callV X (c_X4_faulted l g a (nI 0) tr (nI 1)) gX4_copy_X4_faulted rfl ⟨rfl, rfl⟩ (by decide +kernel) ⟨Nat.le_of_ble_eq_true rfl, Nat.le_of_ble_eq_true rfl⟩ ZF.room (ci := 3) rfl 0 rfl (isC := [0]) (by decide) rfl rfl (ws' := (wO g a (nI 1) tr ++ (wH g a ++ (wS g (a 17) (a 18) (lnF 2) (leF 2) (ceF 2) ++ (wS g (a 13) (a 14) (lnF 0) (leF 0) (ceF 0)))))) rfl (As := [.int (nI 1)]) (n := 1) rfl rfl (st1 := [.int ((-10) - (nI 1))]) rfl (Nat.le_of_ble_eq_true rfl) dX4_copy_49 ?_
      have e24 : (cof (lnF 2) (leF 2) (lnF 0) (leF 0) i j n) = (nI 1) := by first | (simp [cor, cof, cok, hq7, hq23]; done) | (simp [cor, cof, cok, hq7, hq23]; decide)
      have e25 : (if cok (lnF 2) (leF 2) (lnF 0) (leF 0) i j n then va_cpy (ceF 2) (ceF 0) (tn i) (tn j) (tn n) else ceF 0) = (ceF 0) := by first | (simp [cor, cof, cok, hq7, hq23]; done) | (simp [cor, cof, cok, hq7, hq23]; decide)
      exact z_iret X ZF dX4_copy_52 (by first | (simp [cor, cof, cok, hq7, hq23]; done) | (simp [cor, cof, cok, hq7, hq23]; decide)) (by first | rw [e25, e24] | (simp only [e25, e24]))
abbrev rX4_copy_21 : Room := { frames := 2, cells := 0, slots := 0, locals := 46 }
set_option maxHeartbeats 4000000 in
set_option maxRecDepth 100000 in
theorem c_X4_copy_21 (l : Launch) (g : zg) (a : Nat → Nat) (ft : Int32) (tr : Int32) (lnF : Nat → Int32) (leF : Nat → Int32) (ceF : Nat → Nat → Int32) (i : Int32) (j : Int32) (n : Int32) (hle : vle (leF 2)) (hle2 : vle (leF 1)) : zM l g yX4_copy wsX4_copy rX4_copy_21 [.ref (a 0), .int (nI 2), .int i, .int (nI 1), .int j, .int n] (wO g a ft tr ++ (wH g a ++ (wS g (a 17) (a 18) (lnF 2) (leF 2) (ceF 2) ++ (wS g (a 15) (a 16) (lnF 1) (leF 1) (ceF 1))))) (some (.int (cor (lnF 2) (leF 2) (lnF 1) (leF 1) i j n))) (wO g a (cof (lnF 2) (leF 2) (lnF 1) (leF 1) i j n) tr ++ (wH g a ++ (wS g (a 17) (a 18) (lnF 2) (leF 2) (ceF 2) ++ (wS g (a 15) (a 16) (lnF 1) (leF 1) (if cok (lnF 2) (leF 2) (lnF 1) (leF 1) i j n then va_cpy (ceF 2) (ceF 1) (tn i) (tn j) (tn n) else ceF 1))))) := by
  refine z_met (own := RX4) (cc := cX4_copy) (maxL := 8) (ret := some .int) (by decide +kernel) rfl rfl (Nat.le_of_ble_eq_true rfl) ?_
  intro M X ZF
  refine z_Le (L' := [(0, .ref (a 0)), (1, .int (nI 2)), (2, .int i), (3, .int (nI 1)), (4, .int j), (5, .int n)]) rfl ?_
  have i_RX4 : ∀ w ∈ wsX40, w ∈ wsX4_copy := by decide +kernel
  have f_32 : Cond.fieldLink RX4 32 (TX4 3).1 (TX4 3).2.1 (TX4 3).2.2.1 ∈ wsX4_copy := by decide +kernel
  refine z_aload_n X dX4_copy_0 rfl 0 rfl ?_
  refine z_iconst (v := nI 0) X dX4_copy_1 (by decide) ?_
  refine z_put (ws' := (wO g a (nI 0) tr ++ (wH g a ++ (wS g (a 17) (a 18) (lnF 2) (leF 2) (ceF 2) ++ (wS g (a 15) (a 16) (lnF 1) (leF 1) (ceF 1)))))) (N := 5) X i_RX4 (ci := 3) rfl tyX4 tyX4_ok nmX4 0 rfl 3 (by decide) f_32 rfl (ty := .int) (by decide +kernel) rfl rfl (Nat.le_of_ble_eq_true rfl) dX4_copy_2 rfl ?_
  refine z_aload_n X dX4_copy_5 rfl 0 rfl ?_
  refine z_iload_n X dX4_copy_6 rfl 1 rfl ?_
  refine z_callV X (c_X4_sheetAt_in l g a (nI 0) tr 2 (by omega)) gX4_copy_X4_sheetAt rfl ⟨rfl, rfl⟩ (by decide +kernel) ⟨Nat.le_of_ble_eq_true rfl, Nat.le_of_ble_eq_true rfl⟩ ZF.room (ci := 3) rfl 0 rfl (isC := [0, 1]) (by decide) rfl rfl (ws' := (wO g a (nI 0) tr ++ (wH g a ++ (wS g (a 17) (a 18) (lnF 2) (leF 2) (ceF 2) ++ (wS g (a 15) (a 16) (lnF 1) (leF 1) (ceF 1)))))) rfl (As := [.int (nI 2)]) (n := 1) rfl rfl (st1 := [.ref (a 17)]) rfl (Nat.le_of_ble_eq_true rfl) dX4_copy_7 ?_
  refine z_astore (L' := [(6, .ref (a 17)), (0, .ref (a 0)), (1, .int (nI 2)), (2, .int i), (3, .int (nI 1)), (4, .int j), (5, .int n)]) X dX4_copy_10 (by decide) rfl ?_
  refine z_aload_n X dX4_copy_12 rfl 1 rfl ?_
  refine z_iload_n X dX4_copy_13 rfl 4 rfl ?_
  refine z_callV X (c_X4_sheetAt_in l g a (nI 0) tr 1 (by omega)) gX4_copy_X4_sheetAt rfl ⟨rfl, rfl⟩ (by decide +kernel) ⟨Nat.le_of_ble_eq_true rfl, Nat.le_of_ble_eq_true rfl⟩ ZF.room (ci := 3) rfl 0 rfl (isC := [0, 1]) (by decide) rfl rfl (ws' := (wO g a (nI 0) tr ++ (wH g a ++ (wS g (a 17) (a 18) (lnF 2) (leF 2) (ceF 2) ++ (wS g (a 15) (a 16) (lnF 1) (leF 1) (ceF 1)))))) rfl (As := [.int (nI 1)]) (n := 1) rfl rfl (st1 := [.ref (a 15)]) rfl (Nat.le_of_ble_eq_true rfl) dX4_copy_14 ?_
  refine z_astore (L' := [(7, .ref (a 15)), (6, .ref (a 17)), (0, .ref (a 0)), (1, .int (nI 2)), (2, .int i), (3, .int (nI 1)), (4, .int j), (5, .int n)]) X dX4_copy_17 (by decide) rfl ?_
  refine z_aload X dX4_copy_19 1 rfl ?_
  refine z_ifnull X dX4_copy_21 ?_
  refine z_aload X dX4_copy_24 0 rfl ?_
  refine z_ifnonnull (tgt := 31) X dX4_copy_26 (by decide) ?_
  refine z_aload X dX4_copy_31 1 rfl ?_
  refine z_callV X (c_X2_hasRow l g (a 17) (a 18) (lnF 2) (leF 2) (ceF 2)) gX4_copy_X2_hasRow rfl ⟨rfl, rfl⟩ (by decide +kernel) ⟨Nat.le_of_ble_eq_true rfl, Nat.le_of_ble_eq_true rfl⟩ ZF.room (ci := 2) rfl 2 rfl (isC := [2, 3]) (by decide) rfl rfl (ws' := (wO g a (nI 0) tr ++ (wH g a ++ (wS g (a 17) (a 18) (lnF 2) (leF 2) (ceF 2) ++ (wS g (a 15) (a 16) (lnF 1) (leF 1) (ceF 1)))))) rfl (As := []) (n := 0) rfl rfl (st1 := [.int (bI (!decide ((leF 2) = (-1))))]) rfl (Nat.le_of_ble_eq_true rfl) dX4_copy_33 ?_
  refine z_if_eqB (tgt := 47) X dX4_copy_36 (by decide) (fun hq1 => ?_) (fun hq1 => ?_)
  ·
    have hq2 : (decide ((leF 2) = (-1))) = true := by simpa using hq1
    have hq3 : ((leF 2) = (-1)) := of_decide_eq_true hq2
    refine z_aload_n X dX4_copy_47 rfl 2 rfl ?_
    refine z_iconst (v := nI 1) X dX4_copy_48 (by decide) ?_
    refine z_callV X (c_X4_faulted l g a (nI 0) tr (nI 1)) gX4_copy_X4_faulted rfl ⟨rfl, rfl⟩ (by decide +kernel) ⟨Nat.le_of_ble_eq_true rfl, Nat.le_of_ble_eq_true rfl⟩ ZF.room (ci := 3) rfl 0 rfl (isC := [0]) (by decide) rfl rfl (ws' := (wO g a (nI 1) tr ++ (wH g a ++ (wS g (a 17) (a 18) (lnF 2) (leF 2) (ceF 2) ++ (wS g (a 15) (a 16) (lnF 1) (leF 1) (ceF 1)))))) rfl (As := [.int (nI 1)]) (n := 1) rfl rfl (st1 := [.int ((-10) - (nI 1))]) rfl (Nat.le_of_ble_eq_true rfl) dX4_copy_49 ?_
    have e4 : (cof (lnF 2) (leF 2) (lnF 1) (leF 1) i j n) = (nI 1) := by first | (simp [cor, cof, cok, hq3]; done) | (simp [cor, cof, cok, hq3]; decide)
    have e5 : (if cok (lnF 2) (leF 2) (lnF 1) (leF 1) i j n then va_cpy (ceF 2) (ceF 1) (tn i) (tn j) (tn n) else ceF 1) = (ceF 1) := by first | (simp [cor, cof, cok, hq3]; done) | (simp [cor, cof, cok, hq3]; decide)
    exact z_iret X ZF dX4_copy_52 (by first | (simp [cor, cof, cok, hq3]; done) | (simp [cor, cof, cok, hq3]; decide)) (by first | rw [e5, e4] | (simp only [e5, e4]))
  ·
    have hq6 : (decide ((leF 2) = (-1))) = false := by simpa using hq1
    have hq7 : ¬ ((leF 2) = (-1)) := of_decide_eq_false hq6
    refine z_aload X dX4_copy_39 0 rfl ?_
    refine z_callV X (c_X2_hasRow l g (a 15) (a 16) (lnF 1) (leF 1) (ceF 1)) gX4_copy_X2_hasRow rfl ⟨rfl, rfl⟩ (by decide +kernel) ⟨Nat.le_of_ble_eq_true rfl, Nat.le_of_ble_eq_true rfl⟩ ZF.room (ci := 2) rfl 4 rfl (isC := [4, 5]) (by decide) rfl rfl (ws' := (wO g a (nI 0) tr ++ (wH g a ++ (wS g (a 17) (a 18) (lnF 2) (leF 2) (ceF 2) ++ (wS g (a 15) (a 16) (lnF 1) (leF 1) (ceF 1)))))) rfl (As := []) (n := 0) rfl rfl (st1 := [.int (bI (!decide ((leF 1) = (-1))))]) rfl (Nat.le_of_ble_eq_true rfl) dX4_copy_41 ?_
    refine z_if_neB (tgt := 53) X dX4_copy_44 (by decide) (fun hq8 => ?_) (fun hq8 => ?_)
    ·
      have hq9 : (decide ((leF 1) = (-1))) = false := by simpa using hq8
      have hq10 : ¬ ((leF 1) = (-1)) := of_decide_eq_false hq9
      refine z_aload X dX4_copy_53 1 rfl ?_
      refine z_callV X (c_X2_rowLane l g (a 17) (a 18) (lnF 2) (leF 2) (ceF 2)) gX4_copy_X2_rowLane rfl ⟨rfl, rfl⟩ (by decide +kernel) ⟨Nat.le_of_ble_eq_true rfl, Nat.le_of_ble_eq_true rfl⟩ ZF.room (ci := 2) rfl 2 rfl (isC := [2, 3]) (by decide) rfl rfl (ws' := (wO g a (nI 0) tr ++ (wH g a ++ (wS g (a 17) (a 18) (lnF 2) (leF 2) (ceF 2) ++ (wS g (a 15) (a 16) (lnF 1) (leF 1) (ceF 1)))))) rfl (As := []) (n := 0) rfl rfl (st1 := [.int (lnF 2)]) rfl (Nat.le_of_ble_eq_true rfl) dX4_copy_55 ?_
      refine z_aload X dX4_copy_58 0 rfl ?_
      refine z_callV X (c_X2_rowLane l g (a 15) (a 16) (lnF 1) (leF 1) (ceF 1)) gX4_copy_X2_rowLane rfl ⟨rfl, rfl⟩ (by decide +kernel) ⟨Nat.le_of_ble_eq_true rfl, Nat.le_of_ble_eq_true rfl⟩ ZF.room (ci := 2) rfl 4 rfl (isC := [4, 5]) (by decide) rfl rfl (ws' := (wO g a (nI 0) tr ++ (wH g a ++ (wS g (a 17) (a 18) (lnF 2) (leF 2) (ceF 2) ++ (wS g (a 15) (a 16) (lnF 1) (leF 1) (ceF 1)))))) rfl (As := []) (n := 0) rfl rfl (st1 := [.int (lnF 1), .int (lnF 2)]) rfl (Nat.le_of_ble_eq_true rfl) dX4_copy_60 ?_
      refine z_icmp_eq (tgt := 72) X dX4_copy_63 (by decide) (fun hq11 => ?_) (fun hq11 => ?_)
      ·
        refine z_aload X dX4_copy_72 1 rfl ?_
        refine z_iload_n X dX4_copy_74 rfl 4 rfl ?_
        refine z_iload X dX4_copy_75 7 rfl ?_
        refine z_callV X (c_X2_hasCells l g (a 17) (a 18) (lnF 2) (leF 2) (ceF 2) i n) gX4_copy_X2_hasCells rfl ⟨rfl, rfl⟩ (by decide +kernel) ⟨Nat.le_of_ble_eq_true rfl, Nat.le_of_ble_eq_true rfl⟩ ZF.room (ci := 2) rfl 2 rfl (isC := [2, 3]) (by decide) rfl rfl (ws' := (wO g a (nI 0) tr ++ (wH g a ++ (wS g (a 17) (a 18) (lnF 2) (leF 2) (ceF 2) ++ (wS g (a 15) (a 16) (lnF 1) (leF 1) (ceF 1)))))) rfl (As := [.int i, .int n]) (n := 2) rfl rfl (st1 := [.int (bI (hcl (leF 2) i n))]) rfl (Nat.le_of_ble_eq_true rfl) dX4_copy_77 ?_
        refine z_if_eqB (tgt := 95) X dX4_copy_80 (by decide) (fun hq12 => ?_) (fun hq12 => ?_)
        ·
          refine z_aload_n X dX4_copy_95 rfl 2 rfl ?_
          refine z_iconst (v := nI 3) X dX4_copy_96 (by decide) ?_
          refine z_callV X (c_X4_faulted l g a (nI 0) tr (nI 3)) gX4_copy_X4_faulted rfl ⟨rfl, rfl⟩ (by decide +kernel) ⟨Nat.le_of_ble_eq_true rfl, Nat.le_of_ble_eq_true rfl⟩ ZF.room (ci := 3) rfl 0 rfl (isC := [0]) (by decide) rfl rfl (ws' := (wO g a (nI 3) tr ++ (wH g a ++ (wS g (a 17) (a 18) (lnF 2) (leF 2) (ceF 2) ++ (wS g (a 15) (a 16) (lnF 1) (leF 1) (ceF 1)))))) rfl (As := [.int (nI 3)]) (n := 1) rfl rfl (st1 := [.int ((-10) - (nI 3))]) rfl (Nat.le_of_ble_eq_true rfl) dX4_copy_97 ?_
          have e13 : (cof (lnF 2) (leF 2) (lnF 1) (leF 1) i j n) = (nI 3) := by first | (simp [cor, cof, cok, hq7, hq10, hq11, hq12]; done) | (simp [cor, cof, cok, hq7, hq10, hq11, hq12]; decide)
          have e14 : (if cok (lnF 2) (leF 2) (lnF 1) (leF 1) i j n then va_cpy (ceF 2) (ceF 1) (tn i) (tn j) (tn n) else ceF 1) = (ceF 1) := by first | (simp [cor, cof, cok, hq7, hq10, hq11, hq12]; done) | (simp [cor, cof, cok, hq7, hq10, hq11, hq12]; decide)
          exact z_iret X ZF dX4_copy_100 (by first | (simp [cor, cof, cok, hq7, hq10, hq11, hq12]; done) | (simp [cor, cof, cok, hq7, hq10, hq11, hq12]; decide)) (by first | rw [e14, e13] | (simp only [e14, e13]))
        ·
          refine z_aload X dX4_copy_83 0 rfl ?_
          refine z_iload X dX4_copy_85 6 rfl ?_
          refine z_iload X dX4_copy_87 7 rfl ?_
          refine z_callV X (c_X2_hasCells l g (a 15) (a 16) (lnF 1) (leF 1) (ceF 1) j n) gX4_copy_X2_hasCells rfl ⟨rfl, rfl⟩ (by decide +kernel) ⟨Nat.le_of_ble_eq_true rfl, Nat.le_of_ble_eq_true rfl⟩ ZF.room (ci := 2) rfl 4 rfl (isC := [4, 5]) (by decide) rfl rfl (ws' := (wO g a (nI 0) tr ++ (wH g a ++ (wS g (a 17) (a 18) (lnF 2) (leF 2) (ceF 2) ++ (wS g (a 15) (a 16) (lnF 1) (leF 1) (ceF 1)))))) rfl (As := [.int j, .int n]) (n := 2) rfl rfl (st1 := [.int (bI (hcl (leF 1) j n))]) rfl (Nat.le_of_ble_eq_true rfl) dX4_copy_89 ?_
          refine z_if_neB (tgt := 101) X dX4_copy_92 (by decide) (fun hq15 => ?_) (fun hq15 => ?_)
          ·
            obtain ⟨i_a, n_a, ei_a, en_a, m_a, hm_a, him_a, hin_a⟩ := hcl_t hle hq12
            subst ei_a; subst en_a
            obtain ⟨j_a, ej_a, m_b, hm_b, hmb_b, hjn_b⟩ := hcl_t2 (by omega) hle2 hq15
            subst ej_a
            have hti_a : tn (nI i_a) = i_a := nI_clamp (by omega)
            have htn_a : tn (nI n_a) = n_a := nI_clamp (by omega)
            have htj_a : tn (nI j_a) = j_a := nI_clamp (by omega)
            refine z_aload X dX4_copy_101 1 rfl ?_
            refine z_iload_n X dX4_copy_103 rfl 4 rfl ?_
            refine z_aload X dX4_copy_104 0 rfl ?_
            refine z_iload X dX4_copy_106 6 rfl ?_
            refine z_iload X dX4_copy_108 7 rfl ?_
            refine z_callV X (c_X2_copyTo_two l g (a 17) (a 18) (a 15) (a 16) (lnF 2) (leF 2) (ceF 2) (lnF 1) (leF 1) (ceF 1) i_a j_a n_a (by omega) (by omega) (by first | assumption | omega) (by first | assumption | omega)) gX4_copy_X2_copyTo rfl ⟨rfl, rfl⟩ (by decide +kernel) ⟨Nat.le_of_ble_eq_true rfl, Nat.le_of_ble_eq_true rfl⟩ ZF.room (ci := 2) rfl 2 rfl (isC := [2, 3, 4, 5]) (by decide) rfl rfl (ws' := (wO g a (nI 0) tr ++ (wH g a ++ (wS g (a 17) (a 18) (lnF 2) (leF 2) (ceF 2) ++ (wS g (a 15) (a 16) (lnF 1) (leF 1) (va_cpy (ceF 2) (ceF 1) i_a j_a n_a)))))) rfl (As := [.int (nI i_a), .ref (a 15), .int (nI j_a), .int (nI n_a)]) (n := 4) rfl rfl (st1 := []) rfl (Nat.le_of_ble_eq_true rfl) dX4_copy_110 ?_
            refine z_iload X dX4_copy_113 7 rfl ?_
            have e16 : (cof (lnF 2) (leF 2) (lnF 1) (leF 1) (nI i_a) (nI j_a) (nI n_a)) = (nI 0) := by first | (simp [cor, cof, cok, hq7, hq10, hq11, hq12, hti_a, htn_a, htj_a, hq15]; done) | (simp [cor, cof, cok, hq7, hq10, hq11, hq12, hti_a, htn_a, htj_a, hq15]; decide)
            have e17 : (if cok (lnF 2) (leF 2) (lnF 1) (leF 1) (nI i_a) (nI j_a) (nI n_a) then va_cpy (ceF 2) (ceF 1) (tn (nI i_a)) (tn (nI j_a)) (tn (nI n_a)) else ceF 1) = (va_cpy (ceF 2) (ceF 1) i_a j_a n_a) := by first | (simp [cor, cof, cok, hq7, hq10, hq11, hq12, hti_a, htn_a, htj_a, hq15]; done) | (simp [cor, cof, cok, hq7, hq10, hq11, hq12, hti_a, htn_a, htj_a, hq15]; decide)
            exact z_iret X ZF dX4_copy_115 (by first | (simp [cor, cof, cok, hq7, hq10, hq11, hq12, hti_a, htn_a, htj_a, hq15]; done) | (simp [cor, cof, cok, hq7, hq10, hq11, hq12, hti_a, htn_a, htj_a, hq15]; decide)) (by first | rw [e17, e16] | (simp only [e17, e16]))
          ·
            refine z_aload_n X dX4_copy_95 rfl 2 rfl ?_
            refine z_iconst (v := nI 3) X dX4_copy_96 (by decide) ?_
            refine z_callV X (c_X4_faulted l g a (nI 0) tr (nI 3)) gX4_copy_X4_faulted rfl ⟨rfl, rfl⟩ (by decide +kernel) ⟨Nat.le_of_ble_eq_true rfl, Nat.le_of_ble_eq_true rfl⟩ ZF.room (ci := 3) rfl 0 rfl (isC := [0]) (by decide) rfl rfl (ws' := (wO g a (nI 3) tr ++ (wH g a ++ (wS g (a 17) (a 18) (lnF 2) (leF 2) (ceF 2) ++ (wS g (a 15) (a 16) (lnF 1) (leF 1) (ceF 1)))))) rfl (As := [.int (nI 3)]) (n := 1) rfl rfl (st1 := [.int ((-10) - (nI 3))]) rfl (Nat.le_of_ble_eq_true rfl) dX4_copy_97 ?_
            have e18 : (cof (lnF 2) (leF 2) (lnF 1) (leF 1) i j n) = (nI 3) := by first | (simp [cor, cof, cok, hq7, hq10, hq11, hq12, hq15]; done) | (simp [cor, cof, cok, hq7, hq10, hq11, hq12, hq15]; decide)
            have e19 : (if cok (lnF 2) (leF 2) (lnF 1) (leF 1) i j n then va_cpy (ceF 2) (ceF 1) (tn i) (tn j) (tn n) else ceF 1) = (ceF 1) := by first | (simp [cor, cof, cok, hq7, hq10, hq11, hq12, hq15]; done) | (simp [cor, cof, cok, hq7, hq10, hq11, hq12, hq15]; decide)
            exact z_iret X ZF dX4_copy_100 (by first | (simp [cor, cof, cok, hq7, hq10, hq11, hq12, hq15]; done) | (simp [cor, cof, cok, hq7, hq10, hq11, hq12, hq15]; decide)) (by first | rw [e19, e18] | (simp only [e19, e18]))
      ·
        refine z_aload_n X dX4_copy_66 rfl 2 rfl ?_
        refine z_iconst (v := nI 2) X dX4_copy_67 (by decide) ?_
        refine z_callV X (c_X4_faulted l g a (nI 0) tr (nI 2)) gX4_copy_X4_faulted rfl ⟨rfl, rfl⟩ (by decide +kernel) ⟨Nat.le_of_ble_eq_true rfl, Nat.le_of_ble_eq_true rfl⟩ ZF.room (ci := 3) rfl 0 rfl (isC := [0]) (by decide) rfl rfl (ws' := (wO g a (nI 2) tr ++ (wH g a ++ (wS g (a 17) (a 18) (lnF 2) (leF 2) (ceF 2) ++ (wS g (a 15) (a 16) (lnF 1) (leF 1) (ceF 1)))))) rfl (As := [.int (nI 2)]) (n := 1) rfl rfl (st1 := [.int ((-10) - (nI 2))]) rfl (Nat.le_of_ble_eq_true rfl) dX4_copy_68 ?_
        have e20 : (cof (lnF 2) (leF 2) (lnF 1) (leF 1) i j n) = (nI 2) := by first | (simp [cor, cof, cok, hq7, hq10, hq11]; done) | (simp [cor, cof, cok, hq7, hq10, hq11]; decide)
        have e21 : (if cok (lnF 2) (leF 2) (lnF 1) (leF 1) i j n then va_cpy (ceF 2) (ceF 1) (tn i) (tn j) (tn n) else ceF 1) = (ceF 1) := by first | (simp [cor, cof, cok, hq7, hq10, hq11]; done) | (simp [cor, cof, cok, hq7, hq10, hq11]; decide)
        exact z_iret X ZF dX4_copy_71 (by first | (simp [cor, cof, cok, hq7, hq10, hq11]; done) | (simp [cor, cof, cok, hq7, hq10, hq11]; decide)) (by first | rw [e21, e20] | (simp only [e21, e20]))
    ·
      have hq22 : (decide ((leF 1) = (-1))) = true := by simpa using hq8
      have hq23 : ((leF 1) = (-1)) := of_decide_eq_true hq22
      refine z_aload_n X dX4_copy_47 rfl 2 rfl ?_
      refine z_iconst (v := nI 1) X dX4_copy_48 (by decide) ?_
      refine z_callV X (c_X4_faulted l g a (nI 0) tr (nI 1)) gX4_copy_X4_faulted rfl ⟨rfl, rfl⟩ (by decide +kernel) ⟨Nat.le_of_ble_eq_true rfl, Nat.le_of_ble_eq_true rfl⟩ ZF.room (ci := 3) rfl 0 rfl (isC := [0]) (by decide) rfl rfl (ws' := (wO g a (nI 1) tr ++ (wH g a ++ (wS g (a 17) (a 18) (lnF 2) (leF 2) (ceF 2) ++ (wS g (a 15) (a 16) (lnF 1) (leF 1) (ceF 1)))))) rfl (As := [.int (nI 1)]) (n := 1) rfl rfl (st1 := [.int ((-10) - (nI 1))]) rfl (Nat.le_of_ble_eq_true rfl) dX4_copy_49 ?_
      have e24 : (cof (lnF 2) (leF 2) (lnF 1) (leF 1) i j n) = (nI 1) := by first | (simp [cor, cof, cok, hq7, hq23]; done) | (simp [cor, cof, cok, hq7, hq23]; decide)
      have e25 : (if cok (lnF 2) (leF 2) (lnF 1) (leF 1) i j n then va_cpy (ceF 2) (ceF 1) (tn i) (tn j) (tn n) else ceF 1) = (ceF 1) := by first | (simp [cor, cof, cok, hq7, hq23]; done) | (simp [cor, cof, cok, hq7, hq23]; decide)
      exact z_iret X ZF dX4_copy_52 (by first | (simp [cor, cof, cok, hq7, hq23]; done) | (simp [cor, cof, cok, hq7, hq23]; decide)) (by first | rw [e25, e24] | (simp only [e25, e24]))
abbrev rX4_copy_22 : Room := { frames := 2, cells := 0, slots := 0, locals := 46 }
set_option maxHeartbeats 4000000 in
set_option maxRecDepth 100000 in
theorem c_X4_copy_22 (l : Launch) (g : zg) (a : Nat → Nat) (ft : Int32) (tr : Int32) (lnF : Nat → Int32) (leF : Nat → Int32) (ceF : Nat → Nat → Int32) (i : Int32) (j : Int32) (n : Int32) (hle : vle (leF 2)) (hle2 : vle (leF 2)) : zM l g yX4_copy wsX4_copy rX4_copy_22 [.ref (a 0), .int (nI 2), .int i, .int (nI 2), .int j, .int n] (wO g a ft tr ++ (wH g a ++ (wS g (a 17) (a 18) (lnF 2) (leF 2) (ceF 2)))) (some (.int (cor (lnF 2) (leF 2) (lnF 2) (leF 2) i j n))) (wO g a (cof (lnF 2) (leF 2) (lnF 2) (leF 2) i j n) tr ++ (wH g a ++ (wS g (a 17) (a 18) (lnF 2) (leF 2) (if cok (lnF 2) (leF 2) (lnF 2) (leF 2) i j n then va_cpy (ceF 2) (ceF 2) (tn i) (tn j) (tn n) else ceF 2)))) := by
  refine z_met (own := RX4) (cc := cX4_copy) (maxL := 8) (ret := some .int) (by decide +kernel) rfl rfl (Nat.le_of_ble_eq_true rfl) ?_
  intro M X ZF
  refine z_Le (L' := [(0, .ref (a 0)), (1, .int (nI 2)), (2, .int i), (3, .int (nI 2)), (4, .int j), (5, .int n)]) rfl ?_
  have i_RX4 : ∀ w ∈ wsX40, w ∈ wsX4_copy := by decide +kernel
  have f_32 : Cond.fieldLink RX4 32 (TX4 3).1 (TX4 3).2.1 (TX4 3).2.2.1 ∈ wsX4_copy := by decide +kernel
  refine z_aload_n X dX4_copy_0 rfl 0 rfl ?_
  refine z_iconst (v := nI 0) X dX4_copy_1 (by decide) ?_
  refine z_put (ws' := (wO g a (nI 0) tr ++ (wH g a ++ (wS g (a 17) (a 18) (lnF 2) (leF 2) (ceF 2))))) (N := 5) X i_RX4 (ci := 3) rfl tyX4 tyX4_ok nmX4 0 rfl 3 (by decide) f_32 rfl (ty := .int) (by decide +kernel) rfl rfl (Nat.le_of_ble_eq_true rfl) dX4_copy_2 rfl ?_
  refine z_aload_n X dX4_copy_5 rfl 0 rfl ?_
  refine z_iload_n X dX4_copy_6 rfl 1 rfl ?_
  refine z_callV X (c_X4_sheetAt_in l g a (nI 0) tr 2 (by omega)) gX4_copy_X4_sheetAt rfl ⟨rfl, rfl⟩ (by decide +kernel) ⟨Nat.le_of_ble_eq_true rfl, Nat.le_of_ble_eq_true rfl⟩ ZF.room (ci := 3) rfl 0 rfl (isC := [0, 1]) (by decide) rfl rfl (ws' := (wO g a (nI 0) tr ++ (wH g a ++ (wS g (a 17) (a 18) (lnF 2) (leF 2) (ceF 2))))) rfl (As := [.int (nI 2)]) (n := 1) rfl rfl (st1 := [.ref (a 17)]) rfl (Nat.le_of_ble_eq_true rfl) dX4_copy_7 ?_
  refine z_astore (L' := [(6, .ref (a 17)), (0, .ref (a 0)), (1, .int (nI 2)), (2, .int i), (3, .int (nI 2)), (4, .int j), (5, .int n)]) X dX4_copy_10 (by decide) rfl ?_
  refine z_aload_n X dX4_copy_12 rfl 1 rfl ?_
  refine z_iload_n X dX4_copy_13 rfl 4 rfl ?_
  refine z_callV X (c_X4_sheetAt_in l g a (nI 0) tr 2 (by omega)) gX4_copy_X4_sheetAt rfl ⟨rfl, rfl⟩ (by decide +kernel) ⟨Nat.le_of_ble_eq_true rfl, Nat.le_of_ble_eq_true rfl⟩ ZF.room (ci := 3) rfl 0 rfl (isC := [0, 1]) (by decide) rfl rfl (ws' := (wO g a (nI 0) tr ++ (wH g a ++ (wS g (a 17) (a 18) (lnF 2) (leF 2) (ceF 2))))) rfl (As := [.int (nI 2)]) (n := 1) rfl rfl (st1 := [.ref (a 17)]) rfl (Nat.le_of_ble_eq_true rfl) dX4_copy_14 ?_
  refine z_astore (L' := [(7, .ref (a 17)), (6, .ref (a 17)), (0, .ref (a 0)), (1, .int (nI 2)), (2, .int i), (3, .int (nI 2)), (4, .int j), (5, .int n)]) X dX4_copy_17 (by decide) rfl ?_
  refine z_aload X dX4_copy_19 1 rfl ?_
  refine z_ifnull X dX4_copy_21 ?_
  refine z_aload X dX4_copy_24 0 rfl ?_
  refine z_ifnonnull (tgt := 31) X dX4_copy_26 (by decide) ?_
  refine z_aload X dX4_copy_31 1 rfl ?_
  refine z_callV X (c_X2_hasRow l g (a 17) (a 18) (lnF 2) (leF 2) (ceF 2)) gX4_copy_X2_hasRow rfl ⟨rfl, rfl⟩ (by decide +kernel) ⟨Nat.le_of_ble_eq_true rfl, Nat.le_of_ble_eq_true rfl⟩ ZF.room (ci := 2) rfl 2 rfl (isC := [2, 3]) (by decide) rfl rfl (ws' := (wO g a (nI 0) tr ++ (wH g a ++ (wS g (a 17) (a 18) (lnF 2) (leF 2) (ceF 2))))) rfl (As := []) (n := 0) rfl rfl (st1 := [.int (bI (!decide ((leF 2) = (-1))))]) rfl (Nat.le_of_ble_eq_true rfl) dX4_copy_33 ?_
  refine z_if_eqB (tgt := 47) X dX4_copy_36 (by decide) (fun hq1 => ?_) (fun hq1 => ?_)
  ·
    have hq2 : (decide ((leF 2) = (-1))) = true := by simpa using hq1
    have hq3 : ((leF 2) = (-1)) := of_decide_eq_true hq2
    refine z_aload_n X dX4_copy_47 rfl 2 rfl ?_
    refine z_iconst (v := nI 1) X dX4_copy_48 (by decide) ?_
    refine z_callV X (c_X4_faulted l g a (nI 0) tr (nI 1)) gX4_copy_X4_faulted rfl ⟨rfl, rfl⟩ (by decide +kernel) ⟨Nat.le_of_ble_eq_true rfl, Nat.le_of_ble_eq_true rfl⟩ ZF.room (ci := 3) rfl 0 rfl (isC := [0]) (by decide) rfl rfl (ws' := (wO g a (nI 1) tr ++ (wH g a ++ (wS g (a 17) (a 18) (lnF 2) (leF 2) (ceF 2))))) rfl (As := [.int (nI 1)]) (n := 1) rfl rfl (st1 := [.int ((-10) - (nI 1))]) rfl (Nat.le_of_ble_eq_true rfl) dX4_copy_49 ?_
    have e4 : (cof (lnF 2) (leF 2) (lnF 2) (leF 2) i j n) = (nI 1) := by first | (simp [cor, cof, cok, hq3]; done) | (simp [cor, cof, cok, hq3]; decide)
    have e5 : (if cok (lnF 2) (leF 2) (lnF 2) (leF 2) i j n then va_cpy (ceF 2) (ceF 2) (tn i) (tn j) (tn n) else ceF 2) = (ceF 2) := by first | (simp [cor, cof, cok, hq3]; done) | (simp [cor, cof, cok, hq3]; decide)
    exact z_iret X ZF dX4_copy_52 (by first | (simp [cor, cof, cok, hq3]; done) | (simp [cor, cof, cok, hq3]; decide)) (by first | rw [e5, e4] | (simp only [e5, e4]))
  ·
    have hq6 : (decide ((leF 2) = (-1))) = false := by simpa using hq1
    have hq7 : ¬ ((leF 2) = (-1)) := of_decide_eq_false hq6
    refine z_aload X dX4_copy_39 0 rfl ?_
    refine z_callV X (c_X2_hasRow l g (a 17) (a 18) (lnF 2) (leF 2) (ceF 2)) gX4_copy_X2_hasRow rfl ⟨rfl, rfl⟩ (by decide +kernel) ⟨Nat.le_of_ble_eq_true rfl, Nat.le_of_ble_eq_true rfl⟩ ZF.room (ci := 2) rfl 2 rfl (isC := [2, 3]) (by decide) rfl rfl (ws' := (wO g a (nI 0) tr ++ (wH g a ++ (wS g (a 17) (a 18) (lnF 2) (leF 2) (ceF 2))))) rfl (As := []) (n := 0) rfl rfl (st1 := [.int (bI (!decide ((leF 2) = (-1))))]) rfl (Nat.le_of_ble_eq_true rfl) dX4_copy_41 ?_
    refine z_if_neB (tgt := 53) X dX4_copy_44 (by decide) (fun hq8 => ?_) (fun hq8 => ?_)
    ·
      have hq9 : (decide ((leF 2) = (-1))) = false := by simpa using hq8
      refine z_aload X dX4_copy_53 1 rfl ?_
      refine z_callV X (c_X2_rowLane l g (a 17) (a 18) (lnF 2) (leF 2) (ceF 2)) gX4_copy_X2_rowLane rfl ⟨rfl, rfl⟩ (by decide +kernel) ⟨Nat.le_of_ble_eq_true rfl, Nat.le_of_ble_eq_true rfl⟩ ZF.room (ci := 2) rfl 2 rfl (isC := [2, 3]) (by decide) rfl rfl (ws' := (wO g a (nI 0) tr ++ (wH g a ++ (wS g (a 17) (a 18) (lnF 2) (leF 2) (ceF 2))))) rfl (As := []) (n := 0) rfl rfl (st1 := [.int (lnF 2)]) rfl (Nat.le_of_ble_eq_true rfl) dX4_copy_55 ?_
      refine z_aload X dX4_copy_58 0 rfl ?_
      refine z_callV X (c_X2_rowLane l g (a 17) (a 18) (lnF 2) (leF 2) (ceF 2)) gX4_copy_X2_rowLane rfl ⟨rfl, rfl⟩ (by decide +kernel) ⟨Nat.le_of_ble_eq_true rfl, Nat.le_of_ble_eq_true rfl⟩ ZF.room (ci := 2) rfl 2 rfl (isC := [2, 3]) (by decide) rfl rfl (ws' := (wO g a (nI 0) tr ++ (wH g a ++ (wS g (a 17) (a 18) (lnF 2) (leF 2) (ceF 2))))) rfl (As := []) (n := 0) rfl rfl (st1 := [.int (lnF 2), .int (lnF 2)]) rfl (Nat.le_of_ble_eq_true rfl) dX4_copy_60 ?_
      refine z_icmp_eq (tgt := 72) X dX4_copy_63 (by decide) (fun hq10 => ?_) (fun hq10 => ?_)
      ·
        refine z_aload X dX4_copy_72 1 rfl ?_
        refine z_iload_n X dX4_copy_74 rfl 4 rfl ?_
        refine z_iload X dX4_copy_75 7 rfl ?_
        refine z_callV X (c_X2_hasCells l g (a 17) (a 18) (lnF 2) (leF 2) (ceF 2) i n) gX4_copy_X2_hasCells rfl ⟨rfl, rfl⟩ (by decide +kernel) ⟨Nat.le_of_ble_eq_true rfl, Nat.le_of_ble_eq_true rfl⟩ ZF.room (ci := 2) rfl 2 rfl (isC := [2, 3]) (by decide) rfl rfl (ws' := (wO g a (nI 0) tr ++ (wH g a ++ (wS g (a 17) (a 18) (lnF 2) (leF 2) (ceF 2))))) rfl (As := [.int i, .int n]) (n := 2) rfl rfl (st1 := [.int (bI (hcl (leF 2) i n))]) rfl (Nat.le_of_ble_eq_true rfl) dX4_copy_77 ?_
        refine z_if_eqB (tgt := 95) X dX4_copy_80 (by decide) (fun hq11 => ?_) (fun hq11 => ?_)
        ·
          refine z_aload_n X dX4_copy_95 rfl 2 rfl ?_
          refine z_iconst (v := nI 3) X dX4_copy_96 (by decide) ?_
          refine z_callV X (c_X4_faulted l g a (nI 0) tr (nI 3)) gX4_copy_X4_faulted rfl ⟨rfl, rfl⟩ (by decide +kernel) ⟨Nat.le_of_ble_eq_true rfl, Nat.le_of_ble_eq_true rfl⟩ ZF.room (ci := 3) rfl 0 rfl (isC := [0]) (by decide) rfl rfl (ws' := (wO g a (nI 3) tr ++ (wH g a ++ (wS g (a 17) (a 18) (lnF 2) (leF 2) (ceF 2))))) rfl (As := [.int (nI 3)]) (n := 1) rfl rfl (st1 := [.int ((-10) - (nI 3))]) rfl (Nat.le_of_ble_eq_true rfl) dX4_copy_97 ?_
          have e12 : (cof (lnF 2) (leF 2) (lnF 2) (leF 2) i j n) = (nI 3) := by first | (simp [cor, cof, cok, hq7, hq10, hq11]; done) | (simp [cor, cof, cok, hq7, hq10, hq11]; decide)
          have e13 : (if cok (lnF 2) (leF 2) (lnF 2) (leF 2) i j n then va_cpy (ceF 2) (ceF 2) (tn i) (tn j) (tn n) else ceF 2) = (ceF 2) := by first | (simp [cor, cof, cok, hq7, hq10, hq11]; done) | (simp [cor, cof, cok, hq7, hq10, hq11]; decide)
          exact z_iret X ZF dX4_copy_100 (by first | (simp [cor, cof, cok, hq7, hq10, hq11]; done) | (simp [cor, cof, cok, hq7, hq10, hq11]; decide)) (by first | rw [e13, e12] | (simp only [e13, e12]))
        ·
          refine z_aload X dX4_copy_83 0 rfl ?_
          refine z_iload X dX4_copy_85 6 rfl ?_
          refine z_iload X dX4_copy_87 7 rfl ?_
          refine z_callV X (c_X2_hasCells l g (a 17) (a 18) (lnF 2) (leF 2) (ceF 2) j n) gX4_copy_X2_hasCells rfl ⟨rfl, rfl⟩ (by decide +kernel) ⟨Nat.le_of_ble_eq_true rfl, Nat.le_of_ble_eq_true rfl⟩ ZF.room (ci := 2) rfl 2 rfl (isC := [2, 3]) (by decide) rfl rfl (ws' := (wO g a (nI 0) tr ++ (wH g a ++ (wS g (a 17) (a 18) (lnF 2) (leF 2) (ceF 2))))) rfl (As := [.int j, .int n]) (n := 2) rfl rfl (st1 := [.int (bI (hcl (leF 2) j n))]) rfl (Nat.le_of_ble_eq_true rfl) dX4_copy_89 ?_
          refine z_if_neB (tgt := 101) X dX4_copy_92 (by decide) (fun hq14 => ?_) (fun hq14 => ?_)
          ·
            obtain ⟨i_a, n_a, ei_a, en_a, m_a, hm_a, him_a, hin_a⟩ := hcl_t hle hq11
            subst ei_a; subst en_a
            obtain ⟨j_a, ej_a, m_b, hm_b, hmb_b, hjn_b⟩ := hcl_t2 (by omega) hle2 hq14
            subst ej_a
            have hti_a : tn (nI i_a) = i_a := nI_clamp (by omega)
            have htn_a : tn (nI n_a) = n_a := nI_clamp (by omega)
            have htj_a : tn (nI j_a) = j_a := nI_clamp (by omega)
            refine z_aload X dX4_copy_101 1 rfl ?_
            refine z_iload_n X dX4_copy_103 rfl 4 rfl ?_
            refine z_aload X dX4_copy_104 0 rfl ?_
            refine z_iload X dX4_copy_106 6 rfl ?_
            refine z_iload X dX4_copy_108 7 rfl ?_
            refine z_callV X (c_X2_copyTo_one l g (a 17) (a 18) (lnF 2) (leF 2) (ceF 2) i_a j_a n_a (by omega) (by omega) (by first | assumption | omega) (by first | assumption | omega)) gX4_copy_X2_copyTo rfl ⟨rfl, rfl⟩ (by decide +kernel) ⟨Nat.le_of_ble_eq_true rfl, Nat.le_of_ble_eq_true rfl⟩ ZF.room (ci := 2) rfl 2 rfl (isC := [2, 3]) (by decide) rfl rfl (ws' := (wO g a (nI 0) tr ++ (wH g a ++ (wS g (a 17) (a 18) (lnF 2) (leF 2) (va_cpy (ceF 2) (ceF 2) i_a j_a n_a))))) rfl (As := [.int (nI i_a), .ref (a 17), .int (nI j_a), .int (nI n_a)]) (n := 4) rfl rfl (st1 := []) rfl (Nat.le_of_ble_eq_true rfl) dX4_copy_110 ?_
            refine z_iload X dX4_copy_113 7 rfl ?_
            have e15 : (cof (lnF 2) (leF 2) (lnF 2) (leF 2) (nI i_a) (nI j_a) (nI n_a)) = (nI 0) := by first | (simp [cor, cof, cok, hq7, hq10, hq11, hti_a, htn_a, htj_a, hq14]; done) | (simp [cor, cof, cok, hq7, hq10, hq11, hti_a, htn_a, htj_a, hq14]; decide)
            have e16 : (if cok (lnF 2) (leF 2) (lnF 2) (leF 2) (nI i_a) (nI j_a) (nI n_a) then va_cpy (ceF 2) (ceF 2) (tn (nI i_a)) (tn (nI j_a)) (tn (nI n_a)) else ceF 2) = (va_cpy (ceF 2) (ceF 2) i_a j_a n_a) := by first | (simp [cor, cof, cok, hq7, hq10, hq11, hti_a, htn_a, htj_a, hq14]; done) | (simp [cor, cof, cok, hq7, hq10, hq11, hti_a, htn_a, htj_a, hq14]; decide)
            exact z_iret X ZF dX4_copy_115 (by first | (simp [cor, cof, cok, hq7, hq10, hq11, hti_a, htn_a, htj_a, hq14]; done) | (simp [cor, cof, cok, hq7, hq10, hq11, hti_a, htn_a, htj_a, hq14]; decide)) (by first | rw [e16, e15] | (simp only [e16, e15]))
          ·
            refine z_aload_n X dX4_copy_95 rfl 2 rfl ?_
            refine z_iconst (v := nI 3) X dX4_copy_96 (by decide) ?_
            refine z_callV X (c_X4_faulted l g a (nI 0) tr (nI 3)) gX4_copy_X4_faulted rfl ⟨rfl, rfl⟩ (by decide +kernel) ⟨Nat.le_of_ble_eq_true rfl, Nat.le_of_ble_eq_true rfl⟩ ZF.room (ci := 3) rfl 0 rfl (isC := [0]) (by decide) rfl rfl (ws' := (wO g a (nI 3) tr ++ (wH g a ++ (wS g (a 17) (a 18) (lnF 2) (leF 2) (ceF 2))))) rfl (As := [.int (nI 3)]) (n := 1) rfl rfl (st1 := [.int ((-10) - (nI 3))]) rfl (Nat.le_of_ble_eq_true rfl) dX4_copy_97 ?_
            have e17 : (cof (lnF 2) (leF 2) (lnF 2) (leF 2) i j n) = (nI 3) := by first | (simp [cor, cof, cok, hq7, hq10, hq11, hq14]; done) | (simp [cor, cof, cok, hq7, hq10, hq11, hq14]; decide)
            have e18 : (if cok (lnF 2) (leF 2) (lnF 2) (leF 2) i j n then va_cpy (ceF 2) (ceF 2) (tn i) (tn j) (tn n) else ceF 2) = (ceF 2) := by first | (simp [cor, cof, cok, hq7, hq10, hq11, hq14]; done) | (simp [cor, cof, cok, hq7, hq10, hq11, hq14]; decide)
            exact z_iret X ZF dX4_copy_100 (by first | (simp [cor, cof, cok, hq7, hq10, hq11, hq14]; done) | (simp [cor, cof, cok, hq7, hq10, hq11, hq14]; decide)) (by first | rw [e18, e17] | (simp only [e18, e17]))
      ·
        exact absurd rfl hq10
    ·
      have hq19 : (decide ((leF 2) = (-1))) = true := by simpa using hq8
      exact absurd (hq6.symm.trans hq19) (by decide)
abbrev rX4_copy_23 : Room := { frames := 2, cells := 0, slots := 0, locals := 46 }
set_option maxHeartbeats 4000000 in
set_option maxRecDepth 100000 in
theorem c_X4_copy_23 (l : Launch) (g : zg) (a : Nat → Nat) (ft : Int32) (tr : Int32) (lnF : Nat → Int32) (leF : Nat → Int32) (ceF : Nat → Nat → Int32) (i : Int32) (j : Int32) (n : Int32) (hle : vle (leF 2)) (hle2 : vle (leF 3)) : zM l g yX4_copy wsX4_copy rX4_copy_23 [.ref (a 0), .int (nI 2), .int i, .int (nI 3), .int j, .int n] (wO g a ft tr ++ (wH g a ++ (wS g (a 17) (a 18) (lnF 2) (leF 2) (ceF 2) ++ (wS g (a 19) (a 20) (lnF 3) (leF 3) (ceF 3))))) (some (.int (cor (lnF 2) (leF 2) (lnF 3) (leF 3) i j n))) (wO g a (cof (lnF 2) (leF 2) (lnF 3) (leF 3) i j n) tr ++ (wH g a ++ (wS g (a 17) (a 18) (lnF 2) (leF 2) (ceF 2) ++ (wS g (a 19) (a 20) (lnF 3) (leF 3) (if cok (lnF 2) (leF 2) (lnF 3) (leF 3) i j n then va_cpy (ceF 2) (ceF 3) (tn i) (tn j) (tn n) else ceF 3))))) := by
  refine z_met (own := RX4) (cc := cX4_copy) (maxL := 8) (ret := some .int) (by decide +kernel) rfl rfl (Nat.le_of_ble_eq_true rfl) ?_
  intro M X ZF
  refine z_Le (L' := [(0, .ref (a 0)), (1, .int (nI 2)), (2, .int i), (3, .int (nI 3)), (4, .int j), (5, .int n)]) rfl ?_
  have i_RX4 : ∀ w ∈ wsX40, w ∈ wsX4_copy := by decide +kernel
  have f_32 : Cond.fieldLink RX4 32 (TX4 3).1 (TX4 3).2.1 (TX4 3).2.2.1 ∈ wsX4_copy := by decide +kernel
  refine z_aload_n X dX4_copy_0 rfl 0 rfl ?_
  refine z_iconst (v := nI 0) X dX4_copy_1 (by decide) ?_
  refine z_put (ws' := (wO g a (nI 0) tr ++ (wH g a ++ (wS g (a 17) (a 18) (lnF 2) (leF 2) (ceF 2) ++ (wS g (a 19) (a 20) (lnF 3) (leF 3) (ceF 3)))))) (N := 5) X i_RX4 (ci := 3) rfl tyX4 tyX4_ok nmX4 0 rfl 3 (by decide) f_32 rfl (ty := .int) (by decide +kernel) rfl rfl (Nat.le_of_ble_eq_true rfl) dX4_copy_2 rfl ?_
  refine z_aload_n X dX4_copy_5 rfl 0 rfl ?_
  refine z_iload_n X dX4_copy_6 rfl 1 rfl ?_
  refine z_callV X (c_X4_sheetAt_in l g a (nI 0) tr 2 (by omega)) gX4_copy_X4_sheetAt rfl ⟨rfl, rfl⟩ (by decide +kernel) ⟨Nat.le_of_ble_eq_true rfl, Nat.le_of_ble_eq_true rfl⟩ ZF.room (ci := 3) rfl 0 rfl (isC := [0, 1]) (by decide) rfl rfl (ws' := (wO g a (nI 0) tr ++ (wH g a ++ (wS g (a 17) (a 18) (lnF 2) (leF 2) (ceF 2) ++ (wS g (a 19) (a 20) (lnF 3) (leF 3) (ceF 3)))))) rfl (As := [.int (nI 2)]) (n := 1) rfl rfl (st1 := [.ref (a 17)]) rfl (Nat.le_of_ble_eq_true rfl) dX4_copy_7 ?_
  refine z_astore (L' := [(6, .ref (a 17)), (0, .ref (a 0)), (1, .int (nI 2)), (2, .int i), (3, .int (nI 3)), (4, .int j), (5, .int n)]) X dX4_copy_10 (by decide) rfl ?_
  refine z_aload_n X dX4_copy_12 rfl 1 rfl ?_
  refine z_iload_n X dX4_copy_13 rfl 4 rfl ?_
  refine z_callV X (c_X4_sheetAt_in l g a (nI 0) tr 3 (by omega)) gX4_copy_X4_sheetAt rfl ⟨rfl, rfl⟩ (by decide +kernel) ⟨Nat.le_of_ble_eq_true rfl, Nat.le_of_ble_eq_true rfl⟩ ZF.room (ci := 3) rfl 0 rfl (isC := [0, 1]) (by decide) rfl rfl (ws' := (wO g a (nI 0) tr ++ (wH g a ++ (wS g (a 17) (a 18) (lnF 2) (leF 2) (ceF 2) ++ (wS g (a 19) (a 20) (lnF 3) (leF 3) (ceF 3)))))) rfl (As := [.int (nI 3)]) (n := 1) rfl rfl (st1 := [.ref (a 19)]) rfl (Nat.le_of_ble_eq_true rfl) dX4_copy_14 ?_
  refine z_astore (L' := [(7, .ref (a 19)), (6, .ref (a 17)), (0, .ref (a 0)), (1, .int (nI 2)), (2, .int i), (3, .int (nI 3)), (4, .int j), (5, .int n)]) X dX4_copy_17 (by decide) rfl ?_
  refine z_aload X dX4_copy_19 1 rfl ?_
  refine z_ifnull X dX4_copy_21 ?_
  refine z_aload X dX4_copy_24 0 rfl ?_
  refine z_ifnonnull (tgt := 31) X dX4_copy_26 (by decide) ?_
  refine z_aload X dX4_copy_31 1 rfl ?_
  refine z_callV X (c_X2_hasRow l g (a 17) (a 18) (lnF 2) (leF 2) (ceF 2)) gX4_copy_X2_hasRow rfl ⟨rfl, rfl⟩ (by decide +kernel) ⟨Nat.le_of_ble_eq_true rfl, Nat.le_of_ble_eq_true rfl⟩ ZF.room (ci := 2) rfl 2 rfl (isC := [2, 3]) (by decide) rfl rfl (ws' := (wO g a (nI 0) tr ++ (wH g a ++ (wS g (a 17) (a 18) (lnF 2) (leF 2) (ceF 2) ++ (wS g (a 19) (a 20) (lnF 3) (leF 3) (ceF 3)))))) rfl (As := []) (n := 0) rfl rfl (st1 := [.int (bI (!decide ((leF 2) = (-1))))]) rfl (Nat.le_of_ble_eq_true rfl) dX4_copy_33 ?_
  refine z_if_eqB (tgt := 47) X dX4_copy_36 (by decide) (fun hq1 => ?_) (fun hq1 => ?_)
  ·
    have hq2 : (decide ((leF 2) = (-1))) = true := by simpa using hq1
    have hq3 : ((leF 2) = (-1)) := of_decide_eq_true hq2
    refine z_aload_n X dX4_copy_47 rfl 2 rfl ?_
    refine z_iconst (v := nI 1) X dX4_copy_48 (by decide) ?_
    refine z_callV X (c_X4_faulted l g a (nI 0) tr (nI 1)) gX4_copy_X4_faulted rfl ⟨rfl, rfl⟩ (by decide +kernel) ⟨Nat.le_of_ble_eq_true rfl, Nat.le_of_ble_eq_true rfl⟩ ZF.room (ci := 3) rfl 0 rfl (isC := [0]) (by decide) rfl rfl (ws' := (wO g a (nI 1) tr ++ (wH g a ++ (wS g (a 17) (a 18) (lnF 2) (leF 2) (ceF 2) ++ (wS g (a 19) (a 20) (lnF 3) (leF 3) (ceF 3)))))) rfl (As := [.int (nI 1)]) (n := 1) rfl rfl (st1 := [.int ((-10) - (nI 1))]) rfl (Nat.le_of_ble_eq_true rfl) dX4_copy_49 ?_
    have e4 : (cof (lnF 2) (leF 2) (lnF 3) (leF 3) i j n) = (nI 1) := by first | (simp [cor, cof, cok, hq3]; done) | (simp [cor, cof, cok, hq3]; decide)
    have e5 : (if cok (lnF 2) (leF 2) (lnF 3) (leF 3) i j n then va_cpy (ceF 2) (ceF 3) (tn i) (tn j) (tn n) else ceF 3) = (ceF 3) := by first | (simp [cor, cof, cok, hq3]; done) | (simp [cor, cof, cok, hq3]; decide)
    exact z_iret X ZF dX4_copy_52 (by first | (simp [cor, cof, cok, hq3]; done) | (simp [cor, cof, cok, hq3]; decide)) (by first | rw [e5, e4] | (simp only [e5, e4]))
  ·
    have hq6 : (decide ((leF 2) = (-1))) = false := by simpa using hq1
    have hq7 : ¬ ((leF 2) = (-1)) := of_decide_eq_false hq6
    refine z_aload X dX4_copy_39 0 rfl ?_
    refine z_callV X (c_X2_hasRow l g (a 19) (a 20) (lnF 3) (leF 3) (ceF 3)) gX4_copy_X2_hasRow rfl ⟨rfl, rfl⟩ (by decide +kernel) ⟨Nat.le_of_ble_eq_true rfl, Nat.le_of_ble_eq_true rfl⟩ ZF.room (ci := 2) rfl 4 rfl (isC := [4, 5]) (by decide) rfl rfl (ws' := (wO g a (nI 0) tr ++ (wH g a ++ (wS g (a 17) (a 18) (lnF 2) (leF 2) (ceF 2) ++ (wS g (a 19) (a 20) (lnF 3) (leF 3) (ceF 3)))))) rfl (As := []) (n := 0) rfl rfl (st1 := [.int (bI (!decide ((leF 3) = (-1))))]) rfl (Nat.le_of_ble_eq_true rfl) dX4_copy_41 ?_
    refine z_if_neB (tgt := 53) X dX4_copy_44 (by decide) (fun hq8 => ?_) (fun hq8 => ?_)
    ·
      have hq9 : (decide ((leF 3) = (-1))) = false := by simpa using hq8
      have hq10 : ¬ ((leF 3) = (-1)) := of_decide_eq_false hq9
      refine z_aload X dX4_copy_53 1 rfl ?_
      refine z_callV X (c_X2_rowLane l g (a 17) (a 18) (lnF 2) (leF 2) (ceF 2)) gX4_copy_X2_rowLane rfl ⟨rfl, rfl⟩ (by decide +kernel) ⟨Nat.le_of_ble_eq_true rfl, Nat.le_of_ble_eq_true rfl⟩ ZF.room (ci := 2) rfl 2 rfl (isC := [2, 3]) (by decide) rfl rfl (ws' := (wO g a (nI 0) tr ++ (wH g a ++ (wS g (a 17) (a 18) (lnF 2) (leF 2) (ceF 2) ++ (wS g (a 19) (a 20) (lnF 3) (leF 3) (ceF 3)))))) rfl (As := []) (n := 0) rfl rfl (st1 := [.int (lnF 2)]) rfl (Nat.le_of_ble_eq_true rfl) dX4_copy_55 ?_
      refine z_aload X dX4_copy_58 0 rfl ?_
      refine z_callV X (c_X2_rowLane l g (a 19) (a 20) (lnF 3) (leF 3) (ceF 3)) gX4_copy_X2_rowLane rfl ⟨rfl, rfl⟩ (by decide +kernel) ⟨Nat.le_of_ble_eq_true rfl, Nat.le_of_ble_eq_true rfl⟩ ZF.room (ci := 2) rfl 4 rfl (isC := [4, 5]) (by decide) rfl rfl (ws' := (wO g a (nI 0) tr ++ (wH g a ++ (wS g (a 17) (a 18) (lnF 2) (leF 2) (ceF 2) ++ (wS g (a 19) (a 20) (lnF 3) (leF 3) (ceF 3)))))) rfl (As := []) (n := 0) rfl rfl (st1 := [.int (lnF 3), .int (lnF 2)]) rfl (Nat.le_of_ble_eq_true rfl) dX4_copy_60 ?_
      refine z_icmp_eq (tgt := 72) X dX4_copy_63 (by decide) (fun hq11 => ?_) (fun hq11 => ?_)
      ·
        refine z_aload X dX4_copy_72 1 rfl ?_
        refine z_iload_n X dX4_copy_74 rfl 4 rfl ?_
        refine z_iload X dX4_copy_75 7 rfl ?_
        refine z_callV X (c_X2_hasCells l g (a 17) (a 18) (lnF 2) (leF 2) (ceF 2) i n) gX4_copy_X2_hasCells rfl ⟨rfl, rfl⟩ (by decide +kernel) ⟨Nat.le_of_ble_eq_true rfl, Nat.le_of_ble_eq_true rfl⟩ ZF.room (ci := 2) rfl 2 rfl (isC := [2, 3]) (by decide) rfl rfl (ws' := (wO g a (nI 0) tr ++ (wH g a ++ (wS g (a 17) (a 18) (lnF 2) (leF 2) (ceF 2) ++ (wS g (a 19) (a 20) (lnF 3) (leF 3) (ceF 3)))))) rfl (As := [.int i, .int n]) (n := 2) rfl rfl (st1 := [.int (bI (hcl (leF 2) i n))]) rfl (Nat.le_of_ble_eq_true rfl) dX4_copy_77 ?_
        refine z_if_eqB (tgt := 95) X dX4_copy_80 (by decide) (fun hq12 => ?_) (fun hq12 => ?_)
        ·
          refine z_aload_n X dX4_copy_95 rfl 2 rfl ?_
          refine z_iconst (v := nI 3) X dX4_copy_96 (by decide) ?_
          refine z_callV X (c_X4_faulted l g a (nI 0) tr (nI 3)) gX4_copy_X4_faulted rfl ⟨rfl, rfl⟩ (by decide +kernel) ⟨Nat.le_of_ble_eq_true rfl, Nat.le_of_ble_eq_true rfl⟩ ZF.room (ci := 3) rfl 0 rfl (isC := [0]) (by decide) rfl rfl (ws' := (wO g a (nI 3) tr ++ (wH g a ++ (wS g (a 17) (a 18) (lnF 2) (leF 2) (ceF 2) ++ (wS g (a 19) (a 20) (lnF 3) (leF 3) (ceF 3)))))) rfl (As := [.int (nI 3)]) (n := 1) rfl rfl (st1 := [.int ((-10) - (nI 3))]) rfl (Nat.le_of_ble_eq_true rfl) dX4_copy_97 ?_
          have e13 : (cof (lnF 2) (leF 2) (lnF 3) (leF 3) i j n) = (nI 3) := by first | (simp [cor, cof, cok, hq7, hq10, hq11, hq12]; done) | (simp [cor, cof, cok, hq7, hq10, hq11, hq12]; decide)
          have e14 : (if cok (lnF 2) (leF 2) (lnF 3) (leF 3) i j n then va_cpy (ceF 2) (ceF 3) (tn i) (tn j) (tn n) else ceF 3) = (ceF 3) := by first | (simp [cor, cof, cok, hq7, hq10, hq11, hq12]; done) | (simp [cor, cof, cok, hq7, hq10, hq11, hq12]; decide)
          exact z_iret X ZF dX4_copy_100 (by first | (simp [cor, cof, cok, hq7, hq10, hq11, hq12]; done) | (simp [cor, cof, cok, hq7, hq10, hq11, hq12]; decide)) (by first | rw [e14, e13] | (simp only [e14, e13]))
        ·
          refine z_aload X dX4_copy_83 0 rfl ?_
          refine z_iload X dX4_copy_85 6 rfl ?_
          refine z_iload X dX4_copy_87 7 rfl ?_
          refine z_callV X (c_X2_hasCells l g (a 19) (a 20) (lnF 3) (leF 3) (ceF 3) j n) gX4_copy_X2_hasCells rfl ⟨rfl, rfl⟩ (by decide +kernel) ⟨Nat.le_of_ble_eq_true rfl, Nat.le_of_ble_eq_true rfl⟩ ZF.room (ci := 2) rfl 4 rfl (isC := [4, 5]) (by decide) rfl rfl (ws' := (wO g a (nI 0) tr ++ (wH g a ++ (wS g (a 17) (a 18) (lnF 2) (leF 2) (ceF 2) ++ (wS g (a 19) (a 20) (lnF 3) (leF 3) (ceF 3)))))) rfl (As := [.int j, .int n]) (n := 2) rfl rfl (st1 := [.int (bI (hcl (leF 3) j n))]) rfl (Nat.le_of_ble_eq_true rfl) dX4_copy_89 ?_
          refine z_if_neB (tgt := 101) X dX4_copy_92 (by decide) (fun hq15 => ?_) (fun hq15 => ?_)
          ·
            obtain ⟨i_a, n_a, ei_a, en_a, m_a, hm_a, him_a, hin_a⟩ := hcl_t hle hq12
            subst ei_a; subst en_a
            obtain ⟨j_a, ej_a, m_b, hm_b, hmb_b, hjn_b⟩ := hcl_t2 (by omega) hle2 hq15
            subst ej_a
            have hti_a : tn (nI i_a) = i_a := nI_clamp (by omega)
            have htn_a : tn (nI n_a) = n_a := nI_clamp (by omega)
            have htj_a : tn (nI j_a) = j_a := nI_clamp (by omega)
            refine z_aload X dX4_copy_101 1 rfl ?_
            refine z_iload_n X dX4_copy_103 rfl 4 rfl ?_
            refine z_aload X dX4_copy_104 0 rfl ?_
            refine z_iload X dX4_copy_106 6 rfl ?_
            refine z_iload X dX4_copy_108 7 rfl ?_
            refine z_callV X (c_X2_copyTo_two l g (a 17) (a 18) (a 19) (a 20) (lnF 2) (leF 2) (ceF 2) (lnF 3) (leF 3) (ceF 3) i_a j_a n_a (by omega) (by omega) (by first | assumption | omega) (by first | assumption | omega)) gX4_copy_X2_copyTo rfl ⟨rfl, rfl⟩ (by decide +kernel) ⟨Nat.le_of_ble_eq_true rfl, Nat.le_of_ble_eq_true rfl⟩ ZF.room (ci := 2) rfl 2 rfl (isC := [2, 3, 4, 5]) (by decide) rfl rfl (ws' := (wO g a (nI 0) tr ++ (wH g a ++ (wS g (a 17) (a 18) (lnF 2) (leF 2) (ceF 2) ++ (wS g (a 19) (a 20) (lnF 3) (leF 3) (va_cpy (ceF 2) (ceF 3) i_a j_a n_a)))))) rfl (As := [.int (nI i_a), .ref (a 19), .int (nI j_a), .int (nI n_a)]) (n := 4) rfl rfl (st1 := []) rfl (Nat.le_of_ble_eq_true rfl) dX4_copy_110 ?_
            refine z_iload X dX4_copy_113 7 rfl ?_
            have e16 : (cof (lnF 2) (leF 2) (lnF 3) (leF 3) (nI i_a) (nI j_a) (nI n_a)) = (nI 0) := by first | (simp [cor, cof, cok, hq7, hq10, hq11, hq12, hti_a, htn_a, htj_a, hq15]; done) | (simp [cor, cof, cok, hq7, hq10, hq11, hq12, hti_a, htn_a, htj_a, hq15]; decide)
            have e17 : (if cok (lnF 2) (leF 2) (lnF 3) (leF 3) (nI i_a) (nI j_a) (nI n_a) then va_cpy (ceF 2) (ceF 3) (tn (nI i_a)) (tn (nI j_a)) (tn (nI n_a)) else ceF 3) = (va_cpy (ceF 2) (ceF 3) i_a j_a n_a) := by first | (simp [cor, cof, cok, hq7, hq10, hq11, hq12, hti_a, htn_a, htj_a, hq15]; done) | (simp [cor, cof, cok, hq7, hq10, hq11, hq12, hti_a, htn_a, htj_a, hq15]; decide)
            exact z_iret X ZF dX4_copy_115 (by first | (simp [cor, cof, cok, hq7, hq10, hq11, hq12, hti_a, htn_a, htj_a, hq15]; done) | (simp [cor, cof, cok, hq7, hq10, hq11, hq12, hti_a, htn_a, htj_a, hq15]; decide)) (by first | rw [e17, e16] | (simp only [e17, e16]))
          ·
            refine z_aload_n X dX4_copy_95 rfl 2 rfl ?_
            refine z_iconst (v := nI 3) X dX4_copy_96 (by decide) ?_
            refine z_callV X (c_X4_faulted l g a (nI 0) tr (nI 3)) gX4_copy_X4_faulted rfl ⟨rfl, rfl⟩ (by decide +kernel) ⟨Nat.le_of_ble_eq_true rfl, Nat.le_of_ble_eq_true rfl⟩ ZF.room (ci := 3) rfl 0 rfl (isC := [0]) (by decide) rfl rfl (ws' := (wO g a (nI 3) tr ++ (wH g a ++ (wS g (a 17) (a 18) (lnF 2) (leF 2) (ceF 2) ++ (wS g (a 19) (a 20) (lnF 3) (leF 3) (ceF 3)))))) rfl (As := [.int (nI 3)]) (n := 1) rfl rfl (st1 := [.int ((-10) - (nI 3))]) rfl (Nat.le_of_ble_eq_true rfl) dX4_copy_97 ?_
            have e18 : (cof (lnF 2) (leF 2) (lnF 3) (leF 3) i j n) = (nI 3) := by first | (simp [cor, cof, cok, hq7, hq10, hq11, hq12, hq15]; done) | (simp [cor, cof, cok, hq7, hq10, hq11, hq12, hq15]; decide)
            have e19 : (if cok (lnF 2) (leF 2) (lnF 3) (leF 3) i j n then va_cpy (ceF 2) (ceF 3) (tn i) (tn j) (tn n) else ceF 3) = (ceF 3) := by first | (simp [cor, cof, cok, hq7, hq10, hq11, hq12, hq15]; done) | (simp [cor, cof, cok, hq7, hq10, hq11, hq12, hq15]; decide)
            exact z_iret X ZF dX4_copy_100 (by first | (simp [cor, cof, cok, hq7, hq10, hq11, hq12, hq15]; done) | (simp [cor, cof, cok, hq7, hq10, hq11, hq12, hq15]; decide)) (by first | rw [e19, e18] | (simp only [e19, e18]))
      ·
        refine z_aload_n X dX4_copy_66 rfl 2 rfl ?_
        refine z_iconst (v := nI 2) X dX4_copy_67 (by decide) ?_
        refine z_callV X (c_X4_faulted l g a (nI 0) tr (nI 2)) gX4_copy_X4_faulted rfl ⟨rfl, rfl⟩ (by decide +kernel) ⟨Nat.le_of_ble_eq_true rfl, Nat.le_of_ble_eq_true rfl⟩ ZF.room (ci := 3) rfl 0 rfl (isC := [0]) (by decide) rfl rfl (ws' := (wO g a (nI 2) tr ++ (wH g a ++ (wS g (a 17) (a 18) (lnF 2) (leF 2) (ceF 2) ++ (wS g (a 19) (a 20) (lnF 3) (leF 3) (ceF 3)))))) rfl (As := [.int (nI 2)]) (n := 1) rfl rfl (st1 := [.int ((-10) - (nI 2))]) rfl (Nat.le_of_ble_eq_true rfl) dX4_copy_68 ?_
        have e20 : (cof (lnF 2) (leF 2) (lnF 3) (leF 3) i j n) = (nI 2) := by first | (simp [cor, cof, cok, hq7, hq10, hq11]; done) | (simp [cor, cof, cok, hq7, hq10, hq11]; decide)
        have e21 : (if cok (lnF 2) (leF 2) (lnF 3) (leF 3) i j n then va_cpy (ceF 2) (ceF 3) (tn i) (tn j) (tn n) else ceF 3) = (ceF 3) := by first | (simp [cor, cof, cok, hq7, hq10, hq11]; done) | (simp [cor, cof, cok, hq7, hq10, hq11]; decide)
        exact z_iret X ZF dX4_copy_71 (by first | (simp [cor, cof, cok, hq7, hq10, hq11]; done) | (simp [cor, cof, cok, hq7, hq10, hq11]; decide)) (by first | rw [e21, e20] | (simp only [e21, e20]))
    ·
      have hq22 : (decide ((leF 3) = (-1))) = true := by simpa using hq8
      have hq23 : ((leF 3) = (-1)) := of_decide_eq_true hq22
      refine z_aload_n X dX4_copy_47 rfl 2 rfl ?_
      refine z_iconst (v := nI 1) X dX4_copy_48 (by decide) ?_
      refine z_callV X (c_X4_faulted l g a (nI 0) tr (nI 1)) gX4_copy_X4_faulted rfl ⟨rfl, rfl⟩ (by decide +kernel) ⟨Nat.le_of_ble_eq_true rfl, Nat.le_of_ble_eq_true rfl⟩ ZF.room (ci := 3) rfl 0 rfl (isC := [0]) (by decide) rfl rfl (ws' := (wO g a (nI 1) tr ++ (wH g a ++ (wS g (a 17) (a 18) (lnF 2) (leF 2) (ceF 2) ++ (wS g (a 19) (a 20) (lnF 3) (leF 3) (ceF 3)))))) rfl (As := [.int (nI 1)]) (n := 1) rfl rfl (st1 := [.int ((-10) - (nI 1))]) rfl (Nat.le_of_ble_eq_true rfl) dX4_copy_49 ?_
      have e24 : (cof (lnF 2) (leF 2) (lnF 3) (leF 3) i j n) = (nI 1) := by first | (simp [cor, cof, cok, hq7, hq23]; done) | (simp [cor, cof, cok, hq7, hq23]; decide)
      have e25 : (if cok (lnF 2) (leF 2) (lnF 3) (leF 3) i j n then va_cpy (ceF 2) (ceF 3) (tn i) (tn j) (tn n) else ceF 3) = (ceF 3) := by first | (simp [cor, cof, cok, hq7, hq23]; done) | (simp [cor, cof, cok, hq7, hq23]; decide)
      exact z_iret X ZF dX4_copy_52 (by first | (simp [cor, cof, cok, hq7, hq23]; done) | (simp [cor, cof, cok, hq7, hq23]; decide)) (by first | rw [e25, e24] | (simp only [e25, e24]))
abbrev rX4_copy_30 : Room := { frames := 2, cells := 0, slots := 0, locals := 46 }
set_option maxHeartbeats 4000000 in
set_option maxRecDepth 100000 in
theorem c_X4_copy_30 (l : Launch) (g : zg) (a : Nat → Nat) (ft : Int32) (tr : Int32) (lnF : Nat → Int32) (leF : Nat → Int32) (ceF : Nat → Nat → Int32) (i : Int32) (j : Int32) (n : Int32) (hle : vle (leF 3)) (hle2 : vle (leF 0)) : zM l g yX4_copy wsX4_copy rX4_copy_30 [.ref (a 0), .int (nI 3), .int i, .int (nI 0), .int j, .int n] (wO g a ft tr ++ (wH g a ++ (wS g (a 19) (a 20) (lnF 3) (leF 3) (ceF 3) ++ (wS g (a 13) (a 14) (lnF 0) (leF 0) (ceF 0))))) (some (.int (cor (lnF 3) (leF 3) (lnF 0) (leF 0) i j n))) (wO g a (cof (lnF 3) (leF 3) (lnF 0) (leF 0) i j n) tr ++ (wH g a ++ (wS g (a 19) (a 20) (lnF 3) (leF 3) (ceF 3) ++ (wS g (a 13) (a 14) (lnF 0) (leF 0) (if cok (lnF 3) (leF 3) (lnF 0) (leF 0) i j n then va_cpy (ceF 3) (ceF 0) (tn i) (tn j) (tn n) else ceF 0))))) := by
  refine z_met (own := RX4) (cc := cX4_copy) (maxL := 8) (ret := some .int) (by decide +kernel) rfl rfl (Nat.le_of_ble_eq_true rfl) ?_
  intro M X ZF
  refine z_Le (L' := [(0, .ref (a 0)), (1, .int (nI 3)), (2, .int i), (3, .int (nI 0)), (4, .int j), (5, .int n)]) rfl ?_
  have i_RX4 : ∀ w ∈ wsX40, w ∈ wsX4_copy := by decide +kernel
  have f_32 : Cond.fieldLink RX4 32 (TX4 3).1 (TX4 3).2.1 (TX4 3).2.2.1 ∈ wsX4_copy := by decide +kernel
  refine z_aload_n X dX4_copy_0 rfl 0 rfl ?_
  refine z_iconst (v := nI 0) X dX4_copy_1 (by decide) ?_
  refine z_put (ws' := (wO g a (nI 0) tr ++ (wH g a ++ (wS g (a 19) (a 20) (lnF 3) (leF 3) (ceF 3) ++ (wS g (a 13) (a 14) (lnF 0) (leF 0) (ceF 0)))))) (N := 5) X i_RX4 (ci := 3) rfl tyX4 tyX4_ok nmX4 0 rfl 3 (by decide) f_32 rfl (ty := .int) (by decide +kernel) rfl rfl (Nat.le_of_ble_eq_true rfl) dX4_copy_2 rfl ?_
  refine z_aload_n X dX4_copy_5 rfl 0 rfl ?_
  refine z_iload_n X dX4_copy_6 rfl 1 rfl ?_
  refine z_callV X (c_X4_sheetAt_in l g a (nI 0) tr 3 (by omega)) gX4_copy_X4_sheetAt rfl ⟨rfl, rfl⟩ (by decide +kernel) ⟨Nat.le_of_ble_eq_true rfl, Nat.le_of_ble_eq_true rfl⟩ ZF.room (ci := 3) rfl 0 rfl (isC := [0, 1]) (by decide) rfl rfl (ws' := (wO g a (nI 0) tr ++ (wH g a ++ (wS g (a 19) (a 20) (lnF 3) (leF 3) (ceF 3) ++ (wS g (a 13) (a 14) (lnF 0) (leF 0) (ceF 0)))))) rfl (As := [.int (nI 3)]) (n := 1) rfl rfl (st1 := [.ref (a 19)]) rfl (Nat.le_of_ble_eq_true rfl) dX4_copy_7 ?_
  refine z_astore (L' := [(6, .ref (a 19)), (0, .ref (a 0)), (1, .int (nI 3)), (2, .int i), (3, .int (nI 0)), (4, .int j), (5, .int n)]) X dX4_copy_10 (by decide) rfl ?_
  refine z_aload_n X dX4_copy_12 rfl 1 rfl ?_
  refine z_iload_n X dX4_copy_13 rfl 4 rfl ?_
  refine z_callV X (c_X4_sheetAt_in l g a (nI 0) tr 0 (by omega)) gX4_copy_X4_sheetAt rfl ⟨rfl, rfl⟩ (by decide +kernel) ⟨Nat.le_of_ble_eq_true rfl, Nat.le_of_ble_eq_true rfl⟩ ZF.room (ci := 3) rfl 0 rfl (isC := [0, 1]) (by decide) rfl rfl (ws' := (wO g a (nI 0) tr ++ (wH g a ++ (wS g (a 19) (a 20) (lnF 3) (leF 3) (ceF 3) ++ (wS g (a 13) (a 14) (lnF 0) (leF 0) (ceF 0)))))) rfl (As := [.int (nI 0)]) (n := 1) rfl rfl (st1 := [.ref (a 13)]) rfl (Nat.le_of_ble_eq_true rfl) dX4_copy_14 ?_
  refine z_astore (L' := [(7, .ref (a 13)), (6, .ref (a 19)), (0, .ref (a 0)), (1, .int (nI 3)), (2, .int i), (3, .int (nI 0)), (4, .int j), (5, .int n)]) X dX4_copy_17 (by decide) rfl ?_
  refine z_aload X dX4_copy_19 1 rfl ?_
  refine z_ifnull X dX4_copy_21 ?_
  refine z_aload X dX4_copy_24 0 rfl ?_
  refine z_ifnonnull (tgt := 31) X dX4_copy_26 (by decide) ?_
  refine z_aload X dX4_copy_31 1 rfl ?_
  refine z_callV X (c_X2_hasRow l g (a 19) (a 20) (lnF 3) (leF 3) (ceF 3)) gX4_copy_X2_hasRow rfl ⟨rfl, rfl⟩ (by decide +kernel) ⟨Nat.le_of_ble_eq_true rfl, Nat.le_of_ble_eq_true rfl⟩ ZF.room (ci := 2) rfl 2 rfl (isC := [2, 3]) (by decide) rfl rfl (ws' := (wO g a (nI 0) tr ++ (wH g a ++ (wS g (a 19) (a 20) (lnF 3) (leF 3) (ceF 3) ++ (wS g (a 13) (a 14) (lnF 0) (leF 0) (ceF 0)))))) rfl (As := []) (n := 0) rfl rfl (st1 := [.int (bI (!decide ((leF 3) = (-1))))]) rfl (Nat.le_of_ble_eq_true rfl) dX4_copy_33 ?_
  refine z_if_eqB (tgt := 47) X dX4_copy_36 (by decide) (fun hq1 => ?_) (fun hq1 => ?_)
  ·
    have hq2 : (decide ((leF 3) = (-1))) = true := by simpa using hq1
    have hq3 : ((leF 3) = (-1)) := of_decide_eq_true hq2
    refine z_aload_n X dX4_copy_47 rfl 2 rfl ?_
    refine z_iconst (v := nI 1) X dX4_copy_48 (by decide) ?_
    refine z_callV X (c_X4_faulted l g a (nI 0) tr (nI 1)) gX4_copy_X4_faulted rfl ⟨rfl, rfl⟩ (by decide +kernel) ⟨Nat.le_of_ble_eq_true rfl, Nat.le_of_ble_eq_true rfl⟩ ZF.room (ci := 3) rfl 0 rfl (isC := [0]) (by decide) rfl rfl (ws' := (wO g a (nI 1) tr ++ (wH g a ++ (wS g (a 19) (a 20) (lnF 3) (leF 3) (ceF 3) ++ (wS g (a 13) (a 14) (lnF 0) (leF 0) (ceF 0)))))) rfl (As := [.int (nI 1)]) (n := 1) rfl rfl (st1 := [.int ((-10) - (nI 1))]) rfl (Nat.le_of_ble_eq_true rfl) dX4_copy_49 ?_
    have e4 : (cof (lnF 3) (leF 3) (lnF 0) (leF 0) i j n) = (nI 1) := by first | (simp [cor, cof, cok, hq3]; done) | (simp [cor, cof, cok, hq3]; decide)
    have e5 : (if cok (lnF 3) (leF 3) (lnF 0) (leF 0) i j n then va_cpy (ceF 3) (ceF 0) (tn i) (tn j) (tn n) else ceF 0) = (ceF 0) := by first | (simp [cor, cof, cok, hq3]; done) | (simp [cor, cof, cok, hq3]; decide)
    exact z_iret X ZF dX4_copy_52 (by first | (simp [cor, cof, cok, hq3]; done) | (simp [cor, cof, cok, hq3]; decide)) (by first | rw [e5, e4] | (simp only [e5, e4]))
  ·
    have hq6 : (decide ((leF 3) = (-1))) = false := by simpa using hq1
    have hq7 : ¬ ((leF 3) = (-1)) := of_decide_eq_false hq6
    refine z_aload X dX4_copy_39 0 rfl ?_
    refine z_callV X (c_X2_hasRow l g (a 13) (a 14) (lnF 0) (leF 0) (ceF 0)) gX4_copy_X2_hasRow rfl ⟨rfl, rfl⟩ (by decide +kernel) ⟨Nat.le_of_ble_eq_true rfl, Nat.le_of_ble_eq_true rfl⟩ ZF.room (ci := 2) rfl 4 rfl (isC := [4, 5]) (by decide) rfl rfl (ws' := (wO g a (nI 0) tr ++ (wH g a ++ (wS g (a 19) (a 20) (lnF 3) (leF 3) (ceF 3) ++ (wS g (a 13) (a 14) (lnF 0) (leF 0) (ceF 0)))))) rfl (As := []) (n := 0) rfl rfl (st1 := [.int (bI (!decide ((leF 0) = (-1))))]) rfl (Nat.le_of_ble_eq_true rfl) dX4_copy_41 ?_
    refine z_if_neB (tgt := 53) X dX4_copy_44 (by decide) (fun hq8 => ?_) (fun hq8 => ?_)
    ·
      have hq9 : (decide ((leF 0) = (-1))) = false := by simpa using hq8
      have hq10 : ¬ ((leF 0) = (-1)) := of_decide_eq_false hq9
      refine z_aload X dX4_copy_53 1 rfl ?_
      refine z_callV X (c_X2_rowLane l g (a 19) (a 20) (lnF 3) (leF 3) (ceF 3)) gX4_copy_X2_rowLane rfl ⟨rfl, rfl⟩ (by decide +kernel) ⟨Nat.le_of_ble_eq_true rfl, Nat.le_of_ble_eq_true rfl⟩ ZF.room (ci := 2) rfl 2 rfl (isC := [2, 3]) (by decide) rfl rfl (ws' := (wO g a (nI 0) tr ++ (wH g a ++ (wS g (a 19) (a 20) (lnF 3) (leF 3) (ceF 3) ++ (wS g (a 13) (a 14) (lnF 0) (leF 0) (ceF 0)))))) rfl (As := []) (n := 0) rfl rfl (st1 := [.int (lnF 3)]) rfl (Nat.le_of_ble_eq_true rfl) dX4_copy_55 ?_
      refine z_aload X dX4_copy_58 0 rfl ?_
      refine z_callV X (c_X2_rowLane l g (a 13) (a 14) (lnF 0) (leF 0) (ceF 0)) gX4_copy_X2_rowLane rfl ⟨rfl, rfl⟩ (by decide +kernel) ⟨Nat.le_of_ble_eq_true rfl, Nat.le_of_ble_eq_true rfl⟩ ZF.room (ci := 2) rfl 4 rfl (isC := [4, 5]) (by decide) rfl rfl (ws' := (wO g a (nI 0) tr ++ (wH g a ++ (wS g (a 19) (a 20) (lnF 3) (leF 3) (ceF 3) ++ (wS g (a 13) (a 14) (lnF 0) (leF 0) (ceF 0)))))) rfl (As := []) (n := 0) rfl rfl (st1 := [.int (lnF 0), .int (lnF 3)]) rfl (Nat.le_of_ble_eq_true rfl) dX4_copy_60 ?_
      refine z_icmp_eq (tgt := 72) X dX4_copy_63 (by decide) (fun hq11 => ?_) (fun hq11 => ?_)
      ·
        refine z_aload X dX4_copy_72 1 rfl ?_
        refine z_iload_n X dX4_copy_74 rfl 4 rfl ?_
        refine z_iload X dX4_copy_75 7 rfl ?_
        refine z_callV X (c_X2_hasCells l g (a 19) (a 20) (lnF 3) (leF 3) (ceF 3) i n) gX4_copy_X2_hasCells rfl ⟨rfl, rfl⟩ (by decide +kernel) ⟨Nat.le_of_ble_eq_true rfl, Nat.le_of_ble_eq_true rfl⟩ ZF.room (ci := 2) rfl 2 rfl (isC := [2, 3]) (by decide) rfl rfl (ws' := (wO g a (nI 0) tr ++ (wH g a ++ (wS g (a 19) (a 20) (lnF 3) (leF 3) (ceF 3) ++ (wS g (a 13) (a 14) (lnF 0) (leF 0) (ceF 0)))))) rfl (As := [.int i, .int n]) (n := 2) rfl rfl (st1 := [.int (bI (hcl (leF 3) i n))]) rfl (Nat.le_of_ble_eq_true rfl) dX4_copy_77 ?_
        refine z_if_eqB (tgt := 95) X dX4_copy_80 (by decide) (fun hq12 => ?_) (fun hq12 => ?_)
        ·
          refine z_aload_n X dX4_copy_95 rfl 2 rfl ?_
          refine z_iconst (v := nI 3) X dX4_copy_96 (by decide) ?_
          refine z_callV X (c_X4_faulted l g a (nI 0) tr (nI 3)) gX4_copy_X4_faulted rfl ⟨rfl, rfl⟩ (by decide +kernel) ⟨Nat.le_of_ble_eq_true rfl, Nat.le_of_ble_eq_true rfl⟩ ZF.room (ci := 3) rfl 0 rfl (isC := [0]) (by decide) rfl rfl (ws' := (wO g a (nI 3) tr ++ (wH g a ++ (wS g (a 19) (a 20) (lnF 3) (leF 3) (ceF 3) ++ (wS g (a 13) (a 14) (lnF 0) (leF 0) (ceF 0)))))) rfl (As := [.int (nI 3)]) (n := 1) rfl rfl (st1 := [.int ((-10) - (nI 3))]) rfl (Nat.le_of_ble_eq_true rfl) dX4_copy_97 ?_
          have e13 : (cof (lnF 3) (leF 3) (lnF 0) (leF 0) i j n) = (nI 3) := by first | (simp [cor, cof, cok, hq7, hq10, hq11, hq12]; done) | (simp [cor, cof, cok, hq7, hq10, hq11, hq12]; decide)
          have e14 : (if cok (lnF 3) (leF 3) (lnF 0) (leF 0) i j n then va_cpy (ceF 3) (ceF 0) (tn i) (tn j) (tn n) else ceF 0) = (ceF 0) := by first | (simp [cor, cof, cok, hq7, hq10, hq11, hq12]; done) | (simp [cor, cof, cok, hq7, hq10, hq11, hq12]; decide)
          exact z_iret X ZF dX4_copy_100 (by first | (simp [cor, cof, cok, hq7, hq10, hq11, hq12]; done) | (simp [cor, cof, cok, hq7, hq10, hq11, hq12]; decide)) (by first | rw [e14, e13] | (simp only [e14, e13]))
        ·
          refine z_aload X dX4_copy_83 0 rfl ?_
          refine z_iload X dX4_copy_85 6 rfl ?_
          refine z_iload X dX4_copy_87 7 rfl ?_
          refine z_callV X (c_X2_hasCells l g (a 13) (a 14) (lnF 0) (leF 0) (ceF 0) j n) gX4_copy_X2_hasCells rfl ⟨rfl, rfl⟩ (by decide +kernel) ⟨Nat.le_of_ble_eq_true rfl, Nat.le_of_ble_eq_true rfl⟩ ZF.room (ci := 2) rfl 4 rfl (isC := [4, 5]) (by decide) rfl rfl (ws' := (wO g a (nI 0) tr ++ (wH g a ++ (wS g (a 19) (a 20) (lnF 3) (leF 3) (ceF 3) ++ (wS g (a 13) (a 14) (lnF 0) (leF 0) (ceF 0)))))) rfl (As := [.int j, .int n]) (n := 2) rfl rfl (st1 := [.int (bI (hcl (leF 0) j n))]) rfl (Nat.le_of_ble_eq_true rfl) dX4_copy_89 ?_
          refine z_if_neB (tgt := 101) X dX4_copy_92 (by decide) (fun hq15 => ?_) (fun hq15 => ?_)
          ·
            obtain ⟨i_a, n_a, ei_a, en_a, m_a, hm_a, him_a, hin_a⟩ := hcl_t hle hq12
            subst ei_a; subst en_a
            obtain ⟨j_a, ej_a, m_b, hm_b, hmb_b, hjn_b⟩ := hcl_t2 (by omega) hle2 hq15
            subst ej_a
            have hti_a : tn (nI i_a) = i_a := nI_clamp (by omega)
            have htn_a : tn (nI n_a) = n_a := nI_clamp (by omega)
            have htj_a : tn (nI j_a) = j_a := nI_clamp (by omega)
            refine z_aload X dX4_copy_101 1 rfl ?_
            refine z_iload_n X dX4_copy_103 rfl 4 rfl ?_
            refine z_aload X dX4_copy_104 0 rfl ?_
            refine z_iload X dX4_copy_106 6 rfl ?_
            refine z_iload X dX4_copy_108 7 rfl ?_
            refine z_callV X (c_X2_copyTo_two l g (a 19) (a 20) (a 13) (a 14) (lnF 3) (leF 3) (ceF 3) (lnF 0) (leF 0) (ceF 0) i_a j_a n_a (by omega) (by omega) (by first | assumption | omega) (by first | assumption | omega)) gX4_copy_X2_copyTo rfl ⟨rfl, rfl⟩ (by decide +kernel) ⟨Nat.le_of_ble_eq_true rfl, Nat.le_of_ble_eq_true rfl⟩ ZF.room (ci := 2) rfl 2 rfl (isC := [2, 3, 4, 5]) (by decide) rfl rfl (ws' := (wO g a (nI 0) tr ++ (wH g a ++ (wS g (a 19) (a 20) (lnF 3) (leF 3) (ceF 3) ++ (wS g (a 13) (a 14) (lnF 0) (leF 0) (va_cpy (ceF 3) (ceF 0) i_a j_a n_a)))))) rfl (As := [.int (nI i_a), .ref (a 13), .int (nI j_a), .int (nI n_a)]) (n := 4) rfl rfl (st1 := []) rfl (Nat.le_of_ble_eq_true rfl) dX4_copy_110 ?_
            refine z_iload X dX4_copy_113 7 rfl ?_
            have e16 : (cof (lnF 3) (leF 3) (lnF 0) (leF 0) (nI i_a) (nI j_a) (nI n_a)) = (nI 0) := by first | (simp [cor, cof, cok, hq7, hq10, hq11, hq12, hti_a, htn_a, htj_a, hq15]; done) | (simp [cor, cof, cok, hq7, hq10, hq11, hq12, hti_a, htn_a, htj_a, hq15]; decide)
            have e17 : (if cok (lnF 3) (leF 3) (lnF 0) (leF 0) (nI i_a) (nI j_a) (nI n_a) then va_cpy (ceF 3) (ceF 0) (tn (nI i_a)) (tn (nI j_a)) (tn (nI n_a)) else ceF 0) = (va_cpy (ceF 3) (ceF 0) i_a j_a n_a) := by first | (simp [cor, cof, cok, hq7, hq10, hq11, hq12, hti_a, htn_a, htj_a, hq15]; done) | (simp [cor, cof, cok, hq7, hq10, hq11, hq12, hti_a, htn_a, htj_a, hq15]; decide)
            exact z_iret X ZF dX4_copy_115 (by first | (simp [cor, cof, cok, hq7, hq10, hq11, hq12, hti_a, htn_a, htj_a, hq15]; done) | (simp [cor, cof, cok, hq7, hq10, hq11, hq12, hti_a, htn_a, htj_a, hq15]; decide)) (by first | rw [e17, e16] | (simp only [e17, e16]))
          ·
            refine z_aload_n X dX4_copy_95 rfl 2 rfl ?_
            refine z_iconst (v := nI 3) X dX4_copy_96 (by decide) ?_
            refine z_callV X (c_X4_faulted l g a (nI 0) tr (nI 3)) gX4_copy_X4_faulted rfl ⟨rfl, rfl⟩ (by decide +kernel) ⟨Nat.le_of_ble_eq_true rfl, Nat.le_of_ble_eq_true rfl⟩ ZF.room (ci := 3) rfl 0 rfl (isC := [0]) (by decide) rfl rfl (ws' := (wO g a (nI 3) tr ++ (wH g a ++ (wS g (a 19) (a 20) (lnF 3) (leF 3) (ceF 3) ++ (wS g (a 13) (a 14) (lnF 0) (leF 0) (ceF 0)))))) rfl (As := [.int (nI 3)]) (n := 1) rfl rfl (st1 := [.int ((-10) - (nI 3))]) rfl (Nat.le_of_ble_eq_true rfl) dX4_copy_97 ?_
            have e18 : (cof (lnF 3) (leF 3) (lnF 0) (leF 0) i j n) = (nI 3) := by first | (simp [cor, cof, cok, hq7, hq10, hq11, hq12, hq15]; done) | (simp [cor, cof, cok, hq7, hq10, hq11, hq12, hq15]; decide)
            have e19 : (if cok (lnF 3) (leF 3) (lnF 0) (leF 0) i j n then va_cpy (ceF 3) (ceF 0) (tn i) (tn j) (tn n) else ceF 0) = (ceF 0) := by first | (simp [cor, cof, cok, hq7, hq10, hq11, hq12, hq15]; done) | (simp [cor, cof, cok, hq7, hq10, hq11, hq12, hq15]; decide)
            exact z_iret X ZF dX4_copy_100 (by first | (simp [cor, cof, cok, hq7, hq10, hq11, hq12, hq15]; done) | (simp [cor, cof, cok, hq7, hq10, hq11, hq12, hq15]; decide)) (by first | rw [e19, e18] | (simp only [e19, e18]))
      ·
        refine z_aload_n X dX4_copy_66 rfl 2 rfl ?_
        refine z_iconst (v := nI 2) X dX4_copy_67 (by decide) ?_
        refine z_callV X (c_X4_faulted l g a (nI 0) tr (nI 2)) gX4_copy_X4_faulted rfl ⟨rfl, rfl⟩ (by decide +kernel) ⟨Nat.le_of_ble_eq_true rfl, Nat.le_of_ble_eq_true rfl⟩ ZF.room (ci := 3) rfl 0 rfl (isC := [0]) (by decide) rfl rfl (ws' := (wO g a (nI 2) tr ++ (wH g a ++ (wS g (a 19) (a 20) (lnF 3) (leF 3) (ceF 3) ++ (wS g (a 13) (a 14) (lnF 0) (leF 0) (ceF 0)))))) rfl (As := [.int (nI 2)]) (n := 1) rfl rfl (st1 := [.int ((-10) - (nI 2))]) rfl (Nat.le_of_ble_eq_true rfl) dX4_copy_68 ?_
        have e20 : (cof (lnF 3) (leF 3) (lnF 0) (leF 0) i j n) = (nI 2) := by first | (simp [cor, cof, cok, hq7, hq10, hq11]; done) | (simp [cor, cof, cok, hq7, hq10, hq11]; decide)
        have e21 : (if cok (lnF 3) (leF 3) (lnF 0) (leF 0) i j n then va_cpy (ceF 3) (ceF 0) (tn i) (tn j) (tn n) else ceF 0) = (ceF 0) := by first | (simp [cor, cof, cok, hq7, hq10, hq11]; done) | (simp [cor, cof, cok, hq7, hq10, hq11]; decide)
        exact z_iret X ZF dX4_copy_71 (by first | (simp [cor, cof, cok, hq7, hq10, hq11]; done) | (simp [cor, cof, cok, hq7, hq10, hq11]; decide)) (by first | rw [e21, e20] | (simp only [e21, e20]))
    ·
      have hq22 : (decide ((leF 0) = (-1))) = true := by simpa using hq8
      have hq23 : ((leF 0) = (-1)) := of_decide_eq_true hq22
      refine z_aload_n X dX4_copy_47 rfl 2 rfl ?_
      refine z_iconst (v := nI 1) X dX4_copy_48 (by decide) ?_
      refine z_callV X (c_X4_faulted l g a (nI 0) tr (nI 1)) gX4_copy_X4_faulted rfl ⟨rfl, rfl⟩ (by decide +kernel) ⟨Nat.le_of_ble_eq_true rfl, Nat.le_of_ble_eq_true rfl⟩ ZF.room (ci := 3) rfl 0 rfl (isC := [0]) (by decide) rfl rfl (ws' := (wO g a (nI 1) tr ++ (wH g a ++ (wS g (a 19) (a 20) (lnF 3) (leF 3) (ceF 3) ++ (wS g (a 13) (a 14) (lnF 0) (leF 0) (ceF 0)))))) rfl (As := [.int (nI 1)]) (n := 1) rfl rfl (st1 := [.int ((-10) - (nI 1))]) rfl (Nat.le_of_ble_eq_true rfl) dX4_copy_49 ?_
      have e24 : (cof (lnF 3) (leF 3) (lnF 0) (leF 0) i j n) = (nI 1) := by first | (simp [cor, cof, cok, hq7, hq23]; done) | (simp [cor, cof, cok, hq7, hq23]; decide)
      have e25 : (if cok (lnF 3) (leF 3) (lnF 0) (leF 0) i j n then va_cpy (ceF 3) (ceF 0) (tn i) (tn j) (tn n) else ceF 0) = (ceF 0) := by first | (simp [cor, cof, cok, hq7, hq23]; done) | (simp [cor, cof, cok, hq7, hq23]; decide)
      exact z_iret X ZF dX4_copy_52 (by first | (simp [cor, cof, cok, hq7, hq23]; done) | (simp [cor, cof, cok, hq7, hq23]; decide)) (by first | rw [e25, e24] | (simp only [e25, e24]))
abbrev rX4_copy_31 : Room := { frames := 2, cells := 0, slots := 0, locals := 46 }
set_option maxHeartbeats 4000000 in
set_option maxRecDepth 100000 in
theorem c_X4_copy_31 (l : Launch) (g : zg) (a : Nat → Nat) (ft : Int32) (tr : Int32) (lnF : Nat → Int32) (leF : Nat → Int32) (ceF : Nat → Nat → Int32) (i : Int32) (j : Int32) (n : Int32) (hle : vle (leF 3)) (hle2 : vle (leF 1)) : zM l g yX4_copy wsX4_copy rX4_copy_31 [.ref (a 0), .int (nI 3), .int i, .int (nI 1), .int j, .int n] (wO g a ft tr ++ (wH g a ++ (wS g (a 19) (a 20) (lnF 3) (leF 3) (ceF 3) ++ (wS g (a 15) (a 16) (lnF 1) (leF 1) (ceF 1))))) (some (.int (cor (lnF 3) (leF 3) (lnF 1) (leF 1) i j n))) (wO g a (cof (lnF 3) (leF 3) (lnF 1) (leF 1) i j n) tr ++ (wH g a ++ (wS g (a 19) (a 20) (lnF 3) (leF 3) (ceF 3) ++ (wS g (a 15) (a 16) (lnF 1) (leF 1) (if cok (lnF 3) (leF 3) (lnF 1) (leF 1) i j n then va_cpy (ceF 3) (ceF 1) (tn i) (tn j) (tn n) else ceF 1))))) := by
  refine z_met (own := RX4) (cc := cX4_copy) (maxL := 8) (ret := some .int) (by decide +kernel) rfl rfl (Nat.le_of_ble_eq_true rfl) ?_
  intro M X ZF
  refine z_Le (L' := [(0, .ref (a 0)), (1, .int (nI 3)), (2, .int i), (3, .int (nI 1)), (4, .int j), (5, .int n)]) rfl ?_
  have i_RX4 : ∀ w ∈ wsX40, w ∈ wsX4_copy := by decide +kernel
  have f_32 : Cond.fieldLink RX4 32 (TX4 3).1 (TX4 3).2.1 (TX4 3).2.2.1 ∈ wsX4_copy := by decide +kernel
  refine z_aload_n X dX4_copy_0 rfl 0 rfl ?_
  refine z_iconst (v := nI 0) X dX4_copy_1 (by decide) ?_
  refine z_put (ws' := (wO g a (nI 0) tr ++ (wH g a ++ (wS g (a 19) (a 20) (lnF 3) (leF 3) (ceF 3) ++ (wS g (a 15) (a 16) (lnF 1) (leF 1) (ceF 1)))))) (N := 5) X i_RX4 (ci := 3) rfl tyX4 tyX4_ok nmX4 0 rfl 3 (by decide) f_32 rfl (ty := .int) (by decide +kernel) rfl rfl (Nat.le_of_ble_eq_true rfl) dX4_copy_2 rfl ?_
  refine z_aload_n X dX4_copy_5 rfl 0 rfl ?_
  refine z_iload_n X dX4_copy_6 rfl 1 rfl ?_
  refine z_callV X (c_X4_sheetAt_in l g a (nI 0) tr 3 (by omega)) gX4_copy_X4_sheetAt rfl ⟨rfl, rfl⟩ (by decide +kernel) ⟨Nat.le_of_ble_eq_true rfl, Nat.le_of_ble_eq_true rfl⟩ ZF.room (ci := 3) rfl 0 rfl (isC := [0, 1]) (by decide) rfl rfl (ws' := (wO g a (nI 0) tr ++ (wH g a ++ (wS g (a 19) (a 20) (lnF 3) (leF 3) (ceF 3) ++ (wS g (a 15) (a 16) (lnF 1) (leF 1) (ceF 1)))))) rfl (As := [.int (nI 3)]) (n := 1) rfl rfl (st1 := [.ref (a 19)]) rfl (Nat.le_of_ble_eq_true rfl) dX4_copy_7 ?_
  refine z_astore (L' := [(6, .ref (a 19)), (0, .ref (a 0)), (1, .int (nI 3)), (2, .int i), (3, .int (nI 1)), (4, .int j), (5, .int n)]) X dX4_copy_10 (by decide) rfl ?_
  refine z_aload_n X dX4_copy_12 rfl 1 rfl ?_
  refine z_iload_n X dX4_copy_13 rfl 4 rfl ?_
  refine z_callV X (c_X4_sheetAt_in l g a (nI 0) tr 1 (by omega)) gX4_copy_X4_sheetAt rfl ⟨rfl, rfl⟩ (by decide +kernel) ⟨Nat.le_of_ble_eq_true rfl, Nat.le_of_ble_eq_true rfl⟩ ZF.room (ci := 3) rfl 0 rfl (isC := [0, 1]) (by decide) rfl rfl (ws' := (wO g a (nI 0) tr ++ (wH g a ++ (wS g (a 19) (a 20) (lnF 3) (leF 3) (ceF 3) ++ (wS g (a 15) (a 16) (lnF 1) (leF 1) (ceF 1)))))) rfl (As := [.int (nI 1)]) (n := 1) rfl rfl (st1 := [.ref (a 15)]) rfl (Nat.le_of_ble_eq_true rfl) dX4_copy_14 ?_
  refine z_astore (L' := [(7, .ref (a 15)), (6, .ref (a 19)), (0, .ref (a 0)), (1, .int (nI 3)), (2, .int i), (3, .int (nI 1)), (4, .int j), (5, .int n)]) X dX4_copy_17 (by decide) rfl ?_
  refine z_aload X dX4_copy_19 1 rfl ?_
  refine z_ifnull X dX4_copy_21 ?_
  refine z_aload X dX4_copy_24 0 rfl ?_
  refine z_ifnonnull (tgt := 31) X dX4_copy_26 (by decide) ?_
  refine z_aload X dX4_copy_31 1 rfl ?_
  refine z_callV X (c_X2_hasRow l g (a 19) (a 20) (lnF 3) (leF 3) (ceF 3)) gX4_copy_X2_hasRow rfl ⟨rfl, rfl⟩ (by decide +kernel) ⟨Nat.le_of_ble_eq_true rfl, Nat.le_of_ble_eq_true rfl⟩ ZF.room (ci := 2) rfl 2 rfl (isC := [2, 3]) (by decide) rfl rfl (ws' := (wO g a (nI 0) tr ++ (wH g a ++ (wS g (a 19) (a 20) (lnF 3) (leF 3) (ceF 3) ++ (wS g (a 15) (a 16) (lnF 1) (leF 1) (ceF 1)))))) rfl (As := []) (n := 0) rfl rfl (st1 := [.int (bI (!decide ((leF 3) = (-1))))]) rfl (Nat.le_of_ble_eq_true rfl) dX4_copy_33 ?_
  refine z_if_eqB (tgt := 47) X dX4_copy_36 (by decide) (fun hq1 => ?_) (fun hq1 => ?_)
  ·
    have hq2 : (decide ((leF 3) = (-1))) = true := by simpa using hq1
    have hq3 : ((leF 3) = (-1)) := of_decide_eq_true hq2
    refine z_aload_n X dX4_copy_47 rfl 2 rfl ?_
    refine z_iconst (v := nI 1) X dX4_copy_48 (by decide) ?_
    refine z_callV X (c_X4_faulted l g a (nI 0) tr (nI 1)) gX4_copy_X4_faulted rfl ⟨rfl, rfl⟩ (by decide +kernel) ⟨Nat.le_of_ble_eq_true rfl, Nat.le_of_ble_eq_true rfl⟩ ZF.room (ci := 3) rfl 0 rfl (isC := [0]) (by decide) rfl rfl (ws' := (wO g a (nI 1) tr ++ (wH g a ++ (wS g (a 19) (a 20) (lnF 3) (leF 3) (ceF 3) ++ (wS g (a 15) (a 16) (lnF 1) (leF 1) (ceF 1)))))) rfl (As := [.int (nI 1)]) (n := 1) rfl rfl (st1 := [.int ((-10) - (nI 1))]) rfl (Nat.le_of_ble_eq_true rfl) dX4_copy_49 ?_
    have e4 : (cof (lnF 3) (leF 3) (lnF 1) (leF 1) i j n) = (nI 1) := by first | (simp [cor, cof, cok, hq3]; done) | (simp [cor, cof, cok, hq3]; decide)
    have e5 : (if cok (lnF 3) (leF 3) (lnF 1) (leF 1) i j n then va_cpy (ceF 3) (ceF 1) (tn i) (tn j) (tn n) else ceF 1) = (ceF 1) := by first | (simp [cor, cof, cok, hq3]; done) | (simp [cor, cof, cok, hq3]; decide)
    exact z_iret X ZF dX4_copy_52 (by first | (simp [cor, cof, cok, hq3]; done) | (simp [cor, cof, cok, hq3]; decide)) (by first | rw [e5, e4] | (simp only [e5, e4]))
  ·
    have hq6 : (decide ((leF 3) = (-1))) = false := by simpa using hq1
    have hq7 : ¬ ((leF 3) = (-1)) := of_decide_eq_false hq6
    refine z_aload X dX4_copy_39 0 rfl ?_
    refine z_callV X (c_X2_hasRow l g (a 15) (a 16) (lnF 1) (leF 1) (ceF 1)) gX4_copy_X2_hasRow rfl ⟨rfl, rfl⟩ (by decide +kernel) ⟨Nat.le_of_ble_eq_true rfl, Nat.le_of_ble_eq_true rfl⟩ ZF.room (ci := 2) rfl 4 rfl (isC := [4, 5]) (by decide) rfl rfl (ws' := (wO g a (nI 0) tr ++ (wH g a ++ (wS g (a 19) (a 20) (lnF 3) (leF 3) (ceF 3) ++ (wS g (a 15) (a 16) (lnF 1) (leF 1) (ceF 1)))))) rfl (As := []) (n := 0) rfl rfl (st1 := [.int (bI (!decide ((leF 1) = (-1))))]) rfl (Nat.le_of_ble_eq_true rfl) dX4_copy_41 ?_
    refine z_if_neB (tgt := 53) X dX4_copy_44 (by decide) (fun hq8 => ?_) (fun hq8 => ?_)
    ·
      have hq9 : (decide ((leF 1) = (-1))) = false := by simpa using hq8
      have hq10 : ¬ ((leF 1) = (-1)) := of_decide_eq_false hq9
      refine z_aload X dX4_copy_53 1 rfl ?_
      refine z_callV X (c_X2_rowLane l g (a 19) (a 20) (lnF 3) (leF 3) (ceF 3)) gX4_copy_X2_rowLane rfl ⟨rfl, rfl⟩ (by decide +kernel) ⟨Nat.le_of_ble_eq_true rfl, Nat.le_of_ble_eq_true rfl⟩ ZF.room (ci := 2) rfl 2 rfl (isC := [2, 3]) (by decide) rfl rfl (ws' := (wO g a (nI 0) tr ++ (wH g a ++ (wS g (a 19) (a 20) (lnF 3) (leF 3) (ceF 3) ++ (wS g (a 15) (a 16) (lnF 1) (leF 1) (ceF 1)))))) rfl (As := []) (n := 0) rfl rfl (st1 := [.int (lnF 3)]) rfl (Nat.le_of_ble_eq_true rfl) dX4_copy_55 ?_
      refine z_aload X dX4_copy_58 0 rfl ?_
      refine z_callV X (c_X2_rowLane l g (a 15) (a 16) (lnF 1) (leF 1) (ceF 1)) gX4_copy_X2_rowLane rfl ⟨rfl, rfl⟩ (by decide +kernel) ⟨Nat.le_of_ble_eq_true rfl, Nat.le_of_ble_eq_true rfl⟩ ZF.room (ci := 2) rfl 4 rfl (isC := [4, 5]) (by decide) rfl rfl (ws' := (wO g a (nI 0) tr ++ (wH g a ++ (wS g (a 19) (a 20) (lnF 3) (leF 3) (ceF 3) ++ (wS g (a 15) (a 16) (lnF 1) (leF 1) (ceF 1)))))) rfl (As := []) (n := 0) rfl rfl (st1 := [.int (lnF 1), .int (lnF 3)]) rfl (Nat.le_of_ble_eq_true rfl) dX4_copy_60 ?_
      refine z_icmp_eq (tgt := 72) X dX4_copy_63 (by decide) (fun hq11 => ?_) (fun hq11 => ?_)
      ·
        refine z_aload X dX4_copy_72 1 rfl ?_
        refine z_iload_n X dX4_copy_74 rfl 4 rfl ?_
        refine z_iload X dX4_copy_75 7 rfl ?_
        refine z_callV X (c_X2_hasCells l g (a 19) (a 20) (lnF 3) (leF 3) (ceF 3) i n) gX4_copy_X2_hasCells rfl ⟨rfl, rfl⟩ (by decide +kernel) ⟨Nat.le_of_ble_eq_true rfl, Nat.le_of_ble_eq_true rfl⟩ ZF.room (ci := 2) rfl 2 rfl (isC := [2, 3]) (by decide) rfl rfl (ws' := (wO g a (nI 0) tr ++ (wH g a ++ (wS g (a 19) (a 20) (lnF 3) (leF 3) (ceF 3) ++ (wS g (a 15) (a 16) (lnF 1) (leF 1) (ceF 1)))))) rfl (As := [.int i, .int n]) (n := 2) rfl rfl (st1 := [.int (bI (hcl (leF 3) i n))]) rfl (Nat.le_of_ble_eq_true rfl) dX4_copy_77 ?_
        refine z_if_eqB (tgt := 95) X dX4_copy_80 (by decide) (fun hq12 => ?_) (fun hq12 => ?_)
        ·
          refine z_aload_n X dX4_copy_95 rfl 2 rfl ?_
          refine z_iconst (v := nI 3) X dX4_copy_96 (by decide) ?_
          refine z_callV X (c_X4_faulted l g a (nI 0) tr (nI 3)) gX4_copy_X4_faulted rfl ⟨rfl, rfl⟩ (by decide +kernel) ⟨Nat.le_of_ble_eq_true rfl, Nat.le_of_ble_eq_true rfl⟩ ZF.room (ci := 3) rfl 0 rfl (isC := [0]) (by decide) rfl rfl (ws' := (wO g a (nI 3) tr ++ (wH g a ++ (wS g (a 19) (a 20) (lnF 3) (leF 3) (ceF 3) ++ (wS g (a 15) (a 16) (lnF 1) (leF 1) (ceF 1)))))) rfl (As := [.int (nI 3)]) (n := 1) rfl rfl (st1 := [.int ((-10) - (nI 3))]) rfl (Nat.le_of_ble_eq_true rfl) dX4_copy_97 ?_
          have e13 : (cof (lnF 3) (leF 3) (lnF 1) (leF 1) i j n) = (nI 3) := by first | (simp [cor, cof, cok, hq7, hq10, hq11, hq12]; done) | (simp [cor, cof, cok, hq7, hq10, hq11, hq12]; decide)
          have e14 : (if cok (lnF 3) (leF 3) (lnF 1) (leF 1) i j n then va_cpy (ceF 3) (ceF 1) (tn i) (tn j) (tn n) else ceF 1) = (ceF 1) := by first | (simp [cor, cof, cok, hq7, hq10, hq11, hq12]; done) | (simp [cor, cof, cok, hq7, hq10, hq11, hq12]; decide)
          exact z_iret X ZF dX4_copy_100 (by first | (simp [cor, cof, cok, hq7, hq10, hq11, hq12]; done) | (simp [cor, cof, cok, hq7, hq10, hq11, hq12]; decide)) (by first | rw [e14, e13] | (simp only [e14, e13]))
        ·
          refine z_aload X dX4_copy_83 0 rfl ?_
          refine z_iload X dX4_copy_85 6 rfl ?_
          refine z_iload X dX4_copy_87 7 rfl ?_
          refine z_callV X (c_X2_hasCells l g (a 15) (a 16) (lnF 1) (leF 1) (ceF 1) j n) gX4_copy_X2_hasCells rfl ⟨rfl, rfl⟩ (by decide +kernel) ⟨Nat.le_of_ble_eq_true rfl, Nat.le_of_ble_eq_true rfl⟩ ZF.room (ci := 2) rfl 4 rfl (isC := [4, 5]) (by decide) rfl rfl (ws' := (wO g a (nI 0) tr ++ (wH g a ++ (wS g (a 19) (a 20) (lnF 3) (leF 3) (ceF 3) ++ (wS g (a 15) (a 16) (lnF 1) (leF 1) (ceF 1)))))) rfl (As := [.int j, .int n]) (n := 2) rfl rfl (st1 := [.int (bI (hcl (leF 1) j n))]) rfl (Nat.le_of_ble_eq_true rfl) dX4_copy_89 ?_
          refine z_if_neB (tgt := 101) X dX4_copy_92 (by decide) (fun hq15 => ?_) (fun hq15 => ?_)
          ·
            obtain ⟨i_a, n_a, ei_a, en_a, m_a, hm_a, him_a, hin_a⟩ := hcl_t hle hq12
            subst ei_a; subst en_a
            obtain ⟨j_a, ej_a, m_b, hm_b, hmb_b, hjn_b⟩ := hcl_t2 (by omega) hle2 hq15
            subst ej_a
            have hti_a : tn (nI i_a) = i_a := nI_clamp (by omega)
            have htn_a : tn (nI n_a) = n_a := nI_clamp (by omega)
            have htj_a : tn (nI j_a) = j_a := nI_clamp (by omega)
            refine z_aload X dX4_copy_101 1 rfl ?_
            refine z_iload_n X dX4_copy_103 rfl 4 rfl ?_
            refine z_aload X dX4_copy_104 0 rfl ?_
            refine z_iload X dX4_copy_106 6 rfl ?_
            refine z_iload X dX4_copy_108 7 rfl ?_
            refine z_callV X (c_X2_copyTo_two l g (a 19) (a 20) (a 15) (a 16) (lnF 3) (leF 3) (ceF 3) (lnF 1) (leF 1) (ceF 1) i_a j_a n_a (by omega) (by omega) (by first | assumption | omega) (by first | assumption | omega)) gX4_copy_X2_copyTo rfl ⟨rfl, rfl⟩ (by decide +kernel) ⟨Nat.le_of_ble_eq_true rfl, Nat.le_of_ble_eq_true rfl⟩ ZF.room (ci := 2) rfl 2 rfl (isC := [2, 3, 4, 5]) (by decide) rfl rfl (ws' := (wO g a (nI 0) tr ++ (wH g a ++ (wS g (a 19) (a 20) (lnF 3) (leF 3) (ceF 3) ++ (wS g (a 15) (a 16) (lnF 1) (leF 1) (va_cpy (ceF 3) (ceF 1) i_a j_a n_a)))))) rfl (As := [.int (nI i_a), .ref (a 15), .int (nI j_a), .int (nI n_a)]) (n := 4) rfl rfl (st1 := []) rfl (Nat.le_of_ble_eq_true rfl) dX4_copy_110 ?_
            refine z_iload X dX4_copy_113 7 rfl ?_
            have e16 : (cof (lnF 3) (leF 3) (lnF 1) (leF 1) (nI i_a) (nI j_a) (nI n_a)) = (nI 0) := by first | (simp [cor, cof, cok, hq7, hq10, hq11, hq12, hti_a, htn_a, htj_a, hq15]; done) | (simp [cor, cof, cok, hq7, hq10, hq11, hq12, hti_a, htn_a, htj_a, hq15]; decide)
            have e17 : (if cok (lnF 3) (leF 3) (lnF 1) (leF 1) (nI i_a) (nI j_a) (nI n_a) then va_cpy (ceF 3) (ceF 1) (tn (nI i_a)) (tn (nI j_a)) (tn (nI n_a)) else ceF 1) = (va_cpy (ceF 3) (ceF 1) i_a j_a n_a) := by first | (simp [cor, cof, cok, hq7, hq10, hq11, hq12, hti_a, htn_a, htj_a, hq15]; done) | (simp [cor, cof, cok, hq7, hq10, hq11, hq12, hti_a, htn_a, htj_a, hq15]; decide)
            exact z_iret X ZF dX4_copy_115 (by first | (simp [cor, cof, cok, hq7, hq10, hq11, hq12, hti_a, htn_a, htj_a, hq15]; done) | (simp [cor, cof, cok, hq7, hq10, hq11, hq12, hti_a, htn_a, htj_a, hq15]; decide)) (by first | rw [e17, e16] | (simp only [e17, e16]))
          ·
            refine z_aload_n X dX4_copy_95 rfl 2 rfl ?_
            refine z_iconst (v := nI 3) X dX4_copy_96 (by decide) ?_
            refine z_callV X (c_X4_faulted l g a (nI 0) tr (nI 3)) gX4_copy_X4_faulted rfl ⟨rfl, rfl⟩ (by decide +kernel) ⟨Nat.le_of_ble_eq_true rfl, Nat.le_of_ble_eq_true rfl⟩ ZF.room (ci := 3) rfl 0 rfl (isC := [0]) (by decide) rfl rfl (ws' := (wO g a (nI 3) tr ++ (wH g a ++ (wS g (a 19) (a 20) (lnF 3) (leF 3) (ceF 3) ++ (wS g (a 15) (a 16) (lnF 1) (leF 1) (ceF 1)))))) rfl (As := [.int (nI 3)]) (n := 1) rfl rfl (st1 := [.int ((-10) - (nI 3))]) rfl (Nat.le_of_ble_eq_true rfl) dX4_copy_97 ?_
            have e18 : (cof (lnF 3) (leF 3) (lnF 1) (leF 1) i j n) = (nI 3) := by first | (simp [cor, cof, cok, hq7, hq10, hq11, hq12, hq15]; done) | (simp [cor, cof, cok, hq7, hq10, hq11, hq12, hq15]; decide)
            have e19 : (if cok (lnF 3) (leF 3) (lnF 1) (leF 1) i j n then va_cpy (ceF 3) (ceF 1) (tn i) (tn j) (tn n) else ceF 1) = (ceF 1) := by first | (simp [cor, cof, cok, hq7, hq10, hq11, hq12, hq15]; done) | (simp [cor, cof, cok, hq7, hq10, hq11, hq12, hq15]; decide)
            exact z_iret X ZF dX4_copy_100 (by first | (simp [cor, cof, cok, hq7, hq10, hq11, hq12, hq15]; done) | (simp [cor, cof, cok, hq7, hq10, hq11, hq12, hq15]; decide)) (by first | rw [e19, e18] | (simp only [e19, e18]))
      ·
        refine z_aload_n X dX4_copy_66 rfl 2 rfl ?_
        refine z_iconst (v := nI 2) X dX4_copy_67 (by decide) ?_
        refine z_callV X (c_X4_faulted l g a (nI 0) tr (nI 2)) gX4_copy_X4_faulted rfl ⟨rfl, rfl⟩ (by decide +kernel) ⟨Nat.le_of_ble_eq_true rfl, Nat.le_of_ble_eq_true rfl⟩ ZF.room (ci := 3) rfl 0 rfl (isC := [0]) (by decide) rfl rfl (ws' := (wO g a (nI 2) tr ++ (wH g a ++ (wS g (a 19) (a 20) (lnF 3) (leF 3) (ceF 3) ++ (wS g (a 15) (a 16) (lnF 1) (leF 1) (ceF 1)))))) rfl (As := [.int (nI 2)]) (n := 1) rfl rfl (st1 := [.int ((-10) - (nI 2))]) rfl (Nat.le_of_ble_eq_true rfl) dX4_copy_68 ?_
        have e20 : (cof (lnF 3) (leF 3) (lnF 1) (leF 1) i j n) = (nI 2) := by first | (simp [cor, cof, cok, hq7, hq10, hq11]; done) | (simp [cor, cof, cok, hq7, hq10, hq11]; decide)
        have e21 : (if cok (lnF 3) (leF 3) (lnF 1) (leF 1) i j n then va_cpy (ceF 3) (ceF 1) (tn i) (tn j) (tn n) else ceF 1) = (ceF 1) := by first | (simp [cor, cof, cok, hq7, hq10, hq11]; done) | (simp [cor, cof, cok, hq7, hq10, hq11]; decide)
        exact z_iret X ZF dX4_copy_71 (by first | (simp [cor, cof, cok, hq7, hq10, hq11]; done) | (simp [cor, cof, cok, hq7, hq10, hq11]; decide)) (by first | rw [e21, e20] | (simp only [e21, e20]))
    ·
      have hq22 : (decide ((leF 1) = (-1))) = true := by simpa using hq8
      have hq23 : ((leF 1) = (-1)) := of_decide_eq_true hq22
      refine z_aload_n X dX4_copy_47 rfl 2 rfl ?_
      refine z_iconst (v := nI 1) X dX4_copy_48 (by decide) ?_
      refine z_callV X (c_X4_faulted l g a (nI 0) tr (nI 1)) gX4_copy_X4_faulted rfl ⟨rfl, rfl⟩ (by decide +kernel) ⟨Nat.le_of_ble_eq_true rfl, Nat.le_of_ble_eq_true rfl⟩ ZF.room (ci := 3) rfl 0 rfl (isC := [0]) (by decide) rfl rfl (ws' := (wO g a (nI 1) tr ++ (wH g a ++ (wS g (a 19) (a 20) (lnF 3) (leF 3) (ceF 3) ++ (wS g (a 15) (a 16) (lnF 1) (leF 1) (ceF 1)))))) rfl (As := [.int (nI 1)]) (n := 1) rfl rfl (st1 := [.int ((-10) - (nI 1))]) rfl (Nat.le_of_ble_eq_true rfl) dX4_copy_49 ?_
      have e24 : (cof (lnF 3) (leF 3) (lnF 1) (leF 1) i j n) = (nI 1) := by first | (simp [cor, cof, cok, hq7, hq23]; done) | (simp [cor, cof, cok, hq7, hq23]; decide)
      have e25 : (if cok (lnF 3) (leF 3) (lnF 1) (leF 1) i j n then va_cpy (ceF 3) (ceF 1) (tn i) (tn j) (tn n) else ceF 1) = (ceF 1) := by first | (simp [cor, cof, cok, hq7, hq23]; done) | (simp [cor, cof, cok, hq7, hq23]; decide)
      exact z_iret X ZF dX4_copy_52 (by first | (simp [cor, cof, cok, hq7, hq23]; done) | (simp [cor, cof, cok, hq7, hq23]; decide)) (by first | rw [e25, e24] | (simp only [e25, e24]))
abbrev rX4_copy_32 : Room := { frames := 2, cells := 0, slots := 0, locals := 46 }
set_option maxHeartbeats 4000000 in
set_option maxRecDepth 100000 in
theorem c_X4_copy_32 (l : Launch) (g : zg) (a : Nat → Nat) (ft : Int32) (tr : Int32) (lnF : Nat → Int32) (leF : Nat → Int32) (ceF : Nat → Nat → Int32) (i : Int32) (j : Int32) (n : Int32) (hle : vle (leF 3)) (hle2 : vle (leF 2)) : zM l g yX4_copy wsX4_copy rX4_copy_32 [.ref (a 0), .int (nI 3), .int i, .int (nI 2), .int j, .int n] (wO g a ft tr ++ (wH g a ++ (wS g (a 19) (a 20) (lnF 3) (leF 3) (ceF 3) ++ (wS g (a 17) (a 18) (lnF 2) (leF 2) (ceF 2))))) (some (.int (cor (lnF 3) (leF 3) (lnF 2) (leF 2) i j n))) (wO g a (cof (lnF 3) (leF 3) (lnF 2) (leF 2) i j n) tr ++ (wH g a ++ (wS g (a 19) (a 20) (lnF 3) (leF 3) (ceF 3) ++ (wS g (a 17) (a 18) (lnF 2) (leF 2) (if cok (lnF 3) (leF 3) (lnF 2) (leF 2) i j n then va_cpy (ceF 3) (ceF 2) (tn i) (tn j) (tn n) else ceF 2))))) := by
  refine z_met (own := RX4) (cc := cX4_copy) (maxL := 8) (ret := some .int) (by decide +kernel) rfl rfl (Nat.le_of_ble_eq_true rfl) ?_
  intro M X ZF
  refine z_Le (L' := [(0, .ref (a 0)), (1, .int (nI 3)), (2, .int i), (3, .int (nI 2)), (4, .int j), (5, .int n)]) rfl ?_
  have i_RX4 : ∀ w ∈ wsX40, w ∈ wsX4_copy := by decide +kernel
  have f_32 : Cond.fieldLink RX4 32 (TX4 3).1 (TX4 3).2.1 (TX4 3).2.2.1 ∈ wsX4_copy := by decide +kernel
  refine z_aload_n X dX4_copy_0 rfl 0 rfl ?_
  refine z_iconst (v := nI 0) X dX4_copy_1 (by decide) ?_
  refine z_put (ws' := (wO g a (nI 0) tr ++ (wH g a ++ (wS g (a 19) (a 20) (lnF 3) (leF 3) (ceF 3) ++ (wS g (a 17) (a 18) (lnF 2) (leF 2) (ceF 2)))))) (N := 5) X i_RX4 (ci := 3) rfl tyX4 tyX4_ok nmX4 0 rfl 3 (by decide) f_32 rfl (ty := .int) (by decide +kernel) rfl rfl (Nat.le_of_ble_eq_true rfl) dX4_copy_2 rfl ?_
  refine z_aload_n X dX4_copy_5 rfl 0 rfl ?_
  refine z_iload_n X dX4_copy_6 rfl 1 rfl ?_
  refine z_callV X (c_X4_sheetAt_in l g a (nI 0) tr 3 (by omega)) gX4_copy_X4_sheetAt rfl ⟨rfl, rfl⟩ (by decide +kernel) ⟨Nat.le_of_ble_eq_true rfl, Nat.le_of_ble_eq_true rfl⟩ ZF.room (ci := 3) rfl 0 rfl (isC := [0, 1]) (by decide) rfl rfl (ws' := (wO g a (nI 0) tr ++ (wH g a ++ (wS g (a 19) (a 20) (lnF 3) (leF 3) (ceF 3) ++ (wS g (a 17) (a 18) (lnF 2) (leF 2) (ceF 2)))))) rfl (As := [.int (nI 3)]) (n := 1) rfl rfl (st1 := [.ref (a 19)]) rfl (Nat.le_of_ble_eq_true rfl) dX4_copy_7 ?_
  refine z_astore (L' := [(6, .ref (a 19)), (0, .ref (a 0)), (1, .int (nI 3)), (2, .int i), (3, .int (nI 2)), (4, .int j), (5, .int n)]) X dX4_copy_10 (by decide) rfl ?_
  refine z_aload_n X dX4_copy_12 rfl 1 rfl ?_
  refine z_iload_n X dX4_copy_13 rfl 4 rfl ?_
  refine z_callV X (c_X4_sheetAt_in l g a (nI 0) tr 2 (by omega)) gX4_copy_X4_sheetAt rfl ⟨rfl, rfl⟩ (by decide +kernel) ⟨Nat.le_of_ble_eq_true rfl, Nat.le_of_ble_eq_true rfl⟩ ZF.room (ci := 3) rfl 0 rfl (isC := [0, 1]) (by decide) rfl rfl (ws' := (wO g a (nI 0) tr ++ (wH g a ++ (wS g (a 19) (a 20) (lnF 3) (leF 3) (ceF 3) ++ (wS g (a 17) (a 18) (lnF 2) (leF 2) (ceF 2)))))) rfl (As := [.int (nI 2)]) (n := 1) rfl rfl (st1 := [.ref (a 17)]) rfl (Nat.le_of_ble_eq_true rfl) dX4_copy_14 ?_
  refine z_astore (L' := [(7, .ref (a 17)), (6, .ref (a 19)), (0, .ref (a 0)), (1, .int (nI 3)), (2, .int i), (3, .int (nI 2)), (4, .int j), (5, .int n)]) X dX4_copy_17 (by decide) rfl ?_
  refine z_aload X dX4_copy_19 1 rfl ?_
  refine z_ifnull X dX4_copy_21 ?_
  refine z_aload X dX4_copy_24 0 rfl ?_
  refine z_ifnonnull (tgt := 31) X dX4_copy_26 (by decide) ?_
  refine z_aload X dX4_copy_31 1 rfl ?_
  refine z_callV X (c_X2_hasRow l g (a 19) (a 20) (lnF 3) (leF 3) (ceF 3)) gX4_copy_X2_hasRow rfl ⟨rfl, rfl⟩ (by decide +kernel) ⟨Nat.le_of_ble_eq_true rfl, Nat.le_of_ble_eq_true rfl⟩ ZF.room (ci := 2) rfl 2 rfl (isC := [2, 3]) (by decide) rfl rfl (ws' := (wO g a (nI 0) tr ++ (wH g a ++ (wS g (a 19) (a 20) (lnF 3) (leF 3) (ceF 3) ++ (wS g (a 17) (a 18) (lnF 2) (leF 2) (ceF 2)))))) rfl (As := []) (n := 0) rfl rfl (st1 := [.int (bI (!decide ((leF 3) = (-1))))]) rfl (Nat.le_of_ble_eq_true rfl) dX4_copy_33 ?_
  refine z_if_eqB (tgt := 47) X dX4_copy_36 (by decide) (fun hq1 => ?_) (fun hq1 => ?_)
  ·
    have hq2 : (decide ((leF 3) = (-1))) = true := by simpa using hq1
    have hq3 : ((leF 3) = (-1)) := of_decide_eq_true hq2
    refine z_aload_n X dX4_copy_47 rfl 2 rfl ?_
    refine z_iconst (v := nI 1) X dX4_copy_48 (by decide) ?_
    refine z_callV X (c_X4_faulted l g a (nI 0) tr (nI 1)) gX4_copy_X4_faulted rfl ⟨rfl, rfl⟩ (by decide +kernel) ⟨Nat.le_of_ble_eq_true rfl, Nat.le_of_ble_eq_true rfl⟩ ZF.room (ci := 3) rfl 0 rfl (isC := [0]) (by decide) rfl rfl (ws' := (wO g a (nI 1) tr ++ (wH g a ++ (wS g (a 19) (a 20) (lnF 3) (leF 3) (ceF 3) ++ (wS g (a 17) (a 18) (lnF 2) (leF 2) (ceF 2)))))) rfl (As := [.int (nI 1)]) (n := 1) rfl rfl (st1 := [.int ((-10) - (nI 1))]) rfl (Nat.le_of_ble_eq_true rfl) dX4_copy_49 ?_
    have e4 : (cof (lnF 3) (leF 3) (lnF 2) (leF 2) i j n) = (nI 1) := by first | (simp [cor, cof, cok, hq3]; done) | (simp [cor, cof, cok, hq3]; decide)
    have e5 : (if cok (lnF 3) (leF 3) (lnF 2) (leF 2) i j n then va_cpy (ceF 3) (ceF 2) (tn i) (tn j) (tn n) else ceF 2) = (ceF 2) := by first | (simp [cor, cof, cok, hq3]; done) | (simp [cor, cof, cok, hq3]; decide)
    exact z_iret X ZF dX4_copy_52 (by first | (simp [cor, cof, cok, hq3]; done) | (simp [cor, cof, cok, hq3]; decide)) (by first | rw [e5, e4] | (simp only [e5, e4]))
  ·
    have hq6 : (decide ((leF 3) = (-1))) = false := by simpa using hq1
    have hq7 : ¬ ((leF 3) = (-1)) := of_decide_eq_false hq6
    refine z_aload X dX4_copy_39 0 rfl ?_
    refine z_callV X (c_X2_hasRow l g (a 17) (a 18) (lnF 2) (leF 2) (ceF 2)) gX4_copy_X2_hasRow rfl ⟨rfl, rfl⟩ (by decide +kernel) ⟨Nat.le_of_ble_eq_true rfl, Nat.le_of_ble_eq_true rfl⟩ ZF.room (ci := 2) rfl 4 rfl (isC := [4, 5]) (by decide) rfl rfl (ws' := (wO g a (nI 0) tr ++ (wH g a ++ (wS g (a 19) (a 20) (lnF 3) (leF 3) (ceF 3) ++ (wS g (a 17) (a 18) (lnF 2) (leF 2) (ceF 2)))))) rfl (As := []) (n := 0) rfl rfl (st1 := [.int (bI (!decide ((leF 2) = (-1))))]) rfl (Nat.le_of_ble_eq_true rfl) dX4_copy_41 ?_
    refine z_if_neB (tgt := 53) X dX4_copy_44 (by decide) (fun hq8 => ?_) (fun hq8 => ?_)
    ·
      have hq9 : (decide ((leF 2) = (-1))) = false := by simpa using hq8
      have hq10 : ¬ ((leF 2) = (-1)) := of_decide_eq_false hq9
      refine z_aload X dX4_copy_53 1 rfl ?_
      refine z_callV X (c_X2_rowLane l g (a 19) (a 20) (lnF 3) (leF 3) (ceF 3)) gX4_copy_X2_rowLane rfl ⟨rfl, rfl⟩ (by decide +kernel) ⟨Nat.le_of_ble_eq_true rfl, Nat.le_of_ble_eq_true rfl⟩ ZF.room (ci := 2) rfl 2 rfl (isC := [2, 3]) (by decide) rfl rfl (ws' := (wO g a (nI 0) tr ++ (wH g a ++ (wS g (a 19) (a 20) (lnF 3) (leF 3) (ceF 3) ++ (wS g (a 17) (a 18) (lnF 2) (leF 2) (ceF 2)))))) rfl (As := []) (n := 0) rfl rfl (st1 := [.int (lnF 3)]) rfl (Nat.le_of_ble_eq_true rfl) dX4_copy_55 ?_
      refine z_aload X dX4_copy_58 0 rfl ?_
      refine z_callV X (c_X2_rowLane l g (a 17) (a 18) (lnF 2) (leF 2) (ceF 2)) gX4_copy_X2_rowLane rfl ⟨rfl, rfl⟩ (by decide +kernel) ⟨Nat.le_of_ble_eq_true rfl, Nat.le_of_ble_eq_true rfl⟩ ZF.room (ci := 2) rfl 4 rfl (isC := [4, 5]) (by decide) rfl rfl (ws' := (wO g a (nI 0) tr ++ (wH g a ++ (wS g (a 19) (a 20) (lnF 3) (leF 3) (ceF 3) ++ (wS g (a 17) (a 18) (lnF 2) (leF 2) (ceF 2)))))) rfl (As := []) (n := 0) rfl rfl (st1 := [.int (lnF 2), .int (lnF 3)]) rfl (Nat.le_of_ble_eq_true rfl) dX4_copy_60 ?_
      refine z_icmp_eq (tgt := 72) X dX4_copy_63 (by decide) (fun hq11 => ?_) (fun hq11 => ?_)
      ·
        refine z_aload X dX4_copy_72 1 rfl ?_
        refine z_iload_n X dX4_copy_74 rfl 4 rfl ?_
        refine z_iload X dX4_copy_75 7 rfl ?_
        refine z_callV X (c_X2_hasCells l g (a 19) (a 20) (lnF 3) (leF 3) (ceF 3) i n) gX4_copy_X2_hasCells rfl ⟨rfl, rfl⟩ (by decide +kernel) ⟨Nat.le_of_ble_eq_true rfl, Nat.le_of_ble_eq_true rfl⟩ ZF.room (ci := 2) rfl 2 rfl (isC := [2, 3]) (by decide) rfl rfl (ws' := (wO g a (nI 0) tr ++ (wH g a ++ (wS g (a 19) (a 20) (lnF 3) (leF 3) (ceF 3) ++ (wS g (a 17) (a 18) (lnF 2) (leF 2) (ceF 2)))))) rfl (As := [.int i, .int n]) (n := 2) rfl rfl (st1 := [.int (bI (hcl (leF 3) i n))]) rfl (Nat.le_of_ble_eq_true rfl) dX4_copy_77 ?_
        refine z_if_eqB (tgt := 95) X dX4_copy_80 (by decide) (fun hq12 => ?_) (fun hq12 => ?_)
        ·
          refine z_aload_n X dX4_copy_95 rfl 2 rfl ?_
          refine z_iconst (v := nI 3) X dX4_copy_96 (by decide) ?_
          refine z_callV X (c_X4_faulted l g a (nI 0) tr (nI 3)) gX4_copy_X4_faulted rfl ⟨rfl, rfl⟩ (by decide +kernel) ⟨Nat.le_of_ble_eq_true rfl, Nat.le_of_ble_eq_true rfl⟩ ZF.room (ci := 3) rfl 0 rfl (isC := [0]) (by decide) rfl rfl (ws' := (wO g a (nI 3) tr ++ (wH g a ++ (wS g (a 19) (a 20) (lnF 3) (leF 3) (ceF 3) ++ (wS g (a 17) (a 18) (lnF 2) (leF 2) (ceF 2)))))) rfl (As := [.int (nI 3)]) (n := 1) rfl rfl (st1 := [.int ((-10) - (nI 3))]) rfl (Nat.le_of_ble_eq_true rfl) dX4_copy_97 ?_
          have e13 : (cof (lnF 3) (leF 3) (lnF 2) (leF 2) i j n) = (nI 3) := by first | (simp [cor, cof, cok, hq7, hq10, hq11, hq12]; done) | (simp [cor, cof, cok, hq7, hq10, hq11, hq12]; decide)
          have e14 : (if cok (lnF 3) (leF 3) (lnF 2) (leF 2) i j n then va_cpy (ceF 3) (ceF 2) (tn i) (tn j) (tn n) else ceF 2) = (ceF 2) := by first | (simp [cor, cof, cok, hq7, hq10, hq11, hq12]; done) | (simp [cor, cof, cok, hq7, hq10, hq11, hq12]; decide)
          exact z_iret X ZF dX4_copy_100 (by first | (simp [cor, cof, cok, hq7, hq10, hq11, hq12]; done) | (simp [cor, cof, cok, hq7, hq10, hq11, hq12]; decide)) (by first | rw [e14, e13] | (simp only [e14, e13]))
        ·
          refine z_aload X dX4_copy_83 0 rfl ?_
          refine z_iload X dX4_copy_85 6 rfl ?_
          refine z_iload X dX4_copy_87 7 rfl ?_
          refine z_callV X (c_X2_hasCells l g (a 17) (a 18) (lnF 2) (leF 2) (ceF 2) j n) gX4_copy_X2_hasCells rfl ⟨rfl, rfl⟩ (by decide +kernel) ⟨Nat.le_of_ble_eq_true rfl, Nat.le_of_ble_eq_true rfl⟩ ZF.room (ci := 2) rfl 4 rfl (isC := [4, 5]) (by decide) rfl rfl (ws' := (wO g a (nI 0) tr ++ (wH g a ++ (wS g (a 19) (a 20) (lnF 3) (leF 3) (ceF 3) ++ (wS g (a 17) (a 18) (lnF 2) (leF 2) (ceF 2)))))) rfl (As := [.int j, .int n]) (n := 2) rfl rfl (st1 := [.int (bI (hcl (leF 2) j n))]) rfl (Nat.le_of_ble_eq_true rfl) dX4_copy_89 ?_
          refine z_if_neB (tgt := 101) X dX4_copy_92 (by decide) (fun hq15 => ?_) (fun hq15 => ?_)
          ·
            obtain ⟨i_a, n_a, ei_a, en_a, m_a, hm_a, him_a, hin_a⟩ := hcl_t hle hq12
            subst ei_a; subst en_a
            obtain ⟨j_a, ej_a, m_b, hm_b, hmb_b, hjn_b⟩ := hcl_t2 (by omega) hle2 hq15
            subst ej_a
            have hti_a : tn (nI i_a) = i_a := nI_clamp (by omega)
            have htn_a : tn (nI n_a) = n_a := nI_clamp (by omega)
            have htj_a : tn (nI j_a) = j_a := nI_clamp (by omega)
            refine z_aload X dX4_copy_101 1 rfl ?_
            refine z_iload_n X dX4_copy_103 rfl 4 rfl ?_
            refine z_aload X dX4_copy_104 0 rfl ?_
            refine z_iload X dX4_copy_106 6 rfl ?_
            refine z_iload X dX4_copy_108 7 rfl ?_
            refine z_callV X (c_X2_copyTo_two l g (a 19) (a 20) (a 17) (a 18) (lnF 3) (leF 3) (ceF 3) (lnF 2) (leF 2) (ceF 2) i_a j_a n_a (by omega) (by omega) (by first | assumption | omega) (by first | assumption | omega)) gX4_copy_X2_copyTo rfl ⟨rfl, rfl⟩ (by decide +kernel) ⟨Nat.le_of_ble_eq_true rfl, Nat.le_of_ble_eq_true rfl⟩ ZF.room (ci := 2) rfl 2 rfl (isC := [2, 3, 4, 5]) (by decide) rfl rfl (ws' := (wO g a (nI 0) tr ++ (wH g a ++ (wS g (a 19) (a 20) (lnF 3) (leF 3) (ceF 3) ++ (wS g (a 17) (a 18) (lnF 2) (leF 2) (va_cpy (ceF 3) (ceF 2) i_a j_a n_a)))))) rfl (As := [.int (nI i_a), .ref (a 17), .int (nI j_a), .int (nI n_a)]) (n := 4) rfl rfl (st1 := []) rfl (Nat.le_of_ble_eq_true rfl) dX4_copy_110 ?_
            refine z_iload X dX4_copy_113 7 rfl ?_
            have e16 : (cof (lnF 3) (leF 3) (lnF 2) (leF 2) (nI i_a) (nI j_a) (nI n_a)) = (nI 0) := by first | (simp [cor, cof, cok, hq7, hq10, hq11, hq12, hti_a, htn_a, htj_a, hq15]; done) | (simp [cor, cof, cok, hq7, hq10, hq11, hq12, hti_a, htn_a, htj_a, hq15]; decide)
            have e17 : (if cok (lnF 3) (leF 3) (lnF 2) (leF 2) (nI i_a) (nI j_a) (nI n_a) then va_cpy (ceF 3) (ceF 2) (tn (nI i_a)) (tn (nI j_a)) (tn (nI n_a)) else ceF 2) = (va_cpy (ceF 3) (ceF 2) i_a j_a n_a) := by first | (simp [cor, cof, cok, hq7, hq10, hq11, hq12, hti_a, htn_a, htj_a, hq15]; done) | (simp [cor, cof, cok, hq7, hq10, hq11, hq12, hti_a, htn_a, htj_a, hq15]; decide)
            exact z_iret X ZF dX4_copy_115 (by first | (simp [cor, cof, cok, hq7, hq10, hq11, hq12, hti_a, htn_a, htj_a, hq15]; done) | (simp [cor, cof, cok, hq7, hq10, hq11, hq12, hti_a, htn_a, htj_a, hq15]; decide)) (by first | rw [e17, e16] | (simp only [e17, e16]))
          ·
            refine z_aload_n X dX4_copy_95 rfl 2 rfl ?_
            refine z_iconst (v := nI 3) X dX4_copy_96 (by decide) ?_
            refine z_callV X (c_X4_faulted l g a (nI 0) tr (nI 3)) gX4_copy_X4_faulted rfl ⟨rfl, rfl⟩ (by decide +kernel) ⟨Nat.le_of_ble_eq_true rfl, Nat.le_of_ble_eq_true rfl⟩ ZF.room (ci := 3) rfl 0 rfl (isC := [0]) (by decide) rfl rfl (ws' := (wO g a (nI 3) tr ++ (wH g a ++ (wS g (a 19) (a 20) (lnF 3) (leF 3) (ceF 3) ++ (wS g (a 17) (a 18) (lnF 2) (leF 2) (ceF 2)))))) rfl (As := [.int (nI 3)]) (n := 1) rfl rfl (st1 := [.int ((-10) - (nI 3))]) rfl (Nat.le_of_ble_eq_true rfl) dX4_copy_97 ?_
            have e18 : (cof (lnF 3) (leF 3) (lnF 2) (leF 2) i j n) = (nI 3) := by first | (simp [cor, cof, cok, hq7, hq10, hq11, hq12, hq15]; done) | (simp [cor, cof, cok, hq7, hq10, hq11, hq12, hq15]; decide)
            have e19 : (if cok (lnF 3) (leF 3) (lnF 2) (leF 2) i j n then va_cpy (ceF 3) (ceF 2) (tn i) (tn j) (tn n) else ceF 2) = (ceF 2) := by first | (simp [cor, cof, cok, hq7, hq10, hq11, hq12, hq15]; done) | (simp [cor, cof, cok, hq7, hq10, hq11, hq12, hq15]; decide)
            exact z_iret X ZF dX4_copy_100 (by first | (simp [cor, cof, cok, hq7, hq10, hq11, hq12, hq15]; done) | (simp [cor, cof, cok, hq7, hq10, hq11, hq12, hq15]; decide)) (by first | rw [e19, e18] | (simp only [e19, e18]))
      ·
        refine z_aload_n X dX4_copy_66 rfl 2 rfl ?_
        refine z_iconst (v := nI 2) X dX4_copy_67 (by decide) ?_
        refine z_callV X (c_X4_faulted l g a (nI 0) tr (nI 2)) gX4_copy_X4_faulted rfl ⟨rfl, rfl⟩ (by decide +kernel) ⟨Nat.le_of_ble_eq_true rfl, Nat.le_of_ble_eq_true rfl⟩ ZF.room (ci := 3) rfl 0 rfl (isC := [0]) (by decide) rfl rfl (ws' := (wO g a (nI 2) tr ++ (wH g a ++ (wS g (a 19) (a 20) (lnF 3) (leF 3) (ceF 3) ++ (wS g (a 17) (a 18) (lnF 2) (leF 2) (ceF 2)))))) rfl (As := [.int (nI 2)]) (n := 1) rfl rfl (st1 := [.int ((-10) - (nI 2))]) rfl (Nat.le_of_ble_eq_true rfl) dX4_copy_68 ?_
        have e20 : (cof (lnF 3) (leF 3) (lnF 2) (leF 2) i j n) = (nI 2) := by first | (simp [cor, cof, cok, hq7, hq10, hq11]; done) | (simp [cor, cof, cok, hq7, hq10, hq11]; decide)
        have e21 : (if cok (lnF 3) (leF 3) (lnF 2) (leF 2) i j n then va_cpy (ceF 3) (ceF 2) (tn i) (tn j) (tn n) else ceF 2) = (ceF 2) := by first | (simp [cor, cof, cok, hq7, hq10, hq11]; done) | (simp [cor, cof, cok, hq7, hq10, hq11]; decide)
        exact z_iret X ZF dX4_copy_71 (by first | (simp [cor, cof, cok, hq7, hq10, hq11]; done) | (simp [cor, cof, cok, hq7, hq10, hq11]; decide)) (by first | rw [e21, e20] | (simp only [e21, e20]))
    ·
      have hq22 : (decide ((leF 2) = (-1))) = true := by simpa using hq8
      have hq23 : ((leF 2) = (-1)) := of_decide_eq_true hq22
      refine z_aload_n X dX4_copy_47 rfl 2 rfl ?_
      refine z_iconst (v := nI 1) X dX4_copy_48 (by decide) ?_
      refine z_callV X (c_X4_faulted l g a (nI 0) tr (nI 1)) gX4_copy_X4_faulted rfl ⟨rfl, rfl⟩ (by decide +kernel) ⟨Nat.le_of_ble_eq_true rfl, Nat.le_of_ble_eq_true rfl⟩ ZF.room (ci := 3) rfl 0 rfl (isC := [0]) (by decide) rfl rfl (ws' := (wO g a (nI 1) tr ++ (wH g a ++ (wS g (a 19) (a 20) (lnF 3) (leF 3) (ceF 3) ++ (wS g (a 17) (a 18) (lnF 2) (leF 2) (ceF 2)))))) rfl (As := [.int (nI 1)]) (n := 1) rfl rfl (st1 := [.int ((-10) - (nI 1))]) rfl (Nat.le_of_ble_eq_true rfl) dX4_copy_49 ?_
      have e24 : (cof (lnF 3) (leF 3) (lnF 2) (leF 2) i j n) = (nI 1) := by first | (simp [cor, cof, cok, hq7, hq23]; done) | (simp [cor, cof, cok, hq7, hq23]; decide)
      have e25 : (if cok (lnF 3) (leF 3) (lnF 2) (leF 2) i j n then va_cpy (ceF 3) (ceF 2) (tn i) (tn j) (tn n) else ceF 2) = (ceF 2) := by first | (simp [cor, cof, cok, hq7, hq23]; done) | (simp [cor, cof, cok, hq7, hq23]; decide)
      exact z_iret X ZF dX4_copy_52 (by first | (simp [cor, cof, cok, hq7, hq23]; done) | (simp [cor, cof, cok, hq7, hq23]; decide)) (by first | rw [e25, e24] | (simp only [e25, e24]))
abbrev rX4_copy_33 : Room := { frames := 2, cells := 0, slots := 0, locals := 46 }
set_option maxHeartbeats 4000000 in
set_option maxRecDepth 100000 in
theorem c_X4_copy_33 (l : Launch) (g : zg) (a : Nat → Nat) (ft : Int32) (tr : Int32) (lnF : Nat → Int32) (leF : Nat → Int32) (ceF : Nat → Nat → Int32) (i : Int32) (j : Int32) (n : Int32) (hle : vle (leF 3)) (hle2 : vle (leF 3)) : zM l g yX4_copy wsX4_copy rX4_copy_33 [.ref (a 0), .int (nI 3), .int i, .int (nI 3), .int j, .int n] (wO g a ft tr ++ (wH g a ++ (wS g (a 19) (a 20) (lnF 3) (leF 3) (ceF 3)))) (some (.int (cor (lnF 3) (leF 3) (lnF 3) (leF 3) i j n))) (wO g a (cof (lnF 3) (leF 3) (lnF 3) (leF 3) i j n) tr ++ (wH g a ++ (wS g (a 19) (a 20) (lnF 3) (leF 3) (if cok (lnF 3) (leF 3) (lnF 3) (leF 3) i j n then va_cpy (ceF 3) (ceF 3) (tn i) (tn j) (tn n) else ceF 3)))) := by
  refine z_met (own := RX4) (cc := cX4_copy) (maxL := 8) (ret := some .int) (by decide +kernel) rfl rfl (Nat.le_of_ble_eq_true rfl) ?_
  intro M X ZF
  refine z_Le (L' := [(0, .ref (a 0)), (1, .int (nI 3)), (2, .int i), (3, .int (nI 3)), (4, .int j), (5, .int n)]) rfl ?_
  have i_RX4 : ∀ w ∈ wsX40, w ∈ wsX4_copy := by decide +kernel
  have f_32 : Cond.fieldLink RX4 32 (TX4 3).1 (TX4 3).2.1 (TX4 3).2.2.1 ∈ wsX4_copy := by decide +kernel
  refine z_aload_n X dX4_copy_0 rfl 0 rfl ?_
  refine z_iconst (v := nI 0) X dX4_copy_1 (by decide) ?_
  refine z_put (ws' := (wO g a (nI 0) tr ++ (wH g a ++ (wS g (a 19) (a 20) (lnF 3) (leF 3) (ceF 3))))) (N := 5) X i_RX4 (ci := 3) rfl tyX4 tyX4_ok nmX4 0 rfl 3 (by decide) f_32 rfl (ty := .int) (by decide +kernel) rfl rfl (Nat.le_of_ble_eq_true rfl) dX4_copy_2 rfl ?_
  refine z_aload_n X dX4_copy_5 rfl 0 rfl ?_
  refine z_iload_n X dX4_copy_6 rfl 1 rfl ?_
  refine z_callV X (c_X4_sheetAt_in l g a (nI 0) tr 3 (by omega)) gX4_copy_X4_sheetAt rfl ⟨rfl, rfl⟩ (by decide +kernel) ⟨Nat.le_of_ble_eq_true rfl, Nat.le_of_ble_eq_true rfl⟩ ZF.room (ci := 3) rfl 0 rfl (isC := [0, 1]) (by decide) rfl rfl (ws' := (wO g a (nI 0) tr ++ (wH g a ++ (wS g (a 19) (a 20) (lnF 3) (leF 3) (ceF 3))))) rfl (As := [.int (nI 3)]) (n := 1) rfl rfl (st1 := [.ref (a 19)]) rfl (Nat.le_of_ble_eq_true rfl) dX4_copy_7 ?_
  refine z_astore (L' := [(6, .ref (a 19)), (0, .ref (a 0)), (1, .int (nI 3)), (2, .int i), (3, .int (nI 3)), (4, .int j), (5, .int n)]) X dX4_copy_10 (by decide) rfl ?_
  refine z_aload_n X dX4_copy_12 rfl 1 rfl ?_
  refine z_iload_n X dX4_copy_13 rfl 4 rfl ?_
  refine z_callV X (c_X4_sheetAt_in l g a (nI 0) tr 3 (by omega)) gX4_copy_X4_sheetAt rfl ⟨rfl, rfl⟩ (by decide +kernel) ⟨Nat.le_of_ble_eq_true rfl, Nat.le_of_ble_eq_true rfl⟩ ZF.room (ci := 3) rfl 0 rfl (isC := [0, 1]) (by decide) rfl rfl (ws' := (wO g a (nI 0) tr ++ (wH g a ++ (wS g (a 19) (a 20) (lnF 3) (leF 3) (ceF 3))))) rfl (As := [.int (nI 3)]) (n := 1) rfl rfl (st1 := [.ref (a 19)]) rfl (Nat.le_of_ble_eq_true rfl) dX4_copy_14 ?_
  refine z_astore (L' := [(7, .ref (a 19)), (6, .ref (a 19)), (0, .ref (a 0)), (1, .int (nI 3)), (2, .int i), (3, .int (nI 3)), (4, .int j), (5, .int n)]) X dX4_copy_17 (by decide) rfl ?_
  refine z_aload X dX4_copy_19 1 rfl ?_
  refine z_ifnull X dX4_copy_21 ?_
  refine z_aload X dX4_copy_24 0 rfl ?_
  refine z_ifnonnull (tgt := 31) X dX4_copy_26 (by decide) ?_
  refine z_aload X dX4_copy_31 1 rfl ?_
  refine z_callV X (c_X2_hasRow l g (a 19) (a 20) (lnF 3) (leF 3) (ceF 3)) gX4_copy_X2_hasRow rfl ⟨rfl, rfl⟩ (by decide +kernel) ⟨Nat.le_of_ble_eq_true rfl, Nat.le_of_ble_eq_true rfl⟩ ZF.room (ci := 2) rfl 2 rfl (isC := [2, 3]) (by decide) rfl rfl (ws' := (wO g a (nI 0) tr ++ (wH g a ++ (wS g (a 19) (a 20) (lnF 3) (leF 3) (ceF 3))))) rfl (As := []) (n := 0) rfl rfl (st1 := [.int (bI (!decide ((leF 3) = (-1))))]) rfl (Nat.le_of_ble_eq_true rfl) dX4_copy_33 ?_
  refine z_if_eqB (tgt := 47) X dX4_copy_36 (by decide) (fun hq1 => ?_) (fun hq1 => ?_)
  ·
    have hq2 : (decide ((leF 3) = (-1))) = true := by simpa using hq1
    have hq3 : ((leF 3) = (-1)) := of_decide_eq_true hq2
    refine z_aload_n X dX4_copy_47 rfl 2 rfl ?_
    refine z_iconst (v := nI 1) X dX4_copy_48 (by decide) ?_
    refine z_callV X (c_X4_faulted l g a (nI 0) tr (nI 1)) gX4_copy_X4_faulted rfl ⟨rfl, rfl⟩ (by decide +kernel) ⟨Nat.le_of_ble_eq_true rfl, Nat.le_of_ble_eq_true rfl⟩ ZF.room (ci := 3) rfl 0 rfl (isC := [0]) (by decide) rfl rfl (ws' := (wO g a (nI 1) tr ++ (wH g a ++ (wS g (a 19) (a 20) (lnF 3) (leF 3) (ceF 3))))) rfl (As := [.int (nI 1)]) (n := 1) rfl rfl (st1 := [.int ((-10) - (nI 1))]) rfl (Nat.le_of_ble_eq_true rfl) dX4_copy_49 ?_
    have e4 : (cof (lnF 3) (leF 3) (lnF 3) (leF 3) i j n) = (nI 1) := by first | (simp [cor, cof, cok, hq3]; done) | (simp [cor, cof, cok, hq3]; decide)
    have e5 : (if cok (lnF 3) (leF 3) (lnF 3) (leF 3) i j n then va_cpy (ceF 3) (ceF 3) (tn i) (tn j) (tn n) else ceF 3) = (ceF 3) := by first | (simp [cor, cof, cok, hq3]; done) | (simp [cor, cof, cok, hq3]; decide)
    exact z_iret X ZF dX4_copy_52 (by first | (simp [cor, cof, cok, hq3]; done) | (simp [cor, cof, cok, hq3]; decide)) (by first | rw [e5, e4] | (simp only [e5, e4]))
  ·
    have hq6 : (decide ((leF 3) = (-1))) = false := by simpa using hq1
    have hq7 : ¬ ((leF 3) = (-1)) := of_decide_eq_false hq6
    refine z_aload X dX4_copy_39 0 rfl ?_
    refine z_callV X (c_X2_hasRow l g (a 19) (a 20) (lnF 3) (leF 3) (ceF 3)) gX4_copy_X2_hasRow rfl ⟨rfl, rfl⟩ (by decide +kernel) ⟨Nat.le_of_ble_eq_true rfl, Nat.le_of_ble_eq_true rfl⟩ ZF.room (ci := 2) rfl 2 rfl (isC := [2, 3]) (by decide) rfl rfl (ws' := (wO g a (nI 0) tr ++ (wH g a ++ (wS g (a 19) (a 20) (lnF 3) (leF 3) (ceF 3))))) rfl (As := []) (n := 0) rfl rfl (st1 := [.int (bI (!decide ((leF 3) = (-1))))]) rfl (Nat.le_of_ble_eq_true rfl) dX4_copy_41 ?_
    refine z_if_neB (tgt := 53) X dX4_copy_44 (by decide) (fun hq8 => ?_) (fun hq8 => ?_)
    ·
      have hq9 : (decide ((leF 3) = (-1))) = false := by simpa using hq8
      refine z_aload X dX4_copy_53 1 rfl ?_
      refine z_callV X (c_X2_rowLane l g (a 19) (a 20) (lnF 3) (leF 3) (ceF 3)) gX4_copy_X2_rowLane rfl ⟨rfl, rfl⟩ (by decide +kernel) ⟨Nat.le_of_ble_eq_true rfl, Nat.le_of_ble_eq_true rfl⟩ ZF.room (ci := 2) rfl 2 rfl (isC := [2, 3]) (by decide) rfl rfl (ws' := (wO g a (nI 0) tr ++ (wH g a ++ (wS g (a 19) (a 20) (lnF 3) (leF 3) (ceF 3))))) rfl (As := []) (n := 0) rfl rfl (st1 := [.int (lnF 3)]) rfl (Nat.le_of_ble_eq_true rfl) dX4_copy_55 ?_
      refine z_aload X dX4_copy_58 0 rfl ?_
      refine z_callV X (c_X2_rowLane l g (a 19) (a 20) (lnF 3) (leF 3) (ceF 3)) gX4_copy_X2_rowLane rfl ⟨rfl, rfl⟩ (by decide +kernel) ⟨Nat.le_of_ble_eq_true rfl, Nat.le_of_ble_eq_true rfl⟩ ZF.room (ci := 2) rfl 2 rfl (isC := [2, 3]) (by decide) rfl rfl (ws' := (wO g a (nI 0) tr ++ (wH g a ++ (wS g (a 19) (a 20) (lnF 3) (leF 3) (ceF 3))))) rfl (As := []) (n := 0) rfl rfl (st1 := [.int (lnF 3), .int (lnF 3)]) rfl (Nat.le_of_ble_eq_true rfl) dX4_copy_60 ?_
      refine z_icmp_eq (tgt := 72) X dX4_copy_63 (by decide) (fun hq10 => ?_) (fun hq10 => ?_)
      ·
        refine z_aload X dX4_copy_72 1 rfl ?_
        refine z_iload_n X dX4_copy_74 rfl 4 rfl ?_
        refine z_iload X dX4_copy_75 7 rfl ?_
        refine z_callV X (c_X2_hasCells l g (a 19) (a 20) (lnF 3) (leF 3) (ceF 3) i n) gX4_copy_X2_hasCells rfl ⟨rfl, rfl⟩ (by decide +kernel) ⟨Nat.le_of_ble_eq_true rfl, Nat.le_of_ble_eq_true rfl⟩ ZF.room (ci := 2) rfl 2 rfl (isC := [2, 3]) (by decide) rfl rfl (ws' := (wO g a (nI 0) tr ++ (wH g a ++ (wS g (a 19) (a 20) (lnF 3) (leF 3) (ceF 3))))) rfl (As := [.int i, .int n]) (n := 2) rfl rfl (st1 := [.int (bI (hcl (leF 3) i n))]) rfl (Nat.le_of_ble_eq_true rfl) dX4_copy_77 ?_
        refine z_if_eqB (tgt := 95) X dX4_copy_80 (by decide) (fun hq11 => ?_) (fun hq11 => ?_)
        ·
          refine z_aload_n X dX4_copy_95 rfl 2 rfl ?_
          refine z_iconst (v := nI 3) X dX4_copy_96 (by decide) ?_
          refine z_callV X (c_X4_faulted l g a (nI 0) tr (nI 3)) gX4_copy_X4_faulted rfl ⟨rfl, rfl⟩ (by decide +kernel) ⟨Nat.le_of_ble_eq_true rfl, Nat.le_of_ble_eq_true rfl⟩ ZF.room (ci := 3) rfl 0 rfl (isC := [0]) (by decide) rfl rfl (ws' := (wO g a (nI 3) tr ++ (wH g a ++ (wS g (a 19) (a 20) (lnF 3) (leF 3) (ceF 3))))) rfl (As := [.int (nI 3)]) (n := 1) rfl rfl (st1 := [.int ((-10) - (nI 3))]) rfl (Nat.le_of_ble_eq_true rfl) dX4_copy_97 ?_
          have e12 : (cof (lnF 3) (leF 3) (lnF 3) (leF 3) i j n) = (nI 3) := by first | (simp [cor, cof, cok, hq7, hq10, hq11]; done) | (simp [cor, cof, cok, hq7, hq10, hq11]; decide)
          have e13 : (if cok (lnF 3) (leF 3) (lnF 3) (leF 3) i j n then va_cpy (ceF 3) (ceF 3) (tn i) (tn j) (tn n) else ceF 3) = (ceF 3) := by first | (simp [cor, cof, cok, hq7, hq10, hq11]; done) | (simp [cor, cof, cok, hq7, hq10, hq11]; decide)
          exact z_iret X ZF dX4_copy_100 (by first | (simp [cor, cof, cok, hq7, hq10, hq11]; done) | (simp [cor, cof, cok, hq7, hq10, hq11]; decide)) (by first | rw [e13, e12] | (simp only [e13, e12]))
        ·
          refine z_aload X dX4_copy_83 0 rfl ?_
          refine z_iload X dX4_copy_85 6 rfl ?_
          refine z_iload X dX4_copy_87 7 rfl ?_
          refine z_callV X (c_X2_hasCells l g (a 19) (a 20) (lnF 3) (leF 3) (ceF 3) j n) gX4_copy_X2_hasCells rfl ⟨rfl, rfl⟩ (by decide +kernel) ⟨Nat.le_of_ble_eq_true rfl, Nat.le_of_ble_eq_true rfl⟩ ZF.room (ci := 2) rfl 2 rfl (isC := [2, 3]) (by decide) rfl rfl (ws' := (wO g a (nI 0) tr ++ (wH g a ++ (wS g (a 19) (a 20) (lnF 3) (leF 3) (ceF 3))))) rfl (As := [.int j, .int n]) (n := 2) rfl rfl (st1 := [.int (bI (hcl (leF 3) j n))]) rfl (Nat.le_of_ble_eq_true rfl) dX4_copy_89 ?_
          refine z_if_neB (tgt := 101) X dX4_copy_92 (by decide) (fun hq14 => ?_) (fun hq14 => ?_)
          ·
            obtain ⟨i_a, n_a, ei_a, en_a, m_a, hm_a, him_a, hin_a⟩ := hcl_t hle hq11
            subst ei_a; subst en_a
            obtain ⟨j_a, ej_a, m_b, hm_b, hmb_b, hjn_b⟩ := hcl_t2 (by omega) hle2 hq14
            subst ej_a
            have hti_a : tn (nI i_a) = i_a := nI_clamp (by omega)
            have htn_a : tn (nI n_a) = n_a := nI_clamp (by omega)
            have htj_a : tn (nI j_a) = j_a := nI_clamp (by omega)
            refine z_aload X dX4_copy_101 1 rfl ?_
            refine z_iload_n X dX4_copy_103 rfl 4 rfl ?_
            refine z_aload X dX4_copy_104 0 rfl ?_
            refine z_iload X dX4_copy_106 6 rfl ?_
            refine z_iload X dX4_copy_108 7 rfl ?_
            refine z_callV X (c_X2_copyTo_one l g (a 19) (a 20) (lnF 3) (leF 3) (ceF 3) i_a j_a n_a (by omega) (by omega) (by first | assumption | omega) (by first | assumption | omega)) gX4_copy_X2_copyTo rfl ⟨rfl, rfl⟩ (by decide +kernel) ⟨Nat.le_of_ble_eq_true rfl, Nat.le_of_ble_eq_true rfl⟩ ZF.room (ci := 2) rfl 2 rfl (isC := [2, 3]) (by decide) rfl rfl (ws' := (wO g a (nI 0) tr ++ (wH g a ++ (wS g (a 19) (a 20) (lnF 3) (leF 3) (va_cpy (ceF 3) (ceF 3) i_a j_a n_a))))) rfl (As := [.int (nI i_a), .ref (a 19), .int (nI j_a), .int (nI n_a)]) (n := 4) rfl rfl (st1 := []) rfl (Nat.le_of_ble_eq_true rfl) dX4_copy_110 ?_
            refine z_iload X dX4_copy_113 7 rfl ?_
            have e15 : (cof (lnF 3) (leF 3) (lnF 3) (leF 3) (nI i_a) (nI j_a) (nI n_a)) = (nI 0) := by first | (simp [cor, cof, cok, hq7, hq10, hq11, hti_a, htn_a, htj_a, hq14]; done) | (simp [cor, cof, cok, hq7, hq10, hq11, hti_a, htn_a, htj_a, hq14]; decide)
            have e16 : (if cok (lnF 3) (leF 3) (lnF 3) (leF 3) (nI i_a) (nI j_a) (nI n_a) then va_cpy (ceF 3) (ceF 3) (tn (nI i_a)) (tn (nI j_a)) (tn (nI n_a)) else ceF 3) = (va_cpy (ceF 3) (ceF 3) i_a j_a n_a) := by first | (simp [cor, cof, cok, hq7, hq10, hq11, hti_a, htn_a, htj_a, hq14]; done) | (simp [cor, cof, cok, hq7, hq10, hq11, hti_a, htn_a, htj_a, hq14]; decide)
            exact z_iret X ZF dX4_copy_115 (by first | (simp [cor, cof, cok, hq7, hq10, hq11, hti_a, htn_a, htj_a, hq14]; done) | (simp [cor, cof, cok, hq7, hq10, hq11, hti_a, htn_a, htj_a, hq14]; decide)) (by first | rw [e16, e15] | (simp only [e16, e15]))
          ·
            refine z_aload_n X dX4_copy_95 rfl 2 rfl ?_
            refine z_iconst (v := nI 3) X dX4_copy_96 (by decide) ?_
            refine z_callV X (c_X4_faulted l g a (nI 0) tr (nI 3)) gX4_copy_X4_faulted rfl ⟨rfl, rfl⟩ (by decide +kernel) ⟨Nat.le_of_ble_eq_true rfl, Nat.le_of_ble_eq_true rfl⟩ ZF.room (ci := 3) rfl 0 rfl (isC := [0]) (by decide) rfl rfl (ws' := (wO g a (nI 3) tr ++ (wH g a ++ (wS g (a 19) (a 20) (lnF 3) (leF 3) (ceF 3))))) rfl (As := [.int (nI 3)]) (n := 1) rfl rfl (st1 := [.int ((-10) - (nI 3))]) rfl (Nat.le_of_ble_eq_true rfl) dX4_copy_97 ?_
            have e17 : (cof (lnF 3) (leF 3) (lnF 3) (leF 3) i j n) = (nI 3) := by first | (simp [cor, cof, cok, hq7, hq10, hq11, hq14]; done) | (simp [cor, cof, cok, hq7, hq10, hq11, hq14]; decide)
            have e18 : (if cok (lnF 3) (leF 3) (lnF 3) (leF 3) i j n then va_cpy (ceF 3) (ceF 3) (tn i) (tn j) (tn n) else ceF 3) = (ceF 3) := by first | (simp [cor, cof, cok, hq7, hq10, hq11, hq14]; done) | (simp [cor, cof, cok, hq7, hq10, hq11, hq14]; decide)
            exact z_iret X ZF dX4_copy_100 (by first | (simp [cor, cof, cok, hq7, hq10, hq11, hq14]; done) | (simp [cor, cof, cok, hq7, hq10, hq11, hq14]; decide)) (by first | rw [e18, e17] | (simp only [e18, e17]))
      ·
        exact absurd rfl hq10
    ·
      have hq19 : (decide ((leF 3) = (-1))) = true := by simpa using hq8
      exact absurd (hq6.symm.trans hq19) (by decide)
abbrev rX4_copy_x : Room := { frames := 1, cells := 0, slots := 0, locals := 21 }
set_option maxHeartbeats 4000000 in
set_option maxRecDepth 100000 in
theorem c_X4_copy_x (l : Launch) (g : zg) (a : Nat → Nat) (ft : Int32) (tr : Int32) (k : Int32) (i : Int32) (o : Int32) (j : Int32) (n : Int32) (hx : zin k 4 = false) (hy : zin o 4 = false) : zM l g yX4_copy wsX4_copy rX4_copy_x [.ref (a 0), .int k, .int i, .int o, .int j, .int n] (wO g a ft tr ++ (wH g a)) (some (.int (-1))) (wO g a (nI 0) tr ++ (wH g a)) := by
  refine z_met (own := RX4) (cc := cX4_copy) (maxL := 8) (ret := some .int) (by decide +kernel) rfl rfl (Nat.le_of_ble_eq_true rfl) ?_
  intro M X ZF
  refine z_Le (L' := [(0, .ref (a 0)), (1, .int k), (2, .int i), (3, .int o), (4, .int j), (5, .int n)]) rfl ?_
  have i_RX4 : ∀ w ∈ wsX40, w ∈ wsX4_copy := by decide +kernel
  have f_32 : Cond.fieldLink RX4 32 (TX4 3).1 (TX4 3).2.1 (TX4 3).2.2.1 ∈ wsX4_copy := by decide +kernel
  refine z_aload_n X dX4_copy_0 rfl 0 rfl ?_
  refine z_iconst (v := nI 0) X dX4_copy_1 (by decide) ?_
  refine z_put (ws' := (wO g a (nI 0) tr ++ (wH g a))) (N := 5) X i_RX4 (ci := 3) rfl tyX4 tyX4_ok nmX4 0 rfl 3 (by decide) f_32 rfl (ty := .int) (by decide +kernel) rfl rfl (Nat.le_of_ble_eq_true rfl) dX4_copy_2 rfl ?_
  refine z_aload_n X dX4_copy_5 rfl 0 rfl ?_
  refine z_iload_n X dX4_copy_6 rfl 1 rfl ?_
  refine z_callV X (c_X4_sheetAt_out l g a (nI 0) tr k (by first | assumption | omega)) gX4_copy_X4_sheetAt rfl ⟨rfl, rfl⟩ (by decide +kernel) ⟨Nat.le_of_ble_eq_true rfl, Nat.le_of_ble_eq_true rfl⟩ ZF.room (ci := 3) rfl 0 rfl (isC := [0, 1]) (by decide) rfl rfl (ws' := (wO g a (nI 0) tr ++ (wH g a))) rfl (As := [.int k]) (n := 1) rfl rfl (st1 := [.null]) rfl (Nat.le_of_ble_eq_true rfl) dX4_copy_7 ?_
  refine z_astoreN (L' := [(6, .null), (0, .ref (a 0)), (1, .int k), (2, .int i), (3, .int o), (4, .int j), (5, .int n)]) X dX4_copy_10 (by decide) rfl ?_
  refine z_aload_n X dX4_copy_12 rfl 1 rfl ?_
  refine z_iload_n X dX4_copy_13 rfl 4 rfl ?_
  refine z_callV X (c_X4_sheetAt_out l g a (nI 0) tr o (by first | assumption | omega)) gX4_copy_X4_sheetAt rfl ⟨rfl, rfl⟩ (by decide +kernel) ⟨Nat.le_of_ble_eq_true rfl, Nat.le_of_ble_eq_true rfl⟩ ZF.room (ci := 3) rfl 0 rfl (isC := [0, 1]) (by decide) rfl rfl (ws' := (wO g a (nI 0) tr ++ (wH g a))) rfl (As := [.int o]) (n := 1) rfl rfl (st1 := [.null]) rfl (Nat.le_of_ble_eq_true rfl) dX4_copy_14 ?_
  refine z_astoreN (L' := [(7, .null), (6, .null), (0, .ref (a 0)), (1, .int k), (2, .int i), (3, .int o), (4, .int j), (5, .int n)]) X dX4_copy_17 (by decide) rfl ?_
  refine z_aloadN X dX4_copy_19 1 rfl ?_
  refine z_ifnullN (tgt := 29) X dX4_copy_21 (by decide) ?_
  refine z_iconst (v := (-1)) X dX4_copy_29 (by decide) ?_
  exact z_iret X ZF dX4_copy_30 rfl rfl
abbrev rX4_copy_x0 : Room := { frames := 1, cells := 0, slots := 0, locals := 21 }
set_option maxHeartbeats 4000000 in
set_option maxRecDepth 100000 in
theorem c_X4_copy_x0 (l : Launch) (g : zg) (a : Nat → Nat) (ft : Int32) (tr : Int32) (lnF : Nat → Int32) (leF : Nat → Int32) (ceF : Nat → Nat → Int32) (k : Int32) (i : Int32) (j : Int32) (n : Int32) (hx : zin k 4 = false) : zM l g yX4_copy wsX4_copy rX4_copy_x0 [.ref (a 0), .int k, .int i, .int (nI 0), .int j, .int n] (wO g a ft tr ++ (wH g a ++ (wS g (a 13) (a 14) (lnF 0) (leF 0) (ceF 0)))) (some (.int (-1))) (wO g a (nI 0) tr ++ (wH g a ++ (wS g (a 13) (a 14) (lnF 0) (leF 0) (ceF 0)))) := by
  refine z_met (own := RX4) (cc := cX4_copy) (maxL := 8) (ret := some .int) (by decide +kernel) rfl rfl (Nat.le_of_ble_eq_true rfl) ?_
  intro M X ZF
  refine z_Le (L' := [(0, .ref (a 0)), (1, .int k), (2, .int i), (3, .int (nI 0)), (4, .int j), (5, .int n)]) rfl ?_
  have i_RX4 : ∀ w ∈ wsX40, w ∈ wsX4_copy := by decide +kernel
  have f_32 : Cond.fieldLink RX4 32 (TX4 3).1 (TX4 3).2.1 (TX4 3).2.2.1 ∈ wsX4_copy := by decide +kernel
  refine z_aload_n X dX4_copy_0 rfl 0 rfl ?_
  refine z_iconst (v := nI 0) X dX4_copy_1 (by decide) ?_
  refine z_put (ws' := (wO g a (nI 0) tr ++ (wH g a ++ (wS g (a 13) (a 14) (lnF 0) (leF 0) (ceF 0))))) (N := 5) X i_RX4 (ci := 3) rfl tyX4 tyX4_ok nmX4 0 rfl 3 (by decide) f_32 rfl (ty := .int) (by decide +kernel) rfl rfl (Nat.le_of_ble_eq_true rfl) dX4_copy_2 rfl ?_
  refine z_aload_n X dX4_copy_5 rfl 0 rfl ?_
  refine z_iload_n X dX4_copy_6 rfl 1 rfl ?_
  refine z_callV X (c_X4_sheetAt_out l g a (nI 0) tr k (by first | assumption | omega)) gX4_copy_X4_sheetAt rfl ⟨rfl, rfl⟩ (by decide +kernel) ⟨Nat.le_of_ble_eq_true rfl, Nat.le_of_ble_eq_true rfl⟩ ZF.room (ci := 3) rfl 0 rfl (isC := [0, 1]) (by decide) rfl rfl (ws' := (wO g a (nI 0) tr ++ (wH g a ++ (wS g (a 13) (a 14) (lnF 0) (leF 0) (ceF 0))))) rfl (As := [.int k]) (n := 1) rfl rfl (st1 := [.null]) rfl (Nat.le_of_ble_eq_true rfl) dX4_copy_7 ?_
  refine z_astoreN (L' := [(6, .null), (0, .ref (a 0)), (1, .int k), (2, .int i), (3, .int (nI 0)), (4, .int j), (5, .int n)]) X dX4_copy_10 (by decide) rfl ?_
  refine z_aload_n X dX4_copy_12 rfl 1 rfl ?_
  refine z_iload_n X dX4_copy_13 rfl 4 rfl ?_
  refine z_callV X (c_X4_sheetAt_in l g a (nI 0) tr 0 (by omega)) gX4_copy_X4_sheetAt rfl ⟨rfl, rfl⟩ (by decide +kernel) ⟨Nat.le_of_ble_eq_true rfl, Nat.le_of_ble_eq_true rfl⟩ ZF.room (ci := 3) rfl 0 rfl (isC := [0, 1]) (by decide) rfl rfl (ws' := (wO g a (nI 0) tr ++ (wH g a ++ (wS g (a 13) (a 14) (lnF 0) (leF 0) (ceF 0))))) rfl (As := [.int (nI 0)]) (n := 1) rfl rfl (st1 := [.ref (a 13)]) rfl (Nat.le_of_ble_eq_true rfl) dX4_copy_14 ?_
  refine z_astore (L' := [(7, .ref (a 13)), (6, .null), (0, .ref (a 0)), (1, .int k), (2, .int i), (3, .int (nI 0)), (4, .int j), (5, .int n)]) X dX4_copy_17 (by decide) rfl ?_
  refine z_aloadN X dX4_copy_19 1 rfl ?_
  refine z_ifnullN (tgt := 29) X dX4_copy_21 (by decide) ?_
  refine z_iconst (v := (-1)) X dX4_copy_29 (by decide) ?_
  exact z_iret X ZF dX4_copy_30 rfl rfl
abbrev rX4_copy_x1 : Room := { frames := 1, cells := 0, slots := 0, locals := 21 }
set_option maxHeartbeats 4000000 in
set_option maxRecDepth 100000 in
theorem c_X4_copy_x1 (l : Launch) (g : zg) (a : Nat → Nat) (ft : Int32) (tr : Int32) (lnF : Nat → Int32) (leF : Nat → Int32) (ceF : Nat → Nat → Int32) (k : Int32) (i : Int32) (j : Int32) (n : Int32) (hx : zin k 4 = false) : zM l g yX4_copy wsX4_copy rX4_copy_x1 [.ref (a 0), .int k, .int i, .int (nI 1), .int j, .int n] (wO g a ft tr ++ (wH g a ++ (wS g (a 15) (a 16) (lnF 1) (leF 1) (ceF 1)))) (some (.int (-1))) (wO g a (nI 0) tr ++ (wH g a ++ (wS g (a 15) (a 16) (lnF 1) (leF 1) (ceF 1)))) := by
  refine z_met (own := RX4) (cc := cX4_copy) (maxL := 8) (ret := some .int) (by decide +kernel) rfl rfl (Nat.le_of_ble_eq_true rfl) ?_
  intro M X ZF
  refine z_Le (L' := [(0, .ref (a 0)), (1, .int k), (2, .int i), (3, .int (nI 1)), (4, .int j), (5, .int n)]) rfl ?_
  have i_RX4 : ∀ w ∈ wsX40, w ∈ wsX4_copy := by decide +kernel
  have f_32 : Cond.fieldLink RX4 32 (TX4 3).1 (TX4 3).2.1 (TX4 3).2.2.1 ∈ wsX4_copy := by decide +kernel
  refine z_aload_n X dX4_copy_0 rfl 0 rfl ?_
  refine z_iconst (v := nI 0) X dX4_copy_1 (by decide) ?_
  refine z_put (ws' := (wO g a (nI 0) tr ++ (wH g a ++ (wS g (a 15) (a 16) (lnF 1) (leF 1) (ceF 1))))) (N := 5) X i_RX4 (ci := 3) rfl tyX4 tyX4_ok nmX4 0 rfl 3 (by decide) f_32 rfl (ty := .int) (by decide +kernel) rfl rfl (Nat.le_of_ble_eq_true rfl) dX4_copy_2 rfl ?_
  refine z_aload_n X dX4_copy_5 rfl 0 rfl ?_
  refine z_iload_n X dX4_copy_6 rfl 1 rfl ?_
  refine z_callV X (c_X4_sheetAt_out l g a (nI 0) tr k (by first | assumption | omega)) gX4_copy_X4_sheetAt rfl ⟨rfl, rfl⟩ (by decide +kernel) ⟨Nat.le_of_ble_eq_true rfl, Nat.le_of_ble_eq_true rfl⟩ ZF.room (ci := 3) rfl 0 rfl (isC := [0, 1]) (by decide) rfl rfl (ws' := (wO g a (nI 0) tr ++ (wH g a ++ (wS g (a 15) (a 16) (lnF 1) (leF 1) (ceF 1))))) rfl (As := [.int k]) (n := 1) rfl rfl (st1 := [.null]) rfl (Nat.le_of_ble_eq_true rfl) dX4_copy_7 ?_
  refine z_astoreN (L' := [(6, .null), (0, .ref (a 0)), (1, .int k), (2, .int i), (3, .int (nI 1)), (4, .int j), (5, .int n)]) X dX4_copy_10 (by decide) rfl ?_
  refine z_aload_n X dX4_copy_12 rfl 1 rfl ?_
  refine z_iload_n X dX4_copy_13 rfl 4 rfl ?_
  refine z_callV X (c_X4_sheetAt_in l g a (nI 0) tr 1 (by omega)) gX4_copy_X4_sheetAt rfl ⟨rfl, rfl⟩ (by decide +kernel) ⟨Nat.le_of_ble_eq_true rfl, Nat.le_of_ble_eq_true rfl⟩ ZF.room (ci := 3) rfl 0 rfl (isC := [0, 1]) (by decide) rfl rfl (ws' := (wO g a (nI 0) tr ++ (wH g a ++ (wS g (a 15) (a 16) (lnF 1) (leF 1) (ceF 1))))) rfl (As := [.int (nI 1)]) (n := 1) rfl rfl (st1 := [.ref (a 15)]) rfl (Nat.le_of_ble_eq_true rfl) dX4_copy_14 ?_
  refine z_astore (L' := [(7, .ref (a 15)), (6, .null), (0, .ref (a 0)), (1, .int k), (2, .int i), (3, .int (nI 1)), (4, .int j), (5, .int n)]) X dX4_copy_17 (by decide) rfl ?_
  refine z_aloadN X dX4_copy_19 1 rfl ?_
  refine z_ifnullN (tgt := 29) X dX4_copy_21 (by decide) ?_
  refine z_iconst (v := (-1)) X dX4_copy_29 (by decide) ?_
  exact z_iret X ZF dX4_copy_30 rfl rfl
abbrev rX4_copy_x2 : Room := { frames := 1, cells := 0, slots := 0, locals := 21 }
set_option maxHeartbeats 4000000 in
set_option maxRecDepth 100000 in
theorem c_X4_copy_x2 (l : Launch) (g : zg) (a : Nat → Nat) (ft : Int32) (tr : Int32) (lnF : Nat → Int32) (leF : Nat → Int32) (ceF : Nat → Nat → Int32) (k : Int32) (i : Int32) (j : Int32) (n : Int32) (hx : zin k 4 = false) : zM l g yX4_copy wsX4_copy rX4_copy_x2 [.ref (a 0), .int k, .int i, .int (nI 2), .int j, .int n] (wO g a ft tr ++ (wH g a ++ (wS g (a 17) (a 18) (lnF 2) (leF 2) (ceF 2)))) (some (.int (-1))) (wO g a (nI 0) tr ++ (wH g a ++ (wS g (a 17) (a 18) (lnF 2) (leF 2) (ceF 2)))) := by
  refine z_met (own := RX4) (cc := cX4_copy) (maxL := 8) (ret := some .int) (by decide +kernel) rfl rfl (Nat.le_of_ble_eq_true rfl) ?_
  intro M X ZF
  refine z_Le (L' := [(0, .ref (a 0)), (1, .int k), (2, .int i), (3, .int (nI 2)), (4, .int j), (5, .int n)]) rfl ?_
  have i_RX4 : ∀ w ∈ wsX40, w ∈ wsX4_copy := by decide +kernel
  have f_32 : Cond.fieldLink RX4 32 (TX4 3).1 (TX4 3).2.1 (TX4 3).2.2.1 ∈ wsX4_copy := by decide +kernel
  refine z_aload_n X dX4_copy_0 rfl 0 rfl ?_
  refine z_iconst (v := nI 0) X dX4_copy_1 (by decide) ?_
  refine z_put (ws' := (wO g a (nI 0) tr ++ (wH g a ++ (wS g (a 17) (a 18) (lnF 2) (leF 2) (ceF 2))))) (N := 5) X i_RX4 (ci := 3) rfl tyX4 tyX4_ok nmX4 0 rfl 3 (by decide) f_32 rfl (ty := .int) (by decide +kernel) rfl rfl (Nat.le_of_ble_eq_true rfl) dX4_copy_2 rfl ?_
  refine z_aload_n X dX4_copy_5 rfl 0 rfl ?_
  refine z_iload_n X dX4_copy_6 rfl 1 rfl ?_
  refine z_callV X (c_X4_sheetAt_out l g a (nI 0) tr k (by first | assumption | omega)) gX4_copy_X4_sheetAt rfl ⟨rfl, rfl⟩ (by decide +kernel) ⟨Nat.le_of_ble_eq_true rfl, Nat.le_of_ble_eq_true rfl⟩ ZF.room (ci := 3) rfl 0 rfl (isC := [0, 1]) (by decide) rfl rfl (ws' := (wO g a (nI 0) tr ++ (wH g a ++ (wS g (a 17) (a 18) (lnF 2) (leF 2) (ceF 2))))) rfl (As := [.int k]) (n := 1) rfl rfl (st1 := [.null]) rfl (Nat.le_of_ble_eq_true rfl) dX4_copy_7 ?_
  refine z_astoreN (L' := [(6, .null), (0, .ref (a 0)), (1, .int k), (2, .int i), (3, .int (nI 2)), (4, .int j), (5, .int n)]) X dX4_copy_10 (by decide) rfl ?_
  refine z_aload_n X dX4_copy_12 rfl 1 rfl ?_
  refine z_iload_n X dX4_copy_13 rfl 4 rfl ?_
  refine z_callV X (c_X4_sheetAt_in l g a (nI 0) tr 2 (by omega)) gX4_copy_X4_sheetAt rfl ⟨rfl, rfl⟩ (by decide +kernel) ⟨Nat.le_of_ble_eq_true rfl, Nat.le_of_ble_eq_true rfl⟩ ZF.room (ci := 3) rfl 0 rfl (isC := [0, 1]) (by decide) rfl rfl (ws' := (wO g a (nI 0) tr ++ (wH g a ++ (wS g (a 17) (a 18) (lnF 2) (leF 2) (ceF 2))))) rfl (As := [.int (nI 2)]) (n := 1) rfl rfl (st1 := [.ref (a 17)]) rfl (Nat.le_of_ble_eq_true rfl) dX4_copy_14 ?_
  refine z_astore (L' := [(7, .ref (a 17)), (6, .null), (0, .ref (a 0)), (1, .int k), (2, .int i), (3, .int (nI 2)), (4, .int j), (5, .int n)]) X dX4_copy_17 (by decide) rfl ?_
  refine z_aloadN X dX4_copy_19 1 rfl ?_
  refine z_ifnullN (tgt := 29) X dX4_copy_21 (by decide) ?_
  refine z_iconst (v := (-1)) X dX4_copy_29 (by decide) ?_
  exact z_iret X ZF dX4_copy_30 rfl rfl
abbrev rX4_copy_x3 : Room := { frames := 1, cells := 0, slots := 0, locals := 21 }
set_option maxHeartbeats 4000000 in
set_option maxRecDepth 100000 in
theorem c_X4_copy_x3 (l : Launch) (g : zg) (a : Nat → Nat) (ft : Int32) (tr : Int32) (lnF : Nat → Int32) (leF : Nat → Int32) (ceF : Nat → Nat → Int32) (k : Int32) (i : Int32) (j : Int32) (n : Int32) (hx : zin k 4 = false) : zM l g yX4_copy wsX4_copy rX4_copy_x3 [.ref (a 0), .int k, .int i, .int (nI 3), .int j, .int n] (wO g a ft tr ++ (wH g a ++ (wS g (a 19) (a 20) (lnF 3) (leF 3) (ceF 3)))) (some (.int (-1))) (wO g a (nI 0) tr ++ (wH g a ++ (wS g (a 19) (a 20) (lnF 3) (leF 3) (ceF 3)))) := by
  refine z_met (own := RX4) (cc := cX4_copy) (maxL := 8) (ret := some .int) (by decide +kernel) rfl rfl (Nat.le_of_ble_eq_true rfl) ?_
  intro M X ZF
  refine z_Le (L' := [(0, .ref (a 0)), (1, .int k), (2, .int i), (3, .int (nI 3)), (4, .int j), (5, .int n)]) rfl ?_
  have i_RX4 : ∀ w ∈ wsX40, w ∈ wsX4_copy := by decide +kernel
  have f_32 : Cond.fieldLink RX4 32 (TX4 3).1 (TX4 3).2.1 (TX4 3).2.2.1 ∈ wsX4_copy := by decide +kernel
  refine z_aload_n X dX4_copy_0 rfl 0 rfl ?_
  refine z_iconst (v := nI 0) X dX4_copy_1 (by decide) ?_
  refine z_put (ws' := (wO g a (nI 0) tr ++ (wH g a ++ (wS g (a 19) (a 20) (lnF 3) (leF 3) (ceF 3))))) (N := 5) X i_RX4 (ci := 3) rfl tyX4 tyX4_ok nmX4 0 rfl 3 (by decide) f_32 rfl (ty := .int) (by decide +kernel) rfl rfl (Nat.le_of_ble_eq_true rfl) dX4_copy_2 rfl ?_
  refine z_aload_n X dX4_copy_5 rfl 0 rfl ?_
  refine z_iload_n X dX4_copy_6 rfl 1 rfl ?_
  refine z_callV X (c_X4_sheetAt_out l g a (nI 0) tr k (by first | assumption | omega)) gX4_copy_X4_sheetAt rfl ⟨rfl, rfl⟩ (by decide +kernel) ⟨Nat.le_of_ble_eq_true rfl, Nat.le_of_ble_eq_true rfl⟩ ZF.room (ci := 3) rfl 0 rfl (isC := [0, 1]) (by decide) rfl rfl (ws' := (wO g a (nI 0) tr ++ (wH g a ++ (wS g (a 19) (a 20) (lnF 3) (leF 3) (ceF 3))))) rfl (As := [.int k]) (n := 1) rfl rfl (st1 := [.null]) rfl (Nat.le_of_ble_eq_true rfl) dX4_copy_7 ?_
  refine z_astoreN (L' := [(6, .null), (0, .ref (a 0)), (1, .int k), (2, .int i), (3, .int (nI 3)), (4, .int j), (5, .int n)]) X dX4_copy_10 (by decide) rfl ?_
  refine z_aload_n X dX4_copy_12 rfl 1 rfl ?_
  refine z_iload_n X dX4_copy_13 rfl 4 rfl ?_
  refine z_callV X (c_X4_sheetAt_in l g a (nI 0) tr 3 (by omega)) gX4_copy_X4_sheetAt rfl ⟨rfl, rfl⟩ (by decide +kernel) ⟨Nat.le_of_ble_eq_true rfl, Nat.le_of_ble_eq_true rfl⟩ ZF.room (ci := 3) rfl 0 rfl (isC := [0, 1]) (by decide) rfl rfl (ws' := (wO g a (nI 0) tr ++ (wH g a ++ (wS g (a 19) (a 20) (lnF 3) (leF 3) (ceF 3))))) rfl (As := [.int (nI 3)]) (n := 1) rfl rfl (st1 := [.ref (a 19)]) rfl (Nat.le_of_ble_eq_true rfl) dX4_copy_14 ?_
  refine z_astore (L' := [(7, .ref (a 19)), (6, .null), (0, .ref (a 0)), (1, .int k), (2, .int i), (3, .int (nI 3)), (4, .int j), (5, .int n)]) X dX4_copy_17 (by decide) rfl ?_
  refine z_aloadN X dX4_copy_19 1 rfl ?_
  refine z_ifnullN (tgt := 29) X dX4_copy_21 (by decide) ?_
  refine z_iconst (v := (-1)) X dX4_copy_29 (by decide) ?_
  exact z_iret X ZF dX4_copy_30 rfl rfl
abbrev rX4_copy_0x : Room := { frames := 1, cells := 0, slots := 0, locals := 21 }
set_option maxHeartbeats 4000000 in
set_option maxRecDepth 100000 in
theorem c_X4_copy_0x (l : Launch) (g : zg) (a : Nat → Nat) (ft : Int32) (tr : Int32) (lnF : Nat → Int32) (leF : Nat → Int32) (ceF : Nat → Nat → Int32) (i : Int32) (o : Int32) (j : Int32) (n : Int32) (hx : zin o 4 = false) : zM l g yX4_copy wsX4_copy rX4_copy_0x [.ref (a 0), .int (nI 0), .int i, .int o, .int j, .int n] (wO g a ft tr ++ (wH g a ++ (wS g (a 13) (a 14) (lnF 0) (leF 0) (ceF 0)))) (some (.int (-1))) (wO g a (nI 0) tr ++ (wH g a ++ (wS g (a 13) (a 14) (lnF 0) (leF 0) (ceF 0)))) := by
  refine z_met (own := RX4) (cc := cX4_copy) (maxL := 8) (ret := some .int) (by decide +kernel) rfl rfl (Nat.le_of_ble_eq_true rfl) ?_
  intro M X ZF
  refine z_Le (L' := [(0, .ref (a 0)), (1, .int (nI 0)), (2, .int i), (3, .int o), (4, .int j), (5, .int n)]) rfl ?_
  have i_RX4 : ∀ w ∈ wsX40, w ∈ wsX4_copy := by decide +kernel
  have f_32 : Cond.fieldLink RX4 32 (TX4 3).1 (TX4 3).2.1 (TX4 3).2.2.1 ∈ wsX4_copy := by decide +kernel
  refine z_aload_n X dX4_copy_0 rfl 0 rfl ?_
  refine z_iconst (v := nI 0) X dX4_copy_1 (by decide) ?_
  refine z_put (ws' := (wO g a (nI 0) tr ++ (wH g a ++ (wS g (a 13) (a 14) (lnF 0) (leF 0) (ceF 0))))) (N := 5) X i_RX4 (ci := 3) rfl tyX4 tyX4_ok nmX4 0 rfl 3 (by decide) f_32 rfl (ty := .int) (by decide +kernel) rfl rfl (Nat.le_of_ble_eq_true rfl) dX4_copy_2 rfl ?_
  refine z_aload_n X dX4_copy_5 rfl 0 rfl ?_
  refine z_iload_n X dX4_copy_6 rfl 1 rfl ?_
  refine z_callV X (c_X4_sheetAt_in l g a (nI 0) tr 0 (by omega)) gX4_copy_X4_sheetAt rfl ⟨rfl, rfl⟩ (by decide +kernel) ⟨Nat.le_of_ble_eq_true rfl, Nat.le_of_ble_eq_true rfl⟩ ZF.room (ci := 3) rfl 0 rfl (isC := [0, 1]) (by decide) rfl rfl (ws' := (wO g a (nI 0) tr ++ (wH g a ++ (wS g (a 13) (a 14) (lnF 0) (leF 0) (ceF 0))))) rfl (As := [.int (nI 0)]) (n := 1) rfl rfl (st1 := [.ref (a 13)]) rfl (Nat.le_of_ble_eq_true rfl) dX4_copy_7 ?_
  refine z_astore (L' := [(6, .ref (a 13)), (0, .ref (a 0)), (1, .int (nI 0)), (2, .int i), (3, .int o), (4, .int j), (5, .int n)]) X dX4_copy_10 (by decide) rfl ?_
  refine z_aload_n X dX4_copy_12 rfl 1 rfl ?_
  refine z_iload_n X dX4_copy_13 rfl 4 rfl ?_
  refine z_callV X (c_X4_sheetAt_out l g a (nI 0) tr o (by first | assumption | omega)) gX4_copy_X4_sheetAt rfl ⟨rfl, rfl⟩ (by decide +kernel) ⟨Nat.le_of_ble_eq_true rfl, Nat.le_of_ble_eq_true rfl⟩ ZF.room (ci := 3) rfl 0 rfl (isC := [0, 1]) (by decide) rfl rfl (ws' := (wO g a (nI 0) tr ++ (wH g a ++ (wS g (a 13) (a 14) (lnF 0) (leF 0) (ceF 0))))) rfl (As := [.int o]) (n := 1) rfl rfl (st1 := [.null]) rfl (Nat.le_of_ble_eq_true rfl) dX4_copy_14 ?_
  refine z_astoreN (L' := [(7, .null), (6, .ref (a 13)), (0, .ref (a 0)), (1, .int (nI 0)), (2, .int i), (3, .int o), (4, .int j), (5, .int n)]) X dX4_copy_17 (by decide) rfl ?_
  refine z_aload X dX4_copy_19 1 rfl ?_
  refine z_ifnull X dX4_copy_21 ?_
  refine z_aloadN X dX4_copy_24 0 rfl ?_
  refine z_ifnonnullN X dX4_copy_26 ?_
  refine z_iconst (v := (-1)) X dX4_copy_29 (by decide) ?_
  exact z_iret X ZF dX4_copy_30 rfl rfl
abbrev rX4_copy_1x : Room := { frames := 1, cells := 0, slots := 0, locals := 21 }
set_option maxHeartbeats 4000000 in
set_option maxRecDepth 100000 in
theorem c_X4_copy_1x (l : Launch) (g : zg) (a : Nat → Nat) (ft : Int32) (tr : Int32) (lnF : Nat → Int32) (leF : Nat → Int32) (ceF : Nat → Nat → Int32) (i : Int32) (o : Int32) (j : Int32) (n : Int32) (hx : zin o 4 = false) : zM l g yX4_copy wsX4_copy rX4_copy_1x [.ref (a 0), .int (nI 1), .int i, .int o, .int j, .int n] (wO g a ft tr ++ (wH g a ++ (wS g (a 15) (a 16) (lnF 1) (leF 1) (ceF 1)))) (some (.int (-1))) (wO g a (nI 0) tr ++ (wH g a ++ (wS g (a 15) (a 16) (lnF 1) (leF 1) (ceF 1)))) := by
  refine z_met (own := RX4) (cc := cX4_copy) (maxL := 8) (ret := some .int) (by decide +kernel) rfl rfl (Nat.le_of_ble_eq_true rfl) ?_
  intro M X ZF
  refine z_Le (L' := [(0, .ref (a 0)), (1, .int (nI 1)), (2, .int i), (3, .int o), (4, .int j), (5, .int n)]) rfl ?_
  have i_RX4 : ∀ w ∈ wsX40, w ∈ wsX4_copy := by decide +kernel
  have f_32 : Cond.fieldLink RX4 32 (TX4 3).1 (TX4 3).2.1 (TX4 3).2.2.1 ∈ wsX4_copy := by decide +kernel
  refine z_aload_n X dX4_copy_0 rfl 0 rfl ?_
  refine z_iconst (v := nI 0) X dX4_copy_1 (by decide) ?_
  refine z_put (ws' := (wO g a (nI 0) tr ++ (wH g a ++ (wS g (a 15) (a 16) (lnF 1) (leF 1) (ceF 1))))) (N := 5) X i_RX4 (ci := 3) rfl tyX4 tyX4_ok nmX4 0 rfl 3 (by decide) f_32 rfl (ty := .int) (by decide +kernel) rfl rfl (Nat.le_of_ble_eq_true rfl) dX4_copy_2 rfl ?_
  refine z_aload_n X dX4_copy_5 rfl 0 rfl ?_
  refine z_iload_n X dX4_copy_6 rfl 1 rfl ?_
  refine z_callV X (c_X4_sheetAt_in l g a (nI 0) tr 1 (by omega)) gX4_copy_X4_sheetAt rfl ⟨rfl, rfl⟩ (by decide +kernel) ⟨Nat.le_of_ble_eq_true rfl, Nat.le_of_ble_eq_true rfl⟩ ZF.room (ci := 3) rfl 0 rfl (isC := [0, 1]) (by decide) rfl rfl (ws' := (wO g a (nI 0) tr ++ (wH g a ++ (wS g (a 15) (a 16) (lnF 1) (leF 1) (ceF 1))))) rfl (As := [.int (nI 1)]) (n := 1) rfl rfl (st1 := [.ref (a 15)]) rfl (Nat.le_of_ble_eq_true rfl) dX4_copy_7 ?_
  refine z_astore (L' := [(6, .ref (a 15)), (0, .ref (a 0)), (1, .int (nI 1)), (2, .int i), (3, .int o), (4, .int j), (5, .int n)]) X dX4_copy_10 (by decide) rfl ?_
  refine z_aload_n X dX4_copy_12 rfl 1 rfl ?_
  refine z_iload_n X dX4_copy_13 rfl 4 rfl ?_
  refine z_callV X (c_X4_sheetAt_out l g a (nI 0) tr o (by first | assumption | omega)) gX4_copy_X4_sheetAt rfl ⟨rfl, rfl⟩ (by decide +kernel) ⟨Nat.le_of_ble_eq_true rfl, Nat.le_of_ble_eq_true rfl⟩ ZF.room (ci := 3) rfl 0 rfl (isC := [0, 1]) (by decide) rfl rfl (ws' := (wO g a (nI 0) tr ++ (wH g a ++ (wS g (a 15) (a 16) (lnF 1) (leF 1) (ceF 1))))) rfl (As := [.int o]) (n := 1) rfl rfl (st1 := [.null]) rfl (Nat.le_of_ble_eq_true rfl) dX4_copy_14 ?_
  refine z_astoreN (L' := [(7, .null), (6, .ref (a 15)), (0, .ref (a 0)), (1, .int (nI 1)), (2, .int i), (3, .int o), (4, .int j), (5, .int n)]) X dX4_copy_17 (by decide) rfl ?_
  refine z_aload X dX4_copy_19 1 rfl ?_
  refine z_ifnull X dX4_copy_21 ?_
  refine z_aloadN X dX4_copy_24 0 rfl ?_
  refine z_ifnonnullN X dX4_copy_26 ?_
  refine z_iconst (v := (-1)) X dX4_copy_29 (by decide) ?_
  exact z_iret X ZF dX4_copy_30 rfl rfl
abbrev rX4_copy_2x : Room := { frames := 1, cells := 0, slots := 0, locals := 21 }
set_option maxHeartbeats 4000000 in
set_option maxRecDepth 100000 in
theorem c_X4_copy_2x (l : Launch) (g : zg) (a : Nat → Nat) (ft : Int32) (tr : Int32) (lnF : Nat → Int32) (leF : Nat → Int32) (ceF : Nat → Nat → Int32) (i : Int32) (o : Int32) (j : Int32) (n : Int32) (hx : zin o 4 = false) : zM l g yX4_copy wsX4_copy rX4_copy_2x [.ref (a 0), .int (nI 2), .int i, .int o, .int j, .int n] (wO g a ft tr ++ (wH g a ++ (wS g (a 17) (a 18) (lnF 2) (leF 2) (ceF 2)))) (some (.int (-1))) (wO g a (nI 0) tr ++ (wH g a ++ (wS g (a 17) (a 18) (lnF 2) (leF 2) (ceF 2)))) := by
  refine z_met (own := RX4) (cc := cX4_copy) (maxL := 8) (ret := some .int) (by decide +kernel) rfl rfl (Nat.le_of_ble_eq_true rfl) ?_
  intro M X ZF
  refine z_Le (L' := [(0, .ref (a 0)), (1, .int (nI 2)), (2, .int i), (3, .int o), (4, .int j), (5, .int n)]) rfl ?_
  have i_RX4 : ∀ w ∈ wsX40, w ∈ wsX4_copy := by decide +kernel
  have f_32 : Cond.fieldLink RX4 32 (TX4 3).1 (TX4 3).2.1 (TX4 3).2.2.1 ∈ wsX4_copy := by decide +kernel
  refine z_aload_n X dX4_copy_0 rfl 0 rfl ?_
  refine z_iconst (v := nI 0) X dX4_copy_1 (by decide) ?_
  refine z_put (ws' := (wO g a (nI 0) tr ++ (wH g a ++ (wS g (a 17) (a 18) (lnF 2) (leF 2) (ceF 2))))) (N := 5) X i_RX4 (ci := 3) rfl tyX4 tyX4_ok nmX4 0 rfl 3 (by decide) f_32 rfl (ty := .int) (by decide +kernel) rfl rfl (Nat.le_of_ble_eq_true rfl) dX4_copy_2 rfl ?_
  refine z_aload_n X dX4_copy_5 rfl 0 rfl ?_
  refine z_iload_n X dX4_copy_6 rfl 1 rfl ?_
  refine z_callV X (c_X4_sheetAt_in l g a (nI 0) tr 2 (by omega)) gX4_copy_X4_sheetAt rfl ⟨rfl, rfl⟩ (by decide +kernel) ⟨Nat.le_of_ble_eq_true rfl, Nat.le_of_ble_eq_true rfl⟩ ZF.room (ci := 3) rfl 0 rfl (isC := [0, 1]) (by decide) rfl rfl (ws' := (wO g a (nI 0) tr ++ (wH g a ++ (wS g (a 17) (a 18) (lnF 2) (leF 2) (ceF 2))))) rfl (As := [.int (nI 2)]) (n := 1) rfl rfl (st1 := [.ref (a 17)]) rfl (Nat.le_of_ble_eq_true rfl) dX4_copy_7 ?_
  refine z_astore (L' := [(6, .ref (a 17)), (0, .ref (a 0)), (1, .int (nI 2)), (2, .int i), (3, .int o), (4, .int j), (5, .int n)]) X dX4_copy_10 (by decide) rfl ?_
  refine z_aload_n X dX4_copy_12 rfl 1 rfl ?_
  refine z_iload_n X dX4_copy_13 rfl 4 rfl ?_
  refine z_callV X (c_X4_sheetAt_out l g a (nI 0) tr o (by first | assumption | omega)) gX4_copy_X4_sheetAt rfl ⟨rfl, rfl⟩ (by decide +kernel) ⟨Nat.le_of_ble_eq_true rfl, Nat.le_of_ble_eq_true rfl⟩ ZF.room (ci := 3) rfl 0 rfl (isC := [0, 1]) (by decide) rfl rfl (ws' := (wO g a (nI 0) tr ++ (wH g a ++ (wS g (a 17) (a 18) (lnF 2) (leF 2) (ceF 2))))) rfl (As := [.int o]) (n := 1) rfl rfl (st1 := [.null]) rfl (Nat.le_of_ble_eq_true rfl) dX4_copy_14 ?_
  refine z_astoreN (L' := [(7, .null), (6, .ref (a 17)), (0, .ref (a 0)), (1, .int (nI 2)), (2, .int i), (3, .int o), (4, .int j), (5, .int n)]) X dX4_copy_17 (by decide) rfl ?_
  refine z_aload X dX4_copy_19 1 rfl ?_
  refine z_ifnull X dX4_copy_21 ?_
  refine z_aloadN X dX4_copy_24 0 rfl ?_
  refine z_ifnonnullN X dX4_copy_26 ?_
  refine z_iconst (v := (-1)) X dX4_copy_29 (by decide) ?_
  exact z_iret X ZF dX4_copy_30 rfl rfl
abbrev rX4_copy_3x : Room := { frames := 1, cells := 0, slots := 0, locals := 21 }
set_option maxHeartbeats 4000000 in
set_option maxRecDepth 100000 in
theorem c_X4_copy_3x (l : Launch) (g : zg) (a : Nat → Nat) (ft : Int32) (tr : Int32) (lnF : Nat → Int32) (leF : Nat → Int32) (ceF : Nat → Nat → Int32) (i : Int32) (o : Int32) (j : Int32) (n : Int32) (hx : zin o 4 = false) : zM l g yX4_copy wsX4_copy rX4_copy_3x [.ref (a 0), .int (nI 3), .int i, .int o, .int j, .int n] (wO g a ft tr ++ (wH g a ++ (wS g (a 19) (a 20) (lnF 3) (leF 3) (ceF 3)))) (some (.int (-1))) (wO g a (nI 0) tr ++ (wH g a ++ (wS g (a 19) (a 20) (lnF 3) (leF 3) (ceF 3)))) := by
  refine z_met (own := RX4) (cc := cX4_copy) (maxL := 8) (ret := some .int) (by decide +kernel) rfl rfl (Nat.le_of_ble_eq_true rfl) ?_
  intro M X ZF
  refine z_Le (L' := [(0, .ref (a 0)), (1, .int (nI 3)), (2, .int i), (3, .int o), (4, .int j), (5, .int n)]) rfl ?_
  have i_RX4 : ∀ w ∈ wsX40, w ∈ wsX4_copy := by decide +kernel
  have f_32 : Cond.fieldLink RX4 32 (TX4 3).1 (TX4 3).2.1 (TX4 3).2.2.1 ∈ wsX4_copy := by decide +kernel
  refine z_aload_n X dX4_copy_0 rfl 0 rfl ?_
  refine z_iconst (v := nI 0) X dX4_copy_1 (by decide) ?_
  refine z_put (ws' := (wO g a (nI 0) tr ++ (wH g a ++ (wS g (a 19) (a 20) (lnF 3) (leF 3) (ceF 3))))) (N := 5) X i_RX4 (ci := 3) rfl tyX4 tyX4_ok nmX4 0 rfl 3 (by decide) f_32 rfl (ty := .int) (by decide +kernel) rfl rfl (Nat.le_of_ble_eq_true rfl) dX4_copy_2 rfl ?_
  refine z_aload_n X dX4_copy_5 rfl 0 rfl ?_
  refine z_iload_n X dX4_copy_6 rfl 1 rfl ?_
  refine z_callV X (c_X4_sheetAt_in l g a (nI 0) tr 3 (by omega)) gX4_copy_X4_sheetAt rfl ⟨rfl, rfl⟩ (by decide +kernel) ⟨Nat.le_of_ble_eq_true rfl, Nat.le_of_ble_eq_true rfl⟩ ZF.room (ci := 3) rfl 0 rfl (isC := [0, 1]) (by decide) rfl rfl (ws' := (wO g a (nI 0) tr ++ (wH g a ++ (wS g (a 19) (a 20) (lnF 3) (leF 3) (ceF 3))))) rfl (As := [.int (nI 3)]) (n := 1) rfl rfl (st1 := [.ref (a 19)]) rfl (Nat.le_of_ble_eq_true rfl) dX4_copy_7 ?_
  refine z_astore (L' := [(6, .ref (a 19)), (0, .ref (a 0)), (1, .int (nI 3)), (2, .int i), (3, .int o), (4, .int j), (5, .int n)]) X dX4_copy_10 (by decide) rfl ?_
  refine z_aload_n X dX4_copy_12 rfl 1 rfl ?_
  refine z_iload_n X dX4_copy_13 rfl 4 rfl ?_
  refine z_callV X (c_X4_sheetAt_out l g a (nI 0) tr o (by first | assumption | omega)) gX4_copy_X4_sheetAt rfl ⟨rfl, rfl⟩ (by decide +kernel) ⟨Nat.le_of_ble_eq_true rfl, Nat.le_of_ble_eq_true rfl⟩ ZF.room (ci := 3) rfl 0 rfl (isC := [0, 1]) (by decide) rfl rfl (ws' := (wO g a (nI 0) tr ++ (wH g a ++ (wS g (a 19) (a 20) (lnF 3) (leF 3) (ceF 3))))) rfl (As := [.int o]) (n := 1) rfl rfl (st1 := [.null]) rfl (Nat.le_of_ble_eq_true rfl) dX4_copy_14 ?_
  refine z_astoreN (L' := [(7, .null), (6, .ref (a 19)), (0, .ref (a 0)), (1, .int (nI 3)), (2, .int i), (3, .int o), (4, .int j), (5, .int n)]) X dX4_copy_17 (by decide) rfl ?_
  refine z_aload X dX4_copy_19 1 rfl ?_
  refine z_ifnull X dX4_copy_21 ?_
  refine z_aloadN X dX4_copy_24 0 rfl ?_
  refine z_ifnonnullN X dX4_copy_26 ?_
  refine z_iconst (v := (-1)) X dX4_copy_29 (by decide) ?_
  exact z_iret X ZF dX4_copy_30 rfl rfl
