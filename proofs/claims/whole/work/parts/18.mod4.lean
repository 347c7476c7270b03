abbrev rX5_put : Room := { frames := 2, cells := 0, slots := 0, locals := 47 }
set_option maxHeartbeats 4000000 in
set_option maxRecDepth 100000 in
theorem c_X5_put (l : Launch) (g : zg) (b : Nat → Nat) (ft : Int32) (so : Int32) (D : Nat) (E : Nat) (tr : Int32) (C : Nat) (lk : Nat → Int32) (kd : Nat → Int32) (st : Nat → Int32) (sp : Nat → Int32) (nd : Nat → Int32) (rO : Nat → Int32) (rB : Nat → Int32) (rD : Nat → Int32) (rW : Nat → Int32) (sz : Nat → Int32) (sl : Nat → Int32) (sc : Nat → Int32) (sm : Int32) (xa : Nat) (xb : Int32) (xc : Nat) (xd : Nat) (y1 : Nat → Int32) (y2 : Nat → Int32) (y3 : Nat → Int32) (y4 : Nat → Int32) (y5 : Nat → Int32) (hn : Nat → Int32) (k : Int32) (i : Int32) (v : Int32) (hle : ∀ k_, k_ < 4 → vle (sz k_)) : zM l g yX5_put wsX5_put rX5_put [.ref (b 0), .int k, .int i, .int v] (wM g b ft so D E tr C lk kd st sp nd rO rB rD rW sz sl sc sm xa xb xc xd y1 y2 y3 y4 y5 hn) (some (.int (if zin k 4 then (if (foc (sl (tn k)) (sz (tn k)) (sl (tn k)) i (nI 1)) = 0 then nI 1 else (-10) - (foc (sl (tn k)) (sz (tn k)) (sl (tn k)) i (nI 1))) else -1))) (wM g b (if zin k 4 then (foc (sl (tn k)) (sz (tn k)) (sl (tn k)) i (nI 1)) else nI 0) so D E tr C lk kd st sp nd rO rB rD rW sz sl (if zin k 4 && decide ((foc (sl (tn k)) (sz (tn k)) (sl (tn k)) i (nI 1)) = 0) then upd sc (60 * tn k + tn i) (cut (sl (tn k)) v) else sc) sm xa xb xc xd y1 y2 y3 y4 y5 hn) := by
  refine z_met (own := RX5) (cc := cX5_put) (maxL := 4) (ret := some .int) (by decide +kernel) rfl rfl (Nat.le_of_ble_eq_true rfl) ?_
  intro M X ZF
  refine z_Le (L' := [(0, .ref (b 0)), (1, .int k), (2, .int i), (3, .int v)]) rfl ?_
  have i_RX5 : ∀ w ∈ wsX50, w ∈ wsX5_put := by decide +kernel
  have f_63 : Cond.fieldLink RX5 63 (TX5 26).1 (TX5 26).2.1 (TX5 26).2.2.1 ∈ wsX5_put := by decide +kernel
  have f_60 : Cond.fieldLink RX5 60 (TX5 25).1 (TX5 25).2.1 (TX5 25).2.2.1 ∈ wsX5_put := by decide +kernel
  refine z_iload_n X dX5_put_0 rfl 1 rfl ?_
  refine z_callS0 X (c_X5_noSheet l g k) gX5_put_X5_noSheet rfl ⟨rfl, rfl⟩ (by decide +kernel) ⟨Nat.le_of_ble_eq_true rfl, Nat.le_of_ble_eq_true rfl⟩ ZF.room (As := [.int k]) (n := 1) rfl rfl (st1 := [.int (bI (!zin k 4))]) rfl (Nat.le_of_ble_eq_true rfl) dX5_put_1 ?_
  refine z_if_eqB (tgt := 13) X dX5_put_4 (by decide) (fun hq1 => ?_) (fun hq1 => ?_)
  ·
    have hq2 : (zin k 4) = true := by simpa using hq1
    obtain ⟨jv3, hj3, ej3⟩ := zin_t (by omega) hq2
    subst ej3
    have hc3 : tn (nI jv3) = jv3 := nI_clamp (by omega)
    refine z_aload_n X dX5_put_13 rfl 0 rfl ?_
    refine z_iload_n X dX5_put_14 rfl 1 rfl ?_
    refine z_iload_n X dX5_put_15 rfl 2 rfl ?_
    refine z_callVM X (c_X5_noCell l g b ft so D E tr C lk kd st sp nd rO rB rD rW sz sl sc sm xa xb xc xd y1 y2 y3 y4 y5 hn jv3 i (by omega) (by first | assumption | omega)) gX5_put_X5_noCell rfl ⟨rfl, rfl⟩ (by decide +kernel) ⟨Nat.le_of_ble_eq_true rfl, Nat.le_of_ble_eq_true rfl⟩ ZF.room (ci := 4) rfl 0 rfl rfl (As := [.int (nI jv3), .int i]) (n := 2) rfl rfl (st1 := [.int (foc (sl jv3) (sz jv3) (sl jv3) i (nI 1))]) rfl (Nat.le_of_ble_eq_true rfl) dX5_put_16 ?_
    by_cases hfo : (foc (sl jv3) (sz jv3) (sl jv3) i (nI 1)) = 0
    ·
      refine z_top (y := nI 0) (hfo.trans nI_0.symm) ?_
      obtain ⟨i_a, ei_a, hin_a, m_a, hm_a, him_a⟩ := foc1 (hle _ (by omega)) hfo
      subst ei_a
      have hti_a : tn (nI i_a) = i_a := nI_clamp (by omega)
      refine z_if_leN (tgt := 33) X dX5_put_19 (by decide) (by omega) (fun hq4 => ?_) (fun hq4 => ?_)
      ·
        refine z_aload_n X dX5_put_33 rfl 0 rfl ?_
        refine z_get (v := .ref (b 17)) (N := 29) X i_RX5 (ci := 4) rfl 0 rfl 26 (by decide) f_63 rfl dX5_put_34 ?_
        refine z_bipush (v := nI 60) X dX5_put_37 (by decide) ?_
        refine z_iload_n X dX5_put_39 rfl 1 rfl ?_
        refine z_imul' (v := nI (60 * jv3)) X dX5_put_40 (pk_mul _ _) ?_
        refine z_iload_n X dX5_put_41 rfl 2 rfl ?_
        refine z_iadd' (v := nI ((60 * jv3) + i_a)) X dX5_put_42 (nI_add _ _) ?_
        refine z_aload_n X dX5_put_43 rfl 0 rfl ?_
        refine z_get (v := .ref (b 16)) (N := 29) X i_RX5 (ci := 4) rfl 0 rfl 25 (by decide) f_60 rfl dX5_put_44 ?_
        refine z_iload_n X dX5_put_47 rfl 1 rfl ?_
        refine z_ialdN X 16 rfl (by omega) (by omega) dX5_put_48 ?_
        refine z_if_ne (tgt := 57) X dX5_put_49 (by decide) (fun hq5 => ?_) (fun hq5 => ?_)
        ·
          refine z_aload_n X dX5_put_57 rfl 0 rfl ?_
          refine z_get (v := .ref (b 16)) (N := 29) X i_RX5 (ci := 4) rfl 0 rfl 25 (by decide) f_60 rfl dX5_put_58 ?_
          refine z_iload_n X dX5_put_61 rfl 1 rfl ?_
          refine z_ialdN X 16 rfl (by omega) (by omega) dX5_put_62 ?_
          refine z_iconst (v := nI 1) X dX5_put_63 (by decide) ?_
          refine z_icmp_ne (tgt := 72) X dX5_put_64 (by decide) (fun hq6 => ?_) (fun hq6 => ?_)
          ·
            refine z_iload_n X dX5_put_72 rfl 3 rfl ?_
            refine z_top (y := cut (sl jv3) v) (by first | exact cut_1 hq5 hq6 | exact cut_2 hq5 hq6) ?_
            refine z_iastN (ws' := (wM g b ft so D E tr C lk kd st sp nd rO rB rD rW sz sl (upd sc ((60 * jv3) + i_a) (cut (sl jv3) v)) sm xa xb xc xd y1 y2 y3 y4 y5 hn)) X 17 rfl (by omega) (by omega) dX5_put_73 rfl ?_
            refine z_aload_n X dX5_put_74 rfl 0 rfl ?_
            refine z_iconst (v := nI 1) X dX5_put_75 (by decide) ?_
            refine z_callVM X (c_X5_refused l g b ft so D E tr C lk kd st sp nd rO rB rD rW sz sl (upd sc ((60 * jv3) + i_a) (cut (sl jv3) v)) sm xa xb xc xd y1 y2 y3 y4 y5 hn (nI 1)) gX5_put_X5_refused rfl ⟨rfl, rfl⟩ (by decide +kernel) ⟨Nat.le_of_ble_eq_true rfl, Nat.le_of_ble_eq_true rfl⟩ ZF.room (ci := 4) rfl 0 rfl rfl (As := [.int (nI 1)]) (n := 1) rfl rfl (st1 := [.int (nI 1)]) rfl (Nat.le_of_ble_eq_true rfl) dX5_put_76 ?_
            have e7 : (if zin (nI jv3) 4 then (foc (sl (tn (nI jv3))) (sz (tn (nI jv3))) (sl (tn (nI jv3))) (nI i_a) (nI 1)) else nI 0) = (nI 0) := by simp [nI_0, hq2, hc3, hti_a, hfo]
            have e8 : (if zin (nI jv3) 4 && decide ((foc (sl (tn (nI jv3))) (sz (tn (nI jv3))) (sl (tn (nI jv3))) (nI i_a) (nI 1)) = 0) then upd sc (60 * tn (nI jv3) + tn (nI i_a)) (cut (sl (tn (nI jv3))) v) else sc) = (upd sc ((60 * jv3) + i_a) (cut (sl jv3) v)) := by simp [nI_0, hq2, hc3, hti_a, hfo]
            exact z_iret X ZF dX5_put_79 (by simp [nI_0, hq2, hc3, hti_a, hfo]) (by first | rw [e8, e7] | (simp only [e8, e7]))
          ·
            refine z_iload_n X dX5_put_67 rfl 3 rfl ?_
            refine z_i2s (v := (v).toInt16.toInt32) X dX5_put_68 rfl ?_
            refine z_goto (tgt := 73) X dX5_put_69 (by decide) ?_
            refine z_top (y := cut (sl jv3) v) (by first | exact cut_1 hq5 hq6 | exact cut_2 hq5 hq6) ?_
            refine z_iastN (ws' := (wM g b ft so D E tr C lk kd st sp nd rO rB rD rW sz sl (upd sc ((60 * jv3) + i_a) (cut (sl jv3) v)) sm xa xb xc xd y1 y2 y3 y4 y5 hn)) X 17 rfl (by omega) (by omega) dX5_put_73 rfl ?_
            refine z_aload_n X dX5_put_74 rfl 0 rfl ?_
            refine z_iconst (v := nI 1) X dX5_put_75 (by decide) ?_
            refine z_callVM X (c_X5_refused l g b ft so D E tr C lk kd st sp nd rO rB rD rW sz sl (upd sc ((60 * jv3) + i_a) (cut (sl jv3) v)) sm xa xb xc xd y1 y2 y3 y4 y5 hn (nI 1)) gX5_put_X5_refused rfl ⟨rfl, rfl⟩ (by decide +kernel) ⟨Nat.le_of_ble_eq_true rfl, Nat.le_of_ble_eq_true rfl⟩ ZF.room (ci := 4) rfl 0 rfl rfl (As := [.int (nI 1)]) (n := 1) rfl rfl (st1 := [.int (nI 1)]) rfl (Nat.le_of_ble_eq_true rfl) dX5_put_76 ?_
            have e9 : (if zin (nI jv3) 4 then (foc (sl (tn (nI jv3))) (sz (tn (nI jv3))) (sl (tn (nI jv3))) (nI i_a) (nI 1)) else nI 0) = (nI 0) := by simp [nI_0, hq2, hc3, hti_a, hfo]
            have e10 : (if zin (nI jv3) 4 && decide ((foc (sl (tn (nI jv3))) (sz (tn (nI jv3))) (sl (tn (nI jv3))) (nI i_a) (nI 1)) = 0) then upd sc (60 * tn (nI jv3) + tn (nI i_a)) (cut (sl (tn (nI jv3))) v) else sc) = (upd sc ((60 * jv3) + i_a) (cut (sl jv3) v)) := by simp [nI_0, hq2, hc3, hti_a, hfo]
            exact z_iret X ZF dX5_put_79 (by simp [nI_0, hq2, hc3, hti_a, hfo]) (by first | rw [e10, e9] | (simp only [e10, e9]))
        ·
          refine z_iload_n X dX5_put_52 rfl 3 rfl ?_
          refine z_i2b (v := (v).toInt8.toInt32) X dX5_put_53 rfl ?_
          refine z_goto (tgt := 73) X dX5_put_54 (by decide) ?_
          refine z_top (y := cut (sl jv3) v) (by exact cut_0 hq5) ?_
          refine z_iastN (ws' := (wM g b ft so D E tr C lk kd st sp nd rO rB rD rW sz sl (upd sc ((60 * jv3) + i_a) (cut (sl jv3) v)) sm xa xb xc xd y1 y2 y3 y4 y5 hn)) X 17 rfl (by omega) (by omega) dX5_put_73 rfl ?_
          refine z_aload_n X dX5_put_74 rfl 0 rfl ?_
          refine z_iconst (v := nI 1) X dX5_put_75 (by decide) ?_
          refine z_callVM X (c_X5_refused l g b ft so D E tr C lk kd st sp nd rO rB rD rW sz sl (upd sc ((60 * jv3) + i_a) (cut (sl jv3) v)) sm xa xb xc xd y1 y2 y3 y4 y5 hn (nI 1)) gX5_put_X5_refused rfl ⟨rfl, rfl⟩ (by decide +kernel) ⟨Nat.le_of_ble_eq_true rfl, Nat.le_of_ble_eq_true rfl⟩ ZF.room (ci := 4) rfl 0 rfl rfl (As := [.int (nI 1)]) (n := 1) rfl rfl (st1 := [.int (nI 1)]) rfl (Nat.le_of_ble_eq_true rfl) dX5_put_76 ?_
          have e11 : (if zin (nI jv3) 4 then (foc (sl (tn (nI jv3))) (sz (tn (nI jv3))) (sl (tn (nI jv3))) (nI i_a) (nI 1)) else nI 0) = (nI 0) := by simp [nI_0, hq2, hc3, hti_a, hfo]
          have e12 : (if zin (nI jv3) 4 && decide ((foc (sl (tn (nI jv3))) (sz (tn (nI jv3))) (sl (tn (nI jv3))) (nI i_a) (nI 1)) = 0) then upd sc (60 * tn (nI jv3) + tn (nI i_a)) (cut (sl (tn (nI jv3))) v) else sc) = (upd sc ((60 * jv3) + i_a) (cut (sl jv3) v)) := by simp [nI_0, hq2, hc3, hti_a, hfo]
          exact z_iret X ZF dX5_put_79 (by simp [nI_0, hq2, hc3, hti_a, hfo]) (by first | rw [e12, e11] | (simp only [e12, e11]))
      ·
        exact absurd hq4 (by decide)
    ·
      refine z_if_le (tgt := 33) X dX5_put_19 (by decide) (fun hq13 => ?_) (fun hq13 => ?_)
      ·
        exact absurd hq13 (foc_pos hfo)
      ·
        refine z_aload_n X dX5_put_22 rfl 0 rfl ?_
        refine z_aload_n X dX5_put_23 rfl 0 rfl ?_
        refine z_iload_n X dX5_put_24 rfl 1 rfl ?_
        refine z_iload_n X dX5_put_25 rfl 2 rfl ?_
        refine z_callVM X (c_X5_noCell l g b ft so D E tr C lk kd st sp nd rO rB rD rW sz sl sc sm xa xb xc xd y1 y2 y3 y4 y5 hn jv3 i (by omega) (by first | assumption | omega)) gX5_put_X5_noCell rfl ⟨rfl, rfl⟩ (by decide +kernel) ⟨Nat.le_of_ble_eq_true rfl, Nat.le_of_ble_eq_true rfl⟩ ZF.room (ci := 4) rfl 0 rfl rfl (As := [.int (nI jv3), .int i]) (n := 2) rfl rfl (st1 := [.int (foc (sl jv3) (sz jv3) (sl jv3) i (nI 1)), .ref (b 0)]) rfl (Nat.le_of_ble_eq_true rfl) dX5_put_26 ?_
        refine z_callVM X (c_X5_failed l g b ft so D E tr C lk kd st sp nd rO rB rD rW sz sl sc sm xa xb xc xd y1 y2 y3 y4 y5 hn (foc (sl jv3) (sz jv3) (sl jv3) i (nI 1))) gX5_put_X5_failed rfl ⟨rfl, rfl⟩ (by decide +kernel) ⟨Nat.le_of_ble_eq_true rfl, Nat.le_of_ble_eq_true rfl⟩ ZF.room (ci := 4) rfl 0 rfl rfl (As := [.int (foc (sl jv3) (sz jv3) (sl jv3) i (nI 1))]) (n := 1) rfl rfl (st1 := [.int ((-10) - (foc (sl jv3) (sz jv3) (sl jv3) i (nI 1)))]) rfl (Nat.le_of_ble_eq_true rfl) dX5_put_29 ?_
        have e14 : (if zin (nI jv3) 4 then (foc (sl (tn (nI jv3))) (sz (tn (nI jv3))) (sl (tn (nI jv3))) i (nI 1)) else nI 0) = (foc (sl jv3) (sz jv3) (sl jv3) i (nI 1)) := by simp [nI_0, hq2, hc3, hfo]
        have e15 : (if zin (nI jv3) 4 && decide ((foc (sl (tn (nI jv3))) (sz (tn (nI jv3))) (sl (tn (nI jv3))) i (nI 1)) = 0) then upd sc (60 * tn (nI jv3) + tn i) (cut (sl (tn (nI jv3))) v) else sc) = sc := by simp [nI_0, hq2, hc3, hfo]
        exact z_iret X ZF dX5_put_32 (by simp [nI_0, hq2, hc3, hfo]) (by first | rw [e15, e14] | (simp only [e15, e14]))
  ·
    have hq16 : (zin k 4) = false := by simpa using hq1
    refine z_aload_n X dX5_put_7 rfl 0 rfl ?_
    refine z_iconst (v := (-1)) X dX5_put_8 (by decide) ?_
    refine z_callVM X (c_X5_refused l g b ft so D E tr C lk kd st sp nd rO rB rD rW sz sl sc sm xa xb xc xd y1 y2 y3 y4 y5 hn (-1)) gX5_put_X5_refused rfl ⟨rfl, rfl⟩ (by decide +kernel) ⟨Nat.le_of_ble_eq_true rfl, Nat.le_of_ble_eq_true rfl⟩ ZF.room (ci := 4) rfl 0 rfl rfl (As := [.int (-1)]) (n := 1) rfl rfl (st1 := [.int (-1)]) rfl (Nat.le_of_ble_eq_true rfl) dX5_put_9 ?_
    have e17 : (if zin k 4 then (foc (sl (tn k)) (sz (tn k)) (sl (tn k)) i (nI 1)) else nI 0) = (nI 0) := by simp [nI_0, hq16]
    have e18 : (if zin k 4 && decide ((foc (sl (tn k)) (sz (tn k)) (sl (tn k)) i (nI 1)) = 0) then upd sc (60 * tn k + tn i) (cut (sl (tn k)) v) else sc) = sc := by simp [nI_0, hq16]
    exact z_iret X ZF dX5_put_12 (by simp [nI_0, hq16]) (by first | rw [e18, e17] | (simp only [e18, e17]))
abbrev rX5_cell : Room := { frames := 2, cells := 0, slots := 0, locals := 47 }
set_option maxHeartbeats 4000000 in
set_option maxRecDepth 100000 in
theorem c_X5_cell (l : Launch) (g : zg) (b : Nat → Nat) (ft : Int32) (so : Int32) (D : Nat) (E : Nat) (tr : Int32) (C : Nat) (lk : Nat → Int32) (kd : Nat → Int32) (st : Nat → Int32) (sp : Nat → Int32) (nd : Nat → Int32) (rO : Nat → Int32) (rB : Nat → Int32) (rD : Nat → Int32) (rW : Nat → Int32) (sz : Nat → Int32) (sl : Nat → Int32) (sc : Nat → Int32) (sm : Int32) (xa : Nat) (xb : Int32) (xc : Nat) (xd : Nat) (y1 : Nat → Int32) (y2 : Nat → Int32) (y3 : Nat → Int32) (y4 : Nat → Int32) (y5 : Nat → Int32) (hn : Nat → Int32) (k : Int32) (i : Int32) (lane : Int32) (hle : ∀ k_, k_ < 4 → vle (sz k_)) : zM l g yX5_cell wsX5_cell rX5_cell [.ref (b 0), .int k, .int i, .int lane] (wM g b ft so D E tr C lk kd st sp nd rO rB rD rW sz sl sc sm xa xb xc xd y1 y2 y3 y4 y5 hn) (some (.long (if zin k 4 && zin lane 3 && decide ((foc (sl (tn k)) (sz (tn k)) lane i (nI 1)) = 0) then (sc (60 * tn k + tn i)).toInt64 else -9223372036854775808))) (wM g b (if zin k 4 && zin lane 3 then (foc (sl (tn k)) (sz (tn k)) lane i (nI 1)) else nI 0) so D E tr C lk kd st sp nd rO rB rD rW sz sl sc sm xa xb xc xd y1 y2 y3 y4 y5 hn) := by
  refine z_met (own := RX5) (cc := cX5_cell) (maxL := 4) (ret := some .long) (by decide +kernel) rfl rfl (Nat.le_of_ble_eq_true rfl) ?_
  intro M X ZF
  refine z_Le (L' := [(0, .ref (b 0)), (1, .int k), (2, .int i), (3, .int lane)]) rfl ?_
  have i_RX5 : ∀ w ∈ wsX50, w ∈ wsX5_cell := by decide +kernel
  have f_71 : Cond.fieldLink RX5 71 (TX5 0).1 (TX5 0).2.1 (TX5 0).2.2.1 ∈ wsX5_cell := by decide +kernel
  have k_130 : Cond.constantLong RX5 130 (2) ∈ wsX5_cell := by decide +kernel
  have f_57 : Cond.fieldLink RX5 57 (TX5 24).1 (TX5 24).2.1 (TX5 24).2.2.1 ∈ wsX5_cell := by decide +kernel
  have f_63 : Cond.fieldLink RX5 63 (TX5 26).1 (TX5 26).2.1 (TX5 26).2.2.1 ∈ wsX5_cell := by decide +kernel
  have f_60 : Cond.fieldLink RX5 60 (TX5 25).1 (TX5 25).2.1 (TX5 25).2.2.1 ∈ wsX5_cell := by decide +kernel
  refine z_aload_n X dX5_cell_0 rfl 0 rfl ?_
  refine z_iconst (v := nI 0) X dX5_cell_1 (by decide) ?_
  refine z_put (ws' := (wM g b (nI 0) so D E tr C lk kd st sp nd rO rB rD rW sz sl sc sm xa xb xc xd y1 y2 y3 y4 y5 hn)) (N := 29) X i_RX5 (ci := 4) rfl tyX5 tyX5_ok nmX5 0 rfl 0 (by decide) f_71 rfl (ty := .int) (by decide +kernel) rfl rfl (Nat.le_of_ble_eq_true rfl) dX5_cell_2 rfl ?_
  refine z_iload_n X dX5_cell_5 rfl 1 rfl ?_
  refine z_callS0 X (c_X5_noSheet l g k) gX5_cell_X5_noSheet rfl ⟨rfl, rfl⟩ (by decide +kernel) ⟨Nat.le_of_ble_eq_true rfl, Nat.le_of_ble_eq_true rfl⟩ ZF.room (As := [.int k]) (n := 1) rfl rfl (st1 := [.int (bI (!zin k 4))]) rfl (Nat.le_of_ble_eq_true rfl) dX5_cell_6 ?_
  refine z_if_neB (tgt := 24) X dX5_cell_9 (by decide) (fun hq1 => ?_) (fun hq1 => ?_)
  ·
    have hq2 : (zin k 4) = false := by simpa using hq1
    refine z_callS0 X (c_X5_lost l g ) gX5_cell_X5_lost rfl ⟨rfl, rfl⟩ (by decide +kernel) ⟨Nat.le_of_ble_eq_true rfl, Nat.le_of_ble_eq_true rfl⟩ ZF.room (As := []) (n := 0) rfl rfl (st1 := [.long (-9223372036854775808)]) rfl (Nat.le_of_ble_eq_true rfl) dX5_cell_24 ?_
    have e3 : (if zin k 4 && zin lane 3 then (foc (sl (tn k)) (sz (tn k)) lane i (nI 1)) else nI 0) = (nI 0) := by first | (simp [nI_0, hq2]; done) | (simp [nI_2z, hq2]; done)
    exact z_lret X ZF dX5_cell_27 (by first | (simp [nI_0, hq2]; done) | (simp [nI_2z, hq2]; done)) (by rw [e3])
  ·
    have hq4 : (zin k 4) = true := by simpa using hq1
    obtain ⟨jv5, hj5, ej5⟩ := zin_t (by omega) hq4
    subst ej5
    have hc5 : tn (nI jv5) = jv5 := nI_clamp (by omega)
    refine z_iload_n X dX5_cell_12 rfl 3 rfl ?_
    refine z_i2l (v := (lane).toInt64) X dX5_cell_13 rfl ?_
    refine z_lconst (v := 0) X dX5_cell_14 (by decide) ?_
    refine z_ldc2 (v := 2) X dX5_cell_15 k_130 ?_
    refine z_callS0 X (c_X5_in l g ((lane).toInt64) 0 2) gX5_cell_X5_in rfl ⟨rfl, rfl⟩ (by decide +kernel) ⟨Nat.le_of_ble_eq_true rfl, Nat.le_of_ble_eq_true rfl⟩ ZF.room (As := [.long ((lane).toInt64), .long 0, .long 2]) (n := 3) rfl rfl (st1 := [.int (bI (zil ((lane).toInt64) 0 2))]) rfl (Nat.le_of_ble_eq_true rfl) dX5_cell_18 ?_
    refine z_top (y := bI (zin lane 3)) (bI_eq (zil_k (n := 2) (by decide +kernel) (by omega))) ?_
    refine z_if_neB (tgt := 28) X dX5_cell_21 (by decide) (fun hq6 => ?_) (fun hq6 => ?_)
    ·
      obtain ⟨jv7, hj7, ej7⟩ := zin_t (by omega) hq6
      subst ej7
      have hc7 : tn (nI jv7) = jv7 := nI_clamp (by omega)
      refine z_aload_n X dX5_cell_28 rfl 0 rfl ?_
      refine z_get (v := .ref (b 15)) (N := 29) X i_RX5 (ci := 4) rfl 0 rfl 24 (by decide) f_57 rfl dX5_cell_29 ?_
      refine z_iload_n X dX5_cell_32 rfl 1 rfl ?_
      refine z_ialdN X 15 rfl (by omega) (by omega) dX5_cell_33 ?_
      refine z_if_lt (tgt := 53) X dX5_cell_34 (by decide) (fun hq8 => ?_) (fun hq8 => ?_)
      ·
        have hfz := vle_neg (hle _ (by omega)) hq8
        refine z_aload_n X dX5_cell_53 rfl 0 rfl ?_
        refine z_iload_n X dX5_cell_54 rfl 1 rfl ?_
        refine z_iload_n X dX5_cell_55 rfl 2 rfl ?_
        refine z_callVM X (c_X5_noCell l g b (nI 0) so D E tr C lk kd st sp nd rO rB rD rW sz sl sc sm xa xb xc xd y1 y2 y3 y4 y5 hn jv5 i (by omega) (by first | assumption | omega)) gX5_cell_X5_noCell rfl ⟨rfl, rfl⟩ (by decide +kernel) ⟨Nat.le_of_ble_eq_true rfl, Nat.le_of_ble_eq_true rfl⟩ ZF.room (ci := 4) rfl 0 rfl rfl (As := [.int (nI jv5), .int i]) (n := 2) rfl rfl (st1 := [.int (foc (sl jv5) (sz jv5) (sl jv5) i (nI 1))]) rfl (Nat.le_of_ble_eq_true rfl) dX5_cell_56 ?_
        have hfe : (foc (sl jv5) (sz jv5) (sl jv5) i (nI 1)) = foc (sl jv5) (sz jv5) (nI jv7) i (nI 1) := by first | exact foc_al (fun z => z.1 hfz) (fun z => z.1 hfz) | exact foc_al (fun z => z.2 rfl) (fun z => z.2 hsl)
        by_cases hfo : foc (sl jv5) (sz jv5) (nI jv7) i (nI 1) = 0
        ·
          refine z_top (y := nI 0) (hfe.trans (hfo.trans nI_0.symm)) ?_
          obtain ⟨i_a, ei_a, hin_a, m_a, hm_a, him_a⟩ := foc1 (hle _ (by omega)) hfo
          subst ei_a
          have hti_a : tn (nI i_a) = i_a := nI_clamp (by omega)
          refine z_if_leN (tgt := 75) X dX5_cell_59 (by decide) (by omega) (fun hq9 => ?_) (fun hq9 => ?_)
          ·
            refine z_aload_n X dX5_cell_75 rfl 0 rfl ?_
            refine z_get (v := .ref (b 17)) (N := 29) X i_RX5 (ci := 4) rfl 0 rfl 26 (by decide) f_63 rfl dX5_cell_76 ?_
            refine z_bipush (v := nI 60) X dX5_cell_79 (by decide) ?_
            refine z_iload_n X dX5_cell_81 rfl 1 rfl ?_
            refine z_imul' (v := nI (60 * jv5)) X dX5_cell_82 (pk_mul _ _) ?_
            refine z_iload_n X dX5_cell_83 rfl 2 rfl ?_
            refine z_iadd' (v := nI ((60 * jv5) + i_a)) X dX5_cell_84 (nI_add _ _) ?_
            refine z_ialdN X 17 rfl (by omega) (by omega) dX5_cell_85 ?_
            refine z_i2l (v := (sc ((60 * jv5) + i_a)).toInt64) X dX5_cell_86 rfl ?_
            have e10 : (if zin (nI jv5) 4 && zin (nI jv7) 3 then (foc (sl (tn (nI jv5))) (sz (tn (nI jv5))) (nI jv7) (nI i_a) (nI 1)) else nI 0) = (nI 0) := by first | (simp [nI_0, hq4, hc5, hq6, hc7, hti_a, hfo, hq9]; done) | (simp [nI_2z, hq4, hc5, hq6, hc7, hti_a, hfo, hq9]; done)
            exact z_lret X ZF dX5_cell_87 (by first | (simp [nI_0, hq4, hc5, hq6, hc7, hti_a, hfo, hq9]; done) | (simp [nI_2z, hq4, hc5, hq6, hc7, hti_a, hfo, hq9]; done)) (by rw [e10])
          ·
            exact absurd hq9 (by decide)
        ·
          refine z_top hfe ?_
          refine z_if_le (tgt := 75) X dX5_cell_59 (by decide) (fun hq11 => ?_) (fun hq11 => ?_)
          ·
            exact absurd hq11 (foc_pos hfo)
          ·
            refine z_aload_n X dX5_cell_62 rfl 0 rfl ?_
            refine z_aload_n X dX5_cell_63 rfl 0 rfl ?_
            refine z_iload_n X dX5_cell_64 rfl 1 rfl ?_
            refine z_iload_n X dX5_cell_65 rfl 2 rfl ?_
            refine z_callVM X (c_X5_noCell l g b (nI 0) so D E tr C lk kd st sp nd rO rB rD rW sz sl sc sm xa xb xc xd y1 y2 y3 y4 y5 hn jv5 i (by omega) (by first | assumption | omega)) gX5_cell_X5_noCell rfl ⟨rfl, rfl⟩ (by decide +kernel) ⟨Nat.le_of_ble_eq_true rfl, Nat.le_of_ble_eq_true rfl⟩ ZF.room (ci := 4) rfl 0 rfl rfl (As := [.int (nI jv5), .int i]) (n := 2) rfl rfl (st1 := [.int (foc (sl jv5) (sz jv5) (sl jv5) i (nI 1)), .ref (b 0)]) rfl (Nat.le_of_ble_eq_true rfl) dX5_cell_66 ?_
            refine z_top hfe ?_
            refine z_callVM X (c_X5_failedLong l g b (nI 0) so D E tr C lk kd st sp nd rO rB rD rW sz sl sc sm xa xb xc xd y1 y2 y3 y4 y5 hn (foc (sl jv5) (sz jv5) (nI jv7) i (nI 1))) gX5_cell_X5_failedLong rfl ⟨rfl, rfl⟩ (by decide +kernel) ⟨Nat.le_of_ble_eq_true rfl, Nat.le_of_ble_eq_true rfl⟩ ZF.room (ci := 4) rfl 0 rfl rfl (As := [.int (foc (sl jv5) (sz jv5) (nI jv7) i (nI 1))]) (n := 1) rfl rfl (st1 := [.long (-9223372036854775808)]) rfl (Nat.le_of_ble_eq_true rfl) dX5_cell_69 ?_
            refine z_goto (tgt := 87) X dX5_cell_72 (by decide) ?_
            have e12 : (if zin (nI jv5) 4 && zin (nI jv7) 3 then (foc (sl (tn (nI jv5))) (sz (tn (nI jv5))) (nI jv7) i (nI 1)) else nI 0) = (foc (sl jv5) (sz jv5) (nI jv7) i (nI 1)) := by first | (simp [nI_0, hq4, hc5, hq6, hc7, hfo]; done) | (simp [nI_2z, hq4, hc5, hq6, hc7, hfo]; done)
            exact z_lret X ZF dX5_cell_87 (by first | (simp [nI_0, hq4, hc5, hq6, hc7, hfo]; done) | (simp [nI_2z, hq4, hc5, hq6, hc7, hfo]; done)) (by rw [e12])
      ·
        obtain ⟨hn1, m_k, hm_k, hmz_k⟩ := vle_pos (hle _ (by omega)) hq8
        refine z_aload_n X dX5_cell_37 rfl 0 rfl ?_
        refine z_get (v := .ref (b 16)) (N := 29) X i_RX5 (ci := 4) rfl 0 rfl 25 (by decide) f_60 rfl dX5_cell_38 ?_
        refine z_iload_n X dX5_cell_41 rfl 1 rfl ?_
        refine z_ialdN X 16 rfl (by omega) (by omega) dX5_cell_42 ?_
        refine z_iload_n X dX5_cell_43 rfl 3 rfl ?_
        refine z_icmp_eq (tgt := 53) X dX5_cell_44 (by decide) (fun hq13 => ?_) (fun hq13 => ?_)
        ·
          have hsl := hq13
          refine z_aload_n X dX5_cell_53 rfl 0 rfl ?_
          refine z_iload_n X dX5_cell_54 rfl 1 rfl ?_
          refine z_iload_n X dX5_cell_55 rfl 2 rfl ?_
          refine z_callVM X (c_X5_noCell l g b (nI 0) so D E tr C lk kd st sp nd rO rB rD rW sz sl sc sm xa xb xc xd y1 y2 y3 y4 y5 hn jv5 i (by omega) (by first | assumption | omega)) gX5_cell_X5_noCell rfl ⟨rfl, rfl⟩ (by decide +kernel) ⟨Nat.le_of_ble_eq_true rfl, Nat.le_of_ble_eq_true rfl⟩ ZF.room (ci := 4) rfl 0 rfl rfl (As := [.int (nI jv5), .int i]) (n := 2) rfl rfl (st1 := [.int (foc (sl jv5) (sz jv5) (sl jv5) i (nI 1))]) rfl (Nat.le_of_ble_eq_true rfl) dX5_cell_56 ?_
          have hfe : (foc (sl jv5) (sz jv5) (sl jv5) i (nI 1)) = foc (sl jv5) (sz jv5) (nI jv7) i (nI 1) := by first | exact foc_al (fun z => z.1 hfz) (fun z => z.1 hfz) | exact foc_al (fun z => z.2 rfl) (fun z => z.2 hsl)
          by_cases hfo : foc (sl jv5) (sz jv5) (nI jv7) i (nI 1) = 0
          ·
            refine z_top (y := nI 0) (hfe.trans (hfo.trans nI_0.symm)) ?_
            obtain ⟨i_a, ei_a, hin_a, m_a, hm_a, him_a⟩ := foc1 (hle _ (by omega)) hfo
            subst ei_a
            have hti_a : tn (nI i_a) = i_a := nI_clamp (by omega)
            refine z_if_leN (tgt := 75) X dX5_cell_59 (by decide) (by omega) (fun hq14 => ?_) (fun hq14 => ?_)
            ·
              refine z_aload_n X dX5_cell_75 rfl 0 rfl ?_
              refine z_get (v := .ref (b 17)) (N := 29) X i_RX5 (ci := 4) rfl 0 rfl 26 (by decide) f_63 rfl dX5_cell_76 ?_
              refine z_bipush (v := nI 60) X dX5_cell_79 (by decide) ?_
              refine z_iload_n X dX5_cell_81 rfl 1 rfl ?_
              refine z_imul' (v := nI (60 * jv5)) X dX5_cell_82 (pk_mul _ _) ?_
              refine z_iload_n X dX5_cell_83 rfl 2 rfl ?_
              refine z_iadd' (v := nI ((60 * jv5) + i_a)) X dX5_cell_84 (nI_add _ _) ?_
              refine z_ialdN X 17 rfl (by omega) (by omega) dX5_cell_85 ?_
              refine z_i2l (v := (sc ((60 * jv5) + i_a)).toInt64) X dX5_cell_86 rfl ?_
              have e15 : (if zin (nI jv5) 4 && zin (nI jv7) 3 then (foc (sl (tn (nI jv5))) (sz (tn (nI jv5))) (nI jv7) (nI i_a) (nI 1)) else nI 0) = (nI 0) := by first | (simp [nI_0, hq4, hc5, hq6, hc7, hti_a, hfo, hq14]; done) | (simp [nI_2z, hq4, hc5, hq6, hc7, hti_a, hfo, hq14]; done)
              exact z_lret X ZF dX5_cell_87 (by first | (simp [nI_0, hq4, hc5, hq6, hc7, hti_a, hfo, hq14]; done) | (simp [nI_2z, hq4, hc5, hq6, hc7, hti_a, hfo, hq14]; done)) (by rw [e15])
            ·
              exact absurd hq14 (by decide)
          ·
            refine z_top hfe ?_
            refine z_if_le (tgt := 75) X dX5_cell_59 (by decide) (fun hq16 => ?_) (fun hq16 => ?_)
            ·
              exact absurd hq16 (foc_pos hfo)
            ·
              refine z_aload_n X dX5_cell_62 rfl 0 rfl ?_
              refine z_aload_n X dX5_cell_63 rfl 0 rfl ?_
              refine z_iload_n X dX5_cell_64 rfl 1 rfl ?_
              refine z_iload_n X dX5_cell_65 rfl 2 rfl ?_
              refine z_callVM X (c_X5_noCell l g b (nI 0) so D E tr C lk kd st sp nd rO rB rD rW sz sl sc sm xa xb xc xd y1 y2 y3 y4 y5 hn jv5 i (by omega) (by first | assumption | omega)) gX5_cell_X5_noCell rfl ⟨rfl, rfl⟩ (by decide +kernel) ⟨Nat.le_of_ble_eq_true rfl, Nat.le_of_ble_eq_true rfl⟩ ZF.room (ci := 4) rfl 0 rfl rfl (As := [.int (nI jv5), .int i]) (n := 2) rfl rfl (st1 := [.int (foc (sl jv5) (sz jv5) (sl jv5) i (nI 1)), .ref (b 0)]) rfl (Nat.le_of_ble_eq_true rfl) dX5_cell_66 ?_
              refine z_top hfe ?_
              refine z_callVM X (c_X5_failedLong l g b (nI 0) so D E tr C lk kd st sp nd rO rB rD rW sz sl sc sm xa xb xc xd y1 y2 y3 y4 y5 hn (foc (sl jv5) (sz jv5) (nI jv7) i (nI 1))) gX5_cell_X5_failedLong rfl ⟨rfl, rfl⟩ (by decide +kernel) ⟨Nat.le_of_ble_eq_true rfl, Nat.le_of_ble_eq_true rfl⟩ ZF.room (ci := 4) rfl 0 rfl rfl (As := [.int (foc (sl jv5) (sz jv5) (nI jv7) i (nI 1))]) (n := 1) rfl rfl (st1 := [.long (-9223372036854775808)]) rfl (Nat.le_of_ble_eq_true rfl) dX5_cell_69 ?_
              refine z_goto (tgt := 87) X dX5_cell_72 (by decide) ?_
              have e17 : (if zin (nI jv5) 4 && zin (nI jv7) 3 then (foc (sl (tn (nI jv5))) (sz (tn (nI jv5))) (nI jv7) i (nI 1)) else nI 0) = (foc (sl jv5) (sz jv5) (nI jv7) i (nI 1)) := by first | (simp [nI_0, hq4, hc5, hq6, hc7, hfo]; done) | (simp [nI_2z, hq4, hc5, hq6, hc7, hfo]; done)
              exact z_lret X ZF dX5_cell_87 (by first | (simp [nI_0, hq4, hc5, hq6, hc7, hfo]; done) | (simp [nI_2z, hq4, hc5, hq6, hc7, hfo]; done)) (by rw [e17])
        ·
          have hcs := hq13
          have hfo : foc (sl jv5) (sz jv5) (nI jv7) i (nI 1) = nI 2 := foc_cst hn1 hcs
          refine z_aload_n X dX5_cell_47 rfl 0 rfl ?_
          refine z_iconst (v := nI 2) X dX5_cell_48 (by decide) ?_
          refine z_callVM X (c_X5_failedLong l g b (nI 0) so D E tr C lk kd st sp nd rO rB rD rW sz sl sc sm xa xb xc xd y1 y2 y3 y4 y5 hn (nI 2)) gX5_cell_X5_failedLong rfl ⟨rfl, rfl⟩ (by decide +kernel) ⟨Nat.le_of_ble_eq_true rfl, Nat.le_of_ble_eq_true rfl⟩ ZF.room (ci := 4) rfl 0 rfl rfl (As := [.int (nI 2)]) (n := 1) rfl rfl (st1 := [.long (-9223372036854775808)]) rfl (Nat.le_of_ble_eq_true rfl) dX5_cell_49 ?_
          have e18 : (if zin (nI jv5) 4 && zin (nI jv7) 3 then (foc (sl (tn (nI jv5))) (sz (tn (nI jv5))) (nI jv7) i (nI 1)) else nI 0) = (nI 2) := by first | (simp [nI_0, hq4, hc5, hq6, hc7, hfo]; done) | (simp [nI_2z, hq4, hc5, hq6, hc7, hfo]; done)
          exact z_lret X ZF dX5_cell_52 (by first | (simp [nI_0, hq4, hc5, hq6, hc7, hfo]; done) | (simp [nI_2z, hq4, hc5, hq6, hc7, hfo]; done)) (by rw [e18])
    ·
      refine z_callS0 X (c_X5_lost l g ) gX5_cell_X5_lost rfl ⟨rfl, rfl⟩ (by decide +kernel) ⟨Nat.le_of_ble_eq_true rfl, Nat.le_of_ble_eq_true rfl⟩ ZF.room (As := []) (n := 0) rfl rfl (st1 := [.long (-9223372036854775808)]) rfl (Nat.le_of_ble_eq_true rfl) dX5_cell_24 ?_
      have e19 : (if zin (nI jv5) 4 && zin lane 3 then (foc (sl (tn (nI jv5))) (sz (tn (nI jv5))) lane i (nI 1)) else nI 0) = (nI 0) := by first | (simp [nI_0, hq4, hc5, hq6]; done) | (simp [nI_2z, hq4, hc5, hq6]; done)
      exact z_lret X ZF dX5_cell_27 (by first | (simp [nI_0, hq4, hc5, hq6]; done) | (simp [nI_2z, hq4, hc5, hq6]; done)) (by rw [e19])
abbrev rX5_sheet : Room := { frames := 2, cells := 0, slots := 0, locals := 45 }
set_option maxHeartbeats 4000000 in
set_option maxRecDepth 100000 in
theorem c_X5_sheet (l : Launch) (g : zg) (b : Nat → Nat) (ft : Int32) (so : Int32) (D : Nat) (E : Nat) (tr : Int32) (C : Nat) (lk : Nat → Int32) (kd : Nat → Int32) (st : Nat → Int32) (sp : Nat → Int32) (nd : Nat → Int32) (rO : Nat → Int32) (rB : Nat → Int32) (rD : Nat → Int32) (rW : Nat → Int32) (sz : Nat → Int32) (sl : Nat → Int32) (sc : Nat → Int32) (sm : Int32) (xa : Nat) (xb : Int32) (xc : Nat) (xd : Nat) (y1 : Nat → Int32) (y2 : Nat → Int32) (y3 : Nat → Int32) (y4 : Nat → Int32) (y5 : Nat → Int32) (hn : Nat → Int32) (k : Int32) (lane : Int32) (n : Int32) : zM l g yX5_sheet wsX5_sheet rX5_sheet [.ref (b 0), .int k, .int lane, .int n] (wM g b ft so D E tr C lk kd st sp nd rO rB rD rW sz sl sc sm xa xb xc xd y1 y2 y3 y4 y5 hn) (some (.int (if zin k 4 then (if zin lane 3 && !decide (nI 60 < n) then (if 0 ≤ n then nI 1 else (-10) - nI 4) else -2) else -1))) (wM g b (if zin k 4 && zin lane 3 && !decide (nI 60 < n) && !decide (0 ≤ n) then nI 4 else nI 0) so D E tr C lk kd st sp nd rO rB rD rW (if zin k 4 && shk lane n then upd sz (tn k) n else sz) (if zin k 4 && shk lane n then upd sl (tn k) lane else sl) (if zin k 4 && shk lane n then fzr sc (60 * tn k) (tn n) else sc) sm xa xb xc xd y1 y2 y3 y4 y5 hn) := by
  refine z_met (own := RX5) (cc := cX5_sheet) (maxL := 5) (ret := some .int) (by decide +kernel) rfl rfl (Nat.le_of_ble_eq_true rfl) ?_
  intro M X ZF
  refine z_Le (L' := [(0, .ref (b 0)), (1, .int k), (2, .int lane), (3, .int n)]) rfl ?_
  have k_130 : Cond.constantLong RX5 130 (2) ∈ wsX5_sheet := by decide +kernel
  have i_RX5 : ∀ w ∈ wsX50, w ∈ wsX5_sheet := by decide +kernel
  have f_57 : Cond.fieldLink RX5 57 (TX5 24).1 (TX5 24).2.1 (TX5 24).2.2.1 ∈ wsX5_sheet := by decide +kernel
  have f_60 : Cond.fieldLink RX5 60 (TX5 25).1 (TX5 25).2.1 (TX5 25).2.2.1 ∈ wsX5_sheet := by decide +kernel
  have f_63 : Cond.fieldLink RX5 63 (TX5 26).1 (TX5 26).2.1 (TX5 26).2.2.1 ∈ wsX5_sheet := by decide +kernel
  refine z_iload_n X dX5_sheet_0 rfl 1 rfl ?_
  refine z_callS0 X (c_X5_noSheet l g k) gX5_sheet_X5_noSheet rfl ⟨rfl, rfl⟩ (by decide +kernel) ⟨Nat.le_of_ble_eq_true rfl, Nat.le_of_ble_eq_true rfl⟩ ZF.room (As := [.int k]) (n := 1) rfl rfl (st1 := [.int (bI (!zin k 4))]) rfl (Nat.le_of_ble_eq_true rfl) dX5_sheet_1 ?_
  refine z_if_eqB (tgt := 13) X dX5_sheet_4 (by decide) (fun hq1 => ?_) (fun hq1 => ?_)
  ·
    have hq2 : (zin k 4) = true := by simpa using hq1
    obtain ⟨jv3, hj3, ej3⟩ := zin_t (by omega) hq2
    subst ej3
    have hc3 : tn (nI jv3) = jv3 := nI_clamp (by omega)
    refine z_iload_n X dX5_sheet_13 rfl 2 rfl ?_
    refine z_i2l (v := (lane).toInt64) X dX5_sheet_14 rfl ?_
    refine z_lconst (v := 0) X dX5_sheet_15 (by decide) ?_
    refine z_ldc2 (v := 2) X dX5_sheet_16 k_130 ?_
    refine z_callS0 X (c_X5_in l g ((lane).toInt64) 0 2) gX5_sheet_X5_in rfl ⟨rfl, rfl⟩ (by decide +kernel) ⟨Nat.le_of_ble_eq_true rfl, Nat.le_of_ble_eq_true rfl⟩ ZF.room (As := [.long ((lane).toInt64), .long 0, .long 2]) (n := 3) rfl rfl (st1 := [.int (bI (zil ((lane).toInt64) 0 2))]) rfl (Nat.le_of_ble_eq_true rfl) dX5_sheet_19 ?_
    refine z_top (y := bI (zin lane 3)) (bI_eq (zil_k (n := 2) (by decide +kernel) (by omega))) ?_
    refine z_if_eqB (tgt := 31) X dX5_sheet_22 (by decide) (fun hq4 => ?_) (fun hq4 => ?_)
    ·
      refine z_aload_n X dX5_sheet_31 rfl 0 rfl ?_
      refine z_bipush (v := (-2)) X dX5_sheet_32 (by decide) ?_
      refine z_callVM X (c_X5_refused l g b ft so D E tr C lk kd st sp nd rO rB rD rW sz sl sc sm xa xb xc xd y1 y2 y3 y4 y5 hn (-2)) gX5_sheet_X5_refused rfl ⟨rfl, rfl⟩ (by decide +kernel) ⟨Nat.le_of_ble_eq_true rfl, Nat.le_of_ble_eq_true rfl⟩ ZF.room (ci := 4) rfl 0 rfl rfl (As := [.int (-2)]) (n := 1) rfl rfl (st1 := [.int (-2)]) rfl (Nat.le_of_ble_eq_true rfl) dX5_sheet_34 ?_
      have e5 : (if zin (nI jv3) 4 && zin lane 3 && !decide (nI 60 < n) && !decide (0 ≤ n) then nI 4 else nI 0) = (nI 0) := by first | (simp [shk, hq2, hc3, hq4]; done) | (simp [shk, hq2, hc3, hq4]; decide)
      have e6 : (if zin (nI jv3) 4 && shk lane n then upd sz (tn (nI jv3)) n else sz) = sz := by first | (simp [shk, hq2, hc3, hq4]; done) | (simp [shk, hq2, hc3, hq4]; decide)
      have e7 : (if zin (nI jv3) 4 && shk lane n then upd sl (tn (nI jv3)) lane else sl) = sl := by first | (simp [shk, hq2, hc3, hq4]; done) | (simp [shk, hq2, hc3, hq4]; decide)
      have e8 : (if zin (nI jv3) 4 && shk lane n then fzr sc (60 * tn (nI jv3)) (tn n) else sc) = sc := by first | (simp [shk, hq2, hc3, hq4]; done) | (simp [shk, hq2, hc3, hq4]; decide)
      exact z_iret X ZF dX5_sheet_37 (by first | (simp [shk, hq2, hc3, hq4]; done) | (simp [shk, hq2, hc3, hq4]; decide)) (by first | rw [e8, e7, e6, e5] | (simp only [e8, e7, e6, e5]))
    ·
      obtain ⟨jv9, hj9, ej9⟩ := zin_t (by omega) hq4
      subst ej9
      have hc9 : tn (nI jv9) = jv9 := nI_clamp (by omega)
      refine z_iload_n X dX5_sheet_25 rfl 3 rfl ?_
      refine z_bipush (v := nI 60) X dX5_sheet_26 (by decide) ?_
      refine z_icmp_le (tgt := 38) X dX5_sheet_28 (by decide) (fun hq10 => ?_) (fun hq10 => ?_)
      ·
        have h60 := le_nlt hq10
        refine z_iload_n X dX5_sheet_38 rfl 3 rfl ?_
        refine z_if_ge (tgt := 48) X dX5_sheet_39 (by decide) (fun hq11 => ?_) (fun hq11 => ?_)
        ·
          obtain ⟨n_a, en_a, hn60_a⟩ := n60 h60 hq11
          subst en_a
          have htn_a : tn (nI n_a) = n_a := nI_clamp (by omega)
          refine z_aload_n X dX5_sheet_48 rfl 0 rfl ?_
          refine z_get (v := .ref (b 15)) (N := 29) X i_RX5 (ci := 4) rfl 0 rfl 24 (by decide) f_57 rfl dX5_sheet_49 ?_
          refine z_iload_n X dX5_sheet_52 rfl 1 rfl ?_
          refine z_iload_n X dX5_sheet_53 rfl 3 rfl ?_
          refine z_iastN (ws' := (wM g b ft so D E tr C lk kd st sp nd rO rB rD rW (upd sz jv3 (nI n_a)) sl sc sm xa xb xc xd y1 y2 y3 y4 y5 hn)) X 15 rfl (by omega) (by omega) dX5_sheet_54 rfl ?_
          refine z_aload_n X dX5_sheet_55 rfl 0 rfl ?_
          refine z_get (v := .ref (b 16)) (N := 29) X i_RX5 (ci := 4) rfl 0 rfl 25 (by decide) f_60 rfl dX5_sheet_56 ?_
          refine z_iload_n X dX5_sheet_59 rfl 1 rfl ?_
          refine z_iload_n X dX5_sheet_60 rfl 2 rfl ?_
          refine z_iastN (ws' := (wM g b ft so D E tr C lk kd st sp nd rO rB rD rW (upd sz jv3 (nI n_a)) (upd sl jv3 (nI jv9)) sc sm xa xb xc xd y1 y2 y3 y4 y5 hn)) X 16 rfl (by omega) (by omega) dX5_sheet_61 rfl ?_
          refine z_iconst (v := nI 0) X dX5_sheet_62 (by decide) ?_
          refine z_istore (L' := [(4, .int (nI 0)), (0, .ref (b 0)), (1, .int (nI jv3)), (2, .int (nI jv9)), (3, .int (nI n_a))]) X dX5_sheet_63 (by decide) rfl ?_
          have loopv12 : ∀ (n12 x_v : Nat), x_v ≤ n_a → n_a + 1 ≤ x_v + n12 → zG l g 5 M (wM g b ft so D E tr C lk kd st sp nd rO rB rD rW (upd sz jv3 (nI n_a)) (upd sl jv3 (nI jv9)) (fzr sc (60 * jv3) x_v) sm xa xb xc xd y1 y2 y3 y4 y5 hn) [(0, .ref (b 0)), (1, .int (nI jv3)), (2, .int (nI jv9)), (3, .int (nI n_a)), (4, .int (nI x_v))] 65 [] := by
            intro n12
            induction n12 with
            | zero => intro x_v h1 h2; exact absurd h2 (by omega)
            | succ n12 ih12 =>
              intro x_v hi12 hn12
              refine z_iload X dX5_sheet_65 4 rfl ?_
              refine z_iload_n X dX5_sheet_67 rfl 3 rfl ?_
              refine z_icmp_geN (tgt := 90) X dX5_sheet_68 (by decide) (by omega) (by omega) (fun hq13 => ?_) (fun hq13 => ?_)
              ·
                refine z_aload_n X dX5_sheet_90 rfl 0 rfl ?_
                refine z_iconst (v := nI 1) X dX5_sheet_91 (by decide) ?_
                refine z_callVM X (c_X5_refused l g b ft so D E tr C lk kd st sp nd rO rB rD rW (upd sz jv3 (nI n_a)) (upd sl jv3 (nI jv9)) (fzr sc (60 * jv3) x_v) sm xa xb xc xd y1 y2 y3 y4 y5 hn (nI 1)) gX5_sheet_X5_refused rfl ⟨rfl, rfl⟩ (by decide +kernel) ⟨Nat.le_of_ble_eq_true rfl, Nat.le_of_ble_eq_true rfl⟩ ZF.room (ci := 4) rfl 0 rfl rfl (As := [.int (nI 1)]) (n := 1) rfl rfl (st1 := [.int (nI 1)]) rfl (Nat.le_of_ble_eq_true rfl) dX5_sheet_92 ?_
                have e14 : (if zin (nI jv3) 4 && zin (nI jv9) 3 && !decide (nI 60 < (nI n_a)) && !decide (0 ≤ (nI n_a)) then nI 4 else nI 0) = (nI 0) := by have ex_ : x_v = n_a := (by omega); simp [shk, hq2, hc3, hq4, hc9, h60, hq11, htn_a, hq13, ex_]
                have e15 : (if zin (nI jv3) 4 && shk (nI jv9) (nI n_a) then upd sz (tn (nI jv3)) (nI n_a) else sz) = (upd sz jv3 (nI n_a)) := by have ex_ : x_v = n_a := (by omega); simp [shk, hq2, hc3, hq4, hc9, h60, hq11, htn_a, hq13, ex_]
                have e16 : (if zin (nI jv3) 4 && shk (nI jv9) (nI n_a) then upd sl (tn (nI jv3)) (nI jv9) else sl) = (upd sl jv3 (nI jv9)) := by have ex_ : x_v = n_a := (by omega); simp [shk, hq2, hc3, hq4, hc9, h60, hq11, htn_a, hq13, ex_]
                have e17 : (if zin (nI jv3) 4 && shk (nI jv9) (nI n_a) then fzr sc (60 * tn (nI jv3)) (tn (nI n_a)) else sc) = (fzr sc (60 * jv3) x_v) := by have ex_ : x_v = n_a := (by omega); simp [shk, hq2, hc3, hq4, hc9, h60, hq11, htn_a, hq13, ex_]
                exact z_iret X ZF dX5_sheet_95 (by have ex_ : x_v = n_a := (by omega); simp [shk, hq2, hc3, hq4, hc9, h60, hq11, htn_a, hq13, ex_]) (by first | rw [e17, e16, e15, e14] | (simp only [e17, e16, e15, e14]))
              ·
                refine z_aload_n X dX5_sheet_71 rfl 0 rfl ?_
                refine z_get (v := .ref (b 17)) (N := 29) X i_RX5 (ci := 4) rfl 0 rfl 26 (by decide) f_63 rfl dX5_sheet_72 ?_
                refine z_bipush (v := nI 60) X dX5_sheet_75 (by decide) ?_
                refine z_iload_n X dX5_sheet_77 rfl 1 rfl ?_
                refine z_imul' (v := nI (60 * jv3)) X dX5_sheet_78 (pk_mul _ _) ?_
                refine z_iload X dX5_sheet_79 4 rfl ?_
                refine z_iadd' (v := nI ((60 * jv3) + x_v)) X dX5_sheet_81 (nI_add _ _) ?_
                refine z_iconst (v := nI 0) X dX5_sheet_82 (by decide) ?_
                refine z_iastN (ws' := (wM g b ft so D E tr C lk kd st sp nd rO rB rD rW (upd sz jv3 (nI n_a)) (upd sl jv3 (nI jv9)) (upd (fzr sc (60 * jv3) x_v) ((60 * jv3) + x_v) (nI 0)) sm xa xb xc xd y1 y2 y3 y4 y5 hn)) X 17 rfl (by omega) (by omega) dX5_sheet_83 rfl ?_
                refine z_iinc (v := nI (x_v + 1)) (L' := [(4, .int (nI (x_v + 1))), (0, .ref (b 0)), (1, .int (nI jv3)), (2, .int (nI jv9)), (3, .int (nI n_a))]) X dX5_sheet_84 4 rfl (nI_inc x_v 1) (by decide) rfl ?_
                refine z_goto (tgt := 65) X dX5_sheet_87 (by decide) ?_
                refine z_ls (L' := [(0, .ref (b 0)), (1, .int (nI jv3)), (2, .int (nI jv9)), (3, .int (nI n_a)), (4, .int (nI (x_v + 1)))]) [1, 2, 3, 4, 0] rfl ?_
                have e18 : (upd (fzr sc (60 * jv3) x_v) ((60 * jv3) + x_v) (nI 0)) = (fzr sc (60 * jv3) (x_v + 1)) := by first | rfl | exact (fzr_0 _ _).symm | exact fzr_s _ _ _
                refine z_ws (ws' := (wM g b ft so D E tr C lk kd st sp nd rO rB rD rW (upd sz jv3 (nI n_a)) (upd sl jv3 (nI jv9)) (fzr sc (60 * jv3) (x_v + 1)) sm xa xb xc xd y1 y2 y3 y4 y5 hn)) (by rw [← e18]) ?_
                exact ih12 (x_v + 1) (by omega) (by omega)
          refine z_ls (L' := [(0, .ref (b 0)), (1, .int (nI jv3)), (2, .int (nI jv9)), (3, .int (nI n_a)), (4, .int (nI 0))]) [1, 2, 3, 4, 0] rfl ?_
          have e19 : sc = (fzr sc (60 * jv3) 0) := by first | rfl | exact (fzr_0 _ _).symm | exact fzr_s _ _ _
          refine z_ws (ws' := (wM g b ft so D E tr C lk kd st sp nd rO rB rD rW (upd sz jv3 (nI n_a)) (upd sl jv3 (nI jv9)) (fzr sc (60 * jv3) 0) sm xa xb xc xd y1 y2 y3 y4 y5 hn)) (by rw [← e19]) ?_
          exact loopv12 (n_a + 1) 0 (by omega) (by omega)
        ·
          refine z_aload_n X dX5_sheet_42 rfl 0 rfl ?_
          refine z_iconst (v := nI 4) X dX5_sheet_43 (by decide) ?_
          refine z_callVM X (c_X5_failed l g b ft so D E tr C lk kd st sp nd rO rB rD rW sz sl sc sm xa xb xc xd y1 y2 y3 y4 y5 hn (nI 4)) gX5_sheet_X5_failed rfl ⟨rfl, rfl⟩ (by decide +kernel) ⟨Nat.le_of_ble_eq_true rfl, Nat.le_of_ble_eq_true rfl⟩ ZF.room (ci := 4) rfl 0 rfl rfl (As := [.int (nI 4)]) (n := 1) rfl rfl (st1 := [.int ((-10) - (nI 4))]) rfl (Nat.le_of_ble_eq_true rfl) dX5_sheet_44 ?_
          have e20 : (if zin (nI jv3) 4 && zin (nI jv9) 3 && !decide (nI 60 < n) && !decide (0 ≤ n) then nI 4 else nI 0) = (nI 4) := by first | (simp [shk, hq2, hc3, hq4, hc9, h60, hq11]; done) | (simp [shk, hq2, hc3, hq4, hc9, h60, hq11]; decide)
          have e21 : (if zin (nI jv3) 4 && shk (nI jv9) n then upd sz (tn (nI jv3)) n else sz) = sz := by first | (simp [shk, hq2, hc3, hq4, hc9, h60, hq11]; done) | (simp [shk, hq2, hc3, hq4, hc9, h60, hq11]; decide)
          have e22 : (if zin (nI jv3) 4 && shk (nI jv9) n then upd sl (tn (nI jv3)) (nI jv9) else sl) = sl := by first | (simp [shk, hq2, hc3, hq4, hc9, h60, hq11]; done) | (simp [shk, hq2, hc3, hq4, hc9, h60, hq11]; decide)
          have e23 : (if zin (nI jv3) 4 && shk (nI jv9) n then fzr sc (60 * tn (nI jv3)) (tn n) else sc) = sc := by first | (simp [shk, hq2, hc3, hq4, hc9, h60, hq11]; done) | (simp [shk, hq2, hc3, hq4, hc9, h60, hq11]; decide)
          exact z_iret X ZF dX5_sheet_47 (by first | (simp [shk, hq2, hc3, hq4, hc9, h60, hq11]; done) | (simp [shk, hq2, hc3, hq4, hc9, h60, hq11]; decide)) (by first | rw [e23, e22, e21, e20] | (simp only [e23, e22, e21, e20]))
      ·
        have h60 := nle_lt hq10
        refine z_aload_n X dX5_sheet_31 rfl 0 rfl ?_
        refine z_bipush (v := (-2)) X dX5_sheet_32 (by decide) ?_
        refine z_callVM X (c_X5_refused l g b ft so D E tr C lk kd st sp nd rO rB rD rW sz sl sc sm xa xb xc xd y1 y2 y3 y4 y5 hn (-2)) gX5_sheet_X5_refused rfl ⟨rfl, rfl⟩ (by decide +kernel) ⟨Nat.le_of_ble_eq_true rfl, Nat.le_of_ble_eq_true rfl⟩ ZF.room (ci := 4) rfl 0 rfl rfl (As := [.int (-2)]) (n := 1) rfl rfl (st1 := [.int (-2)]) rfl (Nat.le_of_ble_eq_true rfl) dX5_sheet_34 ?_
        have e24 : (if zin (nI jv3) 4 && zin (nI jv9) 3 && !decide (nI 60 < n) && !decide (0 ≤ n) then nI 4 else nI 0) = (nI 0) := by first | (simp [shk, hq2, hc3, hq4, hc9, h60]; done) | (simp [shk, hq2, hc3, hq4, hc9, h60]; decide)
        have e25 : (if zin (nI jv3) 4 && shk (nI jv9) n then upd sz (tn (nI jv3)) n else sz) = sz := by first | (simp [shk, hq2, hc3, hq4, hc9, h60]; done) | (simp [shk, hq2, hc3, hq4, hc9, h60]; decide)
        have e26 : (if zin (nI jv3) 4 && shk (nI jv9) n then upd sl (tn (nI jv3)) (nI jv9) else sl) = sl := by first | (simp [shk, hq2, hc3, hq4, hc9, h60]; done) | (simp [shk, hq2, hc3, hq4, hc9, h60]; decide)
        have e27 : (if zin (nI jv3) 4 && shk (nI jv9) n then fzr sc (60 * tn (nI jv3)) (tn n) else sc) = sc := by first | (simp [shk, hq2, hc3, hq4, hc9, h60]; done) | (simp [shk, hq2, hc3, hq4, hc9, h60]; decide)
        exact z_iret X ZF dX5_sheet_37 (by first | (simp [shk, hq2, hc3, hq4, hc9, h60]; done) | (simp [shk, hq2, hc3, hq4, hc9, h60]; decide)) (by first | rw [e27, e26, e25, e24] | (simp only [e27, e26, e25, e24]))
  ·
    have hq28 : (zin k 4) = false := by simpa using hq1
    refine z_aload_n X dX5_sheet_7 rfl 0 rfl ?_
    refine z_iconst (v := (-1)) X dX5_sheet_8 (by decide) ?_
    refine z_callVM X (c_X5_refused l g b ft so D E tr C lk kd st sp nd rO rB rD rW sz sl sc sm xa xb xc xd y1 y2 y3 y4 y5 hn (-1)) gX5_sheet_X5_refused rfl ⟨rfl, rfl⟩ (by decide +kernel) ⟨Nat.le_of_ble_eq_true rfl, Nat.le_of_ble_eq_true rfl⟩ ZF.room (ci := 4) rfl 0 rfl rfl (As := [.int (-1)]) (n := 1) rfl rfl (st1 := [.int (-1)]) rfl (Nat.le_of_ble_eq_true rfl) dX5_sheet_9 ?_
    have e29 : (if zin k 4 && zin lane 3 && !decide (nI 60 < n) && !decide (0 ≤ n) then nI 4 else nI 0) = (nI 0) := by first | (simp [shk, hq28]; done) | (simp [shk, hq28]; decide)
    have e30 : (if zin k 4 && shk lane n then upd sz (tn k) n else sz) = sz := by first | (simp [shk, hq28]; done) | (simp [shk, hq28]; decide)
    have e31 : (if zin k 4 && shk lane n then upd sl (tn k) lane else sl) = sl := by first | (simp [shk, hq28]; done) | (simp [shk, hq28]; decide)
    have e32 : (if zin k 4 && shk lane n then fzr sc (60 * tn k) (tn n) else sc) = sc := by first | (simp [shk, hq28]; done) | (simp [shk, hq28]; decide)
    exact z_iret X ZF dX5_sheet_12 (by first | (simp [shk, hq28]; done) | (simp [shk, hq28]; decide)) (by first | rw [e32, e31, e30, e29] | (simp only [e32, e31, e30, e29]))
abbrev rX5_lose : Room := { frames := 2, cells := 0, slots := 0, locals := 45 }
set_option maxHeartbeats 4000000 in
set_option maxRecDepth 100000 in
theorem c_X5_lose (l : Launch) (g : zg) (b : Nat → Nat) (ft : Int32) (so : Int32) (D : Nat) (E : Nat) (tr : Int32) (C : Nat) (lk : Nat → Int32) (kd : Nat → Int32) (st : Nat → Int32) (sp : Nat → Int32) (nd : Nat → Int32) (rO : Nat → Int32) (rB : Nat → Int32) (rD : Nat → Int32) (rW : Nat → Int32) (sz : Nat → Int32) (sl : Nat → Int32) (sc : Nat → Int32) (sm : Int32) (xa : Nat) (xb : Int32) (xc : Nat) (xd : Nat) (y1 : Nat → Int32) (y2 : Nat → Int32) (y3 : Nat → Int32) (y4 : Nat → Int32) (y5 : Nat → Int32) (hn : Nat → Int32) (k : Int32) (hle : ∀ k_, k_ < 4 → vle (sz k_)) : zM l g yX5_lose wsX5_lose rX5_lose [.ref (b 0), .int k] (wM g b ft so D E tr C lk kd st sp nd rO rB rD rW sz sl sc sm xa xb xc xd y1 y2 y3 y4 y5 hn) (some (.int (if zin k 4 then (if sz (tn k) = (-1) then nI 0 else nI 1) else -1))) (wM g b ft so D E tr C lk kd st sp nd rO rB rD rW (if zin k 4 then upd sz (tn k) (-1) else sz) sl sc sm xa xb xc xd y1 y2 y3 y4 y5 hn) := by
  refine z_met (own := RX5) (cc := cX5_lose) (maxL := 3) (ret := some .int) (by decide +kernel) rfl rfl (Nat.le_of_ble_eq_true rfl) ?_
  intro M X ZF
  refine z_Le (L' := [(0, .ref (b 0)), (1, .int k)]) rfl ?_
  have i_RX5 : ∀ w ∈ wsX50, w ∈ wsX5_lose := by decide +kernel
  have f_57 : Cond.fieldLink RX5 57 (TX5 24).1 (TX5 24).2.1 (TX5 24).2.2.1 ∈ wsX5_lose := by decide +kernel
  refine z_iload_n X dX5_lose_0 rfl 1 rfl ?_
  refine z_callS0 X (c_X5_noSheet l g k) gX5_lose_X5_noSheet rfl ⟨rfl, rfl⟩ (by decide +kernel) ⟨Nat.le_of_ble_eq_true rfl, Nat.le_of_ble_eq_true rfl⟩ ZF.room (As := [.int k]) (n := 1) rfl rfl (st1 := [.int (bI (!zin k 4))]) rfl (Nat.le_of_ble_eq_true rfl) dX5_lose_1 ?_
  refine z_if_eqB (tgt := 9) X dX5_lose_4 (by decide) (fun hq1 => ?_) (fun hq1 => ?_)
  ·
    have hq2 : (zin k 4) = true := by simpa using hq1
    obtain ⟨jv3, hj3, ej3⟩ := zin_t (by omega) hq2
    subst ej3
    have hc3 : tn (nI jv3) = jv3 := nI_clamp (by omega)
    refine z_aload_n X dX5_lose_9 rfl 0 rfl ?_
    refine z_get (v := .ref (b 15)) (N := 29) X i_RX5 (ci := 4) rfl 0 rfl 24 (by decide) f_57 rfl dX5_lose_10 ?_
    refine z_iload_n X dX5_lose_13 rfl 1 rfl ?_
    refine z_ialdN X 15 rfl (by omega) (by omega) dX5_lose_14 ?_
    refine z_if_ge (tgt := 22) X dX5_lose_15 (by decide) (fun hq4 => ?_) (fun hq4 => ?_)
    ·
      have hn1 := (vle_ge (hle _ (by omega)) hq4).1
      refine z_iconst (v := nI 1) X dX5_lose_22 (by decide) ?_
      refine z_istore_n (L' := [(2, .int (nI 1)), (0, .ref (b 0)), (1, .int (nI jv3))]) X dX5_lose_23 rfl (by decide) rfl ?_
      refine z_aload_n X dX5_lose_24 rfl 1 rfl ?_
      refine z_get (v := .ref (b 15)) (N := 29) X i_RX5 (ci := 4) rfl 0 rfl 24 (by decide) f_57 rfl dX5_lose_25 ?_
      refine z_iload_n X dX5_lose_28 rfl 2 rfl ?_
      refine z_iconst (v := (-1)) X dX5_lose_29 (by decide) ?_
      refine z_iastN (ws' := (wM g b ft so D E tr C lk kd st sp nd rO rB rD rW (upd sz jv3 (-1)) sl sc sm xa xb xc xd y1 y2 y3 y4 y5 hn)) X 15 rfl (by omega) (by omega) dX5_lose_30 rfl ?_
      refine z_iload_n X dX5_lose_31 rfl 0 rfl ?_
      have e5 : (if zin (nI jv3) 4 then upd sz (tn (nI jv3)) (-1) else sz) = (upd sz jv3 (-1)) := by simp [hq2, hc3, hn1]
      exact z_iret X ZF dX5_lose_32 (by simp [hq2, hc3, hn1]) (by rw [e5])
    ·
      have hfz := vle_lt (hle _ (by omega)) hq4
      refine z_iconst (v := nI 0) X dX5_lose_18 (by decide) ?_
      refine z_goto (tgt := 23) X dX5_lose_19 (by decide) ?_
      refine z_istore_n (L' := [(2, .int (nI 0)), (0, .ref (b 0)), (1, .int (nI jv3))]) X dX5_lose_23 rfl (by decide) rfl ?_
      refine z_aload_n X dX5_lose_24 rfl 1 rfl ?_
      refine z_get (v := .ref (b 15)) (N := 29) X i_RX5 (ci := 4) rfl 0 rfl 24 (by decide) f_57 rfl dX5_lose_25 ?_
      refine z_iload_n X dX5_lose_28 rfl 2 rfl ?_
      refine z_iconst (v := (-1)) X dX5_lose_29 (by decide) ?_
      refine z_iastN (ws' := (wM g b ft so D E tr C lk kd st sp nd rO rB rD rW (upd sz jv3 (-1)) sl sc sm xa xb xc xd y1 y2 y3 y4 y5 hn)) X 15 rfl (by omega) (by omega) dX5_lose_30 rfl ?_
      refine z_iload_n X dX5_lose_31 rfl 0 rfl ?_
      have e6 : (if zin (nI jv3) 4 then upd sz (tn (nI jv3)) (-1) else sz) = (upd sz jv3 (-1)) := by simp [hq2, hc3, hfz]
      exact z_iret X ZF dX5_lose_32 (by simp [hq2, hc3, hfz]) (by rw [e6])
  ·
    have hq7 : (zin k 4) = false := by simpa using hq1
    refine z_iconst (v := (-1)) X dX5_lose_7 (by decide) ?_
    have e8 : (if zin k 4 then upd sz (tn k) (-1) else sz) = sz := by simp [hq7]
    exact z_iret X ZF dX5_lose_8 (by simp [hq7]) (by rw [e8])
abbrev rX5_duchy : Room := { frames := 4, cells := 0, slots := 0, locals := 100 }
set_option maxHeartbeats 4000000 in
set_option maxRecDepth 100000 in
theorem c_X5_duchy (l : Launch) (g : zg) (b : Nat → Nat) (ft : Int32) (so : Int32) (D : Nat) (E : Nat) (tr : Int32) (C : Nat) (lk : Nat → Int32) (kd : Nat → Int32) (st : Nat → Int32) (sp : Nat → Int32) (nd : Nat → Int32) (rO : Nat → Int32) (rB : Nat → Int32) (rD : Nat → Int32) (rW : Nat → Int32) (sz : Nat → Int32) (sl : Nat → Int32) (sc : Nat → Int32) (sm : Int32) (xa : Nat) (xb : Int32) (xc : Nat) (xd : Nat) (y1 : Nat → Int32) (y2 : Nat → Int32) (y3 : Nat → Int32) (y4 : Nat → Int32) (y5 : Nat → Int32) (hn : Nat → Int32) (k : Int32) (lane : Int32) (i : Int32) (n : Int32) (hle : ∀ k_, k_ < 4 → vle (sz k_)) (hE : E ≤ 4) (hD : D ≤ 6) : zM l g yX5_duchy wsX5_duchy rX5_duchy [.ref (b 0), .int k, .int lane, .int i, .int n] (wM g b ft so D E tr C lk kd st sp nd rO rB rD rW sz sl sc sm xa xb xc xd y1 y2 y3 y4 y5 hn) (some (.int (if zin k 4 then dur lane (foc (sl (tn k)) (sz (tn k)) lane i n) (fr0 sc (60 * tn k + tn i) (tn n)) (tea (tn n) (tdy sc (60 * tn k + tn i) (tn n))) else -1))) (wM g b (if zin k 4 && zin lane 3 then (foc (sl (tn k)) (sz (tn k)) lane i n) else nI 0) (if zin k 4 && duk lane (foc (sl (tn k)) (sz (tn k)) lane i n) (fr0 sc (60 * tn k + tn i) (tn n)) then sc ((60 * tn k + tn i) + 1) - nI 48 else so) (if zin k 4 && duk lane (foc (sl (tn k)) (sz (tn k)) lane i n) (fr0 sc (60 * tn k + tn i) (tn n)) then (tdy sc (60 * tn k + tn i) (tn n)) else D) (if zin k 4 && duk lane (foc (sl (tn k)) (sz (tn k)) lane i n) (fr0 sc (60 * tn k + tn i) (tn n)) then (tea (tn n) (tdy sc (60 * tn k + tn i) (tn n))) else E) tr (if zin k 4 && duk lane (foc (sl (tn k)) (sz (tn k)) lane i n) (fr0 sc (60 * tn k + tn i) (tn n)) then 0 else C) (if zin k 4 && duk lane (foc (sl (tn k)) (sz (tn k)) lane i n) (fr0 sc (60 * tn k + tn i) (tn n)) then tlk sc (60 * tn k + tn i) lk (tdy sc (60 * tn k + tn i) (tn n)) else lk) (if zin k 4 && duk lane (foc (sl (tn k)) (sz (tn k)) lane i n) (fr0 sc (60 * tn k + tn i) (tn n)) then tkd sc (60 * tn k + tn i) (3 + (tdy sc (60 * tn k + tn i) (tn n))) kd (tea (tn n) (tdy sc (60 * tn k + tn i) (tn n))) else kd) (if zin k 4 && duk lane (foc (sl (tn k)) (sz (tn k)) lane i n) (fr0 sc (60 * tn k + tn i) (tn n)) then tst sc (60 * tn k + tn i) (3 + (tdy sc (60 * tn k + tn i) (tn n))) 2 st (tea (tn n) (tdy sc (60 * tn k + tn i) (tn n))) else st) (if zin k 4 && duk lane (foc (sl (tn k)) (sz (tn k)) lane i n) (fr0 sc (60 * tn k + tn i) (tn n)) then tst sc (60 * tn k + tn i) (3 + (tdy sc (60 * tn k + tn i) (tn n))) 3 sp (tea (tn n) (tdy sc (60 * tn k + tn i) (tn n))) else sp) (if zin k 4 && duk lane (foc (sl (tn k)) (sz (tn k)) lane i n) (fr0 sc (60 * tn k + tn i) (tn n)) then tst sc (60 * tn k + tn i) (3 + (tdy sc (60 * tn k + tn i) (tn n))) 4 nd (tea (tn n) (tdy sc (60 * tn k + tn i) (tn n))) else nd) rO rB rD rW sz sl sc sm (if zin k 4 && zin lane 3 && decide ((foc (sl (tn k)) (sz (tn k)) lane i n) = 0) then pXA sc (60 * tn k + tn i) (tn n) else xa) (if zin k 4 && zin lane 3 && decide ((foc (sl (tn k)) (sz (tn k)) lane i n) = 0) then pXB sc (60 * tn k + tn i) (tn n) else xb) (if zin k 4 && zin lane 3 && decide ((foc (sl (tn k)) (sz (tn k)) lane i n) = 0) then pXC sc (60 * tn k + tn i) (tn n) else xc) (if zin k 4 && zin lane 3 && decide ((foc (sl (tn k)) (sz (tn k)) lane i n) = 0) then pXD sc (60 * tn k + tn i) (tn n) else xd) (if zin k 4 && zin lane 3 && decide ((foc (sl (tn k)) (sz (tn k)) lane i n) = 0) then tlk sc (60 * tn k + tn i) y1 (pXC sc (60 * tn k + tn i) (tn n)) else y1) (if zin k 4 && zin lane 3 && decide ((foc (sl (tn k)) (sz (tn k)) lane i n) = 0) then tkd sc (60 * tn k + tn i) (3 + pXC sc (60 * tn k + tn i) (tn n)) y2 (pXD sc (60 * tn k + tn i) (tn n)) else y2) (if zin k 4 && zin lane 3 && decide ((foc (sl (tn k)) (sz (tn k)) lane i n) = 0) then tst sc (60 * tn k + tn i) (3 + pXC sc (60 * tn k + tn i) (tn n)) 2 y3 (pXD sc (60 * tn k + tn i) (tn n)) else y3) (if zin k 4 && zin lane 3 && decide ((foc (sl (tn k)) (sz (tn k)) lane i n) = 0) then tst sc (60 * tn k + tn i) (3 + pXC sc (60 * tn k + tn i) (tn n)) 3 y4 (pXD sc (60 * tn k + tn i) (tn n)) else y4) (if zin k 4 && zin lane 3 && decide ((foc (sl (tn k)) (sz (tn k)) lane i n) = 0) then tst sc (60 * tn k + tn i) (3 + pXC sc (60 * tn k + tn i) (tn n)) 4 y5 (pXD sc (60 * tn k + tn i) (tn n)) else y5) hn) := by
  refine z_met (own := RX5) (cc := cX5_duchy) (maxL := 7) (ret := some .int) (by decide +kernel) rfl rfl (Nat.le_of_ble_eq_true rfl) ?_
  intro M X ZF
  refine z_Le (L' := [(0, .ref (b 0)), (1, .int k), (2, .int lane), (3, .int i), (4, .int n)]) rfl ?_
  have k_130 : Cond.constantLong RX5 130 (2) ∈ wsX5_duchy := by decide +kernel
  have i_RX5 : ∀ w ∈ wsX50, w ∈ wsX5_duchy := by decide +kernel
  have f_105 : Cond.fieldLink RX5 105 (TX5 11).1 (TX5 11).2.1 (TX5 11).2.2.1 ∈ wsX5_duchy := by decide +kernel
  have f_139 : Cond.fieldLink RX5 139 (TX5 1).1 (TX5 1).2.1 (TX5 1).2.2.1 ∈ wsX5_duchy := by decide +kernel
  have f_95 : Cond.fieldLink RX5 95 (TX5 12).1 (TX5 12).2.1 (TX5 12).2.2.1 ∈ wsX5_duchy := by decide +kernel
  have f_78 : Cond.fieldLink RX5 78 (TX5 2).1 (TX5 2).2.1 (TX5 2).2.2.1 ∈ wsX5_duchy := by decide +kernel
  have f_102 : Cond.fieldLink RX5 102 (TX5 13).1 (TX5 13).2.1 (TX5 13).2.2.1 ∈ wsX5_duchy := by decide +kernel
  have f_85 : Cond.fieldLink RX5 85 (TX5 4).1 (TX5 4).2.1 (TX5 4).2.2.1 ∈ wsX5_duchy := by decide +kernel
  have f_142 : Cond.fieldLink RX5 142 (TX5 19).1 (TX5 19).2.1 (TX5 19).2.2.1 ∈ wsX5_duchy := by decide +kernel
  have f_13 : Cond.fieldLink RX5 13 (TX5 5).1 (TX5 5).2.1 (TX5 5).2.2.1 ∈ wsX5_duchy := by decide +kernel
  have f_32 : Cond.fieldLink RX5 32 (TX5 15).1 (TX5 15).2.1 (TX5 15).2.2.1 ∈ wsX5_duchy := by decide +kernel
  have f_16 : Cond.fieldLink RX5 16 (TX5 6).1 (TX5 6).2.1 (TX5 6).2.2.1 ∈ wsX5_duchy := by decide +kernel
  have f_35 : Cond.fieldLink RX5 35 (TX5 16).1 (TX5 16).2.1 (TX5 16).2.2.1 ∈ wsX5_duchy := by decide +kernel
  have f_19 : Cond.fieldLink RX5 19 (TX5 7).1 (TX5 7).2.1 (TX5 7).2.2.1 ∈ wsX5_duchy := by decide +kernel
  have f_38 : Cond.fieldLink RX5 38 (TX5 17).1 (TX5 17).2.1 (TX5 17).2.2.1 ∈ wsX5_duchy := by decide +kernel
  have f_22 : Cond.fieldLink RX5 22 (TX5 8).1 (TX5 8).2.1 (TX5 8).2.2.1 ∈ wsX5_duchy := by decide +kernel
  have f_41 : Cond.fieldLink RX5 41 (TX5 18).1 (TX5 18).2.1 (TX5 18).2.2.1 ∈ wsX5_duchy := by decide +kernel
  have f_7 : Cond.fieldLink RX5 7 (TX5 3).1 (TX5 3).2.1 (TX5 3).2.2.1 ∈ wsX5_duchy := by decide +kernel
  have f_29 : Cond.fieldLink RX5 29 (TX5 14).1 (TX5 14).2.1 (TX5 14).2.2.1 ∈ wsX5_duchy := by decide +kernel
  have f_88 : Cond.fieldLink RX5 88 (TX5 10).1 (TX5 10).2.1 (TX5 10).2.2.1 ∈ wsX5_duchy := by decide +kernel
  refine z_iload_n X dX5_duchy_0 rfl 1 rfl ?_
  refine z_callS0 X (c_X5_noSheet l g k) gX5_duchy_X5_noSheet rfl ⟨rfl, rfl⟩ (by decide +kernel) ⟨Nat.le_of_ble_eq_true rfl, Nat.le_of_ble_eq_true rfl⟩ ZF.room (As := [.int k]) (n := 1) rfl rfl (st1 := [.int (bI (!zin k 4))]) rfl (Nat.le_of_ble_eq_true rfl) dX5_duchy_1 ?_
  refine z_if_eqB (tgt := 13) X dX5_duchy_4 (by decide) (fun hq1 => ?_) (fun hq1 => ?_)
  ·
    have hq2 : (zin k 4) = true := by simpa using hq1
    obtain ⟨jv3, hj3, ej3⟩ := zin_t (by omega) hq2
    subst ej3
    have hc3 : tn (nI jv3) = jv3 := nI_clamp (by omega)
    refine z_iload_n X dX5_duchy_13 rfl 2 rfl ?_
    refine z_i2l (v := (lane).toInt64) X dX5_duchy_14 rfl ?_
    refine z_lconst (v := 0) X dX5_duchy_15 (by decide) ?_
    refine z_ldc2 (v := 2) X dX5_duchy_16 k_130 ?_
    refine z_callS0 X (c_X5_in l g ((lane).toInt64) 0 2) gX5_duchy_X5_in rfl ⟨rfl, rfl⟩ (by decide +kernel) ⟨Nat.le_of_ble_eq_true rfl, Nat.le_of_ble_eq_true rfl⟩ ZF.room (As := [.long ((lane).toInt64), .long 0, .long 2]) (n := 3) rfl rfl (st1 := [.int (bI (zil ((lane).toInt64) 0 2))]) rfl (Nat.le_of_ble_eq_true rfl) dX5_duchy_19 ?_
    refine z_top (y := bI (zin lane 3)) (bI_eq (zil_k (n := 2) (by decide +kernel) (by omega))) ?_
    refine z_if_neB (tgt := 32) X dX5_duchy_22 (by decide) (fun hq4 => ?_) (fun hq4 => ?_)
    ·
      obtain ⟨jv5, hj5, ej5⟩ := zin_t (by omega) hq4
      subst ej5
      have hc5 : tn (nI jv5) = jv5 := nI_clamp (by omega)
      refine z_aload_n X dX5_duchy_32 rfl 0 rfl ?_
      refine z_iload_n X dX5_duchy_33 rfl 1 rfl ?_
      refine z_iload_n X dX5_duchy_34 rfl 2 rfl ?_
      refine z_iload_n X dX5_duchy_35 rfl 3 rfl ?_
      refine z_iload X dX5_duchy_36 4 rfl ?_
      refine z_i2l (v := (n).toInt64) X dX5_duchy_38 rfl ?_
      refine z_callVM X (c_X5_cellsBarred l g b ft so D E tr C lk kd st sp nd rO rB rD rW sz sl sc sm xa xb xc xd y1 y2 y3 y4 y5 hn jv3 (nI jv5) i n (by omega) (by first | assumption | omega)) gX5_duchy_X5_cellsBarred rfl ⟨rfl, rfl⟩ (by decide +kernel) ⟨Nat.le_of_ble_eq_true rfl, Nat.le_of_ble_eq_true rfl⟩ ZF.room (ci := 4) rfl 0 rfl rfl (As := [.int (nI jv3), .int (nI jv5), .int i, .long ((n).toInt64)]) (n := 4) rfl rfl (st1 := [.int (cbI (foc (sl jv3) (sz jv3) (nI jv5) i n))]) rfl (Nat.le_of_ble_eq_true rfl) dX5_duchy_39 ?_
      by_cases hfo : foc (sl jv3) (sz jv3) (nI jv5) i n = 0
      ·
        refine z_top (y := nI 0) (cb_0 hfo) ?_
        refine z_ws (ws' := (wM g b ft so D E tr C lk kd st sp nd rO rB rD rW sz sl sc sm xa xb xc xd y1 y2 y3 y4 y5 hn)) (by rw [if_pos hfo]) ?_
        obtain ⟨i_a, n_a, ei_a, en_a, hin_a, m_a, hm_a, him_a⟩ := foc0 (hle _ (by omega)) hfo
        subst ei_a; subst en_a
        have hti_a : tn (nI i_a) = i_a := nI_clamp (by omega)
        have htn_a : tn (nI n_a) = n_a := nI_clamp (by omega)
        refine z_istore (L' := [(5, .int (nI 0)), (0, .ref (b 0)), (1, .int (nI jv3)), (2, .int (nI jv5)), (3, .int (nI i_a)), (4, .int (nI n_a))]) X dX5_duchy_42 (by decide) rfl ?_
        refine z_iload X dX5_duchy_44 0 rfl ?_
        refine z_if_geN (tgt := 52) X dX5_duchy_46 (by decide) (by omega) (fun hq6 => ?_) (fun hq6 => ?_)
        ·
          refine z_aload_n X dX5_duchy_52 rfl 1 rfl ?_
          refine z_bipush (v := nI 60) X dX5_duchy_53 (by decide) ?_
          refine z_iload_n X dX5_duchy_55 rfl 2 rfl ?_
          refine z_imul' (v := nI (60 * jv3)) X dX5_duchy_56 (pk_mul _ _) ?_
          refine z_iload_n X dX5_duchy_57 rfl 4 rfl ?_
          refine z_iadd' (v := nI ((60 * jv3) + i_a)) X dX5_duchy_58 (nI_add _ _) ?_
          refine z_iload X dX5_duchy_59 5 rfl ?_
          refine z_callVM X (c_X5_readsDuchy l g b ft so D E tr C lk kd st sp nd rO rB rD rW sz sl sc sm xa xb xc xd y1 y2 y3 y4 y5 hn ((60 * jv3) + i_a) n_a (by omega)) gX5_duchy_X5_readsDuchy rfl ⟨rfl, rfl⟩ (by decide +kernel) ⟨Nat.le_of_ble_eq_true rfl, Nat.le_of_ble_eq_true rfl⟩ ZF.room (ci := 4) rfl 0 rfl rfl (As := [.int (nI ((60 * jv3) + i_a)), .int (nI n_a)]) (n := 2) rfl rfl (st1 := [.int (bI (decide (fr0 sc ((60 * jv3) + i_a) n_a = (-1))))]) rfl (Nat.le_of_ble_eq_true rfl) dX5_duchy_61 ?_
          refine z_if_neB (tgt := 79) X dX5_duchy_64 (by decide) (fun hq7 => ?_) (fun hq7 => ?_)
          ·
            have hq8 : (fr0 sc ((60 * jv3) + i_a) n_a = (-1)) := of_decide_eq_true hq7
            obtain ⟨eXA, eXB, eXC, eXD⟩ := pX_ok hq8
            refine z_ws (ws' := (wM g b ft so D E tr C lk kd st sp nd rO rB rD rW sz sl sc sm n_a (sc (((60 * jv3) + i_a) + 1) - nI 48) (tdy sc ((60 * jv3) + i_a) n_a) (tea n_a (tdy sc ((60 * jv3) + i_a) n_a)) (tlk sc ((60 * jv3) + i_a) y1 (tdy sc ((60 * jv3) + i_a) n_a)) (tkd sc ((60 * jv3) + i_a) (3 + (tdy sc ((60 * jv3) + i_a) n_a)) y2 (tea n_a (tdy sc ((60 * jv3) + i_a) n_a))) (tst sc ((60 * jv3) + i_a) (3 + (tdy sc ((60 * jv3) + i_a) n_a)) 2 y3 (tea n_a (tdy sc ((60 * jv3) + i_a) n_a))) (tst sc ((60 * jv3) + i_a) (3 + (tdy sc ((60 * jv3) + i_a) n_a)) 3 y4 (tea n_a (tdy sc ((60 * jv3) + i_a) n_a))) (tst sc ((60 * jv3) + i_a) (3 + (tdy sc ((60 * jv3) + i_a) n_a)) 4 y5 (tea n_a (tdy sc ((60 * jv3) + i_a) n_a))) hn)) (by rw [eXA, eXB, eXC, eXD]) ?_
            have ht6 := tdy_le6 (f := sc) (b := ((60 * jv3) + i_a)) (n := n_a)
            have he4 := tea_le (n := n_a) (D := (tdy sc ((60 * jv3) + i_a) n_a))
            refine z_aload_n X dX5_duchy_79 rfl 1 rfl ?_
            refine z_aload_n X dX5_duchy_80 rfl 1 rfl ?_
            refine z_get (v := .int (sc (((60 * jv3) + i_a) + 1) - nI 48)) (N := 29) X i_RX5 (ci := 4) rfl 0 rfl 11 (by decide) f_105 rfl dX5_duchy_81 ?_
            refine z_put (ws' := (wM g b ft (sc (((60 * jv3) + i_a) + 1) - nI 48) D E tr C lk kd st sp nd rO rB rD rW sz sl sc sm n_a (sc (((60 * jv3) + i_a) + 1) - nI 48) (tdy sc ((60 * jv3) + i_a) n_a) (tea n_a (tdy sc ((60 * jv3) + i_a) n_a)) (tlk sc ((60 * jv3) + i_a) y1 (tdy sc ((60 * jv3) + i_a) n_a)) (tkd sc ((60 * jv3) + i_a) (3 + (tdy sc ((60 * jv3) + i_a) n_a)) y2 (tea n_a (tdy sc ((60 * jv3) + i_a) n_a))) (tst sc ((60 * jv3) + i_a) (3 + (tdy sc ((60 * jv3) + i_a) n_a)) 2 y3 (tea n_a (tdy sc ((60 * jv3) + i_a) n_a))) (tst sc ((60 * jv3) + i_a) (3 + (tdy sc ((60 * jv3) + i_a) n_a)) 3 y4 (tea n_a (tdy sc ((60 * jv3) + i_a) n_a))) (tst sc ((60 * jv3) + i_a) (3 + (tdy sc ((60 * jv3) + i_a) n_a)) 4 y5 (tea n_a (tdy sc ((60 * jv3) + i_a) n_a))) hn)) (N := 29) X i_RX5 (ci := 4) rfl tyX5 tyX5_ok nmX5 0 rfl 1 (by decide) f_139 rfl (ty := .int) (by decide +kernel) rfl rfl (Nat.le_of_ble_eq_true rfl) dX5_duchy_84 rfl ?_
            refine z_aload_n X dX5_duchy_87 rfl 1 rfl ?_
            refine z_aload_n X dX5_duchy_88 rfl 1 rfl ?_
            refine z_get (v := .int (nI (tdy sc ((60 * jv3) + i_a) n_a))) (N := 29) X i_RX5 (ci := 4) rfl 0 rfl 12 (by decide) f_95 rfl dX5_duchy_89 ?_
            refine z_put (ws' := (wM g b ft (sc (((60 * jv3) + i_a) + 1) - nI 48) (tdy sc ((60 * jv3) + i_a) n_a) E tr C lk kd st sp nd rO rB rD rW sz sl sc sm n_a (sc (((60 * jv3) + i_a) + 1) - nI 48) (tdy sc ((60 * jv3) + i_a) n_a) (tea n_a (tdy sc ((60 * jv3) + i_a) n_a)) (tlk sc ((60 * jv3) + i_a) y1 (tdy sc ((60 * jv3) + i_a) n_a)) (tkd sc ((60 * jv3) + i_a) (3 + (tdy sc ((60 * jv3) + i_a) n_a)) y2 (tea n_a (tdy sc ((60 * jv3) + i_a) n_a))) (tst sc ((60 * jv3) + i_a) (3 + (tdy sc ((60 * jv3) + i_a) n_a)) 2 y3 (tea n_a (tdy sc ((60 * jv3) + i_a) n_a))) (tst sc ((60 * jv3) + i_a) (3 + (tdy sc ((60 * jv3) + i_a) n_a)) 3 y4 (tea n_a (tdy sc ((60 * jv3) + i_a) n_a))) (tst sc ((60 * jv3) + i_a) (3 + (tdy sc ((60 * jv3) + i_a) n_a)) 4 y5 (tea n_a (tdy sc ((60 * jv3) + i_a) n_a))) hn)) (N := 29) X i_RX5 (ci := 4) rfl tyX5 tyX5_ok nmX5 0 rfl 2 (by decide) f_78 rfl (ty := .int) (by decide +kernel) rfl rfl (Nat.le_of_ble_eq_true rfl) dX5_duchy_92 rfl ?_
            refine z_aload_n X dX5_duchy_95 rfl 1 rfl ?_
            refine z_aload_n X dX5_duchy_96 rfl 1 rfl ?_
            refine z_get (v := .int (nI (tea n_a (tdy sc ((60 * jv3) + i_a) n_a)))) (N := 29) X i_RX5 (ci := 4) rfl 0 rfl 13 (by decide) f_102 rfl dX5_duchy_97 ?_
            refine z_put (ws' := (wM g b ft (sc (((60 * jv3) + i_a) + 1) - nI 48) (tdy sc ((60 * jv3) + i_a) n_a) (tea n_a (tdy sc ((60 * jv3) + i_a) n_a)) tr C lk kd st sp nd rO rB rD rW sz sl sc sm n_a (sc (((60 * jv3) + i_a) + 1) - nI 48) (tdy sc ((60 * jv3) + i_a) n_a) (tea n_a (tdy sc ((60 * jv3) + i_a) n_a)) (tlk sc ((60 * jv3) + i_a) y1 (tdy sc ((60 * jv3) + i_a) n_a)) (tkd sc ((60 * jv3) + i_a) (3 + (tdy sc ((60 * jv3) + i_a) n_a)) y2 (tea n_a (tdy sc ((60 * jv3) + i_a) n_a))) (tst sc ((60 * jv3) + i_a) (3 + (tdy sc ((60 * jv3) + i_a) n_a)) 2 y3 (tea n_a (tdy sc ((60 * jv3) + i_a) n_a))) (tst sc ((60 * jv3) + i_a) (3 + (tdy sc ((60 * jv3) + i_a) n_a)) 3 y4 (tea n_a (tdy sc ((60 * jv3) + i_a) n_a))) (tst sc ((60 * jv3) + i_a) (3 + (tdy sc ((60 * jv3) + i_a) n_a)) 4 y5 (tea n_a (tdy sc ((60 * jv3) + i_a) n_a))) hn)) (N := 29) X i_RX5 (ci := 4) rfl tyX5 tyX5_ok nmX5 0 rfl 4 (by decide) f_85 rfl (ty := .int) (by decide +kernel) rfl rfl (Nat.le_of_ble_eq_true rfl) dX5_duchy_100 rfl ?_
            refine z_iconst (v := nI 0) X dX5_duchy_103 (by decide) ?_
            refine z_istore (L' := [(6, .int (nI 0)), (5, .int (nI 0)), (0, .ref (b 0)), (1, .int (nI jv3)), (2, .int (nI jv5)), (3, .int (nI i_a)), (4, .int (nI n_a))]) X dX5_duchy_104 (by decide) rfl ?_
            have loopv9 : ∀ (n9 d_v : Nat), d_v ≤ tdy sc ((60 * jv3) + i_a) n_a → tdy sc ((60 * jv3) + i_a) n_a + 1 ≤ d_v + n9 → zG l g 7 M (wM g b ft (sc (((60 * jv3) + i_a) + 1) - nI 48) (tdy sc ((60 * jv3) + i_a) n_a) (tea n_a (tdy sc ((60 * jv3) + i_a) n_a)) tr C (cpl lk (tlk sc ((60 * jv3) + i_a) y1 (tdy sc ((60 * jv3) + i_a) n_a)) d_v) kd st sp nd rO rB rD rW sz sl sc sm n_a (sc (((60 * jv3) + i_a) + 1) - nI 48) (tdy sc ((60 * jv3) + i_a) n_a) (tea n_a (tdy sc ((60 * jv3) + i_a) n_a)) (tlk sc ((60 * jv3) + i_a) y1 (tdy sc ((60 * jv3) + i_a) n_a)) (tkd sc ((60 * jv3) + i_a) (3 + (tdy sc ((60 * jv3) + i_a) n_a)) y2 (tea n_a (tdy sc ((60 * jv3) + i_a) n_a))) (tst sc ((60 * jv3) + i_a) (3 + (tdy sc ((60 * jv3) + i_a) n_a)) 2 y3 (tea n_a (tdy sc ((60 * jv3) + i_a) n_a))) (tst sc ((60 * jv3) + i_a) (3 + (tdy sc ((60 * jv3) + i_a) n_a)) 3 y4 (tea n_a (tdy sc ((60 * jv3) + i_a) n_a))) (tst sc ((60 * jv3) + i_a) (3 + (tdy sc ((60 * jv3) + i_a) n_a)) 4 y5 (tea n_a (tdy sc ((60 * jv3) + i_a) n_a))) hn) [(0, .ref (b 0)), (1, .int (nI jv3)), (2, .int (nI jv5)), (3, .int (nI i_a)), (4, .int (nI n_a)), (5, .int (nI 0)), (6, .int (nI d_v))] 106 [] := by
              intro n9
              induction n9 with
              | zero => intro d_v h1 h2; exact absurd h2 (by omega)
              | succ n9 ih9 =>
                intro d_v hi9 hn9
                refine z_iload X dX5_duchy_106 6 rfl ?_
                refine z_aload_n X dX5_duchy_108 rfl 0 rfl ?_
                refine z_get (v := .int (nI (tdy sc ((60 * jv3) + i_a) n_a))) (N := 29) X i_RX5 (ci := 4) rfl 0 rfl 2 (by decide) f_78 rfl dX5_duchy_109 ?_
                refine z_icmp_geN (tgt := 135) X dX5_duchy_112 (by decide) (by omega) (by omega) (fun hq10 => ?_) (fun hq10 => ?_)
                ·
                  have hde : d_v = (tdy sc ((60 * jv3) + i_a) n_a) := by omega
                  refine z_ws (ws' := (wM g b ft (sc (((60 * jv3) + i_a) + 1) - nI 48) (tdy sc ((60 * jv3) + i_a) n_a) (tea n_a (tdy sc ((60 * jv3) + i_a) n_a)) tr C (tlk sc ((60 * jv3) + i_a) lk (tdy sc ((60 * jv3) + i_a) n_a)) kd st sp nd rO rB rD rW sz sl sc sm n_a (sc (((60 * jv3) + i_a) + 1) - nI 48) (tdy sc ((60 * jv3) + i_a) n_a) (tea n_a (tdy sc ((60 * jv3) + i_a) n_a)) (tlk sc ((60 * jv3) + i_a) y1 (tdy sc ((60 * jv3) + i_a) n_a)) (tkd sc ((60 * jv3) + i_a) (3 + (tdy sc ((60 * jv3) + i_a) n_a)) y2 (tea n_a (tdy sc ((60 * jv3) + i_a) n_a))) (tst sc ((60 * jv3) + i_a) (3 + (tdy sc ((60 * jv3) + i_a) n_a)) 2 y3 (tea n_a (tdy sc ((60 * jv3) + i_a) n_a))) (tst sc ((60 * jv3) + i_a) (3 + (tdy sc ((60 * jv3) + i_a) n_a)) 3 y4 (tea n_a (tdy sc ((60 * jv3) + i_a) n_a))) (tst sc ((60 * jv3) + i_a) (3 + (tdy sc ((60 * jv3) + i_a) n_a)) 4 y5 (tea n_a (tdy sc ((60 * jv3) + i_a) n_a))) hn)) (by rw [hde, cpl_tlk]) ?_
                  refine z_iconst (v := nI 0) X dX5_duchy_135 (by decide) ?_
                  refine z_istore (L' := [(6, .int (nI 0)), (0, .ref (b 0)), (1, .int (nI jv3)), (2, .int (nI jv5)), (3, .int (nI i_a)), (4, .int (nI n_a)), (5, .int (nI 0))]) X dX5_duchy_136 (by decide) rfl ?_
                  have loopv11 : ∀ (n11 e_v : Nat), e_v ≤ tea n_a (tdy sc ((60 * jv3) + i_a) n_a) → tea n_a (tdy sc ((60 * jv3) + i_a) n_a) + 1 ≤ e_v + n11 → zG l g 7 M (wM g b ft (sc (((60 * jv3) + i_a) + 1) - nI 48) (tdy sc ((60 * jv3) + i_a) n_a) (tea n_a (tdy sc ((60 * jv3) + i_a) n_a)) tr C (tlk sc ((60 * jv3) + i_a) lk (tdy sc ((60 * jv3) + i_a) n_a)) (cpl kd (tkd sc ((60 * jv3) + i_a) (3 + (tdy sc ((60 * jv3) + i_a) n_a)) y2 (tea n_a (tdy sc ((60 * jv3) + i_a) n_a))) e_v) (cpl st (tst sc ((60 * jv3) + i_a) (3 + (tdy sc ((60 * jv3) + i_a) n_a)) 2 y3 (tea n_a (tdy sc ((60 * jv3) + i_a) n_a))) e_v) (cpl sp (tst sc ((60 * jv3) + i_a) (3 + (tdy sc ((60 * jv3) + i_a) n_a)) 3 y4 (tea n_a (tdy sc ((60 * jv3) + i_a) n_a))) e_v) (cpl nd (tst sc ((60 * jv3) + i_a) (3 + (tdy sc ((60 * jv3) + i_a) n_a)) 4 y5 (tea n_a (tdy sc ((60 * jv3) + i_a) n_a))) e_v) rO rB rD rW sz sl sc sm n_a (sc (((60 * jv3) + i_a) + 1) - nI 48) (tdy sc ((60 * jv3) + i_a) n_a) (tea n_a (tdy sc ((60 * jv3) + i_a) n_a)) (tlk sc ((60 * jv3) + i_a) y1 (tdy sc ((60 * jv3) + i_a) n_a)) (tkd sc ((60 * jv3) + i_a) (3 + (tdy sc ((60 * jv3) + i_a) n_a)) y2 (tea n_a (tdy sc ((60 * jv3) + i_a) n_a))) (tst sc ((60 * jv3) + i_a) (3 + (tdy sc ((60 * jv3) + i_a) n_a)) 2 y3 (tea n_a (tdy sc ((60 * jv3) + i_a) n_a))) (tst sc ((60 * jv3) + i_a) (3 + (tdy sc ((60 * jv3) + i_a) n_a)) 3 y4 (tea n_a (tdy sc ((60 * jv3) + i_a) n_a))) (tst sc ((60 * jv3) + i_a) (3 + (tdy sc ((60 * jv3) + i_a) n_a)) 4 y5 (tea n_a (tdy sc ((60 * jv3) + i_a) n_a))) hn) [(0, .ref (b 0)), (1, .int (nI jv3)), (2, .int (nI jv5)), (3, .int (nI i_a)), (4, .int (nI n_a)), (5, .int (nI 0)), (6, .int (nI e_v))] 138 [] := by
                    intro n11
                    induction n11 with
                    | zero => intro e_v h1 h2; exact absurd h2 (by omega)
                    | succ n11 ih11 =>
                      intro e_v hi11 hn11
                      refine z_iload X dX5_duchy_138 6 rfl ?_
                      refine z_aload_n X dX5_duchy_140 rfl 0 rfl ?_
                      refine z_get (v := .int (nI (tea n_a (tdy sc ((60 * jv3) + i_a) n_a)))) (N := 29) X i_RX5 (ci := 4) rfl 0 rfl 4 (by decide) f_85 rfl dX5_duchy_141 ?_
                      refine z_icmp_geN (tgt := 209) X dX5_duchy_144 (by decide) (by omega) (by omega) (fun hq12 => ?_) (fun hq12 => ?_)
                      ·
                        have hee : e_v = (tea n_a (tdy sc ((60 * jv3) + i_a) n_a)) := by omega
                        refine z_ws (ws' := (wM g b ft (sc (((60 * jv3) + i_a) + 1) - nI 48) (tdy sc ((60 * jv3) + i_a) n_a) (tea n_a (tdy sc ((60 * jv3) + i_a) n_a)) tr C (tlk sc ((60 * jv3) + i_a) lk (tdy sc ((60 * jv3) + i_a) n_a)) (tkd sc ((60 * jv3) + i_a) (3 + (tdy sc ((60 * jv3) + i_a) n_a)) kd (tea n_a (tdy sc ((60 * jv3) + i_a) n_a))) (tst sc ((60 * jv3) + i_a) (3 + (tdy sc ((60 * jv3) + i_a) n_a)) 2 st (tea n_a (tdy sc ((60 * jv3) + i_a) n_a))) (tst sc ((60 * jv3) + i_a) (3 + (tdy sc ((60 * jv3) + i_a) n_a)) 3 sp (tea n_a (tdy sc ((60 * jv3) + i_a) n_a))) (tst sc ((60 * jv3) + i_a) (3 + (tdy sc ((60 * jv3) + i_a) n_a)) 4 nd (tea n_a (tdy sc ((60 * jv3) + i_a) n_a))) rO rB rD rW sz sl sc sm n_a (sc (((60 * jv3) + i_a) + 1) - nI 48) (tdy sc ((60 * jv3) + i_a) n_a) (tea n_a (tdy sc ((60 * jv3) + i_a) n_a)) (tlk sc ((60 * jv3) + i_a) y1 (tdy sc ((60 * jv3) + i_a) n_a)) (tkd sc ((60 * jv3) + i_a) (3 + (tdy sc ((60 * jv3) + i_a) n_a)) y2 (tea n_a (tdy sc ((60 * jv3) + i_a) n_a))) (tst sc ((60 * jv3) + i_a) (3 + (tdy sc ((60 * jv3) + i_a) n_a)) 2 y3 (tea n_a (tdy sc ((60 * jv3) + i_a) n_a))) (tst sc ((60 * jv3) + i_a) (3 + (tdy sc ((60 * jv3) + i_a) n_a)) 3 y4 (tea n_a (tdy sc ((60 * jv3) + i_a) n_a))) (tst sc ((60 * jv3) + i_a) (3 + (tdy sc ((60 * jv3) + i_a) n_a)) 4 y5 (tea n_a (tdy sc ((60 * jv3) + i_a) n_a))) hn)) (by rw [hee, cpl_tkd, cpl_tst, cpl_tst, cpl_tst]) ?_
                        refine z_aload_n X dX5_duchy_209 rfl 0 rfl ?_
                        refine z_iconst (v := nI 0) X dX5_duchy_210 (by decide) ?_
                        refine z_put (ws' := (wM g b ft (sc (((60 * jv3) + i_a) + 1) - nI 48) (tdy sc ((60 * jv3) + i_a) n_a) (tea n_a (tdy sc ((60 * jv3) + i_a) n_a)) tr 0 (tlk sc ((60 * jv3) + i_a) lk (tdy sc ((60 * jv3) + i_a) n_a)) (tkd sc ((60 * jv3) + i_a) (3 + (tdy sc ((60 * jv3) + i_a) n_a)) kd (tea n_a (tdy sc ((60 * jv3) + i_a) n_a))) (tst sc ((60 * jv3) + i_a) (3 + (tdy sc ((60 * jv3) + i_a) n_a)) 2 st (tea n_a (tdy sc ((60 * jv3) + i_a) n_a))) (tst sc ((60 * jv3) + i_a) (3 + (tdy sc ((60 * jv3) + i_a) n_a)) 3 sp (tea n_a (tdy sc ((60 * jv3) + i_a) n_a))) (tst sc ((60 * jv3) + i_a) (3 + (tdy sc ((60 * jv3) + i_a) n_a)) 4 nd (tea n_a (tdy sc ((60 * jv3) + i_a) n_a))) rO rB rD rW sz sl sc sm n_a (sc (((60 * jv3) + i_a) + 1) - nI 48) (tdy sc ((60 * jv3) + i_a) n_a) (tea n_a (tdy sc ((60 * jv3) + i_a) n_a)) (tlk sc ((60 * jv3) + i_a) y1 (tdy sc ((60 * jv3) + i_a) n_a)) (tkd sc ((60 * jv3) + i_a) (3 + (tdy sc ((60 * jv3) + i_a) n_a)) y2 (tea n_a (tdy sc ((60 * jv3) + i_a) n_a))) (tst sc ((60 * jv3) + i_a) (3 + (tdy sc ((60 * jv3) + i_a) n_a)) 2 y3 (tea n_a (tdy sc ((60 * jv3) + i_a) n_a))) (tst sc ((60 * jv3) + i_a) (3 + (tdy sc ((60 * jv3) + i_a) n_a)) 3 y4 (tea n_a (tdy sc ((60 * jv3) + i_a) n_a))) (tst sc ((60 * jv3) + i_a) (3 + (tdy sc ((60 * jv3) + i_a) n_a)) 4 y5 (tea n_a (tdy sc ((60 * jv3) + i_a) n_a))) hn)) (N := 29) X i_RX5 (ci := 4) rfl tyX5 tyX5_ok nmX5 0 rfl 19 (by decide) f_142 rfl (ty := .int) (by decide +kernel) rfl rfl (Nat.le_of_ble_eq_true rfl) dX5_duchy_211 rfl ?_
                        refine z_aload_n X dX5_duchy_214 rfl 0 rfl ?_
                        refine z_aload_n X dX5_duchy_215 rfl 0 rfl ?_
                        refine z_get (v := .int (nI (tea n_a (tdy sc ((60 * jv3) + i_a) n_a)))) (N := 29) X i_RX5 (ci := 4) rfl 0 rfl 4 (by decide) f_85 rfl dX5_duchy_216 ?_
                        refine z_callVM X (c_X5_refused l g b ft (sc (((60 * jv3) + i_a) + 1) - nI 48) (tdy sc ((60 * jv3) + i_a) n_a) (tea n_a (tdy sc ((60 * jv3) + i_a) n_a)) tr 0 (tlk sc ((60 * jv3) + i_a) lk (tdy sc ((60 * jv3) + i_a) n_a)) (tkd sc ((60 * jv3) + i_a) (3 + (tdy sc ((60 * jv3) + i_a) n_a)) kd (tea n_a (tdy sc ((60 * jv3) + i_a) n_a))) (tst sc ((60 * jv3) + i_a) (3 + (tdy sc ((60 * jv3) + i_a) n_a)) 2 st (tea n_a (tdy sc ((60 * jv3) + i_a) n_a))) (tst sc ((60 * jv3) + i_a) (3 + (tdy sc ((60 * jv3) + i_a) n_a)) 3 sp (tea n_a (tdy sc ((60 * jv3) + i_a) n_a))) (tst sc ((60 * jv3) + i_a) (3 + (tdy sc ((60 * jv3) + i_a) n_a)) 4 nd (tea n_a (tdy sc ((60 * jv3) + i_a) n_a))) rO rB rD rW sz sl sc sm n_a (sc (((60 * jv3) + i_a) + 1) - nI 48) (tdy sc ((60 * jv3) + i_a) n_a) (tea n_a (tdy sc ((60 * jv3) + i_a) n_a)) (tlk sc ((60 * jv3) + i_a) y1 (tdy sc ((60 * jv3) + i_a) n_a)) (tkd sc ((60 * jv3) + i_a) (3 + (tdy sc ((60 * jv3) + i_a) n_a)) y2 (tea n_a (tdy sc ((60 * jv3) + i_a) n_a))) (tst sc ((60 * jv3) + i_a) (3 + (tdy sc ((60 * jv3) + i_a) n_a)) 2 y3 (tea n_a (tdy sc ((60 * jv3) + i_a) n_a))) (tst sc ((60 * jv3) + i_a) (3 + (tdy sc ((60 * jv3) + i_a) n_a)) 3 y4 (tea n_a (tdy sc ((60 * jv3) + i_a) n_a))) (tst sc ((60 * jv3) + i_a) (3 + (tdy sc ((60 * jv3) + i_a) n_a)) 4 y5 (tea n_a (tdy sc ((60 * jv3) + i_a) n_a))) hn (nI (tea n_a (tdy sc ((60 * jv3) + i_a) n_a)))) gX5_duchy_X5_refused rfl ⟨rfl, rfl⟩ (by decide +kernel) ⟨Nat.le_of_ble_eq_true rfl, Nat.le_of_ble_eq_true rfl⟩ ZF.room (ci := 4) rfl 0 rfl rfl (As := [.int (nI (tea n_a (tdy sc ((60 * jv3) + i_a) n_a)))]) (n := 1) rfl rfl (st1 := [.int (nI (tea n_a (tdy sc ((60 * jv3) + i_a) n_a)))]) rfl (Nat.le_of_ble_eq_true rfl) dX5_duchy_219 ?_
                        have e13 : (if zin (nI jv3) 4 && zin (nI jv5) 3 then (foc (sl (tn (nI jv3))) (sz (tn (nI jv3))) (nI jv5) (nI i_a) (nI n_a)) else nI 0) = (nI 0) := by simp [dur, duk, nI_0, hq2, hc3, hq4, hc5, hti_a, htn_a, hfo, hq6, hq8, eXA, eXB, eXC, eXD, hq10, hq12]
                        have e14 : (if zin (nI jv3) 4 && duk (nI jv5) (foc (sl (tn (nI jv3))) (sz (tn (nI jv3))) (nI jv5) (nI i_a) (nI n_a)) (fr0 sc (60 * tn (nI jv3) + tn (nI i_a)) (tn (nI n_a))) then sc ((60 * tn (nI jv3) + tn (nI i_a)) + 1) - nI 48 else so) = (sc (((60 * jv3) + i_a) + 1) - nI 48) := by simp [dur, duk, nI_0, hq2, hc3, hq4, hc5, hti_a, htn_a, hfo, hq6, hq8, eXA, eXB, eXC, eXD, hq10, hq12]
                        have e15 : (if zin (nI jv3) 4 && duk (nI jv5) (foc (sl (tn (nI jv3))) (sz (tn (nI jv3))) (nI jv5) (nI i_a) (nI n_a)) (fr0 sc (60 * tn (nI jv3) + tn (nI i_a)) (tn (nI n_a))) then (tdy sc (60 * tn (nI jv3) + tn (nI i_a)) (tn (nI n_a))) else D) = (tdy sc ((60 * jv3) + i_a) n_a) := by simp [dur, duk, nI_0, hq2, hc3, hq4, hc5, hti_a, htn_a, hfo, hq6, hq8, eXA, eXB, eXC, eXD, hq10, hq12]
                        have e16 : (if zin (nI jv3) 4 && duk (nI jv5) (foc (sl (tn (nI jv3))) (sz (tn (nI jv3))) (nI jv5) (nI i_a) (nI n_a)) (fr0 sc (60 * tn (nI jv3) + tn (nI i_a)) (tn (nI n_a))) then (tea (tn (nI n_a)) (tdy sc (60 * tn (nI jv3) + tn (nI i_a)) (tn (nI n_a)))) else E) = (tea n_a (tdy sc ((60 * jv3) + i_a) n_a)) := by simp [dur, duk, nI_0, hq2, hc3, hq4, hc5, hti_a, htn_a, hfo, hq6, hq8, eXA, eXB, eXC, eXD, hq10, hq12]
                        have e17 : (if zin (nI jv3) 4 && duk (nI jv5) (foc (sl (tn (nI jv3))) (sz (tn (nI jv3))) (nI jv5) (nI i_a) (nI n_a)) (fr0 sc (60 * tn (nI jv3) + tn (nI i_a)) (tn (nI n_a))) then 0 else C) = 0 := by simp [dur, duk, nI_0, hq2, hc3, hq4, hc5, hti_a, htn_a, hfo, hq6, hq8, eXA, eXB, eXC, eXD, hq10, hq12]
                        have e18 : (if zin (nI jv3) 4 && duk (nI jv5) (foc (sl (tn (nI jv3))) (sz (tn (nI jv3))) (nI jv5) (nI i_a) (nI n_a)) (fr0 sc (60 * tn (nI jv3) + tn (nI i_a)) (tn (nI n_a))) then tlk sc (60 * tn (nI jv3) + tn (nI i_a)) lk (tdy sc (60 * tn (nI jv3) + tn (nI i_a)) (tn (nI n_a))) else lk) = (tlk sc ((60 * jv3) + i_a) lk (tdy sc ((60 * jv3) + i_a) n_a)) := by simp [dur, duk, nI_0, hq2, hc3, hq4, hc5, hti_a, htn_a, hfo, hq6, hq8, eXA, eXB, eXC, eXD, hq10, hq12]
                        have e19 : (if zin (nI jv3) 4 && duk (nI jv5) (foc (sl (tn (nI jv3))) (sz (tn (nI jv3))) (nI jv5) (nI i_a) (nI n_a)) (fr0 sc (60 * tn (nI jv3) + tn (nI i_a)) (tn (nI n_a))) then tkd sc (60 * tn (nI jv3) + tn (nI i_a)) (3 + (tdy sc (60 * tn (nI jv3) + tn (nI i_a)) (tn (nI n_a)))) kd (tea (tn (nI n_a)) (tdy sc (60 * tn (nI jv3) + tn (nI i_a)) (tn (nI n_a)))) else kd) = (tkd sc ((60 * jv3) + i_a) (3 + (tdy sc ((60 * jv3) + i_a) n_a)) kd (tea n_a (tdy sc ((60 * jv3) + i_a) n_a))) := by simp [dur, duk, nI_0, hq2, hc3, hq4, hc5, hti_a, htn_a, hfo, hq6, hq8, eXA, eXB, eXC, eXD, hq10, hq12]
                        have e20 : (if zin (nI jv3) 4 && duk (nI jv5) (foc (sl (tn (nI jv3))) (sz (tn (nI jv3))) (nI jv5) (nI i_a) (nI n_a)) (fr0 sc (60 * tn (nI jv3) + tn (nI i_a)) (tn (nI n_a))) then tst sc (60 * tn (nI jv3) + tn (nI i_a)) (3 + (tdy sc (60 * tn (nI jv3) + tn (nI i_a)) (tn (nI n_a)))) 2 st (tea (tn (nI n_a)) (tdy sc (60 * tn (nI jv3) + tn (nI i_a)) (tn (nI n_a)))) else st) = (tst sc ((60 * jv3) + i_a) (3 + (tdy sc ((60 * jv3) + i_a) n_a)) 2 st (tea n_a (tdy sc ((60 * jv3) + i_a) n_a))) := by simp [dur, duk, nI_0, hq2, hc3, hq4, hc5, hti_a, htn_a, hfo, hq6, hq8, eXA, eXB, eXC, eXD, hq10, hq12]
                        have e21 : (if zin (nI jv3) 4 && duk (nI jv5) (foc (sl (tn (nI jv3))) (sz (tn (nI jv3))) (nI jv5) (nI i_a) (nI n_a)) (fr0 sc (60 * tn (nI jv3) + tn (nI i_a)) (tn (nI n_a))) then tst sc (60 * tn (nI jv3) + tn (nI i_a)) (3 + (tdy sc (60 * tn (nI jv3) + tn (nI i_a)) (tn (nI n_a)))) 3 sp (tea (tn (nI n_a)) (tdy sc (60 * tn (nI jv3) + tn (nI i_a)) (tn (nI n_a)))) else sp) = (tst sc ((60 * jv3) + i_a) (3 + (tdy sc ((60 * jv3) + i_a) n_a)) 3 sp (tea n_a (tdy sc ((60 * jv3) + i_a) n_a))) := by simp [dur, duk, nI_0, hq2, hc3, hq4, hc5, hti_a, htn_a, hfo, hq6, hq8, eXA, eXB, eXC, eXD, hq10, hq12]
                        have e22 : (if zin (nI jv3) 4 && duk (nI jv5) (foc (sl (tn (nI jv3))) (sz (tn (nI jv3))) (nI jv5) (nI i_a) (nI n_a)) (fr0 sc (60 * tn (nI jv3) + tn (nI i_a)) (tn (nI n_a))) then tst sc (60 * tn (nI jv3) + tn (nI i_a)) (3 + (tdy sc (60 * tn (nI jv3) + tn (nI i_a)) (tn (nI n_a)))) 4 nd (tea (tn (nI n_a)) (tdy sc (60 * tn (nI jv3) + tn (nI i_a)) (tn (nI n_a)))) else nd) = (tst sc ((60 * jv3) + i_a) (3 + (tdy sc ((60 * jv3) + i_a) n_a)) 4 nd (tea n_a (tdy sc ((60 * jv3) + i_a) n_a))) := by simp [dur, duk, nI_0, hq2, hc3, hq4, hc5, hti_a, htn_a, hfo, hq6, hq8, eXA, eXB, eXC, eXD, hq10, hq12]
                        have e23 : (if zin (nI jv3) 4 && zin (nI jv5) 3 && decide ((foc (sl (tn (nI jv3))) (sz (tn (nI jv3))) (nI jv5) (nI i_a) (nI n_a)) = 0) then pXA sc (60 * tn (nI jv3) + tn (nI i_a)) (tn (nI n_a)) else xa) = n_a := by simp [dur, duk, nI_0, hq2, hc3, hq4, hc5, hti_a, htn_a, hfo, hq6, hq8, eXA, eXB, eXC, eXD, hq10, hq12]
                        have e24 : (if zin (nI jv3) 4 && zin (nI jv5) 3 && decide ((foc (sl (tn (nI jv3))) (sz (tn (nI jv3))) (nI jv5) (nI i_a) (nI n_a)) = 0) then pXB sc (60 * tn (nI jv3) + tn (nI i_a)) (tn (nI n_a)) else xb) = (sc (((60 * jv3) + i_a) + 1) - nI 48) := by simp [dur, duk, nI_0, hq2, hc3, hq4, hc5, hti_a, htn_a, hfo, hq6, hq8, eXA, eXB, eXC, eXD, hq10, hq12]
                        have e25 : (if zin (nI jv3) 4 && zin (nI jv5) 3 && decide ((foc (sl (tn (nI jv3))) (sz (tn (nI jv3))) (nI jv5) (nI i_a) (nI n_a)) = 0) then pXC sc (60 * tn (nI jv3) + tn (nI i_a)) (tn (nI n_a)) else xc) = (tdy sc ((60 * jv3) + i_a) n_a) := by simp [dur, duk, nI_0, hq2, hc3, hq4, hc5, hti_a, htn_a, hfo, hq6, hq8, eXA, eXB, eXC, eXD, hq10, hq12]
                        have e26 : (if zin (nI jv3) 4 && zin (nI jv5) 3 && decide ((foc (sl (tn (nI jv3))) (sz (tn (nI jv3))) (nI jv5) (nI i_a) (nI n_a)) = 0) then pXD sc (60 * tn (nI jv3) + tn (nI i_a)) (tn (nI n_a)) else xd) = (tea n_a (tdy sc ((60 * jv3) + i_a) n_a)) := by simp [dur, duk, nI_0, hq2, hc3, hq4, hc5, hti_a, htn_a, hfo, hq6, hq8, eXA, eXB, eXC, eXD, hq10, hq12]
                        have e27 : (if zin (nI jv3) 4 && zin (nI jv5) 3 && decide ((foc (sl (tn (nI jv3))) (sz (tn (nI jv3))) (nI jv5) (nI i_a) (nI n_a)) = 0) then tlk sc (60 * tn (nI jv3) + tn (nI i_a)) y1 (pXC sc (60 * tn (nI jv3) + tn (nI i_a)) (tn (nI n_a))) else y1) = (tlk sc ((60 * jv3) + i_a) y1 (tdy sc ((60 * jv3) + i_a) n_a)) := by simp [dur, duk, nI_0, hq2, hc3, hq4, hc5, hti_a, htn_a, hfo, hq6, hq8, eXA, eXB, eXC, eXD, hq10, hq12]
                        have e28 : (if zin (nI jv3) 4 && zin (nI jv5) 3 && decide ((foc (sl (tn (nI jv3))) (sz (tn (nI jv3))) (nI jv5) (nI i_a) (nI n_a)) = 0) then tkd sc (60 * tn (nI jv3) + tn (nI i_a)) (3 + pXC sc (60 * tn (nI jv3) + tn (nI i_a)) (tn (nI n_a))) y2 (pXD sc (60 * tn (nI jv3) + tn (nI i_a)) (tn (nI n_a))) else y2) = (tkd sc ((60 * jv3) + i_a) (3 + (tdy sc ((60 * jv3) + i_a) n_a)) y2 (tea n_a (tdy sc ((60 * jv3) + i_a) n_a))) := by simp [dur, duk, nI_0, hq2, hc3, hq4, hc5, hti_a, htn_a, hfo, hq6, hq8, eXA, eXB, eXC, eXD, hq10, hq12]
                        have e29 : (if zin (nI jv3) 4 && zin (nI jv5) 3 && decide ((foc (sl (tn (nI jv3))) (sz (tn (nI jv3))) (nI jv5) (nI i_a) (nI n_a)) = 0) then tst sc (60 * tn (nI jv3) + tn (nI i_a)) (3 + pXC sc (60 * tn (nI jv3) + tn (nI i_a)) (tn (nI n_a))) 2 y3 (pXD sc (60 * tn (nI jv3) + tn (nI i_a)) (tn (nI n_a))) else y3) = (tst sc ((60 * jv3) + i_a) (3 + (tdy sc ((60 * jv3) + i_a) n_a)) 2 y3 (tea n_a (tdy sc ((60 * jv3) + i_a) n_a))) := by simp [dur, duk, nI_0, hq2, hc3, hq4, hc5, hti_a, htn_a, hfo, hq6, hq8, eXA, eXB, eXC, eXD, hq10, hq12]
                        have e30 : (if zin (nI jv3) 4 && zin (nI jv5) 3 && decide ((foc (sl (tn (nI jv3))) (sz (tn (nI jv3))) (nI jv5) (nI i_a) (nI n_a)) = 0) then tst sc (60 * tn (nI jv3) + tn (nI i_a)) (3 + pXC sc (60 * tn (nI jv3) + tn (nI i_a)) (tn (nI n_a))) 3 y4 (pXD sc (60 * tn (nI jv3) + tn (nI i_a)) (tn (nI n_a))) else y4) = (tst sc ((60 * jv3) + i_a) (3 + (tdy sc ((60 * jv3) + i_a) n_a)) 3 y4 (tea n_a (tdy sc ((60 * jv3) + i_a) n_a))) := by simp [dur, duk, nI_0, hq2, hc3, hq4, hc5, hti_a, htn_a, hfo, hq6, hq8, eXA, eXB, eXC, eXD, hq10, hq12]
                        have e31 : (if zin (nI jv3) 4 && zin (nI jv5) 3 && decide ((foc (sl (tn (nI jv3))) (sz (tn (nI jv3))) (nI jv5) (nI i_a) (nI n_a)) = 0) then tst sc (60 * tn (nI jv3) + tn (nI i_a)) (3 + pXC sc (60 * tn (nI jv3) + tn (nI i_a)) (tn (nI n_a))) 4 y5 (pXD sc (60 * tn (nI jv3) + tn (nI i_a)) (tn (nI n_a))) else y5) = (tst sc ((60 * jv3) + i_a) (3 + (tdy sc ((60 * jv3) + i_a) n_a)) 4 y5 (tea n_a (tdy sc ((60 * jv3) + i_a) n_a))) := by simp [dur, duk, nI_0, hq2, hc3, hq4, hc5, hti_a, htn_a, hfo, hq6, hq8, eXA, eXB, eXC, eXD, hq10, hq12]
                        exact z_iret X ZF dX5_duchy_222 (by simp [dur, duk, nI_0, hq2, hc3, hq4, hc5, hti_a, htn_a, hfo, hq6, hq8, eXA, eXB, eXC, eXD, hq10, hq12]) (by first | rw [e31, e30, e29, e28, e27, e26, e25, e24, e23, e22, e21, e20, e19, e18, e17, e16, e15, e14, e13] | (simp only [e31, e30, e29, e28, e27, e26, e25, e24, e23, e22, e21, e20, e19, e18, e17, e16, e15, e14, e13]))
                      ·
                        refine z_aload_n X dX5_duchy_147 rfl 0 rfl ?_
                        refine z_get (v := .ref (b 2)) (N := 29) X i_RX5 (ci := 4) rfl 0 rfl 5 (by decide) f_13 rfl dX5_duchy_148 ?_
                        refine z_iload X dX5_duchy_151 6 rfl ?_
                        refine z_aload_n X dX5_duchy_153 rfl 0 rfl ?_
                        refine z_get (v := .ref (b 7)) (N := 29) X i_RX5 (ci := 4) rfl 0 rfl 15 (by decide) f_32 rfl dX5_duchy_154 ?_
                        refine z_iload X dX5_duchy_157 6 rfl ?_
                        refine z_ialdN X 7 rfl (by omega) (by omega) dX5_duchy_159 ?_
                        refine z_iastN (ws' := (wM g b ft (sc (((60 * jv3) + i_a) + 1) - nI 48) (tdy sc ((60 * jv3) + i_a) n_a) (tea n_a (tdy sc ((60 * jv3) + i_a) n_a)) tr C (tlk sc ((60 * jv3) + i_a) lk (tdy sc ((60 * jv3) + i_a) n_a)) (upd (cpl kd (tkd sc ((60 * jv3) + i_a) (3 + (tdy sc ((60 * jv3) + i_a) n_a)) y2 (tea n_a (tdy sc ((60 * jv3) + i_a) n_a))) e_v) e_v ((tkd sc ((60 * jv3) + i_a) (3 + (tdy sc ((60 * jv3) + i_a) n_a)) y2 (tea n_a (tdy sc ((60 * jv3) + i_a) n_a))) e_v)) (cpl st (tst sc ((60 * jv3) + i_a) (3 + (tdy sc ((60 * jv3) + i_a) n_a)) 2 y3 (tea n_a (tdy sc ((60 * jv3) + i_a) n_a))) e_v) (cpl sp (tst sc ((60 * jv3) + i_a) (3 + (tdy sc ((60 * jv3) + i_a) n_a)) 3 y4 (tea n_a (tdy sc ((60 * jv3) + i_a) n_a))) e_v) (cpl nd (tst sc ((60 * jv3) + i_a) (3 + (tdy sc ((60 * jv3) + i_a) n_a)) 4 y5 (tea n_a (tdy sc ((60 * jv3) + i_a) n_a))) e_v) rO rB rD rW sz sl sc sm n_a (sc (((60 * jv3) + i_a) + 1) - nI 48) (tdy sc ((60 * jv3) + i_a) n_a) (tea n_a (tdy sc ((60 * jv3) + i_a) n_a)) (tlk sc ((60 * jv3) + i_a) y1 (tdy sc ((60 * jv3) + i_a) n_a)) (tkd sc ((60 * jv3) + i_a) (3 + (tdy sc ((60 * jv3) + i_a) n_a)) y2 (tea n_a (tdy sc ((60 * jv3) + i_a) n_a))) (tst sc ((60 * jv3) + i_a) (3 + (tdy sc ((60 * jv3) + i_a) n_a)) 2 y3 (tea n_a (tdy sc ((60 * jv3) + i_a) n_a))) (tst sc ((60 * jv3) + i_a) (3 + (tdy sc ((60 * jv3) + i_a) n_a)) 3 y4 (tea n_a (tdy sc ((60 * jv3) + i_a) n_a))) (tst sc ((60 * jv3) + i_a) (3 + (tdy sc ((60 * jv3) + i_a) n_a)) 4 y5 (tea n_a (tdy sc ((60 * jv3) + i_a) n_a))) hn)) X 2 rfl (by omega) (by omega) dX5_duchy_160 rfl ?_
                        refine z_aload_n X dX5_duchy_161 rfl 0 rfl ?_
                        refine z_get (v := .ref (b 3)) (N := 29) X i_RX5 (ci := 4) rfl 0 rfl 6 (by decide) f_16 rfl dX5_duchy_162 ?_
                        refine z_iload X dX5_duchy_165 6 rfl ?_
                        refine z_aload_n X dX5_duchy_167 rfl 0 rfl ?_
                        refine z_get (v := .ref (b 8)) (N := 29) X i_RX5 (ci := 4) rfl 0 rfl 16 (by decide) f_35 rfl dX5_duchy_168 ?_
                        refine z_iload X dX5_duchy_171 6 rfl ?_
                        refine z_ialdN X 8 rfl (by omega) (by omega) dX5_duchy_173 ?_
                        refine z_iastN (ws' := (wM g b ft (sc (((60 * jv3) + i_a) + 1) - nI 48) (tdy sc ((60 * jv3) + i_a) n_a) (tea n_a (tdy sc ((60 * jv3) + i_a) n_a)) tr C (tlk sc ((60 * jv3) + i_a) lk (tdy sc ((60 * jv3) + i_a) n_a)) (upd (cpl kd (tkd sc ((60 * jv3) + i_a) (3 + (tdy sc ((60 * jv3) + i_a) n_a)) y2 (tea n_a (tdy sc ((60 * jv3) + i_a) n_a))) e_v) e_v ((tkd sc ((60 * jv3) + i_a) (3 + (tdy sc ((60 * jv3) + i_a) n_a)) y2 (tea n_a (tdy sc ((60 * jv3) + i_a) n_a))) e_v)) (upd (cpl st (tst sc ((60 * jv3) + i_a) (3 + (tdy sc ((60 * jv3) + i_a) n_a)) 2 y3 (tea n_a (tdy sc ((60 * jv3) + i_a) n_a))) e_v) e_v ((tst sc ((60 * jv3) + i_a) (3 + (tdy sc ((60 * jv3) + i_a) n_a)) 2 y3 (tea n_a (tdy sc ((60 * jv3) + i_a) n_a))) e_v)) (cpl sp (tst sc ((60 * jv3) + i_a) (3 + (tdy sc ((60 * jv3) + i_a) n_a)) 3 y4 (tea n_a (tdy sc ((60 * jv3) + i_a) n_a))) e_v) (cpl nd (tst sc ((60 * jv3) + i_a) (3 + (tdy sc ((60 * jv3) + i_a) n_a)) 4 y5 (tea n_a (tdy sc ((60 * jv3) + i_a) n_a))) e_v) rO rB rD rW sz sl sc sm n_a (sc (((60 * jv3) + i_a) + 1) - nI 48) (tdy sc ((60 * jv3) + i_a) n_a) (tea n_a (tdy sc ((60 * jv3) + i_a) n_a)) (tlk sc ((60 * jv3) + i_a) y1 (tdy sc ((60 * jv3) + i_a) n_a)) (tkd sc ((60 * jv3) + i_a) (3 + (tdy sc ((60 * jv3) + i_a) n_a)) y2 (tea n_a (tdy sc ((60 * jv3) + i_a) n_a))) (tst sc ((60 * jv3) + i_a) (3 + (tdy sc ((60 * jv3) + i_a) n_a)) 2 y3 (tea n_a (tdy sc ((60 * jv3) + i_a) n_a))) (tst sc ((60 * jv3) + i_a) (3 + (tdy sc ((60 * jv3) + i_a) n_a)) 3 y4 (tea n_a (tdy sc ((60 * jv3) + i_a) n_a))) (tst sc ((60 * jv3) + i_a) (3 + (tdy sc ((60 * jv3) + i_a) n_a)) 4 y5 (tea n_a (tdy sc ((60 * jv3) + i_a) n_a))) hn)) X 3 rfl (by omega) (by omega) dX5_duchy_174 rfl ?_
                        refine z_aload_n X dX5_duchy_175 rfl 0 rfl ?_
                        refine z_get (v := .ref (b 4)) (N := 29) X i_RX5 (ci := 4) rfl 0 rfl 7 (by decide) f_19 rfl dX5_duchy_176 ?_
                        refine z_iload X dX5_duchy_179 6 rfl ?_
                        refine z_aload_n X dX5_duchy_181 rfl 0 rfl ?_
                        refine z_get (v := .ref (b 9)) (N := 29) X i_RX5 (ci := 4) rfl 0 rfl 17 (by decide) f_38 rfl dX5_duchy_182 ?_
                        refine z_iload X dX5_duchy_185 6 rfl ?_
                        refine z_ialdN X 9 rfl (by omega) (by omega) dX5_duchy_187 ?_
                        refine z_iastN (ws' := (wM g b ft (sc (((60 * jv3) + i_a) + 1) - nI 48) (tdy sc ((60 * jv3) + i_a) n_a) (tea n_a (tdy sc ((60 * jv3) + i_a) n_a)) tr C (tlk sc ((60 * jv3) + i_a) lk (tdy sc ((60 * jv3) + i_a) n_a)) (upd (cpl kd (tkd sc ((60 * jv3) + i_a) (3 + (tdy sc ((60 * jv3) + i_a) n_a)) y2 (tea n_a (tdy sc ((60 * jv3) + i_a) n_a))) e_v) e_v ((tkd sc ((60 * jv3) + i_a) (3 + (tdy sc ((60 * jv3) + i_a) n_a)) y2 (tea n_a (tdy sc ((60 * jv3) + i_a) n_a))) e_v)) (upd (cpl st (tst sc ((60 * jv3) + i_a) (3 + (tdy sc ((60 * jv3) + i_a) n_a)) 2 y3 (tea n_a (tdy sc ((60 * jv3) + i_a) n_a))) e_v) e_v ((tst sc ((60 * jv3) + i_a) (3 + (tdy sc ((60 * jv3) + i_a) n_a)) 2 y3 (tea n_a (tdy sc ((60 * jv3) + i_a) n_a))) e_v)) (upd (cpl sp (tst sc ((60 * jv3) + i_a) (3 + (tdy sc ((60 * jv3) + i_a) n_a)) 3 y4 (tea n_a (tdy sc ((60 * jv3) + i_a) n_a))) e_v) e_v ((tst sc ((60 * jv3) + i_a) (3 + (tdy sc ((60 * jv3) + i_a) n_a)) 3 y4 (tea n_a (tdy sc ((60 * jv3) + i_a) n_a))) e_v)) (cpl nd (tst sc ((60 * jv3) + i_a) (3 + (tdy sc ((60 * jv3) + i_a) n_a)) 4 y5 (tea n_a (tdy sc ((60 * jv3) + i_a) n_a))) e_v) rO rB rD rW sz sl sc sm n_a (sc (((60 * jv3) + i_a) + 1) - nI 48) (tdy sc ((60 * jv3) + i_a) n_a) (tea n_a (tdy sc ((60 * jv3) + i_a) n_a)) (tlk sc ((60 * jv3) + i_a) y1 (tdy sc ((60 * jv3) + i_a) n_a)) (tkd sc ((60 * jv3) + i_a) (3 + (tdy sc ((60 * jv3) + i_a) n_a)) y2 (tea n_a (tdy sc ((60 * jv3) + i_a) n_a))) (tst sc ((60 * jv3) + i_a) (3 + (tdy sc ((60 * jv3) + i_a) n_a)) 2 y3 (tea n_a (tdy sc ((60 * jv3) + i_a) n_a))) (tst sc ((60 * jv3) + i_a) (3 + (tdy sc ((60 * jv3) + i_a) n_a)) 3 y4 (tea n_a (tdy sc ((60 * jv3) + i_a) n_a))) (tst sc ((60 * jv3) + i_a) (3 + (tdy sc ((60 * jv3) + i_a) n_a)) 4 y5 (tea n_a (tdy sc ((60 * jv3) + i_a) n_a))) hn)) X 4 rfl (by omega) (by omega) dX5_duchy_188 rfl ?_
                        refine z_aload_n X dX5_duchy_189 rfl 0 rfl ?_
                        refine z_get (v := .ref (b 5)) (N := 29) X i_RX5 (ci := 4) rfl 0 rfl 8 (by decide) f_22 rfl dX5_duchy_190 ?_
                        refine z_iload X dX5_duchy_193 6 rfl ?_
                        refine z_aload_n X dX5_duchy_195 rfl 0 rfl ?_
                        refine z_get (v := .ref (b 10)) (N := 29) X i_RX5 (ci := 4) rfl 0 rfl 18 (by decide) f_41 rfl dX5_duchy_196 ?_
                        refine z_iload X dX5_duchy_199 6 rfl ?_
                        refine z_ialdN X 10 rfl (by omega) (by omega) dX5_duchy_201 ?_
                        refine z_iastN (ws' := (wM g b ft (sc (((60 * jv3) + i_a) + 1) - nI 48) (tdy sc ((60 * jv3) + i_a) n_a) (tea n_a (tdy sc ((60 * jv3) + i_a) n_a)) tr C (tlk sc ((60 * jv3) + i_a) lk (tdy sc ((60 * jv3) + i_a) n_a)) (upd (cpl kd (tkd sc ((60 * jv3) + i_a) (3 + (tdy sc ((60 * jv3) + i_a) n_a)) y2 (tea n_a (tdy sc ((60 * jv3) + i_a) n_a))) e_v) e_v ((tkd sc ((60 * jv3) + i_a) (3 + (tdy sc ((60 * jv3) + i_a) n_a)) y2 (tea n_a (tdy sc ((60 * jv3) + i_a) n_a))) e_v)) (upd (cpl st (tst sc ((60 * jv3) + i_a) (3 + (tdy sc ((60 * jv3) + i_a) n_a)) 2 y3 (tea n_a (tdy sc ((60 * jv3) + i_a) n_a))) e_v) e_v ((tst sc ((60 * jv3) + i_a) (3 + (tdy sc ((60 * jv3) + i_a) n_a)) 2 y3 (tea n_a (tdy sc ((60 * jv3) + i_a) n_a))) e_v)) (upd (cpl sp (tst sc ((60 * jv3) + i_a) (3 + (tdy sc ((60 * jv3) + i_a) n_a)) 3 y4 (tea n_a (tdy sc ((60 * jv3) + i_a) n_a))) e_v) e_v ((tst sc ((60 * jv3) + i_a) (3 + (tdy sc ((60 * jv3) + i_a) n_a)) 3 y4 (tea n_a (tdy sc ((60 * jv3) + i_a) n_a))) e_v)) (upd (cpl nd (tst sc ((60 * jv3) + i_a) (3 + (tdy sc ((60 * jv3) + i_a) n_a)) 4 y5 (tea n_a (tdy sc ((60 * jv3) + i_a) n_a))) e_v) e_v ((tst sc ((60 * jv3) + i_a) (3 + (tdy sc ((60 * jv3) + i_a) n_a)) 4 y5 (tea n_a (tdy sc ((60 * jv3) + i_a) n_a))) e_v)) rO rB rD rW sz sl sc sm n_a (sc (((60 * jv3) + i_a) + 1) - nI 48) (tdy sc ((60 * jv3) + i_a) n_a) (tea n_a (tdy sc ((60 * jv3) + i_a) n_a)) (tlk sc ((60 * jv3) + i_a) y1 (tdy sc ((60 * jv3) + i_a) n_a)) (tkd sc ((60 * jv3) + i_a) (3 + (tdy sc ((60 * jv3) + i_a) n_a)) y2 (tea n_a (tdy sc ((60 * jv3) + i_a) n_a))) (tst sc ((60 * jv3) + i_a) (3 + (tdy sc ((60 * jv3) + i_a) n_a)) 2 y3 (tea n_a (tdy sc ((60 * jv3) + i_a) n_a))) (tst sc ((60 * jv3) + i_a) (3 + (tdy sc ((60 * jv3) + i_a) n_a)) 3 y4 (tea n_a (tdy sc ((60 * jv3) + i_a) n_a))) (tst sc ((60 * jv3) + i_a) (3 + (tdy sc ((60 * jv3) + i_a) n_a)) 4 y5 (tea n_a (tdy sc ((60 * jv3) + i_a) n_a))) hn)) X 5 rfl (by omega) (by omega) dX5_duchy_202 rfl ?_
                        refine z_iinc (v := nI (e_v + 1)) (L' := [(6, .int (nI (e_v + 1))), (0, .ref (b 0)), (1, .int (nI jv3)), (2, .int (nI jv5)), (3, .int (nI i_a)), (4, .int (nI n_a)), (5, .int (nI 0))]) X dX5_duchy_203 6 rfl (nI_inc e_v 1) (by decide) rfl ?_
                        refine z_goto (tgt := 138) X dX5_duchy_206 (by decide) ?_
                        refine z_ls (L' := [(0, .ref (b 0)), (1, .int (nI jv3)), (2, .int (nI jv5)), (3, .int (nI i_a)), (4, .int (nI n_a)), (5, .int (nI 0)), (6, .int (nI (e_v + 1)))]) [1, 2, 3, 4, 5, 6, 0] rfl ?_
                        have e32 : (upd (cpl kd (tkd sc ((60 * jv3) + i_a) (3 + (tdy sc ((60 * jv3) + i_a) n_a)) y2 (tea n_a (tdy sc ((60 * jv3) + i_a) n_a))) e_v) e_v ((tkd sc ((60 * jv3) + i_a) (3 + (tdy sc ((60 * jv3) + i_a) n_a)) y2 (tea n_a (tdy sc ((60 * jv3) + i_a) n_a))) e_v)) = (cpl kd (tkd sc ((60 * jv3) + i_a) (3 + (tdy sc ((60 * jv3) + i_a) n_a)) y2 (tea n_a (tdy sc ((60 * jv3) + i_a) n_a))) (e_v + 1)) := by first | rfl | exact (cpl_0 _ _).symm | exact cpl_s _ _ _
                        have e33 : (upd (cpl st (tst sc ((60 * jv3) + i_a) (3 + (tdy sc ((60 * jv3) + i_a) n_a)) 2 y3 (tea n_a (tdy sc ((60 * jv3) + i_a) n_a))) e_v) e_v ((tst sc ((60 * jv3) + i_a) (3 + (tdy sc ((60 * jv3) + i_a) n_a)) 2 y3 (tea n_a (tdy sc ((60 * jv3) + i_a) n_a))) e_v)) = (cpl st (tst sc ((60 * jv3) + i_a) (3 + (tdy sc ((60 * jv3) + i_a) n_a)) 2 y3 (tea n_a (tdy sc ((60 * jv3) + i_a) n_a))) (e_v + 1)) := by first | rfl | exact (cpl_0 _ _).symm | exact cpl_s _ _ _
                        have e34 : (upd (cpl sp (tst sc ((60 * jv3) + i_a) (3 + (tdy sc ((60 * jv3) + i_a) n_a)) 3 y4 (tea n_a (tdy sc ((60 * jv3) + i_a) n_a))) e_v) e_v ((tst sc ((60 * jv3) + i_a) (3 + (tdy sc ((60 * jv3) + i_a) n_a)) 3 y4 (tea n_a (tdy sc ((60 * jv3) + i_a) n_a))) e_v)) = (cpl sp (tst sc ((60 * jv3) + i_a) (3 + (tdy sc ((60 * jv3) + i_a) n_a)) 3 y4 (tea n_a (tdy sc ((60 * jv3) + i_a) n_a))) (e_v + 1)) := by first | rfl | exact (cpl_0 _ _).symm | exact cpl_s _ _ _
                        have e35 : (upd (cpl nd (tst sc ((60 * jv3) + i_a) (3 + (tdy sc ((60 * jv3) + i_a) n_a)) 4 y5 (tea n_a (tdy sc ((60 * jv3) + i_a) n_a))) e_v) e_v ((tst sc ((60 * jv3) + i_a) (3 + (tdy sc ((60 * jv3) + i_a) n_a)) 4 y5 (tea n_a (tdy sc ((60 * jv3) + i_a) n_a))) e_v)) = (cpl nd (tst sc ((60 * jv3) + i_a) (3 + (tdy sc ((60 * jv3) + i_a) n_a)) 4 y5 (tea n_a (tdy sc ((60 * jv3) + i_a) n_a))) (e_v + 1)) := by first | rfl | exact (cpl_0 _ _).symm | exact cpl_s _ _ _
                        refine z_ws (ws' := (wM g b ft (sc (((60 * jv3) + i_a) + 1) - nI 48) (tdy sc ((60 * jv3) + i_a) n_a) (tea n_a (tdy sc ((60 * jv3) + i_a) n_a)) tr C (tlk sc ((60 * jv3) + i_a) lk (tdy sc ((60 * jv3) + i_a) n_a)) (cpl kd (tkd sc ((60 * jv3) + i_a) (3 + (tdy sc ((60 * jv3) + i_a) n_a)) y2 (tea n_a (tdy sc ((60 * jv3) + i_a) n_a))) (e_v + 1)) (cpl st (tst sc ((60 * jv3) + i_a) (3 + (tdy sc ((60 * jv3) + i_a) n_a)) 2 y3 (tea n_a (tdy sc ((60 * jv3) + i_a) n_a))) (e_v + 1)) (cpl sp (tst sc ((60 * jv3) + i_a) (3 + (tdy sc ((60 * jv3) + i_a) n_a)) 3 y4 (tea n_a (tdy sc ((60 * jv3) + i_a) n_a))) (e_v + 1)) (cpl nd (tst sc ((60 * jv3) + i_a) (3 + (tdy sc ((60 * jv3) + i_a) n_a)) 4 y5 (tea n_a (tdy sc ((60 * jv3) + i_a) n_a))) (e_v + 1)) rO rB rD rW sz sl sc sm n_a (sc (((60 * jv3) + i_a) + 1) - nI 48) (tdy sc ((60 * jv3) + i_a) n_a) (tea n_a (tdy sc ((60 * jv3) + i_a) n_a)) (tlk sc ((60 * jv3) + i_a) y1 (tdy sc ((60 * jv3) + i_a) n_a)) (tkd sc ((60 * jv3) + i_a) (3 + (tdy sc ((60 * jv3) + i_a) n_a)) y2 (tea n_a (tdy sc ((60 * jv3) + i_a) n_a))) (tst sc ((60 * jv3) + i_a) (3 + (tdy sc ((60 * jv3) + i_a) n_a)) 2 y3 (tea n_a (tdy sc ((60 * jv3) + i_a) n_a))) (tst sc ((60 * jv3) + i_a) (3 + (tdy sc ((60 * jv3) + i_a) n_a)) 3 y4 (tea n_a (tdy sc ((60 * jv3) + i_a) n_a))) (tst sc ((60 * jv3) + i_a) (3 + (tdy sc ((60 * jv3) + i_a) n_a)) 4 y5 (tea n_a (tdy sc ((60 * jv3) + i_a) n_a))) hn)) (by rw [← e32, ← e33, ← e34, ← e35]) ?_
                        exact ih11 (e_v + 1) (by omega) (by omega)
                  refine z_ls (L' := [(0, .ref (b 0)), (1, .int (nI jv3)), (2, .int (nI jv5)), (3, .int (nI i_a)), (4, .int (nI n_a)), (5, .int (nI 0)), (6, .int (nI 0))]) [1, 2, 3, 4, 5, 6, 0] rfl ?_
                  have e36 : kd = (cpl kd (tkd sc ((60 * jv3) + i_a) (3 + (tdy sc ((60 * jv3) + i_a) n_a)) y2 (tea n_a (tdy sc ((60 * jv3) + i_a) n_a))) 0) := by first | rfl | exact (cpl_0 _ _).symm | exact cpl_s _ _ _
                  have e37 : st = (cpl st (tst sc ((60 * jv3) + i_a) (3 + (tdy sc ((60 * jv3) + i_a) n_a)) 2 y3 (tea n_a (tdy sc ((60 * jv3) + i_a) n_a))) 0) := by first | rfl | exact (cpl_0 _ _).symm | exact cpl_s _ _ _
                  have e38 : sp = (cpl sp (tst sc ((60 * jv3) + i_a) (3 + (tdy sc ((60 * jv3) + i_a) n_a)) 3 y4 (tea n_a (tdy sc ((60 * jv3) + i_a) n_a))) 0) := by first | rfl | exact (cpl_0 _ _).symm | exact cpl_s _ _ _
                  have e39 : nd = (cpl nd (tst sc ((60 * jv3) + i_a) (3 + (tdy sc ((60 * jv3) + i_a) n_a)) 4 y5 (tea n_a (tdy sc ((60 * jv3) + i_a) n_a))) 0) := by first | rfl | exact (cpl_0 _ _).symm | exact cpl_s _ _ _
                  refine z_ws (ws' := (wM g b ft (sc (((60 * jv3) + i_a) + 1) - nI 48) (tdy sc ((60 * jv3) + i_a) n_a) (tea n_a (tdy sc ((60 * jv3) + i_a) n_a)) tr C (tlk sc ((60 * jv3) + i_a) lk (tdy sc ((60 * jv3) + i_a) n_a)) (cpl kd (tkd sc ((60 * jv3) + i_a) (3 + (tdy sc ((60 * jv3) + i_a) n_a)) y2 (tea n_a (tdy sc ((60 * jv3) + i_a) n_a))) 0) (cpl st (tst sc ((60 * jv3) + i_a) (3 + (tdy sc ((60 * jv3) + i_a) n_a)) 2 y3 (tea n_a (tdy sc ((60 * jv3) + i_a) n_a))) 0) (cpl sp (tst sc ((60 * jv3) + i_a) (3 + (tdy sc ((60 * jv3) + i_a) n_a)) 3 y4 (tea n_a (tdy sc ((60 * jv3) + i_a) n_a))) 0) (cpl nd (tst sc ((60 * jv3) + i_a) (3 + (tdy sc ((60 * jv3) + i_a) n_a)) 4 y5 (tea n_a (tdy sc ((60 * jv3) + i_a) n_a))) 0) rO rB rD rW sz sl sc sm n_a (sc (((60 * jv3) + i_a) + 1) - nI 48) (tdy sc ((60 * jv3) + i_a) n_a) (tea n_a (tdy sc ((60 * jv3) + i_a) n_a)) (tlk sc ((60 * jv3) + i_a) y1 (tdy sc ((60 * jv3) + i_a) n_a)) (tkd sc ((60 * jv3) + i_a) (3 + (tdy sc ((60 * jv3) + i_a) n_a)) y2 (tea n_a (tdy sc ((60 * jv3) + i_a) n_a))) (tst sc ((60 * jv3) + i_a) (3 + (tdy sc ((60 * jv3) + i_a) n_a)) 2 y3 (tea n_a (tdy sc ((60 * jv3) + i_a) n_a))) (tst sc ((60 * jv3) + i_a) (3 + (tdy sc ((60 * jv3) + i_a) n_a)) 3 y4 (tea n_a (tdy sc ((60 * jv3) + i_a) n_a))) (tst sc ((60 * jv3) + i_a) (3 + (tdy sc ((60 * jv3) + i_a) n_a)) 4 y5 (tea n_a (tdy sc ((60 * jv3) + i_a) n_a))) hn)) (by rw [← e36, ← e37, ← e38, ← e39]) ?_
                  exact loopv11 ((tea n_a (tdy sc ((60 * jv3) + i_a) n_a)) + 1) 0 (by omega) (by omega)
                ·
                  refine z_aload_n X dX5_duchy_115 rfl 0 rfl ?_
                  refine z_get (v := .ref (b 1)) (N := 29) X i_RX5 (ci := 4) rfl 0 rfl 3 (by decide) f_7 rfl dX5_duchy_116 ?_
                  refine z_iload X dX5_duchy_119 6 rfl ?_
                  refine z_aload_n X dX5_duchy_121 rfl 0 rfl ?_
                  refine z_get (v := .ref (b 6)) (N := 29) X i_RX5 (ci := 4) rfl 0 rfl 14 (by decide) f_29 rfl dX5_duchy_122 ?_
                  refine z_iload X dX5_duchy_125 6 rfl ?_
                  refine z_ialdN X 6 rfl (by omega) (by omega) dX5_duchy_127 ?_
                  refine z_iastN (ws' := (wM g b ft (sc (((60 * jv3) + i_a) + 1) - nI 48) (tdy sc ((60 * jv3) + i_a) n_a) (tea n_a (tdy sc ((60 * jv3) + i_a) n_a)) tr C (upd (cpl lk (tlk sc ((60 * jv3) + i_a) y1 (tdy sc ((60 * jv3) + i_a) n_a)) d_v) d_v ((tlk sc ((60 * jv3) + i_a) y1 (tdy sc ((60 * jv3) + i_a) n_a)) d_v)) kd st sp nd rO rB rD rW sz sl sc sm n_a (sc (((60 * jv3) + i_a) + 1) - nI 48) (tdy sc ((60 * jv3) + i_a) n_a) (tea n_a (tdy sc ((60 * jv3) + i_a) n_a)) (tlk sc ((60 * jv3) + i_a) y1 (tdy sc ((60 * jv3) + i_a) n_a)) (tkd sc ((60 * jv3) + i_a) (3 + (tdy sc ((60 * jv3) + i_a) n_a)) y2 (tea n_a (tdy sc ((60 * jv3) + i_a) n_a))) (tst sc ((60 * jv3) + i_a) (3 + (tdy sc ((60 * jv3) + i_a) n_a)) 2 y3 (tea n_a (tdy sc ((60 * jv3) + i_a) n_a))) (tst sc ((60 * jv3) + i_a) (3 + (tdy sc ((60 * jv3) + i_a) n_a)) 3 y4 (tea n_a (tdy sc ((60 * jv3) + i_a) n_a))) (tst sc ((60 * jv3) + i_a) (3 + (tdy sc ((60 * jv3) + i_a) n_a)) 4 y5 (tea n_a (tdy sc ((60 * jv3) + i_a) n_a))) hn)) X 1 rfl (by omega) (by omega) dX5_duchy_128 rfl ?_
                  refine z_iinc (v := nI (d_v + 1)) (L' := [(6, .int (nI (d_v + 1))), (0, .ref (b 0)), (1, .int (nI jv3)), (2, .int (nI jv5)), (3, .int (nI i_a)), (4, .int (nI n_a)), (5, .int (nI 0))]) X dX5_duchy_129 6 rfl (nI_inc d_v 1) (by decide) rfl ?_
                  refine z_goto (tgt := 106) X dX5_duchy_132 (by decide) ?_
                  refine z_ls (L' := [(0, .ref (b 0)), (1, .int (nI jv3)), (2, .int (nI jv5)), (3, .int (nI i_a)), (4, .int (nI n_a)), (5, .int (nI 0)), (6, .int (nI (d_v + 1)))]) [1, 2, 3, 4, 5, 6, 0] rfl ?_
                  have e40 : (upd (cpl lk (tlk sc ((60 * jv3) + i_a) y1 (tdy sc ((60 * jv3) + i_a) n_a)) d_v) d_v ((tlk sc ((60 * jv3) + i_a) y1 (tdy sc ((60 * jv3) + i_a) n_a)) d_v)) = (cpl lk (tlk sc ((60 * jv3) + i_a) y1 (tdy sc ((60 * jv3) + i_a) n_a)) (d_v + 1)) := by first | rfl | exact (cpl_0 _ _).symm | exact cpl_s _ _ _
                  refine z_ws (ws' := (wM g b ft (sc (((60 * jv3) + i_a) + 1) - nI 48) (tdy sc ((60 * jv3) + i_a) n_a) (tea n_a (tdy sc ((60 * jv3) + i_a) n_a)) tr C (cpl lk (tlk sc ((60 * jv3) + i_a) y1 (tdy sc ((60 * jv3) + i_a) n_a)) (d_v + 1)) kd st sp nd rO rB rD rW sz sl sc sm n_a (sc (((60 * jv3) + i_a) + 1) - nI 48) (tdy sc ((60 * jv3) + i_a) n_a) (tea n_a (tdy sc ((60 * jv3) + i_a) n_a)) (tlk sc ((60 * jv3) + i_a) y1 (tdy sc ((60 * jv3) + i_a) n_a)) (tkd sc ((60 * jv3) + i_a) (3 + (tdy sc ((60 * jv3) + i_a) n_a)) y2 (tea n_a (tdy sc ((60 * jv3) + i_a) n_a))) (tst sc ((60 * jv3) + i_a) (3 + (tdy sc ((60 * jv3) + i_a) n_a)) 2 y3 (tea n_a (tdy sc ((60 * jv3) + i_a) n_a))) (tst sc ((60 * jv3) + i_a) (3 + (tdy sc ((60 * jv3) + i_a) n_a)) 3 y4 (tea n_a (tdy sc ((60 * jv3) + i_a) n_a))) (tst sc ((60 * jv3) + i_a) (3 + (tdy sc ((60 * jv3) + i_a) n_a)) 4 y5 (tea n_a (tdy sc ((60 * jv3) + i_a) n_a))) hn)) (by rw [← e40]) ?_
                  exact ih9 (d_v + 1) (by omega) (by omega)
            refine z_ls (L' := [(0, .ref (b 0)), (1, .int (nI jv3)), (2, .int (nI jv5)), (3, .int (nI i_a)), (4, .int (nI n_a)), (5, .int (nI 0)), (6, .int (nI 0))]) [2, 3, 4, 5, 6, 1, 0] rfl ?_
            have e41 : lk = (cpl lk (tlk sc ((60 * jv3) + i_a) y1 (tdy sc ((60 * jv3) + i_a) n_a)) 0) := by first | rfl | exact (cpl_0 _ _).symm | exact cpl_s _ _ _
            refine z_ws (ws' := (wM g b ft (sc (((60 * jv3) + i_a) + 1) - nI 48) (tdy sc ((60 * jv3) + i_a) n_a) (tea n_a (tdy sc ((60 * jv3) + i_a) n_a)) tr C (cpl lk (tlk sc ((60 * jv3) + i_a) y1 (tdy sc ((60 * jv3) + i_a) n_a)) 0) kd st sp nd rO rB rD rW sz sl sc sm n_a (sc (((60 * jv3) + i_a) + 1) - nI 48) (tdy sc ((60 * jv3) + i_a) n_a) (tea n_a (tdy sc ((60 * jv3) + i_a) n_a)) (tlk sc ((60 * jv3) + i_a) y1 (tdy sc ((60 * jv3) + i_a) n_a)) (tkd sc ((60 * jv3) + i_a) (3 + (tdy sc ((60 * jv3) + i_a) n_a)) y2 (tea n_a (tdy sc ((60 * jv3) + i_a) n_a))) (tst sc ((60 * jv3) + i_a) (3 + (tdy sc ((60 * jv3) + i_a) n_a)) 2 y3 (tea n_a (tdy sc ((60 * jv3) + i_a) n_a))) (tst sc ((60 * jv3) + i_a) (3 + (tdy sc ((60 * jv3) + i_a) n_a)) 3 y4 (tea n_a (tdy sc ((60 * jv3) + i_a) n_a))) (tst sc ((60 * jv3) + i_a) (3 + (tdy sc ((60 * jv3) + i_a) n_a)) 4 y5 (tea n_a (tdy sc ((60 * jv3) + i_a) n_a))) hn)) (by rw [← e41]) ?_
            exact loopv9 ((tdy sc ((60 * jv3) + i_a) n_a) + 1) 0 (by omega) (by omega)
          ·
            have hq42 : ¬ (fr0 sc ((60 * jv3) + i_a) n_a = (-1)) := of_decide_eq_false hq7
            refine z_aload_n X dX5_duchy_67 rfl 1 rfl ?_
            refine z_bipush (v := (-100)) X dX5_duchy_68 (by decide) ?_
            refine z_aload_n X dX5_duchy_70 rfl 1 rfl ?_
            refine z_get (v := .int (nI (pXA sc ((60 * jv3) + i_a) n_a))) (N := 29) X i_RX5 (ci := 4) rfl 0 rfl 10 (by decide) f_88 rfl dX5_duchy_71 ?_
            refine z_isub X dX5_duchy_74 ?_
            refine z_callVM X (c_X5_refused l g b ft so D E tr C lk kd st sp nd rO rB rD rW sz sl sc sm (pXA sc ((60 * jv3) + i_a) n_a) (pXB sc ((60 * jv3) + i_a) n_a) (pXC sc ((60 * jv3) + i_a) n_a) (pXD sc ((60 * jv3) + i_a) n_a) (tlk sc ((60 * jv3) + i_a) y1 (pXC sc ((60 * jv3) + i_a) n_a)) (tkd sc ((60 * jv3) + i_a) (3 + pXC sc ((60 * jv3) + i_a) n_a) y2 (pXD sc ((60 * jv3) + i_a) n_a)) (tst sc ((60 * jv3) + i_a) (3 + pXC sc ((60 * jv3) + i_a) n_a) 2 y3 (pXD sc ((60 * jv3) + i_a) n_a)) (tst sc ((60 * jv3) + i_a) (3 + pXC sc ((60 * jv3) + i_a) n_a) 3 y4 (pXD sc ((60 * jv3) + i_a) n_a)) (tst sc ((60 * jv3) + i_a) (3 + pXC sc ((60 * jv3) + i_a) n_a) 4 y5 (pXD sc ((60 * jv3) + i_a) n_a)) hn ((-100) - (nI (pXA sc ((60 * jv3) + i_a) n_a)))) gX5_duchy_X5_refused rfl ⟨rfl, rfl⟩ (by decide +kernel) ⟨Nat.le_of_ble_eq_true rfl, Nat.le_of_ble_eq_true rfl⟩ ZF.room (ci := 4) rfl 0 rfl rfl (As := [.int ((-100) - (nI (pXA sc ((60 * jv3) + i_a) n_a)))]) (n := 1) rfl rfl (st1 := [.int ((-100) - (nI (pXA sc ((60 * jv3) + i_a) n_a)))]) rfl (Nat.le_of_ble_eq_true rfl) dX5_duchy_75 ?_
            have e43 : (if zin (nI jv3) 4 && zin (nI jv5) 3 then (foc (sl (tn (nI jv3))) (sz (tn (nI jv3))) (nI jv5) (nI i_a) (nI n_a)) else nI 0) = (nI 0) := by first | (simp [dur, duk, nI_0, hq2, hc3, hq4, hc5, hti_a, htn_a, hfo, hq6, hq42]; done) | (rw [pXA_nI (by omega) hq42]; simp [dur, duk, nI_0, hq2, hc3, hq4, hc5, hti_a, htn_a, hfo, hq6, hq42]; done)
            have e44 : (if zin (nI jv3) 4 && duk (nI jv5) (foc (sl (tn (nI jv3))) (sz (tn (nI jv3))) (nI jv5) (nI i_a) (nI n_a)) (fr0 sc (60 * tn (nI jv3) + tn (nI i_a)) (tn (nI n_a))) then sc ((60 * tn (nI jv3) + tn (nI i_a)) + 1) - nI 48 else so) = so := by first | (simp [dur, duk, nI_0, hq2, hc3, hq4, hc5, hti_a, htn_a, hfo, hq6, hq42]; done) | (rw [pXA_nI (by omega) hq42]; simp [dur, duk, nI_0, hq2, hc3, hq4, hc5, hti_a, htn_a, hfo, hq6, hq42]; done)
            have e45 : (if zin (nI jv3) 4 && duk (nI jv5) (foc (sl (tn (nI jv3))) (sz (tn (nI jv3))) (nI jv5) (nI i_a) (nI n_a)) (fr0 sc (60 * tn (nI jv3) + tn (nI i_a)) (tn (nI n_a))) then (tdy sc (60 * tn (nI jv3) + tn (nI i_a)) (tn (nI n_a))) else D) = D := by first | (simp [dur, duk, nI_0, hq2, hc3, hq4, hc5, hti_a, htn_a, hfo, hq6, hq42]; done) | (rw [pXA_nI (by omega) hq42]; simp [dur, duk, nI_0, hq2, hc3, hq4, hc5, hti_a, htn_a, hfo, hq6, hq42]; done)
            have e46 : (if zin (nI jv3) 4 && duk (nI jv5) (foc (sl (tn (nI jv3))) (sz (tn (nI jv3))) (nI jv5) (nI i_a) (nI n_a)) (fr0 sc (60 * tn (nI jv3) + tn (nI i_a)) (tn (nI n_a))) then (tea (tn (nI n_a)) (tdy sc (60 * tn (nI jv3) + tn (nI i_a)) (tn (nI n_a)))) else E) = E := by first | (simp [dur, duk, nI_0, hq2, hc3, hq4, hc5, hti_a, htn_a, hfo, hq6, hq42]; done) | (rw [pXA_nI (by omega) hq42]; simp [dur, duk, nI_0, hq2, hc3, hq4, hc5, hti_a, htn_a, hfo, hq6, hq42]; done)
            have e47 : (if zin (nI jv3) 4 && duk (nI jv5) (foc (sl (tn (nI jv3))) (sz (tn (nI jv3))) (nI jv5) (nI i_a) (nI n_a)) (fr0 sc (60 * tn (nI jv3) + tn (nI i_a)) (tn (nI n_a))) then 0 else C) = C := by first | (simp [dur, duk, nI_0, hq2, hc3, hq4, hc5, hti_a, htn_a, hfo, hq6, hq42]; done) | (rw [pXA_nI (by omega) hq42]; simp [dur, duk, nI_0, hq2, hc3, hq4, hc5, hti_a, htn_a, hfo, hq6, hq42]; done)
            have e48 : (if zin (nI jv3) 4 && duk (nI jv5) (foc (sl (tn (nI jv3))) (sz (tn (nI jv3))) (nI jv5) (nI i_a) (nI n_a)) (fr0 sc (60 * tn (nI jv3) + tn (nI i_a)) (tn (nI n_a))) then tlk sc (60 * tn (nI jv3) + tn (nI i_a)) lk (tdy sc (60 * tn (nI jv3) + tn (nI i_a)) (tn (nI n_a))) else lk) = lk := by first | (simp [dur, duk, nI_0, hq2, hc3, hq4, hc5, hti_a, htn_a, hfo, hq6, hq42]; done) | (rw [pXA_nI (by omega) hq42]; simp [dur, duk, nI_0, hq2, hc3, hq4, hc5, hti_a, htn_a, hfo, hq6, hq42]; done)
            have e49 : (if zin (nI jv3) 4 && duk (nI jv5) (foc (sl (tn (nI jv3))) (sz (tn (nI jv3))) (nI jv5) (nI i_a) (nI n_a)) (fr0 sc (60 * tn (nI jv3) + tn (nI i_a)) (tn (nI n_a))) then tkd sc (60 * tn (nI jv3) + tn (nI i_a)) (3 + (tdy sc (60 * tn (nI jv3) + tn (nI i_a)) (tn (nI n_a)))) kd (tea (tn (nI n_a)) (tdy sc (60 * tn (nI jv3) + tn (nI i_a)) (tn (nI n_a)))) else kd) = kd := by first | (simp [dur, duk, nI_0, hq2, hc3, hq4, hc5, hti_a, htn_a, hfo, hq6, hq42]; done) | (rw [pXA_nI (by omega) hq42]; simp [dur, duk, nI_0, hq2, hc3, hq4, hc5, hti_a, htn_a, hfo, hq6, hq42]; done)
            have e50 : (if zin (nI jv3) 4 && duk (nI jv5) (foc (sl (tn (nI jv3))) (sz (tn (nI jv3))) (nI jv5) (nI i_a) (nI n_a)) (fr0 sc (60 * tn (nI jv3) + tn (nI i_a)) (tn (nI n_a))) then tst sc (60 * tn (nI jv3) + tn (nI i_a)) (3 + (tdy sc (60 * tn (nI jv3) + tn (nI i_a)) (tn (nI n_a)))) 2 st (tea (tn (nI n_a)) (tdy sc (60 * tn (nI jv3) + tn (nI i_a)) (tn (nI n_a)))) else st) = st := by first | (simp [dur, duk, nI_0, hq2, hc3, hq4, hc5, hti_a, htn_a, hfo, hq6, hq42]; done) | (rw [pXA_nI (by omega) hq42]; simp [dur, duk, nI_0, hq2, hc3, hq4, hc5, hti_a, htn_a, hfo, hq6, hq42]; done)
            have e51 : (if zin (nI jv3) 4 && duk (nI jv5) (foc (sl (tn (nI jv3))) (sz (tn (nI jv3))) (nI jv5) (nI i_a) (nI n_a)) (fr0 sc (60 * tn (nI jv3) + tn (nI i_a)) (tn (nI n_a))) then tst sc (60 * tn (nI jv3) + tn (nI i_a)) (3 + (tdy sc (60 * tn (nI jv3) + tn (nI i_a)) (tn (nI n_a)))) 3 sp (tea (tn (nI n_a)) (tdy sc (60 * tn (nI jv3) + tn (nI i_a)) (tn (nI n_a)))) else sp) = sp := by first | (simp [dur, duk, nI_0, hq2, hc3, hq4, hc5, hti_a, htn_a, hfo, hq6, hq42]; done) | (rw [pXA_nI (by omega) hq42]; simp [dur, duk, nI_0, hq2, hc3, hq4, hc5, hti_a, htn_a, hfo, hq6, hq42]; done)
            have e52 : (if zin (nI jv3) 4 && duk (nI jv5) (foc (sl (tn (nI jv3))) (sz (tn (nI jv3))) (nI jv5) (nI i_a) (nI n_a)) (fr0 sc (60 * tn (nI jv3) + tn (nI i_a)) (tn (nI n_a))) then tst sc (60 * tn (nI jv3) + tn (nI i_a)) (3 + (tdy sc (60 * tn (nI jv3) + tn (nI i_a)) (tn (nI n_a)))) 4 nd (tea (tn (nI n_a)) (tdy sc (60 * tn (nI jv3) + tn (nI i_a)) (tn (nI n_a)))) else nd) = nd := by first | (simp [dur, duk, nI_0, hq2, hc3, hq4, hc5, hti_a, htn_a, hfo, hq6, hq42]; done) | (rw [pXA_nI (by omega) hq42]; simp [dur, duk, nI_0, hq2, hc3, hq4, hc5, hti_a, htn_a, hfo, hq6, hq42]; done)
            have e53 : (if zin (nI jv3) 4 && zin (nI jv5) 3 && decide ((foc (sl (tn (nI jv3))) (sz (tn (nI jv3))) (nI jv5) (nI i_a) (nI n_a)) = 0) then pXA sc (60 * tn (nI jv3) + tn (nI i_a)) (tn (nI n_a)) else xa) = (pXA sc ((60 * jv3) + i_a) n_a) := by first | (simp [dur, duk, nI_0, hq2, hc3, hq4, hc5, hti_a, htn_a, hfo, hq6, hq42]; done) | (rw [pXA_nI (by omega) hq42]; simp [dur, duk, nI_0, hq2, hc3, hq4, hc5, hti_a, htn_a, hfo, hq6, hq42]; done)
            have e54 : (if zin (nI jv3) 4 && zin (nI jv5) 3 && decide ((foc (sl (tn (nI jv3))) (sz (tn (nI jv3))) (nI jv5) (nI i_a) (nI n_a)) = 0) then pXB sc (60 * tn (nI jv3) + tn (nI i_a)) (tn (nI n_a)) else xb) = (pXB sc ((60 * jv3) + i_a) n_a) := by first | (simp [dur, duk, nI_0, hq2, hc3, hq4, hc5, hti_a, htn_a, hfo, hq6, hq42]; done) | (rw [pXA_nI (by omega) hq42]; simp [dur, duk, nI_0, hq2, hc3, hq4, hc5, hti_a, htn_a, hfo, hq6, hq42]; done)
            have e55 : (if zin (nI jv3) 4 && zin (nI jv5) 3 && decide ((foc (sl (tn (nI jv3))) (sz (tn (nI jv3))) (nI jv5) (nI i_a) (nI n_a)) = 0) then pXC sc (60 * tn (nI jv3) + tn (nI i_a)) (tn (nI n_a)) else xc) = (pXC sc ((60 * jv3) + i_a) n_a) := by first | (simp [dur, duk, nI_0, hq2, hc3, hq4, hc5, hti_a, htn_a, hfo, hq6, hq42]; done) | (rw [pXA_nI (by omega) hq42]; simp [dur, duk, nI_0, hq2, hc3, hq4, hc5, hti_a, htn_a, hfo, hq6, hq42]; done)
            have e56 : (if zin (nI jv3) 4 && zin (nI jv5) 3 && decide ((foc (sl (tn (nI jv3))) (sz (tn (nI jv3))) (nI jv5) (nI i_a) (nI n_a)) = 0) then pXD sc (60 * tn (nI jv3) + tn (nI i_a)) (tn (nI n_a)) else xd) = (pXD sc ((60 * jv3) + i_a) n_a) := by first | (simp [dur, duk, nI_0, hq2, hc3, hq4, hc5, hti_a, htn_a, hfo, hq6, hq42]; done) | (rw [pXA_nI (by omega) hq42]; simp [dur, duk, nI_0, hq2, hc3, hq4, hc5, hti_a, htn_a, hfo, hq6, hq42]; done)
            have e57 : (if zin (nI jv3) 4 && zin (nI jv5) 3 && decide ((foc (sl (tn (nI jv3))) (sz (tn (nI jv3))) (nI jv5) (nI i_a) (nI n_a)) = 0) then tlk sc (60 * tn (nI jv3) + tn (nI i_a)) y1 (pXC sc (60 * tn (nI jv3) + tn (nI i_a)) (tn (nI n_a))) else y1) = (tlk sc ((60 * jv3) + i_a) y1 (pXC sc ((60 * jv3) + i_a) n_a)) := by first | (simp [dur, duk, nI_0, hq2, hc3, hq4, hc5, hti_a, htn_a, hfo, hq6, hq42]; done) | (rw [pXA_nI (by omega) hq42]; simp [dur, duk, nI_0, hq2, hc3, hq4, hc5, hti_a, htn_a, hfo, hq6, hq42]; done)
            have e58 : (if zin (nI jv3) 4 && zin (nI jv5) 3 && decide ((foc (sl (tn (nI jv3))) (sz (tn (nI jv3))) (nI jv5) (nI i_a) (nI n_a)) = 0) then tkd sc (60 * tn (nI jv3) + tn (nI i_a)) (3 + pXC sc (60 * tn (nI jv3) + tn (nI i_a)) (tn (nI n_a))) y2 (pXD sc (60 * tn (nI jv3) + tn (nI i_a)) (tn (nI n_a))) else y2) = (tkd sc ((60 * jv3) + i_a) (3 + pXC sc ((60 * jv3) + i_a) n_a) y2 (pXD sc ((60 * jv3) + i_a) n_a)) := by first | (simp [dur, duk, nI_0, hq2, hc3, hq4, hc5, hti_a, htn_a, hfo, hq6, hq42]; done) | (rw [pXA_nI (by omega) hq42]; simp [dur, duk, nI_0, hq2, hc3, hq4, hc5, hti_a, htn_a, hfo, hq6, hq42]; done)
            have e59 : (if zin (nI jv3) 4 && zin (nI jv5) 3 && decide ((foc (sl (tn (nI jv3))) (sz (tn (nI jv3))) (nI jv5) (nI i_a) (nI n_a)) = 0) then tst sc (60 * tn (nI jv3) + tn (nI i_a)) (3 + pXC sc (60 * tn (nI jv3) + tn (nI i_a)) (tn (nI n_a))) 2 y3 (pXD sc (60 * tn (nI jv3) + tn (nI i_a)) (tn (nI n_a))) else y3) = (tst sc ((60 * jv3) + i_a) (3 + pXC sc ((60 * jv3) + i_a) n_a) 2 y3 (pXD sc ((60 * jv3) + i_a) n_a)) := by first | (simp [dur, duk, nI_0, hq2, hc3, hq4, hc5, hti_a, htn_a, hfo, hq6, hq42]; done) | (rw [pXA_nI (by omega) hq42]; simp [dur, duk, nI_0, hq2, hc3, hq4, hc5, hti_a, htn_a, hfo, hq6, hq42]; done)
            have e60 : (if zin (nI jv3) 4 && zin (nI jv5) 3 && decide ((foc (sl (tn (nI jv3))) (sz (tn (nI jv3))) (nI jv5) (nI i_a) (nI n_a)) = 0) then tst sc (60 * tn (nI jv3) + tn (nI i_a)) (3 + pXC sc (60 * tn (nI jv3) + tn (nI i_a)) (tn (nI n_a))) 3 y4 (pXD sc (60 * tn (nI jv3) + tn (nI i_a)) (tn (nI n_a))) else y4) = (tst sc ((60 * jv3) + i_a) (3 + pXC sc ((60 * jv3) + i_a) n_a) 3 y4 (pXD sc ((60 * jv3) + i_a) n_a)) := by first | (simp [dur, duk, nI_0, hq2, hc3, hq4, hc5, hti_a, htn_a, hfo, hq6, hq42]; done) | (rw [pXA_nI (by omega) hq42]; simp [dur, duk, nI_0, hq2, hc3, hq4, hc5, hti_a, htn_a, hfo, hq6, hq42]; done)
            have e61 : (if zin (nI jv3) 4 && zin (nI jv5) 3 && decide ((foc (sl (tn (nI jv3))) (sz (tn (nI jv3))) (nI jv5) (nI i_a) (nI n_a)) = 0) then tst sc (60 * tn (nI jv3) + tn (nI i_a)) (3 + pXC sc (60 * tn (nI jv3) + tn (nI i_a)) (tn (nI n_a))) 4 y5 (pXD sc (60 * tn (nI jv3) + tn (nI i_a)) (tn (nI n_a))) else y5) = (tst sc ((60 * jv3) + i_a) (3 + pXC sc ((60 * jv3) + i_a) n_a) 4 y5 (pXD sc ((60 * jv3) + i_a) n_a)) := by first | (simp [dur, duk, nI_0, hq2, hc3, hq4, hc5, hti_a, htn_a, hfo, hq6, hq42]; done) | (rw [pXA_nI (by omega) hq42]; simp [dur, duk, nI_0, hq2, hc3, hq4, hc5, hti_a, htn_a, hfo, hq6, hq42]; done)
            exact z_iret X ZF dX5_duchy_78 (by first | (simp [dur, duk, nI_0, hq2, hc3, hq4, hc5, hti_a, htn_a, hfo, hq6, hq42]; done) | (rw [pXA_nI (by omega) hq42]; simp [dur, duk, nI_0, hq2, hc3, hq4, hc5, hti_a, htn_a, hfo, hq6, hq42]; done)) (by first | rw [e61, e60, e59, e58, e57, e56, e55, e54, e53, e52, e51, e50, e49, e48, e47, e46, e45, e44, e43] | (simp only [e61, e60, e59, e58, e57, e56, e55, e54, e53, e52, e51, e50, e49, e48, e47, e46, e45, e44, e43]))
        ·
          exact absurd hq6 (by decide)
      ·
        refine z_top (y := (-10) - (foc (sl jv3) (sz jv3) (nI jv5) i n)) (cb_1 hfo) ?_
        refine z_ws (ws' := (wM g b (foc (sl jv3) (sz jv3) (nI jv5) i n) so D E tr C lk kd st sp nd rO rB rD rW sz sl sc sm xa xb xc xd y1 y2 y3 y4 y5 hn)) (by rw [if_neg hfo]) ?_
        refine z_istore (L' := [(5, .int ((-10) - (foc (sl jv3) (sz jv3) (nI jv5) i n))), (0, .ref (b 0)), (1, .int (nI jv3)), (2, .int (nI jv5)), (3, .int i), (4, .int n)]) X dX5_duchy_42 (by decide) rfl ?_
        refine z_iload X dX5_duchy_44 0 rfl ?_
        refine z_if_ge (tgt := 52) X dX5_duchy_46 (by decide) (fun hq62 => ?_) (fun hq62 => ?_)
        ·
          exact absurd hq62 (foc_neg hfo)
        ·
          refine z_iload X dX5_duchy_49 0 rfl ?_
          have e63 : (if zin (nI jv3) 4 && zin (nI jv5) 3 then (foc (sl (tn (nI jv3))) (sz (tn (nI jv3))) (nI jv5) i n) else nI 0) = (foc (sl jv3) (sz jv3) (nI jv5) i n) := by simp [dur, duk, nI_0, hq2, hc3, hq4, hc5, hfo]
          have e64 : (if zin (nI jv3) 4 && duk (nI jv5) (foc (sl (tn (nI jv3))) (sz (tn (nI jv3))) (nI jv5) i n) (fr0 sc (60 * tn (nI jv3) + tn i) (tn n)) then sc ((60 * tn (nI jv3) + tn i) + 1) - nI 48 else so) = so := by simp [dur, duk, nI_0, hq2, hc3, hq4, hc5, hfo]
          have e65 : (if zin (nI jv3) 4 && duk (nI jv5) (foc (sl (tn (nI jv3))) (sz (tn (nI jv3))) (nI jv5) i n) (fr0 sc (60 * tn (nI jv3) + tn i) (tn n)) then (tdy sc (60 * tn (nI jv3) + tn i) (tn n)) else D) = D := by simp [dur, duk, nI_0, hq2, hc3, hq4, hc5, hfo]
          have e66 : (if zin (nI jv3) 4 && duk (nI jv5) (foc (sl (tn (nI jv3))) (sz (tn (nI jv3))) (nI jv5) i n) (fr0 sc (60 * tn (nI jv3) + tn i) (tn n)) then (tea (tn n) (tdy sc (60 * tn (nI jv3) + tn i) (tn n))) else E) = E := by simp [dur, duk, nI_0, hq2, hc3, hq4, hc5, hfo]
          have e67 : (if zin (nI jv3) 4 && duk (nI jv5) (foc (sl (tn (nI jv3))) (sz (tn (nI jv3))) (nI jv5) i n) (fr0 sc (60 * tn (nI jv3) + tn i) (tn n)) then 0 else C) = C := by simp [dur, duk, nI_0, hq2, hc3, hq4, hc5, hfo]
          have e68 : (if zin (nI jv3) 4 && duk (nI jv5) (foc (sl (tn (nI jv3))) (sz (tn (nI jv3))) (nI jv5) i n) (fr0 sc (60 * tn (nI jv3) + tn i) (tn n)) then tlk sc (60 * tn (nI jv3) + tn i) lk (tdy sc (60 * tn (nI jv3) + tn i) (tn n)) else lk) = lk := by simp [dur, duk, nI_0, hq2, hc3, hq4, hc5, hfo]
          have e69 : (if zin (nI jv3) 4 && duk (nI jv5) (foc (sl (tn (nI jv3))) (sz (tn (nI jv3))) (nI jv5) i n) (fr0 sc (60 * tn (nI jv3) + tn i) (tn n)) then tkd sc (60 * tn (nI jv3) + tn i) (3 + (tdy sc (60 * tn (nI jv3) + tn i) (tn n))) kd (tea (tn n) (tdy sc (60 * tn (nI jv3) + tn i) (tn n))) else kd) = kd := by simp [dur, duk, nI_0, hq2, hc3, hq4, hc5, hfo]
          have e70 : (if zin (nI jv3) 4 && duk (nI jv5) (foc (sl (tn (nI jv3))) (sz (tn (nI jv3))) (nI jv5) i n) (fr0 sc (60 * tn (nI jv3) + tn i) (tn n)) then tst sc (60 * tn (nI jv3) + tn i) (3 + (tdy sc (60 * tn (nI jv3) + tn i) (tn n))) 2 st (tea (tn n) (tdy sc (60 * tn (nI jv3) + tn i) (tn n))) else st) = st := by simp [dur, duk, nI_0, hq2, hc3, hq4, hc5, hfo]
          have e71 : (if zin (nI jv3) 4 && duk (nI jv5) (foc (sl (tn (nI jv3))) (sz (tn (nI jv3))) (nI jv5) i n) (fr0 sc (60 * tn (nI jv3) + tn i) (tn n)) then tst sc (60 * tn (nI jv3) + tn i) (3 + (tdy sc (60 * tn (nI jv3) + tn i) (tn n))) 3 sp (tea (tn n) (tdy sc (60 * tn (nI jv3) + tn i) (tn n))) else sp) = sp := by simp [dur, duk, nI_0, hq2, hc3, hq4, hc5, hfo]
          have e72 : (if zin (nI jv3) 4 && duk (nI jv5) (foc (sl (tn (nI jv3))) (sz (tn (nI jv3))) (nI jv5) i n) (fr0 sc (60 * tn (nI jv3) + tn i) (tn n)) then tst sc (60 * tn (nI jv3) + tn i) (3 + (tdy sc (60 * tn (nI jv3) + tn i) (tn n))) 4 nd (tea (tn n) (tdy sc (60 * tn (nI jv3) + tn i) (tn n))) else nd) = nd := by simp [dur, duk, nI_0, hq2, hc3, hq4, hc5, hfo]
          have e73 : (if zin (nI jv3) 4 && zin (nI jv5) 3 && decide ((foc (sl (tn (nI jv3))) (sz (tn (nI jv3))) (nI jv5) i n) = 0) then pXA sc (60 * tn (nI jv3) + tn i) (tn n) else xa) = xa := by simp [dur, duk, nI_0, hq2, hc3, hq4, hc5, hfo]
          have e74 : (if zin (nI jv3) 4 && zin (nI jv5) 3 && decide ((foc (sl (tn (nI jv3))) (sz (tn (nI jv3))) (nI jv5) i n) = 0) then pXB sc (60 * tn (nI jv3) + tn i) (tn n) else xb) = xb := by simp [dur, duk, nI_0, hq2, hc3, hq4, hc5, hfo]
          have e75 : (if zin (nI jv3) 4 && zin (nI jv5) 3 && decide ((foc (sl (tn (nI jv3))) (sz (tn (nI jv3))) (nI jv5) i n) = 0) then pXC sc (60 * tn (nI jv3) + tn i) (tn n) else xc) = xc := by simp [dur, duk, nI_0, hq2, hc3, hq4, hc5, hfo]
          have e76 : (if zin (nI jv3) 4 && zin (nI jv5) 3 && decide ((foc (sl (tn (nI jv3))) (sz (tn (nI jv3))) (nI jv5) i n) = 0) then pXD sc (60 * tn (nI jv3) + tn i) (tn n) else xd) = xd := by simp [dur, duk, nI_0, hq2, hc3, hq4, hc5, hfo]
          have e77 : (if zin (nI jv3) 4 && zin (nI jv5) 3 && decide ((foc (sl (tn (nI jv3))) (sz (tn (nI jv3))) (nI jv5) i n) = 0) then tlk sc (60 * tn (nI jv3) + tn i) y1 (pXC sc (60 * tn (nI jv3) + tn i) (tn n)) else y1) = y1 := by simp [dur, duk, nI_0, hq2, hc3, hq4, hc5, hfo]
          have e78 : (if zin (nI jv3) 4 && zin (nI jv5) 3 && decide ((foc (sl (tn (nI jv3))) (sz (tn (nI jv3))) (nI jv5) i n) = 0) then tkd sc (60 * tn (nI jv3) + tn i) (3 + pXC sc (60 * tn (nI jv3) + tn i) (tn n)) y2 (pXD sc (60 * tn (nI jv3) + tn i) (tn n)) else y2) = y2 := by simp [dur, duk, nI_0, hq2, hc3, hq4, hc5, hfo]
          have e79 : (if zin (nI jv3) 4 && zin (nI jv5) 3 && decide ((foc (sl (tn (nI jv3))) (sz (tn (nI jv3))) (nI jv5) i n) = 0) then tst sc (60 * tn (nI jv3) + tn i) (3 + pXC sc (60 * tn (nI jv3) + tn i) (tn n)) 2 y3 (pXD sc (60 * tn (nI jv3) + tn i) (tn n)) else y3) = y3 := by simp [dur, duk, nI_0, hq2, hc3, hq4, hc5, hfo]
          have e80 : (if zin (nI jv3) 4 && zin (nI jv5) 3 && decide ((foc (sl (tn (nI jv3))) (sz (tn (nI jv3))) (nI jv5) i n) = 0) then tst sc (60 * tn (nI jv3) + tn i) (3 + pXC sc (60 * tn (nI jv3) + tn i) (tn n)) 3 y4 (pXD sc (60 * tn (nI jv3) + tn i) (tn n)) else y4) = y4 := by simp [dur, duk, nI_0, hq2, hc3, hq4, hc5, hfo]
          have e81 : (if zin (nI jv3) 4 && zin (nI jv5) 3 && decide ((foc (sl (tn (nI jv3))) (sz (tn (nI jv3))) (nI jv5) i n) = 0) then tst sc (60 * tn (nI jv3) + tn i) (3 + pXC sc (60 * tn (nI jv3) + tn i) (tn n)) 4 y5 (pXD sc (60 * tn (nI jv3) + tn i) (tn n)) else y5) = y5 := by simp [dur, duk, nI_0, hq2, hc3, hq4, hc5, hfo]
          exact z_iret X ZF dX5_duchy_51 (by simp [dur, duk, nI_0, hq2, hc3, hq4, hc5, hfo]) (by first | rw [e81, e80, e79, e78, e77, e76, e75, e74, e73, e72, e71, e70, e69, e68, e67, e66, e65, e64, e63] | (simp only [e81, e80, e79, e78, e77, e76, e75, e74, e73, e72, e71, e70, e69, e68, e67, e66, e65, e64, e63]))
    ·
      refine z_aload_n X dX5_duchy_25 rfl 0 rfl ?_
      refine z_bipush (v := (-2)) X dX5_duchy_26 (by decide) ?_
      refine z_callVM X (c_X5_refused l g b ft so D E tr C lk kd st sp nd rO rB rD rW sz sl sc sm xa xb xc xd y1 y2 y3 y4 y5 hn (-2)) gX5_duchy_X5_refused rfl ⟨rfl, rfl⟩ (by decide +kernel) ⟨Nat.le_of_ble_eq_true rfl, Nat.le_of_ble_eq_true rfl⟩ ZF.room (ci := 4) rfl 0 rfl rfl (As := [.int (-2)]) (n := 1) rfl rfl (st1 := [.int (-2)]) rfl (Nat.le_of_ble_eq_true rfl) dX5_duchy_28 ?_
      have e82 : (if zin (nI jv3) 4 && zin lane 3 then (foc (sl (tn (nI jv3))) (sz (tn (nI jv3))) lane i n) else nI 0) = (nI 0) := by simp [dur, duk, nI_0, hq2, hc3, hq4]
      have e83 : (if zin (nI jv3) 4 && duk lane (foc (sl (tn (nI jv3))) (sz (tn (nI jv3))) lane i n) (fr0 sc (60 * tn (nI jv3) + tn i) (tn n)) then sc ((60 * tn (nI jv3) + tn i) + 1) - nI 48 else so) = so := by simp [dur, duk, nI_0, hq2, hc3, hq4]
      have e84 : (if zin (nI jv3) 4 && duk lane (foc (sl (tn (nI jv3))) (sz (tn (nI jv3))) lane i n) (fr0 sc (60 * tn (nI jv3) + tn i) (tn n)) then (tdy sc (60 * tn (nI jv3) + tn i) (tn n)) else D) = D := by simp [dur, duk, nI_0, hq2, hc3, hq4]
      have e85 : (if zin (nI jv3) 4 && duk lane (foc (sl (tn (nI jv3))) (sz (tn (nI jv3))) lane i n) (fr0 sc (60 * tn (nI jv3) + tn i) (tn n)) then (tea (tn n) (tdy sc (60 * tn (nI jv3) + tn i) (tn n))) else E) = E := by simp [dur, duk, nI_0, hq2, hc3, hq4]
      have e86 : (if zin (nI jv3) 4 && duk lane (foc (sl (tn (nI jv3))) (sz (tn (nI jv3))) lane i n) (fr0 sc (60 * tn (nI jv3) + tn i) (tn n)) then 0 else C) = C := by simp [dur, duk, nI_0, hq2, hc3, hq4]
      have e87 : (if zin (nI jv3) 4 && duk lane (foc (sl (tn (nI jv3))) (sz (tn (nI jv3))) lane i n) (fr0 sc (60 * tn (nI jv3) + tn i) (tn n)) then tlk sc (60 * tn (nI jv3) + tn i) lk (tdy sc (60 * tn (nI jv3) + tn i) (tn n)) else lk) = lk := by simp [dur, duk, nI_0, hq2, hc3, hq4]
      have e88 : (if zin (nI jv3) 4 && duk lane (foc (sl (tn (nI jv3))) (sz (tn (nI jv3))) lane i n) (fr0 sc (60 * tn (nI jv3) + tn i) (tn n)) then tkd sc (60 * tn (nI jv3) + tn i) (3 + (tdy sc (60 * tn (nI jv3) + tn i) (tn n))) kd (tea (tn n) (tdy sc (60 * tn (nI jv3) + tn i) (tn n))) else kd) = kd := by simp [dur, duk, nI_0, hq2, hc3, hq4]
      have e89 : (if zin (nI jv3) 4 && duk lane (foc (sl (tn (nI jv3))) (sz (tn (nI jv3))) lane i n) (fr0 sc (60 * tn (nI jv3) + tn i) (tn n)) then tst sc (60 * tn (nI jv3) + tn i) (3 + (tdy sc (60 * tn (nI jv3) + tn i) (tn n))) 2 st (tea (tn n) (tdy sc (60 * tn (nI jv3) + tn i) (tn n))) else st) = st := by simp [dur, duk, nI_0, hq2, hc3, hq4]
      have e90 : (if zin (nI jv3) 4 && duk lane (foc (sl (tn (nI jv3))) (sz (tn (nI jv3))) lane i n) (fr0 sc (60 * tn (nI jv3) + tn i) (tn n)) then tst sc (60 * tn (nI jv3) + tn i) (3 + (tdy sc (60 * tn (nI jv3) + tn i) (tn n))) 3 sp (tea (tn n) (tdy sc (60 * tn (nI jv3) + tn i) (tn n))) else sp) = sp := by simp [dur, duk, nI_0, hq2, hc3, hq4]
      have e91 : (if zin (nI jv3) 4 && duk lane (foc (sl (tn (nI jv3))) (sz (tn (nI jv3))) lane i n) (fr0 sc (60 * tn (nI jv3) + tn i) (tn n)) then tst sc (60 * tn (nI jv3) + tn i) (3 + (tdy sc (60 * tn (nI jv3) + tn i) (tn n))) 4 nd (tea (tn n) (tdy sc (60 * tn (nI jv3) + tn i) (tn n))) else nd) = nd := by simp [dur, duk, nI_0, hq2, hc3, hq4]
      have e92 : (if zin (nI jv3) 4 && zin lane 3 && decide ((foc (sl (tn (nI jv3))) (sz (tn (nI jv3))) lane i n) = 0) then pXA sc (60 * tn (nI jv3) + tn i) (tn n) else xa) = xa := by simp [dur, duk, nI_0, hq2, hc3, hq4]
      have e93 : (if zin (nI jv3) 4 && zin lane 3 && decide ((foc (sl (tn (nI jv3))) (sz (tn (nI jv3))) lane i n) = 0) then pXB sc (60 * tn (nI jv3) + tn i) (tn n) else xb) = xb := by simp [dur, duk, nI_0, hq2, hc3, hq4]
      have e94 : (if zin (nI jv3) 4 && zin lane 3 && decide ((foc (sl (tn (nI jv3))) (sz (tn (nI jv3))) lane i n) = 0) then pXC sc (60 * tn (nI jv3) + tn i) (tn n) else xc) = xc := by simp [dur, duk, nI_0, hq2, hc3, hq4]
      have e95 : (if zin (nI jv3) 4 && zin lane 3 && decide ((foc (sl (tn (nI jv3))) (sz (tn (nI jv3))) lane i n) = 0) then pXD sc (60 * tn (nI jv3) + tn i) (tn n) else xd) = xd := by simp [dur, duk, nI_0, hq2, hc3, hq4]
      have e96 : (if zin (nI jv3) 4 && zin lane 3 && decide ((foc (sl (tn (nI jv3))) (sz (tn (nI jv3))) lane i n) = 0) then tlk sc (60 * tn (nI jv3) + tn i) y1 (pXC sc (60 * tn (nI jv3) + tn i) (tn n)) else y1) = y1 := by simp [dur, duk, nI_0, hq2, hc3, hq4]
      have e97 : (if zin (nI jv3) 4 && zin lane 3 && decide ((foc (sl (tn (nI jv3))) (sz (tn (nI jv3))) lane i n) = 0) then tkd sc (60 * tn (nI jv3) + tn i) (3 + pXC sc (60 * tn (nI jv3) + tn i) (tn n)) y2 (pXD sc (60 * tn (nI jv3) + tn i) (tn n)) else y2) = y2 := by simp [dur, duk, nI_0, hq2, hc3, hq4]
      have e98 : (if zin (nI jv3) 4 && zin lane 3 && decide ((foc (sl (tn (nI jv3))) (sz (tn (nI jv3))) lane i n) = 0) then tst sc (60 * tn (nI jv3) + tn i) (3 + pXC sc (60 * tn (nI jv3) + tn i) (tn n)) 2 y3 (pXD sc (60 * tn (nI jv3) + tn i) (tn n)) else y3) = y3 := by simp [dur, duk, nI_0, hq2, hc3, hq4]
      have e99 : (if zin (nI jv3) 4 && zin lane 3 && decide ((foc (sl (tn (nI jv3))) (sz (tn (nI jv3))) lane i n) = 0) then tst sc (60 * tn (nI jv3) + tn i) (3 + pXC sc (60 * tn (nI jv3) + tn i) (tn n)) 3 y4 (pXD sc (60 * tn (nI jv3) + tn i) (tn n)) else y4) = y4 := by simp [dur, duk, nI_0, hq2, hc3, hq4]
      have e100 : (if zin (nI jv3) 4 && zin lane 3 && decide ((foc (sl (tn (nI jv3))) (sz (tn (nI jv3))) lane i n) = 0) then tst sc (60 * tn (nI jv3) + tn i) (3 + pXC sc (60 * tn (nI jv3) + tn i) (tn n)) 4 y5 (pXD sc (60 * tn (nI jv3) + tn i) (tn n)) else y5) = y5 := by simp [dur, duk, nI_0, hq2, hc3, hq4]
      exact z_iret X ZF dX5_duchy_31 (by simp [dur, duk, nI_0, hq2, hc3, hq4]) (by first | rw [e100, e99, e98, e97, e96, e95, e94, e93, e92, e91, e90, e89, e88, e87, e86, e85, e84, e83, e82] | (simp only [e100, e99, e98, e97, e96, e95, e94, e93, e92, e91, e90, e89, e88, e87, e86, e85, e84, e83, e82]))
  ·
    have hq101 : (zin k 4) = false := by simpa using hq1
    refine z_aload_n X dX5_duchy_7 rfl 0 rfl ?_
    refine z_iconst (v := (-1)) X dX5_duchy_8 (by decide) ?_
    refine z_callVM X (c_X5_refused l g b ft so D E tr C lk kd st sp nd rO rB rD rW sz sl sc sm xa xb xc xd y1 y2 y3 y4 y5 hn (-1)) gX5_duchy_X5_refused rfl ⟨rfl, rfl⟩ (by decide +kernel) ⟨Nat.le_of_ble_eq_true rfl, Nat.le_of_ble_eq_true rfl⟩ ZF.room (ci := 4) rfl 0 rfl rfl (As := [.int (-1)]) (n := 1) rfl rfl (st1 := [.int (-1)]) rfl (Nat.le_of_ble_eq_true rfl) dX5_duchy_9 ?_
    have e102 : (if zin k 4 && zin lane 3 then (foc (sl (tn k)) (sz (tn k)) lane i n) else nI 0) = (nI 0) := by simp [dur, duk, nI_0, hq101]
    have e103 : (if zin k 4 && duk lane (foc (sl (tn k)) (sz (tn k)) lane i n) (fr0 sc (60 * tn k + tn i) (tn n)) then sc ((60 * tn k + tn i) + 1) - nI 48 else so) = so := by simp [dur, duk, nI_0, hq101]
    have e104 : (if zin k 4 && duk lane (foc (sl (tn k)) (sz (tn k)) lane i n) (fr0 sc (60 * tn k + tn i) (tn n)) then (tdy sc (60 * tn k + tn i) (tn n)) else D) = D := by simp [dur, duk, nI_0, hq101]
    have e105 : (if zin k 4 && duk lane (foc (sl (tn k)) (sz (tn k)) lane i n) (fr0 sc (60 * tn k + tn i) (tn n)) then (tea (tn n) (tdy sc (60 * tn k + tn i) (tn n))) else E) = E := by simp [dur, duk, nI_0, hq101]
    have e106 : (if zin k 4 && duk lane (foc (sl (tn k)) (sz (tn k)) lane i n) (fr0 sc (60 * tn k + tn i) (tn n)) then 0 else C) = C := by simp [dur, duk, nI_0, hq101]
    have e107 : (if zin k 4 && duk lane (foc (sl (tn k)) (sz (tn k)) lane i n) (fr0 sc (60 * tn k + tn i) (tn n)) then tlk sc (60 * tn k + tn i) lk (tdy sc (60 * tn k + tn i) (tn n)) else lk) = lk := by simp [dur, duk, nI_0, hq101]
    have e108 : (if zin k 4 && duk lane (foc (sl (tn k)) (sz (tn k)) lane i n) (fr0 sc (60 * tn k + tn i) (tn n)) then tkd sc (60 * tn k + tn i) (3 + (tdy sc (60 * tn k + tn i) (tn n))) kd (tea (tn n) (tdy sc (60 * tn k + tn i) (tn n))) else kd) = kd := by simp [dur, duk, nI_0, hq101]
    have e109 : (if zin k 4 && duk lane (foc (sl (tn k)) (sz (tn k)) lane i n) (fr0 sc (60 * tn k + tn i) (tn n)) then tst sc (60 * tn k + tn i) (3 + (tdy sc (60 * tn k + tn i) (tn n))) 2 st (tea (tn n) (tdy sc (60 * tn k + tn i) (tn n))) else st) = st := by simp [dur, duk, nI_0, hq101]
    have e110 : (if zin k 4 && duk lane (foc (sl (tn k)) (sz (tn k)) lane i n) (fr0 sc (60 * tn k + tn i) (tn n)) then tst sc (60 * tn k + tn i) (3 + (tdy sc (60 * tn k + tn i) (tn n))) 3 sp (tea (tn n) (tdy sc (60 * tn k + tn i) (tn n))) else sp) = sp := by simp [dur, duk, nI_0, hq101]
    have e111 : (if zin k 4 && duk lane (foc (sl (tn k)) (sz (tn k)) lane i n) (fr0 sc (60 * tn k + tn i) (tn n)) then tst sc (60 * tn k + tn i) (3 + (tdy sc (60 * tn k + tn i) (tn n))) 4 nd (tea (tn n) (tdy sc (60 * tn k + tn i) (tn n))) else nd) = nd := by simp [dur, duk, nI_0, hq101]
    have e112 : (if zin k 4 && zin lane 3 && decide ((foc (sl (tn k)) (sz (tn k)) lane i n) = 0) then pXA sc (60 * tn k + tn i) (tn n) else xa) = xa := by simp [dur, duk, nI_0, hq101]
    have e113 : (if zin k 4 && zin lane 3 && decide ((foc (sl (tn k)) (sz (tn k)) lane i n) = 0) then pXB sc (60 * tn k + tn i) (tn n) else xb) = xb := by simp [dur, duk, nI_0, hq101]
    have e114 : (if zin k 4 && zin lane 3 && decide ((foc (sl (tn k)) (sz (tn k)) lane i n) = 0) then pXC sc (60 * tn k + tn i) (tn n) else xc) = xc := by simp [dur, duk, nI_0, hq101]
    have e115 : (if zin k 4 && zin lane 3 && decide ((foc (sl (tn k)) (sz (tn k)) lane i n) = 0) then pXD sc (60 * tn k + tn i) (tn n) else xd) = xd := by simp [dur, duk, nI_0, hq101]
    have e116 : (if zin k 4 && zin lane 3 && decide ((foc (sl (tn k)) (sz (tn k)) lane i n) = 0) then tlk sc (60 * tn k + tn i) y1 (pXC sc (60 * tn k + tn i) (tn n)) else y1) = y1 := by simp [dur, duk, nI_0, hq101]
    have e117 : (if zin k 4 && zin lane 3 && decide ((foc (sl (tn k)) (sz (tn k)) lane i n) = 0) then tkd sc (60 * tn k + tn i) (3 + pXC sc (60 * tn k + tn i) (tn n)) y2 (pXD sc (60 * tn k + tn i) (tn n)) else y2) = y2 := by simp [dur, duk, nI_0, hq101]
    have e118 : (if zin k 4 && zin lane 3 && decide ((foc (sl (tn k)) (sz (tn k)) lane i n) = 0) then tst sc (60 * tn k + tn i) (3 + pXC sc (60 * tn k + tn i) (tn n)) 2 y3 (pXD sc (60 * tn k + tn i) (tn n)) else y3) = y3 := by simp [dur, duk, nI_0, hq101]
    have e119 : (if zin k 4 && zin lane 3 && decide ((foc (sl (tn k)) (sz (tn k)) lane i n) = 0) then tst sc (60 * tn k + tn i) (3 + pXC sc (60 * tn k + tn i) (tn n)) 3 y4 (pXD sc (60 * tn k + tn i) (tn n)) else y4) = y4 := by simp [dur, duk, nI_0, hq101]
    have e120 : (if zin k 4 && zin lane 3 && decide ((foc (sl (tn k)) (sz (tn k)) lane i n) = 0) then tst sc (60 * tn k + tn i) (3 + pXC sc (60 * tn k + tn i) (tn n)) 4 y5 (pXD sc (60 * tn k + tn i) (tn n)) else y5) = y5 := by simp [dur, duk, nI_0, hq101]
    exact z_iret X ZF dX5_duchy_12 (by simp [dur, duk, nI_0, hq101]) (by first | rw [e120, e119, e118, e117, e116, e115, e114, e113, e112, e111, e110, e109, e108, e107, e106, e105, e104, e103, e102] | (simp only [e120, e119, e118, e117, e116, e115, e114, e113, e112, e111, e110, e109, e108, e107, e106, e105, e104, e103, e102]))
abbrev rX5_planBy_s : Room := { frames := 4, cells := 0, slots := 0, locals := 92 }
set_option maxHeartbeats 4000000 in
set_option maxRecDepth 100000 in
theorem c_X5_planBy_s (l : Launch) (g : zg) (b : Nat → Nat) (ft : Int32) (so : Int32) (D : Nat) (E : Nat) (tr : Int32) (C : Nat) (lk : Nat → Int32) (kd : Nat → Int32) (st : Nat → Int32) (sp : Nat → Int32) (nd : Nat → Int32) (rO : Nat → Int32) (rB : Nat → Int32) (rD : Nat → Int32) (rW : Nat → Int32) (sz : Nat → Int32) (sl : Nat → Int32) (sc : Nat → Int32) (sm : Int32) (xa : Nat) (xb : Int32) (xc : Nat) (xd : Nat) (y1 : Nat → Int32) (y2 : Nat → Int32) (y3 : Nat → Int32) (y4 : Nat → Int32) (y5 : Nat → Int32) (hn : Nat → Int32) (f_r : Nat) (w_n : Nat) (hE : E ≤ 4) (hD : D ≤ 6) (hL : vL kd st E) (hSp : vS sp E) (hsm : sm = (-9)) (hF : ∀ a_, a_ < E → sc (f_r + a_) = nI (tn (sc (f_r + a_))) ∧ tn (sc (f_r + a_)) < 2 ^ D) (hf2 : f_r + E ≤ 240) (hw4 : w_n < 4) : zM l g yX5_planBy wsX5_planBy rX5_planBy_s [.ref (b 0), .int (nI f_r), .int (nI w_n)] (wM g b ft so D E tr C lk kd st sp nd rO rB rD rW sz sl sc sm xa xb xc xd y1 y2 y3 y4 y5 hn) (some (.int (ofp D E lk so kd st sp nd sc f_r (nI w_n)))) (wM g b ft so D E tr C lk kd st sp nd rO rB rD rW sz sl sc sm xa xb xc xd y1 y2 y3 y4 y5 hn) := by
  refine z_met (own := RX5) (cc := cX5_planBy) (maxL := 12) (ret := some .int) (by decide +kernel) rfl rfl (Nat.le_of_ble_eq_true rfl) ?_
  intro M X ZF
  refine z_Le (L' := [(0, .ref (b 0)), (1, .int (nI f_r)), (2, .int (nI w_n))]) rfl ?_
  have hsm2 := hsm
  have hf9 : fsm lk so sm D = fs lk so D := by rw [hsm]; exact fsm_no hD
  have hpD : 2 ^ D ≤ 2 ^ 6 := Nat.pow_le_pow_right (by omega) hD
  have i_RX5 : ∀ w ∈ wsX50, w ∈ wsX5_planBy := by decide +kernel
  have f_85 : Cond.fieldLink RX5 85 (TX5 4).1 (TX5 4).2.1 (TX5 4).2.2.1 ∈ wsX5_planBy := by decide +kernel
  have f_63 : Cond.fieldLink RX5 63 (TX5 26).1 (TX5 26).2.1 (TX5 26).2.2.1 ∈ wsX5_planBy := by decide +kernel
  have f_78 : Cond.fieldLink RX5 78 (TX5 2).1 (TX5 2).2.1 (TX5 2).2.2.1 ∈ wsX5_planBy := by decide +kernel
  have f_22 : Cond.fieldLink RX5 22 (TX5 8).1 (TX5 8).2.1 (TX5 8).2.2.1 ∈ wsX5_planBy := by decide +kernel
  refine z_iconst (v := nI 0) X dX5_planBy_0 (by decide) ?_
  refine z_istore_n (L' := [(3, .int (nI 0)), (0, .ref (b 0)), (1, .int (nI f_r)), (2, .int (nI w_n))]) X dX5_planBy_1 rfl (by decide) rfl ?_
  refine z_bipush (v := (-9)) X dX5_planBy_2 (by decide) ?_
  refine z_istore (L' := [(4, .int (-9)), (3, .int (nI 0)), (0, .ref (b 0)), (1, .int (nI f_r)), (2, .int (nI w_n))]) X dX5_planBy_4 (by decide) rfl ?_
  refine z_iconst (v := nI 0) X dX5_planBy_6 (by decide) ?_
  refine z_istore (L' := [(5, .int (nI 0)), (4, .int (-9)), (3, .int (nI 0)), (0, .ref (b 0)), (1, .int (nI f_r)), (2, .int (nI w_n))]) X dX5_planBy_7 (by decide) rfl ?_
  refine z_iconst (v := nI 0) X dX5_planBy_9 (by decide) ?_
  refine z_istore (L' := [(6, .int (nI 0)), (5, .int (nI 0)), (4, .int (-9)), (3, .int (nI 0)), (0, .ref (b 0)), (1, .int (nI f_r)), (2, .int (nI w_n))]) X dX5_planBy_10 (by decide) rfl ?_
  refine z_iconst (v := nI 0) X dX5_planBy_12 (by decide) ?_
  refine z_istore (L' := [(7, .int (nI 0)), (6, .int (nI 0)), (5, .int (nI 0)), (4, .int (-9)), (3, .int (nI 0)), (0, .ref (b 0)), (1, .int (nI f_r)), (2, .int (nI w_n))]) X dX5_planBy_13 (by decide) rfl ?_
  refine z_iconst (v := nI 0) X dX5_planBy_15 (by decide) ?_
  refine z_istore (L' := [(8, .int (nI 0)), (7, .int (nI 0)), (6, .int (nI 0)), (5, .int (nI 0)), (4, .int (-9)), (3, .int (nI 0)), (0, .ref (b 0)), (1, .int (nI f_r)), (2, .int (nI w_n))]) X dX5_planBy_16 (by decide) rfl ?_
  have loopv1 : ∀ (n1 a_v : Nat), a_v ≤ E → E + 1 ≤ a_v + n1 → zG l g 12 M (wM g b ft so D E tr C lk kd st sp nd rO rB rD rW sz sl sc sm xa xb xc xd y1 y2 y3 y4 y5 hn) [(0, .ref (b 0)), (1, .int (nI f_r)), (2, .int (nI w_n)), (3, .int (nI (fpl D kd st sp (fs lk so D) sc f_r a_v))), (4, .int (ffo D kd st (fs lk so D) sc f_r a_v)), (5, .int (nI (wpl D kd st (fs lk so D) sc f_r a_v))), (6, .int (nI (hpl nd sc f_r a_v))), (7, .int (nI 0)), (8, .int (nI a_v))] 18 [] := by
    intro n1
    induction n1 with
    | zero => intro a_v h1 h2; exact absurd h2 (by omega)
    | succ n1 ih1 =>
      intro a_v hi1 hn1
      refine z_iload X dX5_planBy_18 8 rfl ?_
      refine z_aload_n X dX5_planBy_20 rfl 0 rfl ?_
      refine z_get (v := .int (nI E)) (N := 29) X i_RX5 (ci := 4) rfl 0 rfl 4 (by decide) f_85 rfl dX5_planBy_21 ?_
      refine z_icmp_geN (tgt := 189) X dX5_planBy_24 (by decide) (by omega) (by omega) (fun hq2 => ?_) (fun hq2 => ?_)
      ·
        refine z_iload_n X dX5_planBy_189 rfl 2 rfl ?_
        refine z_bipush (v := nI 10) X dX5_planBy_190 (by decide) ?_
        refine z_icmp_ltN (tgt := 214) X dX5_planBy_192 (by decide) (by omega) (by omega) (fun hq3 => ?_) (fun hq3 => ?_)
        ·
          refine z_iload_n X dX5_planBy_214 rfl 2 rfl ?_
          refine z_if_neN (tgt := 222) X dX5_planBy_215 (by decide) (by omega) (fun hq4 => ?_) (fun hq4 => ?_)
          ·
            refine z_iload_n X dX5_planBy_222 rfl 2 rfl ?_
            refine z_iconst (v := nI 1) X dX5_planBy_223 (by decide) ?_
            refine z_icmp_neN (tgt := 232) X dX5_planBy_224 (by decide) (by omega) (by omega) (fun hq5 => ?_) (fun hq5 => ?_)
            ·
              refine z_iload_n X dX5_planBy_232 rfl 2 rfl ?_
              refine z_iconst (v := nI 2) X dX5_planBy_233 (by decide) ?_
              refine z_icmp_neN (tgt := 242) X dX5_planBy_234 (by decide) (by omega) (by omega) (fun hq6 => ?_) (fun hq6 => ?_)
              ·
                refine z_iload X dX5_planBy_242 6 rfl ?_
                exact z_iret X ZF dX5_planBy_244 (by first | (rw [ofp_0 (by omega), show E = a_v by omega]; done) | (rw [ofp_1 (by omega), show E = a_v by omega]; exact ffo_fdx hD _) | (rw [ofp_2 (by omega), show E = a_v by omega]; done) | (rw [ofp_3 (by omega), show E = a_v by omega]; done)) rfl
              ·
                refine z_iload X dX5_planBy_237 5 rfl ?_
                refine z_goto (tgt := 244) X dX5_planBy_239 (by decide) ?_
                exact z_iret X ZF dX5_planBy_244 (by first | (rw [ofp_0 (by omega), show E = a_v by omega]; done) | (rw [ofp_1 (by omega), show E = a_v by omega]; exact ffo_fdx hD _) | (rw [ofp_2 (by omega), show E = a_v by omega]; done) | (rw [ofp_3 (by omega), show E = a_v by omega]; done)) rfl
            ·
              refine z_iload X dX5_planBy_227 4 rfl ?_
              refine z_goto (tgt := 244) X dX5_planBy_229 (by decide) ?_
              exact z_iret X ZF dX5_planBy_244 (by first | (rw [ofp_0 (by omega), show E = a_v by omega]; done) | (rw [ofp_1 (by omega), show E = a_v by omega]; exact ffo_fdx hD _) | (rw [ofp_2 (by omega), show E = a_v by omega]; done) | (rw [ofp_3 (by omega), show E = a_v by omega]; done)) rfl
          ·
            refine z_iload_n X dX5_planBy_218 rfl 3 rfl ?_
            refine z_goto (tgt := 244) X dX5_planBy_219 (by decide) ?_
            exact z_iret X ZF dX5_planBy_244 (by first | (rw [ofp_0 (by omega), show E = a_v by omega]; done) | (rw [ofp_1 (by omega), show E = a_v by omega]; exact ffo_fdx hD _) | (rw [ofp_2 (by omega), show E = a_v by omega]; done) | (rw [ofp_3 (by omega), show E = a_v by omega]; done)) rfl
        ·
          exact absurd hq3 (by omega)
      ·
        refine z_aload_n X dX5_planBy_27 rfl 0 rfl ?_
        refine z_get (v := .ref (b 17)) (N := 29) X i_RX5 (ci := 4) rfl 0 rfl 26 (by decide) f_63 rfl dX5_planBy_28 ?_
        refine z_iload_n X dX5_planBy_31 rfl 1 rfl ?_
        refine z_iload X dX5_planBy_32 8 rfl ?_
        refine z_iadd' (v := nI (f_r + a_v)) X dX5_planBy_34 (nI_add _ _) ?_
        refine z_ialdN X 17 rfl (by omega) (by omega) dX5_planBy_35 ?_
        refine z_top (y := nI (tn (sc (f_r + a_v)))) (hF a_v (by omega)).1 ?_
        refine z_istore (L' := [(9, .int (nI (tn (sc (f_r + a_v))))), (0, .ref (b 0)), (1, .int (nI f_r)), (2, .int (nI w_n)), (3, .int (nI (fpl D kd st sp (fs lk so D) sc f_r a_v))), (4, .int (ffo D kd st (fs lk so D) sc f_r a_v)), (5, .int (nI (wpl D kd st (fs lk so D) sc f_r a_v))), (6, .int (nI (hpl nd sc f_r a_v))), (7, .int (nI 0)), (8, .int (nI a_v))]) X dX5_planBy_36 (by decide) rfl ?_
        have hfn := fnd_lt (D := D) (L := Lf kd st a_v) (S := tn (sc (f_r + a_v))) (F := fs lk so D) hD
        have hst := (hF a_v (by omega)).2
        refine z_aload_n X dX5_planBy_38 rfl 1 rfl ?_
        refine z_iload X dX5_planBy_39 9 rfl ?_
        refine z_iload X dX5_planBy_41 0 rfl ?_
        refine z_callVM X (c_X5_foundBy l g b ft so D E tr C lk kd st sp nd rO rB rD rW sz sl sc sm xa xb xc xd y1 y2 y3 y4 y5 hn a_v (tn (sc (f_r + a_v))) (by omega) (by omega) (by omega) (by first | assumption | omega) hst) gX5_planBy_X5_foundBy rfl ⟨rfl, rfl⟩ (by decide +kernel) ⟨Nat.le_of_ble_eq_true rfl, Nat.le_of_ble_eq_true rfl⟩ ZF.room (ci := 4) rfl 0 rfl rfl (As := [.int (nI a_v), .int (nI (tn (sc (f_r + a_v))))]) (n := 2) rfl rfl (st1 := [.int (nI (fnd D (Lf kd st a_v) (tn (sc (f_r + a_v))) (fsm lk so sm D)))]) rfl (Nat.le_of_ble_eq_true rfl) dX5_planBy_43 ?_
        refine z_top (y := nI (fnd D (Lf kd st a_v) (tn (sc (f_r + a_v))) (fs lk so D))) (by rw [hf9]) ?_
        refine z_istore (L' := [(10, .int (nI (fnd D (Lf kd st a_v) (tn (sc (f_r + a_v))) (fs lk so D)))), (9, .int (nI (tn (sc (f_r + a_v))))), (0, .ref (b 0)), (1, .int (nI f_r)), (2, .int (nI w_n)), (3, .int (nI (fpl D kd st sp (fs lk so D) sc f_r a_v))), (4, .int (ffo D kd st (fs lk so D) sc f_r a_v)), (5, .int (nI (wpl D kd st (fs lk so D) sc f_r a_v))), (6, .int (nI (hpl nd sc f_r a_v))), (7, .int (nI 0)), (8, .int (nI a_v))]) X dX5_planBy_46 (by decide) rfl ?_
        refine z_iload_n X dX5_planBy_48 rfl 5 rfl ?_
        refine z_aload_n X dX5_planBy_49 rfl 2 rfl ?_
        refine z_iload X dX5_planBy_50 10 rfl ?_
        refine z_iload X dX5_planBy_52 1 rfl ?_
        refine z_callVM X (c_X5_fineOf l g b ft so D E tr C lk kd st sp nd rO rB rD rW sz sl sc sm xa xb xc xd y1 y2 y3 y4 y5 hn a_v (tn (sc (f_r + a_v))) (by omega) (by omega) (by omega) (by first | assumption | omega) (by first | assumption | omega) hst) gX5_planBy_X5_fineOf rfl ⟨rfl, rfl⟩ (by decide +kernel) ⟨Nat.le_of_ble_eq_true rfl, Nat.le_of_ble_eq_true rfl⟩ ZF.room (ci := 4) rfl 0 rfl rfl (As := [.int (nI a_v), .int (nI (tn (sc (f_r + a_v))))]) (n := 2) rfl rfl (st1 := [.int (nI (tn (sp a_v) * pc (fnd D (Lf kd st a_v) (tn (sc (f_r + a_v))) (fsm lk so sm D)))), .int (nI (fpl D kd st sp (fs lk so D) sc f_r a_v))]) rfl (Nat.le_of_ble_eq_true rfl) dX5_planBy_54 ?_
        refine z_top (y := nI (pc (fnd D (Lf kd st a_v) (tn (sc (f_r + a_v))) (fs lk so D)) * tn (sp a_v))) (by rw [hf9, Nat.mul_comm]) ?_
        refine z_iadd' (v := nI ((fpl D kd st sp (fs lk so D) sc f_r a_v) + (pc (fnd D (Lf kd st a_v) (tn (sc (f_r + a_v))) (fs lk so D)) * tn (sp a_v)))) X dX5_planBy_57 (nI_add _ _) ?_
        refine z_istore_n (L' := [(3, .int (nI ((fpl D kd st sp (fs lk so D) sc f_r a_v) + (pc (fnd D (Lf kd st a_v) (tn (sc (f_r + a_v))) (fs lk so D)) * tn (sp a_v))))), (10, .int (nI (fnd D (Lf kd st a_v) (tn (sc (f_r + a_v))) (fs lk so D)))), (9, .int (nI (tn (sc (f_r + a_v))))), (0, .ref (b 0)), (1, .int (nI f_r)), (2, .int (nI w_n)), (4, .int (ffo D kd st (fs lk so D) sc f_r a_v)), (5, .int (nI (wpl D kd st (fs lk so D) sc f_r a_v))), (6, .int (nI (hpl nd sc f_r a_v))), (7, .int (nI 0)), (8, .int (nI a_v))]) X dX5_planBy_58 rfl (by decide) rfl ?_
        have jn7 : zG l g 12 M (wM g b ft so D E tr C lk kd st sp nd rO rB rD rW sz sl sc sm xa xb xc xd y1 y2 y3 y4 y5 hn) [(0, .ref (b 0)), (1, .int (nI f_r)), (2, .int (nI w_n)), (3, .int (nI (fpl D kd st sp (fs lk so D) sc f_r (a_v + 1)))), (4, .int (ffo D kd st (fs lk so D) sc f_r a_v)), (5, .int (nI (wpl D kd st (fs lk so D) sc f_r (a_v + 1)))), (6, .int (nI (hpl nd sc f_r (a_v + 1)))), (7, .int (nI 0)), (8, .int (nI a_v)), (9, .int (nI (tn (sc (f_r + a_v))))), (10, .int (nI (fnd D (Lf kd st a_v) (tn (sc (f_r + a_v))) (fs lk so D))))] 133 [] := by
          refine z_aload_n X dX5_planBy_133 rfl 0 rfl ?_
          refine z_get (v := .int (nI D)) (N := 29) X i_RX5 (ci := 4) rfl 0 rfl 2 (by decide) f_78 rfl dX5_planBy_134 ?_
          refine z_iconst (v := nI 1) X dX5_planBy_137 (by decide) ?_
          refine z_isub X dX5_planBy_138 ?_
          refine z_istore (L' := [(11, .int ((nI D) - (nI 1))), (0, .ref (b 0)), (1, .int (nI f_r)), (2, .int (nI w_n)), (3, .int (nI (fpl D kd st sp (fs lk so D) sc f_r (a_v + 1)))), (4, .int (ffo D kd st (fs lk so D) sc f_r a_v)), (5, .int (nI (wpl D kd st (fs lk so D) sc f_r (a_v + 1)))), (6, .int (nI (hpl nd sc f_r (a_v + 1)))), (7, .int (nI 0)), (8, .int (nI a_v)), (9, .int (nI (tn (sc (f_r + a_v))))), (10, .int (nI (fnd D (Lf kd st a_v) (tn (sc (f_r + a_v))) (fs lk so D))))]) X dX5_planBy_139 (by decide) rfl ?_
          have loopv8 : ∀ (n8 c_v : Nat), c_v ≤ D → D + 1 ≤ c_v + n8 → zG l g 12 M (wM g b ft so D E tr C lk kd st sp nd rO rB rD rW sz sl sc sm xa xb xc xd y1 y2 y3 y4 y5 hn) [(0, .ref (b 0)), (1, .int (nI f_r)), (2, .int (nI w_n)), (3, .int (nI (fpl D kd st sp (fs lk so D) sc f_r (a_v + 1)))), (4, .int (mfd D (fnd D (Lf kd st a_v) (tn (sc (f_r + a_v))) (fs lk so D)) (ffo D kd st (fs lk so D) sc f_r a_v) c_v)), (5, .int (nI (wpl D kd st (fs lk so D) sc f_r (a_v + 1)))), (6, .int (nI (hpl nd sc f_r (a_v + 1)))), (7, .int (nI 0)), (8, .int (nI a_v)), (9, .int (nI (tn (sc (f_r + a_v))))), (10, .int (nI (fnd D (Lf kd st a_v) (tn (sc (f_r + a_v))) (fs lk so D)))), (11, .int (nI (D - c_v) - nI 1))] 141 [] := by
            intro n8
            induction n8 with
            | zero => intro c_v h1 h2; exact absurd h2 (by omega)
            | succ n8 ih8 =>
              intro c_v hi8 hn8
              refine z_iload X dX5_planBy_141 11 rfl ?_
              refine z_if_lt (tgt := 183) X dX5_planBy_143 (by decide) (fun hq9 => ?_) (fun hq9 => ?_)
              ·
                have hcD : c_v = D := by have := dn_neg (r := D - c_v) (by omega) hq9; omega
                refine z_iinc (v := nI (a_v + 1)) (L' := [(8, .int (nI (a_v + 1))), (0, .ref (b 0)), (1, .int (nI f_r)), (2, .int (nI w_n)), (3, .int (nI (fpl D kd st sp (fs lk so D) sc f_r (a_v + 1)))), (4, .int (mfd D (fnd D (Lf kd st a_v) (tn (sc (f_r + a_v))) (fs lk so D)) (ffo D kd st (fs lk so D) sc f_r a_v) c_v)), (5, .int (nI (wpl D kd st (fs lk so D) sc f_r (a_v + 1)))), (6, .int (nI (hpl nd sc f_r (a_v + 1)))), (7, .int (nI 0)), (9, .int (nI (tn (sc (f_r + a_v))))), (10, .int (nI (fnd D (Lf kd st a_v) (tn (sc (f_r + a_v))) (fs lk so D)))), (11, .int (nI (D - c_v) - nI 1))]) X dX5_planBy_183 8 rfl (nI_inc a_v 1) (by decide) rfl ?_
                refine z_goto (tgt := 18) X dX5_planBy_186 (by decide) ?_
                refine z_ls (L' := [(0, .ref (b 0)), (1, .int (nI f_r)), (2, .int (nI w_n)), (3, .int (nI (fpl D kd st sp (fs lk so D) sc f_r (a_v + 1)))), (4, .int (mfd D (fnd D (Lf kd st a_v) (tn (sc (f_r + a_v))) (fs lk so D)) (ffo D kd st (fs lk so D) sc f_r a_v) c_v)), (5, .int (nI (wpl D kd st (fs lk so D) sc f_r (a_v + 1)))), (6, .int (nI (hpl nd sc f_r (a_v + 1)))), (7, .int (nI 0)), (8, .int (nI (a_v + 1)))]) [1, 2, 3, 4, 5, 6, 7, 8, 0] rfl ?_
                have e10 : (mfd D (fnd D (Lf kd st a_v) (tn (sc (f_r + a_v))) (fs lk so D)) (ffo D kd st (fs lk so D) sc f_r a_v) c_v) = (ffo D kd st (fs lk so D) sc f_r (a_v + 1)) := by first | rfl | exact congrArg (mfd D (fnd D (Lf kd st a_v) (tn (sc (f_r + a_v))) (fs lk so D)) (ffo D kd st (fs lk so D) sc f_r a_v)) hcD
                refine z_Le (L' := [(0, .ref (b 0)), (1, .int (nI f_r)), (2, .int (nI w_n)), (3, .int (nI (fpl D kd st sp (fs lk so D) sc f_r (a_v + 1)))), (4, .int (ffo D kd st (fs lk so D) sc f_r (a_v + 1))), (5, .int (nI (wpl D kd st (fs lk so D) sc f_r (a_v + 1)))), (6, .int (nI (hpl nd sc f_r (a_v + 1)))), (7, .int (nI 0)), (8, .int (nI (a_v + 1)))]) (by rw [← e10]) ?_
                exact ih1 (a_v + 1) (by omega) (by omega)
              ·
                have hcp := dn_pos (r := D - c_v) (by omega) hq9
                refine z_Le (L' := [(0, .ref (b 0)), (1, .int (nI f_r)), (2, .int (nI w_n)), (3, .int (nI (fpl D kd st sp (fs lk so D) sc f_r (a_v + 1)))), (4, .int (mfd D (fnd D (Lf kd st a_v) (tn (sc (f_r + a_v))) (fs lk so D)) (ffo D kd st (fs lk so D) sc f_r a_v) c_v)), (5, .int (nI (wpl D kd st (fs lk so D) sc f_r (a_v + 1)))), (6, .int (nI (hpl nd sc f_r (a_v + 1)))), (7, .int (nI 0)), (8, .int (nI a_v)), (9, .int (nI (tn (sc (f_r + a_v))))), (10, .int (nI (fnd D (Lf kd st a_v) (tn (sc (f_r + a_v))) (fs lk so D)))), (11, .int (nI (D - c_v - 1)))]) (by rw [pk_sub hcp]) ?_
                refine z_iload X dX5_planBy_146 10 rfl ?_
                refine z_iload X dX5_planBy_148 11 rfl ?_
                refine z_callS0 X (c_X5_isIn l g (fnd D (Lf kd st a_v) (tn (sc (f_r + a_v))) (fs lk so D)) (D - c_v - 1) (by omega) (by omega)) gX5_planBy_X5_isIn rfl ⟨rfl, rfl⟩ (by decide +kernel) ⟨Nat.le_of_ble_eq_true rfl, Nat.le_of_ble_eq_true rfl⟩ ZF.room (As := [.int (nI (fnd D (Lf kd st a_v) (tn (sc (f_r + a_v))) (fs lk so D))), .int (nI (D - c_v - 1))]) (n := 2) rfl rfl (st1 := [.int (bI (zbt (fnd D (Lf kd st a_v) (tn (sc (f_r + a_v))) (fs lk so D)) (D - c_v - 1)))]) rfl (Nat.le_of_ble_eq_true rfl) dX5_planBy_150 ?_
                refine z_if_eqB (tgt := 173) X dX5_planBy_153 (by decide) (fun hq11 => ?_) (fun hq11 => ?_)
                ·
                  refine z_iload X dX5_planBy_173 4 rfl ?_
                  refine z_istore (L' := [(4, .int (mfd D (fnd D (Lf kd st a_v) (tn (sc (f_r + a_v))) (fs lk so D)) (ffo D kd st (fs lk so D) sc f_r a_v) c_v)), (0, .ref (b 0)), (1, .int (nI f_r)), (2, .int (nI w_n)), (3, .int (nI (fpl D kd st sp (fs lk so D) sc f_r (a_v + 1)))), (5, .int (nI (wpl D kd st (fs lk so D) sc f_r (a_v + 1)))), (6, .int (nI (hpl nd sc f_r (a_v + 1)))), (7, .int (nI 0)), (8, .int (nI a_v)), (9, .int (nI (tn (sc (f_r + a_v))))), (10, .int (nI (fnd D (Lf kd st a_v) (tn (sc (f_r + a_v))) (fs lk so D)))), (11, .int (nI (D - c_v - 1)))]) X dX5_planBy_175 (by decide) rfl ?_
                  refine z_iinc (v := (nI (D - c_v - 1)) + Int32.ofInt (-1)) (L' := [(11, .int ((nI (D - c_v - 1)) + Int32.ofInt (-1))), (4, .int (mfd D (fnd D (Lf kd st a_v) (tn (sc (f_r + a_v))) (fs lk so D)) (ffo D kd st (fs lk so D) sc f_r a_v) c_v)), (0, .ref (b 0)), (1, .int (nI f_r)), (2, .int (nI w_n)), (3, .int (nI (fpl D kd st sp (fs lk so D) sc f_r (a_v + 1)))), (5, .int (nI (wpl D kd st (fs lk so D) sc f_r (a_v + 1)))), (6, .int (nI (hpl nd sc f_r (a_v + 1)))), (7, .int (nI 0)), (8, .int (nI a_v)), (9, .int (nI (tn (sc (f_r + a_v))))), (10, .int (nI (fnd D (Lf kd st a_v) (tn (sc (f_r + a_v))) (fs lk so D))))]) X dX5_planBy_177 11 rfl rfl (by decide) rfl ?_
                  refine z_goto (tgt := 141) X dX5_planBy_180 (by decide) ?_
                  refine z_ls (L' := [(0, .ref (b 0)), (1, .int (nI f_r)), (2, .int (nI w_n)), (3, .int (nI (fpl D kd st sp (fs lk so D) sc f_r (a_v + 1)))), (4, .int (mfd D (fnd D (Lf kd st a_v) (tn (sc (f_r + a_v))) (fs lk so D)) (ffo D kd st (fs lk so D) sc f_r a_v) c_v)), (5, .int (nI (wpl D kd st (fs lk so D) sc f_r (a_v + 1)))), (6, .int (nI (hpl nd sc f_r (a_v + 1)))), (7, .int (nI 0)), (8, .int (nI a_v)), (9, .int (nI (tn (sc (f_r + a_v))))), (10, .int (nI (fnd D (Lf kd st a_v) (tn (sc (f_r + a_v))) (fs lk so D)))), (11, .int ((nI (D - c_v - 1)) + Int32.ofInt (-1)))]) [2, 3, 4, 5, 1, 6, 7, 8, 9, 10, 11, 0] rfl ?_
                  have e12 : (mfd D (fnd D (Lf kd st a_v) (tn (sc (f_r + a_v))) (fs lk so D)) (ffo D kd st (fs lk so D) sc f_r a_v) c_v) = (mfd D (fnd D (Lf kd st a_v) (tn (sc (f_r + a_v))) (fs lk so D)) (ffo D kd st (fs lk so D) sc f_r a_v) (c_v + 1)) := by first | exact mfd_n (by assumption) | exact mfd_b (by assumption) (by assumption) (by assumption)
                  have e13 : ((nI (D - c_v - 1)) + Int32.ofInt (-1)) = (nI (D - (c_v + 1)) - nI 1) := by rw [show D - (c_v + 1) = D - c_v - 1 by omega]; exact nI_decI _
                  refine z_Le (L' := [(0, .ref (b 0)), (1, .int (nI f_r)), (2, .int (nI w_n)), (3, .int (nI (fpl D kd st sp (fs lk so D) sc f_r (a_v + 1)))), (4, .int (mfd D (fnd D (Lf kd st a_v) (tn (sc (f_r + a_v))) (fs lk so D)) (ffo D kd st (fs lk so D) sc f_r a_v) (c_v + 1))), (5, .int (nI (wpl D kd st (fs lk so D) sc f_r (a_v + 1)))), (6, .int (nI (hpl nd sc f_r (a_v + 1)))), (7, .int (nI 0)), (8, .int (nI a_v)), (9, .int (nI (tn (sc (f_r + a_v))))), (10, .int (nI (fnd D (Lf kd st a_v) (tn (sc (f_r + a_v))) (fs lk so D)))), (11, .int (nI (D - (c_v + 1)) - nI 1))]) (by rw [← e12, ← e13]) ?_
                  exact ih8 (c_v + 1) (by omega) (by omega)
                ·
                  refine z_iload X dX5_planBy_156 4 rfl ?_
                  refine z_if_lt (tgt := 168) X dX5_planBy_158 (by decide) (fun hq14 => ?_) (fun hq14 => ?_)
                  ·
                    refine z_iload X dX5_planBy_168 11 rfl ?_
                    refine z_goto (tgt := 175) X dX5_planBy_170 (by decide) ?_
                    refine z_istore (L' := [(4, .int (nI (D - c_v - 1))), (0, .ref (b 0)), (1, .int (nI f_r)), (2, .int (nI w_n)), (3, .int (nI (fpl D kd st sp (fs lk so D) sc f_r (a_v + 1)))), (5, .int (nI (wpl D kd st (fs lk so D) sc f_r (a_v + 1)))), (6, .int (nI (hpl nd sc f_r (a_v + 1)))), (7, .int (nI 0)), (8, .int (nI a_v)), (9, .int (nI (tn (sc (f_r + a_v))))), (10, .int (nI (fnd D (Lf kd st a_v) (tn (sc (f_r + a_v))) (fs lk so D)))), (11, .int (nI (D - c_v - 1)))]) X dX5_planBy_175 (by decide) rfl ?_
                    refine z_iinc (v := (nI (D - c_v - 1)) + Int32.ofInt (-1)) (L' := [(11, .int ((nI (D - c_v - 1)) + Int32.ofInt (-1))), (4, .int (nI (D - c_v - 1))), (0, .ref (b 0)), (1, .int (nI f_r)), (2, .int (nI w_n)), (3, .int (nI (fpl D kd st sp (fs lk so D) sc f_r (a_v + 1)))), (5, .int (nI (wpl D kd st (fs lk so D) sc f_r (a_v + 1)))), (6, .int (nI (hpl nd sc f_r (a_v + 1)))), (7, .int (nI 0)), (8, .int (nI a_v)), (9, .int (nI (tn (sc (f_r + a_v))))), (10, .int (nI (fnd D (Lf kd st a_v) (tn (sc (f_r + a_v))) (fs lk so D))))]) X dX5_planBy_177 11 rfl rfl (by decide) rfl ?_
                    refine z_goto (tgt := 141) X dX5_planBy_180 (by decide) ?_
                    refine z_ls (L' := [(0, .ref (b 0)), (1, .int (nI f_r)), (2, .int (nI w_n)), (3, .int (nI (fpl D kd st sp (fs lk so D) sc f_r (a_v + 1)))), (4, .int (nI (D - c_v - 1))), (5, .int (nI (wpl D kd st (fs lk so D) sc f_r (a_v + 1)))), (6, .int (nI (hpl nd sc f_r (a_v + 1)))), (7, .int (nI 0)), (8, .int (nI a_v)), (9, .int (nI (tn (sc (f_r + a_v))))), (10, .int (nI (fnd D (Lf kd st a_v) (tn (sc (f_r + a_v))) (fs lk so D)))), (11, .int ((nI (D - c_v - 1)) + Int32.ofInt (-1)))]) [2, 3, 4, 5, 1, 6, 7, 8, 9, 10, 11, 0] rfl ?_
                    have e15 : (nI (D - c_v - 1)) = (mfd D (fnd D (Lf kd st a_v) (tn (sc (f_r + a_v))) (fs lk so D)) (ffo D kd st (fs lk so D) sc f_r a_v) (c_v + 1)) := by first | exact mfd_a (by assumption) (by assumption) | exact mfd_c (by assumption) (by assumption) (by assumption)
                    have e16 : ((nI (D - c_v - 1)) + Int32.ofInt (-1)) = (nI (D - (c_v + 1)) - nI 1) := by rw [show D - (c_v + 1) = D - c_v - 1 by omega]; exact nI_decI _
                    refine z_Le (L' := [(0, .ref (b 0)), (1, .int (nI f_r)), (2, .int (nI w_n)), (3, .int (nI (fpl D kd st sp (fs lk so D) sc f_r (a_v + 1)))), (4, .int (mfd D (fnd D (Lf kd st a_v) (tn (sc (f_r + a_v))) (fs lk so D)) (ffo D kd st (fs lk so D) sc f_r a_v) (c_v + 1))), (5, .int (nI (wpl D kd st (fs lk so D) sc f_r (a_v + 1)))), (6, .int (nI (hpl nd sc f_r (a_v + 1)))), (7, .int (nI 0)), (8, .int (nI a_v)), (9, .int (nI (tn (sc (f_r + a_v))))), (10, .int (nI (fnd D (Lf kd st a_v) (tn (sc (f_r + a_v))) (fs lk so D)))), (11, .int (nI (D - (c_v + 1)) - nI 1))]) (by rw [← e15, ← e16]) ?_
                    exact ih8 (c_v + 1) (by omega) (by omega)
                  ·
                    refine z_iload X dX5_planBy_161 11 rfl ?_
                    refine z_iload X dX5_planBy_163 4 rfl ?_
                    refine z_icmp_ge (tgt := 173) X dX5_planBy_165 (by decide) (fun hq17 => ?_) (fun hq17 => ?_)
                    ·
                      refine z_iload X dX5_planBy_173 4 rfl ?_
                      refine z_istore (L' := [(4, .int (mfd D (fnd D (Lf kd st a_v) (tn (sc (f_r + a_v))) (fs lk so D)) (ffo D kd st (fs lk so D) sc f_r a_v) c_v)), (0, .ref (b 0)), (1, .int (nI f_r)), (2, .int (nI w_n)), (3, .int (nI (fpl D kd st sp (fs lk so D) sc f_r (a_v + 1)))), (5, .int (nI (wpl D kd st (fs lk so D) sc f_r (a_v + 1)))), (6, .int (nI (hpl nd sc f_r (a_v + 1)))), (7, .int (nI 0)), (8, .int (nI a_v)), (9, .int (nI (tn (sc (f_r + a_v))))), (10, .int (nI (fnd D (Lf kd st a_v) (tn (sc (f_r + a_v))) (fs lk so D)))), (11, .int (nI (D - c_v - 1)))]) X dX5_planBy_175 (by decide) rfl ?_
                      refine z_iinc (v := (nI (D - c_v - 1)) + Int32.ofInt (-1)) (L' := [(11, .int ((nI (D - c_v - 1)) + Int32.ofInt (-1))), (4, .int (mfd D (fnd D (Lf kd st a_v) (tn (sc (f_r + a_v))) (fs lk so D)) (ffo D kd st (fs lk so D) sc f_r a_v) c_v)), (0, .ref (b 0)), (1, .int (nI f_r)), (2, .int (nI w_n)), (3, .int (nI (fpl D kd st sp (fs lk so D) sc f_r (a_v + 1)))), (5, .int (nI (wpl D kd st (fs lk so D) sc f_r (a_v + 1)))), (6, .int (nI (hpl nd sc f_r (a_v + 1)))), (7, .int (nI 0)), (8, .int (nI a_v)), (9, .int (nI (tn (sc (f_r + a_v))))), (10, .int (nI (fnd D (Lf kd st a_v) (tn (sc (f_r + a_v))) (fs lk so D))))]) X dX5_planBy_177 11 rfl rfl (by decide) rfl ?_
                      refine z_goto (tgt := 141) X dX5_planBy_180 (by decide) ?_
                      refine z_ls (L' := [(0, .ref (b 0)), (1, .int (nI f_r)), (2, .int (nI w_n)), (3, .int (nI (fpl D kd st sp (fs lk so D) sc f_r (a_v + 1)))), (4, .int (mfd D (fnd D (Lf kd st a_v) (tn (sc (f_r + a_v))) (fs lk so D)) (ffo D kd st (fs lk so D) sc f_r a_v) c_v)), (5, .int (nI (wpl D kd st (fs lk so D) sc f_r (a_v + 1)))), (6, .int (nI (hpl nd sc f_r (a_v + 1)))), (7, .int (nI 0)), (8, .int (nI a_v)), (9, .int (nI (tn (sc (f_r + a_v))))), (10, .int (nI (fnd D (Lf kd st a_v) (tn (sc (f_r + a_v))) (fs lk so D)))), (11, .int ((nI (D - c_v - 1)) + Int32.ofInt (-1)))]) [2, 3, 4, 5, 1, 6, 7, 8, 9, 10, 11, 0] rfl ?_
                      have e18 : (mfd D (fnd D (Lf kd st a_v) (tn (sc (f_r + a_v))) (fs lk so D)) (ffo D kd st (fs lk so D) sc f_r a_v) c_v) = (mfd D (fnd D (Lf kd st a_v) (tn (sc (f_r + a_v))) (fs lk so D)) (ffo D kd st (fs lk so D) sc f_r a_v) (c_v + 1)) := by first | exact mfd_n (by assumption) | exact mfd_b (by assumption) (by assumption) (by assumption)
                      have e19 : ((nI (D - c_v - 1)) + Int32.ofInt (-1)) = (nI (D - (c_v + 1)) - nI 1) := by rw [show D - (c_v + 1) = D - c_v - 1 by omega]; exact nI_decI _
                      refine z_Le (L' := [(0, .ref (b 0)), (1, .int (nI f_r)), (2, .int (nI w_n)), (3, .int (nI (fpl D kd st sp (fs lk so D) sc f_r (a_v + 1)))), (4, .int (mfd D (fnd D (Lf kd st a_v) (tn (sc (f_r + a_v))) (fs lk so D)) (ffo D kd st (fs lk so D) sc f_r a_v) (c_v + 1))), (5, .int (nI (wpl D kd st (fs lk so D) sc f_r (a_v + 1)))), (6, .int (nI (hpl nd sc f_r (a_v + 1)))), (7, .int (nI 0)), (8, .int (nI a_v)), (9, .int (nI (tn (sc (f_r + a_v))))), (10, .int (nI (fnd D (Lf kd st a_v) (tn (sc (f_r + a_v))) (fs lk so D)))), (11, .int (nI (D - (c_v + 1)) - nI 1))]) (by rw [← e18, ← e19]) ?_
                      exact ih8 (c_v + 1) (by omega) (by omega)
                    ·
                      refine z_iload X dX5_planBy_168 11 rfl ?_
                      refine z_goto (tgt := 175) X dX5_planBy_170 (by decide) ?_
                      refine z_istore (L' := [(4, .int (nI (D - c_v - 1))), (0, .ref (b 0)), (1, .int (nI f_r)), (2, .int (nI w_n)), (3, .int (nI (fpl D kd st sp (fs lk so D) sc f_r (a_v + 1)))), (5, .int (nI (wpl D kd st (fs lk so D) sc f_r (a_v + 1)))), (6, .int (nI (hpl nd sc f_r (a_v + 1)))), (7, .int (nI 0)), (8, .int (nI a_v)), (9, .int (nI (tn (sc (f_r + a_v))))), (10, .int (nI (fnd D (Lf kd st a_v) (tn (sc (f_r + a_v))) (fs lk so D)))), (11, .int (nI (D - c_v - 1)))]) X dX5_planBy_175 (by decide) rfl ?_
                      refine z_iinc (v := (nI (D - c_v - 1)) + Int32.ofInt (-1)) (L' := [(11, .int ((nI (D - c_v - 1)) + Int32.ofInt (-1))), (4, .int (nI (D - c_v - 1))), (0, .ref (b 0)), (1, .int (nI f_r)), (2, .int (nI w_n)), (3, .int (nI (fpl D kd st sp (fs lk so D) sc f_r (a_v + 1)))), (5, .int (nI (wpl D kd st (fs lk so D) sc f_r (a_v + 1)))), (6, .int (nI (hpl nd sc f_r (a_v + 1)))), (7, .int (nI 0)), (8, .int (nI a_v)), (9, .int (nI (tn (sc (f_r + a_v))))), (10, .int (nI (fnd D (Lf kd st a_v) (tn (sc (f_r + a_v))) (fs lk so D))))]) X dX5_planBy_177 11 rfl rfl (by decide) rfl ?_
                      refine z_goto (tgt := 141) X dX5_planBy_180 (by decide) ?_
                      refine z_ls (L' := [(0, .ref (b 0)), (1, .int (nI f_r)), (2, .int (nI w_n)), (3, .int (nI (fpl D kd st sp (fs lk so D) sc f_r (a_v + 1)))), (4, .int (nI (D - c_v - 1))), (5, .int (nI (wpl D kd st (fs lk so D) sc f_r (a_v + 1)))), (6, .int (nI (hpl nd sc f_r (a_v + 1)))), (7, .int (nI 0)), (8, .int (nI a_v)), (9, .int (nI (tn (sc (f_r + a_v))))), (10, .int (nI (fnd D (Lf kd st a_v) (tn (sc (f_r + a_v))) (fs lk so D)))), (11, .int ((nI (D - c_v - 1)) + Int32.ofInt (-1)))]) [2, 3, 4, 5, 1, 6, 7, 8, 9, 10, 11, 0] rfl ?_
                      have e20 : (nI (D - c_v - 1)) = (mfd D (fnd D (Lf kd st a_v) (tn (sc (f_r + a_v))) (fs lk so D)) (ffo D kd st (fs lk so D) sc f_r a_v) (c_v + 1)) := by first | exact mfd_a (by assumption) (by assumption) | exact mfd_c (by assumption) (by assumption) (by assumption)
                      have e21 : ((nI (D - c_v - 1)) + Int32.ofInt (-1)) = (nI (D - (c_v + 1)) - nI 1) := by rw [show D - (c_v + 1) = D - c_v - 1 by omega]; exact nI_decI _
                      refine z_Le (L' := [(0, .ref (b 0)), (1, .int (nI f_r)), (2, .int (nI w_n)), (3, .int (nI (fpl D kd st sp (fs lk so D) sc f_r (a_v + 1)))), (4, .int (mfd D (fnd D (Lf kd st a_v) (tn (sc (f_r + a_v))) (fs lk so D)) (ffo D kd st (fs lk so D) sc f_r a_v) (c_v + 1))), (5, .int (nI (wpl D kd st (fs lk so D) sc f_r (a_v + 1)))), (6, .int (nI (hpl nd sc f_r (a_v + 1)))), (7, .int (nI 0)), (8, .int (nI a_v)), (9, .int (nI (tn (sc (f_r + a_v))))), (10, .int (nI (fnd D (Lf kd st a_v) (tn (sc (f_r + a_v))) (fs lk so D)))), (11, .int (nI (D - (c_v + 1)) - nI 1))]) (by rw [← e20, ← e21]) ?_
                      exact ih8 (c_v + 1) (by omega) (by omega)
          refine z_ls (L' := [(0, .ref (b 0)), (1, .int (nI f_r)), (2, .int (nI w_n)), (3, .int (nI (fpl D kd st sp (fs lk so D) sc f_r (a_v + 1)))), (4, .int (ffo D kd st (fs lk so D) sc f_r a_v)), (5, .int (nI (wpl D kd st (fs lk so D) sc f_r (a_v + 1)))), (6, .int (nI (hpl nd sc f_r (a_v + 1)))), (7, .int (nI 0)), (8, .int (nI a_v)), (9, .int (nI (tn (sc (f_r + a_v))))), (10, .int (nI (fnd D (Lf kd st a_v) (tn (sc (f_r + a_v))) (fs lk so D)))), (11, .int ((nI D) - (nI 1)))]) [1, 2, 3, 4, 5, 6, 7, 8, 9, 10, 11, 0] rfl ?_
          have e22 : (ffo D kd st (fs lk so D) sc f_r a_v) = (mfd D (fnd D (Lf kd st a_v) (tn (sc (f_r + a_v))) (fs lk so D)) (ffo D kd st (fs lk so D) sc f_r a_v) 0) := by rfl
          have e23 : ((nI D) - (nI 1)) = (nI (D - 0) - nI 1) := by rfl
          refine z_Le (L' := [(0, .ref (b 0)), (1, .int (nI f_r)), (2, .int (nI w_n)), (3, .int (nI (fpl D kd st sp (fs lk so D) sc f_r (a_v + 1)))), (4, .int (mfd D (fnd D (Lf kd st a_v) (tn (sc (f_r + a_v))) (fs lk so D)) (ffo D kd st (fs lk so D) sc f_r a_v) 0)), (5, .int (nI (wpl D kd st (fs lk so D) sc f_r (a_v + 1)))), (6, .int (nI (hpl nd sc f_r (a_v + 1)))), (7, .int (nI 0)), (8, .int (nI a_v)), (9, .int (nI (tn (sc (f_r + a_v))))), (10, .int (nI (fnd D (Lf kd st a_v) (tn (sc (f_r + a_v))) (fs lk so D)))), (11, .int (nI (D - 0) - nI 1))]) (by rw [← e22, ← e23]) ?_
          exact loopv8 (D + 1) 0 (by omega) (by omega)
        refine z_iload X dX5_planBy_59 7 rfl ?_
        refine z_iload X dX5_planBy_61 1 rfl ?_
        refine z_if_leN (tgt := 73) X dX5_planBy_63 (by decide) (by omega) (fun hq24 => ?_) (fun hq24 => ?_)
        ·
          refine z_iconst (v := nI 0) X dX5_planBy_73 (by decide) ?_
          refine z_ior' (v := nI ((wpl D kd st (fs lk so D) sc f_r a_v) ||| 0)) X dX5_planBy_74 (fa_or _ _) ?_
          refine z_istore (L' := [(5, .int (nI ((wpl D kd st (fs lk so D) sc f_r a_v) ||| 0))), (3, .int (nI ((fpl D kd st sp (fs lk so D) sc f_r a_v) + (pc (fnd D (Lf kd st a_v) (tn (sc (f_r + a_v))) (fs lk so D)) * tn (sp a_v))))), (10, .int (nI (fnd D (Lf kd st a_v) (tn (sc (f_r + a_v))) (fs lk so D)))), (9, .int (nI (tn (sc (f_r + a_v))))), (0, .ref (b 0)), (1, .int (nI f_r)), (2, .int (nI w_n)), (4, .int (ffo D kd st (fs lk so D) sc f_r a_v)), (6, .int (nI (hpl nd sc f_r a_v))), (7, .int (nI 0)), (8, .int (nI a_v))]) X dX5_planBy_75 (by decide) rfl ?_
          refine z_iload X dX5_planBy_77 8 rfl ?_
          refine z_iload X dX5_planBy_79 3 rfl ?_
          refine z_callS0 X (c_X5_bits l g (tn (sc (f_r + a_v))) (by omega)) gX5_planBy_X5_bits rfl ⟨rfl, rfl⟩ (by decide +kernel) ⟨Nat.le_of_ble_eq_true rfl, Nat.le_of_ble_eq_true rfl⟩ ZF.room (As := [.int (nI (tn (sc (f_r + a_v))))]) (n := 1) rfl rfl (st1 := [.int (nI (pc (tn (sc (f_r + a_v))))), .int (nI (hpl nd sc f_r a_v))]) rfl (Nat.le_of_ble_eq_true rfl) dX5_planBy_81 ?_
          refine z_aload_n X dX5_planBy_84 rfl 4 rfl ?_
          refine z_get (v := .ref (b 5)) (N := 29) X i_RX5 (ci := 4) rfl 0 rfl 8 (by decide) f_22 rfl dX5_planBy_85 ?_
          refine z_iload X dX5_planBy_88 10 rfl ?_
          refine z_ialdN X 5 rfl (by omega) (by omega) dX5_planBy_90 ?_
          refine z_icmp_ge (tgt := 101) X dX5_planBy_91 (by decide) (fun hq25 => ?_) (fun hq25 => ?_)
          ·
            refine z_iconst (v := nI 0) X dX5_planBy_101 (by decide) ?_
            refine z_ior' (v := nI ((hpl nd sc f_r a_v) ||| 0)) X dX5_planBy_102 (fa_or _ _) ?_
            refine z_istore (L' := [(6, .int (nI ((hpl nd sc f_r a_v) ||| 0))), (5, .int (nI ((wpl D kd st (fs lk so D) sc f_r a_v) ||| 0))), (3, .int (nI ((fpl D kd st sp (fs lk so D) sc f_r a_v) + (pc (fnd D (Lf kd st a_v) (tn (sc (f_r + a_v))) (fs lk so D)) * tn (sp a_v))))), (10, .int (nI (fnd D (Lf kd st a_v) (tn (sc (f_r + a_v))) (fs lk so D)))), (9, .int (nI (tn (sc (f_r + a_v))))), (0, .ref (b 0)), (1, .int (nI f_r)), (2, .int (nI w_n)), (4, .int (ffo D kd st (fs lk so D) sc f_r a_v)), (7, .int (nI 0)), (8, .int (nI a_v))]) X dX5_planBy_103 (by decide) rfl ?_
            refine z_iload X dX5_planBy_105 9 rfl ?_
            refine z_iload_n X dX5_planBy_107 rfl 7 rfl ?_
            refine z_bipush (v := nI 10) X dX5_planBy_108 (by decide) ?_
            refine z_icmp_ltN (tgt := 129) X dX5_planBy_110 (by decide) (by omega) (by omega) (fun hq26 => ?_) (fun hq26 => ?_)
            ·
              refine z_iconst (v := nI 0) X dX5_planBy_129 (by decide) ?_
              refine z_iadd' (v := nI 0) X dX5_planBy_130 (nI_add _ _) ?_
              refine z_istore (L' := [(7, .int (nI 0)), (6, .int (nI ((hpl nd sc f_r a_v) ||| 0))), (5, .int (nI ((wpl D kd st (fs lk so D) sc f_r a_v) ||| 0))), (3, .int (nI ((fpl D kd st sp (fs lk so D) sc f_r a_v) + (pc (fnd D (Lf kd st a_v) (tn (sc (f_r + a_v))) (fs lk so D)) * tn (sp a_v))))), (10, .int (nI (fnd D (Lf kd st a_v) (tn (sc (f_r + a_v))) (fs lk so D)))), (9, .int (nI (tn (sc (f_r + a_v))))), (0, .ref (b 0)), (1, .int (nI f_r)), (2, .int (nI w_n)), (4, .int (ffo D kd st (fs lk so D) sc f_r a_v)), (8, .int (nI a_v))]) X dX5_planBy_131 (by decide) rfl ?_
              refine z_ls (L' := [(0, .ref (b 0)), (1, .int (nI f_r)), (2, .int (nI w_n)), (3, .int (nI ((fpl D kd st sp (fs lk so D) sc f_r a_v) + (pc (fnd D (Lf kd st a_v) (tn (sc (f_r + a_v))) (fs lk so D)) * tn (sp a_v))))), (4, .int (ffo D kd st (fs lk so D) sc f_r a_v)), (5, .int (nI ((wpl D kd st (fs lk so D) sc f_r a_v) ||| 0))), (6, .int (nI ((hpl nd sc f_r a_v) ||| 0))), (7, .int (nI 0)), (8, .int (nI a_v)), (9, .int (nI (tn (sc (f_r + a_v))))), (10, .int (nI (fnd D (Lf kd st a_v) (tn (sc (f_r + a_v))) (fs lk so D))))]) [6, 7, 8, 3, 9, 2, 1, 0, 10, 5, 4] rfl ?_
              have e27 : (nI ((fpl D kd st sp (fs lk so D) sc f_r a_v) + (pc (fnd D (Lf kd st a_v) (tn (sc (f_r + a_v))) (fs lk so D)) * tn (sp a_v)))) = (nI (fpl D kd st sp (fs lk so D) sc f_r (a_v + 1))) := by first | rfl | exact congrArg nI (wpl_t (by omega)) | exact congrArg nI (wpl_f (by omega)) | exact congrArg nI (hpl_t (by assumption)) | exact congrArg nI (hpl_f (by assumption)) | exact congrArg nI (dpl_t (by assumption)) | exact congrArg nI (dpl_f (by assumption))
              have e28 : (nI ((wpl D kd st (fs lk so D) sc f_r a_v) ||| 0)) = (nI (wpl D kd st (fs lk so D) sc f_r (a_v + 1))) := by first | rfl | exact congrArg nI (wpl_t (by omega)) | exact congrArg nI (wpl_f (by omega)) | exact congrArg nI (hpl_t (by assumption)) | exact congrArg nI (hpl_f (by assumption)) | exact congrArg nI (dpl_t (by assumption)) | exact congrArg nI (dpl_f (by assumption))
              have e29 : (nI ((hpl nd sc f_r a_v) ||| 0)) = (nI (hpl nd sc f_r (a_v + 1))) := by first | rfl | exact congrArg nI (wpl_t (by omega)) | exact congrArg nI (wpl_f (by omega)) | exact congrArg nI (hpl_t (by assumption)) | exact congrArg nI (hpl_f (by assumption)) | exact congrArg nI (dpl_t (by assumption)) | exact congrArg nI (dpl_f (by assumption))
              refine z_Le (L' := [(0, .ref (b 0)), (1, .int (nI f_r)), (2, .int (nI w_n)), (3, .int (nI (fpl D kd st sp (fs lk so D) sc f_r (a_v + 1)))), (4, .int (ffo D kd st (fs lk so D) sc f_r a_v)), (5, .int (nI (wpl D kd st (fs lk so D) sc f_r (a_v + 1)))), (6, .int (nI (hpl nd sc f_r (a_v + 1)))), (7, .int (nI 0)), (8, .int (nI a_v)), (9, .int (nI (tn (sc (f_r + a_v))))), (10, .int (nI (fnd D (Lf kd st a_v) (tn (sc (f_r + a_v))) (fs lk so D))))]) (by rw [← e27, ← e28, ← e29]) ?_
              exact jn7
            ·
              exact absurd hq26 (by omega)
          ·
            refine z_iconst (v := nI 1) X dX5_planBy_94 (by decide) ?_
            refine z_iload X dX5_planBy_95 10 rfl ?_
            refine z_ishl' (v := nI (2 ^ a_v)) X dX5_planBy_97 (nI_shl1 (by omega)) ?_
            refine z_goto (tgt := 102) X dX5_planBy_98 (by decide) ?_
            refine z_ior' (v := nI ((hpl nd sc f_r a_v) ||| (2 ^ a_v))) X dX5_planBy_102 (fa_or _ _) ?_
            refine z_istore (L' := [(6, .int (nI ((hpl nd sc f_r a_v) ||| (2 ^ a_v)))), (5, .int (nI ((wpl D kd st (fs lk so D) sc f_r a_v) ||| 0))), (3, .int (nI ((fpl D kd st sp (fs lk so D) sc f_r a_v) + (pc (fnd D (Lf kd st a_v) (tn (sc (f_r + a_v))) (fs lk so D)) * tn (sp a_v))))), (10, .int (nI (fnd D (Lf kd st a_v) (tn (sc (f_r + a_v))) (fs lk so D)))), (9, .int (nI (tn (sc (f_r + a_v))))), (0, .ref (b 0)), (1, .int (nI f_r)), (2, .int (nI w_n)), (4, .int (ffo D kd st (fs lk so D) sc f_r a_v)), (7, .int (nI 0)), (8, .int (nI a_v))]) X dX5_planBy_103 (by decide) rfl ?_
            refine z_iload X dX5_planBy_105 9 rfl ?_
            refine z_iload_n X dX5_planBy_107 rfl 7 rfl ?_
            refine z_bipush (v := nI 10) X dX5_planBy_108 (by decide) ?_
            refine z_icmp_ltN (tgt := 129) X dX5_planBy_110 (by decide) (by omega) (by omega) (fun hq30 => ?_) (fun hq30 => ?_)
            ·
              refine z_iconst (v := nI 0) X dX5_planBy_129 (by decide) ?_
              refine z_iadd' (v := nI 0) X dX5_planBy_130 (nI_add _ _) ?_
              refine z_istore (L' := [(7, .int (nI 0)), (6, .int (nI ((hpl nd sc f_r a_v) ||| (2 ^ a_v)))), (5, .int (nI ((wpl D kd st (fs lk so D) sc f_r a_v) ||| 0))), (3, .int (nI ((fpl D kd st sp (fs lk so D) sc f_r a_v) + (pc (fnd D (Lf kd st a_v) (tn (sc (f_r + a_v))) (fs lk so D)) * tn (sp a_v))))), (10, .int (nI (fnd D (Lf kd st a_v) (tn (sc (f_r + a_v))) (fs lk so D)))), (9, .int (nI (tn (sc (f_r + a_v))))), (0, .ref (b 0)), (1, .int (nI f_r)), (2, .int (nI w_n)), (4, .int (ffo D kd st (fs lk so D) sc f_r a_v)), (8, .int (nI a_v))]) X dX5_planBy_131 (by decide) rfl ?_
              refine z_ls (L' := [(0, .ref (b 0)), (1, .int (nI f_r)), (2, .int (nI w_n)), (3, .int (nI ((fpl D kd st sp (fs lk so D) sc f_r a_v) + (pc (fnd D (Lf kd st a_v) (tn (sc (f_r + a_v))) (fs lk so D)) * tn (sp a_v))))), (4, .int (ffo D kd st (fs lk so D) sc f_r a_v)), (5, .int (nI ((wpl D kd st (fs lk so D) sc f_r a_v) ||| 0))), (6, .int (nI ((hpl nd sc f_r a_v) ||| (2 ^ a_v)))), (7, .int (nI 0)), (8, .int (nI a_v)), (9, .int (nI (tn (sc (f_r + a_v))))), (10, .int (nI (fnd D (Lf kd st a_v) (tn (sc (f_r + a_v))) (fs lk so D))))]) [6, 7, 8, 3, 9, 2, 1, 0, 10, 5, 4] rfl ?_
              have e31 : (nI ((fpl D kd st sp (fs lk so D) sc f_r a_v) + (pc (fnd D (Lf kd st a_v) (tn (sc (f_r + a_v))) (fs lk so D)) * tn (sp a_v)))) = (nI (fpl D kd st sp (fs lk so D) sc f_r (a_v + 1))) := by first | rfl | exact congrArg nI (wpl_t (by omega)) | exact congrArg nI (wpl_f (by omega)) | exact congrArg nI (hpl_t (by assumption)) | exact congrArg nI (hpl_f (by assumption)) | exact congrArg nI (dpl_t (by assumption)) | exact congrArg nI (dpl_f (by assumption))
              have e32 : (nI ((wpl D kd st (fs lk so D) sc f_r a_v) ||| 0)) = (nI (wpl D kd st (fs lk so D) sc f_r (a_v + 1))) := by first | rfl | exact congrArg nI (wpl_t (by omega)) | exact congrArg nI (wpl_f (by omega)) | exact congrArg nI (hpl_t (by assumption)) | exact congrArg nI (hpl_f (by assumption)) | exact congrArg nI (dpl_t (by assumption)) | exact congrArg nI (dpl_f (by assumption))
              have e33 : (nI ((hpl nd sc f_r a_v) ||| (2 ^ a_v))) = (nI (hpl nd sc f_r (a_v + 1))) := by first | rfl | exact congrArg nI (wpl_t (by omega)) | exact congrArg nI (wpl_f (by omega)) | exact congrArg nI (hpl_t (by assumption)) | exact congrArg nI (hpl_f (by assumption)) | exact congrArg nI (dpl_t (by assumption)) | exact congrArg nI (dpl_f (by assumption))
              refine z_Le (L' := [(0, .ref (b 0)), (1, .int (nI f_r)), (2, .int (nI w_n)), (3, .int (nI (fpl D kd st sp (fs lk so D) sc f_r (a_v + 1)))), (4, .int (ffo D kd st (fs lk so D) sc f_r a_v)), (5, .int (nI (wpl D kd st (fs lk so D) sc f_r (a_v + 1)))), (6, .int (nI (hpl nd sc f_r (a_v + 1)))), (7, .int (nI 0)), (8, .int (nI a_v)), (9, .int (nI (tn (sc (f_r + a_v))))), (10, .int (nI (fnd D (Lf kd st a_v) (tn (sc (f_r + a_v))) (fs lk so D))))]) (by rw [← e31, ← e32, ← e33]) ?_
              exact jn7
            ·
              exact absurd hq30 (by omega)
        ·
          refine z_iconst (v := nI 1) X dX5_planBy_66 (by decide) ?_
          refine z_iload X dX5_planBy_67 10 rfl ?_
          refine z_ishl' (v := nI (2 ^ a_v)) X dX5_planBy_69 (nI_shl1 (by omega)) ?_
          refine z_goto (tgt := 74) X dX5_planBy_70 (by decide) ?_
          refine z_ior' (v := nI ((wpl D kd st (fs lk so D) sc f_r a_v) ||| (2 ^ a_v))) X dX5_planBy_74 (fa_or _ _) ?_
          refine z_istore (L' := [(5, .int (nI ((wpl D kd st (fs lk so D) sc f_r a_v) ||| (2 ^ a_v)))), (3, .int (nI ((fpl D kd st sp (fs lk so D) sc f_r a_v) + (pc (fnd D (Lf kd st a_v) (tn (sc (f_r + a_v))) (fs lk so D)) * tn (sp a_v))))), (10, .int (nI (fnd D (Lf kd st a_v) (tn (sc (f_r + a_v))) (fs lk so D)))), (9, .int (nI (tn (sc (f_r + a_v))))), (0, .ref (b 0)), (1, .int (nI f_r)), (2, .int (nI w_n)), (4, .int (ffo D kd st (fs lk so D) sc f_r a_v)), (6, .int (nI (hpl nd sc f_r a_v))), (7, .int (nI 0)), (8, .int (nI a_v))]) X dX5_planBy_75 (by decide) rfl ?_
          refine z_iload X dX5_planBy_77 8 rfl ?_
          refine z_iload X dX5_planBy_79 3 rfl ?_
          refine z_callS0 X (c_X5_bits l g (tn (sc (f_r + a_v))) (by omega)) gX5_planBy_X5_bits rfl ⟨rfl, rfl⟩ (by decide +kernel) ⟨Nat.le_of_ble_eq_true rfl, Nat.le_of_ble_eq_true rfl⟩ ZF.room (As := [.int (nI (tn (sc (f_r + a_v))))]) (n := 1) rfl rfl (st1 := [.int (nI (pc (tn (sc (f_r + a_v))))), .int (nI (hpl nd sc f_r a_v))]) rfl (Nat.le_of_ble_eq_true rfl) dX5_planBy_81 ?_
          refine z_aload_n X dX5_planBy_84 rfl 4 rfl ?_
          refine z_get (v := .ref (b 5)) (N := 29) X i_RX5 (ci := 4) rfl 0 rfl 8 (by decide) f_22 rfl dX5_planBy_85 ?_
          refine z_iload X dX5_planBy_88 10 rfl ?_
          refine z_ialdN X 5 rfl (by omega) (by omega) dX5_planBy_90 ?_
          refine z_icmp_ge (tgt := 101) X dX5_planBy_91 (by decide) (fun hq34 => ?_) (fun hq34 => ?_)
          ·
            refine z_iconst (v := nI 0) X dX5_planBy_101 (by decide) ?_
            refine z_ior' (v := nI ((hpl nd sc f_r a_v) ||| 0)) X dX5_planBy_102 (fa_or _ _) ?_
            refine z_istore (L' := [(6, .int (nI ((hpl nd sc f_r a_v) ||| 0))), (5, .int (nI ((wpl D kd st (fs lk so D) sc f_r a_v) ||| (2 ^ a_v)))), (3, .int (nI ((fpl D kd st sp (fs lk so D) sc f_r a_v) + (pc (fnd D (Lf kd st a_v) (tn (sc (f_r + a_v))) (fs lk so D)) * tn (sp a_v))))), (10, .int (nI (fnd D (Lf kd st a_v) (tn (sc (f_r + a_v))) (fs lk so D)))), (9, .int (nI (tn (sc (f_r + a_v))))), (0, .ref (b 0)), (1, .int (nI f_r)), (2, .int (nI w_n)), (4, .int (ffo D kd st (fs lk so D) sc f_r a_v)), (7, .int (nI 0)), (8, .int (nI a_v))]) X dX5_planBy_103 (by decide) rfl ?_
            refine z_iload X dX5_planBy_105 9 rfl ?_
            refine z_iload_n X dX5_planBy_107 rfl 7 rfl ?_
            refine z_bipush (v := nI 10) X dX5_planBy_108 (by decide) ?_
            refine z_icmp_ltN (tgt := 129) X dX5_planBy_110 (by decide) (by omega) (by omega) (fun hq35 => ?_) (fun hq35 => ?_)
            ·
              refine z_iconst (v := nI 0) X dX5_planBy_129 (by decide) ?_
              refine z_iadd' (v := nI 0) X dX5_planBy_130 (nI_add _ _) ?_
              refine z_istore (L' := [(7, .int (nI 0)), (6, .int (nI ((hpl nd sc f_r a_v) ||| 0))), (5, .int (nI ((wpl D kd st (fs lk so D) sc f_r a_v) ||| (2 ^ a_v)))), (3, .int (nI ((fpl D kd st sp (fs lk so D) sc f_r a_v) + (pc (fnd D (Lf kd st a_v) (tn (sc (f_r + a_v))) (fs lk so D)) * tn (sp a_v))))), (10, .int (nI (fnd D (Lf kd st a_v) (tn (sc (f_r + a_v))) (fs lk so D)))), (9, .int (nI (tn (sc (f_r + a_v))))), (0, .ref (b 0)), (1, .int (nI f_r)), (2, .int (nI w_n)), (4, .int (ffo D kd st (fs lk so D) sc f_r a_v)), (8, .int (nI a_v))]) X dX5_planBy_131 (by decide) rfl ?_
              refine z_ls (L' := [(0, .ref (b 0)), (1, .int (nI f_r)), (2, .int (nI w_n)), (3, .int (nI ((fpl D kd st sp (fs lk so D) sc f_r a_v) + (pc (fnd D (Lf kd st a_v) (tn (sc (f_r + a_v))) (fs lk so D)) * tn (sp a_v))))), (4, .int (ffo D kd st (fs lk so D) sc f_r a_v)), (5, .int (nI ((wpl D kd st (fs lk so D) sc f_r a_v) ||| (2 ^ a_v)))), (6, .int (nI ((hpl nd sc f_r a_v) ||| 0))), (7, .int (nI 0)), (8, .int (nI a_v)), (9, .int (nI (tn (sc (f_r + a_v))))), (10, .int (nI (fnd D (Lf kd st a_v) (tn (sc (f_r + a_v))) (fs lk so D))))]) [6, 7, 8, 3, 9, 2, 1, 0, 10, 5, 4] rfl ?_
              have e36 : (nI ((fpl D kd st sp (fs lk so D) sc f_r a_v) + (pc (fnd D (Lf kd st a_v) (tn (sc (f_r + a_v))) (fs lk so D)) * tn (sp a_v)))) = (nI (fpl D kd st sp (fs lk so D) sc f_r (a_v + 1))) := by first | rfl | exact congrArg nI (wpl_t (by omega)) | exact congrArg nI (wpl_f (by omega)) | exact congrArg nI (hpl_t (by assumption)) | exact congrArg nI (hpl_f (by assumption)) | exact congrArg nI (dpl_t (by assumption)) | exact congrArg nI (dpl_f (by assumption))
              have e37 : (nI ((wpl D kd st (fs lk so D) sc f_r a_v) ||| (2 ^ a_v))) = (nI (wpl D kd st (fs lk so D) sc f_r (a_v + 1))) := by first | rfl | exact congrArg nI (wpl_t (by omega)) | exact congrArg nI (wpl_f (by omega)) | exact congrArg nI (hpl_t (by assumption)) | exact congrArg nI (hpl_f (by assumption)) | exact congrArg nI (dpl_t (by assumption)) | exact congrArg nI (dpl_f (by assumption))
              have e38 : (nI ((hpl nd sc f_r a_v) ||| 0)) = (nI (hpl nd sc f_r (a_v + 1))) := by first | rfl | exact congrArg nI (wpl_t (by omega)) | exact congrArg nI (wpl_f (by omega)) | exact congrArg nI (hpl_t (by assumption)) | exact congrArg nI (hpl_f (by assumption)) | exact congrArg nI (dpl_t (by assumption)) | exact congrArg nI (dpl_f (by assumption))
              refine z_Le (L' := [(0, .ref (b 0)), (1, .int (nI f_r)), (2, .int (nI w_n)), (3, .int (nI (fpl D kd st sp (fs lk so D) sc f_r (a_v + 1)))), (4, .int (ffo D kd st (fs lk so D) sc f_r a_v)), (5, .int (nI (wpl D kd st (fs lk so D) sc f_r (a_v + 1)))), (6, .int (nI (hpl nd sc f_r (a_v + 1)))), (7, .int (nI 0)), (8, .int (nI a_v)), (9, .int (nI (tn (sc (f_r + a_v))))), (10, .int (nI (fnd D (Lf kd st a_v) (tn (sc (f_r + a_v))) (fs lk so D))))]) (by rw [← e36, ← e37, ← e38]) ?_
              exact jn7
            ·
              exact absurd hq35 (by omega)
          ·
            refine z_iconst (v := nI 1) X dX5_planBy_94 (by decide) ?_
            refine z_iload X dX5_planBy_95 10 rfl ?_
            refine z_ishl' (v := nI (2 ^ a_v)) X dX5_planBy_97 (nI_shl1 (by omega)) ?_
            refine z_goto (tgt := 102) X dX5_planBy_98 (by decide) ?_
            refine z_ior' (v := nI ((hpl nd sc f_r a_v) ||| (2 ^ a_v))) X dX5_planBy_102 (fa_or _ _) ?_
            refine z_istore (L' := [(6, .int (nI ((hpl nd sc f_r a_v) ||| (2 ^ a_v)))), (5, .int (nI ((wpl D kd st (fs lk so D) sc f_r a_v) ||| (2 ^ a_v)))), (3, .int (nI ((fpl D kd st sp (fs lk so D) sc f_r a_v) + (pc (fnd D (Lf kd st a_v) (tn (sc (f_r + a_v))) (fs lk so D)) * tn (sp a_v))))), (10, .int (nI (fnd D (Lf kd st a_v) (tn (sc (f_r + a_v))) (fs lk so D)))), (9, .int (nI (tn (sc (f_r + a_v))))), (0, .ref (b 0)), (1, .int (nI f_r)), (2, .int (nI w_n)), (4, .int (ffo D kd st (fs lk so D) sc f_r a_v)), (7, .int (nI 0)), (8, .int (nI a_v))]) X dX5_planBy_103 (by decide) rfl ?_
            refine z_iload X dX5_planBy_105 9 rfl ?_
            refine z_iload_n X dX5_planBy_107 rfl 7 rfl ?_
            refine z_bipush (v := nI 10) X dX5_planBy_108 (by decide) ?_
            refine z_icmp_ltN (tgt := 129) X dX5_planBy_110 (by decide) (by omega) (by omega) (fun hq39 => ?_) (fun hq39 => ?_)
            ·
              refine z_iconst (v := nI 0) X dX5_planBy_129 (by decide) ?_
              refine z_iadd' (v := nI 0) X dX5_planBy_130 (nI_add _ _) ?_
              refine z_istore (L' := [(7, .int (nI 0)), (6, .int (nI ((hpl nd sc f_r a_v) ||| (2 ^ a_v)))), (5, .int (nI ((wpl D kd st (fs lk so D) sc f_r a_v) ||| (2 ^ a_v)))), (3, .int (nI ((fpl D kd st sp (fs lk so D) sc f_r a_v) + (pc (fnd D (Lf kd st a_v) (tn (sc (f_r + a_v))) (fs lk so D)) * tn (sp a_v))))), (10, .int (nI (fnd D (Lf kd st a_v) (tn (sc (f_r + a_v))) (fs lk so D)))), (9, .int (nI (tn (sc (f_r + a_v))))), (0, .ref (b 0)), (1, .int (nI f_r)), (2, .int (nI w_n)), (4, .int (ffo D kd st (fs lk so D) sc f_r a_v)), (8, .int (nI a_v))]) X dX5_planBy_131 (by decide) rfl ?_
              refine z_ls (L' := [(0, .ref (b 0)), (1, .int (nI f_r)), (2, .int (nI w_n)), (3, .int (nI ((fpl D kd st sp (fs lk so D) sc f_r a_v) + (pc (fnd D (Lf kd st a_v) (tn (sc (f_r + a_v))) (fs lk so D)) * tn (sp a_v))))), (4, .int (ffo D kd st (fs lk so D) sc f_r a_v)), (5, .int (nI ((wpl D kd st (fs lk so D) sc f_r a_v) ||| (2 ^ a_v)))), (6, .int (nI ((hpl nd sc f_r a_v) ||| (2 ^ a_v)))), (7, .int (nI 0)), (8, .int (nI a_v)), (9, .int (nI (tn (sc (f_r + a_v))))), (10, .int (nI (fnd D (Lf kd st a_v) (tn (sc (f_r + a_v))) (fs lk so D))))]) [6, 7, 8, 3, 9, 2, 1, 0, 10, 5, 4] rfl ?_
              have e40 : (nI ((fpl D kd st sp (fs lk so D) sc f_r a_v) + (pc (fnd D (Lf kd st a_v) (tn (sc (f_r + a_v))) (fs lk so D)) * tn (sp a_v)))) = (nI (fpl D kd st sp (fs lk so D) sc f_r (a_v + 1))) := by first | rfl | exact congrArg nI (wpl_t (by omega)) | exact congrArg nI (wpl_f (by omega)) | exact congrArg nI (hpl_t (by assumption)) | exact congrArg nI (hpl_f (by assumption)) | exact congrArg nI (dpl_t (by assumption)) | exact congrArg nI (dpl_f (by assumption))
              have e41 : (nI ((wpl D kd st (fs lk so D) sc f_r a_v) ||| (2 ^ a_v))) = (nI (wpl D kd st (fs lk so D) sc f_r (a_v + 1))) := by first | rfl | exact congrArg nI (wpl_t (by omega)) | exact congrArg nI (wpl_f (by omega)) | exact congrArg nI (hpl_t (by assumption)) | exact congrArg nI (hpl_f (by assumption)) | exact congrArg nI (dpl_t (by assumption)) | exact congrArg nI (dpl_f (by assumption))
              have e42 : (nI ((hpl nd sc f_r a_v) ||| (2 ^ a_v))) = (nI (hpl nd sc f_r (a_v + 1))) := by first | rfl | exact congrArg nI (wpl_t (by omega)) | exact congrArg nI (wpl_f (by omega)) | exact congrArg nI (hpl_t (by assumption)) | exact congrArg nI (hpl_f (by assumption)) | exact congrArg nI (dpl_t (by assumption)) | exact congrArg nI (dpl_f (by assumption))
              refine z_Le (L' := [(0, .ref (b 0)), (1, .int (nI f_r)), (2, .int (nI w_n)), (3, .int (nI (fpl D kd st sp (fs lk so D) sc f_r (a_v + 1)))), (4, .int (ffo D kd st (fs lk so D) sc f_r a_v)), (5, .int (nI (wpl D kd st (fs lk so D) sc f_r (a_v + 1)))), (6, .int (nI (hpl nd sc f_r (a_v + 1)))), (7, .int (nI 0)), (8, .int (nI a_v)), (9, .int (nI (tn (sc (f_r + a_v))))), (10, .int (nI (fnd D (Lf kd st a_v) (tn (sc (f_r + a_v))) (fs lk so D))))]) (by rw [← e40, ← e41, ← e42]) ?_
              exact jn7
            ·
              exact absurd hq39 (by omega)
  refine z_ls (L' := [(0, .ref (b 0)), (1, .int (nI f_r)), (2, .int (nI w_n)), (3, .int (nI 0)), (4, .int (-9)), (5, .int (nI 0)), (6, .int (nI 0)), (7, .int (nI 0)), (8, .int (nI 0))]) [6, 7, 8, 5, 4, 3, 2, 1, 0] rfl ?_
  have e43 : (nI 0) = (nI (fpl D kd st sp (fs lk so D) sc f_r 0)) := by first | rfl | exact congrArg (mfd D (fnd D (Lf kd st a_v) (tn (sc (f_r + a_v))) (fs lk so D)) (ffo D kd st (fs lk so D) sc f_r a_v)) hcD
  have e44 : (-9) = (ffo D kd st (fs lk so D) sc f_r 0) := by first | rfl | exact congrArg (mfd D (fnd D (Lf kd st a_v) (tn (sc (f_r + a_v))) (fs lk so D)) (ffo D kd st (fs lk so D) sc f_r a_v)) hcD
  have e45 : (nI 0) = (nI (wpl D kd st (fs lk so D) sc f_r 0)) := by first | rfl | exact congrArg (mfd D (fnd D (Lf kd st a_v) (tn (sc (f_r + a_v))) (fs lk so D)) (ffo D kd st (fs lk so D) sc f_r a_v)) hcD
  have e46 : (nI 0) = (nI (hpl nd sc f_r 0)) := by first | rfl | exact congrArg (mfd D (fnd D (Lf kd st a_v) (tn (sc (f_r + a_v))) (fs lk so D)) (ffo D kd st (fs lk so D) sc f_r a_v)) hcD
  refine z_Le (L' := [(0, .ref (b 0)), (1, .int (nI f_r)), (2, .int (nI w_n)), (3, .int (nI (fpl D kd st sp (fs lk so D) sc f_r 0))), (4, .int (ffo D kd st (fs lk so D) sc f_r 0)), (5, .int (nI (wpl D kd st (fs lk so D) sc f_r 0))), (6, .int (nI (hpl nd sc f_r 0))), (7, .int (nI 0)), (8, .int (nI 0))]) (by rw [← e43, ← e44, ← e45, ← e46]) ?_
  exact loopv1 (E + 1) 0 (by omega) (by omega)
abbrev rX5_planBy_m : Room := { frames := 4, cells := 0, slots := 0, locals := 92 }
set_option maxHeartbeats 4000000 in
set_option maxRecDepth 100000 in
theorem c_X5_planBy_m (l : Launch) (g : zg) (b : Nat → Nat) (ft : Int32) (so : Int32) (D : Nat) (E : Nat) (tr : Int32) (C : Nat) (lk : Nat → Int32) (kd : Nat → Int32) (st : Nat → Int32) (sp : Nat → Int32) (nd : Nat → Int32) (rO : Nat → Int32) (rB : Nat → Int32) (rD : Nat → Int32) (rW : Nat → Int32) (sz : Nat → Int32) (sl : Nat → Int32) (sc : Nat → Int32) (sm : Int32) (xa : Nat) (xb : Int32) (xc : Nat) (xd : Nat) (y1 : Nat → Int32) (y2 : Nat → Int32) (y3 : Nat → Int32) (y4 : Nat → Int32) (y5 : Nat → Int32) (hn : Nat → Int32) (f_r : Nat) (w_n : Nat) (hE : E ≤ 4) (hD : D ≤ 6) (hL : vL kd st E) (hSp : vS sp E) (hsm : sm = (-9)) (hF : ∀ a_, a_ < E → sc (f_r + a_) = nI (tn (sc (f_r + a_))) ∧ tn (sc (f_r + a_)) < 2 ^ D) (hf2 : f_r + E ≤ 240) (hw10 : 10 ≤ w_n) (hw16 : w_n < 16) : zM l g yX5_planBy wsX5_planBy rX5_planBy_m [.ref (b 0), .int (nI f_r), .int (nI w_n)] (wM g b ft so D E tr C lk kd st sp nd rO rB rD rW sz sl sc sm xa xb xc xd y1 y2 y3 y4 y5 hn) (some (.int (ofp D E lk so kd st sp nd sc f_r (nI w_n)))) (wM g b ft so D E tr C lk kd st sp nd rO rB rD rW sz sl sc sm xa xb xc xd y1 y2 y3 y4 y5 hn) := by
  refine z_met (own := RX5) (cc := cX5_planBy) (maxL := 12) (ret := some .int) (by decide +kernel) rfl rfl (Nat.le_of_ble_eq_true rfl) ?_
  intro M X ZF
  refine z_Le (L' := [(0, .ref (b 0)), (1, .int (nI f_r)), (2, .int (nI w_n))]) rfl ?_
  have hsm2 := hsm
  have hf9 : fsm lk so sm D = fs lk so D := by rw [hsm]; exact fsm_no hD
  have hpD : 2 ^ D ≤ 2 ^ 6 := Nat.pow_le_pow_right (by omega) hD
  have i_RX5 : ∀ w ∈ wsX50, w ∈ wsX5_planBy := by decide +kernel
  have f_85 : Cond.fieldLink RX5 85 (TX5 4).1 (TX5 4).2.1 (TX5 4).2.2.1 ∈ wsX5_planBy := by decide +kernel
  have f_63 : Cond.fieldLink RX5 63 (TX5 26).1 (TX5 26).2.1 (TX5 26).2.2.1 ∈ wsX5_planBy := by decide +kernel
  have f_78 : Cond.fieldLink RX5 78 (TX5 2).1 (TX5 2).2.1 (TX5 2).2.2.1 ∈ wsX5_planBy := by decide +kernel
  have f_22 : Cond.fieldLink RX5 22 (TX5 8).1 (TX5 8).2.1 (TX5 8).2.2.1 ∈ wsX5_planBy := by decide +kernel
  refine z_iconst (v := nI 0) X dX5_planBy_0 (by decide) ?_
  refine z_istore_n (L' := [(3, .int (nI 0)), (0, .ref (b 0)), (1, .int (nI f_r)), (2, .int (nI w_n))]) X dX5_planBy_1 rfl (by decide) rfl ?_
  refine z_bipush (v := (-9)) X dX5_planBy_2 (by decide) ?_
  refine z_istore (L' := [(4, .int (-9)), (3, .int (nI 0)), (0, .ref (b 0)), (1, .int (nI f_r)), (2, .int (nI w_n))]) X dX5_planBy_4 (by decide) rfl ?_
  refine z_iconst (v := nI 0) X dX5_planBy_6 (by decide) ?_
  refine z_istore (L' := [(5, .int (nI 0)), (4, .int (-9)), (3, .int (nI 0)), (0, .ref (b 0)), (1, .int (nI f_r)), (2, .int (nI w_n))]) X dX5_planBy_7 (by decide) rfl ?_
  refine z_iconst (v := nI 0) X dX5_planBy_9 (by decide) ?_
  refine z_istore (L' := [(6, .int (nI 0)), (5, .int (nI 0)), (4, .int (-9)), (3, .int (nI 0)), (0, .ref (b 0)), (1, .int (nI f_r)), (2, .int (nI w_n))]) X dX5_planBy_10 (by decide) rfl ?_
  refine z_iconst (v := nI 0) X dX5_planBy_12 (by decide) ?_
  refine z_istore (L' := [(7, .int (nI 0)), (6, .int (nI 0)), (5, .int (nI 0)), (4, .int (-9)), (3, .int (nI 0)), (0, .ref (b 0)), (1, .int (nI f_r)), (2, .int (nI w_n))]) X dX5_planBy_13 (by decide) rfl ?_
  refine z_iconst (v := nI 0) X dX5_planBy_15 (by decide) ?_
  refine z_istore (L' := [(8, .int (nI 0)), (7, .int (nI 0)), (6, .int (nI 0)), (5, .int (nI 0)), (4, .int (-9)), (3, .int (nI 0)), (0, .ref (b 0)), (1, .int (nI f_r)), (2, .int (nI w_n))]) X dX5_planBy_16 (by decide) rfl ?_
  have loopv1 : ∀ (n1 a_v : Nat), a_v ≤ E → E + 1 ≤ a_v + n1 → zG l g 12 M (wM g b ft so D E tr C lk kd st sp nd rO rB rD rW sz sl sc sm xa xb xc xd y1 y2 y3 y4 y5 hn) [(0, .ref (b 0)), (1, .int (nI f_r)), (2, .int (nI w_n)), (3, .int (nI (fpl D kd st sp (fs lk so D) sc f_r a_v))), (4, .int (ffo D kd st (fs lk so D) sc f_r a_v)), (5, .int (nI (wpl D kd st (fs lk so D) sc f_r a_v))), (6, .int (nI (hpl nd sc f_r a_v))), (7, .int (nI (dpl D kd st (fs lk so D) sc f_r (w_n - 10) a_v))), (8, .int (nI a_v))] 18 [] := by
    intro n1
    induction n1 with
    | zero => intro a_v h1 h2; exact absurd h2 (by omega)
    | succ n1 ih1 =>
      intro a_v hi1 hn1
      refine z_iload X dX5_planBy_18 8 rfl ?_
      refine z_aload_n X dX5_planBy_20 rfl 0 rfl ?_
      refine z_get (v := .int (nI E)) (N := 29) X i_RX5 (ci := 4) rfl 0 rfl 4 (by decide) f_85 rfl dX5_planBy_21 ?_
      refine z_icmp_geN (tgt := 189) X dX5_planBy_24 (by decide) (by omega) (by omega) (fun hq2 => ?_) (fun hq2 => ?_)
      ·
        refine z_iload_n X dX5_planBy_189 rfl 2 rfl ?_
        refine z_bipush (v := nI 10) X dX5_planBy_190 (by decide) ?_
        refine z_icmp_ltN (tgt := 214) X dX5_planBy_192 (by decide) (by omega) (by omega) (fun hq3 => ?_) (fun hq3 => ?_)
        ·
          exact absurd hq3 (by omega)
        ·
          refine z_aload_n X dX5_planBy_195 rfl 0 rfl ?_
          refine z_iload_n X dX5_planBy_196 rfl 2 rfl ?_
          refine z_bipush (v := nI 10) X dX5_planBy_197 (by decide) ?_
          refine z_isub' (v := nI (w_n - 10)) X dX5_planBy_199 (pk_sub (by omega)) ?_
          refine z_callVM X (c_X5_noDay l g b ft so D E tr C lk kd st sp nd rO rB rD rW sz sl sc sm xa xb xc xd y1 y2 y3 y4 y5 hn (nI (w_n - 10)) (by omega)) gX5_planBy_X5_noDay rfl ⟨rfl, rfl⟩ (by decide +kernel) ⟨Nat.le_of_ble_eq_true rfl, Nat.le_of_ble_eq_true rfl⟩ ZF.room (ci := 4) rfl 0 rfl rfl (As := [.int (nI (w_n - 10))]) (n := 1) rfl rfl (st1 := [.int (bI (!zin (nI (w_n - 10)) D))]) rfl (Nat.le_of_ble_eq_true rfl) dX5_planBy_200 ?_
          refine z_if_eqB (tgt := 211) X dX5_planBy_203 (by decide) (fun hq4 => ?_) (fun hq4 => ?_)
          ·
            have hq5 : (zin (nI (w_n - 10)) D) = true := by simpa using hq4
            refine z_iload X dX5_planBy_211 7 rfl ?_
            exact z_iret X ZF dX5_planBy_213 (by first | (rw [ofp_d hw10 hw16, if_pos hq5, show E = a_v by omega]; done) | (rw [ofp_d hw10 hw16, if_neg (by rw [hq5]; decide)]; done)) rfl
          ·
            have hq6 : (zin (nI (w_n - 10)) D) = false := by simpa using hq4
            refine z_bipush (v := (-9)) X dX5_planBy_206 (by decide) ?_
            refine z_goto (tgt := 213) X dX5_planBy_208 (by decide) ?_
            exact z_iret X ZF dX5_planBy_213 (by first | (rw [ofp_d hw10 hw16, if_pos hq6, show E = a_v by omega]; done) | (rw [ofp_d hw10 hw16, if_neg (by rw [hq6]; decide)]; done)) rfl
      ·
        refine z_aload_n X dX5_planBy_27 rfl 0 rfl ?_
        refine z_get (v := .ref (b 17)) (N := 29) X i_RX5 (ci := 4) rfl 0 rfl 26 (by decide) f_63 rfl dX5_planBy_28 ?_
        refine z_iload_n X dX5_planBy_31 rfl 1 rfl ?_
        refine z_iload X dX5_planBy_32 8 rfl ?_
        refine z_iadd' (v := nI (f_r + a_v)) X dX5_planBy_34 (nI_add _ _) ?_
        refine z_ialdN X 17 rfl (by omega) (by omega) dX5_planBy_35 ?_
        refine z_top (y := nI (tn (sc (f_r + a_v)))) (hF a_v (by omega)).1 ?_
        refine z_istore (L' := [(9, .int (nI (tn (sc (f_r + a_v))))), (0, .ref (b 0)), (1, .int (nI f_r)), (2, .int (nI w_n)), (3, .int (nI (fpl D kd st sp (fs lk so D) sc f_r a_v))), (4, .int (ffo D kd st (fs lk so D) sc f_r a_v)), (5, .int (nI (wpl D kd st (fs lk so D) sc f_r a_v))), (6, .int (nI (hpl nd sc f_r a_v))), (7, .int (nI (dpl D kd st (fs lk so D) sc f_r (w_n - 10) a_v))), (8, .int (nI a_v))]) X dX5_planBy_36 (by decide) rfl ?_
        have hfn := fnd_lt (D := D) (L := Lf kd st a_v) (S := tn (sc (f_r + a_v))) (F := fs lk so D) hD
        have hst := (hF a_v (by omega)).2
        refine z_aload_n X dX5_planBy_38 rfl 1 rfl ?_
        refine z_iload X dX5_planBy_39 9 rfl ?_
        refine z_iload X dX5_planBy_41 0 rfl ?_
        refine z_callVM X (c_X5_foundBy l g b ft so D E tr C lk kd st sp nd rO rB rD rW sz sl sc sm xa xb xc xd y1 y2 y3 y4 y5 hn a_v (tn (sc (f_r + a_v))) (by omega) (by omega) (by omega) (by first | assumption | omega) hst) gX5_planBy_X5_foundBy rfl ⟨rfl, rfl⟩ (by decide +kernel) ⟨Nat.le_of_ble_eq_true rfl, Nat.le_of_ble_eq_true rfl⟩ ZF.room (ci := 4) rfl 0 rfl rfl (As := [.int (nI a_v), .int (nI (tn (sc (f_r + a_v))))]) (n := 2) rfl rfl (st1 := [.int (nI (fnd D (Lf kd st a_v) (tn (sc (f_r + a_v))) (fsm lk so sm D)))]) rfl (Nat.le_of_ble_eq_true rfl) dX5_planBy_43 ?_
        refine z_top (y := nI (fnd D (Lf kd st a_v) (tn (sc (f_r + a_v))) (fs lk so D))) (by rw [hf9]) ?_
        refine z_istore (L' := [(10, .int (nI (fnd D (Lf kd st a_v) (tn (sc (f_r + a_v))) (fs lk so D)))), (9, .int (nI (tn (sc (f_r + a_v))))), (0, .ref (b 0)), (1, .int (nI f_r)), (2, .int (nI w_n)), (3, .int (nI (fpl D kd st sp (fs lk so D) sc f_r a_v))), (4, .int (ffo D kd st (fs lk so D) sc f_r a_v)), (5, .int (nI (wpl D kd st (fs lk so D) sc f_r a_v))), (6, .int (nI (hpl nd sc f_r a_v))), (7, .int (nI (dpl D kd st (fs lk so D) sc f_r (w_n - 10) a_v))), (8, .int (nI a_v))]) X dX5_planBy_46 (by decide) rfl ?_
        refine z_iload_n X dX5_planBy_48 rfl 5 rfl ?_
        refine z_aload_n X dX5_planBy_49 rfl 2 rfl ?_
        refine z_iload X dX5_planBy_50 10 rfl ?_
        refine z_iload X dX5_planBy_52 1 rfl ?_
        refine z_callVM X (c_X5_fineOf l g b ft so D E tr C lk kd st sp nd rO rB rD rW sz sl sc sm xa xb xc xd y1 y2 y3 y4 y5 hn a_v (tn (sc (f_r + a_v))) (by omega) (by omega) (by omega) (by first | assumption | omega) (by first | assumption | omega) hst) gX5_planBy_X5_fineOf rfl ⟨rfl, rfl⟩ (by decide +kernel) ⟨Nat.le_of_ble_eq_true rfl, Nat.le_of_ble_eq_true rfl⟩ ZF.room (ci := 4) rfl 0 rfl rfl (As := [.int (nI a_v), .int (nI (tn (sc (f_r + a_v))))]) (n := 2) rfl rfl (st1 := [.int (nI (tn (sp a_v) * pc (fnd D (Lf kd st a_v) (tn (sc (f_r + a_v))) (fsm lk so sm D)))), .int (nI (fpl D kd st sp (fs lk so D) sc f_r a_v))]) rfl (Nat.le_of_ble_eq_true rfl) dX5_planBy_54 ?_
        refine z_top (y := nI (pc (fnd D (Lf kd st a_v) (tn (sc (f_r + a_v))) (fs lk so D)) * tn (sp a_v))) (by rw [hf9, Nat.mul_comm]) ?_
        refine z_iadd' (v := nI ((fpl D kd st sp (fs lk so D) sc f_r a_v) + (pc (fnd D (Lf kd st a_v) (tn (sc (f_r + a_v))) (fs lk so D)) * tn (sp a_v)))) X dX5_planBy_57 (nI_add _ _) ?_
        refine z_istore_n (L' := [(3, .int (nI ((fpl D kd st sp (fs lk so D) sc f_r a_v) + (pc (fnd D (Lf kd st a_v) (tn (sc (f_r + a_v))) (fs lk so D)) * tn (sp a_v))))), (10, .int (nI (fnd D (Lf kd st a_v) (tn (sc (f_r + a_v))) (fs lk so D)))), (9, .int (nI (tn (sc (f_r + a_v))))), (0, .ref (b 0)), (1, .int (nI f_r)), (2, .int (nI w_n)), (4, .int (ffo D kd st (fs lk so D) sc f_r a_v)), (5, .int (nI (wpl D kd st (fs lk so D) sc f_r a_v))), (6, .int (nI (hpl nd sc f_r a_v))), (7, .int (nI (dpl D kd st (fs lk so D) sc f_r (w_n - 10) a_v))), (8, .int (nI a_v))]) X dX5_planBy_58 rfl (by decide) rfl ?_
        have jn7 : zG l g 12 M (wM g b ft so D E tr C lk kd st sp nd rO rB rD rW sz sl sc sm xa xb xc xd y1 y2 y3 y4 y5 hn) [(0, .ref (b 0)), (1, .int (nI f_r)), (2, .int (nI w_n)), (3, .int (nI (fpl D kd st sp (fs lk so D) sc f_r (a_v + 1)))), (4, .int (ffo D kd st (fs lk so D) sc f_r a_v)), (5, .int (nI (wpl D kd st (fs lk so D) sc f_r (a_v + 1)))), (6, .int (nI (hpl nd sc f_r (a_v + 1)))), (7, .int (nI (dpl D kd st (fs lk so D) sc f_r (w_n - 10) (a_v + 1)))), (8, .int (nI a_v)), (9, .int (nI (tn (sc (f_r + a_v))))), (10, .int (nI (fnd D (Lf kd st a_v) (tn (sc (f_r + a_v))) (fs lk so D))))] 133 [] := by
          refine z_aload_n X dX5_planBy_133 rfl 0 rfl ?_
          refine z_get (v := .int (nI D)) (N := 29) X i_RX5 (ci := 4) rfl 0 rfl 2 (by decide) f_78 rfl dX5_planBy_134 ?_
          refine z_iconst (v := nI 1) X dX5_planBy_137 (by decide) ?_
          refine z_isub X dX5_planBy_138 ?_
          refine z_istore (L' := [(11, .int ((nI D) - (nI 1))), (0, .ref (b 0)), (1, .int (nI f_r)), (2, .int (nI w_n)), (3, .int (nI (fpl D kd st sp (fs lk so D) sc f_r (a_v + 1)))), (4, .int (ffo D kd st (fs lk so D) sc f_r a_v)), (5, .int (nI (wpl D kd st (fs lk so D) sc f_r (a_v + 1)))), (6, .int (nI (hpl nd sc f_r (a_v + 1)))), (7, .int (nI (dpl D kd st (fs lk so D) sc f_r (w_n - 10) (a_v + 1)))), (8, .int (nI a_v)), (9, .int (nI (tn (sc (f_r + a_v))))), (10, .int (nI (fnd D (Lf kd st a_v) (tn (sc (f_r + a_v))) (fs lk so D))))]) X dX5_planBy_139 (by decide) rfl ?_
          have loopv8 : ∀ (n8 c_v : Nat), c_v ≤ D → D + 1 ≤ c_v + n8 → zG l g 12 M (wM g b ft so D E tr C lk kd st sp nd rO rB rD rW sz sl sc sm xa xb xc xd y1 y2 y3 y4 y5 hn) [(0, .ref (b 0)), (1, .int (nI f_r)), (2, .int (nI w_n)), (3, .int (nI (fpl D kd st sp (fs lk so D) sc f_r (a_v + 1)))), (4, .int (mfd D (fnd D (Lf kd st a_v) (tn (sc (f_r + a_v))) (fs lk so D)) (ffo D kd st (fs lk so D) sc f_r a_v) c_v)), (5, .int (nI (wpl D kd st (fs lk so D) sc f_r (a_v + 1)))), (6, .int (nI (hpl nd sc f_r (a_v + 1)))), (7, .int (nI (dpl D kd st (fs lk so D) sc f_r (w_n - 10) (a_v + 1)))), (8, .int (nI a_v)), (9, .int (nI (tn (sc (f_r + a_v))))), (10, .int (nI (fnd D (Lf kd st a_v) (tn (sc (f_r + a_v))) (fs lk so D)))), (11, .int (nI (D - c_v) - nI 1))] 141 [] := by
            intro n8
            induction n8 with
            | zero => intro c_v h1 h2; exact absurd h2 (by omega)
            | succ n8 ih8 =>
              intro c_v hi8 hn8
              refine z_iload X dX5_planBy_141 11 rfl ?_
              refine z_if_lt (tgt := 183) X dX5_planBy_143 (by decide) (fun hq9 => ?_) (fun hq9 => ?_)
              ·
                have hcD : c_v = D := by have := dn_neg (r := D - c_v) (by omega) hq9; omega
                refine z_iinc (v := nI (a_v + 1)) (L' := [(8, .int (nI (a_v + 1))), (0, .ref (b 0)), (1, .int (nI f_r)), (2, .int (nI w_n)), (3, .int (nI (fpl D kd st sp (fs lk so D) sc f_r (a_v + 1)))), (4, .int (mfd D (fnd D (Lf kd st a_v) (tn (sc (f_r + a_v))) (fs lk so D)) (ffo D kd st (fs lk so D) sc f_r a_v) c_v)), (5, .int (nI (wpl D kd st (fs lk so D) sc f_r (a_v + 1)))), (6, .int (nI (hpl nd sc f_r (a_v + 1)))), (7, .int (nI (dpl D kd st (fs lk so D) sc f_r (w_n - 10) (a_v + 1)))), (9, .int (nI (tn (sc (f_r + a_v))))), (10, .int (nI (fnd D (Lf kd st a_v) (tn (sc (f_r + a_v))) (fs lk so D)))), (11, .int (nI (D - c_v) - nI 1))]) X dX5_planBy_183 8 rfl (nI_inc a_v 1) (by decide) rfl ?_
                refine z_goto (tgt := 18) X dX5_planBy_186 (by decide) ?_
                refine z_ls (L' := [(0, .ref (b 0)), (1, .int (nI f_r)), (2, .int (nI w_n)), (3, .int (nI (fpl D kd st sp (fs lk so D) sc f_r (a_v + 1)))), (4, .int (mfd D (fnd D (Lf kd st a_v) (tn (sc (f_r + a_v))) (fs lk so D)) (ffo D kd st (fs lk so D) sc f_r a_v) c_v)), (5, .int (nI (wpl D kd st (fs lk so D) sc f_r (a_v + 1)))), (6, .int (nI (hpl nd sc f_r (a_v + 1)))), (7, .int (nI (dpl D kd st (fs lk so D) sc f_r (w_n - 10) (a_v + 1)))), (8, .int (nI (a_v + 1)))]) [1, 2, 3, 4, 5, 6, 7, 8, 0] rfl ?_
                have e10 : (mfd D (fnd D (Lf kd st a_v) (tn (sc (f_r + a_v))) (fs lk so D)) (ffo D kd st (fs lk so D) sc f_r a_v) c_v) = (ffo D kd st (fs lk so D) sc f_r (a_v + 1)) := by first | rfl | exact congrArg (mfd D (fnd D (Lf kd st a_v) (tn (sc (f_r + a_v))) (fs lk so D)) (ffo D kd st (fs lk so D) sc f_r a_v)) hcD
                refine z_Le (L' := [(0, .ref (b 0)), (1, .int (nI f_r)), (2, .int (nI w_n)), (3, .int (nI (fpl D kd st sp (fs lk so D) sc f_r (a_v + 1)))), (4, .int (ffo D kd st (fs lk so D) sc f_r (a_v + 1))), (5, .int (nI (wpl D kd st (fs lk so D) sc f_r (a_v + 1)))), (6, .int (nI (hpl nd sc f_r (a_v + 1)))), (7, .int (nI (dpl D kd st (fs lk so D) sc f_r (w_n - 10) (a_v + 1)))), (8, .int (nI (a_v + 1)))]) (by rw [← e10]) ?_
                exact ih1 (a_v + 1) (by omega) (by omega)
              ·
                have hcp := dn_pos (r := D - c_v) (by omega) hq9
                refine z_Le (L' := [(0, .ref (b 0)), (1, .int (nI f_r)), (2, .int (nI w_n)), (3, .int (nI (fpl D kd st sp (fs lk so D) sc f_r (a_v + 1)))), (4, .int (mfd D (fnd D (Lf kd st a_v) (tn (sc (f_r + a_v))) (fs lk so D)) (ffo D kd st (fs lk so D) sc f_r a_v) c_v)), (5, .int (nI (wpl D kd st (fs lk so D) sc f_r (a_v + 1)))), (6, .int (nI (hpl nd sc f_r (a_v + 1)))), (7, .int (nI (dpl D kd st (fs lk so D) sc f_r (w_n - 10) (a_v + 1)))), (8, .int (nI a_v)), (9, .int (nI (tn (sc (f_r + a_v))))), (10, .int (nI (fnd D (Lf kd st a_v) (tn (sc (f_r + a_v))) (fs lk so D)))), (11, .int (nI (D - c_v - 1)))]) (by rw [pk_sub hcp]) ?_
                refine z_iload X dX5_planBy_146 10 rfl ?_
                refine z_iload X dX5_planBy_148 11 rfl ?_
                refine z_callS0 X (c_X5_isIn l g (fnd D (Lf kd st a_v) (tn (sc (f_r + a_v))) (fs lk so D)) (D - c_v - 1) (by omega) (by omega)) gX5_planBy_X5_isIn rfl ⟨rfl, rfl⟩ (by decide +kernel) ⟨Nat.le_of_ble_eq_true rfl, Nat.le_of_ble_eq_true rfl⟩ ZF.room (As := [.int (nI (fnd D (Lf kd st a_v) (tn (sc (f_r + a_v))) (fs lk so D))), .int (nI (D - c_v - 1))]) (n := 2) rfl rfl (st1 := [.int (bI (zbt (fnd D (Lf kd st a_v) (tn (sc (f_r + a_v))) (fs lk so D)) (D - c_v - 1)))]) rfl (Nat.le_of_ble_eq_true rfl) dX5_planBy_150 ?_
                refine z_if_eqB (tgt := 173) X dX5_planBy_153 (by decide) (fun hq11 => ?_) (fun hq11 => ?_)
                ·
                  refine z_iload X dX5_planBy_173 4 rfl ?_
                  refine z_istore (L' := [(4, .int (mfd D (fnd D (Lf kd st a_v) (tn (sc (f_r + a_v))) (fs lk so D)) (ffo D kd st (fs lk so D) sc f_r a_v) c_v)), (0, .ref (b 0)), (1, .int (nI f_r)), (2, .int (nI w_n)), (3, .int (nI (fpl D kd st sp (fs lk so D) sc f_r (a_v + 1)))), (5, .int (nI (wpl D kd st (fs lk so D) sc f_r (a_v + 1)))), (6, .int (nI (hpl nd sc f_r (a_v + 1)))), (7, .int (nI (dpl D kd st (fs lk so D) sc f_r (w_n - 10) (a_v + 1)))), (8, .int (nI a_v)), (9, .int (nI (tn (sc (f_r + a_v))))), (10, .int (nI (fnd D (Lf kd st a_v) (tn (sc (f_r + a_v))) (fs lk so D)))), (11, .int (nI (D - c_v - 1)))]) X dX5_planBy_175 (by decide) rfl ?_
                  refine z_iinc (v := (nI (D - c_v - 1)) + Int32.ofInt (-1)) (L' := [(11, .int ((nI (D - c_v - 1)) + Int32.ofInt (-1))), (4, .int (mfd D (fnd D (Lf kd st a_v) (tn (sc (f_r + a_v))) (fs lk so D)) (ffo D kd st (fs lk so D) sc f_r a_v) c_v)), (0, .ref (b 0)), (1, .int (nI f_r)), (2, .int (nI w_n)), (3, .int (nI (fpl D kd st sp (fs lk so D) sc f_r (a_v + 1)))), (5, .int (nI (wpl D kd st (fs lk so D) sc f_r (a_v + 1)))), (6, .int (nI (hpl nd sc f_r (a_v + 1)))), (7, .int (nI (dpl D kd st (fs lk so D) sc f_r (w_n - 10) (a_v + 1)))), (8, .int (nI a_v)), (9, .int (nI (tn (sc (f_r + a_v))))), (10, .int (nI (fnd D (Lf kd st a_v) (tn (sc (f_r + a_v))) (fs lk so D))))]) X dX5_planBy_177 11 rfl rfl (by decide) rfl ?_
                  refine z_goto (tgt := 141) X dX5_planBy_180 (by decide) ?_
                  refine z_ls (L' := [(0, .ref (b 0)), (1, .int (nI f_r)), (2, .int (nI w_n)), (3, .int (nI (fpl D kd st sp (fs lk so D) sc f_r (a_v + 1)))), (4, .int (mfd D (fnd D (Lf kd st a_v) (tn (sc (f_r + a_v))) (fs lk so D)) (ffo D kd st (fs lk so D) sc f_r a_v) c_v)), (5, .int (nI (wpl D kd st (fs lk so D) sc f_r (a_v + 1)))), (6, .int (nI (hpl nd sc f_r (a_v + 1)))), (7, .int (nI (dpl D kd st (fs lk so D) sc f_r (w_n - 10) (a_v + 1)))), (8, .int (nI a_v)), (9, .int (nI (tn (sc (f_r + a_v))))), (10, .int (nI (fnd D (Lf kd st a_v) (tn (sc (f_r + a_v))) (fs lk so D)))), (11, .int ((nI (D - c_v - 1)) + Int32.ofInt (-1)))]) [2, 3, 4, 5, 1, 6, 7, 8, 9, 10, 11, 0] rfl ?_
                  have e12 : (mfd D (fnd D (Lf kd st a_v) (tn (sc (f_r + a_v))) (fs lk so D)) (ffo D kd st (fs lk so D) sc f_r a_v) c_v) = (mfd D (fnd D (Lf kd st a_v) (tn (sc (f_r + a_v))) (fs lk so D)) (ffo D kd st (fs lk so D) sc f_r a_v) (c_v + 1)) := by first | exact mfd_n (by assumption) | exact mfd_b (by assumption) (by assumption) (by assumption)
                  have e13 : ((nI (D - c_v - 1)) + Int32.ofInt (-1)) = (nI (D - (c_v + 1)) - nI 1) := by rw [show D - (c_v + 1) = D - c_v - 1 by omega]; exact nI_decI _
                  refine z_Le (L' := [(0, .ref (b 0)), (1, .int (nI f_r)), (2, .int (nI w_n)), (3, .int (nI (fpl D kd st sp (fs lk so D) sc f_r (a_v + 1)))), (4, .int (mfd D (fnd D (Lf kd st a_v) (tn (sc (f_r + a_v))) (fs lk so D)) (ffo D kd st (fs lk so D) sc f_r a_v) (c_v + 1))), (5, .int (nI (wpl D kd st (fs lk so D) sc f_r (a_v + 1)))), (6, .int (nI (hpl nd sc f_r (a_v + 1)))), (7, .int (nI (dpl D kd st (fs lk so D) sc f_r (w_n - 10) (a_v + 1)))), (8, .int (nI a_v)), (9, .int (nI (tn (sc (f_r + a_v))))), (10, .int (nI (fnd D (Lf kd st a_v) (tn (sc (f_r + a_v))) (fs lk so D)))), (11, .int (nI (D - (c_v + 1)) - nI 1))]) (by rw [← e12, ← e13]) ?_
                  exact ih8 (c_v + 1) (by omega) (by omega)
                ·
                  refine z_iload X dX5_planBy_156 4 rfl ?_
                  refine z_if_lt (tgt := 168) X dX5_planBy_158 (by decide) (fun hq14 => ?_) (fun hq14 => ?_)
                  ·
                    refine z_iload X dX5_planBy_168 11 rfl ?_
                    refine z_goto (tgt := 175) X dX5_planBy_170 (by decide) ?_
                    refine z_istore (L' := [(4, .int (nI (D - c_v - 1))), (0, .ref (b 0)), (1, .int (nI f_r)), (2, .int (nI w_n)), (3, .int (nI (fpl D kd st sp (fs lk so D) sc f_r (a_v + 1)))), (5, .int (nI (wpl D kd st (fs lk so D) sc f_r (a_v + 1)))), (6, .int (nI (hpl nd sc f_r (a_v + 1)))), (7, .int (nI (dpl D kd st (fs lk so D) sc f_r (w_n - 10) (a_v + 1)))), (8, .int (nI a_v)), (9, .int (nI (tn (sc (f_r + a_v))))), (10, .int (nI (fnd D (Lf kd st a_v) (tn (sc (f_r + a_v))) (fs lk so D)))), (11, .int (nI (D - c_v - 1)))]) X dX5_planBy_175 (by decide) rfl ?_
                    refine z_iinc (v := (nI (D - c_v - 1)) + Int32.ofInt (-1)) (L' := [(11, .int ((nI (D - c_v - 1)) + Int32.ofInt (-1))), (4, .int (nI (D - c_v - 1))), (0, .ref (b 0)), (1, .int (nI f_r)), (2, .int (nI w_n)), (3, .int (nI (fpl D kd st sp (fs lk so D) sc f_r (a_v + 1)))), (5, .int (nI (wpl D kd st (fs lk so D) sc f_r (a_v + 1)))), (6, .int (nI (hpl nd sc f_r (a_v + 1)))), (7, .int (nI (dpl D kd st (fs lk so D) sc f_r (w_n - 10) (a_v + 1)))), (8, .int (nI a_v)), (9, .int (nI (tn (sc (f_r + a_v))))), (10, .int (nI (fnd D (Lf kd st a_v) (tn (sc (f_r + a_v))) (fs lk so D))))]) X dX5_planBy_177 11 rfl rfl (by decide) rfl ?_
                    refine z_goto (tgt := 141) X dX5_planBy_180 (by decide) ?_
                    refine z_ls (L' := [(0, .ref (b 0)), (1, .int (nI f_r)), (2, .int (nI w_n)), (3, .int (nI (fpl D kd st sp (fs lk so D) sc f_r (a_v + 1)))), (4, .int (nI (D - c_v - 1))), (5, .int (nI (wpl D kd st (fs lk so D) sc f_r (a_v + 1)))), (6, .int (nI (hpl nd sc f_r (a_v + 1)))), (7, .int (nI (dpl D kd st (fs lk so D) sc f_r (w_n - 10) (a_v + 1)))), (8, .int (nI a_v)), (9, .int (nI (tn (sc (f_r + a_v))))), (10, .int (nI (fnd D (Lf kd st a_v) (tn (sc (f_r + a_v))) (fs lk so D)))), (11, .int ((nI (D - c_v - 1)) + Int32.ofInt (-1)))]) [2, 3, 4, 5, 1, 6, 7, 8, 9, 10, 11, 0] rfl ?_
                    have e15 : (nI (D - c_v - 1)) = (mfd D (fnd D (Lf kd st a_v) (tn (sc (f_r + a_v))) (fs lk so D)) (ffo D kd st (fs lk so D) sc f_r a_v) (c_v + 1)) := by first | exact mfd_a (by assumption) (by assumption) | exact mfd_c (by assumption) (by assumption) (by assumption)
                    have e16 : ((nI (D - c_v - 1)) + Int32.ofInt (-1)) = (nI (D - (c_v + 1)) - nI 1) := by rw [show D - (c_v + 1) = D - c_v - 1 by omega]; exact nI_decI _
                    refine z_Le (L' := [(0, .ref (b 0)), (1, .int (nI f_r)), (2, .int (nI w_n)), (3, .int (nI (fpl D kd st sp (fs lk so D) sc f_r (a_v + 1)))), (4, .int (mfd D (fnd D (Lf kd st a_v) (tn (sc (f_r + a_v))) (fs lk so D)) (ffo D kd st (fs lk so D) sc f_r a_v) (c_v + 1))), (5, .int (nI (wpl D kd st (fs lk so D) sc f_r (a_v + 1)))), (6, .int (nI (hpl nd sc f_r (a_v + 1)))), (7, .int (nI (dpl D kd st (fs lk so D) sc f_r (w_n - 10) (a_v + 1)))), (8, .int (nI a_v)), (9, .int (nI (tn (sc (f_r + a_v))))), (10, .int (nI (fnd D (Lf kd st a_v) (tn (sc (f_r + a_v))) (fs lk so D)))), (11, .int (nI (D - (c_v + 1)) - nI 1))]) (by rw [← e15, ← e16]) ?_
                    exact ih8 (c_v + 1) (by omega) (by omega)
                  ·
                    refine z_iload X dX5_planBy_161 11 rfl ?_
                    refine z_iload X dX5_planBy_163 4 rfl ?_
                    refine z_icmp_ge (tgt := 173) X dX5_planBy_165 (by decide) (fun hq17 => ?_) (fun hq17 => ?_)
                    ·
                      refine z_iload X dX5_planBy_173 4 rfl ?_
                      refine z_istore (L' := [(4, .int (mfd D (fnd D (Lf kd st a_v) (tn (sc (f_r + a_v))) (fs lk so D)) (ffo D kd st (fs lk so D) sc f_r a_v) c_v)), (0, .ref (b 0)), (1, .int (nI f_r)), (2, .int (nI w_n)), (3, .int (nI (fpl D kd st sp (fs lk so D) sc f_r (a_v + 1)))), (5, .int (nI (wpl D kd st (fs lk so D) sc f_r (a_v + 1)))), (6, .int (nI (hpl nd sc f_r (a_v + 1)))), (7, .int (nI (dpl D kd st (fs lk so D) sc f_r (w_n - 10) (a_v + 1)))), (8, .int (nI a_v)), (9, .int (nI (tn (sc (f_r + a_v))))), (10, .int (nI (fnd D (Lf kd st a_v) (tn (sc (f_r + a_v))) (fs lk so D)))), (11, .int (nI (D - c_v - 1)))]) X dX5_planBy_175 (by decide) rfl ?_
                      refine z_iinc (v := (nI (D - c_v - 1)) + Int32.ofInt (-1)) (L' := [(11, .int ((nI (D - c_v - 1)) + Int32.ofInt (-1))), (4, .int (mfd D (fnd D (Lf kd st a_v) (tn (sc (f_r + a_v))) (fs lk so D)) (ffo D kd st (fs lk so D) sc f_r a_v) c_v)), (0, .ref (b 0)), (1, .int (nI f_r)), (2, .int (nI w_n)), (3, .int (nI (fpl D kd st sp (fs lk so D) sc f_r (a_v + 1)))), (5, .int (nI (wpl D kd st (fs lk so D) sc f_r (a_v + 1)))), (6, .int (nI (hpl nd sc f_r (a_v + 1)))), (7, .int (nI (dpl D kd st (fs lk so D) sc f_r (w_n - 10) (a_v + 1)))), (8, .int (nI a_v)), (9, .int (nI (tn (sc (f_r + a_v))))), (10, .int (nI (fnd D (Lf kd st a_v) (tn (sc (f_r + a_v))) (fs lk so D))))]) X dX5_planBy_177 11 rfl rfl (by decide) rfl ?_
                      refine z_goto (tgt := 141) X dX5_planBy_180 (by decide) ?_
                      refine z_ls (L' := [(0, .ref (b 0)), (1, .int (nI f_r)), (2, .int (nI w_n)), (3, .int (nI (fpl D kd st sp (fs lk so D) sc f_r (a_v + 1)))), (4, .int (mfd D (fnd D (Lf kd st a_v) (tn (sc (f_r + a_v))) (fs lk so D)) (ffo D kd st (fs lk so D) sc f_r a_v) c_v)), (5, .int (nI (wpl D kd st (fs lk so D) sc f_r (a_v + 1)))), (6, .int (nI (hpl nd sc f_r (a_v + 1)))), (7, .int (nI (dpl D kd st (fs lk so D) sc f_r (w_n - 10) (a_v + 1)))), (8, .int (nI a_v)), (9, .int (nI (tn (sc (f_r + a_v))))), (10, .int (nI (fnd D (Lf kd st a_v) (tn (sc (f_r + a_v))) (fs lk so D)))), (11, .int ((nI (D - c_v - 1)) + Int32.ofInt (-1)))]) [2, 3, 4, 5, 1, 6, 7, 8, 9, 10, 11, 0] rfl ?_
                      have e18 : (mfd D (fnd D (Lf kd st a_v) (tn (sc (f_r + a_v))) (fs lk so D)) (ffo D kd st (fs lk so D) sc f_r a_v) c_v) = (mfd D (fnd D (Lf kd st a_v) (tn (sc (f_r + a_v))) (fs lk so D)) (ffo D kd st (fs lk so D) sc f_r a_v) (c_v + 1)) := by first | exact mfd_n (by assumption) | exact mfd_b (by assumption) (by assumption) (by assumption)
                      have e19 : ((nI (D - c_v - 1)) + Int32.ofInt (-1)) = (nI (D - (c_v + 1)) - nI 1) := by rw [show D - (c_v + 1) = D - c_v - 1 by omega]; exact nI_decI _
                      refine z_Le (L' := [(0, .ref (b 0)), (1, .int (nI f_r)), (2, .int (nI w_n)), (3, .int (nI (fpl D kd st sp (fs lk so D) sc f_r (a_v + 1)))), (4, .int (mfd D (fnd D (Lf kd st a_v) (tn (sc (f_r + a_v))) (fs lk so D)) (ffo D kd st (fs lk so D) sc f_r a_v) (c_v + 1))), (5, .int (nI (wpl D kd st (fs lk so D) sc f_r (a_v + 1)))), (6, .int (nI (hpl nd sc f_r (a_v + 1)))), (7, .int (nI (dpl D kd st (fs lk so D) sc f_r (w_n - 10) (a_v + 1)))), (8, .int (nI a_v)), (9, .int (nI (tn (sc (f_r + a_v))))), (10, .int (nI (fnd D (Lf kd st a_v) (tn (sc (f_r + a_v))) (fs lk so D)))), (11, .int (nI (D - (c_v + 1)) - nI 1))]) (by rw [← e18, ← e19]) ?_
                      exact ih8 (c_v + 1) (by omega) (by omega)
                    ·
                      refine z_iload X dX5_planBy_168 11 rfl ?_
                      refine z_goto (tgt := 175) X dX5_planBy_170 (by decide) ?_
                      refine z_istore (L' := [(4, .int (nI (D - c_v - 1))), (0, .ref (b 0)), (1, .int (nI f_r)), (2, .int (nI w_n)), (3, .int (nI (fpl D kd st sp (fs lk so D) sc f_r (a_v + 1)))), (5, .int (nI (wpl D kd st (fs lk so D) sc f_r (a_v + 1)))), (6, .int (nI (hpl nd sc f_r (a_v + 1)))), (7, .int (nI (dpl D kd st (fs lk so D) sc f_r (w_n - 10) (a_v + 1)))), (8, .int (nI a_v)), (9, .int (nI (tn (sc (f_r + a_v))))), (10, .int (nI (fnd D (Lf kd st a_v) (tn (sc (f_r + a_v))) (fs lk so D)))), (11, .int (nI (D - c_v - 1)))]) X dX5_planBy_175 (by decide) rfl ?_
                      refine z_iinc (v := (nI (D - c_v - 1)) + Int32.ofInt (-1)) (L' := [(11, .int ((nI (D - c_v - 1)) + Int32.ofInt (-1))), (4, .int (nI (D - c_v - 1))), (0, .ref (b 0)), (1, .int (nI f_r)), (2, .int (nI w_n)), (3, .int (nI (fpl D kd st sp (fs lk so D) sc f_r (a_v + 1)))), (5, .int (nI (wpl D kd st (fs lk so D) sc f_r (a_v + 1)))), (6, .int (nI (hpl nd sc f_r (a_v + 1)))), (7, .int (nI (dpl D kd st (fs lk so D) sc f_r (w_n - 10) (a_v + 1)))), (8, .int (nI a_v)), (9, .int (nI (tn (sc (f_r + a_v))))), (10, .int (nI (fnd D (Lf kd st a_v) (tn (sc (f_r + a_v))) (fs lk so D))))]) X dX5_planBy_177 11 rfl rfl (by decide) rfl ?_
                      refine z_goto (tgt := 141) X dX5_planBy_180 (by decide) ?_
                      refine z_ls (L' := [(0, .ref (b 0)), (1, .int (nI f_r)), (2, .int (nI w_n)), (3, .int (nI (fpl D kd st sp (fs lk so D) sc f_r (a_v + 1)))), (4, .int (nI (D - c_v - 1))), (5, .int (nI (wpl D kd st (fs lk so D) sc f_r (a_v + 1)))), (6, .int (nI (hpl nd sc f_r (a_v + 1)))), (7, .int (nI (dpl D kd st (fs lk so D) sc f_r (w_n - 10) (a_v + 1)))), (8, .int (nI a_v)), (9, .int (nI (tn (sc (f_r + a_v))))), (10, .int (nI (fnd D (Lf kd st a_v) (tn (sc (f_r + a_v))) (fs lk so D)))), (11, .int ((nI (D - c_v - 1)) + Int32.ofInt (-1)))]) [2, 3, 4, 5, 1, 6, 7, 8, 9, 10, 11, 0] rfl ?_
                      have e20 : (nI (D - c_v - 1)) = (mfd D (fnd D (Lf kd st a_v) (tn (sc (f_r + a_v))) (fs lk so D)) (ffo D kd st (fs lk so D) sc f_r a_v) (c_v + 1)) := by first | exact mfd_a (by assumption) (by assumption) | exact mfd_c (by assumption) (by assumption) (by assumption)
                      have e21 : ((nI (D - c_v - 1)) + Int32.ofInt (-1)) = (nI (D - (c_v + 1)) - nI 1) := by rw [show D - (c_v + 1) = D - c_v - 1 by omega]; exact nI_decI _
                      refine z_Le (L' := [(0, .ref (b 0)), (1, .int (nI f_r)), (2, .int (nI w_n)), (3, .int (nI (fpl D kd st sp (fs lk so D) sc f_r (a_v + 1)))), (4, .int (mfd D (fnd D (Lf kd st a_v) (tn (sc (f_r + a_v))) (fs lk so D)) (ffo D kd st (fs lk so D) sc f_r a_v) (c_v + 1))), (5, .int (nI (wpl D kd st (fs lk so D) sc f_r (a_v + 1)))), (6, .int (nI (hpl nd sc f_r (a_v + 1)))), (7, .int (nI (dpl D kd st (fs lk so D) sc f_r (w_n - 10) (a_v + 1)))), (8, .int (nI a_v)), (9, .int (nI (tn (sc (f_r + a_v))))), (10, .int (nI (fnd D (Lf kd st a_v) (tn (sc (f_r + a_v))) (fs lk so D)))), (11, .int (nI (D - (c_v + 1)) - nI 1))]) (by rw [← e20, ← e21]) ?_
                      exact ih8 (c_v + 1) (by omega) (by omega)
          refine z_ls (L' := [(0, .ref (b 0)), (1, .int (nI f_r)), (2, .int (nI w_n)), (3, .int (nI (fpl D kd st sp (fs lk so D) sc f_r (a_v + 1)))), (4, .int (ffo D kd st (fs lk so D) sc f_r a_v)), (5, .int (nI (wpl D kd st (fs lk so D) sc f_r (a_v + 1)))), (6, .int (nI (hpl nd sc f_r (a_v + 1)))), (7, .int (nI (dpl D kd st (fs lk so D) sc f_r (w_n - 10) (a_v + 1)))), (8, .int (nI a_v)), (9, .int (nI (tn (sc (f_r + a_v))))), (10, .int (nI (fnd D (Lf kd st a_v) (tn (sc (f_r + a_v))) (fs lk so D)))), (11, .int ((nI D) - (nI 1)))]) [1, 2, 3, 4, 5, 6, 7, 8, 9, 10, 11, 0] rfl ?_
          have e22 : (ffo D kd st (fs lk so D) sc f_r a_v) = (mfd D (fnd D (Lf kd st a_v) (tn (sc (f_r + a_v))) (fs lk so D)) (ffo D kd st (fs lk so D) sc f_r a_v) 0) := by rfl
          have e23 : ((nI D) - (nI 1)) = (nI (D - 0) - nI 1) := by rfl
          refine z_Le (L' := [(0, .ref (b 0)), (1, .int (nI f_r)), (2, .int (nI w_n)), (3, .int (nI (fpl D kd st sp (fs lk so D) sc f_r (a_v + 1)))), (4, .int (mfd D (fnd D (Lf kd st a_v) (tn (sc (f_r + a_v))) (fs lk so D)) (ffo D kd st (fs lk so D) sc f_r a_v) 0)), (5, .int (nI (wpl D kd st (fs lk so D) sc f_r (a_v + 1)))), (6, .int (nI (hpl nd sc f_r (a_v + 1)))), (7, .int (nI (dpl D kd st (fs lk so D) sc f_r (w_n - 10) (a_v + 1)))), (8, .int (nI a_v)), (9, .int (nI (tn (sc (f_r + a_v))))), (10, .int (nI (fnd D (Lf kd st a_v) (tn (sc (f_r + a_v))) (fs lk so D)))), (11, .int (nI (D - 0) - nI 1))]) (by rw [← e22, ← e23]) ?_
          exact loopv8 (D + 1) 0 (by omega) (by omega)
        refine z_iload X dX5_planBy_59 7 rfl ?_
        refine z_iload X dX5_planBy_61 1 rfl ?_
        refine z_if_leN (tgt := 73) X dX5_planBy_63 (by decide) (by omega) (fun hq24 => ?_) (fun hq24 => ?_)
        ·
          refine z_iconst (v := nI 0) X dX5_planBy_73 (by decide) ?_
          refine z_ior' (v := nI ((wpl D kd st (fs lk so D) sc f_r a_v) ||| 0)) X dX5_planBy_74 (fa_or _ _) ?_
          refine z_istore (L' := [(5, .int (nI ((wpl D kd st (fs lk so D) sc f_r a_v) ||| 0))), (3, .int (nI ((fpl D kd st sp (fs lk so D) sc f_r a_v) + (pc (fnd D (Lf kd st a_v) (tn (sc (f_r + a_v))) (fs lk so D)) * tn (sp a_v))))), (10, .int (nI (fnd D (Lf kd st a_v) (tn (sc (f_r + a_v))) (fs lk so D)))), (9, .int (nI (tn (sc (f_r + a_v))))), (0, .ref (b 0)), (1, .int (nI f_r)), (2, .int (nI w_n)), (4, .int (ffo D kd st (fs lk so D) sc f_r a_v)), (6, .int (nI (hpl nd sc f_r a_v))), (7, .int (nI (dpl D kd st (fs lk so D) sc f_r (w_n - 10) a_v))), (8, .int (nI a_v))]) X dX5_planBy_75 (by decide) rfl ?_
          refine z_iload X dX5_planBy_77 8 rfl ?_
          refine z_iload X dX5_planBy_79 3 rfl ?_
          refine z_callS0 X (c_X5_bits l g (tn (sc (f_r + a_v))) (by omega)) gX5_planBy_X5_bits rfl ⟨rfl, rfl⟩ (by decide +kernel) ⟨Nat.le_of_ble_eq_true rfl, Nat.le_of_ble_eq_true rfl⟩ ZF.room (As := [.int (nI (tn (sc (f_r + a_v))))]) (n := 1) rfl rfl (st1 := [.int (nI (pc (tn (sc (f_r + a_v))))), .int (nI (hpl nd sc f_r a_v))]) rfl (Nat.le_of_ble_eq_true rfl) dX5_planBy_81 ?_
          refine z_aload_n X dX5_planBy_84 rfl 4 rfl ?_
          refine z_get (v := .ref (b 5)) (N := 29) X i_RX5 (ci := 4) rfl 0 rfl 8 (by decide) f_22 rfl dX5_planBy_85 ?_
          refine z_iload X dX5_planBy_88 10 rfl ?_
          refine z_ialdN X 5 rfl (by omega) (by omega) dX5_planBy_90 ?_
          refine z_icmp_ge (tgt := 101) X dX5_planBy_91 (by decide) (fun hq25 => ?_) (fun hq25 => ?_)
          ·
            refine z_iconst (v := nI 0) X dX5_planBy_101 (by decide) ?_
            refine z_ior' (v := nI ((hpl nd sc f_r a_v) ||| 0)) X dX5_planBy_102 (fa_or _ _) ?_
            refine z_istore (L' := [(6, .int (nI ((hpl nd sc f_r a_v) ||| 0))), (5, .int (nI ((wpl D kd st (fs lk so D) sc f_r a_v) ||| 0))), (3, .int (nI ((fpl D kd st sp (fs lk so D) sc f_r a_v) + (pc (fnd D (Lf kd st a_v) (tn (sc (f_r + a_v))) (fs lk so D)) * tn (sp a_v))))), (10, .int (nI (fnd D (Lf kd st a_v) (tn (sc (f_r + a_v))) (fs lk so D)))), (9, .int (nI (tn (sc (f_r + a_v))))), (0, .ref (b 0)), (1, .int (nI f_r)), (2, .int (nI w_n)), (4, .int (ffo D kd st (fs lk so D) sc f_r a_v)), (7, .int (nI (dpl D kd st (fs lk so D) sc f_r (w_n - 10) a_v))), (8, .int (nI a_v))]) X dX5_planBy_103 (by decide) rfl ?_
            refine z_iload X dX5_planBy_105 9 rfl ?_
            refine z_iload_n X dX5_planBy_107 rfl 7 rfl ?_
            refine z_bipush (v := nI 10) X dX5_planBy_108 (by decide) ?_
            refine z_icmp_ltN (tgt := 129) X dX5_planBy_110 (by decide) (by omega) (by omega) (fun hq26 => ?_) (fun hq26 => ?_)
            ·
              exact absurd hq26 (by omega)
            ·
              refine z_iload X dX5_planBy_113 3 rfl ?_
              refine z_iload_n X dX5_planBy_115 rfl 7 rfl ?_
              refine z_bipush (v := nI 10) X dX5_planBy_116 (by decide) ?_
              refine z_isub' (v := nI (w_n - 10)) X dX5_planBy_118 (pk_sub (by omega)) ?_
              refine z_callS0 X (c_X5_isIn l g (fnd D (Lf kd st a_v) (tn (sc (f_r + a_v))) (fs lk so D)) (w_n - 10) (by omega) (by omega)) gX5_planBy_X5_isIn rfl ⟨rfl, rfl⟩ (by decide +kernel) ⟨Nat.le_of_ble_eq_true rfl, Nat.le_of_ble_eq_true rfl⟩ ZF.room (As := [.int (nI (fnd D (Lf kd st a_v) (tn (sc (f_r + a_v))) (fs lk so D))), .int (nI (w_n - 10))]) (n := 2) rfl rfl (st1 := [.int (bI (zbt (fnd D (Lf kd st a_v) (tn (sc (f_r + a_v))) (fs lk so D)) (w_n - 10))), .int (nI (dpl D kd st (fs lk so D) sc f_r (w_n - 10) a_v))]) rfl (Nat.le_of_ble_eq_true rfl) dX5_planBy_119 ?_
              refine z_if_eqB (tgt := 129) X dX5_planBy_122 (by decide) (fun hq27 => ?_) (fun hq27 => ?_)
              ·
                refine z_iconst (v := nI 0) X dX5_planBy_129 (by decide) ?_
                refine z_iadd' (v := nI (dpl D kd st (fs lk so D) sc f_r (w_n - 10) a_v)) X dX5_planBy_130 (nI_add _ _) ?_
                refine z_istore (L' := [(7, .int (nI (dpl D kd st (fs lk so D) sc f_r (w_n - 10) a_v))), (6, .int (nI ((hpl nd sc f_r a_v) ||| 0))), (5, .int (nI ((wpl D kd st (fs lk so D) sc f_r a_v) ||| 0))), (3, .int (nI ((fpl D kd st sp (fs lk so D) sc f_r a_v) + (pc (fnd D (Lf kd st a_v) (tn (sc (f_r + a_v))) (fs lk so D)) * tn (sp a_v))))), (10, .int (nI (fnd D (Lf kd st a_v) (tn (sc (f_r + a_v))) (fs lk so D)))), (9, .int (nI (tn (sc (f_r + a_v))))), (0, .ref (b 0)), (1, .int (nI f_r)), (2, .int (nI w_n)), (4, .int (ffo D kd st (fs lk so D) sc f_r a_v)), (8, .int (nI a_v))]) X dX5_planBy_131 (by decide) rfl ?_
                refine z_ls (L' := [(0, .ref (b 0)), (1, .int (nI f_r)), (2, .int (nI w_n)), (3, .int (nI ((fpl D kd st sp (fs lk so D) sc f_r a_v) + (pc (fnd D (Lf kd st a_v) (tn (sc (f_r + a_v))) (fs lk so D)) * tn (sp a_v))))), (4, .int (ffo D kd st (fs lk so D) sc f_r a_v)), (5, .int (nI ((wpl D kd st (fs lk so D) sc f_r a_v) ||| 0))), (6, .int (nI ((hpl nd sc f_r a_v) ||| 0))), (7, .int (nI (dpl D kd st (fs lk so D) sc f_r (w_n - 10) a_v))), (8, .int (nI a_v)), (9, .int (nI (tn (sc (f_r + a_v))))), (10, .int (nI (fnd D (Lf kd st a_v) (tn (sc (f_r + a_v))) (fs lk so D))))]) [6, 7, 8, 3, 9, 2, 1, 0, 10, 5, 4] rfl ?_
                have e28 : (nI ((fpl D kd st sp (fs lk so D) sc f_r a_v) + (pc (fnd D (Lf kd st a_v) (tn (sc (f_r + a_v))) (fs lk so D)) * tn (sp a_v)))) = (nI (fpl D kd st sp (fs lk so D) sc f_r (a_v + 1))) := by first | rfl | exact congrArg nI (wpl_t (by omega)) | exact congrArg nI (wpl_f (by omega)) | exact congrArg nI (hpl_t (by assumption)) | exact congrArg nI (hpl_f (by assumption)) | exact congrArg nI (dpl_t (by assumption)) | exact congrArg nI (dpl_f (by assumption))
                have e29 : (nI ((wpl D kd st (fs lk so D) sc f_r a_v) ||| 0)) = (nI (wpl D kd st (fs lk so D) sc f_r (a_v + 1))) := by first | rfl | exact congrArg nI (wpl_t (by omega)) | exact congrArg nI (wpl_f (by omega)) | exact congrArg nI (hpl_t (by assumption)) | exact congrArg nI (hpl_f (by assumption)) | exact congrArg nI (dpl_t (by assumption)) | exact congrArg nI (dpl_f (by assumption))
                have e30 : (nI ((hpl nd sc f_r a_v) ||| 0)) = (nI (hpl nd sc f_r (a_v + 1))) := by first | rfl | exact congrArg nI (wpl_t (by omega)) | exact congrArg nI (wpl_f (by omega)) | exact congrArg nI (hpl_t (by assumption)) | exact congrArg nI (hpl_f (by assumption)) | exact congrArg nI (dpl_t (by assumption)) | exact congrArg nI (dpl_f (by assumption))
                have e31 : (nI (dpl D kd st (fs lk so D) sc f_r (w_n - 10) a_v)) = (nI (dpl D kd st (fs lk so D) sc f_r (w_n - 10) (a_v + 1))) := by first | rfl | exact congrArg nI (wpl_t (by omega)) | exact congrArg nI (wpl_f (by omega)) | exact congrArg nI (hpl_t (by assumption)) | exact congrArg nI (hpl_f (by assumption)) | exact congrArg nI (dpl_t (by assumption)) | exact congrArg nI (dpl_f (by assumption))
                refine z_Le (L' := [(0, .ref (b 0)), (1, .int (nI f_r)), (2, .int (nI w_n)), (3, .int (nI (fpl D kd st sp (fs lk so D) sc f_r (a_v + 1)))), (4, .int (ffo D kd st (fs lk so D) sc f_r a_v)), (5, .int (nI (wpl D kd st (fs lk so D) sc f_r (a_v + 1)))), (6, .int (nI (hpl nd sc f_r (a_v + 1)))), (7, .int (nI (dpl D kd st (fs lk so D) sc f_r (w_n - 10) (a_v + 1)))), (8, .int (nI a_v)), (9, .int (nI (tn (sc (f_r + a_v))))), (10, .int (nI (fnd D (Lf kd st a_v) (tn (sc (f_r + a_v))) (fs lk so D))))]) (by rw [← e28, ← e29, ← e30, ← e31]) ?_
                exact jn7
              ·
                refine z_iconst (v := nI 1) X dX5_planBy_125 (by decide) ?_
                refine z_goto (tgt := 130) X dX5_planBy_126 (by decide) ?_
                refine z_iadd' (v := nI ((dpl D kd st (fs lk so D) sc f_r (w_n - 10) a_v) + 1)) X dX5_planBy_130 (nI_add _ _) ?_
                refine z_istore (L' := [(7, .int (nI ((dpl D kd st (fs lk so D) sc f_r (w_n - 10) a_v) + 1))), (6, .int (nI ((hpl nd sc f_r a_v) ||| 0))), (5, .int (nI ((wpl D kd st (fs lk so D) sc f_r a_v) ||| 0))), (3, .int (nI ((fpl D kd st sp (fs lk so D) sc f_r a_v) + (pc (fnd D (Lf kd st a_v) (tn (sc (f_r + a_v))) (fs lk so D)) * tn (sp a_v))))), (10, .int (nI (fnd D (Lf kd st a_v) (tn (sc (f_r + a_v))) (fs lk so D)))), (9, .int (nI (tn (sc (f_r + a_v))))), (0, .ref (b 0)), (1, .int (nI f_r)), (2, .int (nI w_n)), (4, .int (ffo D kd st (fs lk so D) sc f_r a_v)), (8, .int (nI a_v))]) X dX5_planBy_131 (by decide) rfl ?_
                refine z_ls (L' := [(0, .ref (b 0)), (1, .int (nI f_r)), (2, .int (nI w_n)), (3, .int (nI ((fpl D kd st sp (fs lk so D) sc f_r a_v) + (pc (fnd D (Lf kd st a_v) (tn (sc (f_r + a_v))) (fs lk so D)) * tn (sp a_v))))), (4, .int (ffo D kd st (fs lk so D) sc f_r a_v)), (5, .int (nI ((wpl D kd st (fs lk so D) sc f_r a_v) ||| 0))), (6, .int (nI ((hpl nd sc f_r a_v) ||| 0))), (7, .int (nI ((dpl D kd st (fs lk so D) sc f_r (w_n - 10) a_v) + 1))), (8, .int (nI a_v)), (9, .int (nI (tn (sc (f_r + a_v))))), (10, .int (nI (fnd D (Lf kd st a_v) (tn (sc (f_r + a_v))) (fs lk so D))))]) [6, 7, 8, 3, 9, 2, 1, 0, 10, 5, 4] rfl ?_
                have e32 : (nI ((fpl D kd st sp (fs lk so D) sc f_r a_v) + (pc (fnd D (Lf kd st a_v) (tn (sc (f_r + a_v))) (fs lk so D)) * tn (sp a_v)))) = (nI (fpl D kd st sp (fs lk so D) sc f_r (a_v + 1))) := by first | rfl | exact congrArg nI (wpl_t (by omega)) | exact congrArg nI (wpl_f (by omega)) | exact congrArg nI (hpl_t (by assumption)) | exact congrArg nI (hpl_f (by assumption)) | exact congrArg nI (dpl_t (by assumption)) | exact congrArg nI (dpl_f (by assumption))
                have e33 : (nI ((wpl D kd st (fs lk so D) sc f_r a_v) ||| 0)) = (nI (wpl D kd st (fs lk so D) sc f_r (a_v + 1))) := by first | rfl | exact congrArg nI (wpl_t (by omega)) | exact congrArg nI (wpl_f (by omega)) | exact congrArg nI (hpl_t (by assumption)) | exact congrArg nI (hpl_f (by assumption)) | exact congrArg nI (dpl_t (by assumption)) | exact congrArg nI (dpl_f (by assumption))
                have e34 : (nI ((hpl nd sc f_r a_v) ||| 0)) = (nI (hpl nd sc f_r (a_v + 1))) := by first | rfl | exact congrArg nI (wpl_t (by omega)) | exact congrArg nI (wpl_f (by omega)) | exact congrArg nI (hpl_t (by assumption)) | exact congrArg nI (hpl_f (by assumption)) | exact congrArg nI (dpl_t (by assumption)) | exact congrArg nI (dpl_f (by assumption))
                have e35 : (nI ((dpl D kd st (fs lk so D) sc f_r (w_n - 10) a_v) + 1)) = (nI (dpl D kd st (fs lk so D) sc f_r (w_n - 10) (a_v + 1))) := by first | rfl | exact congrArg nI (wpl_t (by omega)) | exact congrArg nI (wpl_f (by omega)) | exact congrArg nI (hpl_t (by assumption)) | exact congrArg nI (hpl_f (by assumption)) | exact congrArg nI (dpl_t (by assumption)) | exact congrArg nI (dpl_f (by assumption))
                refine z_Le (L' := [(0, .ref (b 0)), (1, .int (nI f_r)), (2, .int (nI w_n)), (3, .int (nI (fpl D kd st sp (fs lk so D) sc f_r (a_v + 1)))), (4, .int (ffo D kd st (fs lk so D) sc f_r a_v)), (5, .int (nI (wpl D kd st (fs lk so D) sc f_r (a_v + 1)))), (6, .int (nI (hpl nd sc f_r (a_v + 1)))), (7, .int (nI (dpl D kd st (fs lk so D) sc f_r (w_n - 10) (a_v + 1)))), (8, .int (nI a_v)), (9, .int (nI (tn (sc (f_r + a_v))))), (10, .int (nI (fnd D (Lf kd st a_v) (tn (sc (f_r + a_v))) (fs lk so D))))]) (by rw [← e32, ← e33, ← e34, ← e35]) ?_
                exact jn7
          ·
            refine z_iconst (v := nI 1) X dX5_planBy_94 (by decide) ?_
            refine z_iload X dX5_planBy_95 10 rfl ?_
            refine z_ishl' (v := nI (2 ^ a_v)) X dX5_planBy_97 (nI_shl1 (by omega)) ?_
            refine z_goto (tgt := 102) X dX5_planBy_98 (by decide) ?_
            refine z_ior' (v := nI ((hpl nd sc f_r a_v) ||| (2 ^ a_v))) X dX5_planBy_102 (fa_or _ _) ?_
            refine z_istore (L' := [(6, .int (nI ((hpl nd sc f_r a_v) ||| (2 ^ a_v)))), (5, .int (nI ((wpl D kd st (fs lk so D) sc f_r a_v) ||| 0))), (3, .int (nI ((fpl D kd st sp (fs lk so D) sc f_r a_v) + (pc (fnd D (Lf kd st a_v) (tn (sc (f_r + a_v))) (fs lk so D)) * tn (sp a_v))))), (10, .int (nI (fnd D (Lf kd st a_v) (tn (sc (f_r + a_v))) (fs lk so D)))), (9, .int (nI (tn (sc (f_r + a_v))))), (0, .ref (b 0)), (1, .int (nI f_r)), (2, .int (nI w_n)), (4, .int (ffo D kd st (fs lk so D) sc f_r a_v)), (7, .int (nI (dpl D kd st (fs lk so D) sc f_r (w_n - 10) a_v))), (8, .int (nI a_v))]) X dX5_planBy_103 (by decide) rfl ?_
            refine z_iload X dX5_planBy_105 9 rfl ?_
            refine z_iload_n X dX5_planBy_107 rfl 7 rfl ?_
            refine z_bipush (v := nI 10) X dX5_planBy_108 (by decide) ?_
            refine z_icmp_ltN (tgt := 129) X dX5_planBy_110 (by decide) (by omega) (by omega) (fun hq36 => ?_) (fun hq36 => ?_)
            ·
              exact absurd hq36 (by omega)
            ·
              refine z_iload X dX5_planBy_113 3 rfl ?_
              refine z_iload_n X dX5_planBy_115 rfl 7 rfl ?_
              refine z_bipush (v := nI 10) X dX5_planBy_116 (by decide) ?_
              refine z_isub' (v := nI (w_n - 10)) X dX5_planBy_118 (pk_sub (by omega)) ?_
              refine z_callS0 X (c_X5_isIn l g (fnd D (Lf kd st a_v) (tn (sc (f_r + a_v))) (fs lk so D)) (w_n - 10) (by omega) (by omega)) gX5_planBy_X5_isIn rfl ⟨rfl, rfl⟩ (by decide +kernel) ⟨Nat.le_of_ble_eq_true rfl, Nat.le_of_ble_eq_true rfl⟩ ZF.room (As := [.int (nI (fnd D (Lf kd st a_v) (tn (sc (f_r + a_v))) (fs lk so D))), .int (nI (w_n - 10))]) (n := 2) rfl rfl (st1 := [.int (bI (zbt (fnd D (Lf kd st a_v) (tn (sc (f_r + a_v))) (fs lk so D)) (w_n - 10))), .int (nI (dpl D kd st (fs lk so D) sc f_r (w_n - 10) a_v))]) rfl (Nat.le_of_ble_eq_true rfl) dX5_planBy_119 ?_
              refine z_if_eqB (tgt := 129) X dX5_planBy_122 (by decide) (fun hq37 => ?_) (fun hq37 => ?_)
              ·
                refine z_iconst (v := nI 0) X dX5_planBy_129 (by decide) ?_
                refine z_iadd' (v := nI (dpl D kd st (fs lk so D) sc f_r (w_n - 10) a_v)) X dX5_planBy_130 (nI_add _ _) ?_
                refine z_istore (L' := [(7, .int (nI (dpl D kd st (fs lk so D) sc f_r (w_n - 10) a_v))), (6, .int (nI ((hpl nd sc f_r a_v) ||| (2 ^ a_v)))), (5, .int (nI ((wpl D kd st (fs lk so D) sc f_r a_v) ||| 0))), (3, .int (nI ((fpl D kd st sp (fs lk so D) sc f_r a_v) + (pc (fnd D (Lf kd st a_v) (tn (sc (f_r + a_v))) (fs lk so D)) * tn (sp a_v))))), (10, .int (nI (fnd D (Lf kd st a_v) (tn (sc (f_r + a_v))) (fs lk so D)))), (9, .int (nI (tn (sc (f_r + a_v))))), (0, .ref (b 0)), (1, .int (nI f_r)), (2, .int (nI w_n)), (4, .int (ffo D kd st (fs lk so D) sc f_r a_v)), (8, .int (nI a_v))]) X dX5_planBy_131 (by decide) rfl ?_
                refine z_ls (L' := [(0, .ref (b 0)), (1, .int (nI f_r)), (2, .int (nI w_n)), (3, .int (nI ((fpl D kd st sp (fs lk so D) sc f_r a_v) + (pc (fnd D (Lf kd st a_v) (tn (sc (f_r + a_v))) (fs lk so D)) * tn (sp a_v))))), (4, .int (ffo D kd st (fs lk so D) sc f_r a_v)), (5, .int (nI ((wpl D kd st (fs lk so D) sc f_r a_v) ||| 0))), (6, .int (nI ((hpl nd sc f_r a_v) ||| (2 ^ a_v)))), (7, .int (nI (dpl D kd st (fs lk so D) sc f_r (w_n - 10) a_v))), (8, .int (nI a_v)), (9, .int (nI (tn (sc (f_r + a_v))))), (10, .int (nI (fnd D (Lf kd st a_v) (tn (sc (f_r + a_v))) (fs lk so D))))]) [6, 7, 8, 3, 9, 2, 1, 0, 10, 5, 4] rfl ?_
                have e38 : (nI ((fpl D kd st sp (fs lk so D) sc f_r a_v) + (pc (fnd D (Lf kd st a_v) (tn (sc (f_r + a_v))) (fs lk so D)) * tn (sp a_v)))) = (nI (fpl D kd st sp (fs lk so D) sc f_r (a_v + 1))) := by first | rfl | exact congrArg nI (wpl_t (by omega)) | exact congrArg nI (wpl_f (by omega)) | exact congrArg nI (hpl_t (by assumption)) | exact congrArg nI (hpl_f (by assumption)) | exact congrArg nI (dpl_t (by assumption)) | exact congrArg nI (dpl_f (by assumption))
                have e39 : (nI ((wpl D kd st (fs lk so D) sc f_r a_v) ||| 0)) = (nI (wpl D kd st (fs lk so D) sc f_r (a_v + 1))) := by first | rfl | exact congrArg nI (wpl_t (by omega)) | exact congrArg nI (wpl_f (by omega)) | exact congrArg nI (hpl_t (by assumption)) | exact congrArg nI (hpl_f (by assumption)) | exact congrArg nI (dpl_t (by assumption)) | exact congrArg nI (dpl_f (by assumption))
                have e40 : (nI ((hpl nd sc f_r a_v) ||| (2 ^ a_v))) = (nI (hpl nd sc f_r (a_v + 1))) := by first | rfl | exact congrArg nI (wpl_t (by omega)) | exact congrArg nI (wpl_f (by omega)) | exact congrArg nI (hpl_t (by assumption)) | exact congrArg nI (hpl_f (by assumption)) | exact congrArg nI (dpl_t (by assumption)) | exact congrArg nI (dpl_f (by assumption))
                have e41 : (nI (dpl D kd st (fs lk so D) sc f_r (w_n - 10) a_v)) = (nI (dpl D kd st (fs lk so D) sc f_r (w_n - 10) (a_v + 1))) := by first | rfl | exact congrArg nI (wpl_t (by omega)) | exact congrArg nI (wpl_f (by omega)) | exact congrArg nI (hpl_t (by assumption)) | exact congrArg nI (hpl_f (by assumption)) | exact congrArg nI (dpl_t (by assumption)) | exact congrArg nI (dpl_f (by assumption))
                refine z_Le (L' := [(0, .ref (b 0)), (1, .int (nI f_r)), (2, .int (nI w_n)), (3, .int (nI (fpl D kd st sp (fs lk so D) sc f_r (a_v + 1)))), (4, .int (ffo D kd st (fs lk so D) sc f_r a_v)), (5, .int (nI (wpl D kd st (fs lk so D) sc f_r (a_v + 1)))), (6, .int (nI (hpl nd sc f_r (a_v + 1)))), (7, .int (nI (dpl D kd st (fs lk so D) sc f_r (w_n - 10) (a_v + 1)))), (8, .int (nI a_v)), (9, .int (nI (tn (sc (f_r + a_v))))), (10, .int (nI (fnd D (Lf kd st a_v) (tn (sc (f_r + a_v))) (fs lk so D))))]) (by rw [← e38, ← e39, ← e40, ← e41]) ?_
                exact jn7
              ·
                refine z_iconst (v := nI 1) X dX5_planBy_125 (by decide) ?_
                refine z_goto (tgt := 130) X dX5_planBy_126 (by decide) ?_
                refine z_iadd' (v := nI ((dpl D kd st (fs lk so D) sc f_r (w_n - 10) a_v) + 1)) X dX5_planBy_130 (nI_add _ _) ?_
                refine z_istore (L' := [(7, .int (nI ((dpl D kd st (fs lk so D) sc f_r (w_n - 10) a_v) + 1))), (6, .int (nI ((hpl nd sc f_r a_v) ||| (2 ^ a_v)))), (5, .int (nI ((wpl D kd st (fs lk so D) sc f_r a_v) ||| 0))), (3, .int (nI ((fpl D kd st sp (fs lk so D) sc f_r a_v) + (pc (fnd D (Lf kd st a_v) (tn (sc (f_r + a_v))) (fs lk so D)) * tn (sp a_v))))), (10, .int (nI (fnd D (Lf kd st a_v) (tn (sc (f_r + a_v))) (fs lk so D)))), (9, .int (nI (tn (sc (f_r + a_v))))), (0, .ref (b 0)), (1, .int (nI f_r)), (2, .int (nI w_n)), (4, .int (ffo D kd st (fs lk so D) sc f_r a_v)), (8, .int (nI a_v))]) X dX5_planBy_131 (by decide) rfl ?_
                refine z_ls (L' := [(0, .ref (b 0)), (1, .int (nI f_r)), (2, .int (nI w_n)), (3, .int (nI ((fpl D kd st sp (fs lk so D) sc f_r a_v) + (pc (fnd D (Lf kd st a_v) (tn (sc (f_r + a_v))) (fs lk so D)) * tn (sp a_v))))), (4, .int (ffo D kd st (fs lk so D) sc f_r a_v)), (5, .int (nI ((wpl D kd st (fs lk so D) sc f_r a_v) ||| 0))), (6, .int (nI ((hpl nd sc f_r a_v) ||| (2 ^ a_v)))), (7, .int (nI ((dpl D kd st (fs lk so D) sc f_r (w_n - 10) a_v) + 1))), (8, .int (nI a_v)), (9, .int (nI (tn (sc (f_r + a_v))))), (10, .int (nI (fnd D (Lf kd st a_v) (tn (sc (f_r + a_v))) (fs lk so D))))]) [6, 7, 8, 3, 9, 2, 1, 0, 10, 5, 4] rfl ?_
                have e42 : (nI ((fpl D kd st sp (fs lk so D) sc f_r a_v) + (pc (fnd D (Lf kd st a_v) (tn (sc (f_r + a_v))) (fs lk so D)) * tn (sp a_v)))) = (nI (fpl D kd st sp (fs lk so D) sc f_r (a_v + 1))) := by first | rfl | exact congrArg nI (wpl_t (by omega)) | exact congrArg nI (wpl_f (by omega)) | exact congrArg nI (hpl_t (by assumption)) | exact congrArg nI (hpl_f (by assumption)) | exact congrArg nI (dpl_t (by assumption)) | exact congrArg nI (dpl_f (by assumption))
                have e43 : (nI ((wpl D kd st (fs lk so D) sc f_r a_v) ||| 0)) = (nI (wpl D kd st (fs lk so D) sc f_r (a_v + 1))) := by first | rfl | exact congrArg nI (wpl_t (by omega)) | exact congrArg nI (wpl_f (by omega)) | exact congrArg nI (hpl_t (by assumption)) | exact congrArg nI (hpl_f (by assumption)) | exact congrArg nI (dpl_t (by assumption)) | exact congrArg nI (dpl_f (by assumption))
                have e44 : (nI ((hpl nd sc f_r a_v) ||| (2 ^ a_v))) = (nI (hpl nd sc f_r (a_v + 1))) := by first | rfl | exact congrArg nI (wpl_t (by omega)) | exact congrArg nI (wpl_f (by omega)) | exact congrArg nI (hpl_t (by assumption)) | exact congrArg nI (hpl_f (by assumption)) | exact congrArg nI (dpl_t (by assumption)) | exact congrArg nI (dpl_f (by assumption))
                have e45 : (nI ((dpl D kd st (fs lk so D) sc f_r (w_n - 10) a_v) + 1)) = (nI (dpl D kd st (fs lk so D) sc f_r (w_n - 10) (a_v + 1))) := by first | rfl | exact congrArg nI (wpl_t (by omega)) | exact congrArg nI (wpl_f (by omega)) | exact congrArg nI (hpl_t (by assumption)) | exact congrArg nI (hpl_f (by assumption)) | exact congrArg nI (dpl_t (by assumption)) | exact congrArg nI (dpl_f (by assumption))
                refine z_Le (L' := [(0, .ref (b 0)), (1, .int (nI f_r)), (2, .int (nI w_n)), (3, .int (nI (fpl D kd st sp (fs lk so D) sc f_r (a_v + 1)))), (4, .int (ffo D kd st (fs lk so D) sc f_r a_v)), (5, .int (nI (wpl D kd st (fs lk so D) sc f_r (a_v + 1)))), (6, .int (nI (hpl nd sc f_r (a_v + 1)))), (7, .int (nI (dpl D kd st (fs lk so D) sc f_r (w_n - 10) (a_v + 1)))), (8, .int (nI a_v)), (9, .int (nI (tn (sc (f_r + a_v))))), (10, .int (nI (fnd D (Lf kd st a_v) (tn (sc (f_r + a_v))) (fs lk so D))))]) (by rw [← e42, ← e43, ← e44, ← e45]) ?_
                exact jn7
        ·
          refine z_iconst (v := nI 1) X dX5_planBy_66 (by decide) ?_
          refine z_iload X dX5_planBy_67 10 rfl ?_
          refine z_ishl' (v := nI (2 ^ a_v)) X dX5_planBy_69 (nI_shl1 (by omega)) ?_
          refine z_goto (tgt := 74) X dX5_planBy_70 (by decide) ?_
          refine z_ior' (v := nI ((wpl D kd st (fs lk so D) sc f_r a_v) ||| (2 ^ a_v))) X dX5_planBy_74 (fa_or _ _) ?_
          refine z_istore (L' := [(5, .int (nI ((wpl D kd st (fs lk so D) sc f_r a_v) ||| (2 ^ a_v)))), (3, .int (nI ((fpl D kd st sp (fs lk so D) sc f_r a_v) + (pc (fnd D (Lf kd st a_v) (tn (sc (f_r + a_v))) (fs lk so D)) * tn (sp a_v))))), (10, .int (nI (fnd D (Lf kd st a_v) (tn (sc (f_r + a_v))) (fs lk so D)))), (9, .int (nI (tn (sc (f_r + a_v))))), (0, .ref (b 0)), (1, .int (nI f_r)), (2, .int (nI w_n)), (4, .int (ffo D kd st (fs lk so D) sc f_r a_v)), (6, .int (nI (hpl nd sc f_r a_v))), (7, .int (nI (dpl D kd st (fs lk so D) sc f_r (w_n - 10) a_v))), (8, .int (nI a_v))]) X dX5_planBy_75 (by decide) rfl ?_
          refine z_iload X dX5_planBy_77 8 rfl ?_
          refine z_iload X dX5_planBy_79 3 rfl ?_
          refine z_callS0 X (c_X5_bits l g (tn (sc (f_r + a_v))) (by omega)) gX5_planBy_X5_bits rfl ⟨rfl, rfl⟩ (by decide +kernel) ⟨Nat.le_of_ble_eq_true rfl, Nat.le_of_ble_eq_true rfl⟩ ZF.room (As := [.int (nI (tn (sc (f_r + a_v))))]) (n := 1) rfl rfl (st1 := [.int (nI (pc (tn (sc (f_r + a_v))))), .int (nI (hpl nd sc f_r a_v))]) rfl (Nat.le_of_ble_eq_true rfl) dX5_planBy_81 ?_
          refine z_aload_n X dX5_planBy_84 rfl 4 rfl ?_
          refine z_get (v := .ref (b 5)) (N := 29) X i_RX5 (ci := 4) rfl 0 rfl 8 (by decide) f_22 rfl dX5_planBy_85 ?_
          refine z_iload X dX5_planBy_88 10 rfl ?_
          refine z_ialdN X 5 rfl (by omega) (by omega) dX5_planBy_90 ?_
          refine z_icmp_ge (tgt := 101) X dX5_planBy_91 (by decide) (fun hq46 => ?_) (fun hq46 => ?_)
          ·
            refine z_iconst (v := nI 0) X dX5_planBy_101 (by decide) ?_
            refine z_ior' (v := nI ((hpl nd sc f_r a_v) ||| 0)) X dX5_planBy_102 (fa_or _ _) ?_
            refine z_istore (L' := [(6, .int (nI ((hpl nd sc f_r a_v) ||| 0))), (5, .int (nI ((wpl D kd st (fs lk so D) sc f_r a_v) ||| (2 ^ a_v)))), (3, .int (nI ((fpl D kd st sp (fs lk so D) sc f_r a_v) + (pc (fnd D (Lf kd st a_v) (tn (sc (f_r + a_v))) (fs lk so D)) * tn (sp a_v))))), (10, .int (nI (fnd D (Lf kd st a_v) (tn (sc (f_r + a_v))) (fs lk so D)))), (9, .int (nI (tn (sc (f_r + a_v))))), (0, .ref (b 0)), (1, .int (nI f_r)), (2, .int (nI w_n)), (4, .int (ffo D kd st (fs lk so D) sc f_r a_v)), (7, .int (nI (dpl D kd st (fs lk so D) sc f_r (w_n - 10) a_v))), (8, .int (nI a_v))]) X dX5_planBy_103 (by decide) rfl ?_
            refine z_iload X dX5_planBy_105 9 rfl ?_
            refine z_iload_n X dX5_planBy_107 rfl 7 rfl ?_
            refine z_bipush (v := nI 10) X dX5_planBy_108 (by decide) ?_
            refine z_icmp_ltN (tgt := 129) X dX5_planBy_110 (by decide) (by omega) (by omega) (fun hq47 => ?_) (fun hq47 => ?_)
            ·
              exact absurd hq47 (by omega)
            ·
              refine z_iload X dX5_planBy_113 3 rfl ?_
              refine z_iload_n X dX5_planBy_115 rfl 7 rfl ?_
              refine z_bipush (v := nI 10) X dX5_planBy_116 (by decide) ?_
              refine z_isub' (v := nI (w_n - 10)) X dX5_planBy_118 (pk_sub (by omega)) ?_
              refine z_callS0 X (c_X5_isIn l g (fnd D (Lf kd st a_v) (tn (sc (f_r + a_v))) (fs lk so D)) (w_n - 10) (by omega) (by omega)) gX5_planBy_X5_isIn rfl ⟨rfl, rfl⟩ (by decide +kernel) ⟨Nat.le_of_ble_eq_true rfl, Nat.le_of_ble_eq_true rfl⟩ ZF.room (As := [.int (nI (fnd D (Lf kd st a_v) (tn (sc (f_r + a_v))) (fs lk so D))), .int (nI (w_n - 10))]) (n := 2) rfl rfl (st1 := [.int (bI (zbt (fnd D (Lf kd st a_v) (tn (sc (f_r + a_v))) (fs lk so D)) (w_n - 10))), .int (nI (dpl D kd st (fs lk so D) sc f_r (w_n - 10) a_v))]) rfl (Nat.le_of_ble_eq_true rfl) dX5_planBy_119 ?_
              refine z_if_eqB (tgt := 129) X dX5_planBy_122 (by decide) (fun hq48 => ?_) (fun hq48 => ?_)
              ·
                refine z_iconst (v := nI 0) X dX5_planBy_129 (by decide) ?_
                refine z_iadd' (v := nI (dpl D kd st (fs lk so D) sc f_r (w_n - 10) a_v)) X dX5_planBy_130 (nI_add _ _) ?_
                refine z_istore (L' := [(7, .int (nI (dpl D kd st (fs lk so D) sc f_r (w_n - 10) a_v))), (6, .int (nI ((hpl nd sc f_r a_v) ||| 0))), (5, .int (nI ((wpl D kd st (fs lk so D) sc f_r a_v) ||| (2 ^ a_v)))), (3, .int (nI ((fpl D kd st sp (fs lk so D) sc f_r a_v) + (pc (fnd D (Lf kd st a_v) (tn (sc (f_r + a_v))) (fs lk so D)) * tn (sp a_v))))), (10, .int (nI (fnd D (Lf kd st a_v) (tn (sc (f_r + a_v))) (fs lk so D)))), (9, .int (nI (tn (sc (f_r + a_v))))), (0, .ref (b 0)), (1, .int (nI f_r)), (2, .int (nI w_n)), (4, .int (ffo D kd st (fs lk so D) sc f_r a_v)), (8, .int (nI a_v))]) X dX5_planBy_131 (by decide) rfl ?_
                refine z_ls (L' := [(0, .ref (b 0)), (1, .int (nI f_r)), (2, .int (nI w_n)), (3, .int (nI ((fpl D kd st sp (fs lk so D) sc f_r a_v) + (pc (fnd D (Lf kd st a_v) (tn (sc (f_r + a_v))) (fs lk so D)) * tn (sp a_v))))), (4, .int (ffo D kd st (fs lk so D) sc f_r a_v)), (5, .int (nI ((wpl D kd st (fs lk so D) sc f_r a_v) ||| (2 ^ a_v)))), (6, .int (nI ((hpl nd sc f_r a_v) ||| 0))), (7, .int (nI (dpl D kd st (fs lk so D) sc f_r (w_n - 10) a_v))), (8, .int (nI a_v)), (9, .int (nI (tn (sc (f_r + a_v))))), (10, .int (nI (fnd D (Lf kd st a_v) (tn (sc (f_r + a_v))) (fs lk so D))))]) [6, 7, 8, 3, 9, 2, 1, 0, 10, 5, 4] rfl ?_
                have e49 : (nI ((fpl D kd st sp (fs lk so D) sc f_r a_v) + (pc (fnd D (Lf kd st a_v) (tn (sc (f_r + a_v))) (fs lk so D)) * tn (sp a_v)))) = (nI (fpl D kd st sp (fs lk so D) sc f_r (a_v + 1))) := by first | rfl | exact congrArg nI (wpl_t (by omega)) | exact congrArg nI (wpl_f (by omega)) | exact congrArg nI (hpl_t (by assumption)) | exact congrArg nI (hpl_f (by assumption)) | exact congrArg nI (dpl_t (by assumption)) | exact congrArg nI (dpl_f (by assumption))
                have e50 : (nI ((wpl D kd st (fs lk so D) sc f_r a_v) ||| (2 ^ a_v))) = (nI (wpl D kd st (fs lk so D) sc f_r (a_v + 1))) := by first | rfl | exact congrArg nI (wpl_t (by omega)) | exact congrArg nI (wpl_f (by omega)) | exact congrArg nI (hpl_t (by assumption)) | exact congrArg nI (hpl_f (by assumption)) | exact congrArg nI (dpl_t (by assumption)) | exact congrArg nI (dpl_f (by assumption))
                have e51 : (nI ((hpl nd sc f_r a_v) ||| 0)) = (nI (hpl nd sc f_r (a_v + 1))) := by first | rfl | exact congrArg nI (wpl_t (by omega)) | exact congrArg nI (wpl_f (by omega)) | exact congrArg nI (hpl_t (by assumption)) | exact congrArg nI (hpl_f (by assumption)) | exact congrArg nI (dpl_t (by assumption)) | exact congrArg nI (dpl_f (by assumption))
                have e52 : (nI (dpl D kd st (fs lk so D) sc f_r (w_n - 10) a_v)) = (nI (dpl D kd st (fs lk so D) sc f_r (w_n - 10) (a_v + 1))) := by first | rfl | exact congrArg nI (wpl_t (by omega)) | exact congrArg nI (wpl_f (by omega)) | exact congrArg nI (hpl_t (by assumption)) | exact congrArg nI (hpl_f (by assumption)) | exact congrArg nI (dpl_t (by assumption)) | exact congrArg nI (dpl_f (by assumption))
                refine z_Le (L' := [(0, .ref (b 0)), (1, .int (nI f_r)), (2, .int (nI w_n)), (3, .int (nI (fpl D kd st sp (fs lk so D) sc f_r (a_v + 1)))), (4, .int (ffo D kd st (fs lk so D) sc f_r a_v)), (5, .int (nI (wpl D kd st (fs lk so D) sc f_r (a_v + 1)))), (6, .int (nI (hpl nd sc f_r (a_v + 1)))), (7, .int (nI (dpl D kd st (fs lk so D) sc f_r (w_n - 10) (a_v + 1)))), (8, .int (nI a_v)), (9, .int (nI (tn (sc (f_r + a_v))))), (10, .int (nI (fnd D (Lf kd st a_v) (tn (sc (f_r + a_v))) (fs lk so D))))]) (by rw [← e49, ← e50, ← e51, ← e52]) ?_
                exact jn7
              ·
                refine z_iconst (v := nI 1) X dX5_planBy_125 (by decide) ?_
                refine z_goto (tgt := 130) X dX5_planBy_126 (by decide) ?_
                refine z_iadd' (v := nI ((dpl D kd st (fs lk so D) sc f_r (w_n - 10) a_v) + 1)) X dX5_planBy_130 (nI_add _ _) ?_
                refine z_istore (L' := [(7, .int (nI ((dpl D kd st (fs lk so D) sc f_r (w_n - 10) a_v) + 1))), (6, .int (nI ((hpl nd sc f_r a_v) ||| 0))), (5, .int (nI ((wpl D kd st (fs lk so D) sc f_r a_v) ||| (2 ^ a_v)))), (3, .int (nI ((fpl D kd st sp (fs lk so D) sc f_r a_v) + (pc (fnd D (Lf kd st a_v) (tn (sc (f_r + a_v))) (fs lk so D)) * tn (sp a_v))))), (10, .int (nI (fnd D (Lf kd st a_v) (tn (sc (f_r + a_v))) (fs lk so D)))), (9, .int (nI (tn (sc (f_r + a_v))))), (0, .ref (b 0)), (1, .int (nI f_r)), (2, .int (nI w_n)), (4, .int (ffo D kd st (fs lk so D) sc f_r a_v)), (8, .int (nI a_v))]) X dX5_planBy_131 (by decide) rfl ?_
                refine z_ls (L' := [(0, .ref (b 0)), (1, .int (nI f_r)), (2, .int (nI w_n)), (3, .int (nI ((fpl D kd st sp (fs lk so D) sc f_r a_v) + (pc (fnd D (Lf kd st a_v) (tn (sc (f_r + a_v))) (fs lk so D)) * tn (sp a_v))))), (4, .int (ffo D kd st (fs lk so D) sc f_r a_v)), (5, .int (nI ((wpl D kd st (fs lk so D) sc f_r a_v) ||| (2 ^ a_v)))), (6, .int (nI ((hpl nd sc f_r a_v) ||| 0))), (7, .int (nI ((dpl D kd st (fs lk so D) sc f_r (w_n - 10) a_v) + 1))), (8, .int (nI a_v)), (9, .int (nI (tn (sc (f_r + a_v))))), (10, .int (nI (fnd D (Lf kd st a_v) (tn (sc (f_r + a_v))) (fs lk so D))))]) [6, 7, 8, 3, 9, 2, 1, 0, 10, 5, 4] rfl ?_
                have e53 : (nI ((fpl D kd st sp (fs lk so D) sc f_r a_v) + (pc (fnd D (Lf kd st a_v) (tn (sc (f_r + a_v))) (fs lk so D)) * tn (sp a_v)))) = (nI (fpl D kd st sp (fs lk so D) sc f_r (a_v + 1))) := by first | rfl | exact congrArg nI (wpl_t (by omega)) | exact congrArg nI (wpl_f (by omega)) | exact congrArg nI (hpl_t (by assumption)) | exact congrArg nI (hpl_f (by assumption)) | exact congrArg nI (dpl_t (by assumption)) | exact congrArg nI (dpl_f (by assumption))
                have e54 : (nI ((wpl D kd st (fs lk so D) sc f_r a_v) ||| (2 ^ a_v))) = (nI (wpl D kd st (fs lk so D) sc f_r (a_v + 1))) := by first | rfl | exact congrArg nI (wpl_t (by omega)) | exact congrArg nI (wpl_f (by omega)) | exact congrArg nI (hpl_t (by assumption)) | exact congrArg nI (hpl_f (by assumption)) | exact congrArg nI (dpl_t (by assumption)) | exact congrArg nI (dpl_f (by assumption))
                have e55 : (nI ((hpl nd sc f_r a_v) ||| 0)) = (nI (hpl nd sc f_r (a_v + 1))) := by first | rfl | exact congrArg nI (wpl_t (by omega)) | exact congrArg nI (wpl_f (by omega)) | exact congrArg nI (hpl_t (by assumption)) | exact congrArg nI (hpl_f (by assumption)) | exact congrArg nI (dpl_t (by assumption)) | exact congrArg nI (dpl_f (by assumption))
                have e56 : (nI ((dpl D kd st (fs lk so D) sc f_r (w_n - 10) a_v) + 1)) = (nI (dpl D kd st (fs lk so D) sc f_r (w_n - 10) (a_v + 1))) := by first | rfl | exact congrArg nI (wpl_t (by omega)) | exact congrArg nI (wpl_f (by omega)) | exact congrArg nI (hpl_t (by assumption)) | exact congrArg nI (hpl_f (by assumption)) | exact congrArg nI (dpl_t (by assumption)) | exact congrArg nI (dpl_f (by assumption))
                refine z_Le (L' := [(0, .ref (b 0)), (1, .int (nI f_r)), (2, .int (nI w_n)), (3, .int (nI (fpl D kd st sp (fs lk so D) sc f_r (a_v + 1)))), (4, .int (ffo D kd st (fs lk so D) sc f_r a_v)), (5, .int (nI (wpl D kd st (fs lk so D) sc f_r (a_v + 1)))), (6, .int (nI (hpl nd sc f_r (a_v + 1)))), (7, .int (nI (dpl D kd st (fs lk so D) sc f_r (w_n - 10) (a_v + 1)))), (8, .int (nI a_v)), (9, .int (nI (tn (sc (f_r + a_v))))), (10, .int (nI (fnd D (Lf kd st a_v) (tn (sc (f_r + a_v))) (fs lk so D))))]) (by rw [← e53, ← e54, ← e55, ← e56]) ?_
                exact jn7
          ·
            refine z_iconst (v := nI 1) X dX5_planBy_94 (by decide) ?_
            refine z_iload X dX5_planBy_95 10 rfl ?_
            refine z_ishl' (v := nI (2 ^ a_v)) X dX5_planBy_97 (nI_shl1 (by omega)) ?_
            refine z_goto (tgt := 102) X dX5_planBy_98 (by decide) ?_
            refine z_ior' (v := nI ((hpl nd sc f_r a_v) ||| (2 ^ a_v))) X dX5_planBy_102 (fa_or _ _) ?_
            refine z_istore (L' := [(6, .int (nI ((hpl nd sc f_r a_v) ||| (2 ^ a_v)))), (5, .int (nI ((wpl D kd st (fs lk so D) sc f_r a_v) ||| (2 ^ a_v)))), (3, .int (nI ((fpl D kd st sp (fs lk so D) sc f_r a_v) + (pc (fnd D (Lf kd st a_v) (tn (sc (f_r + a_v))) (fs lk so D)) * tn (sp a_v))))), (10, .int (nI (fnd D (Lf kd st a_v) (tn (sc (f_r + a_v))) (fs lk so D)))), (9, .int (nI (tn (sc (f_r + a_v))))), (0, .ref (b 0)), (1, .int (nI f_r)), (2, .int (nI w_n)), (4, .int (ffo D kd st (fs lk so D) sc f_r a_v)), (7, .int (nI (dpl D kd st (fs lk so D) sc f_r (w_n - 10) a_v))), (8, .int (nI a_v))]) X dX5_planBy_103 (by decide) rfl ?_
            refine z_iload X dX5_planBy_105 9 rfl ?_
            refine z_iload_n X dX5_planBy_107 rfl 7 rfl ?_
            refine z_bipush (v := nI 10) X dX5_planBy_108 (by decide) ?_
            refine z_icmp_ltN (tgt := 129) X dX5_planBy_110 (by decide) (by omega) (by omega) (fun hq57 => ?_) (fun hq57 => ?_)
            ·
              exact absurd hq57 (by omega)
            ·
              refine z_iload X dX5_planBy_113 3 rfl ?_
              refine z_iload_n X dX5_planBy_115 rfl 7 rfl ?_
              refine z_bipush (v := nI 10) X dX5_planBy_116 (by decide) ?_
              refine z_isub' (v := nI (w_n - 10)) X dX5_planBy_118 (pk_sub (by omega)) ?_
              refine z_callS0 X (c_X5_isIn l g (fnd D (Lf kd st a_v) (tn (sc (f_r + a_v))) (fs lk so D)) (w_n - 10) (by omega) (by omega)) gX5_planBy_X5_isIn rfl ⟨rfl, rfl⟩ (by decide +kernel) ⟨Nat.le_of_ble_eq_true rfl, Nat.le_of_ble_eq_true rfl⟩ ZF.room (As := [.int (nI (fnd D (Lf kd st a_v) (tn (sc (f_r + a_v))) (fs lk so D))), .int (nI (w_n - 10))]) (n := 2) rfl rfl (st1 := [.int (bI (zbt (fnd D (Lf kd st a_v) (tn (sc (f_r + a_v))) (fs lk so D)) (w_n - 10))), .int (nI (dpl D kd st (fs lk so D) sc f_r (w_n - 10) a_v))]) rfl (Nat.le_of_ble_eq_true rfl) dX5_planBy_119 ?_
              refine z_if_eqB (tgt := 129) X dX5_planBy_122 (by decide) (fun hq58 => ?_) (fun hq58 => ?_)
              ·
                refine z_iconst (v := nI 0) X dX5_planBy_129 (by decide) ?_
                refine z_iadd' (v := nI (dpl D kd st (fs lk so D) sc f_r (w_n - 10) a_v)) X dX5_planBy_130 (nI_add _ _) ?_
                refine z_istore (L' := [(7, .int (nI (dpl D kd st (fs lk so D) sc f_r (w_n - 10) a_v))), (6, .int (nI ((hpl nd sc f_r a_v) ||| (2 ^ a_v)))), (5, .int (nI ((wpl D kd st (fs lk so D) sc f_r a_v) ||| (2 ^ a_v)))), (3, .int (nI ((fpl D kd st sp (fs lk so D) sc f_r a_v) + (pc (fnd D (Lf kd st a_v) (tn (sc (f_r + a_v))) (fs lk so D)) * tn (sp a_v))))), (10, .int (nI (fnd D (Lf kd st a_v) (tn (sc (f_r + a_v))) (fs lk so D)))), (9, .int (nI (tn (sc (f_r + a_v))))), (0, .ref (b 0)), (1, .int (nI f_r)), (2, .int (nI w_n)), (4, .int (ffo D kd st (fs lk so D) sc f_r a_v)), (8, .int (nI a_v))]) X dX5_planBy_131 (by decide) rfl ?_
                refine z_ls (L' := [(0, .ref (b 0)), (1, .int (nI f_r)), (2, .int (nI w_n)), (3, .int (nI ((fpl D kd st sp (fs lk so D) sc f_r a_v) + (pc (fnd D (Lf kd st a_v) (tn (sc (f_r + a_v))) (fs lk so D)) * tn (sp a_v))))), (4, .int (ffo D kd st (fs lk so D) sc f_r a_v)), (5, .int (nI ((wpl D kd st (fs lk so D) sc f_r a_v) ||| (2 ^ a_v)))), (6, .int (nI ((hpl nd sc f_r a_v) ||| (2 ^ a_v)))), (7, .int (nI (dpl D kd st (fs lk so D) sc f_r (w_n - 10) a_v))), (8, .int (nI a_v)), (9, .int (nI (tn (sc (f_r + a_v))))), (10, .int (nI (fnd D (Lf kd st a_v) (tn (sc (f_r + a_v))) (fs lk so D))))]) [6, 7, 8, 3, 9, 2, 1, 0, 10, 5, 4] rfl ?_
                have e59 : (nI ((fpl D kd st sp (fs lk so D) sc f_r a_v) + (pc (fnd D (Lf kd st a_v) (tn (sc (f_r + a_v))) (fs lk so D)) * tn (sp a_v)))) = (nI (fpl D kd st sp (fs lk so D) sc f_r (a_v + 1))) := by first | rfl | exact congrArg nI (wpl_t (by omega)) | exact congrArg nI (wpl_f (by omega)) | exact congrArg nI (hpl_t (by assumption)) | exact congrArg nI (hpl_f (by assumption)) | exact congrArg nI (dpl_t (by assumption)) | exact congrArg nI (dpl_f (by assumption))
                have e60 : (nI ((wpl D kd st (fs lk so D) sc f_r a_v) ||| (2 ^ a_v))) = (nI (wpl D kd st (fs lk so D) sc f_r (a_v + 1))) := by first | rfl | exact congrArg nI (wpl_t (by omega)) | exact congrArg nI (wpl_f (by omega)) | exact congrArg nI (hpl_t (by assumption)) | exact congrArg nI (hpl_f (by assumption)) | exact congrArg nI (dpl_t (by assumption)) | exact congrArg nI (dpl_f (by assumption))
                have e61 : (nI ((hpl nd sc f_r a_v) ||| (2 ^ a_v))) = (nI (hpl nd sc f_r (a_v + 1))) := by first | rfl | exact congrArg nI (wpl_t (by omega)) | exact congrArg nI (wpl_f (by omega)) | exact congrArg nI (hpl_t (by assumption)) | exact congrArg nI (hpl_f (by assumption)) | exact congrArg nI (dpl_t (by assumption)) | exact congrArg nI (dpl_f (by assumption))
                have e62 : (nI (dpl D kd st (fs lk so D) sc f_r (w_n - 10) a_v)) = (nI (dpl D kd st (fs lk so D) sc f_r (w_n - 10) (a_v + 1))) := by first | rfl | exact congrArg nI (wpl_t (by omega)) | exact congrArg nI (wpl_f (by omega)) | exact congrArg nI (hpl_t (by assumption)) | exact congrArg nI (hpl_f (by assumption)) | exact congrArg nI (dpl_t (by assumption)) | exact congrArg nI (dpl_f (by assumption))
                refine z_Le (L' := [(0, .ref (b 0)), (1, .int (nI f_r)), (2, .int (nI w_n)), (3, .int (nI (fpl D kd st sp (fs lk so D) sc f_r (a_v + 1)))), (4, .int (ffo D kd st (fs lk so D) sc f_r a_v)), (5, .int (nI (wpl D kd st (fs lk so D) sc f_r (a_v + 1)))), (6, .int (nI (hpl nd sc f_r (a_v + 1)))), (7, .int (nI (dpl D kd st (fs lk so D) sc f_r (w_n - 10) (a_v + 1)))), (8, .int (nI a_v)), (9, .int (nI (tn (sc (f_r + a_v))))), (10, .int (nI (fnd D (Lf kd st a_v) (tn (sc (f_r + a_v))) (fs lk so D))))]) (by rw [← e59, ← e60, ← e61, ← e62]) ?_
                exact jn7
              ·
                refine z_iconst (v := nI 1) X dX5_planBy_125 (by decide) ?_
                refine z_goto (tgt := 130) X dX5_planBy_126 (by decide) ?_
                refine z_iadd' (v := nI ((dpl D kd st (fs lk so D) sc f_r (w_n - 10) a_v) + 1)) X dX5_planBy_130 (nI_add _ _) ?_
                refine z_istore (L' := [(7, .int (nI ((dpl D kd st (fs lk so D) sc f_r (w_n - 10) a_v) + 1))), (6, .int (nI ((hpl nd sc f_r a_v) ||| (2 ^ a_v)))), (5, .int (nI ((wpl D kd st (fs lk so D) sc f_r a_v) ||| (2 ^ a_v)))), (3, .int (nI ((fpl D kd st sp (fs lk so D) sc f_r a_v) + (pc (fnd D (Lf kd st a_v) (tn (sc (f_r + a_v))) (fs lk so D)) * tn (sp a_v))))), (10, .int (nI (fnd D (Lf kd st a_v) (tn (sc (f_r + a_v))) (fs lk so D)))), (9, .int (nI (tn (sc (f_r + a_v))))), (0, .ref (b 0)), (1, .int (nI f_r)), (2, .int (nI w_n)), (4, .int (ffo D kd st (fs lk so D) sc f_r a_v)), (8, .int (nI a_v))]) X dX5_planBy_131 (by decide) rfl ?_
                refine z_ls (L' := [(0, .ref (b 0)), (1, .int (nI f_r)), (2, .int (nI w_n)), (3, .int (nI ((fpl D kd st sp (fs lk so D) sc f_r a_v) + (pc (fnd D (Lf kd st a_v) (tn (sc (f_r + a_v))) (fs lk so D)) * tn (sp a_v))))), (4, .int (ffo D kd st (fs lk so D) sc f_r a_v)), (5, .int (nI ((wpl D kd st (fs lk so D) sc f_r a_v) ||| (2 ^ a_v)))), (6, .int (nI ((hpl nd sc f_r a_v) ||| (2 ^ a_v)))), (7, .int (nI ((dpl D kd st (fs lk so D) sc f_r (w_n - 10) a_v) + 1))), (8, .int (nI a_v)), (9, .int (nI (tn (sc (f_r + a_v))))), (10, .int (nI (fnd D (Lf kd st a_v) (tn (sc (f_r + a_v))) (fs lk so D))))]) [6, 7, 8, 3, 9, 2, 1, 0, 10, 5, 4] rfl ?_
                have e63 : (nI ((fpl D kd st sp (fs lk so D) sc f_r a_v) + (pc (fnd D (Lf kd st a_v) (tn (sc (f_r + a_v))) (fs lk so D)) * tn (sp a_v)))) = (nI (fpl D kd st sp (fs lk so D) sc f_r (a_v + 1))) := by first | rfl | exact congrArg nI (wpl_t (by omega)) | exact congrArg nI (wpl_f (by omega)) | exact congrArg nI (hpl_t (by assumption)) | exact congrArg nI (hpl_f (by assumption)) | exact congrArg nI (dpl_t (by assumption)) | exact congrArg nI (dpl_f (by assumption))
                have e64 : (nI ((wpl D kd st (fs lk so D) sc f_r a_v) ||| (2 ^ a_v))) = (nI (wpl D kd st (fs lk so D) sc f_r (a_v + 1))) := by first | rfl | exact congrArg nI (wpl_t (by omega)) | exact congrArg nI (wpl_f (by omega)) | exact congrArg nI (hpl_t (by assumption)) | exact congrArg nI (hpl_f (by assumption)) | exact congrArg nI (dpl_t (by assumption)) | exact congrArg nI (dpl_f (by assumption))
                have e65 : (nI ((hpl nd sc f_r a_v) ||| (2 ^ a_v))) = (nI (hpl nd sc f_r (a_v + 1))) := by first | rfl | exact congrArg nI (wpl_t (by omega)) | exact congrArg nI (wpl_f (by omega)) | exact congrArg nI (hpl_t (by assumption)) | exact congrArg nI (hpl_f (by assumption)) | exact congrArg nI (dpl_t (by assumption)) | exact congrArg nI (dpl_f (by assumption))
                have e66 : (nI ((dpl D kd st (fs lk so D) sc f_r (w_n - 10) a_v) + 1)) = (nI (dpl D kd st (fs lk so D) sc f_r (w_n - 10) (a_v + 1))) := by first | rfl | exact congrArg nI (wpl_t (by omega)) | exact congrArg nI (wpl_f (by omega)) | exact congrArg nI (hpl_t (by assumption)) | exact congrArg nI (hpl_f (by assumption)) | exact congrArg nI (dpl_t (by assumption)) | exact congrArg nI (dpl_f (by assumption))
                refine z_Le (L' := [(0, .ref (b 0)), (1, .int (nI f_r)), (2, .int (nI w_n)), (3, .int (nI (fpl D kd st sp (fs lk so D) sc f_r (a_v + 1)))), (4, .int (ffo D kd st (fs lk so D) sc f_r a_v)), (5, .int (nI (wpl D kd st (fs lk so D) sc f_r (a_v + 1)))), (6, .int (nI (hpl nd sc f_r (a_v + 1)))), (7, .int (nI (dpl D kd st (fs lk so D) sc f_r (w_n - 10) (a_v + 1)))), (8, .int (nI a_v)), (9, .int (nI (tn (sc (f_r + a_v))))), (10, .int (nI (fnd D (Lf kd st a_v) (tn (sc (f_r + a_v))) (fs lk so D))))]) (by rw [← e63, ← e64, ← e65, ← e66]) ?_
                exact jn7
  refine z_ls (L' := [(0, .ref (b 0)), (1, .int (nI f_r)), (2, .int (nI w_n)), (3, .int (nI 0)), (4, .int (-9)), (5, .int (nI 0)), (6, .int (nI 0)), (7, .int (nI 0)), (8, .int (nI 0))]) [6, 7, 8, 5, 4, 3, 2, 1, 0] rfl ?_
  have e67 : (nI 0) = (nI (fpl D kd st sp (fs lk so D) sc f_r 0)) := by first | rfl | exact congrArg (mfd D (fnd D (Lf kd st a_v) (tn (sc (f_r + a_v))) (fs lk so D)) (ffo D kd st (fs lk so D) sc f_r a_v)) hcD
  have e68 : (-9) = (ffo D kd st (fs lk so D) sc f_r 0) := by first | rfl | exact congrArg (mfd D (fnd D (Lf kd st a_v) (tn (sc (f_r + a_v))) (fs lk so D)) (ffo D kd st (fs lk so D) sc f_r a_v)) hcD
  have e69 : (nI 0) = (nI (wpl D kd st (fs lk so D) sc f_r 0)) := by first | rfl | exact congrArg (mfd D (fnd D (Lf kd st a_v) (tn (sc (f_r + a_v))) (fs lk so D)) (ffo D kd st (fs lk so D) sc f_r a_v)) hcD
  have e70 : (nI 0) = (nI (hpl nd sc f_r 0)) := by first | rfl | exact congrArg (mfd D (fnd D (Lf kd st a_v) (tn (sc (f_r + a_v))) (fs lk so D)) (ffo D kd st (fs lk so D) sc f_r a_v)) hcD
  have e71 : (nI 0) = (nI (dpl D kd st (fs lk so D) sc f_r (w_n - 10) 0)) := by first | rfl | exact congrArg (mfd D (fnd D (Lf kd st a_v) (tn (sc (f_r + a_v))) (fs lk so D)) (ffo D kd st (fs lk so D) sc f_r a_v)) hcD
  refine z_Le (L' := [(0, .ref (b 0)), (1, .int (nI f_r)), (2, .int (nI w_n)), (3, .int (nI (fpl D kd st sp (fs lk so D) sc f_r 0))), (4, .int (ffo D kd st (fs lk so D) sc f_r 0)), (5, .int (nI (wpl D kd st (fs lk so D) sc f_r 0))), (6, .int (nI (hpl nd sc f_r 0))), (7, .int (nI (dpl D kd st (fs lk so D) sc f_r (w_n - 10) 0))), (8, .int (nI 0))]) (by rw [← e67, ← e68, ← e69, ← e70, ← e71]) ?_
  exact loopv1 (E + 1) 0 (by omega) (by omega)
abbrev rX5_plan : Room := { frames := 5, cells := 0, slots := 0, locals := 123 }
set_option maxHeartbeats 4000000 in
set_option maxRecDepth 100000 in
theorem c_X5_plan (l : Launch) (g : zg) (b : Nat → Nat) (ft : Int32) (so : Int32) (D : Nat) (E : Nat) (tr : Int32) (C : Nat) (lk : Nat → Int32) (kd : Nat → Int32) (st : Nat → Int32) (sp : Nat → Int32) (nd : Nat → Int32) (rO : Nat → Int32) (rB : Nat → Int32) (rD : Nat → Int32) (rW : Nat → Int32) (sz : Nat → Int32) (sl : Nat → Int32) (sc : Nat → Int32) (sm : Int32) (xa : Nat) (xb : Int32) (xc : Nat) (xd : Nat) (y1 : Nat → Int32) (y2 : Nat → Int32) (y3 : Nat → Int32) (y4 : Nat → Int32) (y5 : Nat → Int32) (hn : Nat → Int32) (k : Int32) (lane : Int32) (i : Int32) (n : Int32) (w : Int32) (hle : ∀ k_, k_ < 4 → vle (sz k_)) (hE : E ≤ 4) (hD : D ≤ 6) (hK : vK kd st E) (hSp : vS sp E) (hsm : sm = (-9)) : zM l g yX5_plan wsX5_plan rX5_plan [.ref (b 0), .int k, .int lane, .int i, .int n, .int w] (wM g b ft so D E tr C lk kd st sp nd rO rB rD rW sz sl sc sm xa xb xc xd y1 y2 y3 y4 y5 hn) (some (.int (if zin k 4 then plr lane w E (foc (sl (tn k)) (sz (tn k)) lane i n) (decide (tn n = E) && (alp sc (60 * tn k + tn i) D E)) (ofp D E lk so kd st sp nd sc (60 * tn k + tn i) w) else -1))) (wM g b (if zin k 4 && zin lane 3 && apl w && decide (0 < E) then (foc (sl (tn k)) (sz (tn k)) lane i n) else nI 0) so D E tr C lk kd st sp nd rO rB rD rW sz sl sc sm xa xb xc xd y1 y2 y3 y4 y5 hn) := by
  refine z_met (own := RX5) (cc := cX5_plan) (maxL := 9) (ret := some .int) (by decide +kernel) rfl rfl (Nat.le_of_ble_eq_true rfl) ?_
  intro M X ZF
  refine z_Le (L' := [(0, .ref (b 0)), (1, .int k), (2, .int lane), (3, .int i), (4, .int n), (5, .int w)]) rfl ?_
  have hL := vK_L hK
  have hpD : 2 ^ D ≤ 2 ^ 6 := Nat.pow_le_pow_right (by omega) hD
  have k_180 : Cond.constantLong RX5 180 (3) ∈ wsX5_plan := by decide +kernel
  have k_130 : Cond.constantLong RX5 130 (2) ∈ wsX5_plan := by decide +kernel
  have i_RX5 : ∀ w ∈ wsX50, w ∈ wsX5_plan := by decide +kernel
  have f_85 : Cond.fieldLink RX5 85 (TX5 4).1 (TX5 4).2.1 (TX5 4).2.2.1 ∈ wsX5_plan := by decide +kernel
  have f_63 : Cond.fieldLink RX5 63 (TX5 26).1 (TX5 26).2.1 (TX5 26).2.2.1 ∈ wsX5_plan := by decide +kernel
  have k_182 : Cond.constantLong RX5 182 (10) ∈ wsX5_plan := by decide +kernel
  have k_184 : Cond.constantLong RX5 184 (15) ∈ wsX5_plan := by decide +kernel
  refine z_iload_n X dX5_plan_0 rfl 1 rfl ?_
  refine z_callS0 X (c_X5_noSheet l g k) gX5_plan_X5_noSheet rfl ⟨rfl, rfl⟩ (by decide +kernel) ⟨Nat.le_of_ble_eq_true rfl, Nat.le_of_ble_eq_true rfl⟩ ZF.room (As := [.int k]) (n := 1) rfl rfl (st1 := [.int (bI (!zin k 4))]) rfl (Nat.le_of_ble_eq_true rfl) dX5_plan_1 ?_
  refine z_if_eqB (tgt := 13) X dX5_plan_4 (by decide) (fun hq1 => ?_) (fun hq1 => ?_)
  ·
    have hq2 : (zin k 4) = true := by simpa using hq1
    obtain ⟨jv3, hj3, ej3⟩ := zin_t (by omega) hq2
    subst ej3
    have hc3 : tn (nI jv3) = jv3 := nI_clamp (by omega)
    refine z_iload X dX5_plan_13 5 rfl ?_
    refine z_i2l (v := (w).toInt64) X dX5_plan_15 rfl ?_
    refine z_lconst (v := 0) X dX5_plan_16 (by decide) ?_
    refine z_ldc2 (v := 3) X dX5_plan_17 k_180 ?_
    refine z_callS0 X (c_X5_in l g ((w).toInt64) 0 3) gX5_plan_X5_in rfl ⟨rfl, rfl⟩ (by decide +kernel) ⟨Nat.le_of_ble_eq_true rfl, Nat.le_of_ble_eq_true rfl⟩ ZF.room (As := [.long ((w).toInt64), .long 0, .long 3]) (n := 3) rfl rfl (st1 := [.int (bI (zil ((w).toInt64) 0 3))]) rfl (Nat.le_of_ble_eq_true rfl) dX5_plan_20 ?_
    refine z_top (y := bI (zin w 4)) (bI_eq (zil_k (n := 3) (by decide +kernel) (by omega))) ?_
    refine z_if_neB (tgt := 41) X dX5_plan_23 (by decide) (fun hq4 => ?_) (fun hq4 => ?_)
    ·
      obtain ⟨jv5, hj5, ej5⟩ := zin_t (by omega) hq4
      subst ej5
      have hc5 : tn (nI jv5) = jv5 := nI_clamp (by omega)
      refine z_iconst (v := nI 1) X dX5_plan_41 (by decide) ?_
      refine z_goto (tgt := 46) X dX5_plan_42 (by decide) ?_
      refine z_istore (L' := [(6, .int (nI 1)), (0, .ref (b 0)), (1, .int (nI jv3)), (2, .int lane), (3, .int i), (4, .int n), (5, .int (nI jv5))]) X dX5_plan_46 (by decide) rfl ?_
      refine z_iload_n X dX5_plan_48 rfl 3 rfl ?_
      refine z_i2l (v := (lane).toInt64) X dX5_plan_49 rfl ?_
      refine z_lconst (v := 0) X dX5_plan_50 (by decide) ?_
      refine z_ldc2 (v := 2) X dX5_plan_51 k_130 ?_
      refine z_callS0 X (c_X5_in l g ((lane).toInt64) 0 2) gX5_plan_X5_in rfl ⟨rfl, rfl⟩ (by decide +kernel) ⟨Nat.le_of_ble_eq_true rfl, Nat.le_of_ble_eq_true rfl⟩ ZF.room (As := [.long ((lane).toInt64), .long 0, .long 2]) (n := 3) rfl rfl (st1 := [.int (bI (zil ((lane).toInt64) 0 2))]) rfl (Nat.le_of_ble_eq_true rfl) dX5_plan_54 ?_
      refine z_top (y := bI (zin lane 3)) (bI_eq (zil_k (n := 2) (by decide +kernel) (by omega))) ?_
      refine z_if_eqB (tgt := 65) X dX5_plan_57 (by decide) (fun hq6 => ?_) (fun hq6 => ?_)
      ·
        refine z_aload_n X dX5_plan_65 rfl 1 rfl ?_
        refine z_bipush (v := (-2)) X dX5_plan_66 (by decide) ?_
        refine z_callVM X (c_X5_refused l g b ft so D E tr C lk kd st sp nd rO rB rD rW sz sl sc sm xa xb xc xd y1 y2 y3 y4 y5 hn (-2)) gX5_plan_X5_refused rfl ⟨rfl, rfl⟩ (by decide +kernel) ⟨Nat.le_of_ble_eq_true rfl, Nat.le_of_ble_eq_true rfl⟩ ZF.room (ci := 4) rfl 0 rfl rfl (As := [.int (-2)]) (n := 1) rfl rfl (st1 := [.int (-2)]) rfl (Nat.le_of_ble_eq_true rfl) dX5_plan_68 ?_
        have e7 : (if zin (nI jv3) 4 && zin lane 3 && apl (nI jv5) && decide (0 < E) then (foc (sl (tn (nI jv3))) (sz (tn (nI jv3))) lane i n) else nI 0) = (nI 0) := by simp [plr, apl_z, nI_0, hq2, hc3, hq4, hc5, hq6]
        exact z_iret X ZF dX5_plan_71 (by simp [plr, apl_z, nI_0, hq2, hc3, hq4, hc5, hq6]) (by rw [e7])
      ·
        obtain ⟨jv8, hj8, ej8⟩ := zin_t (by omega) hq6
        subst ej8
        have hc8 : tn (nI jv8) = jv8 := nI_clamp (by omega)
        refine z_iload X dX5_plan_60 0 rfl ?_
        refine z_if_neN (tgt := 72) X dX5_plan_62 (by decide) (by omega) (fun hq9 => ?_) (fun hq9 => ?_)
        ·
          refine z_aload_n X dX5_plan_72 rfl 1 rfl ?_
          refine z_get (v := .int (nI E)) (N := 29) X i_RX5 (ci := 4) rfl 0 rfl 4 (by decide) f_85 rfl dX5_plan_73 ?_
          refine z_if_neN (tgt := 86) X dX5_plan_76 (by decide) (by omega) (fun hq10 => ?_) (fun hq10 => ?_)
          ·
            have hE0 : 0 < E := by omega
            refine z_aload_n X dX5_plan_86 rfl 1 rfl ?_
            refine z_iload_n X dX5_plan_87 rfl 2 rfl ?_
            refine z_iload_n X dX5_plan_88 rfl 3 rfl ?_
            refine z_iload_n X dX5_plan_89 rfl 4 rfl ?_
            refine z_iload X dX5_plan_90 5 rfl ?_
            refine z_i2l (v := (n).toInt64) X dX5_plan_92 rfl ?_
            refine z_callVM X (c_X5_cellsBarred l g b ft so D E tr C lk kd st sp nd rO rB rD rW sz sl sc sm xa xb xc xd y1 y2 y3 y4 y5 hn jv3 (nI jv8) i n (by omega) (by first | assumption | omega)) gX5_plan_X5_cellsBarred rfl ⟨rfl, rfl⟩ (by decide +kernel) ⟨Nat.le_of_ble_eq_true rfl, Nat.le_of_ble_eq_true rfl⟩ ZF.room (ci := 4) rfl 0 rfl rfl (As := [.int (nI jv3), .int (nI jv8), .int i, .long ((n).toInt64)]) (n := 4) rfl rfl (st1 := [.int (cbI (foc (sl jv3) (sz jv3) (nI jv8) i n))]) rfl (Nat.le_of_ble_eq_true rfl) dX5_plan_93 ?_
            by_cases hfo : foc (sl jv3) (sz jv3) (nI jv8) i n = 0
            ·
              refine z_top (y := nI 0) (cb_0 hfo) ?_
              refine z_ws (ws' := (wM g b ft so D E tr C lk kd st sp nd rO rB rD rW sz sl sc sm xa xb xc xd y1 y2 y3 y4 y5 hn)) (by rw [if_pos hfo]) ?_
              obtain ⟨i_a, n_a, ei_a, en_a, hin_a, m_a, hm_a, him_a⟩ := foc0 (hle _ (by omega)) hfo
              subst ei_a; subst en_a
              have hti_a : tn (nI i_a) = i_a := nI_clamp (by omega)
              have htn_a : tn (nI n_a) = n_a := nI_clamp (by omega)
              refine z_istore (L' := [(7, .int (nI 0)), (6, .int (nI 1)), (0, .ref (b 0)), (1, .int (nI jv3)), (2, .int (nI jv8)), (3, .int (nI i_a)), (4, .int (nI n_a)), (5, .int (nI jv5))]) X dX5_plan_96 (by decide) rfl ?_
              refine z_iload X dX5_plan_98 0 rfl ?_
              refine z_if_geN (tgt := 106) X dX5_plan_100 (by decide) (by omega) (fun hq11 => ?_) (fun hq11 => ?_)
              ·
                refine z_iload X dX5_plan_106 6 rfl ?_
                refine z_aload_n X dX5_plan_108 rfl 2 rfl ?_
                refine z_get (v := .int (nI E)) (N := 29) X i_RX5 (ci := 4) rfl 0 rfl 4 (by decide) f_85 rfl dX5_plan_109 ?_
                refine z_icmp_eqN (tgt := 122) X dX5_plan_112 (by decide) (by omega) (by omega) (fun hq12 => ?_) (fun hq12 => ?_)
                ·
                  have hnE_ : (n_a = E) = True := eq_true hq12
                  refine z_iconst (v := nI 0) X dX5_plan_122 (by decide) ?_
                  refine z_istore (L' := [(8, .int (nI 0)), (7, .int (nI 0)), (6, .int (nI 1)), (0, .ref (b 0)), (1, .int (nI jv3)), (2, .int (nI jv8)), (3, .int (nI i_a)), (4, .int (nI n_a)), (5, .int (nI jv5))]) X dX5_plan_123 (by decide) rfl ?_
                  have loopv13 : ∀ (n13 x_v : Nat), x_v ≤ n_a → n_a + 1 ≤ x_v + n13 → (alp sc ((60 * jv3) + i_a) D x_v = true) → zG l g 9 M (wM g b ft so D E tr C lk kd st sp nd rO rB rD rW sz sl sc sm xa xb xc xd y1 y2 y3 y4 y5 hn) [(0, .ref (b 0)), (1, .int (nI jv3)), (2, .int (nI jv8)), (3, .int (nI i_a)), (4, .int (nI n_a)), (5, .int (nI jv5)), (6, .int (nI 1)), (7, .int (nI 0)), (8, .int (nI x_v))] 125 [] := by
                    intro n13
                    induction n13 with
                    | zero => intro x_v h1 h2 _; exact absurd h2 (by omega)
                    | succ n13 ih13 =>
                      intro x_v hi13 hn13 hal
                      refine z_iload X dX5_plan_125 8 rfl ?_
                      refine z_iload X dX5_plan_127 4 rfl ?_
                      refine z_icmp_geN (tgt := 166) X dX5_plan_129 (by decide) (by omega) (by omega) (fun hq14 => ?_) (fun hq14 => ?_)
                      ·
                        have halE : alp sc ((60 * jv3) + i_a) D E = true := by rw [show E = x_v by omega]; exact hal
                        have hF := alp_hF hD halE
                        refine z_aload_n X dX5_plan_166 rfl 0 rfl ?_
                        refine z_aload_n X dX5_plan_167 rfl 0 rfl ?_
                        refine z_bipush (v := nI 60) X dX5_plan_168 (by decide) ?_
                        refine z_iload_n X dX5_plan_170 rfl 1 rfl ?_
                        refine z_imul' (v := nI (60 * jv3)) X dX5_plan_171 (pk_mul _ _) ?_
                        refine z_iload_n X dX5_plan_172 rfl 3 rfl ?_
                        refine z_iadd' (v := nI ((60 * jv3) + i_a)) X dX5_plan_173 (nI_add _ _) ?_
                        refine z_iload X dX5_plan_174 5 rfl ?_
                        refine z_callVM X (c_X5_planBy_s l g b ft so D E tr C lk kd st sp nd rO rB rD rW sz sl sc sm xa xb xc xd y1 y2 y3 y4 y5 hn ((60 * jv3) + i_a) jv5 (by omega) (by omega) hL (by first | assumption | omega) (by first | assumption | omega) hF (by omega) (by omega)) gX5_plan_X5_planBy rfl ⟨rfl, rfl⟩ (by decide +kernel) ⟨Nat.le_of_ble_eq_true rfl, Nat.le_of_ble_eq_true rfl⟩ ZF.room (ci := 4) rfl 0 rfl rfl (As := [.int (nI ((60 * jv3) + i_a)), .int (nI jv5)]) (n := 2) rfl rfl (st1 := [.int (ofp D E lk so kd st sp nd sc ((60 * jv3) + i_a) (nI jv5)), .ref (b 0)]) rfl (Nat.le_of_ble_eq_true rfl) dX5_plan_176 ?_
                        refine z_callVM X (c_X5_refused l g b ft so D E tr C lk kd st sp nd rO rB rD rW sz sl sc sm xa xb xc xd y1 y2 y3 y4 y5 hn (ofp D E lk so kd st sp nd sc ((60 * jv3) + i_a) (nI jv5))) gX5_plan_X5_refused rfl ⟨rfl, rfl⟩ (by decide +kernel) ⟨Nat.le_of_ble_eq_true rfl, Nat.le_of_ble_eq_true rfl⟩ ZF.room (ci := 4) rfl 0 rfl rfl (As := [.int (ofp D E lk so kd st sp nd sc ((60 * jv3) + i_a) (nI jv5))]) (n := 1) rfl rfl (st1 := [.int (ofp D E lk so kd st sp nd sc ((60 * jv3) + i_a) (nI jv5))]) rfl (Nat.le_of_ble_eq_true rfl) dX5_plan_179 ?_
                        have e15 : (if zin (nI jv3) 4 && zin (nI jv8) 3 && apl (nI jv5) && decide (0 < E) then (foc (sl (tn (nI jv3))) (sz (tn (nI jv3))) (nI jv8) (nI i_a) (nI n_a)) else nI 0) = (nI 0) := by simp [plr, apl_z, nI_0, hq2, hc3, hq4, hc5, hq6, hc8, hq9, hE0, hti_a, htn_a, hfo, hq11, hnE_, hq14, halE]
                        exact z_iret X ZF dX5_plan_182 (by simp [plr, apl_z, nI_0, hq2, hc3, hq4, hc5, hq6, hc8, hq9, hE0, hti_a, htn_a, hfo, hq11, hnE_, hq14, halE]) (by rw [e15])
                      ·
                        refine z_aload_n X dX5_plan_132 rfl 0 rfl ?_
                        refine z_aload_n X dX5_plan_133 rfl 0 rfl ?_
                        refine z_get (v := .ref (b 17)) (N := 29) X i_RX5 (ci := 4) rfl 0 rfl 26 (by decide) f_63 rfl dX5_plan_134 ?_
                        refine z_bipush (v := nI 60) X dX5_plan_137 (by decide) ?_
                        refine z_iload_n X dX5_plan_139 rfl 1 rfl ?_
                        refine z_imul' (v := nI (60 * jv3)) X dX5_plan_140 (pk_mul _ _) ?_
                        refine z_iload_n X dX5_plan_141 rfl 3 rfl ?_
                        refine z_iadd' (v := nI ((60 * jv3) + i_a)) X dX5_plan_142 (nI_add _ _) ?_
                        refine z_iload X dX5_plan_143 8 rfl ?_
                        refine z_iadd' (v := nI (((60 * jv3) + i_a) + x_v)) X dX5_plan_145 (nI_add _ _) ?_
                        refine z_ialdN X 17 rfl (by omega) (by omega) dX5_plan_146 ?_
                        refine z_callVM X (c_X5_noSet l g b ft so D E tr C lk kd st sp nd rO rB rD rW sz sl sc sm xa xb xc xd y1 y2 y3 y4 y5 hn (sc (((60 * jv3) + i_a) + x_v)) (by omega)) gX5_plan_X5_noSet rfl ⟨rfl, rfl⟩ (by decide +kernel) ⟨Nat.le_of_ble_eq_true rfl, Nat.le_of_ble_eq_true rfl⟩ ZF.room (ci := 4) rfl 0 rfl rfl (As := [.int (sc (((60 * jv3) + i_a) + x_v))]) (n := 1) rfl rfl (st1 := [.int (bI (!zin (sc (((60 * jv3) + i_a) + x_v)) (2 ^ D)))]) rfl (Nat.le_of_ble_eq_true rfl) dX5_plan_147 ?_
                        refine z_if_eqB (tgt := 160) X dX5_plan_150 (by decide) (fun hq16 => ?_) (fun hq16 => ?_)
                        ·
                          have hq17 : (zin (sc (((60 * jv3) + i_a) + x_v)) (2 ^ D)) = true := by simpa using hq16
                          refine z_iinc (v := nI (x_v + 1)) (L' := [(8, .int (nI (x_v + 1))), (0, .ref (b 0)), (1, .int (nI jv3)), (2, .int (nI jv8)), (3, .int (nI i_a)), (4, .int (nI n_a)), (5, .int (nI jv5)), (6, .int (nI 1)), (7, .int (nI 0))]) X dX5_plan_160 8 rfl (nI_inc x_v 1) (by decide) rfl ?_
                          refine z_goto (tgt := 125) X dX5_plan_163 (by decide) ?_
                          refine z_ls (L' := [(0, .ref (b 0)), (1, .int (nI jv3)), (2, .int (nI jv8)), (3, .int (nI i_a)), (4, .int (nI n_a)), (5, .int (nI jv5)), (6, .int (nI 1)), (7, .int (nI 0)), (8, .int (nI (x_v + 1)))]) [1, 2, 3, 4, 5, 6, 7, 8, 0] rfl ?_
                          exact ih13 (x_v + 1) (by omega) (by omega) (by unfold alp; rw [hal, hq17]; rfl)
                        ·
                          have hq18 : (zin (sc (((60 * jv3) + i_a) + x_v)) (2 ^ D)) = false := by simpa using hq16
                          have hal0 : alp sc ((60 * jv3) + i_a) D E = false := alp_none E (x_v + 1) (by omega) (by unfold alp; rw [hq18, Bool.and_false])
                          refine z_aload_n X dX5_plan_153 rfl 0 rfl ?_
                          refine z_bipush (v := (-2)) X dX5_plan_154 (by decide) ?_
                          refine z_callVM X (c_X5_refused l g b ft so D E tr C lk kd st sp nd rO rB rD rW sz sl sc sm xa xb xc xd y1 y2 y3 y4 y5 hn (-2)) gX5_plan_X5_refused rfl ⟨rfl, rfl⟩ (by decide +kernel) ⟨Nat.le_of_ble_eq_true rfl, Nat.le_of_ble_eq_true rfl⟩ ZF.room (ci := 4) rfl 0 rfl rfl (As := [.int (-2)]) (n := 1) rfl rfl (st1 := [.int (-2)]) rfl (Nat.le_of_ble_eq_true rfl) dX5_plan_156 ?_
                          have e19 : (if zin (nI jv3) 4 && zin (nI jv8) 3 && apl (nI jv5) && decide (0 < E) then (foc (sl (tn (nI jv3))) (sz (tn (nI jv3))) (nI jv8) (nI i_a) (nI n_a)) else nI 0) = (nI 0) := by simp [plr, apl_z, nI_0, hq2, hc3, hq4, hc5, hq6, hc8, hq9, hE0, hti_a, htn_a, hfo, hq11, hnE_, hq14, hal0]
                          exact z_iret X ZF dX5_plan_159 (by simp [plr, apl_z, nI_0, hq2, hc3, hq4, hc5, hq6, hc8, hq9, hE0, hti_a, htn_a, hfo, hq11, hnE_, hq14, hal0]) (by rw [e19])
                  refine z_ls (L' := [(0, .ref (b 0)), (1, .int (nI jv3)), (2, .int (nI jv8)), (3, .int (nI i_a)), (4, .int (nI n_a)), (5, .int (nI jv5)), (6, .int (nI 1)), (7, .int (nI 0)), (8, .int (nI 0))]) [3, 4, 5, 6, 7, 8, 2, 1, 0] rfl ?_
                  exact loopv13 (n_a + 1) 0 (by omega) (by omega) rfl
                ·
                  refine z_aload_n X dX5_plan_115 rfl 2 rfl ?_
                  refine z_bipush (v := (-2)) X dX5_plan_116 (by decide) ?_
                  refine z_callVM X (c_X5_refused l g b ft so D E tr C lk kd st sp nd rO rB rD rW sz sl sc sm xa xb xc xd y1 y2 y3 y4 y5 hn (-2)) gX5_plan_X5_refused rfl ⟨rfl, rfl⟩ (by decide +kernel) ⟨Nat.le_of_ble_eq_true rfl, Nat.le_of_ble_eq_true rfl⟩ ZF.room (ci := 4) rfl 0 rfl rfl (As := [.int (-2)]) (n := 1) rfl rfl (st1 := [.int (-2)]) rfl (Nat.le_of_ble_eq_true rfl) dX5_plan_118 ?_
                  have e20 : (if zin (nI jv3) 4 && zin (nI jv8) 3 && apl (nI jv5) && decide (0 < E) then (foc (sl (tn (nI jv3))) (sz (tn (nI jv3))) (nI jv8) (nI i_a) (nI n_a)) else nI 0) = (nI 0) := by simp [plr, apl_z, nI_0, hq2, hc3, hq4, hc5, hq6, hc8, hq9, hE0, hti_a, htn_a, hfo, hq11, hq12]
                  exact z_iret X ZF dX5_plan_121 (by simp [plr, apl_z, nI_0, hq2, hc3, hq4, hc5, hq6, hc8, hq9, hE0, hti_a, htn_a, hfo, hq11, hq12]) (by rw [e20])
              ·
                exact absurd hq11 (by decide)
            ·
              refine z_top (y := (-10) - (foc (sl jv3) (sz jv3) (nI jv8) i n)) (cb_1 hfo) ?_
              refine z_ws (ws' := (wM g b (foc (sl jv3) (sz jv3) (nI jv8) i n) so D E tr C lk kd st sp nd rO rB rD rW sz sl sc sm xa xb xc xd y1 y2 y3 y4 y5 hn)) (by rw [if_neg hfo]) ?_
              refine z_istore (L' := [(7, .int ((-10) - (foc (sl jv3) (sz jv3) (nI jv8) i n))), (6, .int (nI 1)), (0, .ref (b 0)), (1, .int (nI jv3)), (2, .int (nI jv8)), (3, .int i), (4, .int n), (5, .int (nI jv5))]) X dX5_plan_96 (by decide) rfl ?_
              refine z_iload X dX5_plan_98 0 rfl ?_
              refine z_if_ge (tgt := 106) X dX5_plan_100 (by decide) (fun hq21 => ?_) (fun hq21 => ?_)
              ·
                exact absurd hq21 (foc_neg hfo)
              ·
                refine z_iload X dX5_plan_103 0 rfl ?_
                have e22 : (if zin (nI jv3) 4 && zin (nI jv8) 3 && apl (nI jv5) && decide (0 < E) then (foc (sl (tn (nI jv3))) (sz (tn (nI jv3))) (nI jv8) i n) else nI 0) = (foc (sl jv3) (sz jv3) (nI jv8) i n) := by simp [plr, apl_z, nI_0, hq2, hc3, hq4, hc5, hq6, hc8, hq9, hE0, hfo]
                exact z_iret X ZF dX5_plan_105 (by simp [plr, apl_z, nI_0, hq2, hc3, hq4, hc5, hq6, hc8, hq9, hE0, hfo]) (by rw [e22])
          ·
            have hE0 : ¬ 0 < E := by omega
            refine z_aload_n X dX5_plan_79 rfl 1 rfl ?_
            refine z_bipush (v := (-3)) X dX5_plan_80 (by decide) ?_
            refine z_callVM X (c_X5_refused l g b ft so D E tr C lk kd st sp nd rO rB rD rW sz sl sc sm xa xb xc xd y1 y2 y3 y4 y5 hn (-3)) gX5_plan_X5_refused rfl ⟨rfl, rfl⟩ (by decide +kernel) ⟨Nat.le_of_ble_eq_true rfl, Nat.le_of_ble_eq_true rfl⟩ ZF.room (ci := 4) rfl 0 rfl rfl (As := [.int (-3)]) (n := 1) rfl rfl (st1 := [.int (-3)]) rfl (Nat.le_of_ble_eq_true rfl) dX5_plan_82 ?_
            have e23 : (if zin (nI jv3) 4 && zin (nI jv8) 3 && apl (nI jv5) && decide (0 < E) then (foc (sl (tn (nI jv3))) (sz (tn (nI jv3))) (nI jv8) i n) else nI 0) = (nI 0) := by simp [plr, apl_z, nI_0, hq2, hc3, hq4, hc5, hq6, hc8, hq9, hE0]
            exact z_iret X ZF dX5_plan_85 (by simp [plr, apl_z, nI_0, hq2, hc3, hq4, hc5, hq6, hc8, hq9, hE0]) (by rw [e23])
        ·
          exact absurd hq9 (by decide)
    ·
      refine z_iload X dX5_plan_26 5 rfl ?_
      refine z_i2l (v := (w).toInt64) X dX5_plan_28 rfl ?_
      refine z_ldc2 (v := 10) X dX5_plan_29 k_182 ?_
      refine z_ldc2 (v := 15) X dX5_plan_32 k_184 ?_
      refine z_callS0 X (c_X5_in l g ((w).toInt64) 10 15) gX5_plan_X5_in rfl ⟨rfl, rfl⟩ (by decide +kernel) ⟨Nat.le_of_ble_eq_true rfl, Nat.le_of_ble_eq_true rfl⟩ ZF.room (As := [.long ((w).toInt64), .long 10, .long 15]) (n := 3) rfl rfl (st1 := [.int (bI (zil ((w).toInt64) 10 15))]) rfl (Nat.le_of_ble_eq_true rfl) dX5_plan_35 ?_
      refine z_top (y := bI (zim w)) (bI_eq zil_im) ?_
      refine z_if_eqB (tgt := 45) X dX5_plan_38 (by decide) (fun hq24 => ?_) (fun hq24 => ?_)
      ·
        refine z_iconst (v := nI 0) X dX5_plan_45 (by decide) ?_
        refine z_istore (L' := [(6, .int (nI 0)), (0, .ref (b 0)), (1, .int (nI jv3)), (2, .int lane), (3, .int i), (4, .int n), (5, .int w)]) X dX5_plan_46 (by decide) rfl ?_
        refine z_iload_n X dX5_plan_48 rfl 3 rfl ?_
        refine z_i2l (v := (lane).toInt64) X dX5_plan_49 rfl ?_
        refine z_lconst (v := 0) X dX5_plan_50 (by decide) ?_
        refine z_ldc2 (v := 2) X dX5_plan_51 k_130 ?_
        refine z_callS0 X (c_X5_in l g ((lane).toInt64) 0 2) gX5_plan_X5_in rfl ⟨rfl, rfl⟩ (by decide +kernel) ⟨Nat.le_of_ble_eq_true rfl, Nat.le_of_ble_eq_true rfl⟩ ZF.room (As := [.long ((lane).toInt64), .long 0, .long 2]) (n := 3) rfl rfl (st1 := [.int (bI (zil ((lane).toInt64) 0 2))]) rfl (Nat.le_of_ble_eq_true rfl) dX5_plan_54 ?_
        refine z_top (y := bI (zin lane 3)) (bI_eq (zil_k (n := 2) (by decide +kernel) (by omega))) ?_
        refine z_if_eqB (tgt := 65) X dX5_plan_57 (by decide) (fun hq25 => ?_) (fun hq25 => ?_)
        ·
          refine z_aload_n X dX5_plan_65 rfl 1 rfl ?_
          refine z_bipush (v := (-2)) X dX5_plan_66 (by decide) ?_
          refine z_callVM X (c_X5_refused l g b ft so D E tr C lk kd st sp nd rO rB rD rW sz sl sc sm xa xb xc xd y1 y2 y3 y4 y5 hn (-2)) gX5_plan_X5_refused rfl ⟨rfl, rfl⟩ (by decide +kernel) ⟨Nat.le_of_ble_eq_true rfl, Nat.le_of_ble_eq_true rfl⟩ ZF.room (ci := 4) rfl 0 rfl rfl (As := [.int (-2)]) (n := 1) rfl rfl (st1 := [.int (-2)]) rfl (Nat.le_of_ble_eq_true rfl) dX5_plan_68 ?_
          have e26 : (if zin (nI jv3) 4 && zin lane 3 && apl w && decide (0 < E) then (foc (sl (tn (nI jv3))) (sz (tn (nI jv3))) lane i n) else nI 0) = (nI 0) := by simp [plr, apl_z, nI_0, hq2, hc3, hq4, hq24, hq25]
          exact z_iret X ZF dX5_plan_71 (by simp [plr, apl_z, nI_0, hq2, hc3, hq4, hq24, hq25]) (by rw [e26])
        ·
          obtain ⟨jv27, hj27, ej27⟩ := zin_t (by omega) hq25
          subst ej27
          have hc27 : tn (nI jv27) = jv27 := nI_clamp (by omega)
          refine z_iload X dX5_plan_60 0 rfl ?_
          refine z_if_neN (tgt := 72) X dX5_plan_62 (by decide) (by omega) (fun hq28 => ?_) (fun hq28 => ?_)
          ·
            exact absurd hq28 (by decide)
          ·
            refine z_aload_n X dX5_plan_65 rfl 1 rfl ?_
            refine z_bipush (v := (-2)) X dX5_plan_66 (by decide) ?_
            refine z_callVM X (c_X5_refused l g b ft so D E tr C lk kd st sp nd rO rB rD rW sz sl sc sm xa xb xc xd y1 y2 y3 y4 y5 hn (-2)) gX5_plan_X5_refused rfl ⟨rfl, rfl⟩ (by decide +kernel) ⟨Nat.le_of_ble_eq_true rfl, Nat.le_of_ble_eq_true rfl⟩ ZF.room (ci := 4) rfl 0 rfl rfl (As := [.int (-2)]) (n := 1) rfl rfl (st1 := [.int (-2)]) rfl (Nat.le_of_ble_eq_true rfl) dX5_plan_68 ?_
            have e29 : (if zin (nI jv3) 4 && zin (nI jv27) 3 && apl w && decide (0 < E) then (foc (sl (tn (nI jv3))) (sz (tn (nI jv3))) (nI jv27) i n) else nI 0) = (nI 0) := by simp [plr, apl_z, nI_0, hq2, hc3, hq4, hq24, hq25, hc27, hq28]
            exact z_iret X ZF dX5_plan_71 (by simp [plr, apl_z, nI_0, hq2, hc3, hq4, hq24, hq25, hc27, hq28]) (by rw [e29])
      ·
        obtain ⟨w_a, hw1_a, hw2_a, ew_a⟩ := zim_t hq24
        subst ew_a
        refine z_iconst (v := nI 1) X dX5_plan_41 (by decide) ?_
        refine z_goto (tgt := 46) X dX5_plan_42 (by decide) ?_
        refine z_istore (L' := [(6, .int (nI 1)), (0, .ref (b 0)), (1, .int (nI jv3)), (2, .int lane), (3, .int i), (4, .int n), (5, .int (nI w_a))]) X dX5_plan_46 (by decide) rfl ?_
        refine z_iload_n X dX5_plan_48 rfl 3 rfl ?_
        refine z_i2l (v := (lane).toInt64) X dX5_plan_49 rfl ?_
        refine z_lconst (v := 0) X dX5_plan_50 (by decide) ?_
        refine z_ldc2 (v := 2) X dX5_plan_51 k_130 ?_
        refine z_callS0 X (c_X5_in l g ((lane).toInt64) 0 2) gX5_plan_X5_in rfl ⟨rfl, rfl⟩ (by decide +kernel) ⟨Nat.le_of_ble_eq_true rfl, Nat.le_of_ble_eq_true rfl⟩ ZF.room (As := [.long ((lane).toInt64), .long 0, .long 2]) (n := 3) rfl rfl (st1 := [.int (bI (zil ((lane).toInt64) 0 2))]) rfl (Nat.le_of_ble_eq_true rfl) dX5_plan_54 ?_
        refine z_top (y := bI (zin lane 3)) (bI_eq (zil_k (n := 2) (by decide +kernel) (by omega))) ?_
        refine z_if_eqB (tgt := 65) X dX5_plan_57 (by decide) (fun hq30 => ?_) (fun hq30 => ?_)
        ·
          refine z_aload_n X dX5_plan_65 rfl 1 rfl ?_
          refine z_bipush (v := (-2)) X dX5_plan_66 (by decide) ?_
          refine z_callVM X (c_X5_refused l g b ft so D E tr C lk kd st sp nd rO rB rD rW sz sl sc sm xa xb xc xd y1 y2 y3 y4 y5 hn (-2)) gX5_plan_X5_refused rfl ⟨rfl, rfl⟩ (by decide +kernel) ⟨Nat.le_of_ble_eq_true rfl, Nat.le_of_ble_eq_true rfl⟩ ZF.room (ci := 4) rfl 0 rfl rfl (As := [.int (-2)]) (n := 1) rfl rfl (st1 := [.int (-2)]) rfl (Nat.le_of_ble_eq_true rfl) dX5_plan_68 ?_
          have e31 : (if zin (nI jv3) 4 && zin lane 3 && apl (nI w_a) && decide (0 < E) then (foc (sl (tn (nI jv3))) (sz (tn (nI jv3))) lane i n) else nI 0) = (nI 0) := by simp [plr, apl_z, nI_0, hq2, hc3, hq4, hq24, hq30]
          exact z_iret X ZF dX5_plan_71 (by simp [plr, apl_z, nI_0, hq2, hc3, hq4, hq24, hq30]) (by rw [e31])
        ·
          obtain ⟨jv32, hj32, ej32⟩ := zin_t (by omega) hq30
          subst ej32
          have hc32 : tn (nI jv32) = jv32 := nI_clamp (by omega)
          refine z_iload X dX5_plan_60 0 rfl ?_
          refine z_if_neN (tgt := 72) X dX5_plan_62 (by decide) (by omega) (fun hq33 => ?_) (fun hq33 => ?_)
          ·
            refine z_aload_n X dX5_plan_72 rfl 1 rfl ?_
            refine z_get (v := .int (nI E)) (N := 29) X i_RX5 (ci := 4) rfl 0 rfl 4 (by decide) f_85 rfl dX5_plan_73 ?_
            refine z_if_neN (tgt := 86) X dX5_plan_76 (by decide) (by omega) (fun hq34 => ?_) (fun hq34 => ?_)
            ·
              have hE0 : 0 < E := by omega
              refine z_aload_n X dX5_plan_86 rfl 1 rfl ?_
              refine z_iload_n X dX5_plan_87 rfl 2 rfl ?_
              refine z_iload_n X dX5_plan_88 rfl 3 rfl ?_
              refine z_iload_n X dX5_plan_89 rfl 4 rfl ?_
              refine z_iload X dX5_plan_90 5 rfl ?_
              refine z_i2l (v := (n).toInt64) X dX5_plan_92 rfl ?_
              refine z_callVM X (c_X5_cellsBarred l g b ft so D E tr C lk kd st sp nd rO rB rD rW sz sl sc sm xa xb xc xd y1 y2 y3 y4 y5 hn jv3 (nI jv32) i n (by omega) (by first | assumption | omega)) gX5_plan_X5_cellsBarred rfl ⟨rfl, rfl⟩ (by decide +kernel) ⟨Nat.le_of_ble_eq_true rfl, Nat.le_of_ble_eq_true rfl⟩ ZF.room (ci := 4) rfl 0 rfl rfl (As := [.int (nI jv3), .int (nI jv32), .int i, .long ((n).toInt64)]) (n := 4) rfl rfl (st1 := [.int (cbI (foc (sl jv3) (sz jv3) (nI jv32) i n))]) rfl (Nat.le_of_ble_eq_true rfl) dX5_plan_93 ?_
              by_cases hfo : foc (sl jv3) (sz jv3) (nI jv32) i n = 0
              ·
                refine z_top (y := nI 0) (cb_0 hfo) ?_
                refine z_ws (ws' := (wM g b ft so D E tr C lk kd st sp nd rO rB rD rW sz sl sc sm xa xb xc xd y1 y2 y3 y4 y5 hn)) (by rw [if_pos hfo]) ?_
                obtain ⟨i_a, n_a, ei_a, en_a, hin_a, m_a, hm_a, him_a⟩ := foc0 (hle _ (by omega)) hfo
                subst ei_a; subst en_a
                have hti_a : tn (nI i_a) = i_a := nI_clamp (by omega)
                have htn_a : tn (nI n_a) = n_a := nI_clamp (by omega)
                refine z_istore (L' := [(7, .int (nI 0)), (6, .int (nI 1)), (0, .ref (b 0)), (1, .int (nI jv3)), (2, .int (nI jv32)), (3, .int (nI i_a)), (4, .int (nI n_a)), (5, .int (nI w_a))]) X dX5_plan_96 (by decide) rfl ?_
                refine z_iload X dX5_plan_98 0 rfl ?_
                refine z_if_geN (tgt := 106) X dX5_plan_100 (by decide) (by omega) (fun hq35 => ?_) (fun hq35 => ?_)
                ·
                  refine z_iload X dX5_plan_106 6 rfl ?_
                  refine z_aload_n X dX5_plan_108 rfl 2 rfl ?_
                  refine z_get (v := .int (nI E)) (N := 29) X i_RX5 (ci := 4) rfl 0 rfl 4 (by decide) f_85 rfl dX5_plan_109 ?_
                  refine z_icmp_eqN (tgt := 122) X dX5_plan_112 (by decide) (by omega) (by omega) (fun hq36 => ?_) (fun hq36 => ?_)
                  ·
                    have hnE_ : (n_a = E) = True := eq_true hq36
                    refine z_iconst (v := nI 0) X dX5_plan_122 (by decide) ?_
                    refine z_istore (L' := [(8, .int (nI 0)), (7, .int (nI 0)), (6, .int (nI 1)), (0, .ref (b 0)), (1, .int (nI jv3)), (2, .int (nI jv32)), (3, .int (nI i_a)), (4, .int (nI n_a)), (5, .int (nI w_a))]) X dX5_plan_123 (by decide) rfl ?_
                    have loopv37 : ∀ (n37 x_v : Nat), x_v ≤ n_a → n_a + 1 ≤ x_v + n37 → (alp sc ((60 * jv3) + i_a) D x_v = true) → zG l g 9 M (wM g b ft so D E tr C lk kd st sp nd rO rB rD rW sz sl sc sm xa xb xc xd y1 y2 y3 y4 y5 hn) [(0, .ref (b 0)), (1, .int (nI jv3)), (2, .int (nI jv32)), (3, .int (nI i_a)), (4, .int (nI n_a)), (5, .int (nI w_a)), (6, .int (nI 1)), (7, .int (nI 0)), (8, .int (nI x_v))] 125 [] := by
                      intro n37
                      induction n37 with
                      | zero => intro x_v h1 h2 _; exact absurd h2 (by omega)
                      | succ n37 ih37 =>
                        intro x_v hi37 hn37 hal
                        refine z_iload X dX5_plan_125 8 rfl ?_
                        refine z_iload X dX5_plan_127 4 rfl ?_
                        refine z_icmp_geN (tgt := 166) X dX5_plan_129 (by decide) (by omega) (by omega) (fun hq38 => ?_) (fun hq38 => ?_)
                        ·
                          have halE : alp sc ((60 * jv3) + i_a) D E = true := by rw [show E = x_v by omega]; exact hal
                          have hF := alp_hF hD halE
                          refine z_aload_n X dX5_plan_166 rfl 0 rfl ?_
                          refine z_aload_n X dX5_plan_167 rfl 0 rfl ?_
                          refine z_bipush (v := nI 60) X dX5_plan_168 (by decide) ?_
                          refine z_iload_n X dX5_plan_170 rfl 1 rfl ?_
                          refine z_imul' (v := nI (60 * jv3)) X dX5_plan_171 (pk_mul _ _) ?_
                          refine z_iload_n X dX5_plan_172 rfl 3 rfl ?_
                          refine z_iadd' (v := nI ((60 * jv3) + i_a)) X dX5_plan_173 (nI_add _ _) ?_
                          refine z_iload X dX5_plan_174 5 rfl ?_
                          refine z_callVM X (c_X5_planBy_m l g b ft so D E tr C lk kd st sp nd rO rB rD rW sz sl sc sm xa xb xc xd y1 y2 y3 y4 y5 hn ((60 * jv3) + i_a) w_a (by omega) (by omega) hL (by first | assumption | omega) (by first | assumption | omega) hF (by omega) (by omega) (by omega)) gX5_plan_X5_planBy rfl ⟨rfl, rfl⟩ (by decide +kernel) ⟨Nat.le_of_ble_eq_true rfl, Nat.le_of_ble_eq_true rfl⟩ ZF.room (ci := 4) rfl 0 rfl rfl (As := [.int (nI ((60 * jv3) + i_a)), .int (nI w_a)]) (n := 2) rfl rfl (st1 := [.int (ofp D E lk so kd st sp nd sc ((60 * jv3) + i_a) (nI w_a)), .ref (b 0)]) rfl (Nat.le_of_ble_eq_true rfl) dX5_plan_176 ?_
                          refine z_callVM X (c_X5_refused l g b ft so D E tr C lk kd st sp nd rO rB rD rW sz sl sc sm xa xb xc xd y1 y2 y3 y4 y5 hn (ofp D E lk so kd st sp nd sc ((60 * jv3) + i_a) (nI w_a))) gX5_plan_X5_refused rfl ⟨rfl, rfl⟩ (by decide +kernel) ⟨Nat.le_of_ble_eq_true rfl, Nat.le_of_ble_eq_true rfl⟩ ZF.room (ci := 4) rfl 0 rfl rfl (As := [.int (ofp D E lk so kd st sp nd sc ((60 * jv3) + i_a) (nI w_a))]) (n := 1) rfl rfl (st1 := [.int (ofp D E lk so kd st sp nd sc ((60 * jv3) + i_a) (nI w_a))]) rfl (Nat.le_of_ble_eq_true rfl) dX5_plan_179 ?_
                          have e39 : (if zin (nI jv3) 4 && zin (nI jv32) 3 && apl (nI w_a) && decide (0 < E) then (foc (sl (tn (nI jv3))) (sz (tn (nI jv3))) (nI jv32) (nI i_a) (nI n_a)) else nI 0) = (nI 0) := by simp [plr, apl_z, nI_0, hq2, hc3, hq4, hq24, hq30, hc32, hq33, hE0, hti_a, htn_a, hfo, hq35, hnE_, hq38, halE]
                          exact z_iret X ZF dX5_plan_182 (by simp [plr, apl_z, nI_0, hq2, hc3, hq4, hq24, hq30, hc32, hq33, hE0, hti_a, htn_a, hfo, hq35, hnE_, hq38, halE]) (by rw [e39])
                        ·
                          refine z_aload_n X dX5_plan_132 rfl 0 rfl ?_
                          refine z_aload_n X dX5_plan_133 rfl 0 rfl ?_
                          refine z_get (v := .ref (b 17)) (N := 29) X i_RX5 (ci := 4) rfl 0 rfl 26 (by decide) f_63 rfl dX5_plan_134 ?_
                          refine z_bipush (v := nI 60) X dX5_plan_137 (by decide) ?_
                          refine z_iload_n X dX5_plan_139 rfl 1 rfl ?_
                          refine z_imul' (v := nI (60 * jv3)) X dX5_plan_140 (pk_mul _ _) ?_
                          refine z_iload_n X dX5_plan_141 rfl 3 rfl ?_
                          refine z_iadd' (v := nI ((60 * jv3) + i_a)) X dX5_plan_142 (nI_add _ _) ?_
                          refine z_iload X dX5_plan_143 8 rfl ?_
                          refine z_iadd' (v := nI (((60 * jv3) + i_a) + x_v)) X dX5_plan_145 (nI_add _ _) ?_
                          refine z_ialdN X 17 rfl (by omega) (by omega) dX5_plan_146 ?_
                          refine z_callVM X (c_X5_noSet l g b ft so D E tr C lk kd st sp nd rO rB rD rW sz sl sc sm xa xb xc xd y1 y2 y3 y4 y5 hn (sc (((60 * jv3) + i_a) + x_v)) (by omega)) gX5_plan_X5_noSet rfl ⟨rfl, rfl⟩ (by decide +kernel) ⟨Nat.le_of_ble_eq_true rfl, Nat.le_of_ble_eq_true rfl⟩ ZF.room (ci := 4) rfl 0 rfl rfl (As := [.int (sc (((60 * jv3) + i_a) + x_v))]) (n := 1) rfl rfl (st1 := [.int (bI (!zin (sc (((60 * jv3) + i_a) + x_v)) (2 ^ D)))]) rfl (Nat.le_of_ble_eq_true rfl) dX5_plan_147 ?_
                          refine z_if_eqB (tgt := 160) X dX5_plan_150 (by decide) (fun hq40 => ?_) (fun hq40 => ?_)
                          ·
                            have hq41 : (zin (sc (((60 * jv3) + i_a) + x_v)) (2 ^ D)) = true := by simpa using hq40
                            refine z_iinc (v := nI (x_v + 1)) (L' := [(8, .int (nI (x_v + 1))), (0, .ref (b 0)), (1, .int (nI jv3)), (2, .int (nI jv32)), (3, .int (nI i_a)), (4, .int (nI n_a)), (5, .int (nI w_a)), (6, .int (nI 1)), (7, .int (nI 0))]) X dX5_plan_160 8 rfl (nI_inc x_v 1) (by decide) rfl ?_
                            refine z_goto (tgt := 125) X dX5_plan_163 (by decide) ?_
                            refine z_ls (L' := [(0, .ref (b 0)), (1, .int (nI jv3)), (2, .int (nI jv32)), (3, .int (nI i_a)), (4, .int (nI n_a)), (5, .int (nI w_a)), (6, .int (nI 1)), (7, .int (nI 0)), (8, .int (nI (x_v + 1)))]) [1, 2, 3, 4, 5, 6, 7, 8, 0] rfl ?_
                            exact ih37 (x_v + 1) (by omega) (by omega) (by unfold alp; rw [hal, hq41]; rfl)
                          ·
                            have hq42 : (zin (sc (((60 * jv3) + i_a) + x_v)) (2 ^ D)) = false := by simpa using hq40
                            have hal0 : alp sc ((60 * jv3) + i_a) D E = false := alp_none E (x_v + 1) (by omega) (by unfold alp; rw [hq42, Bool.and_false])
                            refine z_aload_n X dX5_plan_153 rfl 0 rfl ?_
                            refine z_bipush (v := (-2)) X dX5_plan_154 (by decide) ?_
                            refine z_callVM X (c_X5_refused l g b ft so D E tr C lk kd st sp nd rO rB rD rW sz sl sc sm xa xb xc xd y1 y2 y3 y4 y5 hn (-2)) gX5_plan_X5_refused rfl ⟨rfl, rfl⟩ (by decide +kernel) ⟨Nat.le_of_ble_eq_true rfl, Nat.le_of_ble_eq_true rfl⟩ ZF.room (ci := 4) rfl 0 rfl rfl (As := [.int (-2)]) (n := 1) rfl rfl (st1 := [.int (-2)]) rfl (Nat.le_of_ble_eq_true rfl) dX5_plan_156 ?_
                            have e43 : (if zin (nI jv3) 4 && zin (nI jv32) 3 && apl (nI w_a) && decide (0 < E) then (foc (sl (tn (nI jv3))) (sz (tn (nI jv3))) (nI jv32) (nI i_a) (nI n_a)) else nI 0) = (nI 0) := by simp [plr, apl_z, nI_0, hq2, hc3, hq4, hq24, hq30, hc32, hq33, hE0, hti_a, htn_a, hfo, hq35, hnE_, hq38, hal0]
                            exact z_iret X ZF dX5_plan_159 (by simp [plr, apl_z, nI_0, hq2, hc3, hq4, hq24, hq30, hc32, hq33, hE0, hti_a, htn_a, hfo, hq35, hnE_, hq38, hal0]) (by rw [e43])
                    refine z_ls (L' := [(0, .ref (b 0)), (1, .int (nI jv3)), (2, .int (nI jv32)), (3, .int (nI i_a)), (4, .int (nI n_a)), (5, .int (nI w_a)), (6, .int (nI 1)), (7, .int (nI 0)), (8, .int (nI 0))]) [3, 4, 5, 6, 7, 8, 2, 1, 0] rfl ?_
                    exact loopv37 (n_a + 1) 0 (by omega) (by omega) rfl
                  ·
                    refine z_aload_n X dX5_plan_115 rfl 2 rfl ?_
                    refine z_bipush (v := (-2)) X dX5_plan_116 (by decide) ?_
                    refine z_callVM X (c_X5_refused l g b ft so D E tr C lk kd st sp nd rO rB rD rW sz sl sc sm xa xb xc xd y1 y2 y3 y4 y5 hn (-2)) gX5_plan_X5_refused rfl ⟨rfl, rfl⟩ (by decide +kernel) ⟨Nat.le_of_ble_eq_true rfl, Nat.le_of_ble_eq_true rfl⟩ ZF.room (ci := 4) rfl 0 rfl rfl (As := [.int (-2)]) (n := 1) rfl rfl (st1 := [.int (-2)]) rfl (Nat.le_of_ble_eq_true rfl) dX5_plan_118 ?_
                    have e44 : (if zin (nI jv3) 4 && zin (nI jv32) 3 && apl (nI w_a) && decide (0 < E) then (foc (sl (tn (nI jv3))) (sz (tn (nI jv3))) (nI jv32) (nI i_a) (nI n_a)) else nI 0) = (nI 0) := by simp [plr, apl_z, nI_0, hq2, hc3, hq4, hq24, hq30, hc32, hq33, hE0, hti_a, htn_a, hfo, hq35, hq36]
                    exact z_iret X ZF dX5_plan_121 (by simp [plr, apl_z, nI_0, hq2, hc3, hq4, hq24, hq30, hc32, hq33, hE0, hti_a, htn_a, hfo, hq35, hq36]) (by rw [e44])
                ·
                  exact absurd hq35 (by decide)
              ·
                refine z_top (y := (-10) - (foc (sl jv3) (sz jv3) (nI jv32) i n)) (cb_1 hfo) ?_
                refine z_ws (ws' := (wM g b (foc (sl jv3) (sz jv3) (nI jv32) i n) so D E tr C lk kd st sp nd rO rB rD rW sz sl sc sm xa xb xc xd y1 y2 y3 y4 y5 hn)) (by rw [if_neg hfo]) ?_
                refine z_istore (L' := [(7, .int ((-10) - (foc (sl jv3) (sz jv3) (nI jv32) i n))), (6, .int (nI 1)), (0, .ref (b 0)), (1, .int (nI jv3)), (2, .int (nI jv32)), (3, .int i), (4, .int n), (5, .int (nI w_a))]) X dX5_plan_96 (by decide) rfl ?_
                refine z_iload X dX5_plan_98 0 rfl ?_
                refine z_if_ge (tgt := 106) X dX5_plan_100 (by decide) (fun hq45 => ?_) (fun hq45 => ?_)
                ·
                  exact absurd hq45 (foc_neg hfo)
                ·
                  refine z_iload X dX5_plan_103 0 rfl ?_
                  have e46 : (if zin (nI jv3) 4 && zin (nI jv32) 3 && apl (nI w_a) && decide (0 < E) then (foc (sl (tn (nI jv3))) (sz (tn (nI jv3))) (nI jv32) i n) else nI 0) = (foc (sl jv3) (sz jv3) (nI jv32) i n) := by simp [plr, apl_z, nI_0, hq2, hc3, hq4, hq24, hq30, hc32, hq33, hE0, hfo]
                  exact z_iret X ZF dX5_plan_105 (by simp [plr, apl_z, nI_0, hq2, hc3, hq4, hq24, hq30, hc32, hq33, hE0, hfo]) (by rw [e46])
            ·
              have hE0 : ¬ 0 < E := by omega
              refine z_aload_n X dX5_plan_79 rfl 1 rfl ?_
              refine z_bipush (v := (-3)) X dX5_plan_80 (by decide) ?_
              refine z_callVM X (c_X5_refused l g b ft so D E tr C lk kd st sp nd rO rB rD rW sz sl sc sm xa xb xc xd y1 y2 y3 y4 y5 hn (-3)) gX5_plan_X5_refused rfl ⟨rfl, rfl⟩ (by decide +kernel) ⟨Nat.le_of_ble_eq_true rfl, Nat.le_of_ble_eq_true rfl⟩ ZF.room (ci := 4) rfl 0 rfl rfl (As := [.int (-3)]) (n := 1) rfl rfl (st1 := [.int (-3)]) rfl (Nat.le_of_ble_eq_true rfl) dX5_plan_82 ?_
              have e47 : (if zin (nI jv3) 4 && zin (nI jv32) 3 && apl (nI w_a) && decide (0 < E) then (foc (sl (tn (nI jv3))) (sz (tn (nI jv3))) (nI jv32) i n) else nI 0) = (nI 0) := by simp [plr, apl_z, nI_0, hq2, hc3, hq4, hq24, hq30, hc32, hq33, hE0]
              exact z_iret X ZF dX5_plan_85 (by simp [plr, apl_z, nI_0, hq2, hc3, hq4, hq24, hq30, hc32, hq33, hE0]) (by rw [e47])
          ·
            exact absurd hq33 (by decide)
  ·
    have hq48 : (zin k 4) = false := by simpa using hq1
    refine z_aload_n X dX5_plan_7 rfl 0 rfl ?_
    refine z_iconst (v := (-1)) X dX5_plan_8 (by decide) ?_
    refine z_callVM X (c_X5_refused l g b ft so D E tr C lk kd st sp nd rO rB rD rW sz sl sc sm xa xb xc xd y1 y2 y3 y4 y5 hn (-1)) gX5_plan_X5_refused rfl ⟨rfl, rfl⟩ (by decide +kernel) ⟨Nat.le_of_ble_eq_true rfl, Nat.le_of_ble_eq_true rfl⟩ ZF.room (ci := 4) rfl 0 rfl rfl (As := [.int (-1)]) (n := 1) rfl rfl (st1 := [.int (-1)]) rfl (Nat.le_of_ble_eq_true rfl) dX5_plan_9 ?_
    have e49 : (if zin k 4 && zin lane 3 && apl w && decide (0 < E) then (foc (sl (tn k)) (sz (tn k)) lane i n) else nI 0) = (nI 0) := by simp [plr, apl_z, nI_0, hq48]
    exact z_iret X ZF dX5_plan_12 (by simp [plr, apl_z, nI_0, hq48]) (by rw [e49])
abbrev rX5_copy : Room := { frames := 2, cells := 0, slots := 0, locals := 45 }
set_option maxHeartbeats 4000000 in
set_option maxRecDepth 100000 in
theorem c_X5_copy (l : Launch) (g : zg) (b : Nat → Nat) (ft : Int32) (so : Int32) (D : Nat) (E : Nat) (tr : Int32) (C : Nat) (lk : Nat → Int32) (kd : Nat → Int32) (st : Nat → Int32) (sp : Nat → Int32) (nd : Nat → Int32) (rO : Nat → Int32) (rB : Nat → Int32) (rD : Nat → Int32) (rW : Nat → Int32) (sz : Nat → Int32) (sl : Nat → Int32) (sc : Nat → Int32) (sm : Int32) (xa : Nat) (xb : Int32) (xc : Nat) (xd : Nat) (y1 : Nat → Int32) (y2 : Nat → Int32) (y3 : Nat → Int32) (y4 : Nat → Int32) (y5 : Nat → Int32) (hn : Nat → Int32) (k : Int32) (i : Int32) (o : Int32) (j : Int32) (n : Int32) (hle : ∀ k_, k_ < 4 → vle (sz k_)) : zM l g yX5_copy wsX5_copy rX5_copy [.ref (b 0), .int k, .int i, .int o, .int j, .int n] (wM g b ft so D E tr C lk kd st sp nd rO rB rD rW sz sl sc sm xa xb xc xd y1 y2 y3 y4 y5 hn) (some (.int (if zin k 4 && zin o 4 then cor (sl (tn k)) (sz (tn k)) (sl (tn o)) (sz (tn o)) i j n else -1))) (wM g b (if zin k 4 && zin o 4 then cof (sl (tn k)) (sz (tn k)) (sl (tn o)) (sz (tn o)) i j n else nI 0) so D E tr C lk kd st sp nd rO rB rD rW sz sl (if zin k 4 && zin o 4 && cok (sl (tn k)) (sz (tn k)) (sl (tn o)) (sz (tn o)) i j n then cpf sc (hnd hn sc (60 * tn k + tn i) (tn n)) (60 * tn o + tn j) (tn n) else sc) sm xa xb xc xd y1 y2 y3 y4 y5 (if zin k 4 && zin o 4 && cok (sl (tn k)) (sz (tn k)) (sl (tn o)) (sz (tn o)) i j n then hnd hn sc (60 * tn k + tn i) (tn n) else hn)) := by
  refine z_met (own := RX5) (cc := cX5_copy) (maxL := 7) (ret := some .int) (by decide +kernel) rfl rfl (Nat.le_of_ble_eq_true rfl) ?_
  intro M X ZF
  refine z_Le (L' := [(0, .ref (b 0)), (1, .int k), (2, .int i), (3, .int o), (4, .int j), (5, .int n)]) rfl ?_
  have i_RX5 : ∀ w ∈ wsX50, w ∈ wsX5_copy := by decide +kernel
  have f_57 : Cond.fieldLink RX5 57 (TX5 24).1 (TX5 24).2.1 (TX5 24).2.2.1 ∈ wsX5_copy := by decide +kernel
  have f_60 : Cond.fieldLink RX5 60 (TX5 25).1 (TX5 25).2.1 (TX5 25).2.2.1 ∈ wsX5_copy := by decide +kernel
  have f_63 : Cond.fieldLink RX5 63 (TX5 26).1 (TX5 26).2.1 (TX5 26).2.2.1 ∈ wsX5_copy := by decide +kernel
  have f_66 : Cond.fieldLink RX5 66 (TX5 27).1 (TX5 27).2.1 (TX5 27).2.2.1 ∈ wsX5_copy := by decide +kernel
  refine z_iload_n X dX5_copy_0 rfl 1 rfl ?_
  refine z_callS0 X (c_X5_noSheet l g k) gX5_copy_X5_noSheet rfl ⟨rfl, rfl⟩ (by decide +kernel) ⟨Nat.le_of_ble_eq_true rfl, Nat.le_of_ble_eq_true rfl⟩ ZF.room (As := [.int k]) (n := 1) rfl rfl (st1 := [.int (bI (!zin k 4))]) rfl (Nat.le_of_ble_eq_true rfl) dX5_copy_1 ?_
  refine z_if_neB (tgt := 14) X dX5_copy_4 (by decide) (fun hq1 => ?_) (fun hq1 => ?_)
  ·
    have hq2 : (zin k 4) = false := by simpa using hq1
    refine z_aload_n X dX5_copy_14 rfl 0 rfl ?_
    refine z_iconst (v := (-1)) X dX5_copy_15 (by decide) ?_
    refine z_callVM X (c_X5_refused l g b ft so D E tr C lk kd st sp nd rO rB rD rW sz sl sc sm xa xb xc xd y1 y2 y3 y4 y5 hn (-1)) gX5_copy_X5_refused rfl ⟨rfl, rfl⟩ (by decide +kernel) ⟨Nat.le_of_ble_eq_true rfl, Nat.le_of_ble_eq_true rfl⟩ ZF.room (ci := 4) rfl 0 rfl rfl (As := [.int (-1)]) (n := 1) rfl rfl (st1 := [.int (-1)]) rfl (Nat.le_of_ble_eq_true rfl) dX5_copy_16 ?_
    have e3 : (if zin k 4 && zin o 4 then cof (sl (tn k)) (sz (tn k)) (sl (tn o)) (sz (tn o)) i j n else nI 0) = (nI 0) := by first | (simp [cor, cof, cok, hq2]; done) | (simp [cor, cof, cok, hq2]; decide)
    have e4 : (if zin k 4 && zin o 4 && cok (sl (tn k)) (sz (tn k)) (sl (tn o)) (sz (tn o)) i j n then cpf sc (hnd hn sc (60 * tn k + tn i) (tn n)) (60 * tn o + tn j) (tn n) else sc) = sc := by first | (simp [cor, cof, cok, hq2]; done) | (simp [cor, cof, cok, hq2]; decide)
    have e5 : (if zin k 4 && zin o 4 && cok (sl (tn k)) (sz (tn k)) (sl (tn o)) (sz (tn o)) i j n then hnd hn sc (60 * tn k + tn i) (tn n) else hn) = hn := by first | (simp [cor, cof, cok, hq2]; done) | (simp [cor, cof, cok, hq2]; decide)
    exact z_iret X ZF dX5_copy_19 (by first | (simp [cor, cof, cok, hq2]; done) | (simp [cor, cof, cok, hq2]; decide)) (by first | rw [e5, e4, e3] | (simp only [e5, e4, e3]))
  ·
    have hq6 : (zin k 4) = true := by simpa using hq1
    obtain ⟨jv7, hj7, ej7⟩ := zin_t (by omega) hq6
    subst ej7
    have hc7 : tn (nI jv7) = jv7 := nI_clamp (by omega)
    refine z_iload_n X dX5_copy_7 rfl 3 rfl ?_
    refine z_callS0 X (c_X5_noSheet l g o) gX5_copy_X5_noSheet rfl ⟨rfl, rfl⟩ (by decide +kernel) ⟨Nat.le_of_ble_eq_true rfl, Nat.le_of_ble_eq_true rfl⟩ ZF.room (As := [.int o]) (n := 1) rfl rfl (st1 := [.int (bI (!zin o 4))]) rfl (Nat.le_of_ble_eq_true rfl) dX5_copy_8 ?_
    refine z_if_eqB (tgt := 20) X dX5_copy_11 (by decide) (fun hq8 => ?_) (fun hq8 => ?_)
    ·
      have hq9 : (zin o 4) = true := by simpa using hq8
      obtain ⟨jv10, hj10, ej10⟩ := zin_t (by omega) hq9
      subst ej10
      have hc10 : tn (nI jv10) = jv10 := nI_clamp (by omega)
      refine z_aload_n X dX5_copy_20 rfl 0 rfl ?_
      refine z_get (v := .ref (b 15)) (N := 29) X i_RX5 (ci := 4) rfl 0 rfl 24 (by decide) f_57 rfl dX5_copy_21 ?_
      refine z_iload_n X dX5_copy_24 rfl 1 rfl ?_
      refine z_ialdN X 15 rfl (by omega) (by omega) dX5_copy_25 ?_
      refine z_if_lt (tgt := 38) X dX5_copy_26 (by decide) (fun hq11 => ?_) (fun hq11 => ?_)
      ·
        have hf_k := vle_neg (hle _ (by omega)) hq11
        refine z_aload_n X dX5_copy_38 rfl 0 rfl ?_
        refine z_iconst (v := nI 1) X dX5_copy_39 (by decide) ?_
        refine z_callVM X (c_X5_failed l g b ft so D E tr C lk kd st sp nd rO rB rD rW sz sl sc sm xa xb xc xd y1 y2 y3 y4 y5 hn (nI 1)) gX5_copy_X5_failed rfl ⟨rfl, rfl⟩ (by decide +kernel) ⟨Nat.le_of_ble_eq_true rfl, Nat.le_of_ble_eq_true rfl⟩ ZF.room (ci := 4) rfl 0 rfl rfl (As := [.int (nI 1)]) (n := 1) rfl rfl (st1 := [.int ((-10) - (nI 1))]) rfl (Nat.le_of_ble_eq_true rfl) dX5_copy_40 ?_
        have e12 : (if zin (nI jv7) 4 && zin (nI jv10) 4 then cof (sl (tn (nI jv7))) (sz (tn (nI jv7))) (sl (tn (nI jv10))) (sz (tn (nI jv10))) i j n else nI 0) = (nI 1) := by first | (simp [cor, cof, cok, hq6, hc7, hq9, hc10, hf_k]; done) | (simp [cor, cof, cok, hq6, hc7, hq9, hc10, hf_k]; decide)
        have e13 : (if zin (nI jv7) 4 && zin (nI jv10) 4 && cok (sl (tn (nI jv7))) (sz (tn (nI jv7))) (sl (tn (nI jv10))) (sz (tn (nI jv10))) i j n then cpf sc (hnd hn sc (60 * tn (nI jv7) + tn i) (tn n)) (60 * tn (nI jv10) + tn j) (tn n) else sc) = sc := by first | (simp [cor, cof, cok, hq6, hc7, hq9, hc10, hf_k]; done) | (simp [cor, cof, cok, hq6, hc7, hq9, hc10, hf_k]; decide)
        have e14 : (if zin (nI jv7) 4 && zin (nI jv10) 4 && cok (sl (tn (nI jv7))) (sz (tn (nI jv7))) (sl (tn (nI jv10))) (sz (tn (nI jv10))) i j n then hnd hn sc (60 * tn (nI jv7) + tn i) (tn n) else hn) = hn := by first | (simp [cor, cof, cok, hq6, hc7, hq9, hc10, hf_k]; done) | (simp [cor, cof, cok, hq6, hc7, hq9, hc10, hf_k]; decide)
        exact z_iret X ZF dX5_copy_43 (by first | (simp [cor, cof, cok, hq6, hc7, hq9, hc10, hf_k]; done) | (simp [cor, cof, cok, hq6, hc7, hq9, hc10, hf_k]; decide)) (by first | rw [e14, e13, e12] | (simp only [e14, e13, e12]))
      ·
        obtain ⟨hn_k, m_k, hm_k, hmz_k⟩ := vle_pos (hle _ (by omega)) hq11
        refine z_aload_n X dX5_copy_29 rfl 0 rfl ?_
        refine z_get (v := .ref (b 15)) (N := 29) X i_RX5 (ci := 4) rfl 0 rfl 24 (by decide) f_57 rfl dX5_copy_30 ?_
        refine z_iload_n X dX5_copy_33 rfl 3 rfl ?_
        refine z_ialdN X 15 rfl (by omega) (by omega) dX5_copy_34 ?_
        refine z_if_ge (tgt := 44) X dX5_copy_35 (by decide) (fun hq15 => ?_) (fun hq15 => ?_)
        ·
          obtain ⟨hn_o, m_o, hm_o, hmz_o⟩ := vle_ge (hle _ (by omega)) hq15
          refine z_aload_n X dX5_copy_44 rfl 0 rfl ?_
          refine z_get (v := .ref (b 16)) (N := 29) X i_RX5 (ci := 4) rfl 0 rfl 25 (by decide) f_60 rfl dX5_copy_45 ?_
          refine z_iload_n X dX5_copy_48 rfl 1 rfl ?_
          refine z_ialdN X 16 rfl (by omega) (by omega) dX5_copy_49 ?_
          refine z_aload_n X dX5_copy_50 rfl 0 rfl ?_
          refine z_get (v := .ref (b 16)) (N := 29) X i_RX5 (ci := 4) rfl 0 rfl 25 (by decide) f_60 rfl dX5_copy_51 ?_
          refine z_iload_n X dX5_copy_54 rfl 3 rfl ?_
          refine z_ialdN X 16 rfl (by omega) (by omega) dX5_copy_55 ?_
          refine z_icmp_eq (tgt := 65) X dX5_copy_56 (by decide) (fun hq16 => ?_) (fun hq16 => ?_)
          ·
            refine z_iload_n X dX5_copy_65 rfl 2 rfl ?_
            refine z_iload X dX5_copy_66 5 rfl ?_
            refine z_i2l (v := (n).toInt64) X dX5_copy_68 rfl ?_
            refine z_aload_n X dX5_copy_69 rfl 0 rfl ?_
            refine z_get (v := .ref (b 15)) (N := 29) X i_RX5 (ci := 4) rfl 0 rfl 24 (by decide) f_57 rfl dX5_copy_70 ?_
            refine z_iload_n X dX5_copy_73 rfl 1 rfl ?_
            refine z_ialdN X 15 rfl (by omega) (by omega) dX5_copy_74 ?_
            refine z_callS0 X (c_X5_isBeyond l g i n (sz jv7)) gX5_copy_X5_isBeyond rfl ⟨rfl, rfl⟩ (by decide +kernel) ⟨Nat.le_of_ble_eq_true rfl, Nat.le_of_ble_eq_true rfl⟩ ZF.room (As := [.int i, .long ((n).toInt64), .int (sz jv7)]) (n := 3) rfl rfl (st1 := [.int (bI (ibB i ((n).toInt64) (sz jv7)))]) rfl (Nat.le_of_ble_eq_true rfl) dX5_copy_75 ?_
            refine z_top (y := bI (!hcl (sz jv7) i n)) (by first | exact bI_eq (ibB_hcl hm_k hmz_k) | exact bI_eq (ibB_hcl hm_o hmz_o)) ?_
            refine z_if_neB (tgt := 98) X dX5_copy_78 (by decide) (fun hq17 => ?_) (fun hq17 => ?_)
            ·
              have hq18 : (hcl (sz jv7) i n) = false := by simpa using hq17
              refine z_aload_n X dX5_copy_98 rfl 0 rfl ?_
              refine z_iconst (v := nI 3) X dX5_copy_99 (by decide) ?_
              refine z_callVM X (c_X5_failed l g b ft so D E tr C lk kd st sp nd rO rB rD rW sz sl sc sm xa xb xc xd y1 y2 y3 y4 y5 hn (nI 3)) gX5_copy_X5_failed rfl ⟨rfl, rfl⟩ (by decide +kernel) ⟨Nat.le_of_ble_eq_true rfl, Nat.le_of_ble_eq_true rfl⟩ ZF.room (ci := 4) rfl 0 rfl rfl (As := [.int (nI 3)]) (n := 1) rfl rfl (st1 := [.int ((-10) - (nI 3))]) rfl (Nat.le_of_ble_eq_true rfl) dX5_copy_100 ?_
              have e19 : (if zin (nI jv7) 4 && zin (nI jv10) 4 then cof (sl (tn (nI jv7))) (sz (tn (nI jv7))) (sl (tn (nI jv10))) (sz (tn (nI jv10))) i j n else nI 0) = (nI 3) := by first | (simp [cor, cof, cok, hq6, hc7, hq9, hc10, hn_k, hn_o, hq16, hq18]; done) | (simp [cor, cof, cok, hq6, hc7, hq9, hc10, hn_k, hn_o, hq16, hq18]; decide)
              have e20 : (if zin (nI jv7) 4 && zin (nI jv10) 4 && cok (sl (tn (nI jv7))) (sz (tn (nI jv7))) (sl (tn (nI jv10))) (sz (tn (nI jv10))) i j n then cpf sc (hnd hn sc (60 * tn (nI jv7) + tn i) (tn n)) (60 * tn (nI jv10) + tn j) (tn n) else sc) = sc := by first | (simp [cor, cof, cok, hq6, hc7, hq9, hc10, hn_k, hn_o, hq16, hq18]; done) | (simp [cor, cof, cok, hq6, hc7, hq9, hc10, hn_k, hn_o, hq16, hq18]; decide)
              have e21 : (if zin (nI jv7) 4 && zin (nI jv10) 4 && cok (sl (tn (nI jv7))) (sz (tn (nI jv7))) (sl (tn (nI jv10))) (sz (tn (nI jv10))) i j n then hnd hn sc (60 * tn (nI jv7) + tn i) (tn n) else hn) = hn := by first | (simp [cor, cof, cok, hq6, hc7, hq9, hc10, hn_k, hn_o, hq16, hq18]; done) | (simp [cor, cof, cok, hq6, hc7, hq9, hc10, hn_k, hn_o, hq16, hq18]; decide)
              exact z_iret X ZF dX5_copy_103 (by first | (simp [cor, cof, cok, hq6, hc7, hq9, hc10, hn_k, hn_o, hq16, hq18]; done) | (simp [cor, cof, cok, hq6, hc7, hq9, hc10, hn_k, hn_o, hq16, hq18]; decide)) (by first | rw [e21, e20, e19] | (simp only [e21, e20, e19]))
            ·
              have hq22 : (hcl (sz jv7) i n) = true := by simpa using hq17
              refine z_iload X dX5_copy_81 4 rfl ?_
              refine z_iload X dX5_copy_83 5 rfl ?_
              refine z_i2l (v := (n).toInt64) X dX5_copy_85 rfl ?_
              refine z_aload_n X dX5_copy_86 rfl 0 rfl ?_
              refine z_get (v := .ref (b 15)) (N := 29) X i_RX5 (ci := 4) rfl 0 rfl 24 (by decide) f_57 rfl dX5_copy_87 ?_
              refine z_iload_n X dX5_copy_90 rfl 3 rfl ?_
              refine z_ialdN X 15 rfl (by omega) (by omega) dX5_copy_91 ?_
              refine z_callS0 X (c_X5_isBeyond l g j n (sz jv10)) gX5_copy_X5_isBeyond rfl ⟨rfl, rfl⟩ (by decide +kernel) ⟨Nat.le_of_ble_eq_true rfl, Nat.le_of_ble_eq_true rfl⟩ ZF.room (As := [.int j, .long ((n).toInt64), .int (sz jv10)]) (n := 3) rfl rfl (st1 := [.int (bI (ibB j ((n).toInt64) (sz jv10)))]) rfl (Nat.le_of_ble_eq_true rfl) dX5_copy_92 ?_
              refine z_top (y := bI (!hcl (sz jv10) j n)) (by first | exact bI_eq (ibB_hcl hm_k hmz_k) | exact bI_eq (ibB_hcl hm_o hmz_o)) ?_
              refine z_if_eqB (tgt := 104) X dX5_copy_95 (by decide) (fun hq23 => ?_) (fun hq23 => ?_)
              ·
                have hq24 : (hcl (sz jv10) j n) = true := by simpa using hq23
                obtain ⟨i_a, n_a, ei_a, en_a, m_a, hm_a, him_a, hin_a⟩ := hcl_t (hle _ (by omega)) hq22
                subst ei_a; subst en_a
                obtain ⟨j_a, ej_a, m_b, hm_b, hmb_b, hjn_b⟩ := hcl_t2 (by omega) (hle _ (by omega)) hq24
                subst ej_a
                have hti_a : tn (nI i_a) = i_a := nI_clamp (by omega)
                have htn_a : tn (nI n_a) = n_a := nI_clamp (by omega)
                have htj_a : tn (nI j_a) = j_a := nI_clamp (by omega)
                refine z_iconst (v := nI 0) X dX5_copy_104 (by decide) ?_
                refine z_istore (L' := [(6, .int (nI 0)), (0, .ref (b 0)), (1, .int (nI jv7)), (2, .int (nI i_a)), (3, .int (nI jv10)), (4, .int (nI j_a)), (5, .int (nI n_a))]) X dX5_copy_105 (by decide) rfl ?_
                have loopv25 : ∀ (n25 x_v : Nat), x_v ≤ n_a → n_a + 1 ≤ x_v + n25 → zG l g 7 M (wM g b ft so D E tr C lk kd st sp nd rO rB rD rW sz sl sc sm xa xb xc xd y1 y2 y3 y4 y5 (hnd hn sc ((60 * jv7) + i_a) x_v)) [(0, .ref (b 0)), (1, .int (nI jv7)), (2, .int (nI i_a)), (3, .int (nI jv10)), (4, .int (nI j_a)), (5, .int (nI n_a)), (6, .int (nI x_v))] 107 [] := by
                  intro n25
                  induction n25 with
                  | zero => intro x_v h1 h2; exact absurd h2 (by omega)
                  | succ n25 ih25 =>
                    intro x_v hi25 hn25
                    refine z_iload X dX5_copy_107 6 rfl ?_
                    refine z_iload X dX5_copy_109 5 rfl ?_
                    refine z_icmp_geN (tgt := 141) X dX5_copy_111 (by decide) (by omega) (by omega) (fun hq26 => ?_) (fun hq26 => ?_)
                    ·
                      refine z_ws (ws' := (wM g b ft so D E tr C lk kd st sp nd rO rB rD rW sz sl sc sm xa xb xc xd y1 y2 y3 y4 y5 (hnd hn sc ((60 * jv7) + i_a) n_a))) (by rw [show x_v = n_a by omega]) ?_
                      refine z_iconst (v := nI 0) X dX5_copy_141 (by decide) ?_
                      refine z_istore (L' := [(6, .int (nI 0)), (0, .ref (b 0)), (1, .int (nI jv7)), (2, .int (nI i_a)), (3, .int (nI jv10)), (4, .int (nI j_a)), (5, .int (nI n_a))]) X dX5_copy_142 (by decide) rfl ?_
                      have loopv27 : ∀ (n27 y_v : Nat), y_v ≤ n_a → n_a + 1 ≤ y_v + n27 → zG l g 7 M (wM g b ft so D E tr C lk kd st sp nd rO rB rD rW sz sl (cpf sc (hnd hn sc ((60 * jv7) + i_a) n_a) ((60 * jv10) + j_a) y_v) sm xa xb xc xd y1 y2 y3 y4 y5 (hnd hn sc ((60 * jv7) + i_a) n_a)) [(0, .ref (b 0)), (1, .int (nI jv7)), (2, .int (nI i_a)), (3, .int (nI jv10)), (4, .int (nI j_a)), (5, .int (nI n_a)), (6, .int (nI y_v))] 144 [] := by
                        intro n27
                        induction n27 with
                        | zero => intro y_v h1 h2; exact absurd h2 (by omega)
                        | succ n27 ih27 =>
                          intro y_v hi27 hn27
                          refine z_iload X dX5_copy_144 6 rfl ?_
                          refine z_iload X dX5_copy_146 5 rfl ?_
                          refine z_icmp_geN (tgt := 179) X dX5_copy_148 (by decide) (by omega) (by omega) (fun hq28 => ?_) (fun hq28 => ?_)
                          ·
                            refine z_aload_n X dX5_copy_179 rfl 0 rfl ?_
                            refine z_iload X dX5_copy_180 5 rfl ?_
                            refine z_callVM X (c_X5_refused l g b ft so D E tr C lk kd st sp nd rO rB rD rW sz sl (cpf sc (hnd hn sc ((60 * jv7) + i_a) n_a) ((60 * jv10) + j_a) y_v) sm xa xb xc xd y1 y2 y3 y4 y5 (hnd hn sc ((60 * jv7) + i_a) n_a) (nI n_a)) gX5_copy_X5_refused rfl ⟨rfl, rfl⟩ (by decide +kernel) ⟨Nat.le_of_ble_eq_true rfl, Nat.le_of_ble_eq_true rfl⟩ ZF.room (ci := 4) rfl 0 rfl rfl (As := [.int (nI n_a)]) (n := 1) rfl rfl (st1 := [.int (nI n_a)]) rfl (Nat.le_of_ble_eq_true rfl) dX5_copy_182 ?_
                            have e29 : (if zin (nI jv7) 4 && zin (nI jv10) 4 then cof (sl (tn (nI jv7))) (sz (tn (nI jv7))) (sl (tn (nI jv10))) (sz (tn (nI jv10))) (nI i_a) (nI j_a) (nI n_a) else nI 0) = (nI 0) := by have ey_ : y_v = n_a := (by omega); simp [cor, cof, cok, hq6, hc7, hq9, hc10, hn_k, hn_o, hq16, hq22, hq24, hti_a, htn_a, htj_a, hq26, hq28, ey_]
                            have e30 : (if zin (nI jv7) 4 && zin (nI jv10) 4 && cok (sl (tn (nI jv7))) (sz (tn (nI jv7))) (sl (tn (nI jv10))) (sz (tn (nI jv10))) (nI i_a) (nI j_a) (nI n_a) then cpf sc (hnd hn sc (60 * tn (nI jv7) + tn (nI i_a)) (tn (nI n_a))) (60 * tn (nI jv10) + tn (nI j_a)) (tn (nI n_a)) else sc) = (cpf sc (hnd hn sc ((60 * jv7) + i_a) n_a) ((60 * jv10) + j_a) y_v) := by have ey_ : y_v = n_a := (by omega); simp [cor, cof, cok, hq6, hc7, hq9, hc10, hn_k, hn_o, hq16, hq22, hq24, hti_a, htn_a, htj_a, hq26, hq28, ey_]
                            have e31 : (if zin (nI jv7) 4 && zin (nI jv10) 4 && cok (sl (tn (nI jv7))) (sz (tn (nI jv7))) (sl (tn (nI jv10))) (sz (tn (nI jv10))) (nI i_a) (nI j_a) (nI n_a) then hnd hn sc (60 * tn (nI jv7) + tn (nI i_a)) (tn (nI n_a)) else hn) = (hnd hn sc ((60 * jv7) + i_a) n_a) := by have ey_ : y_v = n_a := (by omega); simp [cor, cof, cok, hq6, hc7, hq9, hc10, hn_k, hn_o, hq16, hq22, hq24, hti_a, htn_a, htj_a, hq26, hq28, ey_]
                            exact z_iret X ZF dX5_copy_185 (by have ey_ : y_v = n_a := (by omega); simp [cor, cof, cok, hq6, hc7, hq9, hc10, hn_k, hn_o, hq16, hq22, hq24, hti_a, htn_a, htj_a, hq26, hq28, ey_]) (by first | rw [e31, e30, e29] | (simp only [e31, e30, e29]))
                          ·
                            refine z_aload_n X dX5_copy_151 rfl 0 rfl ?_
                            refine z_get (v := .ref (b 17)) (N := 29) X i_RX5 (ci := 4) rfl 0 rfl 26 (by decide) f_63 rfl dX5_copy_152 ?_
                            refine z_bipush (v := nI 60) X dX5_copy_155 (by decide) ?_
                            refine z_iload_n X dX5_copy_157 rfl 3 rfl ?_
                            refine z_imul' (v := nI (60 * jv10)) X dX5_copy_158 (pk_mul _ _) ?_
                            refine z_iload X dX5_copy_159 4 rfl ?_
                            refine z_iadd' (v := nI ((60 * jv10) + j_a)) X dX5_copy_161 (nI_add _ _) ?_
                            refine z_iload X dX5_copy_162 6 rfl ?_
                            refine z_iadd' (v := nI (((60 * jv10) + j_a) + y_v)) X dX5_copy_164 (nI_add _ _) ?_
                            refine z_aload_n X dX5_copy_165 rfl 0 rfl ?_
                            refine z_get (v := .ref (b 18)) (N := 29) X i_RX5 (ci := 4) rfl 0 rfl 27 (by decide) f_66 rfl dX5_copy_166 ?_
                            refine z_iload X dX5_copy_169 6 rfl ?_
                            refine z_ialdN X 18 rfl (by omega) (by omega) dX5_copy_171 ?_
                            refine z_iastN (ws' := (wM g b ft so D E tr C lk kd st sp nd rO rB rD rW sz sl (upd (cpf sc (hnd hn sc ((60 * jv7) + i_a) n_a) ((60 * jv10) + j_a) y_v) (((60 * jv10) + j_a) + y_v) ((hnd hn sc ((60 * jv7) + i_a) n_a) y_v)) sm xa xb xc xd y1 y2 y3 y4 y5 (hnd hn sc ((60 * jv7) + i_a) n_a))) X 17 rfl (by omega) (by omega) dX5_copy_172 rfl ?_
                            refine z_iinc (v := nI (y_v + 1)) (L' := [(6, .int (nI (y_v + 1))), (0, .ref (b 0)), (1, .int (nI jv7)), (2, .int (nI i_a)), (3, .int (nI jv10)), (4, .int (nI j_a)), (5, .int (nI n_a))]) X dX5_copy_173 6 rfl (nI_inc y_v 1) (by decide) rfl ?_
                            refine z_goto (tgt := 144) X dX5_copy_176 (by decide) ?_
                            refine z_ls (L' := [(0, .ref (b 0)), (1, .int (nI jv7)), (2, .int (nI i_a)), (3, .int (nI jv10)), (4, .int (nI j_a)), (5, .int (nI n_a)), (6, .int (nI (y_v + 1)))]) [1, 2, 3, 4, 5, 6, 0] rfl ?_
                            have e32 : (upd (cpf sc (hnd hn sc ((60 * jv7) + i_a) n_a) ((60 * jv10) + j_a) y_v) (((60 * jv10) + j_a) + y_v) ((hnd hn sc ((60 * jv7) + i_a) n_a) y_v)) = (cpf sc (hnd hn sc ((60 * jv7) + i_a) n_a) ((60 * jv10) + j_a) (y_v + 1)) := by first | rfl | exact (cpf_0 _ _ _).symm | exact cpf_s _ _ _ _
                            refine z_ws (ws' := (wM g b ft so D E tr C lk kd st sp nd rO rB rD rW sz sl (cpf sc (hnd hn sc ((60 * jv7) + i_a) n_a) ((60 * jv10) + j_a) (y_v + 1)) sm xa xb xc xd y1 y2 y3 y4 y5 (hnd hn sc ((60 * jv7) + i_a) n_a))) (by rw [← e32]) ?_
                            exact ih27 (y_v + 1) (by omega) (by omega)
                      refine z_ls (L' := [(0, .ref (b 0)), (1, .int (nI jv7)), (2, .int (nI i_a)), (3, .int (nI jv10)), (4, .int (nI j_a)), (5, .int (nI n_a)), (6, .int (nI 0))]) [1, 2, 3, 4, 5, 6, 0] rfl ?_
                      have e33 : sc = (cpf sc (hnd hn sc ((60 * jv7) + i_a) n_a) ((60 * jv10) + j_a) 0) := by first | rfl | exact (cpf_0 _ _ _).symm | exact cpf_s _ _ _ _
                      refine z_ws (ws' := (wM g b ft so D E tr C lk kd st sp nd rO rB rD rW sz sl (cpf sc (hnd hn sc ((60 * jv7) + i_a) n_a) ((60 * jv10) + j_a) 0) sm xa xb xc xd y1 y2 y3 y4 y5 (hnd hn sc ((60 * jv7) + i_a) n_a))) (by rw [← e33]) ?_
                      exact loopv27 (n_a + 1) 0 (by omega) (by omega)
                    ·
                      refine z_aload_n X dX5_copy_114 rfl 0 rfl ?_
                      refine z_get (v := .ref (b 18)) (N := 29) X i_RX5 (ci := 4) rfl 0 rfl 27 (by decide) f_66 rfl dX5_copy_115 ?_
                      refine z_iload X dX5_copy_118 6 rfl ?_
                      refine z_aload_n X dX5_copy_120 rfl 0 rfl ?_
                      refine z_get (v := .ref (b 17)) (N := 29) X i_RX5 (ci := 4) rfl 0 rfl 26 (by decide) f_63 rfl dX5_copy_121 ?_
                      refine z_bipush (v := nI 60) X dX5_copy_124 (by decide) ?_
                      refine z_iload_n X dX5_copy_126 rfl 1 rfl ?_
                      refine z_imul' (v := nI (60 * jv7)) X dX5_copy_127 (pk_mul _ _) ?_
                      refine z_iload_n X dX5_copy_128 rfl 2 rfl ?_
                      refine z_iadd' (v := nI ((60 * jv7) + i_a)) X dX5_copy_129 (nI_add _ _) ?_
                      refine z_iload X dX5_copy_130 6 rfl ?_
                      refine z_iadd' (v := nI (((60 * jv7) + i_a) + x_v)) X dX5_copy_132 (nI_add _ _) ?_
                      refine z_ialdN X 17 rfl (by omega) (by omega) dX5_copy_133 ?_
                      refine z_iastN (ws' := (wM g b ft so D E tr C lk kd st sp nd rO rB rD rW sz sl sc sm xa xb xc xd y1 y2 y3 y4 y5 (upd (hnd hn sc ((60 * jv7) + i_a) x_v) x_v (sc (((60 * jv7) + i_a) + x_v))))) X 18 rfl (by omega) (by omega) dX5_copy_134 rfl ?_
                      refine z_iinc (v := nI (x_v + 1)) (L' := [(6, .int (nI (x_v + 1))), (0, .ref (b 0)), (1, .int (nI jv7)), (2, .int (nI i_a)), (3, .int (nI jv10)), (4, .int (nI j_a)), (5, .int (nI n_a))]) X dX5_copy_135 6 rfl (nI_inc x_v 1) (by decide) rfl ?_
                      refine z_goto (tgt := 107) X dX5_copy_138 (by decide) ?_
                      refine z_ls (L' := [(0, .ref (b 0)), (1, .int (nI jv7)), (2, .int (nI i_a)), (3, .int (nI jv10)), (4, .int (nI j_a)), (5, .int (nI n_a)), (6, .int (nI (x_v + 1)))]) [1, 2, 3, 4, 5, 6, 0] rfl ?_
                      have e34 : (upd (hnd hn sc ((60 * jv7) + i_a) x_v) x_v (sc (((60 * jv7) + i_a) + x_v))) = (hnd hn sc ((60 * jv7) + i_a) (x_v + 1)) := by first | rfl | exact (hnd_0 _ _ _).symm | exact hnd_s _ _ _ _
                      refine z_ws (ws' := (wM g b ft so D E tr C lk kd st sp nd rO rB rD rW sz sl sc sm xa xb xc xd y1 y2 y3 y4 y5 (hnd hn sc ((60 * jv7) + i_a) (x_v + 1)))) (by rw [← e34]) ?_
                      exact ih25 (x_v + 1) (by omega) (by omega)
                refine z_ls (L' := [(0, .ref (b 0)), (1, .int (nI jv7)), (2, .int (nI i_a)), (3, .int (nI jv10)), (4, .int (nI j_a)), (5, .int (nI n_a)), (6, .int (nI 0))]) [1, 2, 3, 4, 5, 6, 0] rfl ?_
                have e35 : hn = (hnd hn sc ((60 * jv7) + i_a) 0) := by first | rfl | exact (hnd_0 _ _ _).symm | exact hnd_s _ _ _ _
                refine z_ws (ws' := (wM g b ft so D E tr C lk kd st sp nd rO rB rD rW sz sl sc sm xa xb xc xd y1 y2 y3 y4 y5 (hnd hn sc ((60 * jv7) + i_a) 0))) (by rw [← e35]) ?_
                exact loopv25 (n_a + 1) 0 (by omega) (by omega)
              ·
                have hq36 : (hcl (sz jv10) j n) = false := by simpa using hq23
                refine z_aload_n X dX5_copy_98 rfl 0 rfl ?_
                refine z_iconst (v := nI 3) X dX5_copy_99 (by decide) ?_
                refine z_callVM X (c_X5_failed l g b ft so D E tr C lk kd st sp nd rO rB rD rW sz sl sc sm xa xb xc xd y1 y2 y3 y4 y5 hn (nI 3)) gX5_copy_X5_failed rfl ⟨rfl, rfl⟩ (by decide +kernel) ⟨Nat.le_of_ble_eq_true rfl, Nat.le_of_ble_eq_true rfl⟩ ZF.room (ci := 4) rfl 0 rfl rfl (As := [.int (nI 3)]) (n := 1) rfl rfl (st1 := [.int ((-10) - (nI 3))]) rfl (Nat.le_of_ble_eq_true rfl) dX5_copy_100 ?_
                have e37 : (if zin (nI jv7) 4 && zin (nI jv10) 4 then cof (sl (tn (nI jv7))) (sz (tn (nI jv7))) (sl (tn (nI jv10))) (sz (tn (nI jv10))) i j n else nI 0) = (nI 3) := by first | (simp [cor, cof, cok, hq6, hc7, hq9, hc10, hn_k, hn_o, hq16, hq22, hq36]; done) | (simp [cor, cof, cok, hq6, hc7, hq9, hc10, hn_k, hn_o, hq16, hq22, hq36]; decide)
                have e38 : (if zin (nI jv7) 4 && zin (nI jv10) 4 && cok (sl (tn (nI jv7))) (sz (tn (nI jv7))) (sl (tn (nI jv10))) (sz (tn (nI jv10))) i j n then cpf sc (hnd hn sc (60 * tn (nI jv7) + tn i) (tn n)) (60 * tn (nI jv10) + tn j) (tn n) else sc) = sc := by first | (simp [cor, cof, cok, hq6, hc7, hq9, hc10, hn_k, hn_o, hq16, hq22, hq36]; done) | (simp [cor, cof, cok, hq6, hc7, hq9, hc10, hn_k, hn_o, hq16, hq22, hq36]; decide)
                have e39 : (if zin (nI jv7) 4 && zin (nI jv10) 4 && cok (sl (tn (nI jv7))) (sz (tn (nI jv7))) (sl (tn (nI jv10))) (sz (tn (nI jv10))) i j n then hnd hn sc (60 * tn (nI jv7) + tn i) (tn n) else hn) = hn := by first | (simp [cor, cof, cok, hq6, hc7, hq9, hc10, hn_k, hn_o, hq16, hq22, hq36]; done) | (simp [cor, cof, cok, hq6, hc7, hq9, hc10, hn_k, hn_o, hq16, hq22, hq36]; decide)
                exact z_iret X ZF dX5_copy_103 (by first | (simp [cor, cof, cok, hq6, hc7, hq9, hc10, hn_k, hn_o, hq16, hq22, hq36]; done) | (simp [cor, cof, cok, hq6, hc7, hq9, hc10, hn_k, hn_o, hq16, hq22, hq36]; decide)) (by first | rw [e39, e38, e37] | (simp only [e39, e38, e37]))
          ·
            refine z_aload_n X dX5_copy_59 rfl 0 rfl ?_
            refine z_iconst (v := nI 2) X dX5_copy_60 (by decide) ?_
            refine z_callVM X (c_X5_failed l g b ft so D E tr C lk kd st sp nd rO rB rD rW sz sl sc sm xa xb xc xd y1 y2 y3 y4 y5 hn (nI 2)) gX5_copy_X5_failed rfl ⟨rfl, rfl⟩ (by decide +kernel) ⟨Nat.le_of_ble_eq_true rfl, Nat.le_of_ble_eq_true rfl⟩ ZF.room (ci := 4) rfl 0 rfl rfl (As := [.int (nI 2)]) (n := 1) rfl rfl (st1 := [.int ((-10) - (nI 2))]) rfl (Nat.le_of_ble_eq_true rfl) dX5_copy_61 ?_
            have e40 : (if zin (nI jv7) 4 && zin (nI jv10) 4 then cof (sl (tn (nI jv7))) (sz (tn (nI jv7))) (sl (tn (nI jv10))) (sz (tn (nI jv10))) i j n else nI 0) = (nI 2) := by first | (simp [cor, cof, cok, hq6, hc7, hq9, hc10, hn_k, hn_o, hq16]; done) | (simp [cor, cof, cok, hq6, hc7, hq9, hc10, hn_k, hn_o, hq16]; decide)
            have e41 : (if zin (nI jv7) 4 && zin (nI jv10) 4 && cok (sl (tn (nI jv7))) (sz (tn (nI jv7))) (sl (tn (nI jv10))) (sz (tn (nI jv10))) i j n then cpf sc (hnd hn sc (60 * tn (nI jv7) + tn i) (tn n)) (60 * tn (nI jv10) + tn j) (tn n) else sc) = sc := by first | (simp [cor, cof, cok, hq6, hc7, hq9, hc10, hn_k, hn_o, hq16]; done) | (simp [cor, cof, cok, hq6, hc7, hq9, hc10, hn_k, hn_o, hq16]; decide)
            have e42 : (if zin (nI jv7) 4 && zin (nI jv10) 4 && cok (sl (tn (nI jv7))) (sz (tn (nI jv7))) (sl (tn (nI jv10))) (sz (tn (nI jv10))) i j n then hnd hn sc (60 * tn (nI jv7) + tn i) (tn n) else hn) = hn := by first | (simp [cor, cof, cok, hq6, hc7, hq9, hc10, hn_k, hn_o, hq16]; done) | (simp [cor, cof, cok, hq6, hc7, hq9, hc10, hn_k, hn_o, hq16]; decide)
            exact z_iret X ZF dX5_copy_64 (by first | (simp [cor, cof, cok, hq6, hc7, hq9, hc10, hn_k, hn_o, hq16]; done) | (simp [cor, cof, cok, hq6, hc7, hq9, hc10, hn_k, hn_o, hq16]; decide)) (by first | rw [e42, e41, e40] | (simp only [e42, e41, e40]))
        ·
          have hf_o := vle_lt (hle _ (by omega)) hq15
          refine z_aload_n X dX5_copy_38 rfl 0 rfl ?_
          refine z_iconst (v := nI 1) X dX5_copy_39 (by decide) ?_
          refine z_callVM X (c_X5_failed l g b ft so D E tr C lk kd st sp nd rO rB rD rW sz sl sc sm xa xb xc xd y1 y2 y3 y4 y5 hn (nI 1)) gX5_copy_X5_failed rfl ⟨rfl, rfl⟩ (by decide +kernel) ⟨Nat.le_of_ble_eq_true rfl, Nat.le_of_ble_eq_true rfl⟩ ZF.room (ci := 4) rfl 0 rfl rfl (As := [.int (nI 1)]) (n := 1) rfl rfl (st1 := [.int ((-10) - (nI 1))]) rfl (Nat.le_of_ble_eq_true rfl) dX5_copy_40 ?_
          have e43 : (if zin (nI jv7) 4 && zin (nI jv10) 4 then cof (sl (tn (nI jv7))) (sz (tn (nI jv7))) (sl (tn (nI jv10))) (sz (tn (nI jv10))) i j n else nI 0) = (nI 1) := by first | (simp [cor, cof, cok, hq6, hc7, hq9, hc10, hn_k, hf_o]; done) | (simp [cor, cof, cok, hq6, hc7, hq9, hc10, hn_k, hf_o]; decide)
          have e44 : (if zin (nI jv7) 4 && zin (nI jv10) 4 && cok (sl (tn (nI jv7))) (sz (tn (nI jv7))) (sl (tn (nI jv10))) (sz (tn (nI jv10))) i j n then cpf sc (hnd hn sc (60 * tn (nI jv7) + tn i) (tn n)) (60 * tn (nI jv10) + tn j) (tn n) else sc) = sc := by first | (simp [cor, cof, cok, hq6, hc7, hq9, hc10, hn_k, hf_o]; done) | (simp [cor, cof, cok, hq6, hc7, hq9, hc10, hn_k, hf_o]; decide)
          have e45 : (if zin (nI jv7) 4 && zin (nI jv10) 4 && cok (sl (tn (nI jv7))) (sz (tn (nI jv7))) (sl (tn (nI jv10))) (sz (tn (nI jv10))) i j n then hnd hn sc (60 * tn (nI jv7) + tn i) (tn n) else hn) = hn := by first | (simp [cor, cof, cok, hq6, hc7, hq9, hc10, hn_k, hf_o]; done) | (simp [cor, cof, cok, hq6, hc7, hq9, hc10, hn_k, hf_o]; decide)
          exact z_iret X ZF dX5_copy_43 (by first | (simp [cor, cof, cok, hq6, hc7, hq9, hc10, hn_k, hf_o]; done) | (simp [cor, cof, cok, hq6, hc7, hq9, hc10, hn_k, hf_o]; decide)) (by first | rw [e45, e44, e43] | (simp only [e45, e44, e43]))
    ·
      have hq46 : (zin o 4) = false := by simpa using hq8
      refine z_aload_n X dX5_copy_14 rfl 0 rfl ?_
      refine z_iconst (v := (-1)) X dX5_copy_15 (by decide) ?_
      refine z_callVM X (c_X5_refused l g b ft so D E tr C lk kd st sp nd rO rB rD rW sz sl sc sm xa xb xc xd y1 y2 y3 y4 y5 hn (-1)) gX5_copy_X5_refused rfl ⟨rfl, rfl⟩ (by decide +kernel) ⟨Nat.le_of_ble_eq_true rfl, Nat.le_of_ble_eq_true rfl⟩ ZF.room (ci := 4) rfl 0 rfl rfl (As := [.int (-1)]) (n := 1) rfl rfl (st1 := [.int (-1)]) rfl (Nat.le_of_ble_eq_true rfl) dX5_copy_16 ?_
      have e47 : (if zin (nI jv7) 4 && zin o 4 then cof (sl (tn (nI jv7))) (sz (tn (nI jv7))) (sl (tn o)) (sz (tn o)) i j n else nI 0) = (nI 0) := by first | (simp [cor, cof, cok, hq6, hc7, hq46]; done) | (simp [cor, cof, cok, hq6, hc7, hq46]; decide)
      have e48 : (if zin (nI jv7) 4 && zin o 4 && cok (sl (tn (nI jv7))) (sz (tn (nI jv7))) (sl (tn o)) (sz (tn o)) i j n then cpf sc (hnd hn sc (60 * tn (nI jv7) + tn i) (tn n)) (60 * tn o + tn j) (tn n) else sc) = sc := by first | (simp [cor, cof, cok, hq6, hc7, hq46]; done) | (simp [cor, cof, cok, hq6, hc7, hq46]; decide)
      have e49 : (if zin (nI jv7) 4 && zin o 4 && cok (sl (tn (nI jv7))) (sz (tn (nI jv7))) (sl (tn o)) (sz (tn o)) i j n then hnd hn sc (60 * tn (nI jv7) + tn i) (tn n) else hn) = hn := by first | (simp [cor, cof, cok, hq6, hc7, hq46]; done) | (simp [cor, cof, cok, hq6, hc7, hq46]; decide)
      exact z_iret X ZF dX5_copy_19 (by first | (simp [cor, cof, cok, hq6, hc7, hq46]; done) | (simp [cor, cof, cok, hq6, hc7, hq46]; decide)) (by first | rw [e49, e48, e47] | (simp only [e49, e48, e47]))
