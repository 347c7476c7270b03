abbrev rX5_codeAt : Room := { frames := 0, cells := 0, slots := 0, locals := 0 }
set_option maxHeartbeats 4000000 in
set_option maxRecDepth 100000 in
theorem c_X5_codeAt (l : Launch) (g : zg) (b : Nat → Nat) (ft : Int32) (so : Int32) (D : Nat) (E : Nat) (tr : Int32) (C : Nat) (lk : Nat → Int32) (kd : Nat → Int32) (st : Nat → Int32) (sp : Nat → Int32) (nd : Nat → Int32) (rO : Nat → Int32) (rB : Nat → Int32) (rD : Nat → Int32) (rW : Nat → Int32) (sz : Nat → Int32) (sl : Nat → Int32) (sc : Nat → Int32) (sm : Int32) (xa : Nat) (xb : Int32) (xc : Nat) (xd : Nat) (y1 : Nat → Int32) (y2 : Nat → Int32) (y3 : Nat → Int32) (y4 : Nat → Int32) (y5 : Nat → Int32) (hn : Nat → Int32) (f_r : Nat) (n_n : Nat) (hfr : f_r + n_n ≤ 240) (hxa : xa ≤ n_n) : zM l g yX5_codeAt wsX5_codeAt rX5_codeAt [.ref (b 0), .int (nI f_r), .int (nI n_n)] (wM g b ft so D E tr C lk kd st sp nd rO rB rD rW sz sl sc sm xa xb xc xd y1 y2 y3 y4 y5 hn) (some (.int (cA sc f_r n_n xa))) (wM g b ft so D E tr C lk kd st sp nd rO rB rD rW sz sl sc sm xa xb xc xd y1 y2 y3 y4 y5 hn) := by
  refine z_met (own := RX5) (cc := cX5_codeAt) (maxL := 3) (ret := some .int) (by decide +kernel) rfl rfl (Nat.le_of_ble_eq_true rfl) ?_
  intro M X ZF
  refine z_Le (L' := [(0, .ref (b 0)), (1, .int (nI f_r)), (2, .int (nI n_n))]) rfl ?_
  have i_RX5 : ∀ w ∈ wsX50, w ∈ wsX5_codeAt := by decide +kernel
  have f_88 : Cond.fieldLink RX5 88 (TX5 10).1 (TX5 10).2.1 (TX5 10).2.2.1 ∈ wsX5_codeAt := by decide +kernel
  have f_63 : Cond.fieldLink RX5 63 (TX5 26).1 (TX5 26).2.1 (TX5 26).2.2.1 ∈ wsX5_codeAt := by decide +kernel
  refine z_aload_n X dX5_codeAt_0 rfl 0 rfl ?_
  refine z_get (v := .int (nI xa)) (N := 29) X i_RX5 (ci := 4) rfl 0 rfl 10 (by decide) f_88 rfl dX5_codeAt_1 ?_
  refine z_iload_n X dX5_codeAt_4 rfl 2 rfl ?_
  refine z_icmp_geN (tgt := 22) X dX5_codeAt_5 (by decide) (by omega) (by omega) (fun hq1 => ?_) (fun hq1 => ?_)
  ·
    refine z_bipush (v := (-9)) X dX5_codeAt_22 (by decide) ?_
    exact z_iret X ZF dX5_codeAt_24 (by first | exact (cA_in (by omega)).symm | exact (cA_out (by omega)).symm) rfl
  ·
    refine z_aload_n X dX5_codeAt_8 rfl 0 rfl ?_
    refine z_get (v := .ref (b 17)) (N := 29) X i_RX5 (ci := 4) rfl 0 rfl 26 (by decide) f_63 rfl dX5_codeAt_9 ?_
    refine z_iload_n X dX5_codeAt_12 rfl 1 rfl ?_
    refine z_aload_n X dX5_codeAt_13 rfl 0 rfl ?_
    refine z_get (v := .int (nI xa)) (N := 29) X i_RX5 (ci := 4) rfl 0 rfl 10 (by decide) f_88 rfl dX5_codeAt_14 ?_
    refine z_iadd' (v := nI (f_r + xa)) X dX5_codeAt_17 (nI_add _ _) ?_
    refine z_ialdN X 17 rfl (by omega) (by omega) dX5_codeAt_18 ?_
    refine z_goto (tgt := 24) X dX5_codeAt_19 (by decide) ?_
    exact z_iret X ZF dX5_codeAt_24 (by first | exact (cA_in (by omega)).symm | exact (cA_out (by omega)).symm) rfl
abbrev rX5_figure : Room := { frames := 1, cells := 0, slots := 0, locals := 25 }
set_option maxHeartbeats 4000000 in
set_option maxRecDepth 100000 in
theorem c_X5_figure (l : Launch) (g : zg) (b : Nat → Nat) (ft : Int32) (so : Int32) (D : Nat) (E : Nat) (tr : Int32) (C : Nat) (lk : Nat → Int32) (kd : Nat → Int32) (st : Nat → Int32) (sp : Nat → Int32) (nd : Nat → Int32) (rO : Nat → Int32) (rB : Nat → Int32) (rD : Nat → Int32) (rW : Nat → Int32) (sz : Nat → Int32) (sl : Nat → Int32) (sc : Nat → Int32) (sm : Int32) (xa : Nat) (xb : Int32) (xc : Nat) (xd : Nat) (y1 : Nat → Int32) (y2 : Nat → Int32) (y3 : Nat → Int32) (y4 : Nat → Int32) (y5 : Nat → Int32) (hn : Nat → Int32) (f_r : Nat) (n_n : Nat) (lo : Nat) (hi : Nat) (hfr : f_r + n_n ≤ 240) (hxa : xa ≤ n_n) (hlo : lo ≤ 9) (hhi : hi ≤ 9) : zM l g yX5_figure wsX5_figure rX5_figure [.ref (b 0), .int (nI f_r), .int (nI n_n), .int (nI lo), .int (nI hi)] (wM g b ft so D E tr C lk kd st sp nd rO rB rD rW sz sl sc sm xa xb xc xd y1 y2 y3 y4 y5 hn) (some (.int (fgI (cA sc f_r n_n xa) lo hi))) (wM g b ft so D E tr C lk kd st sp nd rO rB rD rW sz sl sc sm (if zdg (cA sc f_r n_n xa) lo hi = true then xa + 1 else xa) xb xc xd y1 y2 y3 y4 y5 hn) := by
  refine z_met (own := RX5) (cc := cX5_figure) (maxL := 7) (ret := some .int) (by decide +kernel) rfl rfl (Nat.le_of_ble_eq_true rfl) ?_
  intro M X ZF
  refine z_Le (L' := [(0, .ref (b 0)), (1, .int (nI f_r)), (2, .int (nI n_n)), (3, .int (nI lo)), (4, .int (nI hi))]) rfl ?_
  have i_RX5 : ∀ w ∈ wsX50, w ∈ wsX5_figure := by decide +kernel
  have f_88 : Cond.fieldLink RX5 88 (TX5 10).1 (TX5 10).2.1 (TX5 10).2.2.1 ∈ wsX5_figure := by decide +kernel
  refine z_aload_n X dX5_figure_0 rfl 0 rfl ?_
  refine z_iload_n X dX5_figure_1 rfl 1 rfl ?_
  refine z_iload_n X dX5_figure_2 rfl 2 rfl ?_
  refine z_callVM X (c_X5_codeAt l g b ft so D E tr C lk kd st sp nd rO rB rD rW sz sl sc sm xa xb xc xd y1 y2 y3 y4 y5 hn f_r n_n (by omega) (by omega)) gX5_figure_X5_codeAt rfl ⟨rfl, rfl⟩ (by decide +kernel) ⟨Nat.le_of_ble_eq_true rfl, Nat.le_of_ble_eq_true rfl⟩ ZF.room (ci := 4) rfl 0 rfl rfl (As := [.int (nI f_r), .int (nI n_n)]) (n := 2) rfl rfl (st1 := [.int (cA sc f_r n_n xa)]) rfl (Nat.le_of_ble_eq_true rfl) dX5_figure_3 ?_
  refine z_bipush (v := nI 48) X dX5_figure_6 (by decide) ?_
  refine z_isub X dX5_figure_8 ?_
  refine z_istore (L' := [(5, .int ((cA sc f_r n_n xa) - (nI 48))), (0, .ref (b 0)), (1, .int (nI f_r)), (2, .int (nI n_n)), (3, .int (nI lo)), (4, .int (nI hi))]) X dX5_figure_9 (by decide) rfl ?_
  refine z_iload X dX5_figure_11 0 rfl ?_
  refine z_i2l (v := ((cA sc f_r n_n xa) - (nI 48)).toInt64) X dX5_figure_13 rfl ?_
  refine z_iload_n X dX5_figure_14 rfl 4 rfl ?_
  refine z_i2l (v := (nI lo).toInt64) X dX5_figure_15 rfl ?_
  refine z_iload X dX5_figure_16 5 rfl ?_
  refine z_i2l (v := (nI hi).toInt64) X dX5_figure_18 rfl ?_
  refine z_callS0 X (c_X5_in l g (((cA sc f_r n_n xa) - (nI 48)).toInt64) ((nI lo).toInt64) ((nI hi).toInt64)) gX5_figure_X5_in rfl ⟨rfl, rfl⟩ (by decide +kernel) ⟨Nat.le_of_ble_eq_true rfl, Nat.le_of_ble_eq_true rfl⟩ ZF.room (As := [.long (((cA sc f_r n_n xa) - (nI 48)).toInt64), .long ((nI lo).toInt64), .long ((nI hi).toInt64)]) (n := 3) rfl rfl (st1 := [.int (bI (zil (((cA sc f_r n_n xa) - (nI 48)).toInt64) ((nI lo).toInt64) ((nI hi).toInt64)))]) rfl (Nat.le_of_ble_eq_true rfl) dX5_figure_19 ?_
  refine z_top (y := bI (zdg (cA sc f_r n_n xa) lo hi)) (bI_eq (zil_dg (by omega) (by omega))) ?_
  refine z_istore (L' := [(6, .int (bI (zdg (cA sc f_r n_n xa) lo hi))), (5, .int ((cA sc f_r n_n xa) - (nI 48))), (0, .ref (b 0)), (1, .int (nI f_r)), (2, .int (nI n_n)), (3, .int (nI lo)), (4, .int (nI hi))]) X dX5_figure_22 (by decide) rfl ?_
  refine z_aload_n X dX5_figure_24 rfl 2 rfl ?_
  refine z_dup X dX5_figure_25 rfl ?_
  refine z_get (v := .int (nI xa)) (N := 29) X i_RX5 (ci := 4) rfl 0 rfl 10 (by decide) f_88 rfl dX5_figure_26 ?_
  refine z_iload X dX5_figure_29 0 rfl ?_
  refine z_if_eqB (tgt := 38) X dX5_figure_31 (by decide) (fun hq1 => ?_) (fun hq1 => ?_)
  ·
    refine z_iconst (v := nI 0) X dX5_figure_38 (by decide) ?_
    refine z_iadd' (v := nI xa) X dX5_figure_39 (nI_add _ _) ?_
    refine z_put (ws' := (wM g b ft so D E tr C lk kd st sp nd rO rB rD rW sz sl sc sm xa xb xc xd y1 y2 y3 y4 y5 hn)) (N := 29) X i_RX5 (ci := 4) rfl tyX5 tyX5_ok nmX5 0 rfl 10 (by decide) f_88 rfl (ty := .int) (by decide +kernel) rfl rfl (Nat.le_of_ble_eq_true rfl) dX5_figure_40 rfl ?_
    refine z_iload X dX5_figure_43 0 rfl ?_
    refine z_if_eqB (tgt := 53) X dX5_figure_45 (by decide) (fun hq2 => ?_) (fun hq2 => ?_)
    ·
      refine z_bipush (v := (-9)) X dX5_figure_53 (by decide) ?_
      have e3 : (if zdg (cA sc f_r n_n xa) lo hi = true then xa + 1 else xa) = xa := by rw [if_neg (show ¬ (zdg (cA sc f_r n_n xa) lo hi = true) by rw [hq1]; decide)]
      exact z_iret X ZF dX5_figure_55 (by exact (fgI_f hq1).symm) (by rw [e3])
    ·
      exact absurd (hq1.symm.trans hq2) (by decide)
  ·
    refine z_iconst (v := nI 1) X dX5_figure_34 (by decide) ?_
    refine z_goto (tgt := 39) X dX5_figure_35 (by decide) ?_
    refine z_iadd' (v := nI (xa + 1)) X dX5_figure_39 (nI_add _ _) ?_
    refine z_put (ws' := (wM g b ft so D E tr C lk kd st sp nd rO rB rD rW sz sl sc sm (xa + 1) xb xc xd y1 y2 y3 y4 y5 hn)) (N := 29) X i_RX5 (ci := 4) rfl tyX5 tyX5_ok nmX5 0 rfl 10 (by decide) f_88 rfl (ty := .int) (by decide +kernel) rfl rfl (Nat.le_of_ble_eq_true rfl) dX5_figure_40 rfl ?_
    refine z_iload X dX5_figure_43 0 rfl ?_
    refine z_if_eqB (tgt := 53) X dX5_figure_45 (by decide) (fun hq4 => ?_) (fun hq4 => ?_)
    ·
      exact absurd (hq1.symm.trans hq4) (by decide)
    ·
      refine z_iload X dX5_figure_48 1 rfl ?_
      refine z_goto (tgt := 55) X dX5_figure_50 (by decide) ?_
      have e5 : (if zdg (cA sc f_r n_n xa) lo hi = true then xa + 1 else xa) = (xa + 1) := by rw [if_pos hq1]
      exact z_iret X ZF dX5_figure_55 (by exact (fgI_t hq1).symm) (by rw [e5])
abbrev rX5_readsDays : Room := { frames := 2, cells := 0, slots := 0, locals := 51 }
set_option maxHeartbeats 4000000 in
set_option maxRecDepth 100000 in
theorem c_X5_readsDays (l : Launch) (g : zg) (b : Nat → Nat) (ft : Int32) (so : Int32) (D : Nat) (E : Nat) (tr : Int32) (C : Nat) (lk : Nat → Int32) (kd : Nat → Int32) (st : Nat → Int32) (sp : Nat → Int32) (nd : Nat → Int32) (rO : Nat → Int32) (rB : Nat → Int32) (rD : Nat → Int32) (rW : Nat → Int32) (sz : Nat → Int32) (sl : Nat → Int32) (sc : Nat → Int32) (sm : Int32) (xa : Nat) (xb : Int32) (xc : Nat) (xd : Nat) (y1 : Nat → Int32) (y2 : Nat → Int32) (y3 : Nat → Int32) (y4 : Nat → Int32) (y5 : Nat → Int32) (hn : Nat → Int32) (f_r : Nat) (n_n : Nat) (hfr : f_r + n_n ≤ 240) (hxc : xc = 0) (hxa3 : xa = 3) (h3n : 3 ≤ n_n) : zM l g yX5_readsDays wsX5_readsDays rX5_readsDays [.ref (b 0), .int (nI f_r), .int (nI n_n)] (wM g b ft so D E tr C lk kd st sp nd rO rB rD rW sz sl sc sm xa xb xc xd y1 y2 y3 y4 y5 hn) (some (.int (bI (decide (0 < tdy sc f_r n_n))))) (wM g b ft so D E tr C lk kd st sp nd rO rB rD rW sz sl sc sm (3 + tdy sc f_r n_n) xb (tdy sc f_r n_n) xd (tlk sc f_r y1 (tdy sc f_r n_n)) y2 y3 y4 y5 hn) := by
  refine z_met (own := RX5) (cc := cX5_readsDays) (maxL := 5) (ret := some .boolean) (by decide +kernel) rfl rfl (Nat.le_of_ble_eq_true rfl) ?_
  intro M X ZF
  refine z_Le (L' := [(0, .ref (b 0)), (1, .int (nI f_r)), (2, .int (nI n_n))]) rfl ?_
  have i_RX5 : ∀ w ∈ wsX50, w ∈ wsX5_readsDays := by decide +kernel
  have f_95 : Cond.fieldLink RX5 95 (TX5 12).1 (TX5 12).2.1 (TX5 12).2.2.1 ∈ wsX5_readsDays := by decide +kernel
  have f_29 : Cond.fieldLink RX5 29 (TX5 14).1 (TX5 14).2.1 (TX5 14).2.2.1 ∈ wsX5_readsDays := by decide +kernel
  subst hxc
  subst hxa3
  refine z_iconst (v := nI 1) X dX5_readsDays_0 (by decide) ?_
  refine z_istore_n (L' := [(3, .int (nI 1)), (0, .ref (b 0)), (1, .int (nI f_r)), (2, .int (nI n_n))]) X dX5_readsDays_1 rfl (by decide) rfl ?_
  have loopv1 : ∀ (n1 d_v : Nat), d_v ≤ 6 → 6 + 1 ≤ d_v + n1 → (tdy sc f_r n_n = tdc sc f_r n_n (6 - d_v) d_v) → (3 + d_v ≤ n_n) → zG l g 5 M (wM g b ft so D E tr C lk kd st sp nd rO rB rD rW sz sl sc sm (3 + d_v) xb d_v xd (tlk sc f_r y1 d_v) y2 y3 y4 y5 hn) [(0, .ref (b 0)), (1, .int (nI f_r)), (2, .int (nI n_n)), (3, .int (nI 1))] 2 [] := by
    intro n1
    induction n1 with
    | zero => intro d_v h1 h2 _ _; exact absurd h2 (by omega)
    | succ n1 ih1 =>
      intro d_v hi1 hn1 hdd h3d
      refine z_aload_n X dX5_readsDays_2 rfl 0 rfl ?_
      refine z_get (v := .int (nI d_v)) (N := 29) X i_RX5 (ci := 4) rfl 0 rfl 12 (by decide) f_95 rfl dX5_readsDays_3 ?_
      refine z_bipush (v := nI 6) X dX5_readsDays_6 (by decide) ?_
      refine z_icmp_geN (tgt := 65) X dX5_readsDays_8 (by decide) (by omega) (by omega) (fun hq2 => ?_) (fun hq2 => ?_)
      ·
        have htd : tdy sc f_r n_n = d_v := by rw [hdd, show d_v = 6 by omega]; rfl
        refine z_aload_n X dX5_readsDays_65 rfl 0 rfl ?_
        refine z_get (v := .int (nI d_v)) (N := 29) X i_RX5 (ci := 4) rfl 0 rfl 12 (by decide) f_95 rfl dX5_readsDays_66 ?_
        refine z_if_leN (tgt := 76) X dX5_readsDays_69 (by decide) (by omega) (fun hq3 => ?_) (fun hq3 => ?_)
        ·
          refine z_iconst (v := nI 0) X dX5_readsDays_76 (by decide) ?_
          have e4 : (3 + tdy sc f_r n_n) = (3 + d_v) := by rw [htd]
          have e5 : (tdy sc f_r n_n) = d_v := by exact htd
          have e6 : (tlk sc f_r y1 (tdy sc f_r n_n)) = (tlk sc f_r y1 d_v) := by rw [htd]
          exact z_zret X ZF dX5_readsDays_77 (bI_nar _) (by first | exact bI_t (decide_eq_true (by omega)) | exact bI_f (decide_eq_false (by omega))) (by first | rw [e6, e5, e4] | (simp only [e6, e5, e4]))
        ·
          refine z_iconst (v := nI 1) X dX5_readsDays_72 (by decide) ?_
          refine z_goto (tgt := 77) X dX5_readsDays_73 (by decide) ?_
          have e7 : (3 + tdy sc f_r n_n) = (3 + d_v) := by rw [htd]
          have e8 : (tdy sc f_r n_n) = d_v := by exact htd
          have e9 : (tlk sc f_r y1 (tdy sc f_r n_n)) = (tlk sc f_r y1 d_v) := by rw [htd]
          exact z_zret X ZF dX5_readsDays_77 (bI_nar _) (by first | exact bI_t (decide_eq_true (by omega)) | exact bI_f (decide_eq_false (by omega))) (by first | rw [e9, e8, e7] | (simp only [e9, e8, e7]))
      ·
        refine z_iload_n X dX5_readsDays_11 rfl 3 rfl ?_
        refine z_if_eqN (tgt := 65) X dX5_readsDays_12 (by decide) (by omega) (fun hq10 => ?_) (fun hq10 => ?_)
        ·
          exact absurd hq10 (by decide)
        ·
          refine z_aload_n X dX5_readsDays_15 rfl 0 rfl ?_
          refine z_iload_n X dX5_readsDays_16 rfl 1 rfl ?_
          refine z_iload_n X dX5_readsDays_17 rfl 2 rfl ?_
          refine z_iconst (v := nI 0) X dX5_readsDays_18 (by decide) ?_
          refine z_bipush (v := nI 9) X dX5_readsDays_19 (by decide) ?_
          refine z_callVM X (c_X5_figure l g b ft so D E tr C lk kd st sp nd rO rB rD rW sz sl sc sm (3 + d_v) xb d_v xd (tlk sc f_r y1 d_v) y2 y3 y4 y5 hn f_r n_n 0 9 (by omega) (by omega) (by omega) (by omega)) gX5_readsDays_X5_figure rfl ⟨rfl, rfl⟩ (by decide +kernel) ⟨Nat.le_of_ble_eq_true rfl, Nat.le_of_ble_eq_true rfl⟩ ZF.room (ci := 4) rfl 0 rfl rfl (As := [.int (nI f_r), .int (nI n_n), .int (nI 0), .int (nI 9)]) (n := 4) rfl rfl (st1 := [.int (fgI (cA sc f_r n_n (3 + d_v)) 0 9)]) rfl (Nat.le_of_ble_eq_true rfl) dX5_readsDays_21 ?_
          rcases bTF (zdg (cA sc f_r n_n (3 + d_v)) 0 9) with hz_a | hz_a
          ·
            obtain ⟨s_a, hs_a, hse_a⟩ := zdg_n (by omega) (by omega) hz_a
            have hl_a := zdg_lt (by omega) (by omega) hz_a
            have hzc_a : zdg (sc (f_r + (3 + d_v))) 0 9 = true := by have e := hz_a; rw [cA_in hl_a] at e; exact e
            have hsc_a : sc (f_r + (3 + d_v)) - nI 48 = nI s_a := by have e := hse_a; rw [cA_in hl_a] at e; exact e
            refine z_top ((fgI_t hz_a).trans hse_a) ?_
            refine z_ws (ws' := (wM g b ft so D E tr C lk kd st sp nd rO rB rD rW sz sl sc sm (3 + d_v + 1) xb d_v xd (tlk sc f_r y1 d_v) y2 y3 y4 y5 hn)) (by rw [if_pos hz_a]) ?_
            refine z_istore (L' := [(4, .int (nI s_a)), (0, .ref (b 0)), (1, .int (nI f_r)), (2, .int (nI n_n)), (3, .int (nI 1))]) X dX5_readsDays_24 (by decide) rfl ?_
            refine z_iload X dX5_readsDays_26 0 rfl ?_
            refine z_if_ltN (tgt := 35) X dX5_readsDays_28 (by decide) (by omega) (fun hq11 => ?_) (fun hq11 => ?_)
            ·
              exact absurd hq11 (by omega)
            ·
              refine z_iconst (v := nI 1) X dX5_readsDays_31 (by decide) ?_
              refine z_goto (tgt := 36) X dX5_readsDays_32 (by decide) ?_
              refine z_istore_n (L' := [(3, .int (nI 1)), (4, .int (nI s_a)), (0, .ref (b 0)), (1, .int (nI f_r)), (2, .int (nI n_n))]) X dX5_readsDays_36 rfl (by decide) rfl ?_
              refine z_iload_n X dX5_readsDays_37 rfl 0 rfl ?_
              refine z_if_eqN (tgt := 62) X dX5_readsDays_38 (by decide) (by omega) (fun hq12 => ?_) (fun hq12 => ?_)
              ·
                exact absurd hq12 (by decide)
              ·
                refine z_aload_n X dX5_readsDays_41 rfl 2 rfl ?_
                refine z_get (v := .ref (b 6)) (N := 29) X i_RX5 (ci := 4) rfl 0 rfl 14 (by decide) f_29 rfl dX5_readsDays_42 ?_
                refine z_aload_n X dX5_readsDays_45 rfl 2 rfl ?_
                refine z_get (v := .int (nI d_v)) (N := 29) X i_RX5 (ci := 4) rfl 0 rfl 12 (by decide) f_95 rfl dX5_readsDays_46 ?_
                refine z_iload X dX5_readsDays_49 1 rfl ?_
                refine z_iastN (ws' := (wM g b ft so D E tr C lk kd st sp nd rO rB rD rW sz sl sc sm (3 + d_v + 1) xb d_v xd (upd (tlk sc f_r y1 d_v) d_v (nI s_a)) y2 y3 y4 y5 hn)) X 6 rfl (by omega) (by omega) dX5_readsDays_51 rfl ?_
                refine z_aload_n X dX5_readsDays_52 rfl 2 rfl ?_
                refine z_dup X dX5_readsDays_53 rfl ?_
                refine z_get (v := .int (nI d_v)) (N := 29) X i_RX5 (ci := 4) rfl 0 rfl 12 (by decide) f_95 rfl dX5_readsDays_54 ?_
                refine z_iconst (v := nI 1) X dX5_readsDays_57 (by decide) ?_
                refine z_iadd' (v := nI (d_v + 1)) X dX5_readsDays_58 (nI_add _ _) ?_
                refine z_put (ws' := (wM g b ft so D E tr C lk kd st sp nd rO rB rD rW sz sl sc sm (3 + d_v + 1) xb (d_v + 1) xd (upd (tlk sc f_r y1 d_v) d_v (nI s_a)) y2 y3 y4 y5 hn)) (N := 29) X i_RX5 (ci := 4) rfl tyX5 tyX5_ok nmX5 0 rfl 12 (by decide) f_95 rfl (ty := .int) (by decide +kernel) rfl rfl (Nat.le_of_ble_eq_true rfl) dX5_readsDays_59 rfl ?_
                refine z_goto (tgt := 2) X dX5_readsDays_62 (by decide) ?_
                refine z_ls (L' := [(0, .ref (b 0)), (1, .int (nI f_r)), (2, .int (nI n_n)), (3, .int (nI 1))]) [2, 3, 4, 0] rfl ?_
                have e13 : (d_v + 1) = (d_v + 1) := by first | rfl | omega | exact (congrArg (upd (tlk sc f_r y1 d_v) d_v) hsc_a).symm
                have e14 : (3 + d_v + 1) = (3 + (d_v + 1)) := by first | rfl | omega | exact (congrArg (upd (tlk sc f_r y1 d_v) d_v) hsc_a).symm
                have e15 : (upd (tlk sc f_r y1 d_v) d_v (nI s_a)) = (tlk sc f_r y1 (d_v + 1)) := by first | rfl | omega | exact (congrArg (upd (tlk sc f_r y1 d_v) d_v) hsc_a).symm
                refine z_ws (ws' := (wM g b ft so D E tr C lk kd st sp nd rO rB rD rW sz sl sc sm (3 + (d_v + 1)) xb (d_v + 1) xd (tlk sc f_r y1 (d_v + 1)) y2 y3 y4 y5 hn)) (by rw [← e13, ← e14, ← e15]) ?_
                exact ih1 (d_v + 1) (by omega) (by omega) (hdd.trans (tdc_step (by omega) hl_a hzc_a)) (by omega)
          ·
            have hzn_a : ¬ (zdg (cA sc f_r n_n (3 + d_v)) 0 9 = true) := by rw [hz_a]; decide
            refine z_top (y := (-9)) (fgI_f hz_a) ?_
            refine z_ws (ws' := (wM g b ft so D E tr C lk kd st sp nd rO rB rD rW sz sl sc sm (3 + d_v) xb d_v xd (tlk sc f_r y1 d_v) y2 y3 y4 y5 hn)) (by rw [if_neg hzn_a]) ?_
            refine z_istore (L' := [(4, .int (-9)), (0, .ref (b 0)), (1, .int (nI f_r)), (2, .int (nI n_n)), (3, .int (nI 1))]) X dX5_readsDays_24 (by decide) rfl ?_
            refine z_iload X dX5_readsDays_26 0 rfl ?_
            refine z_if_lt (tgt := 35) X dX5_readsDays_28 (by decide) (fun hq16 => ?_) (fun hq16 => ?_)
            ·
              refine z_iconst (v := nI 0) X dX5_readsDays_35 (by decide) ?_
              refine z_istore_n (L' := [(3, .int (nI 0)), (4, .int (-9)), (0, .ref (b 0)), (1, .int (nI f_r)), (2, .int (nI n_n))]) X dX5_readsDays_36 rfl (by decide) rfl ?_
              refine z_iload_n X dX5_readsDays_37 rfl 0 rfl ?_
              refine z_if_eqN (tgt := 62) X dX5_readsDays_38 (by decide) (by omega) (fun hq17 => ?_) (fun hq17 => ?_)
              ·
                refine z_goto (tgt := 2) X dX5_readsDays_62 (by decide) ?_
                refine z_aload_n X dX5_readsDays_2 rfl 2 rfl ?_
                refine z_get (v := .int (nI d_v)) (N := 29) X i_RX5 (ci := 4) rfl 0 rfl 12 (by decide) f_95 rfl dX5_readsDays_3 ?_
                refine z_bipush (v := nI 6) X dX5_readsDays_6 (by decide) ?_
                refine z_icmp_geN (tgt := 65) X dX5_readsDays_8 (by decide) (by omega) (by omega) (fun hq18 => ?_) (fun hq18 => ?_)
                ·
                  exact absurd hq18 (by omega)
                ·
                  refine z_iload_n X dX5_readsDays_11 rfl 0 rfl ?_
                  refine z_if_eqN (tgt := 65) X dX5_readsDays_12 (by decide) (by omega) (fun hq19 => ?_) (fun hq19 => ?_)
                  ·
                    have htd : tdy sc f_r n_n = d_v := by rw [hdd]; exact tdc_end (fun z => by have e := hz_a; rw [cA_in z.1] at e; exact absurd (z.2.symm.trans e) (by decide))
                    refine z_aload_n X dX5_readsDays_65 rfl 2 rfl ?_
                    refine z_get (v := .int (nI d_v)) (N := 29) X i_RX5 (ci := 4) rfl 0 rfl 12 (by decide) f_95 rfl dX5_readsDays_66 ?_
                    refine z_if_leN (tgt := 76) X dX5_readsDays_69 (by decide) (by omega) (fun hq20 => ?_) (fun hq20 => ?_)
                    ·
                      refine z_iconst (v := nI 0) X dX5_readsDays_76 (by decide) ?_
                      have e21 : (3 + tdy sc f_r n_n) = (3 + d_v) := by rw [htd]
                      have e22 : (tdy sc f_r n_n) = d_v := by exact htd
                      have e23 : (tlk sc f_r y1 (tdy sc f_r n_n)) = (tlk sc f_r y1 d_v) := by rw [htd]
                      exact z_zret X ZF dX5_readsDays_77 (bI_nar _) (by first | exact bI_t (decide_eq_true (by omega)) | exact bI_f (decide_eq_false (by omega))) (by first | rw [e23, e22, e21] | (simp only [e23, e22, e21]))
                    ·
                      refine z_iconst (v := nI 1) X dX5_readsDays_72 (by decide) ?_
                      refine z_goto (tgt := 77) X dX5_readsDays_73 (by decide) ?_
                      have e24 : (3 + tdy sc f_r n_n) = (3 + d_v) := by rw [htd]
                      have e25 : (tdy sc f_r n_n) = d_v := by exact htd
                      have e26 : (tlk sc f_r y1 (tdy sc f_r n_n)) = (tlk sc f_r y1 d_v) := by rw [htd]
                      exact z_zret X ZF dX5_readsDays_77 (bI_nar _) (by first | exact bI_t (decide_eq_true (by omega)) | exact bI_f (decide_eq_false (by omega))) (by first | rw [e26, e25, e24] | (simp only [e26, e25, e24]))
                  ·
                    exact absurd hq19 (by decide)
              ·
                exact absurd hq17 (by decide)
            ·
              exact absurd hq16 (by decide)
  refine z_ls (L' := [(0, .ref (b 0)), (1, .int (nI f_r)), (2, .int (nI n_n)), (3, .int (nI 1))]) [1, 2, 3, 0] rfl ?_
  have e27 : 3 = (3 + 0) := by first | rfl | omega | exact (congrArg (upd (tlk sc f_r y1 d_v) d_v) hsc_a).symm
  have e28 : y1 = (tlk sc f_r y1 0) := by first | rfl | omega | exact (congrArg (upd (tlk sc f_r y1 d_v) d_v) hsc_a).symm
  refine z_ws (ws' := (wM g b ft so D E tr C lk kd st sp nd rO rB rD rW sz sl sc sm (3 + 0) xb 0 xd (tlk sc f_r y1 0) y2 y3 y4 y5 hn)) (by rw [← e27, ← e28]) ?_
  exact loopv1 (6 + 1) 0 (by omega) (by omega) rfl (by omega)
abbrev rX5_readsEater : Room := { frames := 2, cells := 0, slots := 0, locals := 51 }
set_option maxHeartbeats 4000000 in
set_option maxRecDepth 100000 in
theorem c_X5_readsEater (l : Launch) (g : zg) (b : Nat → Nat) (ft : Int32) (so : Int32) (D : Nat) (E : Nat) (tr : Int32) (C : Nat) (lk : Nat → Int32) (kd : Nat → Int32) (st : Nat → Int32) (sp : Nat → Int32) (nd : Nat → Int32) (rO : Nat → Int32) (rB : Nat → Int32) (rD : Nat → Int32) (rW : Nat → Int32) (sz : Nat → Int32) (sl : Nat → Int32) (sc : Nat → Int32) (sm : Int32) (xa : Nat) (xb : Int32) (xc : Nat) (xd : Nat) (y1 : Nat → Int32) (y2 : Nat → Int32) (y3 : Nat → Int32) (y4 : Nat → Int32) (y5 : Nat → Int32) (hn : Nat → Int32) (f_r : Nat) (n_n : Nat) (hfr : f_r + n_n ≤ 240) (hxa : xa ≤ n_n) (hxd : xd ≤ 4) : zM l g yX5_readsEater wsX5_readsEater rX5_readsEater [.ref (b 0), .int (nI f_r), .int (nI n_n)] (wM g b ft so D E tr C lk kd st sp nd rO rB rD rW sz sl sc sm xa xb xc xd y1 y2 y3 y4 y5 hn) (some (.int (bI ((eaF sc f_r n_n xa xd).1)))) (wM g b ft so D E tr C lk kd st sp nd rO rB rD rW sz sl sc sm ((eaF sc f_r n_n xa xd).2) xb xc (if (eaF sc f_r n_n xa xd).1 = true then xd + 1 else xd) y1 (if (eaF sc f_r n_n xa xd).1 = true then upd y2 xd (kbl (sc (f_r + xa + 1))) else y2) (if (eaF sc f_r n_n xa xd).1 = true then upd y3 xd (sc (f_r + xa + 2) - nI 48) else y3) (if (eaF sc f_r n_n xa xd).1 = true then upd y4 xd (sc (f_r + xa + 3) - nI 48) else y4) (if (eaF sc f_r n_n xa xd).1 = true then upd y5 xd (sc (f_r + xa + 4) - nI 48) else y5) hn) := by
  refine z_met (own := RX5) (cc := cX5_readsEater) (maxL := 7) (ret := some .boolean) (by decide +kernel) rfl rfl (Nat.le_of_ble_eq_true rfl) ?_
  intro M X ZF
  refine z_Le (L' := [(0, .ref (b 0)), (1, .int (nI f_r)), (2, .int (nI n_n))]) rfl ?_
  have i_RX5 : ∀ w ∈ wsX50, w ∈ wsX5_readsEater := by decide +kernel
  have f_102 : Cond.fieldLink RX5 102 (TX5 13).1 (TX5 13).2.1 (TX5 13).2.2.1 ∈ wsX5_readsEater := by decide +kernel
  have f_88 : Cond.fieldLink RX5 88 (TX5 10).1 (TX5 10).2.1 (TX5 10).2.2.1 ∈ wsX5_readsEater := by decide +kernel
  have f_32 : Cond.fieldLink RX5 32 (TX5 15).1 (TX5 15).2.1 (TX5 15).2.2.1 ∈ wsX5_readsEater := by decide +kernel
  have f_35 : Cond.fieldLink RX5 35 (TX5 16).1 (TX5 16).2.1 (TX5 16).2.2.1 ∈ wsX5_readsEater := by decide +kernel
  have f_38 : Cond.fieldLink RX5 38 (TX5 17).1 (TX5 17).2.1 (TX5 17).2.2.1 ∈ wsX5_readsEater := by decide +kernel
  have f_41 : Cond.fieldLink RX5 41 (TX5 18).1 (TX5 18).2.1 (TX5 18).2.2.1 ∈ wsX5_readsEater := by decide +kernel
  refine z_aload_n X dX5_readsEater_0 rfl 0 rfl ?_
  refine z_get (v := .int (nI xd)) (N := 29) X i_RX5 (ci := 4) rfl 0 rfl 13 (by decide) f_102 rfl dX5_readsEater_1 ?_
  refine z_iconst (v := nI 4) X dX5_readsEater_4 (by decide) ?_
  refine z_icmp_eqN (tgt := 19) X dX5_readsEater_5 (by decide) (by omega) (by omega) (fun hq1 => ?_) (fun hq1 => ?_)
  ·
    have hea : eaF sc f_r n_n xa xd = (false, xa) := by first | exact eaF_a (by omega) | exact eaF_b (by omega) hq1
    refine z_iconst (v := nI 0) X dX5_readsEater_19 (by decide) ?_
    have e2 : ((eaF sc f_r n_n xa xd).2) = xa := by rw [hea]
    have e3 : (if (eaF sc f_r n_n xa xd).1 = true then xd + 1 else xd) = xd := by exact pr_f hea
    have e4 : (if (eaF sc f_r n_n xa xd).1 = true then upd y2 xd (kbl (sc (f_r + xa + 1))) else y2) = y2 := by exact pr_f hea
    have e5 : (if (eaF sc f_r n_n xa xd).1 = true then upd y3 xd (sc (f_r + xa + 2) - nI 48) else y3) = y3 := by exact pr_f hea
    have e6 : (if (eaF sc f_r n_n xa xd).1 = true then upd y4 xd (sc (f_r + xa + 3) - nI 48) else y4) = y4 := by exact pr_f hea
    have e7 : (if (eaF sc f_r n_n xa xd).1 = true then upd y5 xd (sc (f_r + xa + 4) - nI 48) else y5) = y5 := by exact pr_f hea
    exact z_zret X ZF dX5_readsEater_20 (bI_nar _) (by exact bI_f (by rw [hea])) (by first | rw [e7, e6, e5, e4, e3, e2] | (simp only [e7, e6, e5, e4, e3, e2]))
  ·
    refine z_aload_n X dX5_readsEater_8 rfl 0 rfl ?_
    refine z_iload_n X dX5_readsEater_9 rfl 1 rfl ?_
    refine z_iload_n X dX5_readsEater_10 rfl 2 rfl ?_
    refine z_callVM X (c_X5_codeAt l g b ft so D E tr C lk kd st sp nd rO rB rD rW sz sl sc sm xa xb xc xd y1 y2 y3 y4 y5 hn f_r n_n (by omega) (by omega)) gX5_readsEater_X5_codeAt rfl ⟨rfl, rfl⟩ (by decide +kernel) ⟨Nat.le_of_ble_eq_true rfl, Nat.le_of_ble_eq_true rfl⟩ ZF.room (ci := 4) rfl 0 rfl rfl (As := [.int (nI f_r), .int (nI n_n)]) (n := 2) rfl rfl (st1 := [.int (cA sc f_r n_n xa)]) rfl (Nat.le_of_ble_eq_true rfl) dX5_readsEater_11 ?_
    refine z_bipush (v := nI 59) X dX5_readsEater_14 (by decide) ?_
    refine z_icmp_eq (tgt := 21) X dX5_readsEater_16 (by decide) (fun hq8 => ?_) (fun hq8 => ?_)
    ·
      have hx4 : xd ≠ 4 := by omega
      have h0c := hq8
      have hl0 : xa < n_n := cA_lt h0c (by decide +kernel)
      refine z_aload_n X dX5_readsEater_21 rfl 0 rfl ?_
      refine z_dup X dX5_readsEater_22 rfl ?_
      refine z_get (v := .int (nI xa)) (N := 29) X i_RX5 (ci := 4) rfl 0 rfl 10 (by decide) f_88 rfl dX5_readsEater_23 ?_
      refine z_iconst (v := nI 1) X dX5_readsEater_26 (by decide) ?_
      refine z_iadd' (v := nI (xa + 1)) X dX5_readsEater_27 (nI_add _ _) ?_
      refine z_put (ws' := (wM g b ft so D E tr C lk kd st sp nd rO rB rD rW sz sl sc sm (xa + 1) xb xc xd y1 y2 y3 y4 y5 hn)) (N := 29) X i_RX5 (ci := 4) rfl tyX5 tyX5_ok nmX5 0 rfl 10 (by decide) f_88 rfl (ty := .int) (by decide +kernel) rfl rfl (Nat.le_of_ble_eq_true rfl) dX5_readsEater_28 rfl ?_
      refine z_aload_n X dX5_readsEater_31 rfl 0 rfl ?_
      refine z_iload_n X dX5_readsEater_32 rfl 1 rfl ?_
      refine z_iload_n X dX5_readsEater_33 rfl 2 rfl ?_
      refine z_callVM X (c_X5_codeAt l g b ft so D E tr C lk kd st sp nd rO rB rD rW sz sl sc sm (xa + 1) xb xc xd y1 y2 y3 y4 y5 hn f_r n_n (by omega) (by omega)) gX5_readsEater_X5_codeAt rfl ⟨rfl, rfl⟩ (by decide +kernel) ⟨Nat.le_of_ble_eq_true rfl, Nat.le_of_ble_eq_true rfl⟩ ZF.room (ci := 4) rfl 0 rfl rfl (As := [.int (nI f_r), .int (nI n_n)]) (n := 2) rfl rfl (st1 := [.int (cA sc f_r n_n (xa + 1))]) rfl (Nat.le_of_ble_eq_true rfl) dX5_readsEater_34 ?_
      refine z_istore_n (L' := [(3, .int (cA sc f_r n_n (xa + 1))), (0, .ref (b 0)), (1, .int (nI f_r)), (2, .int (nI n_n))]) X dX5_readsEater_37 rfl (by decide) rfl ?_
      refine z_iload_n X dX5_readsEater_38 rfl 0 rfl ?_
      refine z_bipush (v := nI 101) X dX5_readsEater_39 (by decide) ?_
      refine z_icmp_eq (tgt := 58) X dX5_readsEater_41 (by decide) (fun hq9 => ?_) (fun hq9 => ?_)
      ·
        have hkn : ¬ kbl (cA sc f_r n_n (xa + 1)) = -9 := by rw [hq9]; decide +kernel
        have hl1 : xa + 1 < n_n := cA_lt hq9 (by decide +kernel)
        have hkv : kbl (sc (f_r + (xa + 1))) = nI 0 := by have e := hq9; rw [cA_in hl1] at e; rw [e]; decide +kernel
        refine z_Le (L' := [(3, .int (nI 101)), (0, .ref (b 0)), (1, .int (nI f_r)), (2, .int (nI n_n))]) (by rw [hq9]) ?_
        refine z_aload_n X dX5_readsEater_58 rfl 1 rfl ?_
        refine z_dup X dX5_readsEater_59 rfl ?_
        refine z_get (v := .int (nI (xa + 1))) (N := 29) X i_RX5 (ci := 4) rfl 0 rfl 10 (by decide) f_88 rfl dX5_readsEater_60 ?_
        refine z_iconst (v := nI 1) X dX5_readsEater_63 (by decide) ?_
        refine z_iadd' (v := nI (xa + 1 + 1)) X dX5_readsEater_64 (nI_add _ _) ?_
        refine z_put (ws' := (wM g b ft so D E tr C lk kd st sp nd rO rB rD rW sz sl sc sm (xa + 1 + 1) xb xc xd y1 y2 y3 y4 y5 hn)) (N := 29) X i_RX5 (ci := 4) rfl tyX5 tyX5_ok nmX5 0 rfl 10 (by decide) f_88 rfl (ty := .int) (by decide +kernel) rfl rfl (Nat.le_of_ble_eq_true rfl) dX5_readsEater_65 rfl ?_
        refine z_aload_n X dX5_readsEater_68 rfl 1 rfl ?_
        refine z_iload_n X dX5_readsEater_69 rfl 2 rfl ?_
        refine z_iload_n X dX5_readsEater_70 rfl 3 rfl ?_
        refine z_iconst (v := nI 0) X dX5_readsEater_71 (by decide) ?_
        refine z_iconst (v := nI 5) X dX5_readsEater_72 (by decide) ?_
        refine z_callVM X (c_X5_figure l g b ft so D E tr C lk kd st sp nd rO rB rD rW sz sl sc sm (xa + 1 + 1) xb xc xd y1 y2 y3 y4 y5 hn f_r n_n 0 5 (by omega) (by omega) (by omega) (by omega)) gX5_readsEater_X5_figure rfl ⟨rfl, rfl⟩ (by decide +kernel) ⟨Nat.le_of_ble_eq_true rfl, Nat.le_of_ble_eq_true rfl⟩ ZF.room (ci := 4) rfl 0 rfl rfl (As := [.int (nI f_r), .int (nI n_n), .int (nI 0), .int (nI 5)]) (n := 4) rfl rfl (st1 := [.int (fgI (cA sc f_r n_n (xa + 1 + 1)) 0 5)]) rfl (Nat.le_of_ble_eq_true rfl) dX5_readsEater_73 ?_
        rcases bTF (zdg (cA sc f_r n_n (xa + 1 + 1)) 0 5) with hz_b | hz_b
        ·
          obtain ⟨s_b, hs_b, hse_b⟩ := zdg_n (by omega) (by omega) hz_b
          have hl_b := zdg_lt (by omega) (by omega) hz_b
          have hzc_b : zdg (sc (f_r + (xa + 1 + 1))) 0 5 = true := by have e := hz_b; rw [cA_in hl_b] at e; exact e
          have hsc_b : sc (f_r + (xa + 1 + 1)) - nI 48 = nI s_b := by have e := hse_b; rw [cA_in hl_b] at e; exact e
          refine z_top ((fgI_t hz_b).trans hse_b) ?_
          refine z_ws (ws' := (wM g b ft so D E tr C lk kd st sp nd rO rB rD rW sz sl sc sm (xa + 1 + 1 + 1) xb xc xd y1 y2 y3 y4 y5 hn)) (by rw [if_pos hz_b]) ?_
          refine z_istore (L' := [(4, .int (nI s_b)), (3, .int (nI 101)), (0, .ref (b 0)), (1, .int (nI f_r)), (2, .int (nI n_n))]) X dX5_readsEater_76 (by decide) rfl ?_
          refine z_iload X dX5_readsEater_78 0 rfl ?_
          refine z_if_geN (tgt := 88) X dX5_readsEater_80 (by decide) (by omega) (fun hq10 => ?_) (fun hq10 => ?_)
          ·
            refine z_aload_n X dX5_readsEater_88 rfl 2 rfl ?_
            refine z_iload_n X dX5_readsEater_89 rfl 3 rfl ?_
            refine z_iload_n X dX5_readsEater_90 rfl 4 rfl ?_
            refine z_iconst (v := nI 1) X dX5_readsEater_91 (by decide) ?_
            refine z_bipush (v := nI 9) X dX5_readsEater_92 (by decide) ?_
            refine z_callVM X (c_X5_figure l g b ft so D E tr C lk kd st sp nd rO rB rD rW sz sl sc sm (xa + 1 + 1 + 1) xb xc xd y1 y2 y3 y4 y5 hn f_r n_n 1 9 (by omega) (by omega) (by omega) (by omega)) gX5_readsEater_X5_figure rfl ⟨rfl, rfl⟩ (by decide +kernel) ⟨Nat.le_of_ble_eq_true rfl, Nat.le_of_ble_eq_true rfl⟩ ZF.room (ci := 4) rfl 0 rfl rfl (As := [.int (nI f_r), .int (nI n_n), .int (nI 1), .int (nI 9)]) (n := 4) rfl rfl (st1 := [.int (fgI (cA sc f_r n_n (xa + 1 + 1 + 1)) 1 9)]) rfl (Nat.le_of_ble_eq_true rfl) dX5_readsEater_94 ?_
            rcases bTF (zdg (cA sc f_r n_n (xa + 1 + 1 + 1)) 1 9) with hz_c | hz_c
            ·
              obtain ⟨s_c, hs_c, hse_c⟩ := zdg_n (by omega) (by omega) hz_c
              have hl_c := zdg_lt (by omega) (by omega) hz_c
              have hzc_c : zdg (sc (f_r + (xa + 1 + 1 + 1))) 1 9 = true := by have e := hz_c; rw [cA_in hl_c] at e; exact e
              have hsc_c : sc (f_r + (xa + 1 + 1 + 1)) - nI 48 = nI s_c := by have e := hse_c; rw [cA_in hl_c] at e; exact e
              refine z_top ((fgI_t hz_c).trans hse_c) ?_
              refine z_ws (ws' := (wM g b ft so D E tr C lk kd st sp nd rO rB rD rW sz sl sc sm (xa + 1 + 1 + 1 + 1) xb xc xd y1 y2 y3 y4 y5 hn)) (by rw [if_pos hz_c]) ?_
              refine z_istore (L' := [(5, .int (nI s_c)), (4, .int (nI s_b)), (3, .int (nI 101)), (0, .ref (b 0)), (1, .int (nI f_r)), (2, .int (nI n_n))]) X dX5_readsEater_97 (by decide) rfl ?_
              refine z_iload X dX5_readsEater_99 0 rfl ?_
              refine z_if_geN (tgt := 109) X dX5_readsEater_101 (by decide) (by omega) (fun hq11 => ?_) (fun hq11 => ?_)
              ·
                refine z_aload_n X dX5_readsEater_109 rfl 3 rfl ?_
                refine z_iload_n X dX5_readsEater_110 rfl 4 rfl ?_
                refine z_iload_n X dX5_readsEater_111 rfl 5 rfl ?_
                refine z_iconst (v := nI 0) X dX5_readsEater_112 (by decide) ?_
                refine z_bipush (v := nI 6) X dX5_readsEater_113 (by decide) ?_
                refine z_callVM X (c_X5_figure l g b ft so D E tr C lk kd st sp nd rO rB rD rW sz sl sc sm (xa + 1 + 1 + 1 + 1) xb xc xd y1 y2 y3 y4 y5 hn f_r n_n 0 6 (by omega) (by omega) (by omega) (by omega)) gX5_readsEater_X5_figure rfl ⟨rfl, rfl⟩ (by decide +kernel) ⟨Nat.le_of_ble_eq_true rfl, Nat.le_of_ble_eq_true rfl⟩ ZF.room (ci := 4) rfl 0 rfl rfl (As := [.int (nI f_r), .int (nI n_n), .int (nI 0), .int (nI 6)]) (n := 4) rfl rfl (st1 := [.int (fgI (cA sc f_r n_n (xa + 1 + 1 + 1 + 1)) 0 6)]) rfl (Nat.le_of_ble_eq_true rfl) dX5_readsEater_115 ?_
                rcases bTF (zdg (cA sc f_r n_n (xa + 1 + 1 + 1 + 1)) 0 6) with hz_d | hz_d
                ·
                  obtain ⟨s_d, hs_d, hse_d⟩ := zdg_n (by omega) (by omega) hz_d
                  have hl_d := zdg_lt (by omega) (by omega) hz_d
                  have hzc_d : zdg (sc (f_r + (xa + 1 + 1 + 1 + 1))) 0 6 = true := by have e := hz_d; rw [cA_in hl_d] at e; exact e
                  have hsc_d : sc (f_r + (xa + 1 + 1 + 1 + 1)) - nI 48 = nI s_d := by have e := hse_d; rw [cA_in hl_d] at e; exact e
                  refine z_top ((fgI_t hz_d).trans hse_d) ?_
                  refine z_ws (ws' := (wM g b ft so D E tr C lk kd st sp nd rO rB rD rW sz sl sc sm (xa + 1 + 1 + 1 + 1 + 1) xb xc xd y1 y2 y3 y4 y5 hn)) (by rw [if_pos hz_d]) ?_
                  refine z_istore (L' := [(6, .int (nI s_d)), (5, .int (nI s_c)), (4, .int (nI s_b)), (3, .int (nI 101)), (0, .ref (b 0)), (1, .int (nI f_r)), (2, .int (nI n_n))]) X dX5_readsEater_118 (by decide) rfl ?_
                  refine z_iload X dX5_readsEater_120 0 rfl ?_
                  refine z_if_geN (tgt := 127) X dX5_readsEater_122 (by decide) (by omega) (fun hq12 => ?_) (fun hq12 => ?_)
                  ·
                    have hea := eaF_g (e := xd) hx4 h0c hkn hz_b hz_c hz_d
                    refine z_aload_n X dX5_readsEater_127 rfl 4 rfl ?_
                    refine z_get (v := .ref (b 7)) (N := 29) X i_RX5 (ci := 4) rfl 0 rfl 15 (by decide) f_32 rfl dX5_readsEater_128 ?_
                    refine z_aload_n X dX5_readsEater_131 rfl 4 rfl ?_
                    refine z_get (v := .int (nI xd)) (N := 29) X i_RX5 (ci := 4) rfl 0 rfl 13 (by decide) f_102 rfl dX5_readsEater_132 ?_
                    refine z_iload_n X dX5_readsEater_135 rfl 3 rfl ?_
                    refine z_bipush (v := nI 101) X dX5_readsEater_136 (by decide) ?_
                    refine z_icmp_neN (tgt := 145) X dX5_readsEater_138 (by decide) (by omega) (by omega) (fun hq13 => ?_) (fun hq13 => ?_)
                    ·
                      exact absurd rfl hq13
                    ·
                      refine z_iconst (v := nI 0) X dX5_readsEater_141 (by decide) ?_
                      refine z_goto (tgt := 156) X dX5_readsEater_142 (by decide) ?_
                      refine z_iastN (ws' := (wM g b ft so D E tr C lk kd st sp nd rO rB rD rW sz sl sc sm (xa + 1 + 1 + 1 + 1 + 1) xb xc xd y1 (upd y2 xd (nI 0)) y3 y4 y5 hn)) X 7 rfl (by omega) (by omega) dX5_readsEater_156 rfl ?_
                      refine z_aload_n X dX5_readsEater_157 rfl 4 rfl ?_
                      refine z_get (v := .ref (b 8)) (N := 29) X i_RX5 (ci := 4) rfl 0 rfl 16 (by decide) f_35 rfl dX5_readsEater_158 ?_
                      refine z_aload_n X dX5_readsEater_161 rfl 4 rfl ?_
                      refine z_get (v := .int (nI xd)) (N := 29) X i_RX5 (ci := 4) rfl 0 rfl 13 (by decide) f_102 rfl dX5_readsEater_162 ?_
                      refine z_iload X dX5_readsEater_165 2 rfl ?_
                      refine z_iastN (ws' := (wM g b ft so D E tr C lk kd st sp nd rO rB rD rW sz sl sc sm (xa + 1 + 1 + 1 + 1 + 1) xb xc xd y1 (upd y2 xd (nI 0)) (upd y3 xd (nI s_b)) y4 y5 hn)) X 8 rfl (by omega) (by omega) dX5_readsEater_167 rfl ?_
                      refine z_aload_n X dX5_readsEater_168 rfl 4 rfl ?_
                      refine z_get (v := .ref (b 9)) (N := 29) X i_RX5 (ci := 4) rfl 0 rfl 17 (by decide) f_38 rfl dX5_readsEater_169 ?_
                      refine z_aload_n X dX5_readsEater_172 rfl 4 rfl ?_
                      refine z_get (v := .int (nI xd)) (N := 29) X i_RX5 (ci := 4) rfl 0 rfl 13 (by decide) f_102 rfl dX5_readsEater_173 ?_
                      refine z_iload X dX5_readsEater_176 1 rfl ?_
                      refine z_iastN (ws' := (wM g b ft so D E tr C lk kd st sp nd rO rB rD rW sz sl sc sm (xa + 1 + 1 + 1 + 1 + 1) xb xc xd y1 (upd y2 xd (nI 0)) (upd y3 xd (nI s_b)) (upd y4 xd (nI s_c)) y5 hn)) X 9 rfl (by omega) (by omega) dX5_readsEater_178 rfl ?_
                      refine z_aload_n X dX5_readsEater_179 rfl 4 rfl ?_
                      refine z_get (v := .ref (b 10)) (N := 29) X i_RX5 (ci := 4) rfl 0 rfl 18 (by decide) f_41 rfl dX5_readsEater_180 ?_
                      refine z_aload_n X dX5_readsEater_183 rfl 4 rfl ?_
                      refine z_get (v := .int (nI xd)) (N := 29) X i_RX5 (ci := 4) rfl 0 rfl 13 (by decide) f_102 rfl dX5_readsEater_184 ?_
                      refine z_iload X dX5_readsEater_187 0 rfl ?_
                      refine z_iastN (ws' := (wM g b ft so D E tr C lk kd st sp nd rO rB rD rW sz sl sc sm (xa + 1 + 1 + 1 + 1 + 1) xb xc xd y1 (upd y2 xd (nI 0)) (upd y3 xd (nI s_b)) (upd y4 xd (nI s_c)) (upd y5 xd (nI s_d)) hn)) X 10 rfl (by omega) (by omega) dX5_readsEater_189 rfl ?_
                      refine z_aload_n X dX5_readsEater_190 rfl 4 rfl ?_
                      refine z_dup X dX5_readsEater_191 rfl ?_
                      refine z_get (v := .int (nI xd)) (N := 29) X i_RX5 (ci := 4) rfl 0 rfl 13 (by decide) f_102 rfl dX5_readsEater_192 ?_
                      refine z_iconst (v := nI 1) X dX5_readsEater_195 (by decide) ?_
                      refine z_iadd' (v := nI (xd + 1)) X dX5_readsEater_196 (nI_add _ _) ?_
                      refine z_put (ws' := (wM g b ft so D E tr C lk kd st sp nd rO rB rD rW sz sl sc sm (xa + 1 + 1 + 1 + 1 + 1) xb xc (xd + 1) y1 (upd y2 xd (nI 0)) (upd y3 xd (nI s_b)) (upd y4 xd (nI s_c)) (upd y5 xd (nI s_d)) hn)) (N := 29) X i_RX5 (ci := 4) rfl tyX5 tyX5_ok nmX5 0 rfl 13 (by decide) f_102 rfl (ty := .int) (by decide +kernel) rfl rfl (Nat.le_of_ble_eq_true rfl) dX5_readsEater_197 rfl ?_
                      refine z_iconst (v := nI 1) X dX5_readsEater_200 (by decide) ?_
                      have e14 : ((eaF sc f_r n_n xa xd).2) = (xa + 1 + 1 + 1 + 1 + 1) := by rw [hea]
                      have e15 : (if (eaF sc f_r n_n xa xd).1 = true then xd + 1 else xd) = (xd + 1) := by exact pr_t hea rfl
                      have e16 : (if (eaF sc f_r n_n xa xd).1 = true then upd y2 xd (kbl (sc (f_r + xa + 1))) else y2) = (upd y2 xd (nI 0)) := by exact pr_t hea (congrArg (upd y2 xd) hkv)
                      have e17 : (if (eaF sc f_r n_n xa xd).1 = true then upd y3 xd (sc (f_r + xa + 2) - nI 48) else y3) = (upd y3 xd (nI s_b)) := by exact pr_t hea (congrArg (upd y3 xd) hsc_b)
                      have e18 : (if (eaF sc f_r n_n xa xd).1 = true then upd y4 xd (sc (f_r + xa + 3) - nI 48) else y4) = (upd y4 xd (nI s_c)) := by exact pr_t hea (congrArg (upd y4 xd) hsc_c)
                      have e19 : (if (eaF sc f_r n_n xa xd).1 = true then upd y5 xd (sc (f_r + xa + 4) - nI 48) else y5) = (upd y5 xd (nI s_d)) := by exact pr_t hea (congrArg (upd y5 xd) hsc_d)
                      exact z_zret X ZF dX5_readsEater_201 (bI_nar _) (by exact bI_t (by rw [hea])) (by first | rw [e19, e18, e17, e16, e15, e14] | (simp only [e19, e18, e17, e16, e15, e14]))
                  ·
                    exact absurd hq12 (by omega)
                ·
                  have hzn_d : ¬ (zdg (cA sc f_r n_n (xa + 1 + 1 + 1 + 1)) 0 6 = true) := by rw [hz_d]; decide
                  refine z_top (y := (-9)) (fgI_f hz_d) ?_
                  refine z_ws (ws' := (wM g b ft so D E tr C lk kd st sp nd rO rB rD rW sz sl sc sm (xa + 1 + 1 + 1 + 1) xb xc xd y1 y2 y3 y4 y5 hn)) (by rw [if_neg hzn_d]) ?_
                  refine z_istore (L' := [(6, .int (-9)), (5, .int (nI s_c)), (4, .int (nI s_b)), (3, .int (nI 101)), (0, .ref (b 0)), (1, .int (nI f_r)), (2, .int (nI n_n))]) X dX5_readsEater_118 (by decide) rfl ?_
                  refine z_iload X dX5_readsEater_120 0 rfl ?_
                  refine z_if_ge (tgt := 127) X dX5_readsEater_122 (by decide) (fun hq20 => ?_) (fun hq20 => ?_)
                  ·
                    exact absurd hq20 (by decide)
                  ·
                    have hea := (by first | exact eaF_d (e := xd) hx4 h0c hkn hz_b | exact eaF_e (e := xd) hx4 h0c hkn hz_b hz_c | exact eaF_f (e := xd) hx4 h0c hkn hz_b hz_c hz_d : eaF sc f_r n_n xa xd = (false, xa + 1 + 1 + 1 + 1))
                    refine z_iconst (v := nI 0) X dX5_readsEater_125 (by decide) ?_
                    have e21 : ((eaF sc f_r n_n xa xd).2) = (xa + 1 + 1 + 1 + 1) := by rw [hea]
                    have e22 : (if (eaF sc f_r n_n xa xd).1 = true then xd + 1 else xd) = xd := by exact pr_f hea
                    have e23 : (if (eaF sc f_r n_n xa xd).1 = true then upd y2 xd (kbl (sc (f_r + xa + 1))) else y2) = y2 := by exact pr_f hea
                    have e24 : (if (eaF sc f_r n_n xa xd).1 = true then upd y3 xd (sc (f_r + xa + 2) - nI 48) else y3) = y3 := by exact pr_f hea
                    have e25 : (if (eaF sc f_r n_n xa xd).1 = true then upd y4 xd (sc (f_r + xa + 3) - nI 48) else y4) = y4 := by exact pr_f hea
                    have e26 : (if (eaF sc f_r n_n xa xd).1 = true then upd y5 xd (sc (f_r + xa + 4) - nI 48) else y5) = y5 := by exact pr_f hea
                    exact z_zret X ZF dX5_readsEater_126 (bI_nar _) (by exact bI_f (by rw [hea])) (by first | rw [e26, e25, e24, e23, e22, e21] | (simp only [e26, e25, e24, e23, e22, e21]))
              ·
                exact absurd hq11 (by omega)
            ·
              have hzn_c : ¬ (zdg (cA sc f_r n_n (xa + 1 + 1 + 1)) 1 9 = true) := by rw [hz_c]; decide
              refine z_top (y := (-9)) (fgI_f hz_c) ?_
              refine z_ws (ws' := (wM g b ft so D E tr C lk kd st sp nd rO rB rD rW sz sl sc sm (xa + 1 + 1 + 1) xb xc xd y1 y2 y3 y4 y5 hn)) (by rw [if_neg hzn_c]) ?_
              refine z_istore (L' := [(5, .int (-9)), (4, .int (nI s_b)), (3, .int (nI 101)), (0, .ref (b 0)), (1, .int (nI f_r)), (2, .int (nI n_n))]) X dX5_readsEater_97 (by decide) rfl ?_
              refine z_iload X dX5_readsEater_99 0 rfl ?_
              refine z_if_ge (tgt := 109) X dX5_readsEater_101 (by decide) (fun hq27 => ?_) (fun hq27 => ?_)
              ·
                exact absurd hq27 (by decide)
              ·
                refine z_bipush (v := (-9)) X dX5_readsEater_104 (by decide) ?_
                refine z_goto (tgt := 118) X dX5_readsEater_106 (by decide) ?_
                refine z_istore (L' := [(6, .int (-9)), (5, .int (-9)), (4, .int (nI s_b)), (3, .int (nI 101)), (0, .ref (b 0)), (1, .int (nI f_r)), (2, .int (nI n_n))]) X dX5_readsEater_118 (by decide) rfl ?_
                refine z_iload X dX5_readsEater_120 0 rfl ?_
                refine z_if_ge (tgt := 127) X dX5_readsEater_122 (by decide) (fun hq28 => ?_) (fun hq28 => ?_)
                ·
                  exact absurd hq28 (by decide)
                ·
                  have hea := (by first | exact eaF_d (e := xd) hx4 h0c hkn hz_b | exact eaF_e (e := xd) hx4 h0c hkn hz_b hz_c | exact eaF_f (e := xd) hx4 h0c hkn hz_b hz_c hz_d : eaF sc f_r n_n xa xd = (false, xa + 1 + 1 + 1))
                  refine z_iconst (v := nI 0) X dX5_readsEater_125 (by decide) ?_
                  have e29 : ((eaF sc f_r n_n xa xd).2) = (xa + 1 + 1 + 1) := by rw [hea]
                  have e30 : (if (eaF sc f_r n_n xa xd).1 = true then xd + 1 else xd) = xd := by exact pr_f hea
                  have e31 : (if (eaF sc f_r n_n xa xd).1 = true then upd y2 xd (kbl (sc (f_r + xa + 1))) else y2) = y2 := by exact pr_f hea
                  have e32 : (if (eaF sc f_r n_n xa xd).1 = true then upd y3 xd (sc (f_r + xa + 2) - nI 48) else y3) = y3 := by exact pr_f hea
                  have e33 : (if (eaF sc f_r n_n xa xd).1 = true then upd y4 xd (sc (f_r + xa + 3) - nI 48) else y4) = y4 := by exact pr_f hea
                  have e34 : (if (eaF sc f_r n_n xa xd).1 = true then upd y5 xd (sc (f_r + xa + 4) - nI 48) else y5) = y5 := by exact pr_f hea
                  exact z_zret X ZF dX5_readsEater_126 (bI_nar _) (by exact bI_f (by rw [hea])) (by first | rw [e34, e33, e32, e31, e30, e29] | (simp only [e34, e33, e32, e31, e30, e29]))
          ·
            exact absurd hq10 (by omega)
        ·
          have hzn_b : ¬ (zdg (cA sc f_r n_n (xa + 1 + 1)) 0 5 = true) := by rw [hz_b]; decide
          refine z_top (y := (-9)) (fgI_f hz_b) ?_
          refine z_ws (ws' := (wM g b ft so D E tr C lk kd st sp nd rO rB rD rW sz sl sc sm (xa + 1 + 1) xb xc xd y1 y2 y3 y4 y5 hn)) (by rw [if_neg hzn_b]) ?_
          refine z_istore (L' := [(4, .int (-9)), (3, .int (nI 101)), (0, .ref (b 0)), (1, .int (nI f_r)), (2, .int (nI n_n))]) X dX5_readsEater_76 (by decide) rfl ?_
          refine z_iload X dX5_readsEater_78 0 rfl ?_
          refine z_if_ge (tgt := 88) X dX5_readsEater_80 (by decide) (fun hq35 => ?_) (fun hq35 => ?_)
          ·
            exact absurd hq35 (by decide)
          ·
            refine z_bipush (v := (-9)) X dX5_readsEater_83 (by decide) ?_
            refine z_goto (tgt := 97) X dX5_readsEater_85 (by decide) ?_
            refine z_istore (L' := [(5, .int (-9)), (4, .int (-9)), (3, .int (nI 101)), (0, .ref (b 0)), (1, .int (nI f_r)), (2, .int (nI n_n))]) X dX5_readsEater_97 (by decide) rfl ?_
            refine z_iload X dX5_readsEater_99 0 rfl ?_
            refine z_if_ge (tgt := 109) X dX5_readsEater_101 (by decide) (fun hq36 => ?_) (fun hq36 => ?_)
            ·
              exact absurd hq36 (by decide)
            ·
              refine z_bipush (v := (-9)) X dX5_readsEater_104 (by decide) ?_
              refine z_goto (tgt := 118) X dX5_readsEater_106 (by decide) ?_
              refine z_istore (L' := [(6, .int (-9)), (5, .int (-9)), (4, .int (-9)), (3, .int (nI 101)), (0, .ref (b 0)), (1, .int (nI f_r)), (2, .int (nI n_n))]) X dX5_readsEater_118 (by decide) rfl ?_
              refine z_iload X dX5_readsEater_120 0 rfl ?_
              refine z_if_ge (tgt := 127) X dX5_readsEater_122 (by decide) (fun hq37 => ?_) (fun hq37 => ?_)
              ·
                exact absurd hq37 (by decide)
              ·
                have hea := (by first | exact eaF_d (e := xd) hx4 h0c hkn hz_b | exact eaF_e (e := xd) hx4 h0c hkn hz_b hz_c | exact eaF_f (e := xd) hx4 h0c hkn hz_b hz_c hz_d : eaF sc f_r n_n xa xd = (false, xa + 1 + 1))
                refine z_iconst (v := nI 0) X dX5_readsEater_125 (by decide) ?_
                have e38 : ((eaF sc f_r n_n xa xd).2) = (xa + 1 + 1) := by rw [hea]
                have e39 : (if (eaF sc f_r n_n xa xd).1 = true then xd + 1 else xd) = xd := by exact pr_f hea
                have e40 : (if (eaF sc f_r n_n xa xd).1 = true then upd y2 xd (kbl (sc (f_r + xa + 1))) else y2) = y2 := by exact pr_f hea
                have e41 : (if (eaF sc f_r n_n xa xd).1 = true then upd y3 xd (sc (f_r + xa + 2) - nI 48) else y3) = y3 := by exact pr_f hea
                have e42 : (if (eaF sc f_r n_n xa xd).1 = true then upd y4 xd (sc (f_r + xa + 3) - nI 48) else y4) = y4 := by exact pr_f hea
                have e43 : (if (eaF sc f_r n_n xa xd).1 = true then upd y5 xd (sc (f_r + xa + 4) - nI 48) else y5) = y5 := by exact pr_f hea
                exact z_zret X ZF dX5_readsEater_126 (bI_nar _) (by exact bI_f (by rw [hea])) (by first | rw [e43, e42, e41, e40, e39, e38] | (simp only [e43, e42, e41, e40, e39, e38]))
      ·
        refine z_iload_n X dX5_readsEater_44 rfl 0 rfl ?_
        refine z_bipush (v := nI 115) X dX5_readsEater_45 (by decide) ?_
        refine z_icmp_eq (tgt := 58) X dX5_readsEater_47 (by decide) (fun hq44 => ?_) (fun hq44 => ?_)
        ·
          have hkn : ¬ kbl (cA sc f_r n_n (xa + 1)) = -9 := by rw [hq44]; decide +kernel
          have hl1 : xa + 1 < n_n := cA_lt hq44 (by decide +kernel)
          have hkv : kbl (sc (f_r + (xa + 1))) = nI 1 := by have e := hq44; rw [cA_in hl1] at e; rw [e]; decide +kernel
          refine z_Le (L' := [(3, .int (nI 115)), (0, .ref (b 0)), (1, .int (nI f_r)), (2, .int (nI n_n))]) (by rw [hq44]) ?_
          refine z_aload_n X dX5_readsEater_58 rfl 1 rfl ?_
          refine z_dup X dX5_readsEater_59 rfl ?_
          refine z_get (v := .int (nI (xa + 1))) (N := 29) X i_RX5 (ci := 4) rfl 0 rfl 10 (by decide) f_88 rfl dX5_readsEater_60 ?_
          refine z_iconst (v := nI 1) X dX5_readsEater_63 (by decide) ?_
          refine z_iadd' (v := nI (xa + 1 + 1)) X dX5_readsEater_64 (nI_add _ _) ?_
          refine z_put (ws' := (wM g b ft so D E tr C lk kd st sp nd rO rB rD rW sz sl sc sm (xa + 1 + 1) xb xc xd y1 y2 y3 y4 y5 hn)) (N := 29) X i_RX5 (ci := 4) rfl tyX5 tyX5_ok nmX5 0 rfl 10 (by decide) f_88 rfl (ty := .int) (by decide +kernel) rfl rfl (Nat.le_of_ble_eq_true rfl) dX5_readsEater_65 rfl ?_
          refine z_aload_n X dX5_readsEater_68 rfl 1 rfl ?_
          refine z_iload_n X dX5_readsEater_69 rfl 2 rfl ?_
          refine z_iload_n X dX5_readsEater_70 rfl 3 rfl ?_
          refine z_iconst (v := nI 0) X dX5_readsEater_71 (by decide) ?_
          refine z_iconst (v := nI 5) X dX5_readsEater_72 (by decide) ?_
          refine z_callVM X (c_X5_figure l g b ft so D E tr C lk kd st sp nd rO rB rD rW sz sl sc sm (xa + 1 + 1) xb xc xd y1 y2 y3 y4 y5 hn f_r n_n 0 5 (by omega) (by omega) (by omega) (by omega)) gX5_readsEater_X5_figure rfl ⟨rfl, rfl⟩ (by decide +kernel) ⟨Nat.le_of_ble_eq_true rfl, Nat.le_of_ble_eq_true rfl⟩ ZF.room (ci := 4) rfl 0 rfl rfl (As := [.int (nI f_r), .int (nI n_n), .int (nI 0), .int (nI 5)]) (n := 4) rfl rfl (st1 := [.int (fgI (cA sc f_r n_n (xa + 1 + 1)) 0 5)]) rfl (Nat.le_of_ble_eq_true rfl) dX5_readsEater_73 ?_
          rcases bTF (zdg (cA sc f_r n_n (xa + 1 + 1)) 0 5) with hz_b | hz_b
          ·
            obtain ⟨s_b, hs_b, hse_b⟩ := zdg_n (by omega) (by omega) hz_b
            have hl_b := zdg_lt (by omega) (by omega) hz_b
            have hzc_b : zdg (sc (f_r + (xa + 1 + 1))) 0 5 = true := by have e := hz_b; rw [cA_in hl_b] at e; exact e
            have hsc_b : sc (f_r + (xa + 1 + 1)) - nI 48 = nI s_b := by have e := hse_b; rw [cA_in hl_b] at e; exact e
            refine z_top ((fgI_t hz_b).trans hse_b) ?_
            refine z_ws (ws' := (wM g b ft so D E tr C lk kd st sp nd rO rB rD rW sz sl sc sm (xa + 1 + 1 + 1) xb xc xd y1 y2 y3 y4 y5 hn)) (by rw [if_pos hz_b]) ?_
            refine z_istore (L' := [(4, .int (nI s_b)), (3, .int (nI 115)), (0, .ref (b 0)), (1, .int (nI f_r)), (2, .int (nI n_n))]) X dX5_readsEater_76 (by decide) rfl ?_
            refine z_iload X dX5_readsEater_78 0 rfl ?_
            refine z_if_geN (tgt := 88) X dX5_readsEater_80 (by decide) (by omega) (fun hq45 => ?_) (fun hq45 => ?_)
            ·
              refine z_aload_n X dX5_readsEater_88 rfl 2 rfl ?_
              refine z_iload_n X dX5_readsEater_89 rfl 3 rfl ?_
              refine z_iload_n X dX5_readsEater_90 rfl 4 rfl ?_
              refine z_iconst (v := nI 1) X dX5_readsEater_91 (by decide) ?_
              refine z_bipush (v := nI 9) X dX5_readsEater_92 (by decide) ?_
              refine z_callVM X (c_X5_figure l g b ft so D E tr C lk kd st sp nd rO rB rD rW sz sl sc sm (xa + 1 + 1 + 1) xb xc xd y1 y2 y3 y4 y5 hn f_r n_n 1 9 (by omega) (by omega) (by omega) (by omega)) gX5_readsEater_X5_figure rfl ⟨rfl, rfl⟩ (by decide +kernel) ⟨Nat.le_of_ble_eq_true rfl, Nat.le_of_ble_eq_true rfl⟩ ZF.room (ci := 4) rfl 0 rfl rfl (As := [.int (nI f_r), .int (nI n_n), .int (nI 1), .int (nI 9)]) (n := 4) rfl rfl (st1 := [.int (fgI (cA sc f_r n_n (xa + 1 + 1 + 1)) 1 9)]) rfl (Nat.le_of_ble_eq_true rfl) dX5_readsEater_94 ?_
              rcases bTF (zdg (cA sc f_r n_n (xa + 1 + 1 + 1)) 1 9) with hz_c | hz_c
              ·
                obtain ⟨s_c, hs_c, hse_c⟩ := zdg_n (by omega) (by omega) hz_c
                have hl_c := zdg_lt (by omega) (by omega) hz_c
                have hzc_c : zdg (sc (f_r + (xa + 1 + 1 + 1))) 1 9 = true := by have e := hz_c; rw [cA_in hl_c] at e; exact e
                have hsc_c : sc (f_r + (xa + 1 + 1 + 1)) - nI 48 = nI s_c := by have e := hse_c; rw [cA_in hl_c] at e; exact e
                refine z_top ((fgI_t hz_c).trans hse_c) ?_
                refine z_ws (ws' := (wM g b ft so D E tr C lk kd st sp nd rO rB rD rW sz sl sc sm (xa + 1 + 1 + 1 + 1) xb xc xd y1 y2 y3 y4 y5 hn)) (by rw [if_pos hz_c]) ?_
                refine z_istore (L' := [(5, .int (nI s_c)), (4, .int (nI s_b)), (3, .int (nI 115)), (0, .ref (b 0)), (1, .int (nI f_r)), (2, .int (nI n_n))]) X dX5_readsEater_97 (by decide) rfl ?_
                refine z_iload X dX5_readsEater_99 0 rfl ?_
                refine z_if_geN (tgt := 109) X dX5_readsEater_101 (by decide) (by omega) (fun hq46 => ?_) (fun hq46 => ?_)
                ·
                  refine z_aload_n X dX5_readsEater_109 rfl 3 rfl ?_
                  refine z_iload_n X dX5_readsEater_110 rfl 4 rfl ?_
                  refine z_iload_n X dX5_readsEater_111 rfl 5 rfl ?_
                  refine z_iconst (v := nI 0) X dX5_readsEater_112 (by decide) ?_
                  refine z_bipush (v := nI 6) X dX5_readsEater_113 (by decide) ?_
                  refine z_callVM X (c_X5_figure l g b ft so D E tr C lk kd st sp nd rO rB rD rW sz sl sc sm (xa + 1 + 1 + 1 + 1) xb xc xd y1 y2 y3 y4 y5 hn f_r n_n 0 6 (by omega) (by omega) (by omega) (by omega)) gX5_readsEater_X5_figure rfl ⟨rfl, rfl⟩ (by decide +kernel) ⟨Nat.le_of_ble_eq_true rfl, Nat.le_of_ble_eq_true rfl⟩ ZF.room (ci := 4) rfl 0 rfl rfl (As := [.int (nI f_r), .int (nI n_n), .int (nI 0), .int (nI 6)]) (n := 4) rfl rfl (st1 := [.int (fgI (cA sc f_r n_n (xa + 1 + 1 + 1 + 1)) 0 6)]) rfl (Nat.le_of_ble_eq_true rfl) dX5_readsEater_115 ?_
                  rcases bTF (zdg (cA sc f_r n_n (xa + 1 + 1 + 1 + 1)) 0 6) with hz_d | hz_d
                  ·
                    obtain ⟨s_d, hs_d, hse_d⟩ := zdg_n (by omega) (by omega) hz_d
                    have hl_d := zdg_lt (by omega) (by omega) hz_d
                    have hzc_d : zdg (sc (f_r + (xa + 1 + 1 + 1 + 1))) 0 6 = true := by have e := hz_d; rw [cA_in hl_d] at e; exact e
                    have hsc_d : sc (f_r + (xa + 1 + 1 + 1 + 1)) - nI 48 = nI s_d := by have e := hse_d; rw [cA_in hl_d] at e; exact e
                    refine z_top ((fgI_t hz_d).trans hse_d) ?_
                    refine z_ws (ws' := (wM g b ft so D E tr C lk kd st sp nd rO rB rD rW sz sl sc sm (xa + 1 + 1 + 1 + 1 + 1) xb xc xd y1 y2 y3 y4 y5 hn)) (by rw [if_pos hz_d]) ?_
                    refine z_istore (L' := [(6, .int (nI s_d)), (5, .int (nI s_c)), (4, .int (nI s_b)), (3, .int (nI 115)), (0, .ref (b 0)), (1, .int (nI f_r)), (2, .int (nI n_n))]) X dX5_readsEater_118 (by decide) rfl ?_
                    refine z_iload X dX5_readsEater_120 0 rfl ?_
                    refine z_if_geN (tgt := 127) X dX5_readsEater_122 (by decide) (by omega) (fun hq47 => ?_) (fun hq47 => ?_)
                    ·
                      have hea := eaF_g (e := xd) hx4 h0c hkn hz_b hz_c hz_d
                      refine z_aload_n X dX5_readsEater_127 rfl 4 rfl ?_
                      refine z_get (v := .ref (b 7)) (N := 29) X i_RX5 (ci := 4) rfl 0 rfl 15 (by decide) f_32 rfl dX5_readsEater_128 ?_
                      refine z_aload_n X dX5_readsEater_131 rfl 4 rfl ?_
                      refine z_get (v := .int (nI xd)) (N := 29) X i_RX5 (ci := 4) rfl 0 rfl 13 (by decide) f_102 rfl dX5_readsEater_132 ?_
                      refine z_iload_n X dX5_readsEater_135 rfl 3 rfl ?_
                      refine z_bipush (v := nI 101) X dX5_readsEater_136 (by decide) ?_
                      refine z_icmp_neN (tgt := 145) X dX5_readsEater_138 (by decide) (by omega) (by omega) (fun hq48 => ?_) (fun hq48 => ?_)
                      ·
                        refine z_iload_n X dX5_readsEater_145 rfl 3 rfl ?_
                        refine z_bipush (v := nI 115) X dX5_readsEater_146 (by decide) ?_
                        refine z_icmp_neN (tgt := 155) X dX5_readsEater_148 (by decide) (by omega) (by omega) (fun hq49 => ?_) (fun hq49 => ?_)
                        ·
                          exact absurd rfl hq49
                        ·
                          refine z_iconst (v := nI 1) X dX5_readsEater_151 (by decide) ?_
                          refine z_goto (tgt := 156) X dX5_readsEater_152 (by decide) ?_
                          refine z_iastN (ws' := (wM g b ft so D E tr C lk kd st sp nd rO rB rD rW sz sl sc sm (xa + 1 + 1 + 1 + 1 + 1) xb xc xd y1 (upd y2 xd (nI 1)) y3 y4 y5 hn)) X 7 rfl (by omega) (by omega) dX5_readsEater_156 rfl ?_
                          refine z_aload_n X dX5_readsEater_157 rfl 4 rfl ?_
                          refine z_get (v := .ref (b 8)) (N := 29) X i_RX5 (ci := 4) rfl 0 rfl 16 (by decide) f_35 rfl dX5_readsEater_158 ?_
                          refine z_aload_n X dX5_readsEater_161 rfl 4 rfl ?_
                          refine z_get (v := .int (nI xd)) (N := 29) X i_RX5 (ci := 4) rfl 0 rfl 13 (by decide) f_102 rfl dX5_readsEater_162 ?_
                          refine z_iload X dX5_readsEater_165 2 rfl ?_
                          refine z_iastN (ws' := (wM g b ft so D E tr C lk kd st sp nd rO rB rD rW sz sl sc sm (xa + 1 + 1 + 1 + 1 + 1) xb xc xd y1 (upd y2 xd (nI 1)) (upd y3 xd (nI s_b)) y4 y5 hn)) X 8 rfl (by omega) (by omega) dX5_readsEater_167 rfl ?_
                          refine z_aload_n X dX5_readsEater_168 rfl 4 rfl ?_
                          refine z_get (v := .ref (b 9)) (N := 29) X i_RX5 (ci := 4) rfl 0 rfl 17 (by decide) f_38 rfl dX5_readsEater_169 ?_
                          refine z_aload_n X dX5_readsEater_172 rfl 4 rfl ?_
                          refine z_get (v := .int (nI xd)) (N := 29) X i_RX5 (ci := 4) rfl 0 rfl 13 (by decide) f_102 rfl dX5_readsEater_173 ?_
                          refine z_iload X dX5_readsEater_176 1 rfl ?_
                          refine z_iastN (ws' := (wM g b ft so D E tr C lk kd st sp nd rO rB rD rW sz sl sc sm (xa + 1 + 1 + 1 + 1 + 1) xb xc xd y1 (upd y2 xd (nI 1)) (upd y3 xd (nI s_b)) (upd y4 xd (nI s_c)) y5 hn)) X 9 rfl (by omega) (by omega) dX5_readsEater_178 rfl ?_
                          refine z_aload_n X dX5_readsEater_179 rfl 4 rfl ?_
                          refine z_get (v := .ref (b 10)) (N := 29) X i_RX5 (ci := 4) rfl 0 rfl 18 (by decide) f_41 rfl dX5_readsEater_180 ?_
                          refine z_aload_n X dX5_readsEater_183 rfl 4 rfl ?_
                          refine z_get (v := .int (nI xd)) (N := 29) X i_RX5 (ci := 4) rfl 0 rfl 13 (by decide) f_102 rfl dX5_readsEater_184 ?_
                          refine z_iload X dX5_readsEater_187 0 rfl ?_
                          refine z_iastN (ws' := (wM g b ft so D E tr C lk kd st sp nd rO rB rD rW sz sl sc sm (xa + 1 + 1 + 1 + 1 + 1) xb xc xd y1 (upd y2 xd (nI 1)) (upd y3 xd (nI s_b)) (upd y4 xd (nI s_c)) (upd y5 xd (nI s_d)) hn)) X 10 rfl (by omega) (by omega) dX5_readsEater_189 rfl ?_
                          refine z_aload_n X dX5_readsEater_190 rfl 4 rfl ?_
                          refine z_dup X dX5_readsEater_191 rfl ?_
                          refine z_get (v := .int (nI xd)) (N := 29) X i_RX5 (ci := 4) rfl 0 rfl 13 (by decide) f_102 rfl dX5_readsEater_192 ?_
                          refine z_iconst (v := nI 1) X dX5_readsEater_195 (by decide) ?_
                          refine z_iadd' (v := nI (xd + 1)) X dX5_readsEater_196 (nI_add _ _) ?_
                          refine z_put (ws' := (wM g b ft so D E tr C lk kd st sp nd rO rB rD rW sz sl sc sm (xa + 1 + 1 + 1 + 1 + 1) xb xc (xd + 1) y1 (upd y2 xd (nI 1)) (upd y3 xd (nI s_b)) (upd y4 xd (nI s_c)) (upd y5 xd (nI s_d)) hn)) (N := 29) X i_RX5 (ci := 4) rfl tyX5 tyX5_ok nmX5 0 rfl 13 (by decide) f_102 rfl (ty := .int) (by decide +kernel) rfl rfl (Nat.le_of_ble_eq_true rfl) dX5_readsEater_197 rfl ?_
                          refine z_iconst (v := nI 1) X dX5_readsEater_200 (by decide) ?_
                          have e50 : ((eaF sc f_r n_n xa xd).2) = (xa + 1 + 1 + 1 + 1 + 1) := by rw [hea]
                          have e51 : (if (eaF sc f_r n_n xa xd).1 = true then xd + 1 else xd) = (xd + 1) := by exact pr_t hea rfl
                          have e52 : (if (eaF sc f_r n_n xa xd).1 = true then upd y2 xd (kbl (sc (f_r + xa + 1))) else y2) = (upd y2 xd (nI 1)) := by exact pr_t hea (congrArg (upd y2 xd) hkv)
                          have e53 : (if (eaF sc f_r n_n xa xd).1 = true then upd y3 xd (sc (f_r + xa + 2) - nI 48) else y3) = (upd y3 xd (nI s_b)) := by exact pr_t hea (congrArg (upd y3 xd) hsc_b)
                          have e54 : (if (eaF sc f_r n_n xa xd).1 = true then upd y4 xd (sc (f_r + xa + 3) - nI 48) else y4) = (upd y4 xd (nI s_c)) := by exact pr_t hea (congrArg (upd y4 xd) hsc_c)
                          have e55 : (if (eaF sc f_r n_n xa xd).1 = true then upd y5 xd (sc (f_r + xa + 4) - nI 48) else y5) = (upd y5 xd (nI s_d)) := by exact pr_t hea (congrArg (upd y5 xd) hsc_d)
                          exact z_zret X ZF dX5_readsEater_201 (bI_nar _) (by exact bI_t (by rw [hea])) (by first | rw [e55, e54, e53, e52, e51, e50] | (simp only [e55, e54, e53, e52, e51, e50]))
                      ·
                        exact absurd hq48 (by decide)
                    ·
                      exact absurd hq47 (by omega)
                  ·
                    have hzn_d : ¬ (zdg (cA sc f_r n_n (xa + 1 + 1 + 1 + 1)) 0 6 = true) := by rw [hz_d]; decide
                    refine z_top (y := (-9)) (fgI_f hz_d) ?_
                    refine z_ws (ws' := (wM g b ft so D E tr C lk kd st sp nd rO rB rD rW sz sl sc sm (xa + 1 + 1 + 1 + 1) xb xc xd y1 y2 y3 y4 y5 hn)) (by rw [if_neg hzn_d]) ?_
                    refine z_istore (L' := [(6, .int (-9)), (5, .int (nI s_c)), (4, .int (nI s_b)), (3, .int (nI 115)), (0, .ref (b 0)), (1, .int (nI f_r)), (2, .int (nI n_n))]) X dX5_readsEater_118 (by decide) rfl ?_
                    refine z_iload X dX5_readsEater_120 0 rfl ?_
                    refine z_if_ge (tgt := 127) X dX5_readsEater_122 (by decide) (fun hq56 => ?_) (fun hq56 => ?_)
                    ·
                      exact absurd hq56 (by decide)
                    ·
                      have hea := (by first | exact eaF_d (e := xd) hx4 h0c hkn hz_b | exact eaF_e (e := xd) hx4 h0c hkn hz_b hz_c | exact eaF_f (e := xd) hx4 h0c hkn hz_b hz_c hz_d : eaF sc f_r n_n xa xd = (false, xa + 1 + 1 + 1 + 1))
                      refine z_iconst (v := nI 0) X dX5_readsEater_125 (by decide) ?_
                      have e57 : ((eaF sc f_r n_n xa xd).2) = (xa + 1 + 1 + 1 + 1) := by rw [hea]
                      have e58 : (if (eaF sc f_r n_n xa xd).1 = true then xd + 1 else xd) = xd := by exact pr_f hea
                      have e59 : (if (eaF sc f_r n_n xa xd).1 = true then upd y2 xd (kbl (sc (f_r + xa + 1))) else y2) = y2 := by exact pr_f hea
                      have e60 : (if (eaF sc f_r n_n xa xd).1 = true then upd y3 xd (sc (f_r + xa + 2) - nI 48) else y3) = y3 := by exact pr_f hea
                      have e61 : (if (eaF sc f_r n_n xa xd).1 = true then upd y4 xd (sc (f_r + xa + 3) - nI 48) else y4) = y4 := by exact pr_f hea
                      have e62 : (if (eaF sc f_r n_n xa xd).1 = true then upd y5 xd (sc (f_r + xa + 4) - nI 48) else y5) = y5 := by exact pr_f hea
                      exact z_zret X ZF dX5_readsEater_126 (bI_nar _) (by exact bI_f (by rw [hea])) (by first | rw [e62, e61, e60, e59, e58, e57] | (simp only [e62, e61, e60, e59, e58, e57]))
                ·
                  exact absurd hq46 (by omega)
              ·
                have hzn_c : ¬ (zdg (cA sc f_r n_n (xa + 1 + 1 + 1)) 1 9 = true) := by rw [hz_c]; decide
                refine z_top (y := (-9)) (fgI_f hz_c) ?_
                refine z_ws (ws' := (wM g b ft so D E tr C lk kd st sp nd rO rB rD rW sz sl sc sm (xa + 1 + 1 + 1) xb xc xd y1 y2 y3 y4 y5 hn)) (by rw [if_neg hzn_c]) ?_
                refine z_istore (L' := [(5, .int (-9)), (4, .int (nI s_b)), (3, .int (nI 115)), (0, .ref (b 0)), (1, .int (nI f_r)), (2, .int (nI n_n))]) X dX5_readsEater_97 (by decide) rfl ?_
                refine z_iload X dX5_readsEater_99 0 rfl ?_
                refine z_if_ge (tgt := 109) X dX5_readsEater_101 (by decide) (fun hq63 => ?_) (fun hq63 => ?_)
                ·
                  exact absurd hq63 (by decide)
                ·
                  refine z_bipush (v := (-9)) X dX5_readsEater_104 (by decide) ?_
                  refine z_goto (tgt := 118) X dX5_readsEater_106 (by decide) ?_
                  refine z_istore (L' := [(6, .int (-9)), (5, .int (-9)), (4, .int (nI s_b)), (3, .int (nI 115)), (0, .ref (b 0)), (1, .int (nI f_r)), (2, .int (nI n_n))]) X dX5_readsEater_118 (by decide) rfl ?_
                  refine z_iload X dX5_readsEater_120 0 rfl ?_
                  refine z_if_ge (tgt := 127) X dX5_readsEater_122 (by decide) (fun hq64 => ?_) (fun hq64 => ?_)
                  ·
                    exact absurd hq64 (by decide)
                  ·
                    have hea := (by first | exact eaF_d (e := xd) hx4 h0c hkn hz_b | exact eaF_e (e := xd) hx4 h0c hkn hz_b hz_c | exact eaF_f (e := xd) hx4 h0c hkn hz_b hz_c hz_d : eaF sc f_r n_n xa xd = (false, xa + 1 + 1 + 1))
                    refine z_iconst (v := nI 0) X dX5_readsEater_125 (by decide) ?_
                    have e65 : ((eaF sc f_r n_n xa xd).2) = (xa + 1 + 1 + 1) := by rw [hea]
                    have e66 : (if (eaF sc f_r n_n xa xd).1 = true then xd + 1 else xd) = xd := by exact pr_f hea
                    have e67 : (if (eaF sc f_r n_n xa xd).1 = true then upd y2 xd (kbl (sc (f_r + xa + 1))) else y2) = y2 := by exact pr_f hea
                    have e68 : (if (eaF sc f_r n_n xa xd).1 = true then upd y3 xd (sc (f_r + xa + 2) - nI 48) else y3) = y3 := by exact pr_f hea
                    have e69 : (if (eaF sc f_r n_n xa xd).1 = true then upd y4 xd (sc (f_r + xa + 3) - nI 48) else y4) = y4 := by exact pr_f hea
                    have e70 : (if (eaF sc f_r n_n xa xd).1 = true then upd y5 xd (sc (f_r + xa + 4) - nI 48) else y5) = y5 := by exact pr_f hea
                    exact z_zret X ZF dX5_readsEater_126 (bI_nar _) (by exact bI_f (by rw [hea])) (by first | rw [e70, e69, e68, e67, e66, e65] | (simp only [e70, e69, e68, e67, e66, e65]))
            ·
              exact absurd hq45 (by omega)
          ·
            have hzn_b : ¬ (zdg (cA sc f_r n_n (xa + 1 + 1)) 0 5 = true) := by rw [hz_b]; decide
            refine z_top (y := (-9)) (fgI_f hz_b) ?_
            refine z_ws (ws' := (wM g b ft so D E tr C lk kd st sp nd rO rB rD rW sz sl sc sm (xa + 1 + 1) xb xc xd y1 y2 y3 y4 y5 hn)) (by rw [if_neg hzn_b]) ?_
            refine z_istore (L' := [(4, .int (-9)), (3, .int (nI 115)), (0, .ref (b 0)), (1, .int (nI f_r)), (2, .int (nI n_n))]) X dX5_readsEater_76 (by decide) rfl ?_
            refine z_iload X dX5_readsEater_78 0 rfl ?_
            refine z_if_ge (tgt := 88) X dX5_readsEater_80 (by decide) (fun hq71 => ?_) (fun hq71 => ?_)
            ·
              exact absurd hq71 (by decide)
            ·
              refine z_bipush (v := (-9)) X dX5_readsEater_83 (by decide) ?_
              refine z_goto (tgt := 97) X dX5_readsEater_85 (by decide) ?_
              refine z_istore (L' := [(5, .int (-9)), (4, .int (-9)), (3, .int (nI 115)), (0, .ref (b 0)), (1, .int (nI f_r)), (2, .int (nI n_n))]) X dX5_readsEater_97 (by decide) rfl ?_
              refine z_iload X dX5_readsEater_99 0 rfl ?_
              refine z_if_ge (tgt := 109) X dX5_readsEater_101 (by decide) (fun hq72 => ?_) (fun hq72 => ?_)
              ·
                exact absurd hq72 (by decide)
              ·
                refine z_bipush (v := (-9)) X dX5_readsEater_104 (by decide) ?_
                refine z_goto (tgt := 118) X dX5_readsEater_106 (by decide) ?_
                refine z_istore (L' := [(6, .int (-9)), (5, .int (-9)), (4, .int (-9)), (3, .int (nI 115)), (0, .ref (b 0)), (1, .int (nI f_r)), (2, .int (nI n_n))]) X dX5_readsEater_118 (by decide) rfl ?_
                refine z_iload X dX5_readsEater_120 0 rfl ?_
                refine z_if_ge (tgt := 127) X dX5_readsEater_122 (by decide) (fun hq73 => ?_) (fun hq73 => ?_)
                ·
                  exact absurd hq73 (by decide)
                ·
                  have hea := (by first | exact eaF_d (e := xd) hx4 h0c hkn hz_b | exact eaF_e (e := xd) hx4 h0c hkn hz_b hz_c | exact eaF_f (e := xd) hx4 h0c hkn hz_b hz_c hz_d : eaF sc f_r n_n xa xd = (false, xa + 1 + 1))
                  refine z_iconst (v := nI 0) X dX5_readsEater_125 (by decide) ?_
                  have e74 : ((eaF sc f_r n_n xa xd).2) = (xa + 1 + 1) := by rw [hea]
                  have e75 : (if (eaF sc f_r n_n xa xd).1 = true then xd + 1 else xd) = xd := by exact pr_f hea
                  have e76 : (if (eaF sc f_r n_n xa xd).1 = true then upd y2 xd (kbl (sc (f_r + xa + 1))) else y2) = y2 := by exact pr_f hea
                  have e77 : (if (eaF sc f_r n_n xa xd).1 = true then upd y3 xd (sc (f_r + xa + 2) - nI 48) else y3) = y3 := by exact pr_f hea
                  have e78 : (if (eaF sc f_r n_n xa xd).1 = true then upd y4 xd (sc (f_r + xa + 3) - nI 48) else y4) = y4 := by exact pr_f hea
                  have e79 : (if (eaF sc f_r n_n xa xd).1 = true then upd y5 xd (sc (f_r + xa + 4) - nI 48) else y5) = y5 := by exact pr_f hea
                  exact z_zret X ZF dX5_readsEater_126 (bI_nar _) (by exact bI_f (by rw [hea])) (by first | rw [e79, e78, e77, e76, e75, e74] | (simp only [e79, e78, e77, e76, e75, e74]))
        ·
          refine z_iload_n X dX5_readsEater_50 rfl 0 rfl ?_
          refine z_bipush (v := nI 108) X dX5_readsEater_51 (by decide) ?_
          refine z_icmp_eq (tgt := 58) X dX5_readsEater_53 (by decide) (fun hq80 => ?_) (fun hq80 => ?_)
          ·
            have hkn : ¬ kbl (cA sc f_r n_n (xa + 1)) = -9 := by rw [hq80]; decide +kernel
            have hl1 : xa + 1 < n_n := cA_lt hq80 (by decide +kernel)
            have hkv : kbl (sc (f_r + (xa + 1))) = nI 2 := by have e := hq80; rw [cA_in hl1] at e; rw [e]; decide +kernel
            refine z_Le (L' := [(3, .int (nI 108)), (0, .ref (b 0)), (1, .int (nI f_r)), (2, .int (nI n_n))]) (by rw [hq80]) ?_
            refine z_aload_n X dX5_readsEater_58 rfl 1 rfl ?_
            refine z_dup X dX5_readsEater_59 rfl ?_
            refine z_get (v := .int (nI (xa + 1))) (N := 29) X i_RX5 (ci := 4) rfl 0 rfl 10 (by decide) f_88 rfl dX5_readsEater_60 ?_
            refine z_iconst (v := nI 1) X dX5_readsEater_63 (by decide) ?_
            refine z_iadd' (v := nI (xa + 1 + 1)) X dX5_readsEater_64 (nI_add _ _) ?_
            refine z_put (ws' := (wM g b ft so D E tr C lk kd st sp nd rO rB rD rW sz sl sc sm (xa + 1 + 1) xb xc xd y1 y2 y3 y4 y5 hn)) (N := 29) X i_RX5 (ci := 4) rfl tyX5 tyX5_ok nmX5 0 rfl 10 (by decide) f_88 rfl (ty := .int) (by decide +kernel) rfl rfl (Nat.le_of_ble_eq_true rfl) dX5_readsEater_65 rfl ?_
            refine z_aload_n X dX5_readsEater_68 rfl 1 rfl ?_
            refine z_iload_n X dX5_readsEater_69 rfl 2 rfl ?_
            refine z_iload_n X dX5_readsEater_70 rfl 3 rfl ?_
            refine z_iconst (v := nI 0) X dX5_readsEater_71 (by decide) ?_
            refine z_iconst (v := nI 5) X dX5_readsEater_72 (by decide) ?_
            refine z_callVM X (c_X5_figure l g b ft so D E tr C lk kd st sp nd rO rB rD rW sz sl sc sm (xa + 1 + 1) xb xc xd y1 y2 y3 y4 y5 hn f_r n_n 0 5 (by omega) (by omega) (by omega) (by omega)) gX5_readsEater_X5_figure rfl ⟨rfl, rfl⟩ (by decide +kernel) ⟨Nat.le_of_ble_eq_true rfl, Nat.le_of_ble_eq_true rfl⟩ ZF.room (ci := 4) rfl 0 rfl rfl (As := [.int (nI f_r), .int (nI n_n), .int (nI 0), .int (nI 5)]) (n := 4) rfl rfl (st1 := [.int (fgI (cA sc f_r n_n (xa + 1 + 1)) 0 5)]) rfl (Nat.le_of_ble_eq_true rfl) dX5_readsEater_73 ?_
            rcases bTF (zdg (cA sc f_r n_n (xa + 1 + 1)) 0 5) with hz_b | hz_b
            ·
              obtain ⟨s_b, hs_b, hse_b⟩ := zdg_n (by omega) (by omega) hz_b
              have hl_b := zdg_lt (by omega) (by omega) hz_b
              have hzc_b : zdg (sc (f_r + (xa + 1 + 1))) 0 5 = true := by have e := hz_b; rw [cA_in hl_b] at e; exact e
              have hsc_b : sc (f_r + (xa + 1 + 1)) - nI 48 = nI s_b := by have e := hse_b; rw [cA_in hl_b] at e; exact e
              refine z_top ((fgI_t hz_b).trans hse_b) ?_
              refine z_ws (ws' := (wM g b ft so D E tr C lk kd st sp nd rO rB rD rW sz sl sc sm (xa + 1 + 1 + 1) xb xc xd y1 y2 y3 y4 y5 hn)) (by rw [if_pos hz_b]) ?_
              refine z_istore (L' := [(4, .int (nI s_b)), (3, .int (nI 108)), (0, .ref (b 0)), (1, .int (nI f_r)), (2, .int (nI n_n))]) X dX5_readsEater_76 (by decide) rfl ?_
              refine z_iload X dX5_readsEater_78 0 rfl ?_
              refine z_if_geN (tgt := 88) X dX5_readsEater_80 (by decide) (by omega) (fun hq81 => ?_) (fun hq81 => ?_)
              ·
                refine z_aload_n X dX5_readsEater_88 rfl 2 rfl ?_
                refine z_iload_n X dX5_readsEater_89 rfl 3 rfl ?_
                refine z_iload_n X dX5_readsEater_90 rfl 4 rfl ?_
                refine z_iconst (v := nI 1) X dX5_readsEater_91 (by decide) ?_
                refine z_bipush (v := nI 9) X dX5_readsEater_92 (by decide) ?_
                refine z_callVM X (c_X5_figure l g b ft so D E tr C lk kd st sp nd rO rB rD rW sz sl sc sm (xa + 1 + 1 + 1) xb xc xd y1 y2 y3 y4 y5 hn f_r n_n 1 9 (by omega) (by omega) (by omega) (by omega)) gX5_readsEater_X5_figure rfl ⟨rfl, rfl⟩ (by decide +kernel) ⟨Nat.le_of_ble_eq_true rfl, Nat.le_of_ble_eq_true rfl⟩ ZF.room (ci := 4) rfl 0 rfl rfl (As := [.int (nI f_r), .int (nI n_n), .int (nI 1), .int (nI 9)]) (n := 4) rfl rfl (st1 := [.int (fgI (cA sc f_r n_n (xa + 1 + 1 + 1)) 1 9)]) rfl (Nat.le_of_ble_eq_true rfl) dX5_readsEater_94 ?_
                rcases bTF (zdg (cA sc f_r n_n (xa + 1 + 1 + 1)) 1 9) with hz_c | hz_c
                ·
                  obtain ⟨s_c, hs_c, hse_c⟩ := zdg_n (by omega) (by omega) hz_c
                  have hl_c := zdg_lt (by omega) (by omega) hz_c
                  have hzc_c : zdg (sc (f_r + (xa + 1 + 1 + 1))) 1 9 = true := by have e := hz_c; rw [cA_in hl_c] at e; exact e
                  have hsc_c : sc (f_r + (xa + 1 + 1 + 1)) - nI 48 = nI s_c := by have e := hse_c; rw [cA_in hl_c] at e; exact e
                  refine z_top ((fgI_t hz_c).trans hse_c) ?_
                  refine z_ws (ws' := (wM g b ft so D E tr C lk kd st sp nd rO rB rD rW sz sl sc sm (xa + 1 + 1 + 1 + 1) xb xc xd y1 y2 y3 y4 y5 hn)) (by rw [if_pos hz_c]) ?_
                  refine z_istore (L' := [(5, .int (nI s_c)), (4, .int (nI s_b)), (3, .int (nI 108)), (0, .ref (b 0)), (1, .int (nI f_r)), (2, .int (nI n_n))]) X dX5_readsEater_97 (by decide) rfl ?_
                  refine z_iload X dX5_readsEater_99 0 rfl ?_
                  refine z_if_geN (tgt := 109) X dX5_readsEater_101 (by decide) (by omega) (fun hq82 => ?_) (fun hq82 => ?_)
                  ·
                    refine z_aload_n X dX5_readsEater_109 rfl 3 rfl ?_
                    refine z_iload_n X dX5_readsEater_110 rfl 4 rfl ?_
                    refine z_iload_n X dX5_readsEater_111 rfl 5 rfl ?_
                    refine z_iconst (v := nI 0) X dX5_readsEater_112 (by decide) ?_
                    refine z_bipush (v := nI 6) X dX5_readsEater_113 (by decide) ?_
                    refine z_callVM X (c_X5_figure l g b ft so D E tr C lk kd st sp nd rO rB rD rW sz sl sc sm (xa + 1 + 1 + 1 + 1) xb xc xd y1 y2 y3 y4 y5 hn f_r n_n 0 6 (by omega) (by omega) (by omega) (by omega)) gX5_readsEater_X5_figure rfl ⟨rfl, rfl⟩ (by decide +kernel) ⟨Nat.le_of_ble_eq_true rfl, Nat.le_of_ble_eq_true rfl⟩ ZF.room (ci := 4) rfl 0 rfl rfl (As := [.int (nI f_r), .int (nI n_n), .int (nI 0), .int (nI 6)]) (n := 4) rfl rfl (st1 := [.int (fgI (cA sc f_r n_n (xa + 1 + 1 + 1 + 1)) 0 6)]) rfl (Nat.le_of_ble_eq_true rfl) dX5_readsEater_115 ?_
                    rcases bTF (zdg (cA sc f_r n_n (xa + 1 + 1 + 1 + 1)) 0 6) with hz_d | hz_d
                    ·
                      obtain ⟨s_d, hs_d, hse_d⟩ := zdg_n (by omega) (by omega) hz_d
                      have hl_d := zdg_lt (by omega) (by omega) hz_d
                      have hzc_d : zdg (sc (f_r + (xa + 1 + 1 + 1 + 1))) 0 6 = true := by have e := hz_d; rw [cA_in hl_d] at e; exact e
                      have hsc_d : sc (f_r + (xa + 1 + 1 + 1 + 1)) - nI 48 = nI s_d := by have e := hse_d; rw [cA_in hl_d] at e; exact e
                      refine z_top ((fgI_t hz_d).trans hse_d) ?_
                      refine z_ws (ws' := (wM g b ft so D E tr C lk kd st sp nd rO rB rD rW sz sl sc sm (xa + 1 + 1 + 1 + 1 + 1) xb xc xd y1 y2 y3 y4 y5 hn)) (by rw [if_pos hz_d]) ?_
                      refine z_istore (L' := [(6, .int (nI s_d)), (5, .int (nI s_c)), (4, .int (nI s_b)), (3, .int (nI 108)), (0, .ref (b 0)), (1, .int (nI f_r)), (2, .int (nI n_n))]) X dX5_readsEater_118 (by decide) rfl ?_
                      refine z_iload X dX5_readsEater_120 0 rfl ?_
                      refine z_if_geN (tgt := 127) X dX5_readsEater_122 (by decide) (by omega) (fun hq83 => ?_) (fun hq83 => ?_)
                      ·
                        have hea := eaF_g (e := xd) hx4 h0c hkn hz_b hz_c hz_d
                        refine z_aload_n X dX5_readsEater_127 rfl 4 rfl ?_
                        refine z_get (v := .ref (b 7)) (N := 29) X i_RX5 (ci := 4) rfl 0 rfl 15 (by decide) f_32 rfl dX5_readsEater_128 ?_
                        refine z_aload_n X dX5_readsEater_131 rfl 4 rfl ?_
                        refine z_get (v := .int (nI xd)) (N := 29) X i_RX5 (ci := 4) rfl 0 rfl 13 (by decide) f_102 rfl dX5_readsEater_132 ?_
                        refine z_iload_n X dX5_readsEater_135 rfl 3 rfl ?_
                        refine z_bipush (v := nI 101) X dX5_readsEater_136 (by decide) ?_
                        refine z_icmp_neN (tgt := 145) X dX5_readsEater_138 (by decide) (by omega) (by omega) (fun hq84 => ?_) (fun hq84 => ?_)
                        ·
                          refine z_iload_n X dX5_readsEater_145 rfl 3 rfl ?_
                          refine z_bipush (v := nI 115) X dX5_readsEater_146 (by decide) ?_
                          refine z_icmp_neN (tgt := 155) X dX5_readsEater_148 (by decide) (by omega) (by omega) (fun hq85 => ?_) (fun hq85 => ?_)
                          ·
                            refine z_iconst (v := nI 2) X dX5_readsEater_155 (by decide) ?_
                            refine z_iastN (ws' := (wM g b ft so D E tr C lk kd st sp nd rO rB rD rW sz sl sc sm (xa + 1 + 1 + 1 + 1 + 1) xb xc xd y1 (upd y2 xd (nI 2)) y3 y4 y5 hn)) X 7 rfl (by omega) (by omega) dX5_readsEater_156 rfl ?_
                            refine z_aload_n X dX5_readsEater_157 rfl 4 rfl ?_
                            refine z_get (v := .ref (b 8)) (N := 29) X i_RX5 (ci := 4) rfl 0 rfl 16 (by decide) f_35 rfl dX5_readsEater_158 ?_
                            refine z_aload_n X dX5_readsEater_161 rfl 4 rfl ?_
                            refine z_get (v := .int (nI xd)) (N := 29) X i_RX5 (ci := 4) rfl 0 rfl 13 (by decide) f_102 rfl dX5_readsEater_162 ?_
                            refine z_iload X dX5_readsEater_165 2 rfl ?_
                            refine z_iastN (ws' := (wM g b ft so D E tr C lk kd st sp nd rO rB rD rW sz sl sc sm (xa + 1 + 1 + 1 + 1 + 1) xb xc xd y1 (upd y2 xd (nI 2)) (upd y3 xd (nI s_b)) y4 y5 hn)) X 8 rfl (by omega) (by omega) dX5_readsEater_167 rfl ?_
                            refine z_aload_n X dX5_readsEater_168 rfl 4 rfl ?_
                            refine z_get (v := .ref (b 9)) (N := 29) X i_RX5 (ci := 4) rfl 0 rfl 17 (by decide) f_38 rfl dX5_readsEater_169 ?_
                            refine z_aload_n X dX5_readsEater_172 rfl 4 rfl ?_
                            refine z_get (v := .int (nI xd)) (N := 29) X i_RX5 (ci := 4) rfl 0 rfl 13 (by decide) f_102 rfl dX5_readsEater_173 ?_
                            refine z_iload X dX5_readsEater_176 1 rfl ?_
                            refine z_iastN (ws' := (wM g b ft so D E tr C lk kd st sp nd rO rB rD rW sz sl sc sm (xa + 1 + 1 + 1 + 1 + 1) xb xc xd y1 (upd y2 xd (nI 2)) (upd y3 xd (nI s_b)) (upd y4 xd (nI s_c)) y5 hn)) X 9 rfl (by omega) (by omega) dX5_readsEater_178 rfl ?_
                            refine z_aload_n X dX5_readsEater_179 rfl 4 rfl ?_
                            refine z_get (v := .ref (b 10)) (N := 29) X i_RX5 (ci := 4) rfl 0 rfl 18 (by decide) f_41 rfl dX5_readsEater_180 ?_
                            refine z_aload_n X dX5_readsEater_183 rfl 4 rfl ?_
                            refine z_get (v := .int (nI xd)) (N := 29) X i_RX5 (ci := 4) rfl 0 rfl 13 (by decide) f_102 rfl dX5_readsEater_184 ?_
                            refine z_iload X dX5_readsEater_187 0 rfl ?_
                            refine z_iastN (ws' := (wM g b ft so D E tr C lk kd st sp nd rO rB rD rW sz sl sc sm (xa + 1 + 1 + 1 + 1 + 1) xb xc xd y1 (upd y2 xd (nI 2)) (upd y3 xd (nI s_b)) (upd y4 xd (nI s_c)) (upd y5 xd (nI s_d)) hn)) X 10 rfl (by omega) (by omega) dX5_readsEater_189 rfl ?_
                            refine z_aload_n X dX5_readsEater_190 rfl 4 rfl ?_
                            refine z_dup X dX5_readsEater_191 rfl ?_
                            refine z_get (v := .int (nI xd)) (N := 29) X i_RX5 (ci := 4) rfl 0 rfl 13 (by decide) f_102 rfl dX5_readsEater_192 ?_
                            refine z_iconst (v := nI 1) X dX5_readsEater_195 (by decide) ?_
                            refine z_iadd' (v := nI (xd + 1)) X dX5_readsEater_196 (nI_add _ _) ?_
                            refine z_put (ws' := (wM g b ft so D E tr C lk kd st sp nd rO rB rD rW sz sl sc sm (xa + 1 + 1 + 1 + 1 + 1) xb xc (xd + 1) y1 (upd y2 xd (nI 2)) (upd y3 xd (nI s_b)) (upd y4 xd (nI s_c)) (upd y5 xd (nI s_d)) hn)) (N := 29) X i_RX5 (ci := 4) rfl tyX5 tyX5_ok nmX5 0 rfl 13 (by decide) f_102 rfl (ty := .int) (by decide +kernel) rfl rfl (Nat.le_of_ble_eq_true rfl) dX5_readsEater_197 rfl ?_
                            refine z_iconst (v := nI 1) X dX5_readsEater_200 (by decide) ?_
                            have e86 : ((eaF sc f_r n_n xa xd).2) = (xa + 1 + 1 + 1 + 1 + 1) := by rw [hea]
                            have e87 : (if (eaF sc f_r n_n xa xd).1 = true then xd + 1 else xd) = (xd + 1) := by exact pr_t hea rfl
                            have e88 : (if (eaF sc f_r n_n xa xd).1 = true then upd y2 xd (kbl (sc (f_r + xa + 1))) else y2) = (upd y2 xd (nI 2)) := by exact pr_t hea (congrArg (upd y2 xd) hkv)
                            have e89 : (if (eaF sc f_r n_n xa xd).1 = true then upd y3 xd (sc (f_r + xa + 2) - nI 48) else y3) = (upd y3 xd (nI s_b)) := by exact pr_t hea (congrArg (upd y3 xd) hsc_b)
                            have e90 : (if (eaF sc f_r n_n xa xd).1 = true then upd y4 xd (sc (f_r + xa + 3) - nI 48) else y4) = (upd y4 xd (nI s_c)) := by exact pr_t hea (congrArg (upd y4 xd) hsc_c)
                            have e91 : (if (eaF sc f_r n_n xa xd).1 = true then upd y5 xd (sc (f_r + xa + 4) - nI 48) else y5) = (upd y5 xd (nI s_d)) := by exact pr_t hea (congrArg (upd y5 xd) hsc_d)
                            exact z_zret X ZF dX5_readsEater_201 (bI_nar _) (by exact bI_t (by rw [hea])) (by first | rw [e91, e90, e89, e88, e87, e86] | (simp only [e91, e90, e89, e88, e87, e86]))
                          ·
                            exact absurd hq85 (by decide)
                        ·
                          exact absurd hq84 (by decide)
                      ·
                        exact absurd hq83 (by omega)
                    ·
                      have hzn_d : ¬ (zdg (cA sc f_r n_n (xa + 1 + 1 + 1 + 1)) 0 6 = true) := by rw [hz_d]; decide
                      refine z_top (y := (-9)) (fgI_f hz_d) ?_
                      refine z_ws (ws' := (wM g b ft so D E tr C lk kd st sp nd rO rB rD rW sz sl sc sm (xa + 1 + 1 + 1 + 1) xb xc xd y1 y2 y3 y4 y5 hn)) (by rw [if_neg hzn_d]) ?_
                      refine z_istore (L' := [(6, .int (-9)), (5, .int (nI s_c)), (4, .int (nI s_b)), (3, .int (nI 108)), (0, .ref (b 0)), (1, .int (nI f_r)), (2, .int (nI n_n))]) X dX5_readsEater_118 (by decide) rfl ?_
                      refine z_iload X dX5_readsEater_120 0 rfl ?_
                      refine z_if_ge (tgt := 127) X dX5_readsEater_122 (by decide) (fun hq92 => ?_) (fun hq92 => ?_)
                      ·
                        exact absurd hq92 (by decide)
                      ·
                        have hea := (by first | exact eaF_d (e := xd) hx4 h0c hkn hz_b | exact eaF_e (e := xd) hx4 h0c hkn hz_b hz_c | exact eaF_f (e := xd) hx4 h0c hkn hz_b hz_c hz_d : eaF sc f_r n_n xa xd = (false, xa + 1 + 1 + 1 + 1))
                        refine z_iconst (v := nI 0) X dX5_readsEater_125 (by decide) ?_
                        have e93 : ((eaF sc f_r n_n xa xd).2) = (xa + 1 + 1 + 1 + 1) := by rw [hea]
                        have e94 : (if (eaF sc f_r n_n xa xd).1 = true then xd + 1 else xd) = xd := by exact pr_f hea
                        have e95 : (if (eaF sc f_r n_n xa xd).1 = true then upd y2 xd (kbl (sc (f_r + xa + 1))) else y2) = y2 := by exact pr_f hea
                        have e96 : (if (eaF sc f_r n_n xa xd).1 = true then upd y3 xd (sc (f_r + xa + 2) - nI 48) else y3) = y3 := by exact pr_f hea
                        have e97 : (if (eaF sc f_r n_n xa xd).1 = true then upd y4 xd (sc (f_r + xa + 3) - nI 48) else y4) = y4 := by exact pr_f hea
                        have e98 : (if (eaF sc f_r n_n xa xd).1 = true then upd y5 xd (sc (f_r + xa + 4) - nI 48) else y5) = y5 := by exact pr_f hea
                        exact z_zret X ZF dX5_readsEater_126 (bI_nar _) (by exact bI_f (by rw [hea])) (by first | rw [e98, e97, e96, e95, e94, e93] | (simp only [e98, e97, e96, e95, e94, e93]))
                  ·
                    exact absurd hq82 (by omega)
                ·
                  have hzn_c : ¬ (zdg (cA sc f_r n_n (xa + 1 + 1 + 1)) 1 9 = true) := by rw [hz_c]; decide
                  refine z_top (y := (-9)) (fgI_f hz_c) ?_
                  refine z_ws (ws' := (wM g b ft so D E tr C lk kd st sp nd rO rB rD rW sz sl sc sm (xa + 1 + 1 + 1) xb xc xd y1 y2 y3 y4 y5 hn)) (by rw [if_neg hzn_c]) ?_
                  refine z_istore (L' := [(5, .int (-9)), (4, .int (nI s_b)), (3, .int (nI 108)), (0, .ref (b 0)), (1, .int (nI f_r)), (2, .int (nI n_n))]) X dX5_readsEater_97 (by decide) rfl ?_
                  refine z_iload X dX5_readsEater_99 0 rfl ?_
                  refine z_if_ge (tgt := 109) X dX5_readsEater_101 (by decide) (fun hq99 => ?_) (fun hq99 => ?_)
                  ·
                    exact absurd hq99 (by decide)
                  ·
                    refine z_bipush (v := (-9)) X dX5_readsEater_104 (by decide) ?_
                    refine z_goto (tgt := 118) X dX5_readsEater_106 (by decide) ?_
                    refine z_istore (L' := [(6, .int (-9)), (5, .int (-9)), (4, .int (nI s_b)), (3, .int (nI 108)), (0, .ref (b 0)), (1, .int (nI f_r)), (2, .int (nI n_n))]) X dX5_readsEater_118 (by decide) rfl ?_
                    refine z_iload X dX5_readsEater_120 0 rfl ?_
                    refine z_if_ge (tgt := 127) X dX5_readsEater_122 (by decide) (fun hq100 => ?_) (fun hq100 => ?_)
                    ·
                      exact absurd hq100 (by decide)
                    ·
                      have hea := (by first | exact eaF_d (e := xd) hx4 h0c hkn hz_b | exact eaF_e (e := xd) hx4 h0c hkn hz_b hz_c | exact eaF_f (e := xd) hx4 h0c hkn hz_b hz_c hz_d : eaF sc f_r n_n xa xd = (false, xa + 1 + 1 + 1))
                      refine z_iconst (v := nI 0) X dX5_readsEater_125 (by decide) ?_
                      have e101 : ((eaF sc f_r n_n xa xd).2) = (xa + 1 + 1 + 1) := by rw [hea]
                      have e102 : (if (eaF sc f_r n_n xa xd).1 = true then xd + 1 else xd) = xd := by exact pr_f hea
                      have e103 : (if (eaF sc f_r n_n xa xd).1 = true then upd y2 xd (kbl (sc (f_r + xa + 1))) else y2) = y2 := by exact pr_f hea
                      have e104 : (if (eaF sc f_r n_n xa xd).1 = true then upd y3 xd (sc (f_r + xa + 2) - nI 48) else y3) = y3 := by exact pr_f hea
                      have e105 : (if (eaF sc f_r n_n xa xd).1 = true then upd y4 xd (sc (f_r + xa + 3) - nI 48) else y4) = y4 := by exact pr_f hea
                      have e106 : (if (eaF sc f_r n_n xa xd).1 = true then upd y5 xd (sc (f_r + xa + 4) - nI 48) else y5) = y5 := by exact pr_f hea
                      exact z_zret X ZF dX5_readsEater_126 (bI_nar _) (by exact bI_f (by rw [hea])) (by first | rw [e106, e105, e104, e103, e102, e101] | (simp only [e106, e105, e104, e103, e102, e101]))
              ·
                exact absurd hq81 (by omega)
            ·
              have hzn_b : ¬ (zdg (cA sc f_r n_n (xa + 1 + 1)) 0 5 = true) := by rw [hz_b]; decide
              refine z_top (y := (-9)) (fgI_f hz_b) ?_
              refine z_ws (ws' := (wM g b ft so D E tr C lk kd st sp nd rO rB rD rW sz sl sc sm (xa + 1 + 1) xb xc xd y1 y2 y3 y4 y5 hn)) (by rw [if_neg hzn_b]) ?_
              refine z_istore (L' := [(4, .int (-9)), (3, .int (nI 108)), (0, .ref (b 0)), (1, .int (nI f_r)), (2, .int (nI n_n))]) X dX5_readsEater_76 (by decide) rfl ?_
              refine z_iload X dX5_readsEater_78 0 rfl ?_
              refine z_if_ge (tgt := 88) X dX5_readsEater_80 (by decide) (fun hq107 => ?_) (fun hq107 => ?_)
              ·
                exact absurd hq107 (by decide)
              ·
                refine z_bipush (v := (-9)) X dX5_readsEater_83 (by decide) ?_
                refine z_goto (tgt := 97) X dX5_readsEater_85 (by decide) ?_
                refine z_istore (L' := [(5, .int (-9)), (4, .int (-9)), (3, .int (nI 108)), (0, .ref (b 0)), (1, .int (nI f_r)), (2, .int (nI n_n))]) X dX5_readsEater_97 (by decide) rfl ?_
                refine z_iload X dX5_readsEater_99 0 rfl ?_
                refine z_if_ge (tgt := 109) X dX5_readsEater_101 (by decide) (fun hq108 => ?_) (fun hq108 => ?_)
                ·
                  exact absurd hq108 (by decide)
                ·
                  refine z_bipush (v := (-9)) X dX5_readsEater_104 (by decide) ?_
                  refine z_goto (tgt := 118) X dX5_readsEater_106 (by decide) ?_
                  refine z_istore (L' := [(6, .int (-9)), (5, .int (-9)), (4, .int (-9)), (3, .int (nI 108)), (0, .ref (b 0)), (1, .int (nI f_r)), (2, .int (nI n_n))]) X dX5_readsEater_118 (by decide) rfl ?_
                  refine z_iload X dX5_readsEater_120 0 rfl ?_
                  refine z_if_ge (tgt := 127) X dX5_readsEater_122 (by decide) (fun hq109 => ?_) (fun hq109 => ?_)
                  ·
                    exact absurd hq109 (by decide)
                  ·
                    have hea := (by first | exact eaF_d (e := xd) hx4 h0c hkn hz_b | exact eaF_e (e := xd) hx4 h0c hkn hz_b hz_c | exact eaF_f (e := xd) hx4 h0c hkn hz_b hz_c hz_d : eaF sc f_r n_n xa xd = (false, xa + 1 + 1))
                    refine z_iconst (v := nI 0) X dX5_readsEater_125 (by decide) ?_
                    have e110 : ((eaF sc f_r n_n xa xd).2) = (xa + 1 + 1) := by rw [hea]
                    have e111 : (if (eaF sc f_r n_n xa xd).1 = true then xd + 1 else xd) = xd := by exact pr_f hea
                    have e112 : (if (eaF sc f_r n_n xa xd).1 = true then upd y2 xd (kbl (sc (f_r + xa + 1))) else y2) = y2 := by exact pr_f hea
                    have e113 : (if (eaF sc f_r n_n xa xd).1 = true then upd y3 xd (sc (f_r + xa + 2) - nI 48) else y3) = y3 := by exact pr_f hea
                    have e114 : (if (eaF sc f_r n_n xa xd).1 = true then upd y4 xd (sc (f_r + xa + 3) - nI 48) else y4) = y4 := by exact pr_f hea
                    have e115 : (if (eaF sc f_r n_n xa xd).1 = true then upd y5 xd (sc (f_r + xa + 4) - nI 48) else y5) = y5 := by exact pr_f hea
                    exact z_zret X ZF dX5_readsEater_126 (bI_nar _) (by exact bI_f (by rw [hea])) (by first | rw [e115, e114, e113, e112, e111, e110] | (simp only [e115, e114, e113, e112, e111, e110]))
          ·
            have hkb : kbl (cA sc f_r n_n (xa + 1)) = -9 := by unfold kbl; rw [if_neg hq9, if_neg hq44, if_neg hq80]
            have hea := eaF_c (e := xd) hx4 h0c hkb
            refine z_iconst (v := nI 0) X dX5_readsEater_56 (by decide) ?_
            have e116 : ((eaF sc f_r n_n xa xd).2) = (xa + 1) := by rw [hea]
            have e117 : (if (eaF sc f_r n_n xa xd).1 = true then xd + 1 else xd) = xd := by exact pr_f hea
            have e118 : (if (eaF sc f_r n_n xa xd).1 = true then upd y2 xd (kbl (sc (f_r + xa + 1))) else y2) = y2 := by exact pr_f hea
            have e119 : (if (eaF sc f_r n_n xa xd).1 = true then upd y3 xd (sc (f_r + xa + 2) - nI 48) else y3) = y3 := by exact pr_f hea
            have e120 : (if (eaF sc f_r n_n xa xd).1 = true then upd y4 xd (sc (f_r + xa + 3) - nI 48) else y4) = y4 := by exact pr_f hea
            have e121 : (if (eaF sc f_r n_n xa xd).1 = true then upd y5 xd (sc (f_r + xa + 4) - nI 48) else y5) = y5 := by exact pr_f hea
            exact z_zret X ZF dX5_readsEater_57 (bI_nar _) (by exact bI_f (by rw [hea])) (by first | rw [e121, e120, e119, e118, e117, e116] | (simp only [e121, e120, e119, e118, e117, e116]))
    ·
      have hea : eaF sc f_r n_n xa xd = (false, xa) := by first | exact eaF_a (by omega) | exact eaF_b (by omega) hq8
      refine z_iconst (v := nI 0) X dX5_readsEater_19 (by decide) ?_
      have e122 : ((eaF sc f_r n_n xa xd).2) = xa := by rw [hea]
      have e123 : (if (eaF sc f_r n_n xa xd).1 = true then xd + 1 else xd) = xd := by exact pr_f hea
      have e124 : (if (eaF sc f_r n_n xa xd).1 = true then upd y2 xd (kbl (sc (f_r + xa + 1))) else y2) = y2 := by exact pr_f hea
      have e125 : (if (eaF sc f_r n_n xa xd).1 = true then upd y3 xd (sc (f_r + xa + 2) - nI 48) else y3) = y3 := by exact pr_f hea
      have e126 : (if (eaF sc f_r n_n xa xd).1 = true then upd y4 xd (sc (f_r + xa + 3) - nI 48) else y4) = y4 := by exact pr_f hea
      have e127 : (if (eaF sc f_r n_n xa xd).1 = true then upd y5 xd (sc (f_r + xa + 4) - nI 48) else y5) = y5 := by exact pr_f hea
      exact z_zret X ZF dX5_readsEater_20 (bI_nar _) (by exact bI_f (by rw [hea])) (by first | rw [e127, e126, e125, e124, e123, e122] | (simp only [e127, e126, e125, e124, e123, e122]))
abbrev rX5_readsDuchy : Room := { frames := 3, cells := 0, slots := 0, locals := 77 }
set_option maxHeartbeats 4000000 in
set_option maxRecDepth 100000 in
theorem c_X5_readsDuchy (l : Launch) (g : zg) (b : Nat → Nat) (ft : Int32) (so : Int32) (D : Nat) (E : Nat) (tr : Int32) (C : Nat) (lk : Nat → Int32) (kd : Nat → Int32) (st : Nat → Int32) (sp : Nat → Int32) (nd : Nat → Int32) (rO : Nat → Int32) (rB : Nat → Int32) (rD : Nat → Int32) (rW : Nat → Int32) (sz : Nat → Int32) (sl : Nat → Int32) (sc : Nat → Int32) (sm : Int32) (xa : Nat) (xb : Int32) (xc : Nat) (xd : Nat) (y1 : Nat → Int32) (y2 : Nat → Int32) (y3 : Nat → Int32) (y4 : Nat → Int32) (y5 : Nat → Int32) (hn : Nat → Int32) (f_r : Nat) (n_n : Nat) (hfr : f_r + n_n ≤ 240) : zM l g yX5_readsDuchy wsX5_readsDuchy rX5_readsDuchy [.ref (b 0), .int (nI f_r), .int (nI n_n)] (wM g b ft so D E tr C lk kd st sp nd rO rB rD rW sz sl sc sm xa xb xc xd y1 y2 y3 y4 y5 hn) (some (.int (bI (decide (fr0 sc f_r n_n = (-1)))))) (wM g b ft so D E tr C lk kd st sp nd rO rB rD rW sz sl sc sm (pXA sc f_r n_n) (pXB sc f_r n_n) (pXC sc f_r n_n) (pXD sc f_r n_n) (tlk sc f_r y1 (pXC sc f_r n_n)) (tkd sc f_r (3 + pXC sc f_r n_n) y2 (pXD sc f_r n_n)) (tst sc f_r (3 + pXC sc f_r n_n) 2 y3 (pXD sc f_r n_n)) (tst sc f_r (3 + pXC sc f_r n_n) 3 y4 (pXD sc f_r n_n)) (tst sc f_r (3 + pXC sc f_r n_n) 4 y5 (pXD sc f_r n_n)) hn) := by
  refine z_met (own := RX5) (cc := cX5_readsDuchy) (maxL := 4) (ret := some .boolean) (by decide +kernel) rfl rfl (Nat.le_of_ble_eq_true rfl) ?_
  intro M X ZF
  refine z_Le (L' := [(0, .ref (b 0)), (1, .int (nI f_r)), (2, .int (nI n_n))]) rfl ?_
  have i_RX5 : ∀ w ∈ wsX50, w ∈ wsX5_readsDuchy := by decide +kernel
  have f_88 : Cond.fieldLink RX5 88 (TX5 10).1 (TX5 10).2.1 (TX5 10).2.2.1 ∈ wsX5_readsDuchy := by decide +kernel
  have f_95 : Cond.fieldLink RX5 95 (TX5 12).1 (TX5 12).2.1 (TX5 12).2.2.1 ∈ wsX5_readsDuchy := by decide +kernel
  have f_102 : Cond.fieldLink RX5 102 (TX5 13).1 (TX5 13).2.1 (TX5 13).2.2.1 ∈ wsX5_readsDuchy := by decide +kernel
  have f_105 : Cond.fieldLink RX5 105 (TX5 11).1 (TX5 11).2.1 (TX5 11).2.2.1 ∈ wsX5_readsDuchy := by decide +kernel
  refine z_aload_n X dX5_readsDuchy_0 rfl 0 rfl ?_
  refine z_iconst (v := nI 0) X dX5_readsDuchy_1 (by decide) ?_
  refine z_put (ws' := (wM g b ft so D E tr C lk kd st sp nd rO rB rD rW sz sl sc sm 0 xb xc xd y1 y2 y3 y4 y5 hn)) (N := 29) X i_RX5 (ci := 4) rfl tyX5 tyX5_ok nmX5 0 rfl 10 (by decide) f_88 rfl (ty := .int) (by decide +kernel) rfl rfl (Nat.le_of_ble_eq_true rfl) dX5_readsDuchy_2 rfl ?_
  refine z_aload_n X dX5_readsDuchy_5 rfl 0 rfl ?_
  refine z_iconst (v := nI 0) X dX5_readsDuchy_6 (by decide) ?_
  refine z_put (ws' := (wM g b ft so D E tr C lk kd st sp nd rO rB rD rW sz sl sc sm 0 xb 0 xd y1 y2 y3 y4 y5 hn)) (N := 29) X i_RX5 (ci := 4) rfl tyX5 tyX5_ok nmX5 0 rfl 12 (by decide) f_95 rfl (ty := .int) (by decide +kernel) rfl rfl (Nat.le_of_ble_eq_true rfl) dX5_readsDuchy_7 rfl ?_
  refine z_aload_n X dX5_readsDuchy_10 rfl 0 rfl ?_
  refine z_iconst (v := nI 0) X dX5_readsDuchy_11 (by decide) ?_
  refine z_put (ws' := (wM g b ft so D E tr C lk kd st sp nd rO rB rD rW sz sl sc sm 0 xb 0 0 y1 y2 y3 y4 y5 hn)) (N := 29) X i_RX5 (ci := 4) rfl tyX5 tyX5_ok nmX5 0 rfl 13 (by decide) f_102 rfl (ty := .int) (by decide +kernel) rfl rfl (Nat.le_of_ble_eq_true rfl) dX5_readsDuchy_12 rfl ?_
  refine z_aload_n X dX5_readsDuchy_15 rfl 0 rfl ?_
  refine z_iload_n X dX5_readsDuchy_16 rfl 1 rfl ?_
  refine z_iload_n X dX5_readsDuchy_17 rfl 2 rfl ?_
  refine z_callVM X (c_X5_codeAt l g b ft so D E tr C lk kd st sp nd rO rB rD rW sz sl sc sm 0 xb 0 0 y1 y2 y3 y4 y5 hn f_r n_n (by omega) (by omega)) gX5_readsDuchy_X5_codeAt rfl ⟨rfl, rfl⟩ (by decide +kernel) ⟨Nat.le_of_ble_eq_true rfl, Nat.le_of_ble_eq_true rfl⟩ ZF.room (ci := 4) rfl 0 rfl rfl (As := [.int (nI f_r), .int (nI n_n)]) (n := 2) rfl rfl (st1 := [.int (cA sc f_r n_n 0)]) rfl (Nat.le_of_ble_eq_true rfl) dX5_readsDuchy_18 ?_
  refine z_bipush (v := nI 100) X dX5_readsDuchy_21 (by decide) ?_
  refine z_icmp_ne (tgt := 30) X dX5_readsDuchy_23 (by decide) (fun hq1 => ?_) (fun hq1 => ?_)
  ·
    have h0_n := hq1
    refine z_iconst (v := nI 0) X dX5_readsDuchy_30 (by decide) ?_
    refine z_istore_n (L' := [(3, .int (nI 0)), (0, .ref (b 0)), (1, .int (nI f_r)), (2, .int (nI n_n))]) X dX5_readsDuchy_31 rfl (by decide) rfl ?_
    refine z_aload_n X dX5_readsDuchy_32 rfl 1 rfl ?_
    refine z_dup X dX5_readsDuchy_33 rfl ?_
    refine z_get (v := .int (nI 0)) (N := 29) X i_RX5 (ci := 4) rfl 0 rfl 10 (by decide) f_88 rfl dX5_readsDuchy_34 ?_
    refine z_iload_n X dX5_readsDuchy_37 rfl 0 rfl ?_
    refine z_if_eqN (tgt := 45) X dX5_readsDuchy_38 (by decide) (by omega) (fun hq2 => ?_) (fun hq2 => ?_)
    ·
      refine z_iconst (v := nI 0) X dX5_readsDuchy_45 (by decide) ?_
      refine z_iadd' (v := nI 0) X dX5_readsDuchy_46 (nI_add _ _) ?_
      refine z_put (ws' := (wM g b ft so D E tr C lk kd st sp nd rO rB rD rW sz sl sc sm 0 xb 0 0 y1 y2 y3 y4 y5 hn)) (N := 29) X i_RX5 (ci := 4) rfl tyX5 tyX5_ok nmX5 0 rfl 10 (by decide) f_88 rfl (ty := .int) (by decide +kernel) rfl rfl (Nat.le_of_ble_eq_true rfl) dX5_readsDuchy_47 rfl ?_
      refine z_aload_n X dX5_readsDuchy_50 rfl 1 rfl ?_
      refine z_iload_n X dX5_readsDuchy_51 rfl 0 rfl ?_
      refine z_if_eqN (tgt := 67) X dX5_readsDuchy_52 (by decide) (by omega) (fun hq3 => ?_) (fun hq3 => ?_)
      ·
        refine z_bipush (v := (-9)) X dX5_readsDuchy_67 (by decide) ?_
        refine z_put (ws' := (wM g b ft so D E tr C lk kd st sp nd rO rB rD rW sz sl sc sm 0 (-9) 0 0 y1 y2 y3 y4 y5 hn)) (N := 29) X i_RX5 (ci := 4) rfl tyX5 tyX5_ok nmX5 0 rfl 11 (by decide) f_105 rfl (ty := .int) (by decide +kernel) rfl rfl (Nat.le_of_ble_eq_true rfl) dX5_readsDuchy_69 rfl ?_
        refine z_aload_n X dX5_readsDuchy_72 rfl 1 rfl ?_
        refine z_get (v := .int (-9)) (N := 29) X i_RX5 (ci := 4) rfl 0 rfl 11 (by decide) f_105 rfl dX5_readsDuchy_73 ?_
        refine z_if_lt (tgt := 94) X dX5_readsDuchy_76 (by decide) (fun hq4 => ?_) (fun hq4 => ?_)
        ·
          refine z_iconst (v := nI 0) X dX5_readsDuchy_94 (by decide) ?_
          refine z_istore_n (L' := [(3, .int (nI 0)), (0, .ref (b 0)), (1, .int (nI f_r)), (2, .int (nI n_n))]) X dX5_readsDuchy_95 rfl (by decide) rfl ?_
          refine z_aload_n X dX5_readsDuchy_96 rfl 1 rfl ?_
          refine z_dup X dX5_readsDuchy_97 rfl ?_
          refine z_get (v := .int (nI 0)) (N := 29) X i_RX5 (ci := 4) rfl 0 rfl 10 (by decide) f_88 rfl dX5_readsDuchy_98 ?_
          refine z_iload_n X dX5_readsDuchy_101 rfl 0 rfl ?_
          refine z_if_eqN (tgt := 109) X dX5_readsDuchy_102 (by decide) (by omega) (fun hq5 => ?_) (fun hq5 => ?_)
          ·
            refine z_iconst (v := nI 0) X dX5_readsDuchy_109 (by decide) ?_
            refine z_iadd' (v := nI 0) X dX5_readsDuchy_110 (nI_add _ _) ?_
            refine z_put (ws' := (wM g b ft so D E tr C lk kd st sp nd rO rB rD rW sz sl sc sm 0 (-9) 0 0 y1 y2 y3 y4 y5 hn)) (N := 29) X i_RX5 (ci := 4) rfl tyX5 tyX5_ok nmX5 0 rfl 10 (by decide) f_88 rfl (ty := .int) (by decide +kernel) rfl rfl (Nat.le_of_ble_eq_true rfl) dX5_readsDuchy_111 rfl ?_
            refine z_iload_n X dX5_readsDuchy_114 rfl 0 rfl ?_
            refine z_if_eqN (tgt := 131) X dX5_readsDuchy_115 (by decide) (by omega) (fun hq6 => ?_) (fun hq6 => ?_)
            ·
              refine z_iconst (v := nI 0) X dX5_readsDuchy_131 (by decide) ?_
              refine z_istore_n (L' := [(3, .int (nI 0)), (0, .ref (b 0)), (1, .int (nI f_r)), (2, .int (nI n_n))]) X dX5_readsDuchy_132 rfl (by decide) rfl ?_
              refine z_iload_n X dX5_readsDuchy_133 rfl 0 rfl ?_
              refine z_if_eqN (tgt := 162) X dX5_readsDuchy_134 (by decide) (by omega) (fun hq7 => ?_) (fun hq7 => ?_)
              ·
                obtain ⟨⟨hXA, hXB, hXC, hXD⟩, hXr⟩ := pX_f0 h0_n
                refine z_iload_n X dX5_readsDuchy_162 rfl 0 rfl ?_
                have e8 : (pXA sc f_r n_n) = 0 := by exact hXA
                have e9 : (pXB sc f_r n_n) = (-9) := by exact hXB
                have e10 : (pXC sc f_r n_n) = 0 := by exact hXC
                have e11 : (pXD sc f_r n_n) = 0 := by exact hXD
                have e12 : (tlk sc f_r y1 (pXC sc f_r n_n)) = y1 := by exact congrArg (tlk sc f_r y1) hXC
                have e13 : (tkd sc f_r (3 + pXC sc f_r n_n) y2 (pXD sc f_r n_n)) = y2 := by exact congrArg (tkd sc f_r _ y2) hXD
                have e14 : (tst sc f_r (3 + pXC sc f_r n_n) 2 y3 (pXD sc f_r n_n)) = y3 := by exact congrArg (tst sc f_r _ _ y3) hXD
                have e15 : (tst sc f_r (3 + pXC sc f_r n_n) 3 y4 (pXD sc f_r n_n)) = y4 := by exact congrArg (tst sc f_r _ _ y4) hXD
                have e16 : (tst sc f_r (3 + pXC sc f_r n_n) 4 y5 (pXD sc f_r n_n)) = y5 := by exact congrArg (tst sc f_r _ _ y5) hXD
                exact z_zret X ZF dX5_readsDuchy_163 (bI_nar _) (by exact bI_f hXr) (by first | rw [e16, e15, e14, e13, e12, e11, e10, e9, e8] | (simp only [e16, e15, e14, e13, e12, e11, e10, e9, e8]))
              ·
                exact absurd hq7 (by decide)
            ·
              exact absurd hq6 (by decide)
          ·
            exact absurd hq5 (by decide)
        ·
          exact absurd hq4 (by decide)
      ·
        exact absurd hq3 (by decide)
    ·
      exact absurd hq2 (by decide)
  ·
    have h0_y := hq1
    have hl0 := cA_lt hq1 (by decide +kernel)
    refine z_iconst (v := nI 1) X dX5_readsDuchy_26 (by decide) ?_
    refine z_goto (tgt := 31) X dX5_readsDuchy_27 (by decide) ?_
    refine z_istore_n (L' := [(3, .int (nI 1)), (0, .ref (b 0)), (1, .int (nI f_r)), (2, .int (nI n_n))]) X dX5_readsDuchy_31 rfl (by decide) rfl ?_
    refine z_aload_n X dX5_readsDuchy_32 rfl 1 rfl ?_
    refine z_dup X dX5_readsDuchy_33 rfl ?_
    refine z_get (v := .int (nI 0)) (N := 29) X i_RX5 (ci := 4) rfl 0 rfl 10 (by decide) f_88 rfl dX5_readsDuchy_34 ?_
    refine z_iload_n X dX5_readsDuchy_37 rfl 0 rfl ?_
    refine z_if_eqN (tgt := 45) X dX5_readsDuchy_38 (by decide) (by omega) (fun hq17 => ?_) (fun hq17 => ?_)
    ·
      exact absurd hq17 (by decide)
    ·
      refine z_iconst (v := nI 1) X dX5_readsDuchy_41 (by decide) ?_
      refine z_goto (tgt := 46) X dX5_readsDuchy_42 (by decide) ?_
      refine z_iadd' (v := nI 1) X dX5_readsDuchy_46 (nI_add _ _) ?_
      refine z_put (ws' := (wM g b ft so D E tr C lk kd st sp nd rO rB rD rW sz sl sc sm 1 xb 0 0 y1 y2 y3 y4 y5 hn)) (N := 29) X i_RX5 (ci := 4) rfl tyX5 tyX5_ok nmX5 0 rfl 10 (by decide) f_88 rfl (ty := .int) (by decide +kernel) rfl rfl (Nat.le_of_ble_eq_true rfl) dX5_readsDuchy_47 rfl ?_
      refine z_aload_n X dX5_readsDuchy_50 rfl 1 rfl ?_
      refine z_iload_n X dX5_readsDuchy_51 rfl 0 rfl ?_
      refine z_if_eqN (tgt := 67) X dX5_readsDuchy_52 (by decide) (by omega) (fun hq18 => ?_) (fun hq18 => ?_)
      ·
        exact absurd hq18 (by decide)
      ·
        refine z_aload_n X dX5_readsDuchy_55 rfl 1 rfl ?_
        refine z_iload_n X dX5_readsDuchy_56 rfl 2 rfl ?_
        refine z_iload_n X dX5_readsDuchy_57 rfl 3 rfl ?_
        refine z_iconst (v := nI 0) X dX5_readsDuchy_58 (by decide) ?_
        refine z_bipush (v := nI 9) X dX5_readsDuchy_59 (by decide) ?_
        refine z_callVM X (c_X5_figure l g b ft so D E tr C lk kd st sp nd rO rB rD rW sz sl sc sm 1 xb 0 0 y1 y2 y3 y4 y5 hn f_r n_n 0 9 (by omega) (by omega) (by omega) (by omega)) gX5_readsDuchy_X5_figure rfl ⟨rfl, rfl⟩ (by decide +kernel) ⟨Nat.le_of_ble_eq_true rfl, Nat.le_of_ble_eq_true rfl⟩ ZF.room (ci := 4) rfl 0 rfl rfl (As := [.int (nI f_r), .int (nI n_n), .int (nI 0), .int (nI 9)]) (n := 4) rfl rfl (st1 := [.int (fgI (cA sc f_r n_n 1) 0 9), .ref (b 0)]) rfl (Nat.le_of_ble_eq_true rfl) dX5_readsDuchy_61 ?_
        rcases bTF (zdg (cA sc f_r n_n 1) 0 9) with hz_e | hz_e
        ·
          obtain ⟨s_e, hs_e, hse_e⟩ := zdg_n (by omega) (by omega) hz_e
          have hl_e := zdg_lt (by omega) (by omega) hz_e
          have hzc_e : zdg (sc (f_r + 1)) 0 9 = true := by have e := hz_e; rw [cA_in hl_e] at e; exact e
          have hsc_e : sc (f_r + 1) - nI 48 = nI s_e := by have e := hse_e; rw [cA_in hl_e] at e; exact e
          refine z_top ((fgI_t hz_e).trans hse_e) ?_
          refine z_ws (ws' := (wM g b ft so D E tr C lk kd st sp nd rO rB rD rW sz sl sc sm (1 + 1) xb 0 0 y1 y2 y3 y4 y5 hn)) (by rw [if_pos hz_e]) ?_
          refine z_goto (tgt := 69) X dX5_readsDuchy_64 (by decide) ?_
          refine z_put (ws' := (wM g b ft so D E tr C lk kd st sp nd rO rB rD rW sz sl sc sm (1 + 1) (nI s_e) 0 0 y1 y2 y3 y4 y5 hn)) (N := 29) X i_RX5 (ci := 4) rfl tyX5 tyX5_ok nmX5 0 rfl 11 (by decide) f_105 rfl (ty := .int) (by decide +kernel) rfl rfl (Nat.le_of_ble_eq_true rfl) dX5_readsDuchy_69 rfl ?_
          refine z_aload_n X dX5_readsDuchy_72 rfl 1 rfl ?_
          refine z_get (v := .int (nI s_e)) (N := 29) X i_RX5 (ci := 4) rfl 0 rfl 11 (by decide) f_105 rfl dX5_readsDuchy_73 ?_
          refine z_if_ltN (tgt := 94) X dX5_readsDuchy_76 (by decide) (by omega) (fun hq19 => ?_) (fun hq19 => ?_)
          ·
            exact absurd hq19 (by omega)
          ·
            refine z_aload_n X dX5_readsDuchy_79 rfl 1 rfl ?_
            refine z_iload_n X dX5_readsDuchy_80 rfl 2 rfl ?_
            refine z_iload_n X dX5_readsDuchy_81 rfl 3 rfl ?_
            refine z_callVM X (c_X5_codeAt l g b ft so D E tr C lk kd st sp nd rO rB rD rW sz sl sc sm (1 + 1) (nI s_e) 0 0 y1 y2 y3 y4 y5 hn f_r n_n (by omega) (by omega)) gX5_readsDuchy_X5_codeAt rfl ⟨rfl, rfl⟩ (by decide +kernel) ⟨Nat.le_of_ble_eq_true rfl, Nat.le_of_ble_eq_true rfl⟩ ZF.room (ci := 4) rfl 0 rfl rfl (As := [.int (nI f_r), .int (nI n_n)]) (n := 2) rfl rfl (st1 := [.int (cA sc f_r n_n (1 + 1))]) rfl (Nat.le_of_ble_eq_true rfl) dX5_readsDuchy_82 ?_
            refine z_bipush (v := nI 44) X dX5_readsDuchy_85 (by decide) ?_
            refine z_icmp_ne (tgt := 94) X dX5_readsDuchy_87 (by decide) (fun hq20 => ?_) (fun hq20 => ?_)
            ·
              have h2_n := hq20
              refine z_iconst (v := nI 0) X dX5_readsDuchy_94 (by decide) ?_
              refine z_istore_n (L' := [(3, .int (nI 0)), (0, .ref (b 0)), (1, .int (nI f_r)), (2, .int (nI n_n))]) X dX5_readsDuchy_95 rfl (by decide) rfl ?_
              refine z_aload_n X dX5_readsDuchy_96 rfl 1 rfl ?_
              refine z_dup X dX5_readsDuchy_97 rfl ?_
              refine z_get (v := .int (nI (1 + 1))) (N := 29) X i_RX5 (ci := 4) rfl 0 rfl 10 (by decide) f_88 rfl dX5_readsDuchy_98 ?_
              refine z_iload_n X dX5_readsDuchy_101 rfl 0 rfl ?_
              refine z_if_eqN (tgt := 109) X dX5_readsDuchy_102 (by decide) (by omega) (fun hq21 => ?_) (fun hq21 => ?_)
              ·
                refine z_iconst (v := nI 0) X dX5_readsDuchy_109 (by decide) ?_
                refine z_iadd' (v := nI (1 + 1)) X dX5_readsDuchy_110 (nI_add _ _) ?_
                refine z_put (ws' := (wM g b ft so D E tr C lk kd st sp nd rO rB rD rW sz sl sc sm (1 + 1) (nI s_e) 0 0 y1 y2 y3 y4 y5 hn)) (N := 29) X i_RX5 (ci := 4) rfl tyX5 tyX5_ok nmX5 0 rfl 10 (by decide) f_88 rfl (ty := .int) (by decide +kernel) rfl rfl (Nat.le_of_ble_eq_true rfl) dX5_readsDuchy_111 rfl ?_
                refine z_iload_n X dX5_readsDuchy_114 rfl 0 rfl ?_
                refine z_if_eqN (tgt := 131) X dX5_readsDuchy_115 (by decide) (by omega) (fun hq22 => ?_) (fun hq22 => ?_)
                ·
                  refine z_iconst (v := nI 0) X dX5_readsDuchy_131 (by decide) ?_
                  refine z_istore_n (L' := [(3, .int (nI 0)), (0, .ref (b 0)), (1, .int (nI f_r)), (2, .int (nI n_n))]) X dX5_readsDuchy_132 rfl (by decide) rfl ?_
                  refine z_iload_n X dX5_readsDuchy_133 rfl 0 rfl ?_
                  refine z_if_eqN (tgt := 162) X dX5_readsDuchy_134 (by decide) (by omega) (fun hq23 => ?_) (fun hq23 => ?_)
                  ·
                    obtain ⟨⟨hXA, hXB, hXC, hXD⟩, hXr⟩ := pX_f2 h0_y hz_e h2_n
                    refine z_iload_n X dX5_readsDuchy_162 rfl 0 rfl ?_
                    have e24 : (pXA sc f_r n_n) = (1 + 1) := by exact hXA
                    have e25 : (pXB sc f_r n_n) = (nI s_e) := by exact hXB.trans hse_e
                    have e26 : (pXC sc f_r n_n) = 0 := by exact hXC
                    have e27 : (pXD sc f_r n_n) = 0 := by exact hXD
                    have e28 : (tlk sc f_r y1 (pXC sc f_r n_n)) = y1 := by exact congrArg (tlk sc f_r y1) hXC
                    have e29 : (tkd sc f_r (3 + pXC sc f_r n_n) y2 (pXD sc f_r n_n)) = y2 := by exact congrArg (tkd sc f_r _ y2) hXD
                    have e30 : (tst sc f_r (3 + pXC sc f_r n_n) 2 y3 (pXD sc f_r n_n)) = y3 := by exact congrArg (tst sc f_r _ _ y3) hXD
                    have e31 : (tst sc f_r (3 + pXC sc f_r n_n) 3 y4 (pXD sc f_r n_n)) = y4 := by exact congrArg (tst sc f_r _ _ y4) hXD
                    have e32 : (tst sc f_r (3 + pXC sc f_r n_n) 4 y5 (pXD sc f_r n_n)) = y5 := by exact congrArg (tst sc f_r _ _ y5) hXD
                    exact z_zret X ZF dX5_readsDuchy_163 (bI_nar _) (by exact bI_f hXr) (by first | rw [e32, e31, e30, e29, e28, e27, e26, e25, e24] | (simp only [e32, e31, e30, e29, e28, e27, e26, e25, e24]))
                  ·
                    exact absurd hq23 (by decide)
                ·
                  exact absurd hq22 (by decide)
              ·
                exact absurd hq21 (by decide)
            ·
              have h2_y := hq20
              have hl2 := cA_lt hq20 (by decide +kernel)
              refine z_iconst (v := nI 1) X dX5_readsDuchy_90 (by decide) ?_
              refine z_goto (tgt := 95) X dX5_readsDuchy_91 (by decide) ?_
              refine z_istore_n (L' := [(3, .int (nI 1)), (0, .ref (b 0)), (1, .int (nI f_r)), (2, .int (nI n_n))]) X dX5_readsDuchy_95 rfl (by decide) rfl ?_
              refine z_aload_n X dX5_readsDuchy_96 rfl 1 rfl ?_
              refine z_dup X dX5_readsDuchy_97 rfl ?_
              refine z_get (v := .int (nI (1 + 1))) (N := 29) X i_RX5 (ci := 4) rfl 0 rfl 10 (by decide) f_88 rfl dX5_readsDuchy_98 ?_
              refine z_iload_n X dX5_readsDuchy_101 rfl 0 rfl ?_
              refine z_if_eqN (tgt := 109) X dX5_readsDuchy_102 (by decide) (by omega) (fun hq33 => ?_) (fun hq33 => ?_)
              ·
                exact absurd hq33 (by decide)
              ·
                refine z_iconst (v := nI 1) X dX5_readsDuchy_105 (by decide) ?_
                refine z_goto (tgt := 110) X dX5_readsDuchy_106 (by decide) ?_
                refine z_iadd' (v := nI (1 + 1 + 1)) X dX5_readsDuchy_110 (nI_add _ _) ?_
                refine z_put (ws' := (wM g b ft so D E tr C lk kd st sp nd rO rB rD rW sz sl sc sm (1 + 1 + 1) (nI s_e) 0 0 y1 y2 y3 y4 y5 hn)) (N := 29) X i_RX5 (ci := 4) rfl tyX5 tyX5_ok nmX5 0 rfl 10 (by decide) f_88 rfl (ty := .int) (by decide +kernel) rfl rfl (Nat.le_of_ble_eq_true rfl) dX5_readsDuchy_111 rfl ?_
                refine z_iload_n X dX5_readsDuchy_114 rfl 0 rfl ?_
                refine z_if_eqN (tgt := 131) X dX5_readsDuchy_115 (by decide) (by omega) (fun hq34 => ?_) (fun hq34 => ?_)
                ·
                  exact absurd hq34 (by decide)
                ·
                  refine z_aload_n X dX5_readsDuchy_118 rfl 1 rfl ?_
                  refine z_iload_n X dX5_readsDuchy_119 rfl 2 rfl ?_
                  refine z_iload_n X dX5_readsDuchy_120 rfl 3 rfl ?_
                  refine z_callVM X (c_X5_readsDays l g b ft so D E tr C lk kd st sp nd rO rB rD rW sz sl sc sm (1 + 1 + 1) (nI s_e) 0 0 y1 y2 y3 y4 y5 hn f_r n_n (by omega) (by first | assumption | omega) (by first | assumption | omega) (by omega)) gX5_readsDuchy_X5_readsDays rfl ⟨rfl, rfl⟩ (by decide +kernel) ⟨Nat.le_of_ble_eq_true rfl, Nat.le_of_ble_eq_true rfl⟩ ZF.room (ci := 4) rfl 0 rfl rfl (As := [.int (nI f_r), .int (nI n_n)]) (n := 2) rfl rfl (st1 := [.int (bI (decide (0 < tdy sc f_r n_n)))]) rfl (Nat.le_of_ble_eq_true rfl) dX5_readsDuchy_121 ?_
                  refine z_if_eqB (tgt := 131) X dX5_readsDuchy_124 (by decide) (fun hq35 => ?_) (fun hq35 => ?_)
                  ·
                    have h3_n : ¬ (0 < tdy sc f_r n_n) := of_decide_eq_false hq35
                    have hq36 : ¬ (0 < tdy sc f_r n_n) := of_decide_eq_false hq35
                    refine z_iconst (v := nI 0) X dX5_readsDuchy_131 (by decide) ?_
                    refine z_istore_n (L' := [(3, .int (nI 0)), (0, .ref (b 0)), (1, .int (nI f_r)), (2, .int (nI n_n))]) X dX5_readsDuchy_132 rfl (by decide) rfl ?_
                    refine z_iload_n X dX5_readsDuchy_133 rfl 0 rfl ?_
                    refine z_if_eqN (tgt := 162) X dX5_readsDuchy_134 (by decide) (by omega) (fun hq37 => ?_) (fun hq37 => ?_)
                    ·
                      obtain ⟨⟨hXA, hXB, hXC, hXD⟩, hXr⟩ := pX_f3 h0_y hz_e h2_y h3_n
                      refine z_iload_n X dX5_readsDuchy_162 rfl 0 rfl ?_
                      have e38 : (pXA sc f_r n_n) = (3 + tdy sc f_r n_n) := by exact hXA
                      have e39 : (pXB sc f_r n_n) = (nI s_e) := by exact hXB.trans hse_e
                      have e40 : (pXC sc f_r n_n) = (tdy sc f_r n_n) := by exact hXC
                      have e41 : (pXD sc f_r n_n) = 0 := by exact hXD
                      have e42 : (tlk sc f_r y1 (pXC sc f_r n_n)) = (tlk sc f_r y1 (tdy sc f_r n_n)) := by exact congrArg (tlk sc f_r y1) hXC
                      have e43 : (tkd sc f_r (3 + pXC sc f_r n_n) y2 (pXD sc f_r n_n)) = y2 := by exact congrArg (tkd sc f_r _ y2) hXD
                      have e44 : (tst sc f_r (3 + pXC sc f_r n_n) 2 y3 (pXD sc f_r n_n)) = y3 := by exact congrArg (tst sc f_r _ _ y3) hXD
                      have e45 : (tst sc f_r (3 + pXC sc f_r n_n) 3 y4 (pXD sc f_r n_n)) = y4 := by exact congrArg (tst sc f_r _ _ y4) hXD
                      have e46 : (tst sc f_r (3 + pXC sc f_r n_n) 4 y5 (pXD sc f_r n_n)) = y5 := by exact congrArg (tst sc f_r _ _ y5) hXD
                      exact z_zret X ZF dX5_readsDuchy_163 (bI_nar _) (by exact bI_f hXr) (by first | rw [e46, e45, e44, e43, e42, e41, e40, e39, e38] | (simp only [e46, e45, e44, e43, e42, e41, e40, e39, e38]))
                    ·
                      exact absurd hq37 (by decide)
                  ·
                    have h3_y : 0 < tdy sc f_r n_n := of_decide_eq_true hq35
                    have hq47 : (0 < tdy sc f_r n_n) := of_decide_eq_true hq35
                    refine z_iconst (v := nI 1) X dX5_readsDuchy_127 (by decide) ?_
                    refine z_goto (tgt := 132) X dX5_readsDuchy_128 (by decide) ?_
                    refine z_istore_n (L' := [(3, .int (nI 1)), (0, .ref (b 0)), (1, .int (nI f_r)), (2, .int (nI n_n))]) X dX5_readsDuchy_132 rfl (by decide) rfl ?_
                    have loopv48 : ∀ (n48 e_v : Nat), e_v ≤ 4 → 4 + 1 ≤ e_v + n48 → (3 + tdy sc f_r n_n + 5 * e_v ≤ n_n) → (frun sc f_r n_n 0 0 0 0 = frun sc f_r (n_n - (3 + tdy sc f_r n_n + 5 * e_v)) (3 + tdy sc f_r n_n + 5 * e_v) (if e_v = 0 then 4 else 9) (tdy sc f_r n_n) e_v) → (eln sc f_r n_n (3 + tdy sc f_r n_n) 4 0 = eln sc f_r n_n (3 + tdy sc f_r n_n) (4 - e_v) e_v) → zG l g 4 M (wM g b ft so D E tr C lk kd st sp nd rO rB rD rW sz sl sc sm (3 + tdy sc f_r n_n + 5 * e_v) (nI s_e) (tdy sc f_r n_n) e_v (tlk sc f_r y1 (tdy sc f_r n_n)) (tkd sc f_r (3 + tdy sc f_r n_n) y2 e_v) (tst sc f_r (3 + tdy sc f_r n_n) 2 y3 e_v) (tst sc f_r (3 + tdy sc f_r n_n) 3 y4 e_v) (tst sc f_r (3 + tdy sc f_r n_n) 4 y5 e_v) hn) [(0, .ref (b 0)), (1, .int (nI f_r)), (2, .int (nI n_n)), (3, .int (nI 1))] 133 [] := by
                      intro n48
                      induction n48 with
                      | zero => intro e_v h1 h2 _ _ _; exact absurd h2 (by omega)
                      | succ n48 ih48 =>
                        intro e_v hi48 hn48 hpl hrr hll
                        refine z_iload_n X dX5_readsDuchy_133 rfl 3 rfl ?_
                        refine z_if_eqN (tgt := 162) X dX5_readsDuchy_134 (by decide) (by omega) (fun hq49 => ?_) (fun hq49 => ?_)
                        ·
                          exact absurd hq49 (by decide)
                        ·
                          refine z_aload_n X dX5_readsDuchy_137 rfl 0 rfl ?_
                          refine z_get (v := .int (nI e_v)) (N := 29) X i_RX5 (ci := 4) rfl 0 rfl 13 (by decide) f_102 rfl dX5_readsDuchy_138 ?_
                          refine z_if_eqN (tgt := 152) X dX5_readsDuchy_141 (by decide) (by omega) (fun hq50 => ?_) (fun hq50 => ?_)
                          ·
                            refine z_aload_n X dX5_readsDuchy_152 rfl 0 rfl ?_
                            refine z_iload_n X dX5_readsDuchy_153 rfl 1 rfl ?_
                            refine z_iload_n X dX5_readsDuchy_154 rfl 2 rfl ?_
                            refine z_callVM X (c_X5_readsEater l g b ft so D E tr C lk kd st sp nd rO rB rD rW sz sl sc sm (3 + tdy sc f_r n_n + 5 * e_v) (nI s_e) (tdy sc f_r n_n) e_v (tlk sc f_r y1 (tdy sc f_r n_n)) (tkd sc f_r (3 + tdy sc f_r n_n) y2 e_v) (tst sc f_r (3 + tdy sc f_r n_n) 2 y3 e_v) (tst sc f_r (3 + tdy sc f_r n_n) 3 y4 e_v) (tst sc f_r (3 + tdy sc f_r n_n) 4 y5 e_v) hn f_r n_n (by omega) (by omega) (by omega)) gX5_readsDuchy_X5_readsEater rfl ⟨rfl, rfl⟩ (by decide +kernel) ⟨Nat.le_of_ble_eq_true rfl, Nat.le_of_ble_eq_true rfl⟩ ZF.room (ci := 4) rfl 0 rfl rfl (As := [.int (nI f_r), .int (nI n_n)]) (n := 2) rfl rfl (st1 := [.int (bI ((eaF sc f_r n_n (3 + tdy sc f_r n_n + 5 * e_v) e_v).1))]) rfl (Nat.le_of_ble_eq_true rfl) dX5_readsDuchy_155 ?_
                            rcases pr_tf (eaF sc f_r n_n (3 + tdy sc f_r n_n + 5 * e_v) e_v) with ⟨q_q, hea⟩ | ⟨q_q, hea⟩
                            ·
                              refine z_top (y := nI 0) (by rw [hea]; exact bI_ff) ?_
                              refine z_ws (ws' := (wM g b ft so D E tr C lk kd st sp nd rO rB rD rW sz sl sc sm q_q (nI s_e) (tdy sc f_r n_n) e_v (tlk sc f_r y1 (tdy sc f_r n_n)) (tkd sc f_r (3 + tdy sc f_r n_n) y2 e_v) (tst sc f_r (3 + tdy sc f_r n_n) 2 y3 e_v) (tst sc f_r (3 + tdy sc f_r n_n) 3 y4 e_v) (tst sc f_r (3 + tdy sc f_r n_n) 4 y5 e_v) hn)) (by rw [hea]; rfl) ?_
                              refine z_istore_n (L' := [(3, .int (nI 0)), (0, .ref (b 0)), (1, .int (nI f_r)), (2, .int (nI n_n))]) X dX5_readsDuchy_158 rfl (by decide) rfl ?_
                              refine z_goto (tgt := 133) X dX5_readsDuchy_159 (by decide) ?_
                              refine z_iload_n X dX5_readsDuchy_133 rfl 0 rfl ?_
                              refine z_if_eqN (tgt := 162) X dX5_readsDuchy_134 (by decide) (by omega) (fun hq51 => ?_) (fun hq51 => ?_)
                              ·
                                obtain ⟨⟨hXA, hXB, hXC, hXD⟩, hXr⟩ := pX_f4 h0_y hz_e h2_y h3_y (by omega) (by omega) (eaF_le hpl hea).1 hll hea (hrr.trans (frun_nx hpl (by omega) (by omega) hea))
                                refine z_iload_n X dX5_readsDuchy_162 rfl 0 rfl ?_
                                have e52 : (pXA sc f_r n_n) = q_q := by exact hXA
                                have e53 : (pXB sc f_r n_n) = (nI s_e) := by exact hXB.trans hse_e
                                have e54 : (pXC sc f_r n_n) = (tdy sc f_r n_n) := by exact hXC
                                have e55 : (pXD sc f_r n_n) = e_v := by exact hXD
                                have e56 : (tlk sc f_r y1 (pXC sc f_r n_n)) = (tlk sc f_r y1 (tdy sc f_r n_n)) := by exact congrArg (tlk sc f_r y1) hXC
                                have e57 : (tkd sc f_r (3 + pXC sc f_r n_n) y2 (pXD sc f_r n_n)) = (tkd sc f_r (3 + tdy sc f_r n_n) y2 e_v) := by rw [hXC, hXD]
                                have e58 : (tst sc f_r (3 + pXC sc f_r n_n) 2 y3 (pXD sc f_r n_n)) = (tst sc f_r (3 + tdy sc f_r n_n) 2 y3 e_v) := by rw [hXC, hXD]
                                have e59 : (tst sc f_r (3 + pXC sc f_r n_n) 3 y4 (pXD sc f_r n_n)) = (tst sc f_r (3 + tdy sc f_r n_n) 3 y4 e_v) := by rw [hXC, hXD]
                                have e60 : (tst sc f_r (3 + pXC sc f_r n_n) 4 y5 (pXD sc f_r n_n)) = (tst sc f_r (3 + tdy sc f_r n_n) 4 y5 e_v) := by rw [hXC, hXD]
                                exact z_zret X ZF dX5_readsDuchy_163 (bI_nar _) (by exact bI_f hXr) (by first | rw [e60, e59, e58, e57, e56, e55, e54, e53, e52] | (simp only [e60, e59, e58, e57, e56, e55, e54, e53, e52]))
                              ·
                                exact absurd hq51 (by decide)
                            ·
                              obtain ⟨hqe, hqn⟩ := eaF_pos hea
                              have he4 := (eaF_t hea).1
                              subst hqe
                              refine z_top (y := nI 1) (by rw [hea]; exact bI_tt) ?_
                              refine z_ws (ws' := (wM g b ft so D E tr C lk kd st sp nd rO rB rD rW sz sl sc sm (3 + tdy sc f_r n_n + 5 * e_v + 5) (nI s_e) (tdy sc f_r n_n) (e_v + 1) (tlk sc f_r y1 (tdy sc f_r n_n)) (upd (tkd sc f_r (3 + tdy sc f_r n_n) y2 e_v) e_v (kbl (sc (f_r + (3 + tdy sc f_r n_n + 5 * e_v) + 1)))) (upd (tst sc f_r (3 + tdy sc f_r n_n) 2 y3 e_v) e_v (sc (f_r + (3 + tdy sc f_r n_n + 5 * e_v) + 2) - nI 48)) (upd (tst sc f_r (3 + tdy sc f_r n_n) 3 y4 e_v) e_v (sc (f_r + (3 + tdy sc f_r n_n + 5 * e_v) + 3) - nI 48)) (upd (tst sc f_r (3 + tdy sc f_r n_n) 4 y5 e_v) e_v (sc (f_r + (3 + tdy sc f_r n_n + 5 * e_v) + 4) - nI 48)) hn)) (by rw [hea]; rfl) ?_
                              refine z_istore_n (L' := [(3, .int (nI 1)), (0, .ref (b 0)), (1, .int (nI f_r)), (2, .int (nI n_n))]) X dX5_readsDuchy_158 rfl (by decide) rfl ?_
                              refine z_goto (tgt := 133) X dX5_readsDuchy_159 (by decide) ?_
                              refine z_ls (L' := [(0, .ref (b 0)), (1, .int (nI f_r)), (2, .int (nI n_n)), (3, .int (nI 1))]) [1, 2, 3, 0] rfl ?_
                              have e61 : (3 + tdy sc f_r n_n + 5 * e_v + 5) = (3 + tdy sc f_r n_n + 5 * (e_v + 1)) := by first | rfl | omega
                              have e62 : (e_v + 1) = (e_v + 1) := by first | rfl | omega
                              have e63 : (upd (tkd sc f_r (3 + tdy sc f_r n_n) y2 e_v) e_v (kbl (sc (f_r + (3 + tdy sc f_r n_n + 5 * e_v) + 1)))) = (tkd sc f_r (3 + tdy sc f_r n_n) y2 (e_v + 1)) := by first | rfl | omega
                              have e64 : (upd (tst sc f_r (3 + tdy sc f_r n_n) 2 y3 e_v) e_v (sc (f_r + (3 + tdy sc f_r n_n + 5 * e_v) + 2) - nI 48)) = (tst sc f_r (3 + tdy sc f_r n_n) 2 y3 (e_v + 1)) := by first | rfl | omega
                              have e65 : (upd (tst sc f_r (3 + tdy sc f_r n_n) 3 y4 e_v) e_v (sc (f_r + (3 + tdy sc f_r n_n + 5 * e_v) + 3) - nI 48)) = (tst sc f_r (3 + tdy sc f_r n_n) 3 y4 (e_v + 1)) := by first | rfl | omega
                              have e66 : (upd (tst sc f_r (3 + tdy sc f_r n_n) 4 y5 e_v) e_v (sc (f_r + (3 + tdy sc f_r n_n + 5 * e_v) + 4) - nI 48)) = (tst sc f_r (3 + tdy sc f_r n_n) 4 y5 (e_v + 1)) := by first | rfl | omega
                              refine z_ws (ws' := (wM g b ft so D E tr C lk kd st sp nd rO rB rD rW sz sl sc sm (3 + tdy sc f_r n_n + 5 * (e_v + 1)) (nI s_e) (tdy sc f_r n_n) (e_v + 1) (tlk sc f_r y1 (tdy sc f_r n_n)) (tkd sc f_r (3 + tdy sc f_r n_n) y2 (e_v + 1)) (tst sc f_r (3 + tdy sc f_r n_n) 2 y3 (e_v + 1)) (tst sc f_r (3 + tdy sc f_r n_n) 3 y4 (e_v + 1)) (tst sc f_r (3 + tdy sc f_r n_n) 4 y5 (e_v + 1)) hn)) (by rw [← e61, ← e62, ← e63, ← e64, ← e65, ← e66]) ?_
                              exact ih48 (e_v + 1) (by omega) (by omega) (by omega) (hrr.trans (frun_nxt (by omega) hea)) (hll.trans (eln_step (by omega) (by rw [hea])))
                          ·
                            refine z_aload_n X dX5_readsDuchy_144 rfl 0 rfl ?_
                            refine z_get (v := .int (nI (3 + tdy sc f_r n_n + 5 * e_v))) (N := 29) X i_RX5 (ci := 4) rfl 0 rfl 10 (by decide) f_88 rfl dX5_readsDuchy_145 ?_
                            refine z_iload_n X dX5_readsDuchy_148 rfl 2 rfl ?_
                            refine z_icmp_geN (tgt := 162) X dX5_readsDuchy_149 (by decide) (by omega) (by omega) (fun hq67 => ?_) (fun hq67 => ?_)
                            ·
                              have hpe : n_n = 3 + tdy sc f_r n_n + 5 * e_v := by omega
                              have hr9 := hrr
                              rw [if_neg (show ¬ e_v = 0 by omega)] at hr9
                              obtain ⟨⟨hXA, hXB, hXC, hXD⟩, hXr⟩ := pX_t h0_y hz_e h2_y (by omega) hpe hr9
                              refine z_iload_n X dX5_readsDuchy_162 rfl 3 rfl ?_
                              have e68 : (pXA sc f_r n_n) = (3 + tdy sc f_r n_n + 5 * e_v) := by exact hXA.trans hpe
                              have e69 : (pXB sc f_r n_n) = (nI s_e) := by exact hXB.trans hse_e
                              have e70 : (pXC sc f_r n_n) = (tdy sc f_r n_n) := by exact hXC
                              have e71 : (pXD sc f_r n_n) = e_v := by exact hXD
                              have e72 : (tlk sc f_r y1 (pXC sc f_r n_n)) = (tlk sc f_r y1 (tdy sc f_r n_n)) := by exact congrArg (tlk sc f_r y1) hXC
                              have e73 : (tkd sc f_r (3 + pXC sc f_r n_n) y2 (pXD sc f_r n_n)) = (tkd sc f_r (3 + tdy sc f_r n_n) y2 e_v) := by rw [hXC, hXD]
                              have e74 : (tst sc f_r (3 + pXC sc f_r n_n) 2 y3 (pXD sc f_r n_n)) = (tst sc f_r (3 + tdy sc f_r n_n) 2 y3 e_v) := by rw [hXC, hXD]
                              have e75 : (tst sc f_r (3 + pXC sc f_r n_n) 3 y4 (pXD sc f_r n_n)) = (tst sc f_r (3 + tdy sc f_r n_n) 3 y4 e_v) := by rw [hXC, hXD]
                              have e76 : (tst sc f_r (3 + pXC sc f_r n_n) 4 y5 (pXD sc f_r n_n)) = (tst sc f_r (3 + tdy sc f_r n_n) 4 y5 e_v) := by rw [hXC, hXD]
                              exact z_zret X ZF dX5_readsDuchy_163 (bI_nar _) (by exact bI_t hXr) (by first | rw [e76, e75, e74, e73, e72, e71, e70, e69, e68] | (simp only [e76, e75, e74, e73, e72, e71, e70, e69, e68]))
                            ·
                              refine z_aload_n X dX5_readsDuchy_152 rfl 0 rfl ?_
                              refine z_iload_n X dX5_readsDuchy_153 rfl 1 rfl ?_
                              refine z_iload_n X dX5_readsDuchy_154 rfl 2 rfl ?_
                              refine z_callVM X (c_X5_readsEater l g b ft so D E tr C lk kd st sp nd rO rB rD rW sz sl sc sm (3 + tdy sc f_r n_n + 5 * e_v) (nI s_e) (tdy sc f_r n_n) e_v (tlk sc f_r y1 (tdy sc f_r n_n)) (tkd sc f_r (3 + tdy sc f_r n_n) y2 e_v) (tst sc f_r (3 + tdy sc f_r n_n) 2 y3 e_v) (tst sc f_r (3 + tdy sc f_r n_n) 3 y4 e_v) (tst sc f_r (3 + tdy sc f_r n_n) 4 y5 e_v) hn f_r n_n (by omega) (by omega) (by omega)) gX5_readsDuchy_X5_readsEater rfl ⟨rfl, rfl⟩ (by decide +kernel) ⟨Nat.le_of_ble_eq_true rfl, Nat.le_of_ble_eq_true rfl⟩ ZF.room (ci := 4) rfl 0 rfl rfl (As := [.int (nI f_r), .int (nI n_n)]) (n := 2) rfl rfl (st1 := [.int (bI ((eaF sc f_r n_n (3 + tdy sc f_r n_n + 5 * e_v) e_v).1))]) rfl (Nat.le_of_ble_eq_true rfl) dX5_readsDuchy_155 ?_
                              rcases pr_tf (eaF sc f_r n_n (3 + tdy sc f_r n_n + 5 * e_v) e_v) with ⟨q_q, hea⟩ | ⟨q_q, hea⟩
                              ·
                                refine z_top (y := nI 0) (by rw [hea]; exact bI_ff) ?_
                                refine z_ws (ws' := (wM g b ft so D E tr C lk kd st sp nd rO rB rD rW sz sl sc sm q_q (nI s_e) (tdy sc f_r n_n) e_v (tlk sc f_r y1 (tdy sc f_r n_n)) (tkd sc f_r (3 + tdy sc f_r n_n) y2 e_v) (tst sc f_r (3 + tdy sc f_r n_n) 2 y3 e_v) (tst sc f_r (3 + tdy sc f_r n_n) 3 y4 e_v) (tst sc f_r (3 + tdy sc f_r n_n) 4 y5 e_v) hn)) (by rw [hea]; rfl) ?_
                                refine z_istore_n (L' := [(3, .int (nI 0)), (0, .ref (b 0)), (1, .int (nI f_r)), (2, .int (nI n_n))]) X dX5_readsDuchy_158 rfl (by decide) rfl ?_
                                refine z_goto (tgt := 133) X dX5_readsDuchy_159 (by decide) ?_
                                refine z_iload_n X dX5_readsDuchy_133 rfl 0 rfl ?_
                                refine z_if_eqN (tgt := 162) X dX5_readsDuchy_134 (by decide) (by omega) (fun hq77 => ?_) (fun hq77 => ?_)
                                ·
                                  obtain ⟨⟨hXA, hXB, hXC, hXD⟩, hXr⟩ := pX_f4 h0_y hz_e h2_y h3_y (by omega) (by omega) (eaF_le hpl hea).1 hll hea (hrr.trans (frun_nx hpl (by omega) (by omega) hea))
                                  refine z_iload_n X dX5_readsDuchy_162 rfl 0 rfl ?_
                                  have e78 : (pXA sc f_r n_n) = q_q := by exact hXA
                                  have e79 : (pXB sc f_r n_n) = (nI s_e) := by exact hXB.trans hse_e
                                  have e80 : (pXC sc f_r n_n) = (tdy sc f_r n_n) := by exact hXC
                                  have e81 : (pXD sc f_r n_n) = e_v := by exact hXD
                                  have e82 : (tlk sc f_r y1 (pXC sc f_r n_n)) = (tlk sc f_r y1 (tdy sc f_r n_n)) := by exact congrArg (tlk sc f_r y1) hXC
                                  have e83 : (tkd sc f_r (3 + pXC sc f_r n_n) y2 (pXD sc f_r n_n)) = (tkd sc f_r (3 + tdy sc f_r n_n) y2 e_v) := by rw [hXC, hXD]
                                  have e84 : (tst sc f_r (3 + pXC sc f_r n_n) 2 y3 (pXD sc f_r n_n)) = (tst sc f_r (3 + tdy sc f_r n_n) 2 y3 e_v) := by rw [hXC, hXD]
                                  have e85 : (tst sc f_r (3 + pXC sc f_r n_n) 3 y4 (pXD sc f_r n_n)) = (tst sc f_r (3 + tdy sc f_r n_n) 3 y4 e_v) := by rw [hXC, hXD]
                                  have e86 : (tst sc f_r (3 + pXC sc f_r n_n) 4 y5 (pXD sc f_r n_n)) = (tst sc f_r (3 + tdy sc f_r n_n) 4 y5 e_v) := by rw [hXC, hXD]
                                  exact z_zret X ZF dX5_readsDuchy_163 (bI_nar _) (by exact bI_f hXr) (by first | rw [e86, e85, e84, e83, e82, e81, e80, e79, e78] | (simp only [e86, e85, e84, e83, e82, e81, e80, e79, e78]))
                                ·
                                  exact absurd hq77 (by decide)
                              ·
                                obtain ⟨hqe, hqn⟩ := eaF_pos hea
                                have he4 := (eaF_t hea).1
                                subst hqe
                                refine z_top (y := nI 1) (by rw [hea]; exact bI_tt) ?_
                                refine z_ws (ws' := (wM g b ft so D E tr C lk kd st sp nd rO rB rD rW sz sl sc sm (3 + tdy sc f_r n_n + 5 * e_v + 5) (nI s_e) (tdy sc f_r n_n) (e_v + 1) (tlk sc f_r y1 (tdy sc f_r n_n)) (upd (tkd sc f_r (3 + tdy sc f_r n_n) y2 e_v) e_v (kbl (sc (f_r + (3 + tdy sc f_r n_n + 5 * e_v) + 1)))) (upd (tst sc f_r (3 + tdy sc f_r n_n) 2 y3 e_v) e_v (sc (f_r + (3 + tdy sc f_r n_n + 5 * e_v) + 2) - nI 48)) (upd (tst sc f_r (3 + tdy sc f_r n_n) 3 y4 e_v) e_v (sc (f_r + (3 + tdy sc f_r n_n + 5 * e_v) + 3) - nI 48)) (upd (tst sc f_r (3 + tdy sc f_r n_n) 4 y5 e_v) e_v (sc (f_r + (3 + tdy sc f_r n_n + 5 * e_v) + 4) - nI 48)) hn)) (by rw [hea]; rfl) ?_
                                refine z_istore_n (L' := [(3, .int (nI 1)), (0, .ref (b 0)), (1, .int (nI f_r)), (2, .int (nI n_n))]) X dX5_readsDuchy_158 rfl (by decide) rfl ?_
                                refine z_goto (tgt := 133) X dX5_readsDuchy_159 (by decide) ?_
                                refine z_ls (L' := [(0, .ref (b 0)), (1, .int (nI f_r)), (2, .int (nI n_n)), (3, .int (nI 1))]) [1, 2, 3, 0] rfl ?_
                                have e87 : (3 + tdy sc f_r n_n + 5 * e_v + 5) = (3 + tdy sc f_r n_n + 5 * (e_v + 1)) := by first | rfl | omega
                                have e88 : (e_v + 1) = (e_v + 1) := by first | rfl | omega
                                have e89 : (upd (tkd sc f_r (3 + tdy sc f_r n_n) y2 e_v) e_v (kbl (sc (f_r + (3 + tdy sc f_r n_n + 5 * e_v) + 1)))) = (tkd sc f_r (3 + tdy sc f_r n_n) y2 (e_v + 1)) := by first | rfl | omega
                                have e90 : (upd (tst sc f_r (3 + tdy sc f_r n_n) 2 y3 e_v) e_v (sc (f_r + (3 + tdy sc f_r n_n + 5 * e_v) + 2) - nI 48)) = (tst sc f_r (3 + tdy sc f_r n_n) 2 y3 (e_v + 1)) := by first | rfl | omega
                                have e91 : (upd (tst sc f_r (3 + tdy sc f_r n_n) 3 y4 e_v) e_v (sc (f_r + (3 + tdy sc f_r n_n + 5 * e_v) + 3) - nI 48)) = (tst sc f_r (3 + tdy sc f_r n_n) 3 y4 (e_v + 1)) := by first | rfl | omega
                                have e92 : (upd (tst sc f_r (3 + tdy sc f_r n_n) 4 y5 e_v) e_v (sc (f_r + (3 + tdy sc f_r n_n + 5 * e_v) + 4) - nI 48)) = (tst sc f_r (3 + tdy sc f_r n_n) 4 y5 (e_v + 1)) := by first | rfl | omega
                                refine z_ws (ws' := (wM g b ft so D E tr C lk kd st sp nd rO rB rD rW sz sl sc sm (3 + tdy sc f_r n_n + 5 * (e_v + 1)) (nI s_e) (tdy sc f_r n_n) (e_v + 1) (tlk sc f_r y1 (tdy sc f_r n_n)) (tkd sc f_r (3 + tdy sc f_r n_n) y2 (e_v + 1)) (tst sc f_r (3 + tdy sc f_r n_n) 2 y3 (e_v + 1)) (tst sc f_r (3 + tdy sc f_r n_n) 3 y4 (e_v + 1)) (tst sc f_r (3 + tdy sc f_r n_n) 4 y5 (e_v + 1)) hn)) (by rw [← e87, ← e88, ← e89, ← e90, ← e91, ← e92]) ?_
                                exact ih48 (e_v + 1) (by omega) (by omega) (by omega) (hrr.trans (frun_nxt (by omega) hea)) (hll.trans (eln_step (by omega) (by rw [hea])))
                    refine z_ls (L' := [(0, .ref (b 0)), (1, .int (nI f_r)), (2, .int (nI n_n)), (3, .int (nI 1))]) [1, 2, 3, 0] rfl ?_
                    have e93 : (3 + tdy sc f_r n_n) = (3 + tdy sc f_r n_n + 5 * 0) := by first | rfl | omega
                    have e94 : y2 = (tkd sc f_r (3 + tdy sc f_r n_n) y2 0) := by first | rfl | omega
                    have e95 : y3 = (tst sc f_r (3 + tdy sc f_r n_n) 2 y3 0) := by first | rfl | omega
                    have e96 : y4 = (tst sc f_r (3 + tdy sc f_r n_n) 3 y4 0) := by first | rfl | omega
                    have e97 : y5 = (tst sc f_r (3 + tdy sc f_r n_n) 4 y5 0) := by first | rfl | omega
                    refine z_ws (ws' := (wM g b ft so D E tr C lk kd st sp nd rO rB rD rW sz sl sc sm (3 + tdy sc f_r n_n + 5 * 0) (nI s_e) (tdy sc f_r n_n) 0 (tlk sc f_r y1 (tdy sc f_r n_n)) (tkd sc f_r (3 + tdy sc f_r n_n) y2 0) (tst sc f_r (3 + tdy sc f_r n_n) 2 y3 0) (tst sc f_r (3 + tdy sc f_r n_n) 3 y4 0) (tst sc f_r (3 + tdy sc f_r n_n) 4 y5 0) hn)) (by rw [← e93, ← e94, ← e95, ← e96, ← e97]) ?_
                    exact loopv48 (4 + 1) 0 (by omega) (by omega) (by have := tdy_len (f := sc) (b := f_r) (n := n_n) (by omega); omega) (frun_days h0_y hz_e h2_y h3_y) rfl
        ·
          have hzn_e : ¬ (zdg (cA sc f_r n_n 1) 0 9 = true) := by rw [hz_e]; decide
          refine z_top (y := (-9)) (fgI_f hz_e) ?_
          refine z_ws (ws' := (wM g b ft so D E tr C lk kd st sp nd rO rB rD rW sz sl sc sm 1 xb 0 0 y1 y2 y3 y4 y5 hn)) (by rw [if_neg hzn_e]) ?_
          refine z_goto (tgt := 69) X dX5_readsDuchy_64 (by decide) ?_
          refine z_put (ws' := (wM g b ft so D E tr C lk kd st sp nd rO rB rD rW sz sl sc sm 1 (-9) 0 0 y1 y2 y3 y4 y5 hn)) (N := 29) X i_RX5 (ci := 4) rfl tyX5 tyX5_ok nmX5 0 rfl 11 (by decide) f_105 rfl (ty := .int) (by decide +kernel) rfl rfl (Nat.le_of_ble_eq_true rfl) dX5_readsDuchy_69 rfl ?_
          refine z_aload_n X dX5_readsDuchy_72 rfl 1 rfl ?_
          refine z_get (v := .int (-9)) (N := 29) X i_RX5 (ci := 4) rfl 0 rfl 11 (by decide) f_105 rfl dX5_readsDuchy_73 ?_
          refine z_if_lt (tgt := 94) X dX5_readsDuchy_76 (by decide) (fun hq98 => ?_) (fun hq98 => ?_)
          ·
            refine z_iconst (v := nI 0) X dX5_readsDuchy_94 (by decide) ?_
            refine z_istore_n (L' := [(3, .int (nI 0)), (0, .ref (b 0)), (1, .int (nI f_r)), (2, .int (nI n_n))]) X dX5_readsDuchy_95 rfl (by decide) rfl ?_
            refine z_aload_n X dX5_readsDuchy_96 rfl 1 rfl ?_
            refine z_dup X dX5_readsDuchy_97 rfl ?_
            refine z_get (v := .int (nI 1)) (N := 29) X i_RX5 (ci := 4) rfl 0 rfl 10 (by decide) f_88 rfl dX5_readsDuchy_98 ?_
            refine z_iload_n X dX5_readsDuchy_101 rfl 0 rfl ?_
            refine z_if_eqN (tgt := 109) X dX5_readsDuchy_102 (by decide) (by omega) (fun hq99 => ?_) (fun hq99 => ?_)
            ·
              refine z_iconst (v := nI 0) X dX5_readsDuchy_109 (by decide) ?_
              refine z_iadd' (v := nI 1) X dX5_readsDuchy_110 (nI_add _ _) ?_
              refine z_put (ws' := (wM g b ft so D E tr C lk kd st sp nd rO rB rD rW sz sl sc sm 1 (-9) 0 0 y1 y2 y3 y4 y5 hn)) (N := 29) X i_RX5 (ci := 4) rfl tyX5 tyX5_ok nmX5 0 rfl 10 (by decide) f_88 rfl (ty := .int) (by decide +kernel) rfl rfl (Nat.le_of_ble_eq_true rfl) dX5_readsDuchy_111 rfl ?_
              refine z_iload_n X dX5_readsDuchy_114 rfl 0 rfl ?_
              refine z_if_eqN (tgt := 131) X dX5_readsDuchy_115 (by decide) (by omega) (fun hq100 => ?_) (fun hq100 => ?_)
              ·
                refine z_iconst (v := nI 0) X dX5_readsDuchy_131 (by decide) ?_
                refine z_istore_n (L' := [(3, .int (nI 0)), (0, .ref (b 0)), (1, .int (nI f_r)), (2, .int (nI n_n))]) X dX5_readsDuchy_132 rfl (by decide) rfl ?_
                refine z_iload_n X dX5_readsDuchy_133 rfl 0 rfl ?_
                refine z_if_eqN (tgt := 162) X dX5_readsDuchy_134 (by decide) (by omega) (fun hq101 => ?_) (fun hq101 => ?_)
                ·
                  obtain ⟨⟨hXA, hXB, hXC, hXD⟩, hXr⟩ := pX_f1 h0_y hz_e
                  refine z_iload_n X dX5_readsDuchy_162 rfl 0 rfl ?_
                  have e102 : (pXA sc f_r n_n) = 1 := by exact hXA
                  have e103 : (pXB sc f_r n_n) = (-9) := by exact hXB
                  have e104 : (pXC sc f_r n_n) = 0 := by exact hXC
                  have e105 : (pXD sc f_r n_n) = 0 := by exact hXD
                  have e106 : (tlk sc f_r y1 (pXC sc f_r n_n)) = y1 := by exact congrArg (tlk sc f_r y1) hXC
                  have e107 : (tkd sc f_r (3 + pXC sc f_r n_n) y2 (pXD sc f_r n_n)) = y2 := by exact congrArg (tkd sc f_r _ y2) hXD
                  have e108 : (tst sc f_r (3 + pXC sc f_r n_n) 2 y3 (pXD sc f_r n_n)) = y3 := by exact congrArg (tst sc f_r _ _ y3) hXD
                  have e109 : (tst sc f_r (3 + pXC sc f_r n_n) 3 y4 (pXD sc f_r n_n)) = y4 := by exact congrArg (tst sc f_r _ _ y4) hXD
                  have e110 : (tst sc f_r (3 + pXC sc f_r n_n) 4 y5 (pXD sc f_r n_n)) = y5 := by exact congrArg (tst sc f_r _ _ y5) hXD
                  exact z_zret X ZF dX5_readsDuchy_163 (bI_nar _) (by exact bI_f hXr) (by first | rw [e110, e109, e108, e107, e106, e105, e104, e103, e102] | (simp only [e110, e109, e108, e107, e106, e105, e104, e103, e102]))
                ·
                  exact absurd hq101 (by decide)
              ·
                exact absurd hq100 (by decide)
            ·
              exact absurd hq99 (by decide)
          ·
            exact absurd hq98 (by decide)
abbrev rX5_isBeyond : Room := { frames := 0, cells := 0, slots := 0, locals := 0 }
set_option maxHeartbeats 4000000 in
set_option maxRecDepth 100000 in
theorem c_X5_isBeyond (l : Launch) (g : zg) (i : Int32) (n : Int32) (al : Int32) : zM l g yX5_isBeyond wsX5_isBeyond rX5_isBeyond [.int i, .long ((n).toInt64), .int al] [] (some (.int (bI (ibB i ((n).toInt64) al)))) [] := by
  refine z_met (own := RX5) (cc := cX5_isBeyond) (maxL := 4) (ret := some .boolean) (by decide +kernel) rfl rfl (Nat.le_of_ble_eq_true rfl) ?_
  intro M X ZF
  refine z_Le (L' := [(0, .int i), (1, .long ((n).toInt64)), (3, .int al)]) rfl ?_
  refine z_iload_n X dX5_isBeyond_0 rfl 0 rfl ?_
  refine z_if_lt (tgt := 20) X dX5_isBeyond_1 (by decide) (fun hq1 => ?_) (fun hq1 => ?_)
  ·
    refine z_iconst (v := nI 1) X dX5_isBeyond_20 (by decide) ?_
    refine z_goto (tgt := 25) X dX5_isBeyond_21 (by decide) ?_
    exact z_zret X ZF dX5_isBeyond_25 (bI_nar _) (by simp [ibB, bI, nI_one, nI_0, hq1]) rfl
  ·
    refine z_lload_n X dX5_isBeyond_4 rfl 1 rfl ?_
    refine z_lconst (v := 0) X dX5_isBeyond_5 (by decide) ?_
    refine z_lcmp X dX5_isBeyond_6 ?_
    refine z_if_lt (tgt := 20) X dX5_isBeyond_7 (by decide) (fun hq2 => ?_) (fun hq2 => ?_)
    ·
      refine z_iconst (v := nI 1) X dX5_isBeyond_20 (by decide) ?_
      refine z_goto (tgt := 25) X dX5_isBeyond_21 (by decide) ?_
      exact z_zret X ZF dX5_isBeyond_25 (bI_nar _) (by simp [ibB, bI, nI_one, nI_0, hq1, hq2]) rfl
    ·
      refine z_iload_n X dX5_isBeyond_10 rfl 0 rfl ?_
      refine z_i2l (v := (i).toInt64) X dX5_isBeyond_11 rfl ?_
      refine z_lload_n X dX5_isBeyond_12 rfl 1 rfl ?_
      refine z_ladd X dX5_isBeyond_13 ?_
      refine z_iload_n X dX5_isBeyond_14 rfl 2 rfl ?_
      refine z_i2l (v := (al).toInt64) X dX5_isBeyond_15 rfl ?_
      refine z_lcmp X dX5_isBeyond_16 ?_
      refine z_if_le (tgt := 24) X dX5_isBeyond_17 (by decide) (fun hq3 => ?_) (fun hq3 => ?_)
      ·
        refine z_iconst (v := nI 0) X dX5_isBeyond_24 (by decide) ?_
        exact z_zret X ZF dX5_isBeyond_25 (bI_nar _) (by simp [ibB, bI, nI_one, nI_0, hq1, hq2, hq3]) rfl
      ·
        refine z_iconst (v := nI 1) X dX5_isBeyond_20 (by decide) ?_
        refine z_goto (tgt := 25) X dX5_isBeyond_21 (by decide) ?_
        exact z_zret X ZF dX5_isBeyond_25 (bI_nar _) (by simp [ibB, bI, nI_one, nI_0, hq1, hq2, hq3]) rfl
abbrev rX5_cellsBarred : Room := { frames := 1, cells := 0, slots := 0, locals := 23 }
set_option maxHeartbeats 4000000 in
set_option maxRecDepth 100000 in
theorem c_X5_cellsBarred (l : Launch) (g : zg) (b : Nat → Nat) (ft : Int32) (so : Int32) (D : Nat) (E : Nat) (tr : Int32) (C : Nat) (lk : Nat → Int32) (kd : Nat → Int32) (st : Nat → Int32) (sp : Nat → Int32) (nd : Nat → Int32) (rO : Nat → Int32) (rB : Nat → Int32) (rD : Nat → Int32) (rW : Nat → Int32) (sz : Nat → Int32) (sl : Nat → Int32) (sc : Nat → Int32) (sm : Int32) (xa : Nat) (xb : Int32) (xc : Nat) (xd : Nat) (y1 : Nat → Int32) (y2 : Nat → Int32) (y3 : Nat → Int32) (y4 : Nat → Int32) (y5 : Nat → Int32) (hn : Nat → Int32) (k : Nat) (lane : Int32) (i : Int32) (n : Int32) (hk : k < 4) (hle : ∀ k_, k_ < 4 → vle (sz k_)) : zM l g yX5_cellsBarred wsX5_cellsBarred rX5_cellsBarred [.ref (b 0), .int (nI k), .int lane, .int i, .long ((n).toInt64)] (wM g b ft so D E tr C lk kd st sp nd rO rB rD rW sz sl sc sm xa xb xc xd y1 y2 y3 y4 y5 hn) (some (.int (cbI (foc (sl k) (sz k) lane i n)))) (wM g b (if (foc (sl k) (sz k) lane i n) = 0 then ft else (foc (sl k) (sz k) lane i n)) so D E tr C lk kd st sp nd rO rB rD rW sz sl sc sm xa xb xc xd y1 y2 y3 y4 y5 hn) := by
  refine z_met (own := RX5) (cc := cX5_cellsBarred) (maxL := 6) (ret := some .int) (by decide +kernel) rfl rfl (Nat.le_of_ble_eq_true rfl) ?_
  intro M X ZF
  refine z_Le (L' := [(0, .ref (b 0)), (1, .int (nI k)), (2, .int lane), (3, .int i), (4, .long ((n).toInt64))]) rfl ?_
  have i_RX5 : ∀ w ∈ wsX50, w ∈ wsX5_cellsBarred := by decide +kernel
  have f_57 : Cond.fieldLink RX5 57 (TX5 24).1 (TX5 24).2.1 (TX5 24).2.2.1 ∈ wsX5_cellsBarred := by decide +kernel
  have f_60 : Cond.fieldLink RX5 60 (TX5 25).1 (TX5 25).2.1 (TX5 25).2.2.1 ∈ wsX5_cellsBarred := by decide +kernel
  refine z_aload_n X dX5_cellsBarred_0 rfl 0 rfl ?_
  refine z_get (v := .ref (b 15)) (N := 29) X i_RX5 (ci := 4) rfl 0 rfl 24 (by decide) f_57 rfl dX5_cellsBarred_1 ?_
  refine z_iload_n X dX5_cellsBarred_4 rfl 1 rfl ?_
  refine z_ialdN X 15 rfl (by omega) (by omega) dX5_cellsBarred_5 ?_
  refine z_if_lt (tgt := 25) X dX5_cellsBarred_6 (by decide) (fun hq1 => ?_) (fun hq1 => ?_)
  ·
    have hfz := vle_neg (hle k hk) hq1
    refine z_aload_n X dX5_cellsBarred_25 rfl 0 rfl ?_
    refine z_get (v := .ref (b 15)) (N := 29) X i_RX5 (ci := 4) rfl 0 rfl 24 (by decide) f_57 rfl dX5_cellsBarred_26 ?_
    refine z_iload_n X dX5_cellsBarred_29 rfl 1 rfl ?_
    refine z_ialdN X 15 rfl (by omega) (by omega) dX5_cellsBarred_30 ?_
    refine z_if_ge (tgt := 40) X dX5_cellsBarred_31 (by decide) (fun hq2 => ?_) (fun hq2 => ?_)
    ·
      exact absurd hfz (vle_ge (hle k hk) hq2).1
    ·
      have hfo : (foc (sl k) (sz k) lane i n) = nI 1 := by rw [hfz]; exact foc_nul
      refine z_aload_n X dX5_cellsBarred_34 rfl 0 rfl ?_
      refine z_iconst (v := nI 1) X dX5_cellsBarred_35 (by decide) ?_
      refine z_callVM X (c_X5_failed l g b ft so D E tr C lk kd st sp nd rO rB rD rW sz sl sc sm xa xb xc xd y1 y2 y3 y4 y5 hn (nI 1)) gX5_cellsBarred_X5_failed rfl ⟨rfl, rfl⟩ (by decide +kernel) ⟨Nat.le_of_ble_eq_true rfl, Nat.le_of_ble_eq_true rfl⟩ ZF.room (ci := 4) rfl 0 rfl rfl (As := [.int (nI 1)]) (n := 1) rfl rfl (st1 := [.int ((-10) - (nI 1))]) rfl (Nat.le_of_ble_eq_true rfl) dX5_cellsBarred_36 ?_
      have e3 : (if (foc (sl k) (sz k) lane i n) = 0 then ft else (foc (sl k) (sz k) lane i n)) = (nI 1) := by exact cf_e hfo (by decide +kernel)
      exact z_iret X ZF dX5_cellsBarred_39 (by exact cb_e hfo (by decide +kernel)) (by rw [e3])
  ·
    obtain ⟨hn1, m_k, hm_k, hmz_k⟩ := vle_pos (hle k hk) hq1
    refine z_aload_n X dX5_cellsBarred_9 rfl 0 rfl ?_
    refine z_get (v := .ref (b 16)) (N := 29) X i_RX5 (ci := 4) rfl 0 rfl 25 (by decide) f_60 rfl dX5_cellsBarred_10 ?_
    refine z_iload_n X dX5_cellsBarred_13 rfl 1 rfl ?_
    refine z_ialdN X 16 rfl (by omega) (by omega) dX5_cellsBarred_14 ?_
    refine z_iload_n X dX5_cellsBarred_15 rfl 2 rfl ?_
    refine z_icmp_eq (tgt := 25) X dX5_cellsBarred_16 (by decide) (fun hq4 => ?_) (fun hq4 => ?_)
    ·
      have hsl := hq4
      refine z_aload_n X dX5_cellsBarred_25 rfl 0 rfl ?_
      refine z_get (v := .ref (b 15)) (N := 29) X i_RX5 (ci := 4) rfl 0 rfl 24 (by decide) f_57 rfl dX5_cellsBarred_26 ?_
      refine z_iload_n X dX5_cellsBarred_29 rfl 1 rfl ?_
      refine z_ialdN X 15 rfl (by omega) (by omega) dX5_cellsBarred_30 ?_
      refine z_if_ge (tgt := 40) X dX5_cellsBarred_31 (by decide) (fun hq5 => ?_) (fun hq5 => ?_)
      ·
        refine z_lload X dX5_cellsBarred_40 4 rfl ?_
        refine z_lconst (v := 0) X dX5_cellsBarred_42 (by decide) ?_
        refine z_lcmp X dX5_cellsBarred_43 ?_
        refine z_if_ge (tgt := 53) X dX5_cellsBarred_44 (by decide) (fun hq6 => ?_) (fun hq6 => ?_)
        ·
          have hn0 := lcz_ge.mp hq6
          refine z_iload_n X dX5_cellsBarred_53 rfl 3 rfl ?_
          refine z_lload X dX5_cellsBarred_54 4 rfl ?_
          refine z_aload_n X dX5_cellsBarred_56 rfl 0 rfl ?_
          refine z_get (v := .ref (b 15)) (N := 29) X i_RX5 (ci := 4) rfl 0 rfl 24 (by decide) f_57 rfl dX5_cellsBarred_57 ?_
          refine z_iload_n X dX5_cellsBarred_60 rfl 1 rfl ?_
          refine z_ialdN X 15 rfl (by omega) (by omega) dX5_cellsBarred_61 ?_
          refine z_callS0 X (c_X5_isBeyond l g i n (sz k)) gX5_cellsBarred_X5_isBeyond rfl ⟨rfl, rfl⟩ (by decide +kernel) ⟨Nat.le_of_ble_eq_true rfl, Nat.le_of_ble_eq_true rfl⟩ ZF.room (As := [.int i, .long ((n).toInt64), .int (sz k)]) (n := 3) rfl rfl (st1 := [.int (bI (ibB i ((n).toInt64) (sz k)))]) rfl (Nat.le_of_ble_eq_true rfl) dX5_cellsBarred_62 ?_
          refine z_top (y := bI (!hcl (sz k) i n)) (by first | exact bI_eq (ibB_hcl hm_k hmz_k) | exact bI_eq (ibB_hcl hm_o hmz_o)) ?_
          refine z_if_eqB (tgt := 76) X dX5_cellsBarred_65 (by decide) (fun hq7 => ?_) (fun hq7 => ?_)
          ·
            have hq8 : (hcl (sz k) i n) = true := by simpa using hq7
            have hfo : (foc (sl k) (sz k) lane i n) = nI 0 := foc_non hn1 hsl hn0 hq8
            refine z_iconst (v := nI 0) X dX5_cellsBarred_76 (by decide) ?_
            have e9 : (if (foc (sl k) (sz k) lane i n) = 0 then ft else (foc (sl k) (sz k) lane i n)) = ft := by exact cf_z hfo
            exact z_iret X ZF dX5_cellsBarred_77 (by exact cb_z hfo) (by rw [e9])
          ·
            have hq10 : (hcl (sz k) i n) = false := by simpa using hq7
            have hfo : (foc (sl k) (sz k) lane i n) = nI 3 := foc_ind hn1 hsl hn0 hq10
            refine z_aload_n X dX5_cellsBarred_68 rfl 0 rfl ?_
            refine z_iconst (v := nI 3) X dX5_cellsBarred_69 (by decide) ?_
            refine z_callVM X (c_X5_failed l g b ft so D E tr C lk kd st sp nd rO rB rD rW sz sl sc sm xa xb xc xd y1 y2 y3 y4 y5 hn (nI 3)) gX5_cellsBarred_X5_failed rfl ⟨rfl, rfl⟩ (by decide +kernel) ⟨Nat.le_of_ble_eq_true rfl, Nat.le_of_ble_eq_true rfl⟩ ZF.room (ci := 4) rfl 0 rfl rfl (As := [.int (nI 3)]) (n := 1) rfl rfl (st1 := [.int ((-10) - (nI 3))]) rfl (Nat.le_of_ble_eq_true rfl) dX5_cellsBarred_70 ?_
            refine z_goto (tgt := 77) X dX5_cellsBarred_73 (by decide) ?_
            have e11 : (if (foc (sl k) (sz k) lane i n) = 0 then ft else (foc (sl k) (sz k) lane i n)) = (nI 3) := by exact cf_e hfo (by decide +kernel)
            exact z_iret X ZF dX5_cellsBarred_77 (by exact cb_e hfo (by decide +kernel)) (by rw [e11])
        ·
          have hn0 : ¬ 0 ≤ n := fun z => hq6 (lcz_ge.mpr z)
          have hfo : (foc (sl k) (sz k) lane i n) = nI 4 := foc_siz hn1 hsl hn0
          refine z_aload_n X dX5_cellsBarred_47 rfl 0 rfl ?_
          refine z_iconst (v := nI 4) X dX5_cellsBarred_48 (by decide) ?_
          refine z_callVM X (c_X5_failed l g b ft so D E tr C lk kd st sp nd rO rB rD rW sz sl sc sm xa xb xc xd y1 y2 y3 y4 y5 hn (nI 4)) gX5_cellsBarred_X5_failed rfl ⟨rfl, rfl⟩ (by decide +kernel) ⟨Nat.le_of_ble_eq_true rfl, Nat.le_of_ble_eq_true rfl⟩ ZF.room (ci := 4) rfl 0 rfl rfl (As := [.int (nI 4)]) (n := 1) rfl rfl (st1 := [.int ((-10) - (nI 4))]) rfl (Nat.le_of_ble_eq_true rfl) dX5_cellsBarred_49 ?_
          have e12 : (if (foc (sl k) (sz k) lane i n) = 0 then ft else (foc (sl k) (sz k) lane i n)) = (nI 4) := by exact cf_e hfo (by decide +kernel)
          exact z_iret X ZF dX5_cellsBarred_52 (by exact cb_e hfo (by decide +kernel)) (by rw [e12])
      ·
        exact absurd (vle_lt (hle k hk) hq5) hn1
    ·
      have hfo : (foc (sl k) (sz k) lane i n) = nI 2 := foc_cst hn1 hq4
      refine z_aload_n X dX5_cellsBarred_19 rfl 0 rfl ?_
      refine z_iconst (v := nI 2) X dX5_cellsBarred_20 (by decide) ?_
      refine z_callVM X (c_X5_failed l g b ft so D E tr C lk kd st sp nd rO rB rD rW sz sl sc sm xa xb xc xd y1 y2 y3 y4 y5 hn (nI 2)) gX5_cellsBarred_X5_failed rfl ⟨rfl, rfl⟩ (by decide +kernel) ⟨Nat.le_of_ble_eq_true rfl, Nat.le_of_ble_eq_true rfl⟩ ZF.room (ci := 4) rfl 0 rfl rfl (As := [.int (nI 2)]) (n := 1) rfl rfl (st1 := [.int ((-10) - (nI 2))]) rfl (Nat.le_of_ble_eq_true rfl) dX5_cellsBarred_21 ?_
      have e13 : (if (foc (sl k) (sz k) lane i n) = 0 then ft else (foc (sl k) (sz k) lane i n)) = (nI 2) := by exact cf_e hfo (by decide +kernel)
      exact z_iret X ZF dX5_cellsBarred_24 (by exact cb_e hfo (by decide +kernel)) (by rw [e13])
abbrev rX5_noCell : Room := { frames := 1, cells := 0, slots := 0, locals := 25 }
set_option maxHeartbeats 4000000 in
set_option maxRecDepth 100000 in
theorem c_X5_noCell (l : Launch) (g : zg) (b : Nat → Nat) (ft : Int32) (so : Int32) (D : Nat) (E : Nat) (tr : Int32) (C : Nat) (lk : Nat → Int32) (kd : Nat → Int32) (st : Nat → Int32) (sp : Nat → Int32) (nd : Nat → Int32) (rO : Nat → Int32) (rB : Nat → Int32) (rD : Nat → Int32) (rW : Nat → Int32) (sz : Nat → Int32) (sl : Nat → Int32) (sc : Nat → Int32) (sm : Int32) (xa : Nat) (xb : Int32) (xc : Nat) (xd : Nat) (y1 : Nat → Int32) (y2 : Nat → Int32) (y3 : Nat → Int32) (y4 : Nat → Int32) (y5 : Nat → Int32) (hn : Nat → Int32) (k : Nat) (i : Int32) (hk : k < 4) (hle : ∀ k_, k_ < 4 → vle (sz k_)) : zM l g yX5_noCell wsX5_noCell rX5_noCell [.ref (b 0), .int (nI k), .int i] (wM g b ft so D E tr C lk kd st sp nd rO rB rD rW sz sl sc sm xa xb xc xd y1 y2 y3 y4 y5 hn) (some (.int (foc (sl k) (sz k) (sl k) i (nI 1)))) (wM g b ft so D E tr C lk kd st sp nd rO rB rD rW sz sl sc sm xa xb xc xd y1 y2 y3 y4 y5 hn) := by
  refine z_met (own := RX5) (cc := cX5_noCell) (maxL := 3) (ret := some .int) (by decide +kernel) rfl rfl (Nat.le_of_ble_eq_true rfl) ?_
  intro M X ZF
  refine z_Le (L' := [(0, .ref (b 0)), (1, .int (nI k)), (2, .int i)]) rfl ?_
  have i_RX5 : ∀ w ∈ wsX50, w ∈ wsX5_noCell := by decide +kernel
  have f_57 : Cond.fieldLink RX5 57 (TX5 24).1 (TX5 24).2.1 (TX5 24).2.2.1 ∈ wsX5_noCell := by decide +kernel
  refine z_aload_n X dX5_noCell_0 rfl 0 rfl ?_
  refine z_get (v := .ref (b 15)) (N := 29) X i_RX5 (ci := 4) rfl 0 rfl 24 (by decide) f_57 rfl dX5_noCell_1 ?_
  refine z_iload_n X dX5_noCell_4 rfl 1 rfl ?_
  refine z_ialdN X 15 rfl (by omega) (by omega) dX5_noCell_5 ?_
  refine z_if_ge (tgt := 13) X dX5_noCell_6 (by decide) (fun hq1 => ?_) (fun hq1 => ?_)
  ·
    obtain ⟨hn1, m_k, hm_k, hmz_k⟩ := vle_ge (hle k hk) hq1
    refine z_iload_n X dX5_noCell_13 rfl 2 rfl ?_
    refine z_i2l (v := (i).toInt64) X dX5_noCell_14 rfl ?_
    refine z_lconst (v := 0) X dX5_noCell_15 (by decide) ?_
    refine z_aload_n X dX5_noCell_16 rfl 0 rfl ?_
    refine z_get (v := .ref (b 15)) (N := 29) X i_RX5 (ci := 4) rfl 0 rfl 24 (by decide) f_57 rfl dX5_noCell_17 ?_
    refine z_iload_n X dX5_noCell_20 rfl 1 rfl ?_
    refine z_ialdN X 15 rfl (by omega) (by omega) dX5_noCell_21 ?_
    refine z_top (y := nI m_k) hmz_k ?_
    refine z_i2l (v := (nI m_k).toInt64) X dX5_noCell_22 rfl ?_
    refine z_lconst (v := 1) X dX5_noCell_23 (by decide) ?_
    refine z_lsub X dX5_noCell_24 ?_
    refine z_callS0 X (c_X5_in l g ((i).toInt64) 0 (((nI m_k).toInt64) - 1)) gX5_noCell_X5_in rfl ⟨rfl, rfl⟩ (by decide +kernel) ⟨Nat.le_of_ble_eq_true rfl, Nat.le_of_ble_eq_true rfl⟩ ZF.room (As := [.long ((i).toInt64), .long 0, .long (((nI m_k).toInt64) - 1)]) (n := 3) rfl rfl (st1 := [.int (bI (zil ((i).toInt64) 0 (((nI m_k).toInt64) - 1)))]) rfl (Nat.le_of_ble_eq_true rfl) dX5_noCell_25 ?_
    refine z_top (y := bI (zin i m_k)) (bI_eq (zil_in (by omega))) ?_
    refine z_if_eqB (tgt := 35) X dX5_noCell_28 (by decide) (fun hq2 => ?_) (fun hq2 => ?_)
    ·
      refine z_iconst (v := nI 3) X dX5_noCell_35 (by decide) ?_
      exact z_iret X ZF dX5_noCell_36 (by first | (rw [hfz]; exact foc_nul.symm) | (rw [hmz_k, foc_own1 hm_k, hq2]; rfl)) rfl
    ·
      refine z_iconst (v := nI 0) X dX5_noCell_31 (by decide) ?_
      refine z_goto (tgt := 36) X dX5_noCell_32 (by decide) ?_
      exact z_iret X ZF dX5_noCell_36 (by first | (rw [hfz]; exact foc_nul.symm) | (rw [hmz_k, foc_own1 hm_k, hq2]; rfl)) rfl
  ·
    have hfz := vle_lt (hle k hk) hq1
    refine z_iconst (v := nI 1) X dX5_noCell_9 (by decide) ?_
    refine z_goto (tgt := 36) X dX5_noCell_10 (by decide) ?_
    exact z_iret X ZF dX5_noCell_36 (by first | (rw [hfz]; exact foc_nul.symm) | (rw [hmz_k, foc_own1 hm_k, hq1]; rfl)) rfl
