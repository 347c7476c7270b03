abbrev rX5_villageNow : Room := { frames := 5, cells := 0, slots := 0, locals := 117 }
set_option maxHeartbeats 4000000 in
set_option maxRecDepth 100000 in
theorem c_X5_villageNow (l : Launch) (g : zg) (b : Nat → Nat) (ft : Int32) (so : Int32) (D : Nat) (E : Nat) (tr : Int32) (C : Nat) (lk : Nat → Int32) (kd : Nat → Int32) (st : Nat → Int32) (sp : Nat → Int32) (nd : Nat → Int32) (rO : Nat → Int32) (rB : Nat → Int32) (rD : Nat → Int32) (rW : Nat → Int32) (sz : Nat → Int32) (sl : Nat → Int32) (sc : Nat → Int32) (sm : Int32) (xa : Nat) (xb : Int32) (xc : Nat) (xd : Nat) (y1 : Nat → Int32) (y2 : Nat → Int32) (y3 : Nat → Int32) (y4 : Nat → Int32) (y5 : Nat → Int32) (hn : Nat → Int32) (hE : E ≤ 4) (hD : D ≤ 6) (hL : vL kd st E) (hSp : vS sp E) : zM l g yX5_villageNow wsX5_villageNow rX5_villageNow [.ref (b 0)] (wM g b ft so D E tr C lk kd st sp nd rO rB rD rW sz sl sc sm xa xb xc xd y1 y2 y3 y4 y5 hn) (some (.int (onI (vil D kd st sp nd (fsm lk so sm D) E)))) (wM g b ft so D E tr C lk kd st sp nd rO rB rD rW sz sl sc sm xa xb xc xd y1 y2 y3 y4 y5 hn) := by
  refine z_met (own := RX5) (cc := cX5_villageNow) (maxL := 5) (ret := some .int) (by decide +kernel) rfl rfl (Nat.le_of_ble_eq_true rfl) ?_
  intro M X ZF
  refine z_Le (L' := [(0, .ref (b 0))]) rfl ?_
  have hpD : 2 ^ D ≤ 2 ^ 6 := Nat.pow_le_pow_right (by omega) hD
  have i_RX5 : ∀ w ∈ wsX50, w ∈ wsX5_villageNow := by decide +kernel
  have f_85 : Cond.fieldLink RX5 85 (TX5 4).1 (TX5 4).2.1 (TX5 4).2.2.1 ∈ wsX5_villageNow := by decide +kernel
  refine z_iconst (v := nI 0) X dX5_villageNow_0 (by decide) ?_
  refine z_istore_n (L' := [(1, .int (nI 0)), (0, .ref (b 0))]) X dX5_villageNow_1 rfl (by decide) rfl ?_
  refine z_iconst (v := nI 1) X dX5_villageNow_2 (by decide) ?_
  refine z_istore_n (L' := [(2, .int (nI 1)), (1, .int (nI 0)), (0, .ref (b 0))]) X dX5_villageNow_3 rfl (by decide) rfl ?_
  refine z_iconst (v := nI 0) X dX5_villageNow_4 (by decide) ?_
  refine z_istore_n (L' := [(3, .int (nI 0)), (2, .int (nI 1)), (1, .int (nI 0)), (0, .ref (b 0))]) X dX5_villageNow_5 rfl (by decide) rfl ?_
  have loopv1 : ∀ (n1 i_v : Nat) (p_v : Nat), i_v ≤ E → E + 1 ≤ i_v + n1 → (vil D kd st sp nd (fsm lk so sm D) i_v = some p_v) → zG l g 5 M (wM g b ft so D E tr C lk kd st sp nd rO rB rD rW sz sl sc sm xa xb xc xd y1 y2 y3 y4 y5 hn) [(0, .ref (b 0)), (1, .int (nI p_v)), (2, .int (nI 1)), (3, .int (nI i_v))] 6 [] := by
    intro n1
    induction n1 with
    | zero => intro i_v p_v h1 h2 _; exact absurd h2 (by omega)
    | succ n1 ih1 =>
      intro i_v p_v hi1 hn1 hv
      refine z_iload_n X dX5_villageNow_6 rfl 3 rfl ?_
      refine z_aload_n X dX5_villageNow_7 rfl 0 rfl ?_
      refine z_get (v := .int (nI E)) (N := 29) X i_RX5 (ci := 4) rfl 0 rfl 4 (by decide) f_85 rfl dX5_villageNow_8 ?_
      refine z_icmp_geN (tgt := 60) X dX5_villageNow_11 (by decide) (by omega) (by omega) (fun hq2 => ?_) (fun hq2 => ?_)
      ·
        refine z_iload_n X dX5_villageNow_60 rfl 2 rfl ?_
        refine z_if_eqN (tgt := 68) X dX5_villageNow_61 (by decide) (by omega) (fun hq3 => ?_) (fun hq3 => ?_)
        ·
          exact absurd hq3 (by decide)
        ·
          refine z_iload_n X dX5_villageNow_64 rfl 1 rfl ?_
          refine z_goto (tgt := 70) X dX5_villageNow_65 (by decide) ?_
          exact z_iret X ZF dX5_villageNow_70 (by first | (rw [show E = i_v by omega, hv]; rfl) | (rw [vil_none E (i_v + 1) (by omega) (by simp [vil, hbv])]; rfl)) rfl
      ·
        refine z_iload_n X dX5_villageNow_14 rfl 2 rfl ?_
        refine z_if_eqN (tgt := 60) X dX5_villageNow_15 (by decide) (by omega) (fun hq4 => ?_) (fun hq4 => ?_)
        ·
          exact absurd hq4 (by decide)
        ·
          refine z_aload_n X dX5_villageNow_18 rfl 0 rfl ?_
          refine z_iload_n X dX5_villageNow_19 rfl 3 rfl ?_
          refine z_callVM X (c_X5_bestOf l g b ft so D E tr C lk kd st sp nd rO rB rD rW sz sl sc sm xa xb xc xd y1 y2 y3 y4 y5 hn i_v (by omega) (by omega) (by omega) (by first | assumption | omega) (by first | assumption | omega)) gX5_villageNow_X5_bestOf rfl ⟨rfl, rfl⟩ (by decide +kernel) ⟨Nat.le_of_ble_eq_true rfl, Nat.le_of_ble_eq_true rfl⟩ ZF.room (ci := 4) rfl 0 rfl rfl (As := [.int (nI i_v)]) (n := 1) rfl rfl (st1 := [.int (obI (bst D (Lf kd st i_v) (nd i_v) (fsm lk so sm D)))]) rfl (Nat.le_of_ble_eq_true rfl) dX5_villageNow_20 ?_
          refine z_istore (L' := [(4, .int (obI (bst D (Lf kd st i_v) (nd i_v) (fsm lk so sm D)))), (0, .ref (b 0)), (1, .int (nI p_v)), (2, .int (nI 1)), (3, .int (nI i_v))]) X dX5_villageNow_23 (by decide) rfl ?_
          rcases hbv : bst D (Lf kd st i_v) (nd i_v) (fsm lk so sm D) with _ | ⟨b_v, m_v⟩
          ·
            refine z_Le (L' := [(4, .int (-9)), (0, .ref (b 0)), (1, .int (nI p_v)), (2, .int (nI 1)), (3, .int (nI i_v))]) rfl ?_
            refine z_iload X dX5_villageNow_25 0 rfl ?_
            refine z_if_lt (tgt := 34) X dX5_villageNow_27 (by decide) (fun hq5 => ?_) (fun hq5 => ?_)
            ·
              refine z_iconst (v := nI 0) X dX5_villageNow_34 (by decide) ?_
              refine z_istore_n (L' := [(2, .int (nI 0)), (4, .int (-9)), (0, .ref (b 0)), (1, .int (nI p_v)), (3, .int (nI i_v))]) X dX5_villageNow_35 rfl (by decide) rfl ?_
              refine z_iload_n X dX5_villageNow_36 rfl 3 rfl ?_
              refine z_iload_n X dX5_villageNow_37 rfl 0 rfl ?_
              refine z_if_eqN (tgt := 51) X dX5_villageNow_38 (by decide) (by omega) (fun hq6 => ?_) (fun hq6 => ?_)
              ·
                refine z_iconst (v := nI 0) X dX5_villageNow_51 (by decide) ?_
                refine z_iadd' (v := nI p_v) X dX5_villageNow_52 (nI_add _ _) ?_
                refine z_istore_n (L' := [(1, .int (nI p_v)), (2, .int (nI 0)), (4, .int (-9)), (0, .ref (b 0)), (3, .int (nI i_v))]) X dX5_villageNow_53 rfl (by decide) rfl ?_
                refine z_iinc (v := nI (i_v + 1)) (L' := [(3, .int (nI (i_v + 1))), (1, .int (nI p_v)), (2, .int (nI 0)), (4, .int (-9)), (0, .ref (b 0))]) X dX5_villageNow_54 4 rfl (nI_inc i_v 1) (by decide) rfl ?_
                refine z_goto (tgt := 6) X dX5_villageNow_57 (by decide) ?_
                refine z_iload_n X dX5_villageNow_6 rfl 0 rfl ?_
                refine z_aload_n X dX5_villageNow_7 rfl 4 rfl ?_
                refine z_get (v := .int (nI E)) (N := 29) X i_RX5 (ci := 4) rfl 0 rfl 4 (by decide) f_85 rfl dX5_villageNow_8 ?_
                refine z_icmp_geN (tgt := 60) X dX5_villageNow_11 (by decide) (by omega) (by omega) (fun hq7 => ?_) (fun hq7 => ?_)
                ·
                  refine z_iload_n X dX5_villageNow_60 rfl 2 rfl ?_
                  refine z_if_eqN (tgt := 68) X dX5_villageNow_61 (by decide) (by omega) (fun hq8 => ?_) (fun hq8 => ?_)
                  ·
                    refine z_bipush (v := (-9)) X dX5_villageNow_68 (by decide) ?_
                    exact z_iret X ZF dX5_villageNow_70 (by first | (rw [show E = i_v by omega, hv]; rfl) | (rw [vil_none E (i_v + 1) (by omega) (by simp [vil, hbv])]; rfl)) rfl
                  ·
                    exact absurd hq8 (by decide)
                ·
                  refine z_iload_n X dX5_villageNow_14 rfl 2 rfl ?_
                  refine z_if_eqN (tgt := 60) X dX5_villageNow_15 (by decide) (by omega) (fun hq9 => ?_) (fun hq9 => ?_)
                  ·
                    refine z_iload_n X dX5_villageNow_60 rfl 2 rfl ?_
                    refine z_if_eqN (tgt := 68) X dX5_villageNow_61 (by decide) (by omega) (fun hq10 => ?_) (fun hq10 => ?_)
                    ·
                      refine z_bipush (v := (-9)) X dX5_villageNow_68 (by decide) ?_
                      exact z_iret X ZF dX5_villageNow_70 (by first | (rw [show E = i_v by omega, hv]; rfl) | (rw [vil_none E (i_v + 1) (by omega) (by simp [vil, hbv])]; rfl)) rfl
                    ·
                      exact absurd hq10 (by decide)
                  ·
                    exact absurd hq9 (by decide)
              ·
                exact absurd hq6 (by decide)
            ·
              exact absurd hq5 (by decide)
          ·
            have hbl := bst_lt hbv
            refine z_Le (L' := [(4, .int (nI b_v)), (0, .ref (b 0)), (1, .int (nI p_v)), (2, .int (nI 1)), (3, .int (nI i_v))]) rfl ?_
            refine z_iload X dX5_villageNow_25 0 rfl ?_
            refine z_if_ltN (tgt := 34) X dX5_villageNow_27 (by decide) (by omega) (fun hq11 => ?_) (fun hq11 => ?_)
            ·
              exact absurd hq11 (by omega)
            ·
              refine z_iconst (v := nI 1) X dX5_villageNow_30 (by decide) ?_
              refine z_goto (tgt := 35) X dX5_villageNow_31 (by decide) ?_
              refine z_istore_n (L' := [(2, .int (nI 1)), (4, .int (nI b_v)), (0, .ref (b 0)), (1, .int (nI p_v)), (3, .int (nI i_v))]) X dX5_villageNow_35 rfl (by decide) rfl ?_
              refine z_iload_n X dX5_villageNow_36 rfl 3 rfl ?_
              refine z_iload_n X dX5_villageNow_37 rfl 0 rfl ?_
              refine z_if_eqN (tgt := 51) X dX5_villageNow_38 (by decide) (by omega) (fun hq12 => ?_) (fun hq12 => ?_)
              ·
                exact absurd hq12 (by decide)
              ·
                refine z_aload_n X dX5_villageNow_41 rfl 2 rfl ?_
                refine z_iload_n X dX5_villageNow_42 rfl 4 rfl ?_
                refine z_iload X dX5_villageNow_43 1 rfl ?_
                refine z_callVM X (c_X5_fineOf l g b ft so D E tr C lk kd st sp nd rO rB rD rW sz sl sc sm xa xb xc xd y1 y2 y3 y4 y5 hn i_v b_v (by omega) (by omega) (by omega) (by first | assumption | omega) (by first | assumption | omega) hbl.1) gX5_villageNow_X5_fineOf rfl ⟨rfl, rfl⟩ (by decide +kernel) ⟨Nat.le_of_ble_eq_true rfl, Nat.le_of_ble_eq_true rfl⟩ ZF.room (ci := 4) rfl 0 rfl rfl (As := [.int (nI i_v), .int (nI b_v)]) (n := 2) rfl rfl (st1 := [.int (nI (tn (sp i_v) * pc (fnd D (Lf kd st i_v) b_v (fsm lk so sm D)))), .int (nI p_v)]) rfl (Nat.le_of_ble_eq_true rfl) dX5_villageNow_45 ?_
                refine z_goto (tgt := 52) X dX5_villageNow_48 (by decide) ?_
                refine z_iadd' (v := nI (p_v + (tn (sp i_v) * pc (fnd D (Lf kd st i_v) b_v (fsm lk so sm D))))) X dX5_villageNow_52 (nI_add _ _) ?_
                refine z_istore_n (L' := [(1, .int (nI (p_v + (tn (sp i_v) * pc (fnd D (Lf kd st i_v) b_v (fsm lk so sm D)))))), (2, .int (nI 1)), (4, .int (nI b_v)), (0, .ref (b 0)), (3, .int (nI i_v))]) X dX5_villageNow_53 rfl (by decide) rfl ?_
                refine z_iinc (v := nI (i_v + 1)) (L' := [(3, .int (nI (i_v + 1))), (1, .int (nI (p_v + (tn (sp i_v) * pc (fnd D (Lf kd st i_v) b_v (fsm lk so sm D)))))), (2, .int (nI 1)), (4, .int (nI b_v)), (0, .ref (b 0))]) X dX5_villageNow_54 4 rfl (nI_inc i_v 1) (by decide) rfl ?_
                refine z_goto (tgt := 6) X dX5_villageNow_57 (by decide) ?_
                refine z_ls (L' := [(0, .ref (b 0)), (1, .int (nI (p_v + (tn (sp i_v) * pc (fnd D (Lf kd st i_v) b_v (fsm lk so sm D)))))), (2, .int (nI 1)), (3, .int (nI (i_v + 1)))]) [4, 1, 2, 0] rfl ?_
                exact ih1 (i_v + 1) (p_v + (tn (sp i_v) * pc (fnd D (Lf kd st i_v) b_v (fsm lk so sm D)))) (by omega) (by omega) (by simp [vil, hv, hbv, Nat.mul_comm])
  refine z_ls (L' := [(0, .ref (b 0)), (1, .int (nI 0)), (2, .int (nI 1)), (3, .int (nI 0))]) [3, 2, 1, 0] rfl ?_
  exact loopv1 (E + 1) 0 0 (by omega) (by omega) rfl
abbrev rX5_areSo : Room := { frames := 3, cells := 0, slots := 0, locals := 70 }
set_option maxHeartbeats 4000000 in
set_option maxRecDepth 100000 in
theorem c_X5_areSo (l : Launch) (g : zg) (b : Nat → Nat) (ft : Int32) (so : Int32) (D : Nat) (E : Nat) (tr : Int32) (C : Nat) (lk : Nat → Int32) (kd : Nat → Int32) (st : Nat → Int32) (sp : Nat → Int32) (nd : Nat → Int32) (rO : Nat → Int32) (rB : Nat → Int32) (rD : Nat → Int32) (rW : Nat → Int32) (sz : Nat → Int32) (sl : Nat → Int32) (sc : Nat → Int32) (sm : Int32) (xa : Nat) (xb : Int32) (xc : Nat) (xd : Nat) (y1 : Nat → Int32) (y2 : Nat → Int32) (y3 : Nat → Int32) (y4 : Nat → Int32) (y5 : Nat → Int32) (hn : Nat → Int32) (hE : E ≤ 4) (hD : D ≤ 6) (hC : C ≤ 8) (hL : vL kd st E) (hR : vR D E C rO rB rD rW) (hsm : sm = (-9)) : zM l g yX5_areSo wsX5_areSo rX5_areSo [.ref (b 0)] (wM g b ft so D E tr C lk kd st sp nd rO rB rD rW sz sl sc sm xa xb xc xd y1 y2 y3 y4 y5 hn) (some (.int (bI (ar D lk so kd st rO rB rD rW C)))) (wM g b ft so D E tr C lk kd st sp nd rO rB rD rW sz sl sc sm xa xb xc xd y1 y2 y3 y4 y5 hn) := by
  refine z_met (own := RX5) (cc := cX5_areSo) (maxL := 3) (ret := some .boolean) (by decide +kernel) rfl rfl (Nat.le_of_ble_eq_true rfl) ?_
  intro M X ZF
  refine z_Le (L' := [(0, .ref (b 0))]) rfl ?_
  have i_RX5 : ∀ w ∈ wsX50, w ∈ wsX5_areSo := by decide +kernel
  have f_142 : Cond.fieldLink RX5 142 (TX5 19).1 (TX5 19).2.1 (TX5 19).2.2.1 ∈ wsX5_areSo := by decide +kernel
  have f_44 : Cond.fieldLink RX5 44 (TX5 20).1 (TX5 20).2.1 (TX5 20).2.2.1 ∈ wsX5_areSo := by decide +kernel
  have f_47 : Cond.fieldLink RX5 47 (TX5 21).1 (TX5 21).2.1 (TX5 21).2.2.1 ∈ wsX5_areSo := by decide +kernel
  have f_50 : Cond.fieldLink RX5 50 (TX5 22).1 (TX5 22).2.1 (TX5 22).2.2.1 ∈ wsX5_areSo := by decide +kernel
  have f_53 : Cond.fieldLink RX5 53 (TX5 23).1 (TX5 23).2.1 (TX5 23).2.2.1 ∈ wsX5_areSo := by decide +kernel
  refine z_iconst (v := nI 1) X dX5_areSo_0 (by decide) ?_
  refine z_istore_n (L' := [(1, .int (nI 1)), (0, .ref (b 0))]) X dX5_areSo_1 rfl (by decide) rfl ?_
  refine z_iconst (v := nI 0) X dX5_areSo_2 (by decide) ?_
  refine z_istore_n (L' := [(2, .int (nI 0)), (1, .int (nI 1)), (0, .ref (b 0))]) X dX5_areSo_3 rfl (by decide) rfl ?_
  have loopv1 : ∀ (n1 i_v : Nat), i_v ≤ C → C + 1 ≤ i_v + n1 → zG l g 3 M (wM g b ft so D E tr C lk kd st sp nd rO rB rD rW sz sl sc sm xa xb xc xd y1 y2 y3 y4 y5 hn) [(0, .ref (b 0)), (1, .int (bI (ar D lk so kd st rO rB rD rW i_v))), (2, .int (nI i_v))] 4 [] := by
    intro n1
    induction n1 with
    | zero => intro i_v h1 h2; exact absurd h2 (by omega)
    | succ n1 ih1 =>
      intro i_v hi1 hn1
      have hfb := fnd_lt (D := D) (L := Lf kd st (tn (rO i_v))) (S := tn (rB i_v)) (F := fsm lk so sm D) hD
      refine z_iload_n X dX5_areSo_4 rfl 2 rfl ?_
      refine z_aload_n X dX5_areSo_5 rfl 0 rfl ?_
      refine z_get (v := .int (nI C)) (N := 29) X i_RX5 (ci := 4) rfl 0 rfl 19 (by decide) f_142 rfl dX5_areSo_6 ?_
      refine z_icmp_geN (tgt := 62) X dX5_areSo_9 (by decide) (by omega) (by omega) (fun hq2 => ?_) (fun hq2 => ?_)
      ·
        refine z_iload_n X dX5_areSo_62 rfl 1 rfl ?_
        exact z_zret X ZF dX5_areSo_63 (bI_nar _) (by rw [show i_v = C by omega]) rfl
      ·
        refine z_iload_n X dX5_areSo_12 rfl 1 rfl ?_
        refine z_if_eqB (tgt := 54) X dX5_areSo_13 (by decide) (fun hq3 => ?_) (fun hq3 => ?_)
        ·
          refine z_iconst (v := nI 0) X dX5_areSo_54 (by decide) ?_
          refine z_istore_n (L' := [(1, .int (nI 0)), (0, .ref (b 0)), (2, .int (nI i_v))]) X dX5_areSo_55 rfl (by decide) rfl ?_
          refine z_iinc (v := nI (i_v + 1)) (L' := [(2, .int (nI (i_v + 1))), (1, .int (nI 0)), (0, .ref (b 0))]) X dX5_areSo_56 2 rfl (nI_inc i_v 1) (by decide) rfl ?_
          refine z_goto (tgt := 4) X dX5_areSo_59 (by decide) ?_
          refine z_ls (L' := [(0, .ref (b 0)), (1, .int (nI 0)), (2, .int (nI (i_v + 1)))]) [2, 1, 0] rfl ?_
          have e4 : (nI 0) = (bI (ar D lk so kd st rO rB rD rW (i_v + 1))) := by unfold ar; rw [hq3]; rfl
          refine z_Le (L' := [(0, .ref (b 0)), (1, .int (bI (ar D lk so kd st rO rB rD rW (i_v + 1)))), (2, .int (nI (i_v + 1)))]) (by rw [← e4]) ?_
          exact ih1 (i_v + 1) (by omega) (by omega)
        ·
          refine z_aload_n X dX5_areSo_16 rfl 0 rfl ?_
          refine z_aload_n X dX5_areSo_17 rfl 0 rfl ?_
          refine z_get (v := .ref (b 11)) (N := 29) X i_RX5 (ci := 4) rfl 0 rfl 20 (by decide) f_44 rfl dX5_areSo_18 ?_
          refine z_iload_n X dX5_areSo_21 rfl 2 rfl ?_
          refine z_ialdN X 11 rfl (by omega) (by omega) dX5_areSo_22 ?_
          refine z_top (y := nI (tn (rO i_v))) (hR _ (by omega)).1.1 ?_
          refine z_aload_n X dX5_areSo_23 rfl 0 rfl ?_
          refine z_get (v := .ref (b 12)) (N := 29) X i_RX5 (ci := 4) rfl 0 rfl 21 (by decide) f_47 rfl dX5_areSo_24 ?_
          refine z_iload_n X dX5_areSo_27 rfl 2 rfl ?_
          refine z_ialdN X 12 rfl (by omega) (by omega) dX5_areSo_28 ?_
          refine z_top (y := nI (tn (rB i_v))) (hR _ (by omega)).2.1.1 ?_
          refine z_callVM X (c_X5_foundBy l g b ft so D E tr C lk kd st sp nd rO rB rD rW sz sl sc sm xa xb xc xd y1 y2 y3 y4 y5 hn (tn (rO i_v)) (tn (rB i_v)) (hR _ (by omega)).1.2 (by omega) (by omega) (by first | assumption | omega) (hR _ (by omega)).2.1.2) gX5_areSo_X5_foundBy rfl ⟨rfl, rfl⟩ (by decide +kernel) ⟨Nat.le_of_ble_eq_true rfl, Nat.le_of_ble_eq_true rfl⟩ ZF.room (ci := 4) rfl 0 rfl rfl (As := [.int (nI (tn (rO i_v))), .int (nI (tn (rB i_v)))]) (n := 2) rfl rfl (st1 := [.int (nI (fnd D (Lf kd st (tn (rO i_v))) (tn (rB i_v)) (fsm lk so sm D)))]) rfl (Nat.le_of_ble_eq_true rfl) dX5_areSo_29 ?_
          refine z_aload_n X dX5_areSo_32 rfl 0 rfl ?_
          refine z_get (v := .ref (b 13)) (N := 29) X i_RX5 (ci := 4) rfl 0 rfl 22 (by decide) f_50 rfl dX5_areSo_33 ?_
          refine z_iload_n X dX5_areSo_36 rfl 2 rfl ?_
          refine z_ialdN X 13 rfl (by omega) (by omega) dX5_areSo_37 ?_
          refine z_top (y := nI (tn (rD i_v))) (hR _ (by omega)).2.2.1.1 ?_
          refine z_callS0 X (c_X5_isIn l g (fnd D (Lf kd st (tn (rO i_v))) (tn (rB i_v)) (fsm lk so sm D)) (tn (rD i_v)) (by omega) (Nat.lt_trans (hR _ (by omega)).2.2.1.2 (by omega))) gX5_areSo_X5_isIn rfl ⟨rfl, rfl⟩ (by decide +kernel) ⟨Nat.le_of_ble_eq_true rfl, Nat.le_of_ble_eq_true rfl⟩ ZF.room (As := [.int (nI (fnd D (Lf kd st (tn (rO i_v))) (tn (rB i_v)) (fsm lk so sm D))), .int (nI (tn (rD i_v)))]) (n := 2) rfl rfl (st1 := [.int (bI (zbt (fnd D (Lf kd st (tn (rO i_v))) (tn (rB i_v)) (fsm lk so sm D)) (tn (rD i_v))))]) rfl (Nat.le_of_ble_eq_true rfl) dX5_areSo_38 ?_
          refine z_aload_n X dX5_areSo_41 rfl 0 rfl ?_
          refine z_get (v := .ref (b 14)) (N := 29) X i_RX5 (ci := 4) rfl 0 rfl 23 (by decide) f_53 rfl dX5_areSo_42 ?_
          refine z_iload_n X dX5_areSo_45 rfl 2 rfl ?_
          refine z_zaldN X 14 rfl (by omega) (by omega) dX5_areSo_46 ?_
          refine z_top (y := bI (decide (rW i_v = 1))) (hR _ (by omega)).2.2.2 ?_
          refine z_icmp_neB (tgt := 54) X dX5_areSo_47 (by decide) (fun hq5 => ?_) (fun hq5 => ?_)
          ·
            refine z_iconst (v := nI 0) X dX5_areSo_54 (by decide) ?_
            refine z_istore_n (L' := [(1, .int (nI 0)), (0, .ref (b 0)), (2, .int (nI i_v))]) X dX5_areSo_55 rfl (by decide) rfl ?_
            refine z_iinc (v := nI (i_v + 1)) (L' := [(2, .int (nI (i_v + 1))), (1, .int (nI 0)), (0, .ref (b 0))]) X dX5_areSo_56 2 rfl (nI_inc i_v 1) (by decide) rfl ?_
            refine z_goto (tgt := 4) X dX5_areSo_59 (by decide) ?_
            refine z_ls (L' := [(0, .ref (b 0)), (1, .int (nI 0)), (2, .int (nI (i_v + 1)))]) [2, 1, 0] rfl ?_
            have e6 : (nI 0) = (bI (ar D lk so kd st rO rB rD rW (i_v + 1))) := by unfold ar; rw [hq3, so1_fnd hD (hR _ (by omega)).2.2.1.2, ← hsm]; simp [bI, nI_0, hq5]
            refine z_Le (L' := [(0, .ref (b 0)), (1, .int (bI (ar D lk so kd st rO rB rD rW (i_v + 1)))), (2, .int (nI (i_v + 1)))]) (by rw [← e6]) ?_
            exact ih1 (i_v + 1) (by omega) (by omega)
          ·
            refine z_iconst (v := nI 1) X dX5_areSo_50 (by decide) ?_
            refine z_goto (tgt := 55) X dX5_areSo_51 (by decide) ?_
            refine z_istore_n (L' := [(1, .int (nI 1)), (0, .ref (b 0)), (2, .int (nI i_v))]) X dX5_areSo_55 rfl (by decide) rfl ?_
            refine z_iinc (v := nI (i_v + 1)) (L' := [(2, .int (nI (i_v + 1))), (1, .int (nI 1)), (0, .ref (b 0))]) X dX5_areSo_56 2 rfl (nI_inc i_v 1) (by decide) rfl ?_
            refine z_goto (tgt := 4) X dX5_areSo_59 (by decide) ?_
            refine z_ls (L' := [(0, .ref (b 0)), (1, .int (nI 1)), (2, .int (nI (i_v + 1)))]) [2, 1, 0] rfl ?_
            have e7 : (nI 1) = (bI (ar D lk so kd st rO rB rD rW (i_v + 1))) := by unfold ar; rw [hq3, so1_fnd hD (hR _ (by omega)).2.2.1.2, ← hsm, hq5]; simp [bI, nI_one]
            refine z_Le (L' := [(0, .ref (b 0)), (1, .int (bI (ar D lk so kd st rO rB rD rW (i_v + 1)))), (2, .int (nI (i_v + 1)))]) (by rw [← e7]) ?_
            exact ih1 (i_v + 1) (by omega) (by omega)
  refine z_ls (L' := [(0, .ref (b 0)), (1, .int (nI 1)), (2, .int (nI 0))]) [2, 1, 0] rfl ?_
  have e8 : (nI 1) = (bI (ar D lk so kd st rO rB rD rW 0)) := by rfl
  refine z_Le (L' := [(0, .ref (b 0)), (1, .int (bI (ar D lk so kd st rO rB rD rW 0))), (2, .int (nI 0))]) (by rw [← e8]) ?_
  exact loopv1 (C + 1) 0 (by omega) (by omega)
abbrev rX5_ofEater : Room := { frames := 2, cells := 0, slots := 0, locals := 46 }
set_option maxHeartbeats 4000000 in
set_option maxRecDepth 100000 in
theorem c_X5_ofEater (l : Launch) (g : zg) (b : Nat → Nat) (ft : Int32) (so : Int32) (D : Nat) (E : Nat) (tr : Int32) (C : Nat) (lk : Nat → Int32) (kd : Nat → Int32) (st : Nat → Int32) (sp : Nat → Int32) (nd : Nat → Int32) (rO : Nat → Int32) (rB : Nat → Int32) (rD : Nat → Int32) (rW : Nat → Int32) (sz : Nat → Int32) (sl : Nat → Int32) (sc : Nat → Int32) (sm : Int32) (xa : Nat) (xb : Int32) (xc : Nat) (xd : Nat) (y1 : Nat → Int32) (y2 : Nat → Int32) (y3 : Nat → Int32) (y4 : Nat → Int32) (y5 : Nat → Int32) (hn : Nat → Int32) (x : Int32) (w : Int32) (hE : E ≤ 4) (hK : vK kd st E) : zM l g yX5_ofEater wsX5_ofEater rX5_ofEater [.ref (b 0), .int x, .int w] (wM g b ft so D E tr C lk kd st sp nd rO rB rD rW sz sl sc sm xa xb xc xd y1 y2 y3 y4 y5 hn) (some (.int (if zin x E then ofe kd st sp nd (tn x) w else -1))) (wM g b ft so D E tr C lk kd st sp nd rO rB rD rW sz sl sc sm xa xb xc xd y1 y2 y3 y4 y5 hn) := by
  refine z_met (own := RX5) (cc := cX5_ofEater) (maxL := 3) (ret := some .int) (by decide +kernel) rfl rfl (Nat.le_of_ble_eq_true rfl) ?_
  intro M X ZF
  refine z_Le (L' := [(0, .ref (b 0)), (1, .int x), (2, .int w)]) rfl ?_
  have hL := vK_L hK
  have i_RX5 : ∀ w ∈ wsX50, w ∈ wsX5_ofEater := by decide +kernel
  have f_13 : Cond.fieldLink RX5 13 (TX5 5).1 (TX5 5).2.1 (TX5 5).2.2.1 ∈ wsX5_ofEater := by decide +kernel
  have f_16 : Cond.fieldLink RX5 16 (TX5 6).1 (TX5 6).2.1 (TX5 6).2.2.1 ∈ wsX5_ofEater := by decide +kernel
  have f_19 : Cond.fieldLink RX5 19 (TX5 7).1 (TX5 7).2.1 (TX5 7).2.2.1 ∈ wsX5_ofEater := by decide +kernel
  have f_22 : Cond.fieldLink RX5 22 (TX5 8).1 (TX5 8).2.1 (TX5 8).2.2.1 ∈ wsX5_ofEater := by decide +kernel
  refine z_aload_n X dX5_ofEater_0 rfl 0 rfl ?_
  refine z_iload_n X dX5_ofEater_1 rfl 1 rfl ?_
  refine z_callVM X (c_X5_noEater l g b ft so D E tr C lk kd st sp nd rO rB rD rW sz sl sc sm xa xb xc xd y1 y2 y3 y4 y5 hn x (by omega)) gX5_ofEater_X5_noEater rfl ⟨rfl, rfl⟩ (by decide +kernel) ⟨Nat.le_of_ble_eq_true rfl, Nat.le_of_ble_eq_true rfl⟩ ZF.room (ci := 4) rfl 0 rfl rfl (As := [.int x]) (n := 1) rfl rfl (st1 := [.int (bI (!zin x E))]) rfl (Nat.le_of_ble_eq_true rfl) dX5_ofEater_2 ?_
  refine z_if_eqB (tgt := 10) X dX5_ofEater_5 (by decide) (fun hq1 => ?_) (fun hq1 => ?_)
  ·
    have hq2 : (zin x E) = true := by simpa using hq1
    obtain ⟨jv3, hj3, ej3⟩ := zin_t (by omega) hq2
    subst ej3
    have hc3 : tn (nI jv3) = jv3 := nI_clamp (by omega)
    refine z_iload_n X dX5_ofEater_10 rfl 2 rfl ?_
    by_cases hq4 : w = nI 0
    ·
      subst hq4
      refine z_tableIn (off := 33) (tgt := 44) X dX5_ofEater_11 (by decide +kernel) (by decide +kernel) (by decide +kernel) (by decide) ?_
      refine z_aload_n X dX5_ofEater_44 rfl 0 rfl ?_
      refine z_get (v := .ref (b 2)) (N := 29) X i_RX5 (ci := 4) rfl 0 rfl 5 (by decide) f_13 rfl dX5_ofEater_45 ?_
      refine z_iload_n X dX5_ofEater_48 rfl 1 rfl ?_
      refine z_ialdN X 2 rfl (by omega) (by omega) dX5_ofEater_49 ?_
      exact z_iret X ZF dX5_ofEater_50 (by simp [ofe, nI_inj5, hq2, hc3]) rfl
    ·
      by_cases hq5 : w = nI 1
      ·
        subst hq5
        refine z_tableIn (off := 40) (tgt := 51) X dX5_ofEater_11 (by decide +kernel) (by decide +kernel) (by decide +kernel) (by decide) ?_
        refine z_aload_n X dX5_ofEater_51 rfl 0 rfl ?_
        refine z_get (v := .ref (b 3)) (N := 29) X i_RX5 (ci := 4) rfl 0 rfl 6 (by decide) f_16 rfl dX5_ofEater_52 ?_
        refine z_iload_n X dX5_ofEater_55 rfl 1 rfl ?_
        refine z_ialdN X 3 rfl (by omega) (by omega) dX5_ofEater_56 ?_
        exact z_iret X ZF dX5_ofEater_57 (by simp [ofe, nI_inj5, hq2, hc3, hq4]) rfl
      ·
        by_cases hq6 : w = nI 2
        ·
          subst hq6
          refine z_tableIn (off := 47) (tgt := 58) X dX5_ofEater_11 (by decide +kernel) (by decide +kernel) (by decide +kernel) (by decide) ?_
          refine z_aload_n X dX5_ofEater_58 rfl 0 rfl ?_
          refine z_get (v := .ref (b 4)) (N := 29) X i_RX5 (ci := 4) rfl 0 rfl 7 (by decide) f_19 rfl dX5_ofEater_59 ?_
          refine z_iload_n X dX5_ofEater_62 rfl 1 rfl ?_
          refine z_ialdN X 4 rfl (by omega) (by omega) dX5_ofEater_63 ?_
          exact z_iret X ZF dX5_ofEater_64 (by simp [ofe, nI_inj5, hq2, hc3, hq4, hq5]) rfl
        ·
          by_cases hq7 : w = nI 3
          ·
            subst hq7
            refine z_tableIn (off := 54) (tgt := 65) X dX5_ofEater_11 (by decide +kernel) (by decide +kernel) (by decide +kernel) (by decide) ?_
            refine z_aload_n X dX5_ofEater_65 rfl 0 rfl ?_
            refine z_get (v := .ref (b 5)) (N := 29) X i_RX5 (ci := 4) rfl 0 rfl 8 (by decide) f_22 rfl dX5_ofEater_66 ?_
            refine z_iload_n X dX5_ofEater_69 rfl 1 rfl ?_
            refine z_ialdN X 5 rfl (by omega) (by omega) dX5_ofEater_70 ?_
            exact z_iret X ZF dX5_ofEater_71 (by simp [ofe, nI_inj5, hq2, hc3, hq4, hq5, hq6]) rfl
          ·
            by_cases hq8 : w = nI 4
            ·
              subst hq8
              refine z_tableIn (off := 61) (tgt := 72) X dX5_ofEater_11 (by decide +kernel) (by decide +kernel) (by decide +kernel) (by decide) ?_
              refine z_aload_n X dX5_ofEater_72 rfl 0 rfl ?_
              refine z_iload_n X dX5_ofEater_73 rfl 1 rfl ?_
              refine z_callVM X (c_X5_lastsOf l g b ft so D E tr C lk kd st sp nd rO rB rD rW sz sl sc sm xa xb xc xd y1 y2 y3 y4 y5 hn jv3 (by omega) (by omega) (by first | assumption | omega)) gX5_ofEater_X5_lastsOf rfl ⟨rfl, rfl⟩ (by decide +kernel) ⟨Nat.le_of_ble_eq_true rfl, Nat.le_of_ble_eq_true rfl⟩ ZF.room (ci := 4) rfl 0 rfl rfl (As := [.int (nI jv3)]) (n := 1) rfl rfl (st1 := [.int (nI (Lf kd st jv3))]) rfl (Nat.le_of_ble_eq_true rfl) dX5_ofEater_74 ?_
              exact z_iret X ZF dX5_ofEater_77 (by simp [ofe, nI_inj5, hq2, hc3, hq4, hq5, hq6, hq7]) rfl
            ·
              refine z_tableOut (tgt := 78) X dX5_ofEater_11 (by have := lv_neT (k := nI 0) (a := 0) hq4 (by decide +kernel); have := lv_neT (k := nI 1) (a := 1) hq5 (by decide +kernel); have := lv_neT (k := nI 2) (a := 2) hq6 (by decide +kernel); have := lv_neT (k := nI 3) (a := 3) hq7 (by decide +kernel); have := lv_neT (k := nI 4) (a := 4) hq8 (by decide +kernel); omega) (by decide) ?_
              refine z_bipush (v := (-2)) X dX5_ofEater_78 (by decide) ?_
              exact z_iret X ZF dX5_ofEater_80 (by simp [ofe, nI_inj5, hq2, hc3, hq4, hq5, hq6, hq7, hq8]) rfl
  ·
    have hq9 : (zin x E) = false := by simpa using hq1
    refine z_iconst (v := (-1)) X dX5_ofEater_8 (by decide) ?_
    exact z_iret X ZF dX5_ofEater_9 (by simp [ofe, nI_inj5, hq9]) rfl
abbrev rX5_look : Room := { frames := 2, cells := 0, slots := 0, locals := 46 }
set_option maxHeartbeats 4000000 in
set_option maxRecDepth 100000 in
theorem c_X5_look (l : Launch) (g : zg) (b : Nat → Nat) (ft : Int32) (so : Int32) (D : Nat) (E : Nat) (tr : Int32) (C : Nat) (lk : Nat → Int32) (kd : Nat → Int32) (st : Nat → Int32) (sp : Nat → Int32) (nd : Nat → Int32) (rO : Nat → Int32) (rB : Nat → Int32) (rD : Nat → Int32) (rW : Nat → Int32) (sz : Nat → Int32) (sl : Nat → Int32) (sc : Nat → Int32) (sm : Int32) (xa : Nat) (xb : Int32) (xc : Nat) (xd : Nat) (y1 : Nat → Int32) (y2 : Nat → Int32) (y3 : Nat → Int32) (y4 : Nat → Int32) (y5 : Nat → Int32) (hn : Nat → Int32) (x : Int32) (hD : D ≤ 6) : zM l g yX5_look wsX5_look rX5_look [.ref (b 0), .int x] (wM g b ft so D E tr C lk kd st sp nd rO rB rD rW sz sl sc sm xa xb xc xd y1 y2 y3 y4 y5 hn) (some (.int (if zin x D then lk (tn x) else -1))) (wM g b ft so D E tr C lk kd st sp nd rO rB rD rW sz sl sc sm xa xb xc xd y1 y2 y3 y4 y5 hn) := by
  refine z_met (own := RX5) (cc := cX5_look) (maxL := 2) (ret := some .int) (by decide +kernel) rfl rfl (Nat.le_of_ble_eq_true rfl) ?_
  intro M X ZF
  refine z_Le (L' := [(0, .ref (b 0)), (1, .int x)]) rfl ?_
  have i_RX5 : ∀ w ∈ wsX50, w ∈ wsX5_look := by decide +kernel
  have f_7 : Cond.fieldLink RX5 7 (TX5 3).1 (TX5 3).2.1 (TX5 3).2.2.1 ∈ wsX5_look := by decide +kernel
  refine z_aload_n X dX5_look_0 rfl 0 rfl ?_
  refine z_iload_n X dX5_look_1 rfl 1 rfl ?_
  refine z_callVM X (c_X5_noDay l g b ft so D E tr C lk kd st sp nd rO rB rD rW sz sl sc sm xa xb xc xd y1 y2 y3 y4 y5 hn x (by omega)) gX5_look_X5_noDay rfl ⟨rfl, rfl⟩ (by decide +kernel) ⟨Nat.le_of_ble_eq_true rfl, Nat.le_of_ble_eq_true rfl⟩ ZF.room (ci := 4) rfl 0 rfl rfl (As := [.int x]) (n := 1) rfl rfl (st1 := [.int (bI (!zin x D))]) rfl (Nat.le_of_ble_eq_true rfl) dX5_look_2 ?_
  refine z_if_eqB (tgt := 12) X dX5_look_5 (by decide) (fun hq1 => ?_) (fun hq1 => ?_)
  ·
    have hq2 : (zin x D) = true := by simpa using hq1
    obtain ⟨jv3, hj3, ej3⟩ := zin_t (by omega) hq2
    subst ej3
    have hc3 : tn (nI jv3) = jv3 := nI_clamp (by omega)
    refine z_aload_n X dX5_look_12 rfl 0 rfl ?_
    refine z_get (v := .ref (b 1)) (N := 29) X i_RX5 (ci := 4) rfl 0 rfl 3 (by decide) f_7 rfl dX5_look_13 ?_
    refine z_iload_n X dX5_look_16 rfl 1 rfl ?_
    refine z_ialdN X 1 rfl (by omega) (by omega) dX5_look_17 ?_
    exact z_iret X ZF dX5_look_18 (by simp [hq2, hc3]) rfl
  ·
    have hq4 : (zin x D) = false := by simpa using hq1
    refine z_iconst (v := (-1)) X dX5_look_8 (by decide) ?_
    refine z_goto (tgt := 18) X dX5_look_9 (by decide) ?_
    exact z_iret X ZF dX5_look_18 (by simp [hq4]) rfl
abbrev rX5_pull : Room := { frames := 2, cells := 0, slots := 0, locals := 46 }
set_option maxHeartbeats 4000000 in
set_option maxRecDepth 100000 in
theorem c_X5_pull (l : Launch) (g : zg) (b : Nat → Nat) (ft : Int32) (so : Int32) (D : Nat) (E : Nat) (tr : Int32) (C : Nat) (lk : Nat → Int32) (kd : Nat → Int32) (st : Nat → Int32) (sp : Nat → Int32) (nd : Nat → Int32) (rO : Nat → Int32) (rB : Nat → Int32) (rD : Nat → Int32) (rW : Nat → Int32) (sz : Nat → Int32) (sl : Nat → Int32) (sc : Nat → Int32) (sm : Int32) (xa : Nat) (xb : Int32) (xc : Nat) (xd : Nat) (y1 : Nat → Int32) (y2 : Nat → Int32) (y3 : Nat → Int32) (y4 : Nat → Int32) (y5 : Nat → Int32) (hn : Nat → Int32) (x : Int32) (v : Int32) (hD : D ≤ 6) : zM l g yX5_pull wsX5_pull rX5_pull [.ref (b 0), .int x, .int v] (wM g b ft so D E tr C lk kd st sp nd rO rB rD rW sz sl sc sm xa xb xc xd y1 y2 y3 y4 y5 hn) (some (.int (if zin x D then (if zin v 10 then lk (tn x) else -2) else -1))) (wM g b ft so D E tr C (if zin x D && zin v 10 then upd lk (tn x) v else lk) kd st sp nd rO rB rD rW sz sl sc sm xa xb xc xd y1 y2 y3 y4 y5 hn) := by
  refine z_met (own := RX5) (cc := cX5_pull) (maxL := 4) (ret := some .int) (by decide +kernel) rfl rfl (Nat.le_of_ble_eq_true rfl) ?_
  intro M X ZF
  refine z_Le (L' := [(0, .ref (b 0)), (1, .int x), (2, .int v)]) rfl ?_
  have k_154 : Cond.constantLong RX5 154 (9) ∈ wsX5_pull := by decide +kernel
  have i_RX5 : ∀ w ∈ wsX50, w ∈ wsX5_pull := by decide +kernel
  have f_7 : Cond.fieldLink RX5 7 (TX5 3).1 (TX5 3).2.1 (TX5 3).2.2.1 ∈ wsX5_pull := by decide +kernel
  refine z_aload_n X dX5_pull_0 rfl 0 rfl ?_
  refine z_iload_n X dX5_pull_1 rfl 1 rfl ?_
  refine z_callVM X (c_X5_noDay l g b ft so D E tr C lk kd st sp nd rO rB rD rW sz sl sc sm xa xb xc xd y1 y2 y3 y4 y5 hn x (by omega)) gX5_pull_X5_noDay rfl ⟨rfl, rfl⟩ (by decide +kernel) ⟨Nat.le_of_ble_eq_true rfl, Nat.le_of_ble_eq_true rfl⟩ ZF.room (ci := 4) rfl 0 rfl rfl (As := [.int x]) (n := 1) rfl rfl (st1 := [.int (bI (!zin x D))]) rfl (Nat.le_of_ble_eq_true rfl) dX5_pull_2 ?_
  refine z_if_eqB (tgt := 10) X dX5_pull_5 (by decide) (fun hq1 => ?_) (fun hq1 => ?_)
  ·
    have hq2 : (zin x D) = true := by simpa using hq1
    obtain ⟨jv3, hj3, ej3⟩ := zin_t (by omega) hq2
    subst ej3
    have hc3 : tn (nI jv3) = jv3 := nI_clamp (by omega)
    refine z_iload_n X dX5_pull_10 rfl 2 rfl ?_
    refine z_i2l (v := (v).toInt64) X dX5_pull_11 rfl ?_
    refine z_lconst (v := 0) X dX5_pull_12 (by decide) ?_
    refine z_ldc2 (v := 9) X dX5_pull_13 k_154 ?_
    refine z_callS0 X (c_X5_in l g ((v).toInt64) 0 9) gX5_pull_X5_in rfl ⟨rfl, rfl⟩ (by decide +kernel) ⟨Nat.le_of_ble_eq_true rfl, Nat.le_of_ble_eq_true rfl⟩ ZF.room (As := [.long ((v).toInt64), .long 0, .long 9]) (n := 3) rfl rfl (st1 := [.int (bI (zil ((v).toInt64) 0 9))]) rfl (Nat.le_of_ble_eq_true rfl) dX5_pull_16 ?_
    refine z_top (y := bI (zin v 10)) (bI_eq (zil_k (n := 9) (by decide +kernel) (by omega))) ?_
    refine z_if_neB (tgt := 25) X dX5_pull_19 (by decide) (fun hq4 => ?_) (fun hq4 => ?_)
    ·
      obtain ⟨jv5, hj5, ej5⟩ := zin_t (by omega) hq4
      subst ej5
      have hc5 : tn (nI jv5) = jv5 := nI_clamp (by omega)
      refine z_aload_n X dX5_pull_25 rfl 0 rfl ?_
      refine z_get (v := .ref (b 1)) (N := 29) X i_RX5 (ci := 4) rfl 0 rfl 3 (by decide) f_7 rfl dX5_pull_26 ?_
      refine z_iload_n X dX5_pull_29 rfl 1 rfl ?_
      refine z_ialdN X 1 rfl (by omega) (by omega) dX5_pull_30 ?_
      refine z_istore_n (L' := [(3, .int (lk jv3)), (0, .ref (b 0)), (1, .int (nI jv3)), (2, .int (nI jv5))]) X dX5_pull_31 rfl (by decide) rfl ?_
      refine z_aload_n X dX5_pull_32 rfl 1 rfl ?_
      refine z_get (v := .ref (b 1)) (N := 29) X i_RX5 (ci := 4) rfl 0 rfl 3 (by decide) f_7 rfl dX5_pull_33 ?_
      refine z_iload_n X dX5_pull_36 rfl 2 rfl ?_
      refine z_iload_n X dX5_pull_37 rfl 3 rfl ?_
      refine z_iastN (ws' := (wM g b ft so D E tr C (upd lk jv3 (nI jv5)) kd st sp nd rO rB rD rW sz sl sc sm xa xb xc xd y1 y2 y3 y4 y5 hn)) X 1 rfl (by omega) (by omega) dX5_pull_38 rfl ?_
      refine z_iload_n X dX5_pull_39 rfl 0 rfl ?_
      have e6 : (if zin (nI jv3) D && zin (nI jv5) 10 then upd lk (tn (nI jv3)) (nI jv5) else lk) = (upd lk jv3 (nI jv5)) := by simp [hq2, hc3, hq4, hc5]
      exact z_iret X ZF dX5_pull_40 (by simp [hq2, hc3, hq4, hc5]) (by rw [e6])
    ·
      refine z_bipush (v := (-2)) X dX5_pull_22 (by decide) ?_
      have e7 : (if zin (nI jv3) D && zin v 10 then upd lk (tn (nI jv3)) v else lk) = lk := by simp [hq2, hc3, hq4]
      exact z_iret X ZF dX5_pull_24 (by simp [hq2, hc3, hq4]) (by rw [e7])
  ·
    have hq8 : (zin x D) = false := by simpa using hq1
    refine z_iconst (v := (-1)) X dX5_pull_8 (by decide) ?_
    have e9 : (if zin x D && zin v 10 then upd lk (tn x) v else lk) = lk := by simp [hq8]
    exact z_iret X ZF dX5_pull_9 (by simp [hq8]) (by rw [e9])
abbrev rX5_sour : Room := { frames := 1, cells := 0, slots := 0, locals := 25 }
set_option maxHeartbeats 4000000 in
set_option maxRecDepth 100000 in
theorem c_X5_sour (l : Launch) (g : zg) (b : Nat → Nat) (ft : Int32) (so : Int32) (D : Nat) (E : Nat) (tr : Int32) (C : Nat) (lk : Nat → Int32) (kd : Nat → Int32) (st : Nat → Int32) (sp : Nat → Int32) (nd : Nat → Int32) (rO : Nat → Int32) (rB : Nat → Int32) (rD : Nat → Int32) (rW : Nat → Int32) (sz : Nat → Int32) (sl : Nat → Int32) (sc : Nat → Int32) (sm : Int32) (xa : Nat) (xb : Int32) (xc : Nat) (xd : Nat) (y1 : Nat → Int32) (y2 : Nat → Int32) (y3 : Nat → Int32) (y4 : Nat → Int32) (y5 : Nat → Int32) (hn : Nat → Int32) (v : Int32) (hE : E ≤ 4) : zM l g yX5_sour wsX5_sour rX5_sour [.ref (b 0), .int v] (wM g b ft so D E tr C lk kd st sp nd rO rB rD rW sz sl sc sm xa xb xc xd y1 y2 y3 y4 y5 hn) (some (.int (if zin v 10 then (if 0 < E then so else -3) else -2))) (wM g b ft (if zin v 10 && decide (0 < E) then v else so) D E tr C lk kd st sp nd rO rB rD rW sz sl sc sm xa xb xc xd y1 y2 y3 y4 y5 hn) := by
  refine z_met (own := RX5) (cc := cX5_sour) (maxL := 3) (ret := some .int) (by decide +kernel) rfl rfl (Nat.le_of_ble_eq_true rfl) ?_
  intro M X ZF
  refine z_Le (L' := [(0, .ref (b 0)), (1, .int v)]) rfl ?_
  have k_154 : Cond.constantLong RX5 154 (9) ∈ wsX5_sour := by decide +kernel
  have i_RX5 : ∀ w ∈ wsX50, w ∈ wsX5_sour := by decide +kernel
  have f_85 : Cond.fieldLink RX5 85 (TX5 4).1 (TX5 4).2.1 (TX5 4).2.2.1 ∈ wsX5_sour := by decide +kernel
  have f_139 : Cond.fieldLink RX5 139 (TX5 1).1 (TX5 1).2.1 (TX5 1).2.2.1 ∈ wsX5_sour := by decide +kernel
  refine z_iload_n X dX5_sour_0 rfl 1 rfl ?_
  refine z_i2l (v := (v).toInt64) X dX5_sour_1 rfl ?_
  refine z_lconst (v := 0) X dX5_sour_2 (by decide) ?_
  refine z_ldc2 (v := 9) X dX5_sour_3 k_154 ?_
  refine z_callS0 X (c_X5_in l g ((v).toInt64) 0 9) gX5_sour_X5_in rfl ⟨rfl, rfl⟩ (by decide +kernel) ⟨Nat.le_of_ble_eq_true rfl, Nat.le_of_ble_eq_true rfl⟩ ZF.room (As := [.long ((v).toInt64), .long 0, .long 9]) (n := 3) rfl rfl (st1 := [.int (bI (zil ((v).toInt64) 0 9))]) rfl (Nat.le_of_ble_eq_true rfl) dX5_sour_6 ?_
  refine z_top (y := bI (zin v 10)) (bI_eq (zil_k (n := 9) (by decide +kernel) (by omega))) ?_
  refine z_if_neB (tgt := 15) X dX5_sour_9 (by decide) (fun hq1 => ?_) (fun hq1 => ?_)
  ·
    obtain ⟨jv2, hj2, ej2⟩ := zin_t (by omega) hq1
    subst ej2
    have hc2 : tn (nI jv2) = jv2 := nI_clamp (by omega)
    refine z_aload_n X dX5_sour_15 rfl 0 rfl ?_
    refine z_get (v := .int (nI E)) (N := 29) X i_RX5 (ci := 4) rfl 0 rfl 4 (by decide) f_85 rfl dX5_sour_16 ?_
    refine z_if_neN (tgt := 25) X dX5_sour_19 (by decide) (by omega) (fun hq3 => ?_) (fun hq3 => ?_)
    ·
      refine z_aload_n X dX5_sour_25 rfl 0 rfl ?_
      refine z_get (v := .int so) (N := 29) X i_RX5 (ci := 4) rfl 0 rfl 1 (by decide) f_139 rfl dX5_sour_26 ?_
      refine z_istore_n (L' := [(2, .int so), (0, .ref (b 0)), (1, .int (nI jv2))]) X dX5_sour_29 rfl (by decide) rfl ?_
      refine z_aload_n X dX5_sour_30 rfl 1 rfl ?_
      refine z_iload_n X dX5_sour_31 rfl 2 rfl ?_
      refine z_put (ws' := (wM g b ft (nI jv2) D E tr C lk kd st sp nd rO rB rD rW sz sl sc sm xa xb xc xd y1 y2 y3 y4 y5 hn)) (N := 29) X i_RX5 (ci := 4) rfl tyX5 tyX5_ok nmX5 0 rfl 1 (by decide) f_139 rfl (ty := .int) (by decide +kernel) rfl rfl (Nat.le_of_ble_eq_true rfl) dX5_sour_32 rfl ?_
      refine z_iload_n X dX5_sour_35 rfl 0 rfl ?_
      have e4 : (if zin (nI jv2) 10 && decide (0 < E) then (nI jv2) else so) = (nI jv2) := by simp [hq1, hc2, hq3]; try omega
      exact z_iret X ZF dX5_sour_36 (by simp [hq1, hc2, hq3]; try omega) (by rw [e4])
    ·
      refine z_bipush (v := (-3)) X dX5_sour_22 (by decide) ?_
      have e5 : (if zin (nI jv2) 10 && decide (0 < E) then (nI jv2) else so) = so := by simp [hq1, hc2, hq3]; try omega
      exact z_iret X ZF dX5_sour_24 (by simp [hq1, hc2, hq3]; try omega) (by rw [e5])
  ·
    refine z_bipush (v := (-2)) X dX5_sour_12 (by decide) ?_
    have e6 : (if zin v 10 && decide (0 < E) then v else so) = so := by simp [hq1]; try omega
    exact z_iret X ZF dX5_sour_14 (by simp [hq1]; try omega) (by rw [e6])
abbrev rX5_crave : Room := { frames := 2, cells := 0, slots := 0, locals := 46 }
set_option maxHeartbeats 4000000 in
set_option maxRecDepth 100000 in
theorem c_X5_crave (l : Launch) (g : zg) (b : Nat → Nat) (ft : Int32) (so : Int32) (D : Nat) (E : Nat) (tr : Int32) (C : Nat) (lk : Nat → Int32) (kd : Nat → Int32) (st : Nat → Int32) (sp : Nat → Int32) (nd : Nat → Int32) (rO : Nat → Int32) (rB : Nat → Int32) (rD : Nat → Int32) (rW : Nat → Int32) (sz : Nat → Int32) (sl : Nat → Int32) (sc : Nat → Int32) (sm : Int32) (xa : Nat) (xb : Int32) (xc : Nat) (xd : Nat) (y1 : Nat → Int32) (y2 : Nat → Int32) (y3 : Nat → Int32) (y4 : Nat → Int32) (y5 : Nat → Int32) (hn : Nat → Int32) (x : Int32) (v : Int32) (hE : E ≤ 4) : zM l g yX5_crave wsX5_crave rX5_crave [.ref (b 0), .int x, .int v] (wM g b ft so D E tr C lk kd st sp nd rO rB rD rW sz sl sc sm xa xb xc xd y1 y2 y3 y4 y5 hn) (some (.int (if zin x E then (if zin v 7 then nd (tn x) else -2) else -1))) (wM g b ft so D E tr C lk kd st sp (if zin x E && zin v 7 then upd nd (tn x) v else nd) rO rB rD rW sz sl sc sm xa xb xc xd y1 y2 y3 y4 y5 hn) := by
  refine z_met (own := RX5) (cc := cX5_crave) (maxL := 4) (ret := some .int) (by decide +kernel) rfl rfl (Nat.le_of_ble_eq_true rfl) ?_
  intro M X ZF
  refine z_Le (L' := [(0, .ref (b 0)), (1, .int x), (2, .int v)]) rfl ?_
  have k_156 : Cond.constantLong RX5 156 (6) ∈ wsX5_crave := by decide +kernel
  have i_RX5 : ∀ w ∈ wsX50, w ∈ wsX5_crave := by decide +kernel
  have f_22 : Cond.fieldLink RX5 22 (TX5 8).1 (TX5 8).2.1 (TX5 8).2.2.1 ∈ wsX5_crave := by decide +kernel
  refine z_aload_n X dX5_crave_0 rfl 0 rfl ?_
  refine z_iload_n X dX5_crave_1 rfl 1 rfl ?_
  refine z_callVM X (c_X5_noEater l g b ft so D E tr C lk kd st sp nd rO rB rD rW sz sl sc sm xa xb xc xd y1 y2 y3 y4 y5 hn x (by omega)) gX5_crave_X5_noEater rfl ⟨rfl, rfl⟩ (by decide +kernel) ⟨Nat.le_of_ble_eq_true rfl, Nat.le_of_ble_eq_true rfl⟩ ZF.room (ci := 4) rfl 0 rfl rfl (As := [.int x]) (n := 1) rfl rfl (st1 := [.int (bI (!zin x E))]) rfl (Nat.le_of_ble_eq_true rfl) dX5_crave_2 ?_
  refine z_if_eqB (tgt := 10) X dX5_crave_5 (by decide) (fun hq1 => ?_) (fun hq1 => ?_)
  ·
    have hq2 : (zin x E) = true := by simpa using hq1
    obtain ⟨jv3, hj3, ej3⟩ := zin_t (by omega) hq2
    subst ej3
    have hc3 : tn (nI jv3) = jv3 := nI_clamp (by omega)
    refine z_iload_n X dX5_crave_10 rfl 2 rfl ?_
    refine z_i2l (v := (v).toInt64) X dX5_crave_11 rfl ?_
    refine z_lconst (v := 0) X dX5_crave_12 (by decide) ?_
    refine z_ldc2 (v := 6) X dX5_crave_13 k_156 ?_
    refine z_callS0 X (c_X5_in l g ((v).toInt64) 0 6) gX5_crave_X5_in rfl ⟨rfl, rfl⟩ (by decide +kernel) ⟨Nat.le_of_ble_eq_true rfl, Nat.le_of_ble_eq_true rfl⟩ ZF.room (As := [.long ((v).toInt64), .long 0, .long 6]) (n := 3) rfl rfl (st1 := [.int (bI (zil ((v).toInt64) 0 6))]) rfl (Nat.le_of_ble_eq_true rfl) dX5_crave_16 ?_
    refine z_top (y := bI (zin v 7)) (bI_eq (zil_k (n := 6) (by decide +kernel) (by omega))) ?_
    refine z_if_neB (tgt := 25) X dX5_crave_19 (by decide) (fun hq4 => ?_) (fun hq4 => ?_)
    ·
      obtain ⟨jv5, hj5, ej5⟩ := zin_t (by omega) hq4
      subst ej5
      have hc5 : tn (nI jv5) = jv5 := nI_clamp (by omega)
      refine z_aload_n X dX5_crave_25 rfl 0 rfl ?_
      refine z_get (v := .ref (b 5)) (N := 29) X i_RX5 (ci := 4) rfl 0 rfl 8 (by decide) f_22 rfl dX5_crave_26 ?_
      refine z_iload_n X dX5_crave_29 rfl 1 rfl ?_
      refine z_ialdN X 5 rfl (by omega) (by omega) dX5_crave_30 ?_
      refine z_istore_n (L' := [(3, .int (nd jv3)), (0, .ref (b 0)), (1, .int (nI jv3)), (2, .int (nI jv5))]) X dX5_crave_31 rfl (by decide) rfl ?_
      refine z_aload_n X dX5_crave_32 rfl 1 rfl ?_
      refine z_get (v := .ref (b 5)) (N := 29) X i_RX5 (ci := 4) rfl 0 rfl 8 (by decide) f_22 rfl dX5_crave_33 ?_
      refine z_iload_n X dX5_crave_36 rfl 2 rfl ?_
      refine z_iload_n X dX5_crave_37 rfl 3 rfl ?_
      refine z_iastN (ws' := (wM g b ft so D E tr C lk kd st sp (upd nd jv3 (nI jv5)) rO rB rD rW sz sl sc sm xa xb xc xd y1 y2 y3 y4 y5 hn)) X 5 rfl (by omega) (by omega) dX5_crave_38 rfl ?_
      refine z_iload_n X dX5_crave_39 rfl 0 rfl ?_
      have e6 : (if zin (nI jv3) E && zin (nI jv5) 7 then upd nd (tn (nI jv3)) (nI jv5) else nd) = (upd nd jv3 (nI jv5)) := by simp [hq2, hc3, hq4, hc5]
      exact z_iret X ZF dX5_crave_40 (by simp [hq2, hc3, hq4, hc5]) (by rw [e6])
    ·
      refine z_bipush (v := (-2)) X dX5_crave_22 (by decide) ?_
      have e7 : (if zin (nI jv3) E && zin v 7 then upd nd (tn (nI jv3)) v else nd) = nd := by simp [hq2, hc3, hq4]
      exact z_iret X ZF dX5_crave_24 (by simp [hq2, hc3, hq4]) (by rw [e7])
  ·
    have hq8 : (zin x E) = false := by simpa using hq1
    refine z_iconst (v := (-1)) X dX5_crave_8 (by decide) ?_
    have e9 : (if zin x E && zin v 7 then upd nd (tn x) v else nd) = nd := by simp [hq8]
    exact z_iret X ZF dX5_crave_9 (by simp [hq8]) (by rw [e9])
abbrev rX5_fasts : Room := { frames := 1, cells := 0, slots := 0, locals := 22 }
set_option maxHeartbeats 4000000 in
set_option maxRecDepth 100000 in
theorem c_X5_fasts (l : Launch) (g : zg) (b : Nat → Nat) (ft : Int32) (so : Int32) (D : Nat) (E : Nat) (tr : Int32) (C : Nat) (lk : Nat → Int32) (kd : Nat → Int32) (st : Nat → Int32) (sp : Nat → Int32) (nd : Nat → Int32) (rO : Nat → Int32) (rB : Nat → Int32) (rD : Nat → Int32) (rW : Nat → Int32) (sz : Nat → Int32) (sl : Nat → Int32) (sc : Nat → Int32) (sm : Int32) (xa : Nat) (xb : Int32) (xc : Nat) (xd : Nat) (y1 : Nat → Int32) (y2 : Nat → Int32) (y3 : Nat → Int32) (y4 : Nat → Int32) (y5 : Nat → Int32) (hn : Nat → Int32) (hE : E ≤ 4) (hD : D ≤ 6) (hsm : sm = (-9)) : zM l g yX5_fasts wsX5_fasts rX5_fasts [.ref (b 0)] (wM g b ft so D E tr C lk kd st sp nd rO rB rD rW sz sl sc sm xa xb xc xd y1 y2 y3 y4 y5 hn) (some (.int (if 0 < E then nI (fs lk so D) else -3))) (wM g b ft so D E tr C lk kd st sp nd rO rB rD rW sz sl sc sm xa xb xc xd y1 y2 y3 y4 y5 hn) := by
  refine z_met (own := RX5) (cc := cX5_fasts) (maxL := 1) (ret := some .int) (by decide +kernel) rfl rfl (Nat.le_of_ble_eq_true rfl) ?_
  intro M X ZF
  refine z_Le (L' := [(0, .ref (b 0))]) rfl ?_
  have hsm2 := hsm
  have hf9 : fsm lk so sm D = fs lk so D := by rw [hsm]; exact fsm_no hD
  have i_RX5 : ∀ w ∈ wsX50, w ∈ wsX5_fasts := by decide +kernel
  have f_85 : Cond.fieldLink RX5 85 (TX5 4).1 (TX5 4).2.1 (TX5 4).2.2.1 ∈ wsX5_fasts := by decide +kernel
  refine z_aload_n X dX5_fasts_0 rfl 0 rfl ?_
  refine z_get (v := .int (nI E)) (N := 29) X i_RX5 (ci := 4) rfl 0 rfl 4 (by decide) f_85 rfl dX5_fasts_1 ?_
  refine z_if_neN (tgt := 12) X dX5_fasts_4 (by decide) (by omega) (fun hq1 => ?_) (fun hq1 => ?_)
  ·
    refine z_aload_n X dX5_fasts_12 rfl 0 rfl ?_
    refine z_callVM X (c_X5_fastsNow l g b ft so D E tr C lk kd st sp nd rO rB rD rW sz sl sc sm xa xb xc xd y1 y2 y3 y4 y5 hn (by omega)) gX5_fasts_X5_fastsNow rfl ⟨rfl, rfl⟩ (by decide +kernel) ⟨Nat.le_of_ble_eq_true rfl, Nat.le_of_ble_eq_true rfl⟩ ZF.room (ci := 4) rfl 0 rfl rfl (As := []) (n := 0) rfl rfl (st1 := [.int (nI (fsm lk so sm D))]) rfl (Nat.le_of_ble_eq_true rfl) dX5_fasts_13 ?_
    exact z_iret X ZF dX5_fasts_16 (by first | (rw [if_pos (by omega), hf9]) | (rw [if_neg (by omega)])) rfl
  ·
    refine z_bipush (v := (-3)) X dX5_fasts_7 (by decide) ?_
    refine z_goto (tgt := 16) X dX5_fasts_9 (by decide) ?_
    exact z_iret X ZF dX5_fasts_16 (by first | (rw [if_pos (by omega), hf9]) | (rw [if_neg (by omega)])) rfl
abbrev rX5_yellow : Room := { frames := 2, cells := 0, slots := 0, locals := 48 }
set_option maxHeartbeats 4000000 in
set_option maxRecDepth 100000 in
theorem c_X5_yellow (l : Launch) (g : zg) (b : Nat → Nat) (ft : Int32) (so : Int32) (D : Nat) (E : Nat) (tr : Int32) (C : Nat) (lk : Nat → Int32) (kd : Nat → Int32) (st : Nat → Int32) (sp : Nat → Int32) (nd : Nat → Int32) (rO : Nat → Int32) (rB : Nat → Int32) (rD : Nat → Int32) (rW : Nat → Int32) (sz : Nat → Int32) (sl : Nat → Int32) (sc : Nat → Int32) (sm : Int32) (xa : Nat) (xb : Int32) (xc : Nat) (xd : Nat) (y1 : Nat → Int32) (y2 : Nat → Int32) (y3 : Nat → Int32) (y4 : Nat → Int32) (y5 : Nat → Int32) (hn : Nat → Int32) (x : Int32) (s : Int32) (hE : E ≤ 4) (hD : D ≤ 6) (hK : vK kd st E) : zM l g yX5_yellow wsX5_yellow rX5_yellow [.ref (b 0), .int x, .int s] (wM g b ft so D E tr C lk kd st sp nd rO rB rD rW sz sl sc sm xa xb xc xd y1 y2 y3 y4 y5 hn) (some (.int (if zin x E then (if zin s (2 ^ D) then nI (yl D (Lf kd st (tn x)) (tn s)) else -2) else -1))) (wM g b ft so D E tr C lk kd st sp nd rO rB rD rW sz sl sc sm xa xb xc xd y1 y2 y3 y4 y5 hn) := by
  refine z_met (own := RX5) (cc := cX5_yellow) (maxL := 3) (ret := some .int) (by decide +kernel) rfl rfl (Nat.le_of_ble_eq_true rfl) ?_
  intro M X ZF
  refine z_Le (L' := [(0, .ref (b 0)), (1, .int x), (2, .int s)]) rfl ?_
  have hL := vK_L hK
  have hpD : 2 ^ D ≤ 2 ^ 6 := Nat.pow_le_pow_right (by omega) hD
  refine z_aload_n X dX5_yellow_0 rfl 0 rfl ?_
  refine z_iload_n X dX5_yellow_1 rfl 1 rfl ?_
  refine z_callVM X (c_X5_noEater l g b ft so D E tr C lk kd st sp nd rO rB rD rW sz sl sc sm xa xb xc xd y1 y2 y3 y4 y5 hn x (by omega)) gX5_yellow_X5_noEater rfl ⟨rfl, rfl⟩ (by decide +kernel) ⟨Nat.le_of_ble_eq_true rfl, Nat.le_of_ble_eq_true rfl⟩ ZF.room (ci := 4) rfl 0 rfl rfl (As := [.int x]) (n := 1) rfl rfl (st1 := [.int (bI (!zin x E))]) rfl (Nat.le_of_ble_eq_true rfl) dX5_yellow_2 ?_
  refine z_if_eqB (tgt := 10) X dX5_yellow_5 (by decide) (fun hq1 => ?_) (fun hq1 => ?_)
  ·
    have hq2 : (zin x E) = true := by simpa using hq1
    obtain ⟨jv3, hj3, ej3⟩ := zin_t (by omega) hq2
    subst ej3
    have hc3 : tn (nI jv3) = jv3 := nI_clamp (by omega)
    refine z_aload_n X dX5_yellow_10 rfl 0 rfl ?_
    refine z_iload_n X dX5_yellow_11 rfl 2 rfl ?_
    refine z_callVM X (c_X5_noSet l g b ft so D E tr C lk kd st sp nd rO rB rD rW sz sl sc sm xa xb xc xd y1 y2 y3 y4 y5 hn s (by omega)) gX5_yellow_X5_noSet rfl ⟨rfl, rfl⟩ (by decide +kernel) ⟨Nat.le_of_ble_eq_true rfl, Nat.le_of_ble_eq_true rfl⟩ ZF.room (ci := 4) rfl 0 rfl rfl (As := [.int s]) (n := 1) rfl rfl (st1 := [.int (bI (!zin s (2 ^ D)))]) rfl (Nat.le_of_ble_eq_true rfl) dX5_yellow_12 ?_
    refine z_if_eqB (tgt := 23) X dX5_yellow_15 (by decide) (fun hq4 => ?_) (fun hq4 => ?_)
    ·
      have hq5 : (zin s (2 ^ D)) = true := by simpa using hq4
      obtain ⟨jv6, hj6, ej6⟩ := zin_t (by omega) hq5
      subst ej6
      have hc6 : tn (nI jv6) = jv6 := nI_clamp (by omega)
      refine z_aload_n X dX5_yellow_23 rfl 0 rfl ?_
      refine z_iload_n X dX5_yellow_24 rfl 1 rfl ?_
      refine z_iload_n X dX5_yellow_25 rfl 2 rfl ?_
      refine z_callVM X (c_X5_yellowBy l g b ft so D E tr C lk kd st sp nd rO rB rD rW sz sl sc sm xa xb xc xd y1 y2 y3 y4 y5 hn jv3 jv6 (by omega) (by omega) (by omega) (by first | assumption | omega) (by omega)) gX5_yellow_X5_yellowBy rfl ⟨rfl, rfl⟩ (by decide +kernel) ⟨Nat.le_of_ble_eq_true rfl, Nat.le_of_ble_eq_true rfl⟩ ZF.room (ci := 4) rfl 0 rfl rfl (As := [.int (nI jv3), .int (nI jv6)]) (n := 2) rfl rfl (st1 := [.int (nI (yl D (Lf kd st jv3) jv6))]) rfl (Nat.le_of_ble_eq_true rfl) dX5_yellow_26 ?_
      exact z_iret X ZF dX5_yellow_29 (by simp [hq2, hc3, hq5, hc6]) rfl
    ·
      have hq7 : (zin s (2 ^ D)) = false := by simpa using hq4
      refine z_bipush (v := (-2)) X dX5_yellow_18 (by decide) ?_
      refine z_goto (tgt := 29) X dX5_yellow_20 (by decide) ?_
      exact z_iret X ZF dX5_yellow_29 (by simp [hq2, hc3, hq7]) rfl
  ·
    have hq8 : (zin x E) = false := by simpa using hq1
    refine z_iconst (v := (-1)) X dX5_yellow_8 (by decide) ?_
    exact z_iret X ZF dX5_yellow_9 (by simp [hq8]) rfl
abbrev rX5_found : Room := { frames := 4, cells := 0, slots := 0, locals := 92 }
set_option maxHeartbeats 4000000 in
set_option maxRecDepth 100000 in
theorem c_X5_found (l : Launch) (g : zg) (b : Nat → Nat) (ft : Int32) (so : Int32) (D : Nat) (E : Nat) (tr : Int32) (C : Nat) (lk : Nat → Int32) (kd : Nat → Int32) (st : Nat → Int32) (sp : Nat → Int32) (nd : Nat → Int32) (rO : Nat → Int32) (rB : Nat → Int32) (rD : Nat → Int32) (rW : Nat → Int32) (sz : Nat → Int32) (sl : Nat → Int32) (sc : Nat → Int32) (sm : Int32) (xa : Nat) (xb : Int32) (xc : Nat) (xd : Nat) (y1 : Nat → Int32) (y2 : Nat → Int32) (y3 : Nat → Int32) (y4 : Nat → Int32) (y5 : Nat → Int32) (hn : Nat → Int32) (x : Int32) (s : Int32) (w : Int32) (hE : E ≤ 4) (hD : D ≤ 6) (hK : vK kd st E) (hSp : vS sp E) (hsm : sm = (-9)) : zM l g yX5_found wsX5_found rX5_found [.ref (b 0), .int x, .int s, .int w] (wM g b ft so D E tr C lk kd st sp nd rO rB rD rW sz sl sc sm xa xb xc xd y1 y2 y3 y4 y5 hn) (some (.int (if zin x E then (if zin s (2 ^ D) && zin w 2 then (if tn w = 0 then nI (fnd D (Lf kd st (tn x)) (tn s) (fs lk so D)) else nI (pc (fnd D (Lf kd st (tn x)) (tn s) (fs lk so D)) * tn (sp (tn x)))) else -2) else -1))) (wM g b ft so D E tr C lk kd st sp nd rO rB rD rW sz sl sc sm xa xb xc xd y1 y2 y3 y4 y5 hn) := by
  refine z_met (own := RX5) (cc := cX5_found) (maxL := 4) (ret := some .int) (by decide +kernel) rfl rfl (Nat.le_of_ble_eq_true rfl) ?_
  intro M X ZF
  refine z_Le (L' := [(0, .ref (b 0)), (1, .int x), (2, .int s), (3, .int w)]) rfl ?_
  have hsm2 := hsm
  have hL := vK_L hK
  have hpD : 2 ^ D ≤ 2 ^ 6 := Nat.pow_le_pow_right (by omega) hD
  have hf9 : fsm lk so sm D = fs lk so D := by rw [hsm]; exact fsm_no hD
  refine z_aload_n X dX5_found_0 rfl 0 rfl ?_
  refine z_iload_n X dX5_found_1 rfl 1 rfl ?_
  refine z_callVM X (c_X5_noEater l g b ft so D E tr C lk kd st sp nd rO rB rD rW sz sl sc sm xa xb xc xd y1 y2 y3 y4 y5 hn x (by omega)) gX5_found_X5_noEater rfl ⟨rfl, rfl⟩ (by decide +kernel) ⟨Nat.le_of_ble_eq_true rfl, Nat.le_of_ble_eq_true rfl⟩ ZF.room (ci := 4) rfl 0 rfl rfl (As := [.int x]) (n := 1) rfl rfl (st1 := [.int (bI (!zin x E))]) rfl (Nat.le_of_ble_eq_true rfl) dX5_found_2 ?_
  refine z_if_eqB (tgt := 10) X dX5_found_5 (by decide) (fun hq1 => ?_) (fun hq1 => ?_)
  ·
    have hq2 : (zin x E) = true := by simpa using hq1
    obtain ⟨jv3, hj3, ej3⟩ := zin_t (by omega) hq2
    subst ej3
    have hc3 : tn (nI jv3) = jv3 := nI_clamp (by omega)
    refine z_aload_n X dX5_found_10 rfl 0 rfl ?_
    refine z_iload_n X dX5_found_11 rfl 2 rfl ?_
    refine z_callVM X (c_X5_noSet l g b ft so D E tr C lk kd st sp nd rO rB rD rW sz sl sc sm xa xb xc xd y1 y2 y3 y4 y5 hn s (by omega)) gX5_found_X5_noSet rfl ⟨rfl, rfl⟩ (by decide +kernel) ⟨Nat.le_of_ble_eq_true rfl, Nat.le_of_ble_eq_true rfl⟩ ZF.room (ci := 4) rfl 0 rfl rfl (As := [.int s]) (n := 1) rfl rfl (st1 := [.int (bI (!zin s (2 ^ D)))]) rfl (Nat.le_of_ble_eq_true rfl) dX5_found_12 ?_
    refine z_if_neB (tgt := 28) X dX5_found_15 (by decide) (fun hq4 => ?_) (fun hq4 => ?_)
    ·
      have hq5 : (zin s (2 ^ D)) = false := by simpa using hq4
      refine z_bipush (v := (-2)) X dX5_found_28 (by decide) ?_
      exact z_iret X ZF dX5_found_30 (by simp [hf9, Nat.mul_comm, z02, t00, hq2, hc3, hq5]) rfl
    ·
      have hq6 : (zin s (2 ^ D)) = true := by simpa using hq4
      obtain ⟨jv7, hj7, ej7⟩ := zin_t (by omega) hq6
      subst ej7
      have hc7 : tn (nI jv7) = jv7 := nI_clamp (by omega)
      refine z_iload_n X dX5_found_18 rfl 3 rfl ?_
      refine z_i2l (v := (w).toInt64) X dX5_found_19 rfl ?_
      refine z_lconst (v := 0) X dX5_found_20 (by decide) ?_
      refine z_lconst (v := 1) X dX5_found_21 (by decide) ?_
      refine z_callS0 X (c_X5_in l g ((w).toInt64) 0 1) gX5_found_X5_in rfl ⟨rfl, rfl⟩ (by decide +kernel) ⟨Nat.le_of_ble_eq_true rfl, Nat.le_of_ble_eq_true rfl⟩ ZF.room (As := [.long ((w).toInt64), .long 0, .long 1]) (n := 3) rfl rfl (st1 := [.int (bI (zil ((w).toInt64) 0 1))]) rfl (Nat.le_of_ble_eq_true rfl) dX5_found_22 ?_
      refine z_top (y := bI (zin w 2)) (bI_eq (zil_k (n := 1) (by decide +kernel) (by omega))) ?_
      refine z_if_neB (tgt := 31) X dX5_found_25 (by decide) (fun hq8 => ?_) (fun hq8 => ?_)
      ·
        obtain ⟨jv9, hj9, ej9⟩ := zin_t (by omega) hq8
        subst ej9
        have hc9 : tn (nI jv9) = jv9 := nI_clamp (by omega)
        refine z_iload_n X dX5_found_31 rfl 3 rfl ?_
        refine z_if_neN (tgt := 44) X dX5_found_32 (by decide) (by omega) (fun hq10 => ?_) (fun hq10 => ?_)
        ·
          refine z_aload_n X dX5_found_44 rfl 0 rfl ?_
          refine z_iload_n X dX5_found_45 rfl 1 rfl ?_
          refine z_iload_n X dX5_found_46 rfl 2 rfl ?_
          refine z_callVM X (c_X5_fineOf l g b ft so D E tr C lk kd st sp nd rO rB rD rW sz sl sc sm xa xb xc xd y1 y2 y3 y4 y5 hn jv3 jv7 (by omega) (by omega) (by omega) (by first | assumption | omega) (by first | assumption | omega) (by omega)) gX5_found_X5_fineOf rfl ⟨rfl, rfl⟩ (by decide +kernel) ⟨Nat.le_of_ble_eq_true rfl, Nat.le_of_ble_eq_true rfl⟩ ZF.room (ci := 4) rfl 0 rfl rfl (As := [.int (nI jv3), .int (nI jv7)]) (n := 2) rfl rfl (st1 := [.int (nI (tn (sp jv3) * pc (fnd D (Lf kd st jv3) jv7 (fsm lk so sm D))))]) rfl (Nat.le_of_ble_eq_true rfl) dX5_found_47 ?_
          exact z_iret X ZF dX5_found_50 (by simp [hf9, Nat.mul_comm, z02, t00, hq2, hc3, hq6, hc7, hq8, hc9, hq10]) rfl
        ·
          refine z_aload_n X dX5_found_35 rfl 0 rfl ?_
          refine z_iload_n X dX5_found_36 rfl 1 rfl ?_
          refine z_iload_n X dX5_found_37 rfl 2 rfl ?_
          refine z_callVM X (c_X5_foundBy l g b ft so D E tr C lk kd st sp nd rO rB rD rW sz sl sc sm xa xb xc xd y1 y2 y3 y4 y5 hn jv3 jv7 (by omega) (by omega) (by omega) (by first | assumption | omega) (by omega)) gX5_found_X5_foundBy rfl ⟨rfl, rfl⟩ (by decide +kernel) ⟨Nat.le_of_ble_eq_true rfl, Nat.le_of_ble_eq_true rfl⟩ ZF.room (ci := 4) rfl 0 rfl rfl (As := [.int (nI jv3), .int (nI jv7)]) (n := 2) rfl rfl (st1 := [.int (nI (fnd D (Lf kd st jv3) jv7 (fsm lk so sm D)))]) rfl (Nat.le_of_ble_eq_true rfl) dX5_found_38 ?_
          refine z_goto (tgt := 50) X dX5_found_41 (by decide) ?_
          exact z_iret X ZF dX5_found_50 (by simp [hf9, Nat.mul_comm, z02, t00, hq2, hc3, hq6, hc7, hq8, hc9, hq10]) rfl
      ·
        refine z_bipush (v := (-2)) X dX5_found_28 (by decide) ?_
        exact z_iret X ZF dX5_found_30 (by simp [hf9, Nat.mul_comm, z02, t00, hq2, hc3, hq6, hc7, hq8]) rfl
  ·
    have hq11 : (zin x E) = false := by simpa using hq1
    refine z_iconst (v := (-1)) X dX5_found_8 (by decide) ?_
    exact z_iret X ZF dX5_found_9 (by simp [hf9, Nat.mul_comm, z02, t00, hq11]) rfl
abbrev rX5_best : Room := { frames := 5, cells := 0, slots := 0, locals := 117 }
set_option maxHeartbeats 4000000 in
set_option maxRecDepth 100000 in
theorem c_X5_best (l : Launch) (g : zg) (b : Nat → Nat) (ft : Int32) (so : Int32) (D : Nat) (E : Nat) (tr : Int32) (C : Nat) (lk : Nat → Int32) (kd : Nat → Int32) (st : Nat → Int32) (sp : Nat → Int32) (nd : Nat → Int32) (rO : Nat → Int32) (rB : Nat → Int32) (rD : Nat → Int32) (rW : Nat → Int32) (sz : Nat → Int32) (sl : Nat → Int32) (sc : Nat → Int32) (sm : Int32) (xa : Nat) (xb : Int32) (xc : Nat) (xd : Nat) (y1 : Nat → Int32) (y2 : Nat → Int32) (y3 : Nat → Int32) (y4 : Nat → Int32) (y5 : Nat → Int32) (hn : Nat → Int32) (x : Int32) (w : Int32) (hE : E ≤ 4) (hD : D ≤ 6) (hK : vK kd st E) (hSp : vS sp E) (hsm : sm = (-9)) : zM l g yX5_best wsX5_best rX5_best [.ref (b 0), .int x, .int w] (wM g b ft so D E tr C lk kd st sp nd rO rB rD rW sz sl sc sm xa xb xc xd y1 y2 y3 y4 y5 hn) (some (.int (if zin x E then (if zin w 2 then besI (bst D (Lf kd st (tn x)) (nd (tn x)) (fs lk so D)) w (tn (sp (tn x))) else -2) else -1))) (wM g b ft so D E tr C lk kd st sp nd rO rB rD rW sz sl sc sm xa xb xc xd y1 y2 y3 y4 y5 hn) := by
  refine z_met (own := RX5) (cc := cX5_best) (maxL := 4) (ret := some .int) (by decide +kernel) rfl rfl (Nat.le_of_ble_eq_true rfl) ?_
  intro M X ZF
  refine z_Le (L' := [(0, .ref (b 0)), (1, .int x), (2, .int w)]) rfl ?_
  have hsm2 := hsm
  have hL := vK_L hK
  have hpD : 2 ^ D ≤ 2 ^ 6 := Nat.pow_le_pow_right (by omega) hD
  have hf9 : fsm lk so sm D = fs lk so D := by rw [hsm]; exact fsm_no hD
  refine z_aload_n X dX5_best_0 rfl 0 rfl ?_
  refine z_iload_n X dX5_best_1 rfl 1 rfl ?_
  refine z_callVM X (c_X5_noEater l g b ft so D E tr C lk kd st sp nd rO rB rD rW sz sl sc sm xa xb xc xd y1 y2 y3 y4 y5 hn x (by omega)) gX5_best_X5_noEater rfl ⟨rfl, rfl⟩ (by decide +kernel) ⟨Nat.le_of_ble_eq_true rfl, Nat.le_of_ble_eq_true rfl⟩ ZF.room (ci := 4) rfl 0 rfl rfl (As := [.int x]) (n := 1) rfl rfl (st1 := [.int (bI (!zin x E))]) rfl (Nat.le_of_ble_eq_true rfl) dX5_best_2 ?_
  refine z_if_eqB (tgt := 10) X dX5_best_5 (by decide) (fun hq1 => ?_) (fun hq1 => ?_)
  ·
    have hq2 : (zin x E) = true := by simpa using hq1
    obtain ⟨jv3, hj3, ej3⟩ := zin_t (by omega) hq2
    subst ej3
    have hc3 : tn (nI jv3) = jv3 := nI_clamp (by omega)
    refine z_iload_n X dX5_best_10 rfl 2 rfl ?_
    refine z_i2l (v := (w).toInt64) X dX5_best_11 rfl ?_
    refine z_lconst (v := 0) X dX5_best_12 (by decide) ?_
    refine z_lconst (v := 1) X dX5_best_13 (by decide) ?_
    refine z_callS0 X (c_X5_in l g ((w).toInt64) 0 1) gX5_best_X5_in rfl ⟨rfl, rfl⟩ (by decide +kernel) ⟨Nat.le_of_ble_eq_true rfl, Nat.le_of_ble_eq_true rfl⟩ ZF.room (As := [.long ((w).toInt64), .long 0, .long 1]) (n := 3) rfl rfl (st1 := [.int (bI (zil ((w).toInt64) 0 1))]) rfl (Nat.le_of_ble_eq_true rfl) dX5_best_14 ?_
    refine z_top (y := bI (zin w 2)) (bI_eq (zil_k (n := 1) (by decide +kernel) (by omega))) ?_
    refine z_if_neB (tgt := 23) X dX5_best_17 (by decide) (fun hq4 => ?_) (fun hq4 => ?_)
    ·
      obtain ⟨jv5, hj5, ej5⟩ := zin_t (by omega) hq4
      subst ej5
      have hc5 : tn (nI jv5) = jv5 := nI_clamp (by omega)
      refine z_aload_n X dX5_best_23 rfl 0 rfl ?_
      refine z_iload_n X dX5_best_24 rfl 1 rfl ?_
      refine z_callVM X (c_X5_bestOf l g b ft so D E tr C lk kd st sp nd rO rB rD rW sz sl sc sm xa xb xc xd y1 y2 y3 y4 y5 hn jv3 (by omega) (by omega) (by omega) (by first | assumption | omega) (by first | assumption | omega)) gX5_best_X5_bestOf rfl ⟨rfl, rfl⟩ (by decide +kernel) ⟨Nat.le_of_ble_eq_true rfl, Nat.le_of_ble_eq_true rfl⟩ ZF.room (ci := 4) rfl 0 rfl rfl (As := [.int (nI jv3)]) (n := 1) rfl rfl (st1 := [.int (obI (bst D (Lf kd st jv3) (nd jv3) (fsm lk so sm D)))]) rfl (Nat.le_of_ble_eq_true rfl) dX5_best_25 ?_
      refine z_top (y := obI (bst D (Lf kd st jv3) (nd jv3) (fs lk so D))) (by rw [hf9]) ?_
      rcases hbv : bst D (Lf kd st jv3) (nd jv3) (fs lk so D) with _ | ⟨b_v, m_v⟩
      ·
        refine z_st (st' := [.int (-9)]) rfl ?_
        refine z_istore_n (L' := [(3, .int (-9)), (0, .ref (b 0)), (1, .int (nI jv3)), (2, .int (nI jv5))]) X dX5_best_28 rfl (by decide) rfl ?_
        refine z_iload_n X dX5_best_29 rfl 0 rfl ?_
        refine z_if_ge (tgt := 38) X dX5_best_30 (by decide) (fun hq6 => ?_) (fun hq6 => ?_)
        ·
          exact absurd hq6 (by decide)
        ·
          refine z_bipush (v := (-9)) X dX5_best_33 (by decide) ?_
          refine z_goto (tgt := 52) X dX5_best_35 (by decide) ?_
          exact z_iret X ZF dX5_best_52 (by simp [besI, hf9, z02, t00, hq2, hc3, hq4, hc5, hbv, hq6]; try (rw [hbl.2.2, Nat.mul_comm])) rfl
      ·
        have hbl := bst_lt hbv
        refine z_st (st' := [.int (nI b_v)]) rfl ?_
        refine z_istore_n (L' := [(3, .int (nI b_v)), (0, .ref (b 0)), (1, .int (nI jv3)), (2, .int (nI jv5))]) X dX5_best_28 rfl (by decide) rfl ?_
        refine z_iload_n X dX5_best_29 rfl 0 rfl ?_
        refine z_if_geN (tgt := 38) X dX5_best_30 (by decide) (by omega) (fun hq7 => ?_) (fun hq7 => ?_)
        ·
          refine z_iload_n X dX5_best_38 rfl 3 rfl ?_
          refine z_if_neN (tgt := 46) X dX5_best_39 (by decide) (by omega) (fun hq8 => ?_) (fun hq8 => ?_)
          ·
            refine z_aload_n X dX5_best_46 rfl 1 rfl ?_
            refine z_iload_n X dX5_best_47 rfl 2 rfl ?_
            refine z_iload_n X dX5_best_48 rfl 0 rfl ?_
            refine z_callVM X (c_X5_fineOf l g b ft so D E tr C lk kd st sp nd rO rB rD rW sz sl sc sm xa xb xc xd y1 y2 y3 y4 y5 hn jv3 b_v (by omega) (by omega) (by omega) (by first | assumption | omega) (by first | assumption | omega) hbl.1) gX5_best_X5_fineOf rfl ⟨rfl, rfl⟩ (by decide +kernel) ⟨Nat.le_of_ble_eq_true rfl, Nat.le_of_ble_eq_true rfl⟩ ZF.room (ci := 4) rfl 0 rfl rfl (As := [.int (nI jv3), .int (nI b_v)]) (n := 2) rfl rfl (st1 := [.int (nI (tn (sp jv3) * pc (fnd D (Lf kd st jv3) b_v (fsm lk so sm D))))]) rfl (Nat.le_of_ble_eq_true rfl) dX5_best_49 ?_
            exact z_iret X ZF dX5_best_52 (by simp [besI, hf9, z02, t00, hq2, hc3, hq4, hc5, hbv, hq7, hq8]; try (rw [hbl.2.2, Nat.mul_comm])) rfl
          ·
            refine z_iload_n X dX5_best_42 rfl 0 rfl ?_
            refine z_goto (tgt := 52) X dX5_best_43 (by decide) ?_
            exact z_iret X ZF dX5_best_52 (by simp [besI, hf9, z02, t00, hq2, hc3, hq4, hc5, hbv, hq7, hq8]; try (rw [hbl.2.2, Nat.mul_comm])) rfl
        ·
          exact absurd hq7 (by omega)
    ·
      refine z_bipush (v := (-2)) X dX5_best_20 (by decide) ?_
      exact z_iret X ZF dX5_best_22 (by simp [besI, hf9, z02, t00, hq2, hc3, hq4]; try (rw [hbl.2.2, Nat.mul_comm])) rfl
  ·
    have hq9 : (zin x E) = false := by simpa using hq1
    refine z_iconst (v := (-1)) X dX5_best_8 (by decide) ?_
    exact z_iret X ZF dX5_best_9 (by simp [besI, hf9, z02, t00, hq9]; try (rw [hbl.2.2, Nat.mul_comm])) rfl
abbrev rX5_village : Room := { frames := 6, cells := 0, slots := 0, locals := 141 }
set_option maxHeartbeats 4000000 in
set_option maxRecDepth 100000 in
theorem c_X5_village (l : Launch) (g : zg) (b : Nat → Nat) (ft : Int32) (so : Int32) (D : Nat) (E : Nat) (tr : Int32) (C : Nat) (lk : Nat → Int32) (kd : Nat → Int32) (st : Nat → Int32) (sp : Nat → Int32) (nd : Nat → Int32) (rO : Nat → Int32) (rB : Nat → Int32) (rD : Nat → Int32) (rW : Nat → Int32) (sz : Nat → Int32) (sl : Nat → Int32) (sc : Nat → Int32) (sm : Int32) (xa : Nat) (xb : Int32) (xc : Nat) (xd : Nat) (y1 : Nat → Int32) (y2 : Nat → Int32) (y3 : Nat → Int32) (y4 : Nat → Int32) (y5 : Nat → Int32) (hn : Nat → Int32) (hE : E ≤ 4) (hD : D ≤ 6) (hK : vK kd st E) (hSp : vS sp E) (hsm : sm = (-9)) : zM l g yX5_village wsX5_village rX5_village [.ref (b 0)] (wM g b ft so D E tr C lk kd st sp nd rO rB rD rW sz sl sc sm xa xb xc xd y1 y2 y3 y4 y5 hn) (some (.int (if 0 < E then onI (vil D kd st sp nd (fs lk so D) E) else -3))) (wM g b ft so D E tr C lk kd st sp nd rO rB rD rW sz sl sc sm xa xb xc xd y1 y2 y3 y4 y5 hn) := by
  refine z_met (own := RX5) (cc := cX5_village) (maxL := 1) (ret := some .int) (by decide +kernel) rfl rfl (Nat.le_of_ble_eq_true rfl) ?_
  intro M X ZF
  refine z_Le (L' := [(0, .ref (b 0))]) rfl ?_
  have hsm2 := hsm
  have hL := vK_L hK
  have hf9 : fsm lk so sm D = fs lk so D := by rw [hsm]; exact fsm_no hD
  have i_RX5 : ∀ w ∈ wsX50, w ∈ wsX5_village := by decide +kernel
  have f_85 : Cond.fieldLink RX5 85 (TX5 4).1 (TX5 4).2.1 (TX5 4).2.2.1 ∈ wsX5_village := by decide +kernel
  refine z_aload_n X dX5_village_0 rfl 0 rfl ?_
  refine z_get (v := .int (nI E)) (N := 29) X i_RX5 (ci := 4) rfl 0 rfl 4 (by decide) f_85 rfl dX5_village_1 ?_
  refine z_if_neN (tgt := 12) X dX5_village_4 (by decide) (by omega) (fun hq1 => ?_) (fun hq1 => ?_)
  ·
    refine z_aload_n X dX5_village_12 rfl 0 rfl ?_
    refine z_callVM X (c_X5_villageNow l g b ft so D E tr C lk kd st sp nd rO rB rD rW sz sl sc sm xa xb xc xd y1 y2 y3 y4 y5 hn (by omega) (by omega) (by first | assumption | omega) (by first | assumption | omega)) gX5_village_X5_villageNow rfl ⟨rfl, rfl⟩ (by decide +kernel) ⟨Nat.le_of_ble_eq_true rfl, Nat.le_of_ble_eq_true rfl⟩ ZF.room (ci := 4) rfl 0 rfl rfl (As := []) (n := 0) rfl rfl (st1 := [.int (onI (vil D kd st sp nd (fsm lk so sm D) E))]) rfl (Nat.le_of_ble_eq_true rfl) dX5_village_13 ?_
    exact z_iret X ZF dX5_village_16 (by first | (rw [if_pos (by omega), hf9]) | (rw [if_neg (by omega)])) rfl
  ·
    refine z_bipush (v := (-3)) X dX5_village_7 (by decide) ?_
    refine z_goto (tgt := 16) X dX5_village_9 (by decide) ?_
    exact z_iret X ZF dX5_village_16 (by first | (rw [if_pos (by omega), hf9]) | (rw [if_neg (by omega)])) rfl
abbrev rX5_smile : Room := { frames := 6, cells := 0, slots := 0, locals := 141 }
set_option maxHeartbeats 4000000 in
set_option maxRecDepth 100000 in
theorem c_X5_smile (l : Launch) (g : zg) (b : Nat → Nat) (ft : Int32) (so : Int32) (D : Nat) (E : Nat) (tr : Int32) (C : Nat) (lk : Nat → Int32) (kd : Nat → Int32) (st : Nat → Int32) (sp : Nat → Int32) (nd : Nat → Int32) (rO : Nat → Int32) (rB : Nat → Int32) (rD : Nat → Int32) (rW : Nat → Int32) (sz : Nat → Int32) (sl : Nat → Int32) (sc : Nat → Int32) (sm : Int32) (xa : Nat) (xb : Int32) (xc : Nat) (xd : Nat) (y1 : Nat → Int32) (y2 : Nat → Int32) (y3 : Nat → Int32) (y4 : Nat → Int32) (y5 : Nat → Int32) (hn : Nat → Int32) (w : Int32) (hE : E ≤ 4) (hD : D ≤ 6) (hK : vK kd st E) (hSp : vS sp E) (hsm : sm = (-9)) : zM l g yX5_smile wsX5_smile rX5_smile [.ref (b 0), .int w] (wM g b ft so D E tr C lk kd st sp nd rO rB rD rW sz sl sc sm xa xb xc xd y1 y2 y3 y4 y5 hn) (some (.int (if zin w 2 then (if 0 < E then smiI (smF D E kd st sp nd (fs lk so D) D) w else -3) else -2))) (wM g b ft so D E tr C lk kd st sp nd rO rB rD rW sz sl sc (-9) xa xb xc xd y1 y2 y3 y4 y5 hn) := by
  refine z_met (own := RX5) (cc := cX5_smile) (maxL := 8) (ret := some .int) (by decide +kernel) rfl rfl (Nat.le_of_ble_eq_true rfl) ?_
  intro M X ZF
  refine z_Le (L' := [(0, .ref (b 0)), (1, .int w)]) rfl ?_
  have hsm2 := hsm
  have hL := vK_L hK
  have hf9 : fsm lk so sm D = fs lk so D := by rw [hsm]; exact fsm_no hD
  have hfs := fs_lt6 (lk := lk) (so := so) hD
  have i_RX5 : ∀ w ∈ wsX50, w ∈ wsX5_smile := by decide +kernel
  have f_85 : Cond.fieldLink RX5 85 (TX5 4).1 (TX5 4).2.1 (TX5 4).2.2.1 ∈ wsX5_smile := by decide +kernel
  have f_78 : Cond.fieldLink RX5 78 (TX5 2).1 (TX5 2).2.1 (TX5 2).2.2.1 ∈ wsX5_smile := by decide +kernel
  have f_25 : Cond.fieldLink RX5 25 (TX5 9).1 (TX5 9).2.1 (TX5 9).2.2.1 ∈ wsX5_smile := by decide +kernel
  refine z_iload_n X dX5_smile_0 rfl 1 rfl ?_
  refine z_i2l (v := (w).toInt64) X dX5_smile_1 rfl ?_
  refine z_lconst (v := 0) X dX5_smile_2 (by decide) ?_
  refine z_lconst (v := 1) X dX5_smile_3 (by decide) ?_
  refine z_callS0 X (c_X5_in l g ((w).toInt64) 0 1) gX5_smile_X5_in rfl ⟨rfl, rfl⟩ (by decide +kernel) ⟨Nat.le_of_ble_eq_true rfl, Nat.le_of_ble_eq_true rfl⟩ ZF.room (As := [.long ((w).toInt64), .long 0, .long 1]) (n := 3) rfl rfl (st1 := [.int (bI (zil ((w).toInt64) 0 1))]) rfl (Nat.le_of_ble_eq_true rfl) dX5_smile_4 ?_
  refine z_top (y := bI (zin w 2)) (bI_eq (zil_k (n := 1) (by decide +kernel) (by omega))) ?_
  refine z_if_neB (tgt := 13) X dX5_smile_7 (by decide) (fun hq1 => ?_) (fun hq1 => ?_)
  ·
    obtain ⟨jv2, hj2, ej2⟩ := zin_t (by omega) hq1
    subst ej2
    have hc2 : tn (nI jv2) = jv2 := nI_clamp (by omega)
    refine z_aload_n X dX5_smile_13 rfl 0 rfl ?_
    refine z_get (v := .int (nI E)) (N := 29) X i_RX5 (ci := 4) rfl 0 rfl 4 (by decide) f_85 rfl dX5_smile_14 ?_
    refine z_if_neN (tgt := 23) X dX5_smile_17 (by decide) (by omega) (fun hq3 => ?_) (fun hq3 => ?_)
    ·
      refine z_aload_n X dX5_smile_23 rfl 0 rfl ?_
      refine z_callVM X (c_X5_fastsNow l g b ft so D E tr C lk kd st sp nd rO rB rD rW sz sl sc sm xa xb xc xd y1 y2 y3 y4 y5 hn (by omega)) gX5_smile_X5_fastsNow rfl ⟨rfl, rfl⟩ (by decide +kernel) ⟨Nat.le_of_ble_eq_true rfl, Nat.le_of_ble_eq_true rfl⟩ ZF.room (ci := 4) rfl 0 rfl rfl (As := []) (n := 0) rfl rfl (st1 := [.int (nI (fsm lk so sm D))]) rfl (Nat.le_of_ble_eq_true rfl) dX5_smile_24 ?_
      refine z_top (y := nI (fs lk so D)) (by rw [hf9]) ?_
      refine z_istore_n (L' := [(2, .int (nI (fs lk so D))), (0, .ref (b 0)), (1, .int (nI jv2))]) X dX5_smile_27 rfl (by decide) rfl ?_
      refine z_bipush (v := (-9)) X dX5_smile_28 (by decide) ?_
      refine z_istore_n (L' := [(3, .int (-9)), (2, .int (nI (fs lk so D))), (0, .ref (b 0)), (1, .int (nI jv2))]) X dX5_smile_30 rfl (by decide) rfl ?_
      refine z_bipush (v := (-9)) X dX5_smile_31 (by decide) ?_
      refine z_istore (L' := [(4, .int (-9)), (3, .int (-9)), (2, .int (nI (fs lk so D))), (0, .ref (b 0)), (1, .int (nI jv2))]) X dX5_smile_33 (by decide) rfl ?_
      refine z_iconst (v := nI 0) X dX5_smile_35 (by decide) ?_
      refine z_istore (L' := [(5, .int (nI 0)), (4, .int (-9)), (3, .int (-9)), (2, .int (nI (fs lk so D))), (0, .ref (b 0)), (1, .int (nI jv2))]) X dX5_smile_36 (by decide) rfl ?_
      have loopv4 : ∀ (n4 d_v : Nat) (sm_v : Int32), d_v ≤ D → D + 1 ≤ d_v + n4 → zG l g 8 M (wM g b ft so D E tr C lk kd st sp nd rO rB rD rW sz sl sc sm_v xa xb xc xd y1 y2 y3 y4 y5 hn) [(0, .ref (b 0)), (1, .int (nI jv2)), (2, .int (nI (fs lk so D))), (3, .int (obI (smF D E kd st sp nd (fs lk so D) d_v))), (4, .int (omI (smF D E kd st sp nd (fs lk so D) d_v))), (5, .int (nI d_v))] 38 [] := by
        intro n4
        induction n4 with
        | zero => intro d_v sm_v h1 h2; exact absurd h2 (by omega)
        | succ n4 ih4 =>
          intro d_v sm_v hi4 hn4
          refine z_iload X dX5_smile_38 5 rfl ?_
          refine z_aload_n X dX5_smile_40 rfl 0 rfl ?_
          refine z_get (v := .int (nI D)) (N := 29) X i_RX5 (ci := 4) rfl 0 rfl 2 (by decide) f_78 rfl dX5_smile_41 ?_
          refine z_icmp_geN (tgt := 123) X dX5_smile_44 (by decide) (by omega) (by omega) (fun hq5 => ?_) (fun hq5 => ?_)
          ·
            refine z_aload_n X dX5_smile_123 rfl 0 rfl ?_
            refine z_bipush (v := (-9)) X dX5_smile_124 (by decide) ?_
            refine z_put (ws' := (wM g b ft so D E tr C lk kd st sp nd rO rB rD rW sz sl sc (-9) xa xb xc xd y1 y2 y3 y4 y5 hn)) (N := 29) X i_RX5 (ci := 4) rfl tyX5 tyX5_ok nmX5 0 rfl 9 (by decide) f_25 rfl (ty := .int) (by decide +kernel) rfl rfl (Nat.le_of_ble_eq_true rfl) dX5_smile_126 rfl ?_
            refine z_iload_n X dX5_smile_129 rfl 1 rfl ?_
            refine z_if_neN (tgt := 137) X dX5_smile_130 (by decide) (by omega) (fun hq6 => ?_) (fun hq6 => ?_)
            ·
              refine z_iload X dX5_smile_137 4 rfl ?_
              exact z_iret X ZF dX5_smile_139 (by rw [show d_v = D by omega]; cases smF D E kd st sp nd (fs lk so D) D <;> simp [smiI, obI, omI, z02, t00, hq1, hc2, hq3, hq5, hq6]; try omega) rfl
            ·
              refine z_iload_n X dX5_smile_133 rfl 3 rfl ?_
              refine z_goto (tgt := 139) X dX5_smile_134 (by decide) ?_
              exact z_iret X ZF dX5_smile_139 (by rw [show d_v = D by omega]; cases smF D E kd st sp nd (fs lk so D) D <;> simp [smiI, obI, omI, z02, t00, hq1, hc2, hq3, hq5, hq6]; try omega) rfl
          ·
            rcases hbv : smF D E kd st sp nd (fs lk so D) d_v with _ | ⟨s_v, m_v⟩
            ·
              refine z_Le (L' := [(0, .ref (b 0)), (1, .int (nI jv2)), (2, .int (nI (fs lk so D))), (3, .int (-9)), (4, .int (-9)), (5, .int (nI d_v))]) rfl ?_
              refine z_iload_n X dX5_smile_47 rfl 2 rfl ?_
              refine z_iload X dX5_smile_48 5 rfl ?_
              refine z_callS0 X (c_X5_isIn l g (fs lk so D) d_v (by omega) (by omega)) gX5_smile_X5_isIn rfl ⟨rfl, rfl⟩ (by decide +kernel) ⟨Nat.le_of_ble_eq_true rfl, Nat.le_of_ble_eq_true rfl⟩ ZF.room (As := [.int (nI (fs lk so D)), .int (nI d_v)]) (n := 2) rfl rfl (st1 := [.int (bI (zbt (fs lk so D) d_v))]) rfl (Nat.le_of_ble_eq_true rfl) dX5_smile_50 ?_
              refine z_if_eqB (tgt := 117) X dX5_smile_53 (by decide) (fun hq7 => ?_) (fun hq7 => ?_)
              ·
                refine z_iinc (v := nI (d_v + 1)) (L' := [(5, .int (nI (d_v + 1))), (0, .ref (b 0)), (1, .int (nI jv2)), (2, .int (nI (fs lk so D))), (3, .int (-9)), (4, .int (-9))]) X dX5_smile_117 5 rfl (nI_inc d_v 1) (by decide) rfl ?_
                refine z_goto (tgt := 38) X dX5_smile_120 (by decide) ?_
                refine z_ls (L' := [(0, .ref (b 0)), (1, .int (nI jv2)), (2, .int (nI (fs lk so D))), (3, .int (-9)), (4, .int (-9)), (5, .int (nI (d_v + 1)))]) [1, 2, 3, 4, 5, 0] rfl ?_
                have e8 : (-9) = (obI (smF D E kd st sp nd (fs lk so D) (d_v + 1))) := by first | rfl | simp [smF, obI, omI, hq1, hc2, hq3, hq5, hbv, hq7]
                have e9 : (-9) = (omI (smF D E kd st sp nd (fs lk so D) (d_v + 1))) := by first | rfl | simp [smF, obI, omI, hq1, hc2, hq3, hq5, hbv, hq7]
                refine z_Le (L' := [(0, .ref (b 0)), (1, .int (nI jv2)), (2, .int (nI (fs lk so D))), (3, .int (obI (smF D E kd st sp nd (fs lk so D) (d_v + 1)))), (4, .int (omI (smF D E kd st sp nd (fs lk so D) (d_v + 1)))), (5, .int (nI (d_v + 1)))]) (by rw [← e8, ← e9]) ?_
                exact ih4 (d_v + 1) sm_v (by omega) (by omega)
              ·
                refine z_aload_n X dX5_smile_56 rfl 0 rfl ?_
                refine z_iload X dX5_smile_57 5 rfl ?_
                refine z_put (ws' := (wM g b ft so D E tr C lk kd st sp nd rO rB rD rW sz sl sc (nI d_v) xa xb xc xd y1 y2 y3 y4 y5 hn)) (N := 29) X i_RX5 (ci := 4) rfl tyX5 tyX5_ok nmX5 0 rfl 9 (by decide) f_25 rfl (ty := .int) (by decide +kernel) rfl rfl (Nat.le_of_ble_eq_true rfl) dX5_smile_59 rfl ?_
                refine z_aload_n X dX5_smile_62 rfl 0 rfl ?_
                refine z_callVM X (c_X5_villageNow l g b ft so D E tr C lk kd st sp nd rO rB rD rW sz sl sc (nI d_v) xa xb xc xd y1 y2 y3 y4 y5 hn (by omega) (by omega) (by first | assumption | omega) (by first | assumption | omega)) gX5_smile_X5_villageNow rfl ⟨rfl, rfl⟩ (by decide +kernel) ⟨Nat.le_of_ble_eq_true rfl, Nat.le_of_ble_eq_true rfl⟩ ZF.room (ci := 4) rfl 0 rfl rfl (As := []) (n := 0) rfl rfl (st1 := [.int (onI (vil D kd st sp nd (fsm lk so (nI d_v) D) E))]) rfl (Nat.le_of_ble_eq_true rfl) dX5_smile_63 ?_
                refine z_top (y := onI (vil D kd st sp nd (clr (fs lk so D) d_v) E)) (by rw [fsm_clr (by omega) hD]) ?_
                refine z_istore (L' := [(6, .int (onI (vil D kd st sp nd (clr (fs lk so D) d_v) E))), (0, .ref (b 0)), (1, .int (nI jv2)), (2, .int (nI (fs lk so D))), (3, .int (-9)), (4, .int (-9)), (5, .int (nI d_v))]) X dX5_smile_66 (by decide) rfl ?_
                rcases hv : vil D kd st sp nd (clr (fs lk so D) d_v) E with _ | p_v
                ·
                  refine z_Le (L' := [(6, .int (-9)), (0, .ref (b 0)), (1, .int (nI jv2)), (2, .int (nI (fs lk so D))), (3, .int (-9)), (4, .int (-9)), (5, .int (nI d_v))]) rfl ?_
                  refine z_iload X dX5_smile_68 0 rfl ?_
                  refine z_if_lt (tgt := 88) X dX5_smile_70 (by decide) (fun hq10 => ?_) (fun hq10 => ?_)
                  ·
                    refine z_iconst (v := nI 0) X dX5_smile_88 (by decide) ?_
                    refine z_istore (L' := [(7, .int (nI 0)), (6, .int (-9)), (0, .ref (b 0)), (1, .int (nI jv2)), (2, .int (nI (fs lk so D))), (3, .int (-9)), (4, .int (-9)), (5, .int (nI d_v))]) X dX5_smile_89 (by decide) rfl ?_
                    refine z_iload X dX5_smile_91 0 rfl ?_
                    refine z_if_eqN (tgt := 101) X dX5_smile_93 (by decide) (by omega) (fun hq11 => ?_) (fun hq11 => ?_)
                    ·
                      refine z_iload_n X dX5_smile_101 rfl 5 rfl ?_
                      refine z_istore_n (L' := [(3, .int (-9)), (7, .int (nI 0)), (6, .int (-9)), (0, .ref (b 0)), (1, .int (nI jv2)), (2, .int (nI (fs lk so D))), (4, .int (-9)), (5, .int (nI d_v))]) X dX5_smile_102 rfl (by decide) rfl ?_
                      refine z_iload X dX5_smile_103 1 rfl ?_
                      refine z_if_eqN (tgt := 113) X dX5_smile_105 (by decide) (by omega) (fun hq12 => ?_) (fun hq12 => ?_)
                      ·
                        refine z_iload X dX5_smile_113 6 rfl ?_
                        refine z_istore (L' := [(4, .int (-9)), (3, .int (-9)), (7, .int (nI 0)), (6, .int (-9)), (0, .ref (b 0)), (1, .int (nI jv2)), (2, .int (nI (fs lk so D))), (5, .int (nI d_v))]) X dX5_smile_115 (by decide) rfl ?_
                        refine z_iinc (v := nI (d_v + 1)) (L' := [(5, .int (nI (d_v + 1))), (4, .int (-9)), (3, .int (-9)), (7, .int (nI 0)), (6, .int (-9)), (0, .ref (b 0)), (1, .int (nI jv2)), (2, .int (nI (fs lk so D)))]) X dX5_smile_117 7 rfl (nI_inc d_v 1) (by decide) rfl ?_
                        refine z_goto (tgt := 38) X dX5_smile_120 (by decide) ?_
                        refine z_ls (L' := [(0, .ref (b 0)), (1, .int (nI jv2)), (2, .int (nI (fs lk so D))), (3, .int (-9)), (4, .int (-9)), (5, .int (nI (d_v + 1)))]) [5, 6, 7, 2, 1, 0] rfl ?_
                        have e13 : (-9) = (obI (smF D E kd st sp nd (fs lk so D) (d_v + 1))) := by first | rfl | simp [smF, obI, omI, hq1, hc2, hq3, hq5, hbv, hq7, hv, hq10, hq11, hq12]
                        have e14 : (-9) = (omI (smF D E kd st sp nd (fs lk so D) (d_v + 1))) := by first | rfl | simp [smF, obI, omI, hq1, hc2, hq3, hq5, hbv, hq7, hv, hq10, hq11, hq12]
                        refine z_Le (L' := [(0, .ref (b 0)), (1, .int (nI jv2)), (2, .int (nI (fs lk so D))), (3, .int (obI (smF D E kd st sp nd (fs lk so D) (d_v + 1)))), (4, .int (omI (smF D E kd st sp nd (fs lk so D) (d_v + 1)))), (5, .int (nI (d_v + 1)))]) (by rw [← e13, ← e14]) ?_
                        have e15 : (nI d_v) = (nI d_v) := by first | rfl | simp [smF, obI, omI, hq1, hc2, hq3, hq5, hbv, hq7, hv, hq10, hq11, hq12]
                        refine z_ws (ws' := (wM g b ft so D E tr C lk kd st sp nd rO rB rD rW sz sl sc (nI d_v) xa xb xc xd y1 y2 y3 y4 y5 hn)) (by rw [← e15]) ?_
                        exact ih4 (d_v + 1) (nI d_v) (by omega) (by omega)
                      ·
                        exact absurd hq12 (by decide)
                    ·
                      exact absurd hq11 (by decide)
                  ·
                    exact absurd hq10 (by decide)
                ·
                  have hvl := vil_le E hSp hv
                  refine z_Le (L' := [(6, .int (nI p_v)), (0, .ref (b 0)), (1, .int (nI jv2)), (2, .int (nI (fs lk so D))), (3, .int (-9)), (4, .int (-9)), (5, .int (nI d_v))]) rfl ?_
                  refine z_iload X dX5_smile_68 0 rfl ?_
                  refine z_if_ltN (tgt := 88) X dX5_smile_70 (by decide) (by omega) (fun hq16 => ?_) (fun hq16 => ?_)
                  ·
                    exact absurd hq16 (by omega)
                  ·
                    refine z_iload_n X dX5_smile_73 rfl 4 rfl ?_
                    refine z_if_lt (tgt := 84) X dX5_smile_74 (by decide) (fun hq17 => ?_) (fun hq17 => ?_)
                    ·
                      refine z_iconst (v := nI 1) X dX5_smile_84 (by decide) ?_
                      refine z_goto (tgt := 89) X dX5_smile_85 (by decide) ?_
                      refine z_istore (L' := [(7, .int (nI 1)), (6, .int (nI p_v)), (0, .ref (b 0)), (1, .int (nI jv2)), (2, .int (nI (fs lk so D))), (3, .int (-9)), (4, .int (-9)), (5, .int (nI d_v))]) X dX5_smile_89 (by decide) rfl ?_
                      refine z_iload X dX5_smile_91 0 rfl ?_
                      refine z_if_eqN (tgt := 101) X dX5_smile_93 (by decide) (by omega) (fun hq18 => ?_) (fun hq18 => ?_)
                      ·
                        exact absurd hq18 (by decide)
                      ·
                        refine z_iload X dX5_smile_96 7 rfl ?_
                        refine z_goto (tgt := 102) X dX5_smile_98 (by decide) ?_
                        refine z_istore_n (L' := [(3, .int (nI d_v)), (7, .int (nI 1)), (6, .int (nI p_v)), (0, .ref (b 0)), (1, .int (nI jv2)), (2, .int (nI (fs lk so D))), (4, .int (-9)), (5, .int (nI d_v))]) X dX5_smile_102 rfl (by decide) rfl ?_
                        refine z_iload X dX5_smile_103 1 rfl ?_
                        refine z_if_eqN (tgt := 113) X dX5_smile_105 (by decide) (by omega) (fun hq19 => ?_) (fun hq19 => ?_)
                        ·
                          exact absurd hq19 (by decide)
                        ·
                          refine z_iload X dX5_smile_108 2 rfl ?_
                          refine z_goto (tgt := 115) X dX5_smile_110 (by decide) ?_
                          refine z_istore (L' := [(4, .int (nI p_v)), (3, .int (nI d_v)), (7, .int (nI 1)), (6, .int (nI p_v)), (0, .ref (b 0)), (1, .int (nI jv2)), (2, .int (nI (fs lk so D))), (5, .int (nI d_v))]) X dX5_smile_115 (by decide) rfl ?_
                          refine z_iinc (v := nI (d_v + 1)) (L' := [(5, .int (nI (d_v + 1))), (4, .int (nI p_v)), (3, .int (nI d_v)), (7, .int (nI 1)), (6, .int (nI p_v)), (0, .ref (b 0)), (1, .int (nI jv2)), (2, .int (nI (fs lk so D)))]) X dX5_smile_117 7 rfl (nI_inc d_v 1) (by decide) rfl ?_
                          refine z_goto (tgt := 38) X dX5_smile_120 (by decide) ?_
                          refine z_ls (L' := [(0, .ref (b 0)), (1, .int (nI jv2)), (2, .int (nI (fs lk so D))), (3, .int (nI d_v)), (4, .int (nI p_v)), (5, .int (nI (d_v + 1)))]) [5, 6, 7, 2, 1, 0] rfl ?_
                          have e20 : (nI d_v) = (obI (smF D E kd st sp nd (fs lk so D) (d_v + 1))) := by first | rfl | simp [smF, obI, omI, hq1, hc2, hq3, hq5, hbv, hq7, hv, hq16, hq17, hq18, hq19]
                          have e21 : (nI p_v) = (omI (smF D E kd st sp nd (fs lk so D) (d_v + 1))) := by first | rfl | simp [smF, obI, omI, hq1, hc2, hq3, hq5, hbv, hq7, hv, hq16, hq17, hq18, hq19]
                          refine z_Le (L' := [(0, .ref (b 0)), (1, .int (nI jv2)), (2, .int (nI (fs lk so D))), (3, .int (obI (smF D E kd st sp nd (fs lk so D) (d_v + 1)))), (4, .int (omI (smF D E kd st sp nd (fs lk so D) (d_v + 1)))), (5, .int (nI (d_v + 1)))]) (by rw [← e20, ← e21]) ?_
                          have e22 : (nI d_v) = (nI d_v) := by first | rfl | simp [smF, obI, omI, hq1, hc2, hq3, hq5, hbv, hq7, hv, hq16, hq17, hq18, hq19]
                          refine z_ws (ws' := (wM g b ft so D E tr C lk kd st sp nd rO rB rD rW sz sl sc (nI d_v) xa xb xc xd y1 y2 y3 y4 y5 hn)) (by rw [← e22]) ?_
                          exact ih4 (d_v + 1) (nI d_v) (by omega) (by omega)
                    ·
                      exact absurd hq17 (by decide)
            ·
              have hsl := smF_le hSp _ hbv
              refine z_Le (L' := [(0, .ref (b 0)), (1, .int (nI jv2)), (2, .int (nI (fs lk so D))), (3, .int (nI s_v)), (4, .int (nI m_v)), (5, .int (nI d_v))]) rfl ?_
              refine z_iload_n X dX5_smile_47 rfl 2 rfl ?_
              refine z_iload X dX5_smile_48 5 rfl ?_
              refine z_callS0 X (c_X5_isIn l g (fs lk so D) d_v (by omega) (by omega)) gX5_smile_X5_isIn rfl ⟨rfl, rfl⟩ (by decide +kernel) ⟨Nat.le_of_ble_eq_true rfl, Nat.le_of_ble_eq_true rfl⟩ ZF.room (As := [.int (nI (fs lk so D)), .int (nI d_v)]) (n := 2) rfl rfl (st1 := [.int (bI (zbt (fs lk so D) d_v))]) rfl (Nat.le_of_ble_eq_true rfl) dX5_smile_50 ?_
              refine z_if_eqB (tgt := 117) X dX5_smile_53 (by decide) (fun hq23 => ?_) (fun hq23 => ?_)
              ·
                refine z_iinc (v := nI (d_v + 1)) (L' := [(5, .int (nI (d_v + 1))), (0, .ref (b 0)), (1, .int (nI jv2)), (2, .int (nI (fs lk so D))), (3, .int (nI s_v)), (4, .int (nI m_v))]) X dX5_smile_117 5 rfl (nI_inc d_v 1) (by decide) rfl ?_
                refine z_goto (tgt := 38) X dX5_smile_120 (by decide) ?_
                refine z_ls (L' := [(0, .ref (b 0)), (1, .int (nI jv2)), (2, .int (nI (fs lk so D))), (3, .int (nI s_v)), (4, .int (nI m_v)), (5, .int (nI (d_v + 1)))]) [1, 2, 3, 4, 5, 0] rfl ?_
                have e24 : (nI s_v) = (obI (smF D E kd st sp nd (fs lk so D) (d_v + 1))) := by first | rfl | simp [smF, obI, omI, hq1, hc2, hq3, hq5, hbv, hq23]
                have e25 : (nI m_v) = (omI (smF D E kd st sp nd (fs lk so D) (d_v + 1))) := by first | rfl | simp [smF, obI, omI, hq1, hc2, hq3, hq5, hbv, hq23]
                refine z_Le (L' := [(0, .ref (b 0)), (1, .int (nI jv2)), (2, .int (nI (fs lk so D))), (3, .int (obI (smF D E kd st sp nd (fs lk so D) (d_v + 1)))), (4, .int (omI (smF D E kd st sp nd (fs lk so D) (d_v + 1)))), (5, .int (nI (d_v + 1)))]) (by rw [← e24, ← e25]) ?_
                exact ih4 (d_v + 1) sm_v (by omega) (by omega)
              ·
                refine z_aload_n X dX5_smile_56 rfl 0 rfl ?_
                refine z_iload X dX5_smile_57 5 rfl ?_
                refine z_put (ws' := (wM g b ft so D E tr C lk kd st sp nd rO rB rD rW sz sl sc (nI d_v) xa xb xc xd y1 y2 y3 y4 y5 hn)) (N := 29) X i_RX5 (ci := 4) rfl tyX5 tyX5_ok nmX5 0 rfl 9 (by decide) f_25 rfl (ty := .int) (by decide +kernel) rfl rfl (Nat.le_of_ble_eq_true rfl) dX5_smile_59 rfl ?_
                refine z_aload_n X dX5_smile_62 rfl 0 rfl ?_
                refine z_callVM X (c_X5_villageNow l g b ft so D E tr C lk kd st sp nd rO rB rD rW sz sl sc (nI d_v) xa xb xc xd y1 y2 y3 y4 y5 hn (by omega) (by omega) (by first | assumption | omega) (by first | assumption | omega)) gX5_smile_X5_villageNow rfl ⟨rfl, rfl⟩ (by decide +kernel) ⟨Nat.le_of_ble_eq_true rfl, Nat.le_of_ble_eq_true rfl⟩ ZF.room (ci := 4) rfl 0 rfl rfl (As := []) (n := 0) rfl rfl (st1 := [.int (onI (vil D kd st sp nd (fsm lk so (nI d_v) D) E))]) rfl (Nat.le_of_ble_eq_true rfl) dX5_smile_63 ?_
                refine z_top (y := onI (vil D kd st sp nd (clr (fs lk so D) d_v) E)) (by rw [fsm_clr (by omega) hD]) ?_
                refine z_istore (L' := [(6, .int (onI (vil D kd st sp nd (clr (fs lk so D) d_v) E))), (0, .ref (b 0)), (1, .int (nI jv2)), (2, .int (nI (fs lk so D))), (3, .int (nI s_v)), (4, .int (nI m_v)), (5, .int (nI d_v))]) X dX5_smile_66 (by decide) rfl ?_
                rcases hv : vil D kd st sp nd (clr (fs lk so D) d_v) E with _ | p_v
                ·
                  refine z_Le (L' := [(6, .int (-9)), (0, .ref (b 0)), (1, .int (nI jv2)), (2, .int (nI (fs lk so D))), (3, .int (nI s_v)), (4, .int (nI m_v)), (5, .int (nI d_v))]) rfl ?_
                  refine z_iload X dX5_smile_68 0 rfl ?_
                  refine z_if_lt (tgt := 88) X dX5_smile_70 (by decide) (fun hq26 => ?_) (fun hq26 => ?_)
                  ·
                    refine z_iconst (v := nI 0) X dX5_smile_88 (by decide) ?_
                    refine z_istore (L' := [(7, .int (nI 0)), (6, .int (-9)), (0, .ref (b 0)), (1, .int (nI jv2)), (2, .int (nI (fs lk so D))), (3, .int (nI s_v)), (4, .int (nI m_v)), (5, .int (nI d_v))]) X dX5_smile_89 (by decide) rfl ?_
                    refine z_iload X dX5_smile_91 0 rfl ?_
                    refine z_if_eqN (tgt := 101) X dX5_smile_93 (by decide) (by omega) (fun hq27 => ?_) (fun hq27 => ?_)
                    ·
                      refine z_iload_n X dX5_smile_101 rfl 5 rfl ?_
                      refine z_istore_n (L' := [(3, .int (nI s_v)), (7, .int (nI 0)), (6, .int (-9)), (0, .ref (b 0)), (1, .int (nI jv2)), (2, .int (nI (fs lk so D))), (4, .int (nI m_v)), (5, .int (nI d_v))]) X dX5_smile_102 rfl (by decide) rfl ?_
                      refine z_iload X dX5_smile_103 1 rfl ?_
                      refine z_if_eqN (tgt := 113) X dX5_smile_105 (by decide) (by omega) (fun hq28 => ?_) (fun hq28 => ?_)
                      ·
                        refine z_iload X dX5_smile_113 6 rfl ?_
                        refine z_istore (L' := [(4, .int (nI m_v)), (3, .int (nI s_v)), (7, .int (nI 0)), (6, .int (-9)), (0, .ref (b 0)), (1, .int (nI jv2)), (2, .int (nI (fs lk so D))), (5, .int (nI d_v))]) X dX5_smile_115 (by decide) rfl ?_
                        refine z_iinc (v := nI (d_v + 1)) (L' := [(5, .int (nI (d_v + 1))), (4, .int (nI m_v)), (3, .int (nI s_v)), (7, .int (nI 0)), (6, .int (-9)), (0, .ref (b 0)), (1, .int (nI jv2)), (2, .int (nI (fs lk so D)))]) X dX5_smile_117 7 rfl (nI_inc d_v 1) (by decide) rfl ?_
                        refine z_goto (tgt := 38) X dX5_smile_120 (by decide) ?_
                        refine z_ls (L' := [(0, .ref (b 0)), (1, .int (nI jv2)), (2, .int (nI (fs lk so D))), (3, .int (nI s_v)), (4, .int (nI m_v)), (5, .int (nI (d_v + 1)))]) [5, 6, 7, 2, 1, 0] rfl ?_
                        have e29 : (nI s_v) = (obI (smF D E kd st sp nd (fs lk so D) (d_v + 1))) := by first | rfl | simp [smF, obI, omI, hq1, hc2, hq3, hq5, hbv, hq23, hv, hq26, hq27, hq28]
                        have e30 : (nI m_v) = (omI (smF D E kd st sp nd (fs lk so D) (d_v + 1))) := by first | rfl | simp [smF, obI, omI, hq1, hc2, hq3, hq5, hbv, hq23, hv, hq26, hq27, hq28]
                        refine z_Le (L' := [(0, .ref (b 0)), (1, .int (nI jv2)), (2, .int (nI (fs lk so D))), (3, .int (obI (smF D E kd st sp nd (fs lk so D) (d_v + 1)))), (4, .int (omI (smF D E kd st sp nd (fs lk so D) (d_v + 1)))), (5, .int (nI (d_v + 1)))]) (by rw [← e29, ← e30]) ?_
                        have e31 : (nI d_v) = (nI d_v) := by first | rfl | simp [smF, obI, omI, hq1, hc2, hq3, hq5, hbv, hq23, hv, hq26, hq27, hq28]
                        refine z_ws (ws' := (wM g b ft so D E tr C lk kd st sp nd rO rB rD rW sz sl sc (nI d_v) xa xb xc xd y1 y2 y3 y4 y5 hn)) (by rw [← e31]) ?_
                        exact ih4 (d_v + 1) (nI d_v) (by omega) (by omega)
                      ·
                        exact absurd hq28 (by decide)
                    ·
                      exact absurd hq27 (by decide)
                  ·
                    exact absurd hq26 (by decide)
                ·
                  have hvl := vil_le E hSp hv
                  refine z_Le (L' := [(6, .int (nI p_v)), (0, .ref (b 0)), (1, .int (nI jv2)), (2, .int (nI (fs lk so D))), (3, .int (nI s_v)), (4, .int (nI m_v)), (5, .int (nI d_v))]) rfl ?_
                  refine z_iload X dX5_smile_68 0 rfl ?_
                  refine z_if_ltN (tgt := 88) X dX5_smile_70 (by decide) (by omega) (fun hq32 => ?_) (fun hq32 => ?_)
                  ·
                    exact absurd hq32 (by omega)
                  ·
                    refine z_iload_n X dX5_smile_73 rfl 4 rfl ?_
                    refine z_if_ltN (tgt := 84) X dX5_smile_74 (by decide) (by omega) (fun hq33 => ?_) (fun hq33 => ?_)
                    ·
                      exact absurd hq33 (by omega)
                    ·
                      refine z_iload X dX5_smile_77 0 rfl ?_
                      refine z_iload X dX5_smile_79 5 rfl ?_
                      refine z_icmp_geN (tgt := 88) X dX5_smile_81 (by decide) (by omega) (by omega) (fun hq34 => ?_) (fun hq34 => ?_)
                      ·
                        have hnl : ¬ p_v < m_v := by omega
                        refine z_iconst (v := nI 0) X dX5_smile_88 (by decide) ?_
                        refine z_istore (L' := [(7, .int (nI 0)), (6, .int (nI p_v)), (0, .ref (b 0)), (1, .int (nI jv2)), (2, .int (nI (fs lk so D))), (3, .int (nI s_v)), (4, .int (nI m_v)), (5, .int (nI d_v))]) X dX5_smile_89 (by decide) rfl ?_
                        refine z_iload X dX5_smile_91 0 rfl ?_
                        refine z_if_eqN (tgt := 101) X dX5_smile_93 (by decide) (by omega) (fun hq35 => ?_) (fun hq35 => ?_)
                        ·
                          refine z_iload_n X dX5_smile_101 rfl 5 rfl ?_
                          refine z_istore_n (L' := [(3, .int (nI s_v)), (7, .int (nI 0)), (6, .int (nI p_v)), (0, .ref (b 0)), (1, .int (nI jv2)), (2, .int (nI (fs lk so D))), (4, .int (nI m_v)), (5, .int (nI d_v))]) X dX5_smile_102 rfl (by decide) rfl ?_
                          refine z_iload X dX5_smile_103 1 rfl ?_
                          refine z_if_eqN (tgt := 113) X dX5_smile_105 (by decide) (by omega) (fun hq36 => ?_) (fun hq36 => ?_)
                          ·
                            refine z_iload X dX5_smile_113 6 rfl ?_
                            refine z_istore (L' := [(4, .int (nI m_v)), (3, .int (nI s_v)), (7, .int (nI 0)), (6, .int (nI p_v)), (0, .ref (b 0)), (1, .int (nI jv2)), (2, .int (nI (fs lk so D))), (5, .int (nI d_v))]) X dX5_smile_115 (by decide) rfl ?_
                            refine z_iinc (v := nI (d_v + 1)) (L' := [(5, .int (nI (d_v + 1))), (4, .int (nI m_v)), (3, .int (nI s_v)), (7, .int (nI 0)), (6, .int (nI p_v)), (0, .ref (b 0)), (1, .int (nI jv2)), (2, .int (nI (fs lk so D)))]) X dX5_smile_117 7 rfl (nI_inc d_v 1) (by decide) rfl ?_
                            refine z_goto (tgt := 38) X dX5_smile_120 (by decide) ?_
                            refine z_ls (L' := [(0, .ref (b 0)), (1, .int (nI jv2)), (2, .int (nI (fs lk so D))), (3, .int (nI s_v)), (4, .int (nI m_v)), (5, .int (nI (d_v + 1)))]) [5, 6, 7, 2, 1, 0] rfl ?_
                            have e37 : (nI s_v) = (obI (smF D E kd st sp nd (fs lk so D) (d_v + 1))) := by first | rfl | simp [smF, obI, omI, hq1, hc2, hq3, hq5, hbv, hq23, hv, hq32, hq33, hq34, hnl, hq35, hq36]
                            have e38 : (nI m_v) = (omI (smF D E kd st sp nd (fs lk so D) (d_v + 1))) := by first | rfl | simp [smF, obI, omI, hq1, hc2, hq3, hq5, hbv, hq23, hv, hq32, hq33, hq34, hnl, hq35, hq36]
                            refine z_Le (L' := [(0, .ref (b 0)), (1, .int (nI jv2)), (2, .int (nI (fs lk so D))), (3, .int (obI (smF D E kd st sp nd (fs lk so D) (d_v + 1)))), (4, .int (omI (smF D E kd st sp nd (fs lk so D) (d_v + 1)))), (5, .int (nI (d_v + 1)))]) (by rw [← e37, ← e38]) ?_
                            have e39 : (nI d_v) = (nI d_v) := by first | rfl | simp [smF, obI, omI, hq1, hc2, hq3, hq5, hbv, hq23, hv, hq32, hq33, hq34, hnl, hq35, hq36]
                            refine z_ws (ws' := (wM g b ft so D E tr C lk kd st sp nd rO rB rD rW sz sl sc (nI d_v) xa xb xc xd y1 y2 y3 y4 y5 hn)) (by rw [← e39]) ?_
                            exact ih4 (d_v + 1) (nI d_v) (by omega) (by omega)
                          ·
                            exact absurd hq36 (by decide)
                        ·
                          exact absurd hq35 (by decide)
                      ·
                        refine z_iconst (v := nI 1) X dX5_smile_84 (by decide) ?_
                        refine z_goto (tgt := 89) X dX5_smile_85 (by decide) ?_
                        refine z_istore (L' := [(7, .int (nI 1)), (6, .int (nI p_v)), (0, .ref (b 0)), (1, .int (nI jv2)), (2, .int (nI (fs lk so D))), (3, .int (nI s_v)), (4, .int (nI m_v)), (5, .int (nI d_v))]) X dX5_smile_89 (by decide) rfl ?_
                        refine z_iload X dX5_smile_91 0 rfl ?_
                        refine z_if_eqN (tgt := 101) X dX5_smile_93 (by decide) (by omega) (fun hq40 => ?_) (fun hq40 => ?_)
                        ·
                          exact absurd hq40 (by decide)
                        ·
                          refine z_iload X dX5_smile_96 7 rfl ?_
                          refine z_goto (tgt := 102) X dX5_smile_98 (by decide) ?_
                          refine z_istore_n (L' := [(3, .int (nI d_v)), (7, .int (nI 1)), (6, .int (nI p_v)), (0, .ref (b 0)), (1, .int (nI jv2)), (2, .int (nI (fs lk so D))), (4, .int (nI m_v)), (5, .int (nI d_v))]) X dX5_smile_102 rfl (by decide) rfl ?_
                          refine z_iload X dX5_smile_103 1 rfl ?_
                          refine z_if_eqN (tgt := 113) X dX5_smile_105 (by decide) (by omega) (fun hq41 => ?_) (fun hq41 => ?_)
                          ·
                            exact absurd hq41 (by decide)
                          ·
                            refine z_iload X dX5_smile_108 2 rfl ?_
                            refine z_goto (tgt := 115) X dX5_smile_110 (by decide) ?_
                            refine z_istore (L' := [(4, .int (nI p_v)), (3, .int (nI d_v)), (7, .int (nI 1)), (6, .int (nI p_v)), (0, .ref (b 0)), (1, .int (nI jv2)), (2, .int (nI (fs lk so D))), (5, .int (nI d_v))]) X dX5_smile_115 (by decide) rfl ?_
                            refine z_iinc (v := nI (d_v + 1)) (L' := [(5, .int (nI (d_v + 1))), (4, .int (nI p_v)), (3, .int (nI d_v)), (7, .int (nI 1)), (6, .int (nI p_v)), (0, .ref (b 0)), (1, .int (nI jv2)), (2, .int (nI (fs lk so D)))]) X dX5_smile_117 7 rfl (nI_inc d_v 1) (by decide) rfl ?_
                            refine z_goto (tgt := 38) X dX5_smile_120 (by decide) ?_
                            refine z_ls (L' := [(0, .ref (b 0)), (1, .int (nI jv2)), (2, .int (nI (fs lk so D))), (3, .int (nI d_v)), (4, .int (nI p_v)), (5, .int (nI (d_v + 1)))]) [5, 6, 7, 2, 1, 0] rfl ?_
                            have e42 : (nI d_v) = (obI (smF D E kd st sp nd (fs lk so D) (d_v + 1))) := by first | rfl | simp [smF, obI, omI, hq1, hc2, hq3, hq5, hbv, hq23, hv, hq32, hq33, hq34, hq40, hq41]
                            have e43 : (nI p_v) = (omI (smF D E kd st sp nd (fs lk so D) (d_v + 1))) := by first | rfl | simp [smF, obI, omI, hq1, hc2, hq3, hq5, hbv, hq23, hv, hq32, hq33, hq34, hq40, hq41]
                            refine z_Le (L' := [(0, .ref (b 0)), (1, .int (nI jv2)), (2, .int (nI (fs lk so D))), (3, .int (obI (smF D E kd st sp nd (fs lk so D) (d_v + 1)))), (4, .int (omI (smF D E kd st sp nd (fs lk so D) (d_v + 1)))), (5, .int (nI (d_v + 1)))]) (by rw [← e42, ← e43]) ?_
                            have e44 : (nI d_v) = (nI d_v) := by first | rfl | simp [smF, obI, omI, hq1, hc2, hq3, hq5, hbv, hq23, hv, hq32, hq33, hq34, hq40, hq41]
                            refine z_ws (ws' := (wM g b ft so D E tr C lk kd st sp nd rO rB rD rW sz sl sc (nI d_v) xa xb xc xd y1 y2 y3 y4 y5 hn)) (by rw [← e44]) ?_
                            exact ih4 (d_v + 1) (nI d_v) (by omega) (by omega)
      refine z_ls (L' := [(0, .ref (b 0)), (1, .int (nI jv2)), (2, .int (nI (fs lk so D))), (3, .int (-9)), (4, .int (-9)), (5, .int (nI 0))]) [4, 5, 3, 2, 1, 0] rfl ?_
      have e45 : (-9) = (obI (smF D E kd st sp nd (fs lk so D) 0)) := by first | rfl | simp [smF, obI, omI, hq1, hc2, hq3]
      have e46 : (-9) = (omI (smF D E kd st sp nd (fs lk so D) 0)) := by first | rfl | simp [smF, obI, omI, hq1, hc2, hq3]
      refine z_Le (L' := [(0, .ref (b 0)), (1, .int (nI jv2)), (2, .int (nI (fs lk so D))), (3, .int (obI (smF D E kd st sp nd (fs lk so D) 0))), (4, .int (omI (smF D E kd st sp nd (fs lk so D) 0))), (5, .int (nI 0))]) (by rw [← e45, ← e46]) ?_
      exact loopv4 (D + 1) 0 sm (by omega) (by omega)
    ·
      refine z_bipush (v := (-3)) X dX5_smile_20 (by decide) ?_
      have e47 : (-9) = sm := by exact hsm.symm
      exact z_iret X ZF dX5_smile_22 (by simp [hq1, hc2, hq3]) (by rw [e47])
  ·
    refine z_bipush (v := (-2)) X dX5_smile_10 (by decide) ?_
    have e48 : (-9) = sm := by exact hsm.symm
    exact z_iret X ZF dX5_smile_12 (by simp [hq1]) (by rw [e48])
abbrev rX5_reading : Room := { frames := 2, cells := 0, slots := 0, locals := 46 }
set_option maxHeartbeats 4000000 in
set_option maxRecDepth 100000 in
theorem c_X5_reading (l : Launch) (g : zg) (b : Nat → Nat) (ft : Int32) (so : Int32) (D : Nat) (E : Nat) (tr : Int32) (C : Nat) (lk : Nat → Int32) (kd : Nat → Int32) (st : Nat → Int32) (sp : Nat → Int32) (nd : Nat → Int32) (rO : Nat → Int32) (rB : Nat → Int32) (rD : Nat → Int32) (rW : Nat → Int32) (sz : Nat → Int32) (sl : Nat → Int32) (sc : Nat → Int32) (sm : Int32) (xa : Nat) (xb : Int32) (xc : Nat) (xd : Nat) (y1 : Nat → Int32) (y2 : Nat → Int32) (y3 : Nat → Int32) (y4 : Nat → Int32) (y5 : Nat → Int32) (hn : Nat → Int32) (x : Int32) (s : Int32) (d : Int32) (b4 : Bool) (hE : E ≤ 4) (hD : D ≤ 6) (hC : C ≤ 8) : zM l g yX5_reading wsX5_reading rX5_reading [.ref (b 0), .int x, .int s, .int d, .int (bI b4)] (wM g b ft so D E tr C lk kd st sp nd rO rB rD rW sz sl sc sm xa xb xc xd y1 y2 y3 y4 y5 hn) (some (.int (if zin x E then (if zin s (2 ^ D) then (if zin d D then (if 8 ≤ C then -4 else nI C) else -1) else -2) else -1))) (wM g b ft so D E tr (if rok D E C x s d then C + 1 else C) lk kd st sp nd (if rok D E C x s d then upd rO C x else rO) (if rok D E C x s d then upd rB C s else rB) (if rok D E C x s d then upd rD C d else rD) (if rok D E C x s d then upd rW C (bI b4) else rW) sz sl sc sm xa xb xc xd y1 y2 y3 y4 y5 hn) := by
  refine z_met (own := RX5) (cc := cX5_reading) (maxL := 5) (ret := some .int) (by decide +kernel) rfl rfl (Nat.le_of_ble_eq_true rfl) ?_
  intro M X ZF
  refine z_Le (L' := [(0, .ref (b 0)), (1, .int x), (2, .int s), (3, .int d), (4, .int (bI b4))]) rfl ?_
  have hpD : 2 ^ D ≤ 2 ^ 6 := Nat.pow_le_pow_right (by omega) hD
  have i_RX5 : ∀ w ∈ wsX50, w ∈ wsX5_reading := by decide +kernel
  have f_142 : Cond.fieldLink RX5 142 (TX5 19).1 (TX5 19).2.1 (TX5 19).2.2.1 ∈ wsX5_reading := by decide +kernel
  have f_44 : Cond.fieldLink RX5 44 (TX5 20).1 (TX5 20).2.1 (TX5 20).2.2.1 ∈ wsX5_reading := by decide +kernel
  have f_47 : Cond.fieldLink RX5 47 (TX5 21).1 (TX5 21).2.1 (TX5 21).2.2.1 ∈ wsX5_reading := by decide +kernel
  have f_50 : Cond.fieldLink RX5 50 (TX5 22).1 (TX5 22).2.1 (TX5 22).2.2.1 ∈ wsX5_reading := by decide +kernel
  have f_53 : Cond.fieldLink RX5 53 (TX5 23).1 (TX5 23).2.1 (TX5 23).2.2.1 ∈ wsX5_reading := by decide +kernel
  refine z_aload_n X dX5_reading_0 rfl 0 rfl ?_
  refine z_iload_n X dX5_reading_1 rfl 1 rfl ?_
  refine z_callVM X (c_X5_noEater l g b ft so D E tr C lk kd st sp nd rO rB rD rW sz sl sc sm xa xb xc xd y1 y2 y3 y4 y5 hn x (by omega)) gX5_reading_X5_noEater rfl ⟨rfl, rfl⟩ (by decide +kernel) ⟨Nat.le_of_ble_eq_true rfl, Nat.le_of_ble_eq_true rfl⟩ ZF.room (ci := 4) rfl 0 rfl rfl (As := [.int x]) (n := 1) rfl rfl (st1 := [.int (bI (!zin x E))]) rfl (Nat.le_of_ble_eq_true rfl) dX5_reading_2 ?_
  refine z_if_eqB (tgt := 10) X dX5_reading_5 (by decide) (fun hq1 => ?_) (fun hq1 => ?_)
  ·
    have hq2 : (zin x E) = true := by simpa using hq1
    obtain ⟨jv3, hj3, ej3⟩ := zin_t (by omega) hq2
    subst ej3
    have hc3 : tn (nI jv3) = jv3 := nI_clamp (by omega)
    refine z_aload_n X dX5_reading_10 rfl 0 rfl ?_
    refine z_iload_n X dX5_reading_11 rfl 2 rfl ?_
    refine z_callVM X (c_X5_noSet l g b ft so D E tr C lk kd st sp nd rO rB rD rW sz sl sc sm xa xb xc xd y1 y2 y3 y4 y5 hn s (by omega)) gX5_reading_X5_noSet rfl ⟨rfl, rfl⟩ (by decide +kernel) ⟨Nat.le_of_ble_eq_true rfl, Nat.le_of_ble_eq_true rfl⟩ ZF.room (ci := 4) rfl 0 rfl rfl (As := [.int s]) (n := 1) rfl rfl (st1 := [.int (bI (!zin s (2 ^ D)))]) rfl (Nat.le_of_ble_eq_true rfl) dX5_reading_12 ?_
    refine z_if_eqB (tgt := 21) X dX5_reading_15 (by decide) (fun hq4 => ?_) (fun hq4 => ?_)
    ·
      have hq5 : (zin s (2 ^ D)) = true := by simpa using hq4
      obtain ⟨jv6, hj6, ej6⟩ := zin_t (by omega) hq5
      subst ej6
      have hc6 : tn (nI jv6) = jv6 := nI_clamp (by omega)
      refine z_aload_n X dX5_reading_21 rfl 0 rfl ?_
      refine z_iload_n X dX5_reading_22 rfl 3 rfl ?_
      refine z_callVM X (c_X5_noDay l g b ft so D E tr C lk kd st sp nd rO rB rD rW sz sl sc sm xa xb xc xd y1 y2 y3 y4 y5 hn d (by omega)) gX5_reading_X5_noDay rfl ⟨rfl, rfl⟩ (by decide +kernel) ⟨Nat.le_of_ble_eq_true rfl, Nat.le_of_ble_eq_true rfl⟩ ZF.room (ci := 4) rfl 0 rfl rfl (As := [.int d]) (n := 1) rfl rfl (st1 := [.int (bI (!zin d D))]) rfl (Nat.le_of_ble_eq_true rfl) dX5_reading_23 ?_
      refine z_if_eqB (tgt := 31) X dX5_reading_26 (by decide) (fun hq7 => ?_) (fun hq7 => ?_)
      ·
        have hq8 : (zin d D) = true := by simpa using hq7
        obtain ⟨jv9, hj9, ej9⟩ := zin_t (by omega) hq8
        subst ej9
        have hc9 : tn (nI jv9) = jv9 := nI_clamp (by omega)
        refine z_aload_n X dX5_reading_31 rfl 0 rfl ?_
        refine z_get (v := .int (nI C)) (N := 29) X i_RX5 (ci := 4) rfl 0 rfl 19 (by decide) f_142 rfl dX5_reading_32 ?_
        refine z_bipush (v := nI 8) X dX5_reading_35 (by decide) ?_
        refine z_icmp_neN (tgt := 43) X dX5_reading_37 (by decide) (by omega) (by omega) (fun hq10 => ?_) (fun hq10 => ?_)
        ·
          refine z_aload_n X dX5_reading_43 rfl 0 rfl ?_
          refine z_get (v := .ref (b 11)) (N := 29) X i_RX5 (ci := 4) rfl 0 rfl 20 (by decide) f_44 rfl dX5_reading_44 ?_
          refine z_aload_n X dX5_reading_47 rfl 0 rfl ?_
          refine z_get (v := .int (nI C)) (N := 29) X i_RX5 (ci := 4) rfl 0 rfl 19 (by decide) f_142 rfl dX5_reading_48 ?_
          refine z_iload_n X dX5_reading_51 rfl 1 rfl ?_
          refine z_iastN (ws' := (wM g b ft so D E tr C lk kd st sp nd (upd rO C (nI jv3)) rB rD rW sz sl sc sm xa xb xc xd y1 y2 y3 y4 y5 hn)) X 11 rfl (by omega) (by omega) dX5_reading_52 rfl ?_
          refine z_aload_n X dX5_reading_53 rfl 0 rfl ?_
          refine z_get (v := .ref (b 12)) (N := 29) X i_RX5 (ci := 4) rfl 0 rfl 21 (by decide) f_47 rfl dX5_reading_54 ?_
          refine z_aload_n X dX5_reading_57 rfl 0 rfl ?_
          refine z_get (v := .int (nI C)) (N := 29) X i_RX5 (ci := 4) rfl 0 rfl 19 (by decide) f_142 rfl dX5_reading_58 ?_
          refine z_iload_n X dX5_reading_61 rfl 2 rfl ?_
          refine z_iastN (ws' := (wM g b ft so D E tr C lk kd st sp nd (upd rO C (nI jv3)) (upd rB C (nI jv6)) rD rW sz sl sc sm xa xb xc xd y1 y2 y3 y4 y5 hn)) X 12 rfl (by omega) (by omega) dX5_reading_62 rfl ?_
          refine z_aload_n X dX5_reading_63 rfl 0 rfl ?_
          refine z_get (v := .ref (b 13)) (N := 29) X i_RX5 (ci := 4) rfl 0 rfl 22 (by decide) f_50 rfl dX5_reading_64 ?_
          refine z_aload_n X dX5_reading_67 rfl 0 rfl ?_
          refine z_get (v := .int (nI C)) (N := 29) X i_RX5 (ci := 4) rfl 0 rfl 19 (by decide) f_142 rfl dX5_reading_68 ?_
          refine z_iload_n X dX5_reading_71 rfl 3 rfl ?_
          refine z_iastN (ws' := (wM g b ft so D E tr C lk kd st sp nd (upd rO C (nI jv3)) (upd rB C (nI jv6)) (upd rD C (nI jv9)) rW sz sl sc sm xa xb xc xd y1 y2 y3 y4 y5 hn)) X 13 rfl (by omega) (by omega) dX5_reading_72 rfl ?_
          refine z_aload_n X dX5_reading_73 rfl 0 rfl ?_
          refine z_get (v := .ref (b 14)) (N := 29) X i_RX5 (ci := 4) rfl 0 rfl 23 (by decide) f_53 rfl dX5_reading_74 ?_
          refine z_aload_n X dX5_reading_77 rfl 0 rfl ?_
          refine z_get (v := .int (nI C)) (N := 29) X i_RX5 (ci := 4) rfl 0 rfl 19 (by decide) f_142 rfl dX5_reading_78 ?_
          refine z_iload X dX5_reading_81 4 rfl ?_
          refine z_zastN (ws' := (wM g b ft so D E tr C lk kd st sp nd (upd rO C (nI jv3)) (upd rB C (nI jv6)) (upd rD C (nI jv9)) (upd rW C (bI b4)) sz sl sc sm xa xb xc xd y1 y2 y3 y4 y5 hn)) X 14 rfl (by omega) (by omega) (bI_nar2 _) dX5_reading_83 rfl ?_
          refine z_aload_n X dX5_reading_84 rfl 0 rfl ?_
          refine z_dup X dX5_reading_85 rfl ?_
          refine z_get (v := .int (nI C)) (N := 29) X i_RX5 (ci := 4) rfl 0 rfl 19 (by decide) f_142 rfl dX5_reading_86 ?_
          refine z_iconst (v := nI 1) X dX5_reading_89 (by decide) ?_
          refine z_iadd' (v := nI (C + 1)) X dX5_reading_90 (nI_add _ _) ?_
          refine z_put (ws' := (wM g b ft so D E tr (C + 1) lk kd st sp nd (upd rO C (nI jv3)) (upd rB C (nI jv6)) (upd rD C (nI jv9)) (upd rW C (bI b4)) sz sl sc sm xa xb xc xd y1 y2 y3 y4 y5 hn)) (N := 29) X i_RX5 (ci := 4) rfl tyX5 tyX5_ok nmX5 0 rfl 19 (by decide) f_142 rfl (ty := .int) (by decide +kernel) rfl rfl (Nat.le_of_ble_eq_true rfl) dX5_reading_91 rfl ?_
          refine z_aload_n X dX5_reading_94 rfl 0 rfl ?_
          refine z_get (v := .int (nI (C + 1))) (N := 29) X i_RX5 (ci := 4) rfl 0 rfl 19 (by decide) f_142 rfl dX5_reading_95 ?_
          refine z_iconst (v := nI 1) X dX5_reading_98 (by decide) ?_
          refine z_isub' (v := nI ((C + 1) - 1)) X dX5_reading_99 (pk_sub (by omega)) ?_
          have e11 : (if rok D E C (nI jv3) (nI jv6) (nI jv9) then C + 1 else C) = (C + 1) := by simp [rok, hq2, hc3, hq5, hc6, hq8, hc9, hq10]; try omega
          have e12 : (if rok D E C (nI jv3) (nI jv6) (nI jv9) then upd rO C (nI jv3) else rO) = (upd rO C (nI jv3)) := by simp [rok, hq2, hc3, hq5, hc6, hq8, hc9, hq10]; try omega
          have e13 : (if rok D E C (nI jv3) (nI jv6) (nI jv9) then upd rB C (nI jv6) else rB) = (upd rB C (nI jv6)) := by simp [rok, hq2, hc3, hq5, hc6, hq8, hc9, hq10]; try omega
          have e14 : (if rok D E C (nI jv3) (nI jv6) (nI jv9) then upd rD C (nI jv9) else rD) = (upd rD C (nI jv9)) := by simp [rok, hq2, hc3, hq5, hc6, hq8, hc9, hq10]; try omega
          have e15 : (if rok D E C (nI jv3) (nI jv6) (nI jv9) then upd rW C (bI b4) else rW) = (upd rW C (bI b4)) := by simp [rok, hq2, hc3, hq5, hc6, hq8, hc9, hq10]; try omega
          exact z_iret X ZF dX5_reading_100 (by simp [rok, hq2, hc3, hq5, hc6, hq8, hc9, hq10]; try omega) (by first | rw [e15, e14, e13, e12, e11] | (simp only [e15, e14, e13, e12, e11]))
        ·
          refine z_bipush (v := (-4)) X dX5_reading_40 (by decide) ?_
          have e16 : (if rok D E C (nI jv3) (nI jv6) (nI jv9) then C + 1 else C) = C := by simp [rok, hq2, hc3, hq5, hc6, hq8, hc9, hq10]; try omega
          have e17 : (if rok D E C (nI jv3) (nI jv6) (nI jv9) then upd rO C (nI jv3) else rO) = rO := by simp [rok, hq2, hc3, hq5, hc6, hq8, hc9, hq10]; try omega
          have e18 : (if rok D E C (nI jv3) (nI jv6) (nI jv9) then upd rB C (nI jv6) else rB) = rB := by simp [rok, hq2, hc3, hq5, hc6, hq8, hc9, hq10]; try omega
          have e19 : (if rok D E C (nI jv3) (nI jv6) (nI jv9) then upd rD C (nI jv9) else rD) = rD := by simp [rok, hq2, hc3, hq5, hc6, hq8, hc9, hq10]; try omega
          have e20 : (if rok D E C (nI jv3) (nI jv6) (nI jv9) then upd rW C (bI b4) else rW) = rW := by simp [rok, hq2, hc3, hq5, hc6, hq8, hc9, hq10]; try omega
          exact z_iret X ZF dX5_reading_42 (by simp [rok, hq2, hc3, hq5, hc6, hq8, hc9, hq10]; try omega) (by first | rw [e20, e19, e18, e17, e16] | (simp only [e20, e19, e18, e17, e16]))
      ·
        have hq21 : (zin d D) = false := by simpa using hq7
        refine z_iconst (v := (-1)) X dX5_reading_29 (by decide) ?_
        have e22 : (if rok D E C (nI jv3) (nI jv6) d then C + 1 else C) = C := by simp [rok, hq2, hc3, hq5, hc6, hq21]; try omega
        have e23 : (if rok D E C (nI jv3) (nI jv6) d then upd rO C (nI jv3) else rO) = rO := by simp [rok, hq2, hc3, hq5, hc6, hq21]; try omega
        have e24 : (if rok D E C (nI jv3) (nI jv6) d then upd rB C (nI jv6) else rB) = rB := by simp [rok, hq2, hc3, hq5, hc6, hq21]; try omega
        have e25 : (if rok D E C (nI jv3) (nI jv6) d then upd rD C d else rD) = rD := by simp [rok, hq2, hc3, hq5, hc6, hq21]; try omega
        have e26 : (if rok D E C (nI jv3) (nI jv6) d then upd rW C (bI b4) else rW) = rW := by simp [rok, hq2, hc3, hq5, hc6, hq21]; try omega
        exact z_iret X ZF dX5_reading_30 (by simp [rok, hq2, hc3, hq5, hc6, hq21]; try omega) (by first | rw [e26, e25, e24, e23, e22] | (simp only [e26, e25, e24, e23, e22]))
    ·
      have hq27 : (zin s (2 ^ D)) = false := by simpa using hq4
      refine z_bipush (v := (-2)) X dX5_reading_18 (by decide) ?_
      have e28 : (if rok D E C (nI jv3) s d then C + 1 else C) = C := by simp [rok, hq2, hc3, hq27]; try omega
      have e29 : (if rok D E C (nI jv3) s d then upd rO C (nI jv3) else rO) = rO := by simp [rok, hq2, hc3, hq27]; try omega
      have e30 : (if rok D E C (nI jv3) s d then upd rB C s else rB) = rB := by simp [rok, hq2, hc3, hq27]; try omega
      have e31 : (if rok D E C (nI jv3) s d then upd rD C d else rD) = rD := by simp [rok, hq2, hc3, hq27]; try omega
      have e32 : (if rok D E C (nI jv3) s d then upd rW C (bI b4) else rW) = rW := by simp [rok, hq2, hc3, hq27]; try omega
      exact z_iret X ZF dX5_reading_20 (by simp [rok, hq2, hc3, hq27]; try omega) (by first | rw [e32, e31, e30, e29, e28] | (simp only [e32, e31, e30, e29, e28]))
  ·
    have hq33 : (zin x E) = false := by simpa using hq1
    refine z_iconst (v := (-1)) X dX5_reading_8 (by decide) ?_
    have e34 : (if rok D E C x s d then C + 1 else C) = C := by simp [rok, hq33]; try omega
    have e35 : (if rok D E C x s d then upd rO C x else rO) = rO := by simp [rok, hq33]; try omega
    have e36 : (if rok D E C x s d then upd rB C s else rB) = rB := by simp [rok, hq33]; try omega
    have e37 : (if rok D E C x s d then upd rD C d else rD) = rD := by simp [rok, hq33]; try omega
    have e38 : (if rok D E C x s d then upd rW C (bI b4) else rW) = rW := by simp [rok, hq33]; try omega
    exact z_iret X ZF dX5_reading_9 (by simp [rok, hq33]; try omega) (by first | rw [e38, e37, e36, e35, e34] | (simp only [e38, e37, e36, e35, e34]))
abbrev rX5_back : Room := { frames := 1, cells := 0, slots := 0, locals := 25 }
set_option maxHeartbeats 4000000 in
set_option maxRecDepth 100000 in
theorem c_X5_back (l : Launch) (g : zg) (b : Nat → Nat) (ft : Int32) (so : Int32) (D : Nat) (E : Nat) (tr : Int32) (C : Nat) (lk : Nat → Int32) (kd : Nat → Int32) (st : Nat → Int32) (sp : Nat → Int32) (nd : Nat → Int32) (rO : Nat → Int32) (rB : Nat → Int32) (rD : Nat → Int32) (rW : Nat → Int32) (sz : Nat → Int32) (sl : Nat → Int32) (sc : Nat → Int32) (sm : Int32) (xa : Nat) (xb : Int32) (xc : Nat) (xd : Nat) (y1 : Nat → Int32) (y2 : Nat → Int32) (y3 : Nat → Int32) (y4 : Nat → Int32) (y5 : Nat → Int32) (hn : Nat → Int32) (m : Int32) (hC : C ≤ 8) : zM l g yX5_back wsX5_back rX5_back [.ref (b 0), .int m] (wM g b ft so D E tr C lk kd st sp nd rO rB rD rW sz sl sc sm xa xb xc xd y1 y2 y3 y4 y5 hn) (some (.int (if zin m (C + 1) then nI (C - tn m) else -2))) (wM g b ft so D E tr (if zin m (C + 1) then C - tn m else C) lk kd st sp nd rO rB rD rW sz sl sc sm xa xb xc xd y1 y2 y3 y4 y5 hn) := by
  refine z_met (own := RX5) (cc := cX5_back) (maxL := 2) (ret := some .int) (by decide +kernel) rfl rfl (Nat.le_of_ble_eq_true rfl) ?_
  intro M X ZF
  refine z_Le (L' := [(0, .ref (b 0)), (1, .int m)]) rfl ?_
  have i_RX5 : ∀ w ∈ wsX50, w ∈ wsX5_back := by decide +kernel
  have f_142 : Cond.fieldLink RX5 142 (TX5 19).1 (TX5 19).2.1 (TX5 19).2.2.1 ∈ wsX5_back := by decide +kernel
  refine z_iload_n X dX5_back_0 rfl 1 rfl ?_
  refine z_i2l (v := (m).toInt64) X dX5_back_1 rfl ?_
  refine z_lconst (v := 0) X dX5_back_2 (by decide) ?_
  refine z_aload_n X dX5_back_3 rfl 0 rfl ?_
  refine z_get (v := .int (nI C)) (N := 29) X i_RX5 (ci := 4) rfl 0 rfl 19 (by decide) f_142 rfl dX5_back_4 ?_
  refine z_i2l (v := (nI C).toInt64) X dX5_back_7 rfl ?_
  refine z_callS0 X (c_X5_in l g ((m).toInt64) 0 ((nI C).toInt64)) gX5_back_X5_in rfl ⟨rfl, rfl⟩ (by decide +kernel) ⟨Nat.le_of_ble_eq_true rfl, Nat.le_of_ble_eq_true rfl⟩ ZF.room (As := [.long ((m).toInt64), .long 0, .long ((nI C).toInt64)]) (n := 3) rfl rfl (st1 := [.int (bI (zil ((m).toInt64) 0 ((nI C).toInt64)))]) rfl (Nat.le_of_ble_eq_true rfl) dX5_back_8 ?_
  refine z_top (y := bI (zin m (C + 1))) (bI_eq (zil_c (by omega))) ?_
  refine z_if_neB (tgt := 17) X dX5_back_11 (by decide) (fun hq1 => ?_) (fun hq1 => ?_)
  ·
    obtain ⟨jv2, hj2, ej2⟩ := zin_t (by omega) hq1
    subst ej2
    have hc2 : tn (nI jv2) = jv2 := nI_clamp (by omega)
    refine z_aload_n X dX5_back_17 rfl 0 rfl ?_
    refine z_dup X dX5_back_18 rfl ?_
    refine z_get (v := .int (nI C)) (N := 29) X i_RX5 (ci := 4) rfl 0 rfl 19 (by decide) f_142 rfl dX5_back_19 ?_
    refine z_iload_n X dX5_back_22 rfl 1 rfl ?_
    refine z_isub' (v := nI (C - jv2)) X dX5_back_23 (pk_sub (by omega)) ?_
    refine z_put (ws' := (wM g b ft so D E tr (C - jv2) lk kd st sp nd rO rB rD rW sz sl sc sm xa xb xc xd y1 y2 y3 y4 y5 hn)) (N := 29) X i_RX5 (ci := 4) rfl tyX5 tyX5_ok nmX5 0 rfl 19 (by decide) f_142 rfl (ty := .int) (by decide +kernel) rfl rfl (Nat.le_of_ble_eq_true rfl) dX5_back_24 rfl ?_
    refine z_aload_n X dX5_back_27 rfl 0 rfl ?_
    refine z_get (v := .int (nI (C - jv2))) (N := 29) X i_RX5 (ci := 4) rfl 0 rfl 19 (by decide) f_142 rfl dX5_back_28 ?_
    have e3 : (if zin (nI jv2) (C + 1) then C - tn (nI jv2) else C) = (C - jv2) := by simp [hq1, hc2]
    exact z_iret X ZF dX5_back_31 (by simp [hq1, hc2]) (by rw [e3])
  ·
    refine z_bipush (v := (-2)) X dX5_back_14 (by decide) ?_
    have e4 : (if zin m (C + 1) then C - tn m else C) = C := by simp [hq1]
    exact z_iret X ZF dX5_back_16 (by simp [hq1]) (by rw [e4])
abbrev rX5_stays : Room := { frames := 4, cells := 0, slots := 0, locals := 92 }
set_option maxHeartbeats 4000000 in
set_option maxRecDepth 100000 in
theorem c_X5_stays (l : Launch) (g : zg) (b : Nat → Nat) (ft : Int32) (so : Int32) (D : Nat) (E : Nat) (tr : Int32) (C : Nat) (lk : Nat → Int32) (kd : Nat → Int32) (st : Nat → Int32) (sp : Nat → Int32) (nd : Nat → Int32) (rO : Nat → Int32) (rB : Nat → Int32) (rD : Nat → Int32) (rW : Nat → Int32) (sz : Nat → Int32) (sl : Nat → Int32) (sc : Nat → Int32) (sm : Int32) (xa : Nat) (xb : Int32) (xc : Nat) (xd : Nat) (y1 : Nat → Int32) (y2 : Nat → Int32) (y3 : Nat → Int32) (y4 : Nat → Int32) (y5 : Nat → Int32) (hn : Nat → Int32) (x : Int32) (hE : E ≤ 4) (hD : D ≤ 6) (hC : C ≤ 8) (hK : vK kd st E) (hR : vR D E C rO rB rD rW) (hsm : sm = (-9)) : zM l g yX5_stays wsX5_stays rX5_stays [.ref (b 0), .int x] (wM g b ft so D E tr C lk kd st sp nd rO rB rD rW sz sl sc sm xa xb xc xd y1 y2 y3 y4 y5 hn) (some (.int (if zin x E then nI (sets (fun v_ => ar D lk so kd (upd st (tn x) (nI v_)) rO rB rD rW C) 6) else -1))) (wM g b ft so D E tr C lk kd st sp nd rO rB rD rW sz sl sc sm xa xb xc xd y1 y2 y3 y4 y5 hn) := by
  refine z_met (own := RX5) (cc := cX5_stays) (maxL := 5) (ret := some .int) (by decide +kernel) rfl rfl (Nat.le_of_ble_eq_true rfl) ?_
  intro M X ZF
  refine z_Le (L' := [(0, .ref (b 0)), (1, .int x)]) rfl ?_
  have i_RX5 : ∀ w ∈ wsX50, w ∈ wsX5_stays := by decide +kernel
  have f_16 : Cond.fieldLink RX5 16 (TX5 6).1 (TX5 6).2.1 (TX5 6).2.2.1 ∈ wsX5_stays := by decide +kernel
  refine z_aload_n X dX5_stays_0 rfl 0 rfl ?_
  refine z_iload_n X dX5_stays_1 rfl 1 rfl ?_
  refine z_callVM X (c_X5_noEater l g b ft so D E tr C lk kd st sp nd rO rB rD rW sz sl sc sm xa xb xc xd y1 y2 y3 y4 y5 hn x (by omega)) gX5_stays_X5_noEater rfl ⟨rfl, rfl⟩ (by decide +kernel) ⟨Nat.le_of_ble_eq_true rfl, Nat.le_of_ble_eq_true rfl⟩ ZF.room (ci := 4) rfl 0 rfl rfl (As := [.int x]) (n := 1) rfl rfl (st1 := [.int (bI (!zin x E))]) rfl (Nat.le_of_ble_eq_true rfl) dX5_stays_2 ?_
  refine z_if_eqB (tgt := 10) X dX5_stays_5 (by decide) (fun hq1 => ?_) (fun hq1 => ?_)
  ·
    have hq2 : (zin x E) = true := by simpa using hq1
    obtain ⟨jv3, hj3, ej3⟩ := zin_t (by omega) hq2
    subst ej3
    have hc3 : tn (nI jv3) = jv3 := nI_clamp (by omega)
    refine z_aload_n X dX5_stays_10 rfl 0 rfl ?_
    refine z_get (v := .ref (b 3)) (N := 29) X i_RX5 (ci := 4) rfl 0 rfl 6 (by decide) f_16 rfl dX5_stays_11 ?_
    refine z_iload_n X dX5_stays_14 rfl 1 rfl ?_
    refine z_ialdN X 3 rfl (by omega) (by omega) dX5_stays_15 ?_
    refine z_istore_n (L' := [(2, .int (st jv3)), (0, .ref (b 0)), (1, .int (nI jv3))]) X dX5_stays_16 rfl (by decide) rfl ?_
    refine z_iconst (v := nI 0) X dX5_stays_17 (by decide) ?_
    refine z_istore_n (L' := [(3, .int (nI 0)), (2, .int (st jv3)), (0, .ref (b 0)), (1, .int (nI jv3))]) X dX5_stays_18 rfl (by decide) rfl ?_
    refine z_iconst (v := nI 0) X dX5_stays_19 (by decide) ?_
    refine z_istore (L' := [(4, .int (nI 0)), (3, .int (nI 0)), (2, .int (st jv3)), (0, .ref (b 0)), (1, .int (nI jv3))]) X dX5_stays_20 (by decide) rfl ?_
    have loopv4 : ∀ (n4 v_v : Nat), v_v ≤ 6 → 6 + 1 ≤ v_v + n4 → zG l g 5 M (wM g b ft so D E tr C lk kd (stv st jv3 v_v) sp nd rO rB rD rW sz sl sc sm xa xb xc xd y1 y2 y3 y4 y5 hn) [(0, .ref (b 0)), (1, .int (nI jv3)), (2, .int (st jv3)), (3, .int (nI (sets (fun v_ => ar D lk so kd (upd st jv3 (nI v_)) rO rB rD rW C) v_v))), (4, .int (nI v_v))] 22 [] := by
      intro n4
      induction n4 with
      | zero => intro v_v h1 h2; exact absurd h2 (by omega)
      | succ n4 ih4 =>
        intro v_v hi4 hn4
        refine z_iload X dX5_stays_22 4 rfl ?_
        refine z_bipush (v := nI 6) X dX5_stays_24 (by decide) ?_
        refine z_icmp_geN (tgt := 61) X dX5_stays_26 (by decide) (by omega) (by omega) (fun hq5 => ?_) (fun hq5 => ?_)
        ·
          refine z_aload_n X dX5_stays_61 rfl 0 rfl ?_
          refine z_get (v := .ref (b 3)) (N := 29) X i_RX5 (ci := 4) rfl 0 rfl 6 (by decide) f_16 rfl dX5_stays_62 ?_
          refine z_iload_n X dX5_stays_65 rfl 1 rfl ?_
          refine z_iload_n X dX5_stays_66 rfl 2 rfl ?_
          refine z_iastN (ws' := (wM g b ft so D E tr C lk kd (upd (stv st jv3 v_v) jv3 (st jv3)) sp nd rO rB rD rW sz sl sc sm xa xb xc xd y1 y2 y3 y4 y5 hn)) X 3 rfl (by omega) (by omega) dX5_stays_67 rfl ?_
          refine z_iload_n X dX5_stays_68 rfl 3 rfl ?_
          have e6 : st = (upd (stv st jv3 v_v) jv3 (st jv3)) := by rw [stv_up, upd_same]
          exact z_iret X ZF dX5_stays_69 (by rw [show v_v = 6 by omega, if_pos hq2, hc3]) (by rw [← e6])
        ·
          refine z_aload_n X dX5_stays_29 rfl 0 rfl ?_
          refine z_get (v := .ref (b 3)) (N := 29) X i_RX5 (ci := 4) rfl 0 rfl 6 (by decide) f_16 rfl dX5_stays_30 ?_
          refine z_iload_n X dX5_stays_33 rfl 1 rfl ?_
          refine z_iload X dX5_stays_34 4 rfl ?_
          refine z_iastN (ws' := (wM g b ft so D E tr C lk kd (upd (stv st jv3 v_v) jv3 (nI v_v)) sp nd rO rB rD rW sz sl sc sm xa xb xc xd y1 y2 y3 y4 y5 hn)) X 3 rfl (by omega) (by omega) dX5_stays_36 rfl ?_
          refine z_ws (ws' := (wM g b ft so D E tr C lk kd (upd st jv3 (nI v_v)) sp nd rO rB rD rW sz sl sc sm xa xb xc xd y1 y2 y3 y4 y5 hn)) (by rw [stv_up]) ?_
          refine z_iload_n X dX5_stays_37 rfl 3 rfl ?_
          refine z_aload_n X dX5_stays_38 rfl 0 rfl ?_
          refine z_callVM X (c_X5_areSo l g b ft so D E tr C lk kd (upd st jv3 (nI v_v)) sp nd rO rB rD rW sz sl sc sm xa xb xc xd y1 y2 y3 y4 y5 hn (by omega) (by omega) (by omega) (vK_L (vK_st hK (by omega))) (by first | assumption | omega) (by first | assumption | omega)) gX5_stays_X5_areSo rfl ⟨rfl, rfl⟩ (by decide +kernel) ⟨Nat.le_of_ble_eq_true rfl, Nat.le_of_ble_eq_true rfl⟩ ZF.room (ci := 4) rfl 0 rfl rfl (As := []) (n := 0) rfl rfl (st1 := [.int (bI (ar D lk so kd (upd st jv3 (nI v_v)) rO rB rD rW C)), .int (nI (sets (fun v_ => ar D lk so kd (upd st jv3 (nI v_)) rO rB rD rW C) v_v))]) rfl (Nat.le_of_ble_eq_true rfl) dX5_stays_39 ?_
          refine z_if_eqB (tgt := 52) X dX5_stays_42 (by decide) (fun hq7 => ?_) (fun hq7 => ?_)
          ·
            refine z_iconst (v := nI 0) X dX5_stays_52 (by decide) ?_
            refine z_ior' (v := nI ((sets (fun v_ => ar D lk so kd (upd st jv3 (nI v_)) rO rB rD rW C) v_v) ||| 0)) X dX5_stays_53 (fa_or _ _) ?_
            refine z_istore_n (L' := [(3, .int (nI ((sets (fun v_ => ar D lk so kd (upd st jv3 (nI v_)) rO rB rD rW C) v_v) ||| 0))), (0, .ref (b 0)), (1, .int (nI jv3)), (2, .int (st jv3)), (4, .int (nI v_v))]) X dX5_stays_54 rfl (by decide) rfl ?_
            refine z_iinc (v := nI (v_v + 1)) (L' := [(4, .int (nI (v_v + 1))), (3, .int (nI ((sets (fun v_ => ar D lk so kd (upd st jv3 (nI v_)) rO rB rD rW C) v_v) ||| 0))), (0, .ref (b 0)), (1, .int (nI jv3)), (2, .int (st jv3))]) X dX5_stays_55 4 rfl (nI_inc v_v 1) (by decide) rfl ?_
            refine z_goto (tgt := 22) X dX5_stays_58 (by decide) ?_
            refine z_ls (L' := [(0, .ref (b 0)), (1, .int (nI jv3)), (2, .int (st jv3)), (3, .int (nI ((sets (fun v_ => ar D lk so kd (upd st jv3 (nI v_)) rO rB rD rW C) v_v) ||| 0))), (4, .int (nI (v_v + 1)))]) [2, 3, 4, 1, 0] rfl ?_
            have e8 : (nI ((sets (fun v_ => ar D lk so kd (upd st jv3 (nI v_)) rO rB rD rW C) v_v) ||| 0)) = (nI (sets (fun v_ => ar D lk so kd (upd st jv3 (nI v_)) rO rB rD rW C) (v_v + 1))) := by first | rfl | simp [sets, hq2, hc3, hq5, hq7]
            refine z_Le (L' := [(0, .ref (b 0)), (1, .int (nI jv3)), (2, .int (st jv3)), (3, .int (nI (sets (fun v_ => ar D lk so kd (upd st jv3 (nI v_)) rO rB rD rW C) (v_v + 1)))), (4, .int (nI (v_v + 1)))]) (by rw [← e8]) ?_
            have e9 : (upd st jv3 (nI v_v)) = (stv st jv3 (v_v + 1)) := by first | rfl | simp [sets, hq2, hc3, hq5, hq7]
            refine z_ws (ws' := (wM g b ft so D E tr C lk kd (stv st jv3 (v_v + 1)) sp nd rO rB rD rW sz sl sc sm xa xb xc xd y1 y2 y3 y4 y5 hn)) (by rw [← e9]) ?_
            exact ih4 (v_v + 1) (by omega) (by omega)
          ·
            refine z_iconst (v := nI 1) X dX5_stays_45 (by decide) ?_
            refine z_iload X dX5_stays_46 4 rfl ?_
            refine z_ishl' (v := nI (2 ^ v_v)) X dX5_stays_48 (nI_shl1 (by omega)) ?_
            refine z_goto (tgt := 53) X dX5_stays_49 (by decide) ?_
            refine z_ior' (v := nI ((sets (fun v_ => ar D lk so kd (upd st jv3 (nI v_)) rO rB rD rW C) v_v) ||| (2 ^ v_v))) X dX5_stays_53 (fa_or _ _) ?_
            refine z_istore_n (L' := [(3, .int (nI ((sets (fun v_ => ar D lk so kd (upd st jv3 (nI v_)) rO rB rD rW C) v_v) ||| (2 ^ v_v)))), (0, .ref (b 0)), (1, .int (nI jv3)), (2, .int (st jv3)), (4, .int (nI v_v))]) X dX5_stays_54 rfl (by decide) rfl ?_
            refine z_iinc (v := nI (v_v + 1)) (L' := [(4, .int (nI (v_v + 1))), (3, .int (nI ((sets (fun v_ => ar D lk so kd (upd st jv3 (nI v_)) rO rB rD rW C) v_v) ||| (2 ^ v_v)))), (0, .ref (b 0)), (1, .int (nI jv3)), (2, .int (st jv3))]) X dX5_stays_55 4 rfl (nI_inc v_v 1) (by decide) rfl ?_
            refine z_goto (tgt := 22) X dX5_stays_58 (by decide) ?_
            refine z_ls (L' := [(0, .ref (b 0)), (1, .int (nI jv3)), (2, .int (st jv3)), (3, .int (nI ((sets (fun v_ => ar D lk so kd (upd st jv3 (nI v_)) rO rB rD rW C) v_v) ||| (2 ^ v_v)))), (4, .int (nI (v_v + 1)))]) [2, 3, 4, 1, 0] rfl ?_
            have e10 : (nI ((sets (fun v_ => ar D lk so kd (upd st jv3 (nI v_)) rO rB rD rW C) v_v) ||| (2 ^ v_v))) = (nI (sets (fun v_ => ar D lk so kd (upd st jv3 (nI v_)) rO rB rD rW C) (v_v + 1))) := by first | rfl | simp [sets, hq2, hc3, hq5, hq7]
            refine z_Le (L' := [(0, .ref (b 0)), (1, .int (nI jv3)), (2, .int (st jv3)), (3, .int (nI (sets (fun v_ => ar D lk so kd (upd st jv3 (nI v_)) rO rB rD rW C) (v_v + 1)))), (4, .int (nI (v_v + 1)))]) (by rw [← e10]) ?_
            have e11 : (upd st jv3 (nI v_v)) = (stv st jv3 (v_v + 1)) := by first | rfl | simp [sets, hq2, hc3, hq5, hq7]
            refine z_ws (ws' := (wM g b ft so D E tr C lk kd (stv st jv3 (v_v + 1)) sp nd rO rB rD rW sz sl sc sm xa xb xc xd y1 y2 y3 y4 y5 hn)) (by rw [← e11]) ?_
            exact ih4 (v_v + 1) (by omega) (by omega)
    refine z_ls (L' := [(0, .ref (b 0)), (1, .int (nI jv3)), (2, .int (st jv3)), (3, .int (nI 0)), (4, .int (nI 0))]) [3, 4, 2, 1, 0] rfl ?_
    have e12 : (nI 0) = (nI (sets (fun v_ => ar D lk so kd (upd st jv3 (nI v_)) rO rB rD rW C) 0)) := by first | rfl | simp [sets, hq2, hc3]
    refine z_Le (L' := [(0, .ref (b 0)), (1, .int (nI jv3)), (2, .int (st jv3)), (3, .int (nI (sets (fun v_ => ar D lk so kd (upd st jv3 (nI v_)) rO rB rD rW C) 0))), (4, .int (nI 0))]) (by rw [← e12]) ?_
    have e13 : st = (stv st jv3 0) := by first | rfl | simp [sets, hq2, hc3]
    refine z_ws (ws' := (wM g b ft so D E tr C lk kd (stv st jv3 0) sp nd rO rB rD rW sz sl sc sm xa xb xc xd y1 y2 y3 y4 y5 hn)) (by rw [← e13]) ?_
    exact loopv4 (6 + 1) 0 (by omega) (by omega)
  ·
    have hq14 : (zin x E) = false := by simpa using hq1
    refine z_iconst (v := (-1)) X dX5_stays_8 (by decide) ?_
    exact z_iret X ZF dX5_stays_9 (by simp [hq14]) rfl
abbrev rX5_kinds : Room := { frames := 4, cells := 0, slots := 0, locals := 92 }
set_option maxHeartbeats 4000000 in
set_option maxRecDepth 100000 in
theorem c_X5_kinds (l : Launch) (g : zg) (b : Nat → Nat) (ft : Int32) (so : Int32) (D : Nat) (E : Nat) (tr : Int32) (C : Nat) (lk : Nat → Int32) (kd : Nat → Int32) (st : Nat → Int32) (sp : Nat → Int32) (nd : Nat → Int32) (rO : Nat → Int32) (rB : Nat → Int32) (rD : Nat → Int32) (rW : Nat → Int32) (sz : Nat → Int32) (sl : Nat → Int32) (sc : Nat → Int32) (sm : Int32) (xa : Nat) (xb : Int32) (xc : Nat) (xd : Nat) (y1 : Nat → Int32) (y2 : Nat → Int32) (y3 : Nat → Int32) (y4 : Nat → Int32) (y5 : Nat → Int32) (hn : Nat → Int32) (x : Int32) (hE : E ≤ 4) (hD : D ≤ 6) (hC : C ≤ 8) (hK : vK kd st E) (hR : vR D E C rO rB rD rW) (hsm : sm = (-9)) : zM l g yX5_kinds wsX5_kinds rX5_kinds [.ref (b 0), .int x] (wM g b ft so D E tr C lk kd st sp nd rO rB rD rW sz sl sc sm xa xb xc xd y1 y2 y3 y4 y5 hn) (some (.int (if zin x E then nI (sets (fun v_ => ar D lk so (upd kd (tn x) (nI v_)) st rO rB rD rW C) 3) else -1))) (wM g b ft so D E tr C lk kd st sp nd rO rB rD rW sz sl sc sm xa xb xc xd y1 y2 y3 y4 y5 hn) := by
  refine z_met (own := RX5) (cc := cX5_kinds) (maxL := 5) (ret := some .int) (by decide +kernel) rfl rfl (Nat.le_of_ble_eq_true rfl) ?_
  intro M X ZF
  refine z_Le (L' := [(0, .ref (b 0)), (1, .int x)]) rfl ?_
  have i_RX5 : ∀ w ∈ wsX50, w ∈ wsX5_kinds := by decide +kernel
  have f_13 : Cond.fieldLink RX5 13 (TX5 5).1 (TX5 5).2.1 (TX5 5).2.2.1 ∈ wsX5_kinds := by decide +kernel
  refine z_aload_n X dX5_kinds_0 rfl 0 rfl ?_
  refine z_iload_n X dX5_kinds_1 rfl 1 rfl ?_
  refine z_callVM X (c_X5_noEater l g b ft so D E tr C lk kd st sp nd rO rB rD rW sz sl sc sm xa xb xc xd y1 y2 y3 y4 y5 hn x (by omega)) gX5_kinds_X5_noEater rfl ⟨rfl, rfl⟩ (by decide +kernel) ⟨Nat.le_of_ble_eq_true rfl, Nat.le_of_ble_eq_true rfl⟩ ZF.room (ci := 4) rfl 0 rfl rfl (As := [.int x]) (n := 1) rfl rfl (st1 := [.int (bI (!zin x E))]) rfl (Nat.le_of_ble_eq_true rfl) dX5_kinds_2 ?_
  refine z_if_eqB (tgt := 10) X dX5_kinds_5 (by decide) (fun hq1 => ?_) (fun hq1 => ?_)
  ·
    have hq2 : (zin x E) = true := by simpa using hq1
    obtain ⟨jv3, hj3, ej3⟩ := zin_t (by omega) hq2
    subst ej3
    have hc3 : tn (nI jv3) = jv3 := nI_clamp (by omega)
    refine z_aload_n X dX5_kinds_10 rfl 0 rfl ?_
    refine z_get (v := .ref (b 2)) (N := 29) X i_RX5 (ci := 4) rfl 0 rfl 5 (by decide) f_13 rfl dX5_kinds_11 ?_
    refine z_iload_n X dX5_kinds_14 rfl 1 rfl ?_
    refine z_ialdN X 2 rfl (by omega) (by omega) dX5_kinds_15 ?_
    refine z_istore_n (L' := [(2, .int (kd jv3)), (0, .ref (b 0)), (1, .int (nI jv3))]) X dX5_kinds_16 rfl (by decide) rfl ?_
    refine z_iconst (v := nI 0) X dX5_kinds_17 (by decide) ?_
    refine z_istore_n (L' := [(3, .int (nI 0)), (2, .int (kd jv3)), (0, .ref (b 0)), (1, .int (nI jv3))]) X dX5_kinds_18 rfl (by decide) rfl ?_
    refine z_iconst (v := nI 0) X dX5_kinds_19 (by decide) ?_
    refine z_istore (L' := [(4, .int (nI 0)), (3, .int (nI 0)), (2, .int (kd jv3)), (0, .ref (b 0)), (1, .int (nI jv3))]) X dX5_kinds_20 (by decide) rfl ?_
    have loopv4 : ∀ (n4 v_v : Nat), v_v ≤ 3 → 3 + 1 ≤ v_v + n4 → zG l g 5 M (wM g b ft so D E tr C lk (stv kd jv3 v_v) st sp nd rO rB rD rW sz sl sc sm xa xb xc xd y1 y2 y3 y4 y5 hn) [(0, .ref (b 0)), (1, .int (nI jv3)), (2, .int (kd jv3)), (3, .int (nI (sets (fun v_ => ar D lk so (upd kd jv3 (nI v_)) st rO rB rD rW C) v_v))), (4, .int (nI v_v))] 22 [] := by
      intro n4
      induction n4 with
      | zero => intro v_v h1 h2; exact absurd h2 (by omega)
      | succ n4 ih4 =>
        intro v_v hi4 hn4
        refine z_iload X dX5_kinds_22 4 rfl ?_
        refine z_iconst (v := nI 3) X dX5_kinds_24 (by decide) ?_
        refine z_icmp_geN (tgt := 60) X dX5_kinds_25 (by decide) (by omega) (by omega) (fun hq5 => ?_) (fun hq5 => ?_)
        ·
          refine z_aload_n X dX5_kinds_60 rfl 0 rfl ?_
          refine z_get (v := .ref (b 2)) (N := 29) X i_RX5 (ci := 4) rfl 0 rfl 5 (by decide) f_13 rfl dX5_kinds_61 ?_
          refine z_iload_n X dX5_kinds_64 rfl 1 rfl ?_
          refine z_iload_n X dX5_kinds_65 rfl 2 rfl ?_
          refine z_iastN (ws' := (wM g b ft so D E tr C lk (upd (stv kd jv3 v_v) jv3 (kd jv3)) st sp nd rO rB rD rW sz sl sc sm xa xb xc xd y1 y2 y3 y4 y5 hn)) X 2 rfl (by omega) (by omega) dX5_kinds_66 rfl ?_
          refine z_iload_n X dX5_kinds_67 rfl 3 rfl ?_
          have e6 : kd = (upd (stv kd jv3 v_v) jv3 (kd jv3)) := by rw [stv_up, upd_same]
          exact z_iret X ZF dX5_kinds_68 (by rw [show v_v = 3 by omega, if_pos hq2, hc3]) (by rw [← e6])
        ·
          refine z_aload_n X dX5_kinds_28 rfl 0 rfl ?_
          refine z_get (v := .ref (b 2)) (N := 29) X i_RX5 (ci := 4) rfl 0 rfl 5 (by decide) f_13 rfl dX5_kinds_29 ?_
          refine z_iload_n X dX5_kinds_32 rfl 1 rfl ?_
          refine z_iload X dX5_kinds_33 4 rfl ?_
          refine z_iastN (ws' := (wM g b ft so D E tr C lk (upd (stv kd jv3 v_v) jv3 (nI v_v)) st sp nd rO rB rD rW sz sl sc sm xa xb xc xd y1 y2 y3 y4 y5 hn)) X 2 rfl (by omega) (by omega) dX5_kinds_35 rfl ?_
          refine z_ws (ws' := (wM g b ft so D E tr C lk (upd kd jv3 (nI v_v)) st sp nd rO rB rD rW sz sl sc sm xa xb xc xd y1 y2 y3 y4 y5 hn)) (by rw [stv_up]) ?_
          refine z_iload_n X dX5_kinds_36 rfl 3 rfl ?_
          refine z_aload_n X dX5_kinds_37 rfl 0 rfl ?_
          refine z_callVM X (c_X5_areSo l g b ft so D E tr C lk (upd kd jv3 (nI v_v)) st sp nd rO rB rD rW sz sl sc sm xa xb xc xd y1 y2 y3 y4 y5 hn (by omega) (by omega) (by omega) (vK_L (vK_kd hK (by omega))) (by first | assumption | omega) (by first | assumption | omega)) gX5_kinds_X5_areSo rfl ⟨rfl, rfl⟩ (by decide +kernel) ⟨Nat.le_of_ble_eq_true rfl, Nat.le_of_ble_eq_true rfl⟩ ZF.room (ci := 4) rfl 0 rfl rfl (As := []) (n := 0) rfl rfl (st1 := [.int (bI (ar D lk so (upd kd jv3 (nI v_v)) st rO rB rD rW C)), .int (nI (sets (fun v_ => ar D lk so (upd kd jv3 (nI v_)) st rO rB rD rW C) v_v))]) rfl (Nat.le_of_ble_eq_true rfl) dX5_kinds_38 ?_
          refine z_if_eqB (tgt := 51) X dX5_kinds_41 (by decide) (fun hq7 => ?_) (fun hq7 => ?_)
          ·
            refine z_iconst (v := nI 0) X dX5_kinds_51 (by decide) ?_
            refine z_ior' (v := nI ((sets (fun v_ => ar D lk so (upd kd jv3 (nI v_)) st rO rB rD rW C) v_v) ||| 0)) X dX5_kinds_52 (fa_or _ _) ?_
            refine z_istore_n (L' := [(3, .int (nI ((sets (fun v_ => ar D lk so (upd kd jv3 (nI v_)) st rO rB rD rW C) v_v) ||| 0))), (0, .ref (b 0)), (1, .int (nI jv3)), (2, .int (kd jv3)), (4, .int (nI v_v))]) X dX5_kinds_53 rfl (by decide) rfl ?_
            refine z_iinc (v := nI (v_v + 1)) (L' := [(4, .int (nI (v_v + 1))), (3, .int (nI ((sets (fun v_ => ar D lk so (upd kd jv3 (nI v_)) st rO rB rD rW C) v_v) ||| 0))), (0, .ref (b 0)), (1, .int (nI jv3)), (2, .int (kd jv3))]) X dX5_kinds_54 4 rfl (nI_inc v_v 1) (by decide) rfl ?_
            refine z_goto (tgt := 22) X dX5_kinds_57 (by decide) ?_
            refine z_ls (L' := [(0, .ref (b 0)), (1, .int (nI jv3)), (2, .int (kd jv3)), (3, .int (nI ((sets (fun v_ => ar D lk so (upd kd jv3 (nI v_)) st rO rB rD rW C) v_v) ||| 0))), (4, .int (nI (v_v + 1)))]) [2, 3, 4, 1, 0] rfl ?_
            have e8 : (nI ((sets (fun v_ => ar D lk so (upd kd jv3 (nI v_)) st rO rB rD rW C) v_v) ||| 0)) = (nI (sets (fun v_ => ar D lk so (upd kd jv3 (nI v_)) st rO rB rD rW C) (v_v + 1))) := by first | rfl | simp [sets, hq2, hc3, hq5, hq7]
            refine z_Le (L' := [(0, .ref (b 0)), (1, .int (nI jv3)), (2, .int (kd jv3)), (3, .int (nI (sets (fun v_ => ar D lk so (upd kd jv3 (nI v_)) st rO rB rD rW C) (v_v + 1)))), (4, .int (nI (v_v + 1)))]) (by rw [← e8]) ?_
            have e9 : (upd kd jv3 (nI v_v)) = (stv kd jv3 (v_v + 1)) := by first | rfl | simp [sets, hq2, hc3, hq5, hq7]
            refine z_ws (ws' := (wM g b ft so D E tr C lk (stv kd jv3 (v_v + 1)) st sp nd rO rB rD rW sz sl sc sm xa xb xc xd y1 y2 y3 y4 y5 hn)) (by rw [← e9]) ?_
            exact ih4 (v_v + 1) (by omega) (by omega)
          ·
            refine z_iconst (v := nI 1) X dX5_kinds_44 (by decide) ?_
            refine z_iload X dX5_kinds_45 4 rfl ?_
            refine z_ishl' (v := nI (2 ^ v_v)) X dX5_kinds_47 (nI_shl1 (by omega)) ?_
            refine z_goto (tgt := 52) X dX5_kinds_48 (by decide) ?_
            refine z_ior' (v := nI ((sets (fun v_ => ar D lk so (upd kd jv3 (nI v_)) st rO rB rD rW C) v_v) ||| (2 ^ v_v))) X dX5_kinds_52 (fa_or _ _) ?_
            refine z_istore_n (L' := [(3, .int (nI ((sets (fun v_ => ar D lk so (upd kd jv3 (nI v_)) st rO rB rD rW C) v_v) ||| (2 ^ v_v)))), (0, .ref (b 0)), (1, .int (nI jv3)), (2, .int (kd jv3)), (4, .int (nI v_v))]) X dX5_kinds_53 rfl (by decide) rfl ?_
            refine z_iinc (v := nI (v_v + 1)) (L' := [(4, .int (nI (v_v + 1))), (3, .int (nI ((sets (fun v_ => ar D lk so (upd kd jv3 (nI v_)) st rO rB rD rW C) v_v) ||| (2 ^ v_v)))), (0, .ref (b 0)), (1, .int (nI jv3)), (2, .int (kd jv3))]) X dX5_kinds_54 4 rfl (nI_inc v_v 1) (by decide) rfl ?_
            refine z_goto (tgt := 22) X dX5_kinds_57 (by decide) ?_
            refine z_ls (L' := [(0, .ref (b 0)), (1, .int (nI jv3)), (2, .int (kd jv3)), (3, .int (nI ((sets (fun v_ => ar D lk so (upd kd jv3 (nI v_)) st rO rB rD rW C) v_v) ||| (2 ^ v_v)))), (4, .int (nI (v_v + 1)))]) [2, 3, 4, 1, 0] rfl ?_
            have e10 : (nI ((sets (fun v_ => ar D lk so (upd kd jv3 (nI v_)) st rO rB rD rW C) v_v) ||| (2 ^ v_v))) = (nI (sets (fun v_ => ar D lk so (upd kd jv3 (nI v_)) st rO rB rD rW C) (v_v + 1))) := by first | rfl | simp [sets, hq2, hc3, hq5, hq7]
            refine z_Le (L' := [(0, .ref (b 0)), (1, .int (nI jv3)), (2, .int (kd jv3)), (3, .int (nI (sets (fun v_ => ar D lk so (upd kd jv3 (nI v_)) st rO rB rD rW C) (v_v + 1)))), (4, .int (nI (v_v + 1)))]) (by rw [← e10]) ?_
            have e11 : (upd kd jv3 (nI v_v)) = (stv kd jv3 (v_v + 1)) := by first | rfl | simp [sets, hq2, hc3, hq5, hq7]
            refine z_ws (ws' := (wM g b ft so D E tr C lk (stv kd jv3 (v_v + 1)) st sp nd rO rB rD rW sz sl sc sm xa xb xc xd y1 y2 y3 y4 y5 hn)) (by rw [← e11]) ?_
            exact ih4 (v_v + 1) (by omega) (by omega)
    refine z_ls (L' := [(0, .ref (b 0)), (1, .int (nI jv3)), (2, .int (kd jv3)), (3, .int (nI 0)), (4, .int (nI 0))]) [3, 4, 2, 1, 0] rfl ?_
    have e12 : (nI 0) = (nI (sets (fun v_ => ar D lk so (upd kd jv3 (nI v_)) st rO rB rD rW C) 0)) := by first | rfl | simp [sets, hq2, hc3]
    refine z_Le (L' := [(0, .ref (b 0)), (1, .int (nI jv3)), (2, .int (kd jv3)), (3, .int (nI (sets (fun v_ => ar D lk so (upd kd jv3 (nI v_)) st rO rB rD rW C) 0))), (4, .int (nI 0))]) (by rw [← e12]) ?_
    have e13 : kd = (stv kd jv3 0) := by first | rfl | simp [sets, hq2, hc3]
    refine z_ws (ws' := (wM g b ft so D E tr C lk (stv kd jv3 0) st sp nd rO rB rD rW sz sl sc sm xa xb xc xd y1 y2 y3 y4 y5 hn)) (by rw [← e13]) ?_
    exact loopv4 (3 + 1) 0 (by omega) (by omega)
  ·
    have hq14 : (zin x E) = false := by simpa using hq1
    refine z_iconst (v := (-1)) X dX5_kinds_8 (by decide) ?_
    exact z_iret X ZF dX5_kinds_9 (by simp [hq14]) rfl
abbrev rX5_sours : Room := { frames := 4, cells := 0, slots := 0, locals := 92 }
set_option maxHeartbeats 4000000 in
set_option maxRecDepth 100000 in
theorem c_X5_sours (l : Launch) (g : zg) (b : Nat → Nat) (ft : Int32) (so : Int32) (D : Nat) (E : Nat) (tr : Int32) (C : Nat) (lk : Nat → Int32) (kd : Nat → Int32) (st : Nat → Int32) (sp : Nat → Int32) (nd : Nat → Int32) (rO : Nat → Int32) (rB : Nat → Int32) (rD : Nat → Int32) (rW : Nat → Int32) (sz : Nat → Int32) (sl : Nat → Int32) (sc : Nat → Int32) (sm : Int32) (xa : Nat) (xb : Int32) (xc : Nat) (xd : Nat) (y1 : Nat → Int32) (y2 : Nat → Int32) (y3 : Nat → Int32) (y4 : Nat → Int32) (y5 : Nat → Int32) (hn : Nat → Int32) (hE : E ≤ 4) (hD : D ≤ 6) (hC : C ≤ 8) (hK : vK kd st E) (hR : vR D E C rO rB rD rW) (hsm : sm = (-9)) : zM l g yX5_sours wsX5_sours rX5_sours [.ref (b 0)] (wM g b ft so D E tr C lk kd st sp nd rO rB rD rW sz sl sc sm xa xb xc xd y1 y2 y3 y4 y5 hn) (some (.int (if 0 < E then nI (sets (fun v_ => ar D lk (nI v_) kd st rO rB rD rW C) 10) else -3))) (wM g b ft so D E tr C lk kd st sp nd rO rB rD rW sz sl sc sm xa xb xc xd y1 y2 y3 y4 y5 hn) := by
  refine z_met (own := RX5) (cc := cX5_sours) (maxL := 4) (ret := some .int) (by decide +kernel) rfl rfl (Nat.le_of_ble_eq_true rfl) ?_
  intro M X ZF
  refine z_Le (L' := [(0, .ref (b 0))]) rfl ?_
  have hL := vK_L hK
  have i_RX5 : ∀ w ∈ wsX50, w ∈ wsX5_sours := by decide +kernel
  have f_85 : Cond.fieldLink RX5 85 (TX5 4).1 (TX5 4).2.1 (TX5 4).2.2.1 ∈ wsX5_sours := by decide +kernel
  have f_139 : Cond.fieldLink RX5 139 (TX5 1).1 (TX5 1).2.1 (TX5 1).2.2.1 ∈ wsX5_sours := by decide +kernel
  refine z_aload_n X dX5_sours_0 rfl 0 rfl ?_
  refine z_get (v := .int (nI E)) (N := 29) X i_RX5 (ci := 4) rfl 0 rfl 4 (by decide) f_85 rfl dX5_sours_1 ?_
  refine z_if_neN (tgt := 10) X dX5_sours_4 (by decide) (by omega) (fun hq1 => ?_) (fun hq1 => ?_)
  ·
    refine z_aload_n X dX5_sours_10 rfl 0 rfl ?_
    refine z_get (v := .int so) (N := 29) X i_RX5 (ci := 4) rfl 0 rfl 1 (by decide) f_139 rfl dX5_sours_11 ?_
    refine z_istore_n (L' := [(1, .int so), (0, .ref (b 0))]) X dX5_sours_14 rfl (by decide) rfl ?_
    refine z_iconst (v := nI 0) X dX5_sours_15 (by decide) ?_
    refine z_istore_n (L' := [(2, .int (nI 0)), (1, .int so), (0, .ref (b 0))]) X dX5_sours_16 rfl (by decide) rfl ?_
    refine z_iconst (v := nI 0) X dX5_sours_17 (by decide) ?_
    refine z_istore_n (L' := [(3, .int (nI 0)), (2, .int (nI 0)), (1, .int so), (0, .ref (b 0))]) X dX5_sours_18 rfl (by decide) rfl ?_
    have loopv2 : ∀ (n2 v_v : Nat) (so_v : Int32), v_v ≤ 10 → 10 + 1 ≤ v_v + n2 → zG l g 4 M (wM g b ft so_v D E tr C lk kd st sp nd rO rB rD rW sz sl sc sm xa xb xc xd y1 y2 y3 y4 y5 hn) [(0, .ref (b 0)), (1, .int so), (2, .int (nI (sets (fun v_ => ar D lk (nI v_) kd st rO rB rD rW C) v_v))), (3, .int (nI v_v))] 19 [] := by
      intro n2
      induction n2 with
      | zero => intro v_v so_v h1 h2; exact absurd h2 (by omega)
      | succ n2 ih2 =>
        intro v_v so_v hi2 hn2
        refine z_iload_n X dX5_sours_19 rfl 3 rfl ?_
        refine z_bipush (v := nI 10) X dX5_sours_20 (by decide) ?_
        refine z_icmp_geN (tgt := 53) X dX5_sours_22 (by decide) (by omega) (by omega) (fun hq3 => ?_) (fun hq3 => ?_)
        ·
          refine z_aload_n X dX5_sours_53 rfl 0 rfl ?_
          refine z_iload_n X dX5_sours_54 rfl 1 rfl ?_
          refine z_put (ws' := (wM g b ft so D E tr C lk kd st sp nd rO rB rD rW sz sl sc sm xa xb xc xd y1 y2 y3 y4 y5 hn)) (N := 29) X i_RX5 (ci := 4) rfl tyX5 tyX5_ok nmX5 0 rfl 1 (by decide) f_139 rfl (ty := .int) (by decide +kernel) rfl rfl (Nat.le_of_ble_eq_true rfl) dX5_sours_55 rfl ?_
          refine z_iload_n X dX5_sours_58 rfl 2 rfl ?_
          exact z_iret X ZF dX5_sours_59 (by rw [show v_v = 10 by omega, if_pos (by omega)]) rfl
        ·
          refine z_aload_n X dX5_sours_25 rfl 0 rfl ?_
          refine z_iload_n X dX5_sours_26 rfl 3 rfl ?_
          refine z_put (ws' := (wM g b ft (nI v_v) D E tr C lk kd st sp nd rO rB rD rW sz sl sc sm xa xb xc xd y1 y2 y3 y4 y5 hn)) (N := 29) X i_RX5 (ci := 4) rfl tyX5 tyX5_ok nmX5 0 rfl 1 (by decide) f_139 rfl (ty := .int) (by decide +kernel) rfl rfl (Nat.le_of_ble_eq_true rfl) dX5_sours_27 rfl ?_
          refine z_iload_n X dX5_sours_30 rfl 2 rfl ?_
          refine z_aload_n X dX5_sours_31 rfl 0 rfl ?_
          refine z_callVM X (c_X5_areSo l g b ft (nI v_v) D E tr C lk kd st sp nd rO rB rD rW sz sl sc sm xa xb xc xd y1 y2 y3 y4 y5 hn (by omega) (by omega) (by omega) (by first | assumption | omega) (by first | assumption | omega) (by first | assumption | omega)) gX5_sours_X5_areSo rfl ⟨rfl, rfl⟩ (by decide +kernel) ⟨Nat.le_of_ble_eq_true rfl, Nat.le_of_ble_eq_true rfl⟩ ZF.room (ci := 4) rfl 0 rfl rfl (As := []) (n := 0) rfl rfl (st1 := [.int (bI (ar D lk (nI v_v) kd st rO rB rD rW C)), .int (nI (sets (fun v_ => ar D lk (nI v_) kd st rO rB rD rW C) v_v))]) rfl (Nat.le_of_ble_eq_true rfl) dX5_sours_32 ?_
          refine z_if_eqB (tgt := 44) X dX5_sours_35 (by decide) (fun hq4 => ?_) (fun hq4 => ?_)
          ·
            refine z_iconst (v := nI 0) X dX5_sours_44 (by decide) ?_
            refine z_ior' (v := nI ((sets (fun v_ => ar D lk (nI v_) kd st rO rB rD rW C) v_v) ||| 0)) X dX5_sours_45 (fa_or _ _) ?_
            refine z_istore_n (L' := [(2, .int (nI ((sets (fun v_ => ar D lk (nI v_) kd st rO rB rD rW C) v_v) ||| 0))), (0, .ref (b 0)), (1, .int so), (3, .int (nI v_v))]) X dX5_sours_46 rfl (by decide) rfl ?_
            refine z_iinc (v := nI (v_v + 1)) (L' := [(3, .int (nI (v_v + 1))), (2, .int (nI ((sets (fun v_ => ar D lk (nI v_) kd st rO rB rD rW C) v_v) ||| 0))), (0, .ref (b 0)), (1, .int so)]) X dX5_sours_47 3 rfl (nI_inc v_v 1) (by decide) rfl ?_
            refine z_goto (tgt := 19) X dX5_sours_50 (by decide) ?_
            refine z_ls (L' := [(0, .ref (b 0)), (1, .int so), (2, .int (nI ((sets (fun v_ => ar D lk (nI v_) kd st rO rB rD rW C) v_v) ||| 0))), (3, .int (nI (v_v + 1)))]) [2, 3, 1, 0] rfl ?_
            have e5 : (nI ((sets (fun v_ => ar D lk (nI v_) kd st rO rB rD rW C) v_v) ||| 0)) = (nI (sets (fun v_ => ar D lk (nI v_) kd st rO rB rD rW C) (v_v + 1))) := by first | rfl | simp [sets, hq1, hq3, hq4]
            refine z_Le (L' := [(0, .ref (b 0)), (1, .int so), (2, .int (nI (sets (fun v_ => ar D lk (nI v_) kd st rO rB rD rW C) (v_v + 1)))), (3, .int (nI (v_v + 1)))]) (by rw [← e5]) ?_
            have e6 : (nI v_v) = (nI v_v) := by first | rfl | simp [sets, hq1, hq3, hq4]
            refine z_ws (ws' := (wM g b ft (nI v_v) D E tr C lk kd st sp nd rO rB rD rW sz sl sc sm xa xb xc xd y1 y2 y3 y4 y5 hn)) (by rw [← e6]) ?_
            exact ih2 (v_v + 1) (nI v_v) (by omega) (by omega)
          ·
            refine z_iconst (v := nI 1) X dX5_sours_38 (by decide) ?_
            refine z_iload_n X dX5_sours_39 rfl 3 rfl ?_
            refine z_ishl' (v := nI (2 ^ v_v)) X dX5_sours_40 (nI_shl1 (by omega)) ?_
            refine z_goto (tgt := 45) X dX5_sours_41 (by decide) ?_
            refine z_ior' (v := nI ((sets (fun v_ => ar D lk (nI v_) kd st rO rB rD rW C) v_v) ||| (2 ^ v_v))) X dX5_sours_45 (fa_or _ _) ?_
            refine z_istore_n (L' := [(2, .int (nI ((sets (fun v_ => ar D lk (nI v_) kd st rO rB rD rW C) v_v) ||| (2 ^ v_v)))), (0, .ref (b 0)), (1, .int so), (3, .int (nI v_v))]) X dX5_sours_46 rfl (by decide) rfl ?_
            refine z_iinc (v := nI (v_v + 1)) (L' := [(3, .int (nI (v_v + 1))), (2, .int (nI ((sets (fun v_ => ar D lk (nI v_) kd st rO rB rD rW C) v_v) ||| (2 ^ v_v)))), (0, .ref (b 0)), (1, .int so)]) X dX5_sours_47 3 rfl (nI_inc v_v 1) (by decide) rfl ?_
            refine z_goto (tgt := 19) X dX5_sours_50 (by decide) ?_
            refine z_ls (L' := [(0, .ref (b 0)), (1, .int so), (2, .int (nI ((sets (fun v_ => ar D lk (nI v_) kd st rO rB rD rW C) v_v) ||| (2 ^ v_v)))), (3, .int (nI (v_v + 1)))]) [2, 3, 1, 0] rfl ?_
            have e7 : (nI ((sets (fun v_ => ar D lk (nI v_) kd st rO rB rD rW C) v_v) ||| (2 ^ v_v))) = (nI (sets (fun v_ => ar D lk (nI v_) kd st rO rB rD rW C) (v_v + 1))) := by first | rfl | simp [sets, hq1, hq3, hq4]
            refine z_Le (L' := [(0, .ref (b 0)), (1, .int so), (2, .int (nI (sets (fun v_ => ar D lk (nI v_) kd st rO rB rD rW C) (v_v + 1)))), (3, .int (nI (v_v + 1)))]) (by rw [← e7]) ?_
            have e8 : (nI v_v) = (nI v_v) := by first | rfl | simp [sets, hq1, hq3, hq4]
            refine z_ws (ws' := (wM g b ft (nI v_v) D E tr C lk kd st sp nd rO rB rD rW sz sl sc sm xa xb xc xd y1 y2 y3 y4 y5 hn)) (by rw [← e8]) ?_
            exact ih2 (v_v + 1) (nI v_v) (by omega) (by omega)
    refine z_ls (L' := [(0, .ref (b 0)), (1, .int so), (2, .int (nI 0)), (3, .int (nI 0))]) [3, 2, 1, 0] rfl ?_
    have e9 : (nI 0) = (nI (sets (fun v_ => ar D lk (nI v_) kd st rO rB rD rW C) 0)) := by first | rfl | simp [sets, hq1]
    refine z_Le (L' := [(0, .ref (b 0)), (1, .int so), (2, .int (nI (sets (fun v_ => ar D lk (nI v_) kd st rO rB rD rW C) 0))), (3, .int (nI 0))]) (by rw [← e9]) ?_
    exact loopv2 (10 + 1) 0 so (by omega) (by omega)
  ·
    refine z_bipush (v := (-3)) X dX5_sours_7 (by decide) ?_
    exact z_iret X ZF dX5_sours_9 (by simp; omega) rfl
abbrev rX5_share : Room := { frames := 0, cells := 0, slots := 0, locals := 0 }
set_option maxHeartbeats 4000000 in
set_option maxRecDepth 100000 in
theorem c_X5_share (l : Launch) (g : zg) (u : Nat) (v : Nat) (w : Nat) (hu : u ≤ 64) (hv : v ≤ 64) (hv1 : 1 ≤ v) (hw : w < 2 ^ 31) : zM l g yX5_share wsX5_share rX5_share [.long (lN u), .long (lN v), .int (nI w)] [] (some (.long (lN ((if w = 0 then u else v) / Nat.gcd u v)))) [] := by
  refine z_met (own := RX5) (cc := cX5_share) (maxL := 11) (ret := some .long) (by decide +kernel) rfl rfl (Nat.le_of_ble_eq_true rfl) ?_
  intro M X ZF
  refine z_Le (L' := [(0, .long (lN u)), (2, .long (lN v)), (4, .int (nI w))]) rfl ?_
  refine z_lload_n X dX5_share_0 rfl 0 rfl ?_
  refine z_lstore (L' := [(5, .long (lN u)), (0, .long (lN u)), (2, .long (lN v)), (4, .int (nI w))]) X dX5_share_1 (by decide) rfl ?_
  refine z_lload_n X dX5_share_3 rfl 2 rfl ?_
  refine z_lstore (L' := [(7, .long (lN v)), (5, .long (lN u)), (0, .long (lN u)), (2, .long (lN v)), (4, .int (nI w))]) X dX5_share_4 (by decide) rfl ?_
  have loopv1 : ∀ (n1 c_v : Nat) (x_v : Nat) (y_v : Nat), c_v ≤ v → v + 1 ≤ c_v + n1 → (Nat.gcd x_v y_v = Nat.gcd u v) → (c_v + y_v ≤ v) → (x_v ≤ 64) → zG l g 11 M [] [(0, .long (lN u)), (2, .long (lN v)), (4, .int (nI w)), (5, .long (lN x_v)), (7, .long (lN y_v))] 6 [] := by
    intro n1
    induction n1 with
    | zero => intro c_v x_v y_v h1 h2 _ _ _; exact absurd h2 (by omega)
    | succ n1 ih1 =>
      intro c_v x_v y_v hi1 hn1 hg hcy hxb
      refine z_lload X dX5_share_6 4 rfl ?_
      refine z_lconst (v := 0) X dX5_share_8 (by decide) ?_
      refine z_lcmp X dX5_share_9 ?_
      refine z_if_eq (tgt := 31) X dX5_share_10 (by decide) (fun hq2 => ?_) (fun hq2 => ?_)
      ·
        have hy0 : y_v = 0 := (pk_lEQ (by omega) (by omega)).mp ((lg_cmp_eq _ _).mp hq2)
        subst hy0
        have hx0 : x_v = Nat.gcd u v := by rw [← hg]; exact (Nat.gcd_zero_right x_v).symm
        have hxp : 0 < x_v := by rw [hx0]; exact Nat.gcd_pos_of_pos_right _ (by omega)
        refine z_iload X dX5_share_31 2 rfl ?_
        refine z_if_neN (tgt := 40) X dX5_share_33 (by decide) (by omega) (fun hq3 => ?_) (fun hq3 => ?_)
        ·
          refine z_lload_n X dX5_share_40 rfl 1 rfl ?_
          refine z_lload X dX5_share_41 3 rfl ?_
          refine z_ldiv X dX5_share_43 (fun z => (show x_v ≠ 0 by omega) ((pk_lEQ (by omega) (by omega)).mp z)) ?_
          exact z_lret X ZF dX5_share_44 (by rw [← hx0]; simp [pk_lDiv (a := u) (b := x_v) (by omega) hxp (by omega), pk_lDiv (a := v) (b := x_v) (by omega) hxp (by omega), hq2, hq3]) rfl
        ·
          refine z_lload_n X dX5_share_36 rfl 0 rfl ?_
          refine z_goto (tgt := 41) X dX5_share_37 (by decide) ?_
          refine z_lload X dX5_share_41 3 rfl ?_
          refine z_ldiv X dX5_share_43 (fun z => (show x_v ≠ 0 by omega) ((pk_lEQ (by omega) (by omega)).mp z)) ?_
          exact z_lret X ZF dX5_share_44 (by rw [← hx0]; simp [pk_lDiv (a := u) (b := x_v) (by omega) hxp (by omega), pk_lDiv (a := v) (b := x_v) (by omega) hxp (by omega), hq2, hq3]) rfl
      ·
        have hy0 : y_v ≠ 0 := fun z => hq2 ((lg_cmp_eq _ _).mpr (congrArg lN z))
        refine z_lload X dX5_share_13 3 rfl ?_
        refine z_lload X dX5_share_15 4 rfl ?_
        refine z_lrem X dX5_share_17 (fun z => hy0 ((pk_lEQ (by omega) (by omega)).mp z)) ?_
        have hgs := gcd_st x_v y_v
        have hml := Nat.mod_lt x_v (Nat.pos_of_ne_zero hy0)
        refine z_topl (y := lN (x_v % y_v)) (pk_lRem (by omega) (Nat.pos_of_ne_zero hy0) (by omega)) ?_
        refine z_lstore (L' := [(9, .long (lN (x_v % y_v))), (0, .long (lN u)), (2, .long (lN v)), (4, .int (nI w)), (5, .long (lN x_v)), (7, .long (lN y_v))]) X dX5_share_18 (by decide) rfl ?_
        refine z_lload X dX5_share_20 5 rfl ?_
        refine z_lstore (L' := [(5, .long (lN y_v)), (9, .long (lN (x_v % y_v))), (0, .long (lN u)), (2, .long (lN v)), (4, .int (nI w)), (7, .long (lN y_v))]) X dX5_share_22 (by decide) rfl ?_
        refine z_lload X dX5_share_24 1 rfl ?_
        refine z_lstore (L' := [(7, .long (lN (x_v % y_v))), (5, .long (lN y_v)), (9, .long (lN (x_v % y_v))), (0, .long (lN u)), (2, .long (lN v)), (4, .int (nI w))]) X dX5_share_26 (by decide) rfl ?_
        refine z_goto (tgt := 6) X dX5_share_28 (by decide) ?_
        refine z_ls (L' := [(0, .long (lN u)), (2, .long (lN v)), (4, .int (nI w)), (5, .long (lN y_v)), (7, .long (lN (x_v % y_v)))]) [3, 4, 5, 1, 0] rfl ?_
        exact ih1 (c_v + 1) y_v (x_v % y_v) (by omega) (by omega) (by rw [← hg]; exact hgs) (by omega) (by omega)
  refine z_ls (L' := [(0, .long (lN u)), (2, .long (lN v)), (4, .int (nI w)), (5, .long (lN u)), (7, .long (lN v))]) [2, 3, 4, 1, 0] rfl ?_
  exact loopv1 (v + 1) 0 u v (by omega) (by omega) rfl (by omega) (by omega)
abbrev rX5_odds : Room := { frames := 2, cells := 0, slots := 0, locals := 48 }
set_option maxHeartbeats 4000000 in
set_option maxRecDepth 100000 in
theorem c_X5_odds (l : Launch) (g : zg) (b : Nat → Nat) (ft : Int32) (so : Int32) (D : Nat) (E : Nat) (tr : Int32) (C : Nat) (lk : Nat → Int32) (kd : Nat → Int32) (st : Nat → Int32) (sp : Nat → Int32) (nd : Nat → Int32) (rO : Nat → Int32) (rB : Nat → Int32) (rD : Nat → Int32) (rW : Nat → Int32) (sz : Nat → Int32) (sl : Nat → Int32) (sc : Nat → Int32) (sm : Int32) (xa : Nat) (xb : Int32) (xc : Nat) (xd : Nat) (y1 : Nat → Int32) (y2 : Nat → Int32) (y3 : Nat → Int32) (y4 : Nat → Int32) (y5 : Nat → Int32) (hn : Nat → Int32) (x : Int32) (s : Int32) (w : Int32) (hE : E ≤ 4) (hD : D ≤ 6) (hK : vK kd st E) : zM l g yX5_odds wsX5_odds rX5_odds [.ref (b 0), .int x, .int s, .int w] (wM g b ft so D E tr C lk kd st sp nd rO rB rD rW sz sl sc sm xa xb xc xd y1 y2 y3 y4 y5 hn) (some (.long (if zin x E && zin s (2 ^ D) && zin w 2 then (if tn w = 0 then 1 else lN (2 ^ pc (yl D (Lf kd st (tn x)) (tn s)))) else -9223372036854775808))) (wM g b ft so D E tr C lk kd st sp nd rO rB rD rW sz sl sc sm xa xb xc xd y1 y2 y3 y4 y5 hn) := by
  refine z_met (own := RX5) (cc := cX5_odds) (maxL := 8) (ret := some .long) (by decide +kernel) rfl rfl (Nat.le_of_ble_eq_true rfl) ?_
  intro M X ZF
  refine z_Le (L' := [(0, .ref (b 0)), (1, .int x), (2, .int s), (3, .int w)]) rfl ?_
  have hL := vK_L hK
  have hpD : 2 ^ D ≤ 2 ^ 6 := Nat.pow_le_pow_right (by omega) hD
  have hpD1 : 1 ≤ 2 ^ D := Nat.one_le_two_pow
  have i_RX5 : ∀ w ∈ wsX50, w ∈ wsX5_odds := by decide +kernel
  have f_78 : Cond.fieldLink RX5 78 (TX5 2).1 (TX5 2).2.1 (TX5 2).2.2.1 ∈ wsX5_odds := by decide +kernel
  refine z_aload_n X dX5_odds_0 rfl 0 rfl ?_
  refine z_iload_n X dX5_odds_1 rfl 1 rfl ?_
  refine z_callVM X (c_X5_noEater l g b ft so D E tr C lk kd st sp nd rO rB rD rW sz sl sc sm xa xb xc xd y1 y2 y3 y4 y5 hn x (by omega)) gX5_odds_X5_noEater rfl ⟨rfl, rfl⟩ (by decide +kernel) ⟨Nat.le_of_ble_eq_true rfl, Nat.le_of_ble_eq_true rfl⟩ ZF.room (ci := 4) rfl 0 rfl rfl (As := [.int x]) (n := 1) rfl rfl (st1 := [.int (bI (!zin x E))]) rfl (Nat.le_of_ble_eq_true rfl) dX5_odds_2 ?_
  refine z_if_neB (tgt := 26) X dX5_odds_5 (by decide) (fun hq1 => ?_) (fun hq1 => ?_)
  ·
    have hq2 : (zin x E) = false := by simpa using hq1
    refine z_callS0 X (c_X5_lost l g ) gX5_odds_X5_lost rfl ⟨rfl, rfl⟩ (by decide +kernel) ⟨Nat.le_of_ble_eq_true rfl, Nat.le_of_ble_eq_true rfl⟩ ZF.room (As := []) (n := 0) rfl rfl (st1 := [.long (-9223372036854775808)]) rfl (Nat.le_of_ble_eq_true rfl) dX5_odds_26 ?_
    exact z_lret X ZF dX5_odds_29 (by simp [hq2]) rfl
  ·
    have hq3 : (zin x E) = true := by simpa using hq1
    obtain ⟨jv4, hj4, ej4⟩ := zin_t (by omega) hq3
    subst ej4
    have hc4 : tn (nI jv4) = jv4 := nI_clamp (by omega)
    refine z_aload_n X dX5_odds_8 rfl 0 rfl ?_
    refine z_iload_n X dX5_odds_9 rfl 2 rfl ?_
    refine z_callVM X (c_X5_noSet l g b ft so D E tr C lk kd st sp nd rO rB rD rW sz sl sc sm xa xb xc xd y1 y2 y3 y4 y5 hn s (by omega)) gX5_odds_X5_noSet rfl ⟨rfl, rfl⟩ (by decide +kernel) ⟨Nat.le_of_ble_eq_true rfl, Nat.le_of_ble_eq_true rfl⟩ ZF.room (ci := 4) rfl 0 rfl rfl (As := [.int s]) (n := 1) rfl rfl (st1 := [.int (bI (!zin s (2 ^ D)))]) rfl (Nat.le_of_ble_eq_true rfl) dX5_odds_10 ?_
    refine z_if_neB (tgt := 26) X dX5_odds_13 (by decide) (fun hq5 => ?_) (fun hq5 => ?_)
    ·
      have hq6 : (zin s (2 ^ D)) = false := by simpa using hq5
      refine z_callS0 X (c_X5_lost l g ) gX5_odds_X5_lost rfl ⟨rfl, rfl⟩ (by decide +kernel) ⟨Nat.le_of_ble_eq_true rfl, Nat.le_of_ble_eq_true rfl⟩ ZF.room (As := []) (n := 0) rfl rfl (st1 := [.long (-9223372036854775808)]) rfl (Nat.le_of_ble_eq_true rfl) dX5_odds_26 ?_
      exact z_lret X ZF dX5_odds_29 (by simp [hq3, hc4, hq6]) rfl
    ·
      have hq7 : (zin s (2 ^ D)) = true := by simpa using hq5
      obtain ⟨jv8, hj8, ej8⟩ := zin_t (by omega) hq7
      subst ej8
      have hc8 : tn (nI jv8) = jv8 := nI_clamp (by omega)
      refine z_iload_n X dX5_odds_16 rfl 3 rfl ?_
      refine z_i2l (v := (w).toInt64) X dX5_odds_17 rfl ?_
      refine z_lconst (v := 0) X dX5_odds_18 (by decide) ?_
      refine z_lconst (v := 1) X dX5_odds_19 (by decide) ?_
      refine z_callS0 X (c_X5_in l g ((w).toInt64) 0 1) gX5_odds_X5_in rfl ⟨rfl, rfl⟩ (by decide +kernel) ⟨Nat.le_of_ble_eq_true rfl, Nat.le_of_ble_eq_true rfl⟩ ZF.room (As := [.long ((w).toInt64), .long 0, .long 1]) (n := 3) rfl rfl (st1 := [.int (bI (zil ((w).toInt64) 0 1))]) rfl (Nat.le_of_ble_eq_true rfl) dX5_odds_20 ?_
      refine z_top (y := bI (zin w 2)) (bI_eq (zil_k (n := 1) (by decide +kernel) (by omega))) ?_
      refine z_if_neB (tgt := 30) X dX5_odds_23 (by decide) (fun hq9 => ?_) (fun hq9 => ?_)
      ·
        obtain ⟨jv10, hj10, ej10⟩ := zin_t (by omega) hq9
        subst ej10
        have hc10 : tn (nI jv10) = jv10 := nI_clamp (by omega)
        refine z_aload_n X dX5_odds_30 rfl 0 rfl ?_
        refine z_iload_n X dX5_odds_31 rfl 1 rfl ?_
        refine z_iload_n X dX5_odds_32 rfl 2 rfl ?_
        refine z_callVM X (c_X5_yellowBy l g b ft so D E tr C lk kd st sp nd rO rB rD rW sz sl sc sm xa xb xc xd y1 y2 y3 y4 y5 hn jv4 jv8 (by omega) (by omega) (by omega) (by first | assumption | omega) (by omega)) gX5_odds_X5_yellowBy rfl ⟨rfl, rfl⟩ (by decide +kernel) ⟨Nat.le_of_ble_eq_true rfl, Nat.le_of_ble_eq_true rfl⟩ ZF.room (ci := 4) rfl 0 rfl rfl (As := [.int (nI jv4), .int (nI jv8)]) (n := 2) rfl rfl (st1 := [.int (nI (yl D (Lf kd st jv4) jv8))]) rfl (Nat.le_of_ble_eq_true rfl) dX5_odds_33 ?_
        refine z_istore (L' := [(4, .int (nI (yl D (Lf kd st jv4) jv8))), (0, .ref (b 0)), (1, .int (nI jv4)), (2, .int (nI jv8)), (3, .int (nI jv10))]) X dX5_odds_36 (by decide) rfl ?_
        refine z_lconst (v := 0) X dX5_odds_38 (by decide) ?_
        refine z_lstore (L' := [(5, .long 0), (4, .int (nI (yl D (Lf kd st jv4) jv8))), (0, .ref (b 0)), (1, .int (nI jv4)), (2, .int (nI jv8)), (3, .int (nI jv10))]) X dX5_odds_39 (by decide) rfl ?_
        refine z_iconst (v := nI 0) X dX5_odds_41 (by decide) ?_
        refine z_istore (L' := [(7, .int (nI 0)), (5, .long 0), (4, .int (nI (yl D (Lf kd st jv4) jv8))), (0, .ref (b 0)), (1, .int (nI jv4)), (2, .int (nI jv8)), (3, .int (nI jv10))]) X dX5_odds_42 (by decide) rfl ?_
        have loopv11 : ∀ (n11 f_v : Nat), f_v ≤ 2 ^ D → 2 ^ D + 1 ≤ f_v + n11 → zG l g 8 M (wM g b ft so D E tr C lk kd st sp nd rO rB rD rW sz sl sc sm xa xb xc xd y1 y2 y3 y4 y5 hn) [(0, .ref (b 0)), (1, .int (nI jv4)), (2, .int (nI jv8)), (3, .int (nI jv10)), (4, .int (nI (yl D (Lf kd st jv4) jv8))), (5, .long (lN (cntZ (yl D (Lf kd st jv4) jv8) f_v))), (7, .int (nI f_v))] 44 [] := by
          intro n11
          induction n11 with
          | zero => intro f_v h1 h2; exact absurd h2 (by omega)
          | succ n11 ih11 =>
            intro f_v hi11 hn11
            have hyl := yl_lt (D := D) (L := Lf kd st jv4) (S := jv8) hD
            have hya := Nat.and_le_left (n := yl D (Lf kd st jv4) jv8) (m := f_v)
            refine z_iload X dX5_odds_44 6 rfl ?_
            refine z_iconst (v := nI 1) X dX5_odds_46 (by decide) ?_
            refine z_aload_n X dX5_odds_47 rfl 0 rfl ?_
            refine z_get (v := .int (nI D)) (N := 29) X i_RX5 (ci := 4) rfl 0 rfl 2 (by decide) f_78 rfl dX5_odds_48 ?_
            refine z_ishl' (v := nI (2 ^ D)) X dX5_odds_51 (nI_shl1 (by omega)) ?_
            refine z_icmp_geN (tgt := 79) X dX5_odds_52 (by decide) (by omega) (by omega) (fun hq12 => ?_) (fun hq12 => ?_)
            ·
              refine z_lload X dX5_odds_79 5 rfl ?_
              refine z_lconst (v := 1) X dX5_odds_81 (by decide) ?_
              refine z_aload_n X dX5_odds_82 rfl 0 rfl ?_
              refine z_get (v := .int (nI D)) (N := 29) X i_RX5 (ci := 4) rfl 0 rfl 2 (by decide) f_78 rfl dX5_odds_83 ?_
              refine z_lshl (v := 1 <<< ((nI D).toInt64 &&& 63)) X dX5_odds_86 rfl ?_
              refine z_topl (y := lN (2 ^ D)) (odd_shl _ hD) ?_
              refine z_iload_n X dX5_odds_87 rfl 3 rfl ?_
              refine z_callS0 X (c_X5_share l g (cntZ (yl D (Lf kd st jv4) jv8) f_v) (2 ^ D) jv10 (Nat.le_trans (cntZ_le _ _) (by omega)) (by omega) (by omega) (by omega)) gX5_odds_X5_share rfl ⟨rfl, rfl⟩ (by decide +kernel) ⟨Nat.le_of_ble_eq_true rfl, Nat.le_of_ble_eq_true rfl⟩ ZF.room (As := [.long (lN (cntZ (yl D (Lf kd st jv4) jv8) f_v)), .long (lN (2 ^ D)), .int (nI jv10)]) (n := 3) rfl rfl (st1 := [.long (lN ((if jv10 = 0 then (cntZ (yl D (Lf kd st jv4) jv8) f_v) else (2 ^ D)) / Nat.gcd (cntZ (yl D (Lf kd st jv4) jv8) f_v) (2 ^ D)))]) rfl (Nat.le_of_ble_eq_true rfl) dX5_odds_88 ?_
              exact z_lret X ZF dX5_odds_91 (by rw [show f_v = 2 ^ D by omega]; have hcz := cntZ_gcd D hD _ (yl_ltD (D := D) (L := Lf kd st jv4) (S := jv8)); rw [hcz.1.1]; simp [hcz.2, Nat.div_self hcz.1.2, hq3, hc4, hq7, hc8, hq9, hc10, hq12]; first | rfl | (split <;> first | rfl | (simp_all; done) | (simp_all; show lN 1 = 1; first | rfl | decide +kernel))) rfl
            ·
              refine z_lload X dX5_odds_55 5 rfl ?_
              refine z_iload X dX5_odds_57 4 rfl ?_
              refine z_iload X dX5_odds_59 6 rfl ?_
              refine z_iand' (v := nI ((yl D (Lf kd st jv4) jv8) &&& f_v)) X dX5_odds_61 (fa_and _ _) ?_
              refine z_if_neN (tgt := 69) X dX5_odds_62 (by decide) (by omega) (fun hq13 => ?_) (fun hq13 => ?_)
              ·
                refine z_lconst (v := 0) X dX5_odds_69 (by decide) ?_
                refine z_ladd X dX5_odds_70 ?_
                refine z_lstore (L' := [(5, .long ((lN (cntZ (yl D (Lf kd st jv4) jv8) f_v)) + 0)), (0, .ref (b 0)), (1, .int (nI jv4)), (2, .int (nI jv8)), (3, .int (nI jv10)), (4, .int (nI (yl D (Lf kd st jv4) jv8))), (7, .int (nI f_v))]) X dX5_odds_71 (by decide) rfl ?_
                refine z_iinc (v := nI (f_v + 1)) (L' := [(7, .int (nI (f_v + 1))), (5, .long ((lN (cntZ (yl D (Lf kd st jv4) jv8) f_v)) + 0)), (0, .ref (b 0)), (1, .int (nI jv4)), (2, .int (nI jv8)), (3, .int (nI jv10)), (4, .int (nI (yl D (Lf kd st jv4) jv8)))]) X dX5_odds_73 6 rfl (nI_inc f_v 1) (by decide) rfl ?_
                refine z_goto (tgt := 44) X dX5_odds_76 (by decide) ?_
                refine z_ls (L' := [(0, .ref (b 0)), (1, .int (nI jv4)), (2, .int (nI jv8)), (3, .int (nI jv10)), (4, .int (nI (yl D (Lf kd st jv4) jv8))), (5, .long ((lN (cntZ (yl D (Lf kd st jv4) jv8) f_v)) + 0)), (7, .int (nI (f_v + 1)))]) [2, 3, 4, 5, 6, 1, 0] rfl ?_
                have e14 : ((lN (cntZ (yl D (Lf kd st jv4) jv8) f_v)) + 0) = (lN (cntZ (yl D (Lf kd st jv4) jv8) (f_v + 1))) := by first | rfl | (simp [cntZ, lN_1, hq3, hc4, hq7, hc8, hq9, hc10, hq12, hq13]; done) | (simp [cntZ, lN_1, hq3, hc4, hq7, hc8, hq9, hc10, hq12, hq13]; rfl)
                refine z_Le (L' := [(0, .ref (b 0)), (1, .int (nI jv4)), (2, .int (nI jv8)), (3, .int (nI jv10)), (4, .int (nI (yl D (Lf kd st jv4) jv8))), (5, .long (lN (cntZ (yl D (Lf kd st jv4) jv8) (f_v + 1)))), (7, .int (nI (f_v + 1)))]) (by rw [← e14]) ?_
                exact ih11 (f_v + 1) (by omega) (by omega)
              ·
                refine z_lconst (v := 1) X dX5_odds_65 (by decide) ?_
                refine z_goto (tgt := 70) X dX5_odds_66 (by decide) ?_
                refine z_ladd X dX5_odds_70 ?_
                refine z_lstore (L' := [(5, .long ((lN (cntZ (yl D (Lf kd st jv4) jv8) f_v)) + 1)), (0, .ref (b 0)), (1, .int (nI jv4)), (2, .int (nI jv8)), (3, .int (nI jv10)), (4, .int (nI (yl D (Lf kd st jv4) jv8))), (7, .int (nI f_v))]) X dX5_odds_71 (by decide) rfl ?_
                refine z_iinc (v := nI (f_v + 1)) (L' := [(7, .int (nI (f_v + 1))), (5, .long ((lN (cntZ (yl D (Lf kd st jv4) jv8) f_v)) + 1)), (0, .ref (b 0)), (1, .int (nI jv4)), (2, .int (nI jv8)), (3, .int (nI jv10)), (4, .int (nI (yl D (Lf kd st jv4) jv8)))]) X dX5_odds_73 6 rfl (nI_inc f_v 1) (by decide) rfl ?_
                refine z_goto (tgt := 44) X dX5_odds_76 (by decide) ?_
                refine z_ls (L' := [(0, .ref (b 0)), (1, .int (nI jv4)), (2, .int (nI jv8)), (3, .int (nI jv10)), (4, .int (nI (yl D (Lf kd st jv4) jv8))), (5, .long ((lN (cntZ (yl D (Lf kd st jv4) jv8) f_v)) + 1)), (7, .int (nI (f_v + 1)))]) [2, 3, 4, 5, 6, 1, 0] rfl ?_
                have e15 : ((lN (cntZ (yl D (Lf kd st jv4) jv8) f_v)) + 1) = (lN (cntZ (yl D (Lf kd st jv4) jv8) (f_v + 1))) := by first | rfl | (simp [cntZ, lN_1, hq3, hc4, hq7, hc8, hq9, hc10, hq12, hq13]; done) | (simp [cntZ, lN_1, hq3, hc4, hq7, hc8, hq9, hc10, hq12, hq13]; rfl)
                refine z_Le (L' := [(0, .ref (b 0)), (1, .int (nI jv4)), (2, .int (nI jv8)), (3, .int (nI jv10)), (4, .int (nI (yl D (Lf kd st jv4) jv8))), (5, .long (lN (cntZ (yl D (Lf kd st jv4) jv8) (f_v + 1)))), (7, .int (nI (f_v + 1)))]) (by rw [← e15]) ?_
                exact ih11 (f_v + 1) (by omega) (by omega)
        refine z_ls (L' := [(0, .ref (b 0)), (1, .int (nI jv4)), (2, .int (nI jv8)), (3, .int (nI jv10)), (4, .int (nI (yl D (Lf kd st jv4) jv8))), (5, .long 0), (7, .int (nI 0))]) [3, 4, 5, 6, 2, 1, 0] rfl ?_
        have e16 : 0 = (lN (cntZ (yl D (Lf kd st jv4) jv8) 0)) := by first | rfl | (simp [cntZ, lN_1, hq3, hc4, hq7, hc8, hq9, hc10]; done) | (simp [cntZ, lN_1, hq3, hc4, hq7, hc8, hq9, hc10]; rfl)
        refine z_Le (L' := [(0, .ref (b 0)), (1, .int (nI jv4)), (2, .int (nI jv8)), (3, .int (nI jv10)), (4, .int (nI (yl D (Lf kd st jv4) jv8))), (5, .long (lN (cntZ (yl D (Lf kd st jv4) jv8) 0))), (7, .int (nI 0))]) (by rw [← e16]) ?_
        exact loopv11 ((2 ^ D) + 1) 0 (by omega) (by omega)
      ·
        refine z_callS0 X (c_X5_lost l g ) gX5_odds_X5_lost rfl ⟨rfl, rfl⟩ (by decide +kernel) ⟨Nat.le_of_ble_eq_true rfl, Nat.le_of_ble_eq_true rfl⟩ ZF.room (As := []) (n := 0) rfl rfl (st1 := [.long (-9223372036854775808)]) rfl (Nat.le_of_ble_eq_true rfl) dX5_odds_26 ?_
        exact z_lret X ZF dX5_odds_29 (by simp [hq3, hc4, hq7, hc8, hq9]) rfl
abbrev rX5_traced : Room := { frames := 0, cells := 0, slots := 0, locals := 0 }
set_option maxHeartbeats 4000000 in
set_option maxRecDepth 100000 in
theorem c_X5_traced (l : Launch) (g : zg) (b : Nat → Nat) (ft : Int32) (so : Int32) (D : Nat) (E : Nat) (tr : Int32) (C : Nat) (lk : Nat → Int32) (kd : Nat → Int32) (st : Nat → Int32) (sp : Nat → Int32) (nd : Nat → Int32) (rO : Nat → Int32) (rB : Nat → Int32) (rD : Nat → Int32) (rW : Nat → Int32) (sz : Nat → Int32) (sl : Nat → Int32) (sc : Nat → Int32) (sm : Int32) (xa : Nat) (xb : Int32) (xc : Nat) (xd : Nat) (y1 : Nat → Int32) (y2 : Nat → Int32) (y3 : Nat → Int32) (y4 : Nat → Int32) (y5 : Nat → Int32) (hn : Nat → Int32) (m : Int32) : zM l g yX5_traced wsX5_traced rX5_traced [.ref (b 0), .int m] (wM g b ft so D E tr C lk kd st sp nd rO rB rD rW sz sl sc sm xa xb xc xd y1 y2 y3 y4 y5 hn) none (wM g b ft so D E (nI 31 * tr + m) C lk kd st sp nd rO rB rD rW sz sl sc sm xa xb xc xd y1 y2 y3 y4 y5 hn) := by
  refine z_met (own := RX5) (cc := cX5_traced) (maxL := 2) (ret := none) (by decide +kernel) rfl rfl (Nat.le_of_ble_eq_true rfl) ?_
  intro M X ZF
  refine z_Le (L' := [(0, .ref (b 0)), (1, .int m)]) rfl ?_
  have i_RX5 : ∀ w ∈ wsX50, w ∈ wsX5_traced := by decide +kernel
  have f_210 : Cond.fieldLink RX5 210 (TX5 28).1 (TX5 28).2.1 (TX5 28).2.2.1 ∈ wsX5_traced := by decide +kernel
  refine z_aload_n X dX5_traced_0 rfl 0 rfl ?_
  refine z_bipush (v := nI 31) X dX5_traced_1 (by decide) ?_
  refine z_aload_n X dX5_traced_3 rfl 0 rfl ?_
  refine z_get (v := .int tr) (N := 29) X i_RX5 (ci := 4) rfl 0 rfl 28 (by decide) f_210 rfl dX5_traced_4 ?_
  refine z_imul X dX5_traced_7 ?_
  refine z_iload_n X dX5_traced_8 rfl 1 rfl ?_
  refine z_iadd X dX5_traced_9 ?_
  refine z_put (ws' := (wM g b ft so D E (((nI 31) * tr) + m) C lk kd st sp nd rO rB rD rW sz sl sc sm xa xb xc xd y1 y2 y3 y4 y5 hn)) (N := 29) X i_RX5 (ci := 4) rfl tyX5 tyX5_ok nmX5 0 rfl 28 (by decide) f_210 rfl (ty := .int) (by decide +kernel) rfl rfl (Nat.le_of_ble_eq_true rfl) dX5_traced_10 rfl ?_
  exact z_vret X ZF dX5_traced_13 rfl
abbrev rX5_tell : Room := { frames := 2, cells := 0, slots := 0, locals := 46 }
set_option maxHeartbeats 4000000 in
set_option maxRecDepth 100000 in
theorem c_X5_tell (l : Launch) (g : zg) (b : Nat → Nat) (ft : Int32) (so : Int32) (D : Nat) (E : Nat) (tr : Int32) (C : Nat) (lk : Nat → Int32) (kd : Nat → Int32) (st : Nat → Int32) (sp : Nat → Int32) (nd : Nat → Int32) (rO : Nat → Int32) (rB : Nat → Int32) (rD : Nat → Int32) (rW : Nat → Int32) (sz : Nat → Int32) (sl : Nat → Int32) (sc : Nat → Int32) (sm : Int32) (xa : Nat) (xb : Int32) (xc : Nat) (xd : Nat) (y1 : Nat → Int32) (y2 : Nat → Int32) (y3 : Nat → Int32) (y4 : Nat → Int32) (y5 : Nat → Int32) (hn : Nat → Int32) (x : Int32) (hE : E ≤ 4) (hK : vK kd st E) : zM l g yX5_tell wsX5_tell rX5_tell [.ref (b 0), .int x] (wM g b ft so D E tr C lk kd st sp nd rO rB rD rW sz sl sc sm xa xb xc xd y1 y2 y3 y4 y5 hn) (some (.int (if zin x E then telI (kd (tn x)) (sp (tn x)) else -1))) (wM g b ft so D E (if zin x E then telT (kd (tn x)) tr else tr) C lk kd st sp nd rO rB rD rW sz sl sc sm xa xb xc xd y1 y2 y3 y4 y5 hn) := by
  refine z_met (own := RX5) (cc := cX5_tell) (maxL := 4) (ret := some .int) (by decide +kernel) rfl rfl (Nat.le_of_ble_eq_true rfl) ?_
  intro M X ZF
  refine z_Le (L' := [(0, .ref (b 0)), (1, .int x)]) rfl ?_
  have i_RX5 : ∀ w ∈ wsX50, w ∈ wsX5_tell := by decide +kernel
  have f_13 : Cond.fieldLink RX5 13 (TX5 5).1 (TX5 5).2.1 (TX5 5).2.2.1 ∈ wsX5_tell := by decide +kernel
  have f_19 : Cond.fieldLink RX5 19 (TX5 7).1 (TX5 7).2.1 (TX5 7).2.2.1 ∈ wsX5_tell := by decide +kernel
  refine z_aload_n X dX5_tell_0 rfl 0 rfl ?_
  refine z_iload_n X dX5_tell_1 rfl 1 rfl ?_
  refine z_callVM X (c_X5_noEater l g b ft so D E tr C lk kd st sp nd rO rB rD rW sz sl sc sm xa xb xc xd y1 y2 y3 y4 y5 hn x (by omega)) gX5_tell_X5_noEater rfl ⟨rfl, rfl⟩ (by decide +kernel) ⟨Nat.le_of_ble_eq_true rfl, Nat.le_of_ble_eq_true rfl⟩ ZF.room (ci := 4) rfl 0 rfl rfl (As := [.int x]) (n := 1) rfl rfl (st1 := [.int (bI (!zin x E))]) rfl (Nat.le_of_ble_eq_true rfl) dX5_tell_2 ?_
  refine z_if_eqB (tgt := 10) X dX5_tell_5 (by decide) (fun hq1 => ?_) (fun hq1 => ?_)
  ·
    have hq2 : (zin x E) = true := by simpa using hq1
    obtain ⟨jv3, hj3, ej3⟩ := zin_t (by omega) hq2
    subst ej3
    have hc3 : tn (nI jv3) = jv3 := nI_clamp (by omega)
    refine z_aload_n X dX5_tell_10 rfl 0 rfl ?_
    refine z_get (v := .ref (b 2)) (N := 29) X i_RX5 (ci := 4) rfl 0 rfl 5 (by decide) f_13 rfl dX5_tell_11 ?_
    refine z_iload_n X dX5_tell_14 rfl 1 rfl ?_
    refine z_ialdN X 2 rfl (by omega) (by omega) dX5_tell_15 ?_
    rcases kd3 (hK _ (by omega : jv3 < E)).1 with hkd | hkd | hkd
    ·
      refine z_top hkd ?_
      refine z_istore_n (L' := [(2, .int (nI 0)), (0, .ref (b 0)), (1, .int (nI jv3))]) X dX5_tell_16 rfl (by decide) rfl ?_
      refine z_iload_n X dX5_tell_17 rfl 0 rfl ?_
      refine z_iconst (v := nI 2) X dX5_tell_18 (by decide) ?_
      refine z_icmp_neN (tgt := 27) X dX5_tell_19 (by decide) (by omega) (by omega) (fun hq4 => ?_) (fun hq4 => ?_)
      ·
        refine z_iload_n X dX5_tell_27 rfl 0 rfl ?_
        refine z_if_leN (tgt := 36) X dX5_tell_28 (by decide) (by omega) (fun hq5 => ?_) (fun hq5 => ?_)
        ·
          refine z_aload_n X dX5_tell_36 rfl 1 rfl ?_
          refine z_iconst (v := nI 1) X dX5_tell_37 (by decide) ?_
          refine z_callVM X (c_X5_traced l g b ft so D E tr C lk kd st sp nd rO rB rD rW sz sl sc sm xa xb xc xd y1 y2 y3 y4 y5 hn (nI 1)) gX5_tell_X5_traced rfl ⟨rfl, rfl⟩ (by decide +kernel) ⟨Nat.le_of_ble_eq_true rfl, Nat.le_of_ble_eq_true rfl⟩ ZF.room (ci := 4) rfl 0 rfl rfl (As := [.int (nI 1)]) (n := 1) rfl rfl (st1 := []) rfl (Nat.le_of_ble_eq_true rfl) dX5_tell_38 ?_
          refine z_iload_n X dX5_tell_41 rfl 0 rfl ?_
          refine z_iconst (v := nI 2) X dX5_tell_42 (by decide) ?_
          refine z_icmp_neN (tgt := 51) X dX5_tell_43 (by decide) (by omega) (by omega) (fun hq6 => ?_) (fun hq6 => ?_)
          ·
            refine z_aload_n X dX5_tell_51 rfl 1 rfl ?_
            refine z_get (v := .ref (b 4)) (N := 29) X i_RX5 (ci := 4) rfl 0 rfl 7 (by decide) f_19 rfl dX5_tell_52 ?_
            refine z_iload_n X dX5_tell_55 rfl 2 rfl ?_
            refine z_ialdN X 4 rfl (by omega) (by omega) dX5_tell_56 ?_
            refine z_istore_n (L' := [(3, .int (sp jv3)), (2, .int (nI 0)), (0, .ref (b 0)), (1, .int (nI jv3))]) X dX5_tell_57 rfl (by decide) rfl ?_
            refine z_iload_n X dX5_tell_58 rfl 1 rfl ?_
            refine z_if_neN (tgt := 66) X dX5_tell_59 (by decide) (by omega) (fun hq7 => ?_) (fun hq7 => ?_)
            ·
              exact absurd hq7 (by decide)
            ·
              refine z_iload_n X dX5_tell_62 rfl 0 rfl ?_
              refine z_goto (tgt := 84) X dX5_tell_63 (by decide) ?_
              have e8 : (if zin (nI jv3) E then telT (kd (tn (nI jv3))) tr else tr) = (nI 31 * tr + (nI 1)) := by first | (simp [telI, telT, hq2, hc3, hkd, hq4, hq5, hq6, hq7]; done) | (simp [telI, telT, tel2, nI_10, nI_21, nI_12, nI_01, nI_02, hq2, hc3, hkd, hq4, hq5, hq6, hq7])
              exact z_iret X ZF dX5_tell_84 (by first | (simp [telI, telT, hq2, hc3, hkd, hq4, hq5, hq6, hq7]; done) | (simp [telI, telT, tel2, nI_10, nI_21, nI_12, nI_01, nI_02, hq2, hc3, hkd, hq4, hq5, hq6, hq7])) (by rw [e8])
          ·
            exact absurd hq6 (by decide)
        ·
          exact absurd hq5 (by decide)
      ·
        exact absurd hq4 (by decide)
    ·
      refine z_top hkd ?_
      refine z_istore_n (L' := [(2, .int (nI 1)), (0, .ref (b 0)), (1, .int (nI jv3))]) X dX5_tell_16 rfl (by decide) rfl ?_
      refine z_iload_n X dX5_tell_17 rfl 0 rfl ?_
      refine z_iconst (v := nI 2) X dX5_tell_18 (by decide) ?_
      refine z_icmp_neN (tgt := 27) X dX5_tell_19 (by decide) (by omega) (by omega) (fun hq9 => ?_) (fun hq9 => ?_)
      ·
        refine z_iload_n X dX5_tell_27 rfl 0 rfl ?_
        refine z_if_leN (tgt := 36) X dX5_tell_28 (by decide) (by omega) (fun hq10 => ?_) (fun hq10 => ?_)
        ·
          exact absurd hq10 (by decide)
        ·
          refine z_aload_n X dX5_tell_31 rfl 1 rfl ?_
          refine z_iconst (v := nI 2) X dX5_tell_32 (by decide) ?_
          refine z_callVM X (c_X5_traced l g b ft so D E tr C lk kd st sp nd rO rB rD rW sz sl sc sm xa xb xc xd y1 y2 y3 y4 y5 hn (nI 2)) gX5_tell_X5_traced rfl ⟨rfl, rfl⟩ (by decide +kernel) ⟨Nat.le_of_ble_eq_true rfl, Nat.le_of_ble_eq_true rfl⟩ ZF.room (ci := 4) rfl 0 rfl rfl (As := [.int (nI 2)]) (n := 1) rfl rfl (st1 := []) rfl (Nat.le_of_ble_eq_true rfl) dX5_tell_33 ?_
          refine z_aload_n X dX5_tell_36 rfl 1 rfl ?_
          refine z_iconst (v := nI 1) X dX5_tell_37 (by decide) ?_
          refine z_callVM X (c_X5_traced l g b ft so D E (nI 31 * tr + (nI 2)) C lk kd st sp nd rO rB rD rW sz sl sc sm xa xb xc xd y1 y2 y3 y4 y5 hn (nI 1)) gX5_tell_X5_traced rfl ⟨rfl, rfl⟩ (by decide +kernel) ⟨Nat.le_of_ble_eq_true rfl, Nat.le_of_ble_eq_true rfl⟩ ZF.room (ci := 4) rfl 0 rfl rfl (As := [.int (nI 1)]) (n := 1) rfl rfl (st1 := []) rfl (Nat.le_of_ble_eq_true rfl) dX5_tell_38 ?_
          refine z_iload_n X dX5_tell_41 rfl 0 rfl ?_
          refine z_iconst (v := nI 2) X dX5_tell_42 (by decide) ?_
          refine z_icmp_neN (tgt := 51) X dX5_tell_43 (by decide) (by omega) (by omega) (fun hq11 => ?_) (fun hq11 => ?_)
          ·
            refine z_aload_n X dX5_tell_51 rfl 1 rfl ?_
            refine z_get (v := .ref (b 4)) (N := 29) X i_RX5 (ci := 4) rfl 0 rfl 7 (by decide) f_19 rfl dX5_tell_52 ?_
            refine z_iload_n X dX5_tell_55 rfl 2 rfl ?_
            refine z_ialdN X 4 rfl (by omega) (by omega) dX5_tell_56 ?_
            refine z_istore_n (L' := [(3, .int (sp jv3)), (2, .int (nI 1)), (0, .ref (b 0)), (1, .int (nI jv3))]) X dX5_tell_57 rfl (by decide) rfl ?_
            refine z_iload_n X dX5_tell_58 rfl 1 rfl ?_
            refine z_if_neN (tgt := 66) X dX5_tell_59 (by decide) (by omega) (fun hq12 => ?_) (fun hq12 => ?_)
            ·
              refine z_iload_n X dX5_tell_66 rfl 1 rfl ?_
              refine z_iconst (v := nI 1) X dX5_tell_67 (by decide) ?_
              refine z_icmp_neN (tgt := 78) X dX5_tell_68 (by decide) (by omega) (by omega) (fun hq13 => ?_) (fun hq13 => ?_)
              ·
                exact absurd rfl hq13
              ·
                refine z_iload_n X dX5_tell_71 rfl 0 rfl ?_
                refine z_bipush (v := nI 100) X dX5_tell_72 (by decide) ?_
                refine z_iadd X dX5_tell_74 ?_
                refine z_goto (tgt := 84) X dX5_tell_75 (by decide) ?_
                have e14 : (if zin (nI jv3) E then telT (kd (tn (nI jv3))) tr else tr) = (nI 31 * (nI 31 * tr + (nI 2)) + (nI 1)) := by first | (simp [telI, telT, hq2, hc3, hkd, hq9, hq10, hq11, hq12, hq13]; done) | (simp [telI, telT, tel2, nI_10, nI_21, nI_12, nI_01, nI_02, hq2, hc3, hkd, hq9, hq10, hq11, hq12, hq13])
                exact z_iret X ZF dX5_tell_84 (by first | (simp [telI, telT, hq2, hc3, hkd, hq9, hq10, hq11, hq12, hq13]; done) | (simp [telI, telT, tel2, nI_10, nI_21, nI_12, nI_01, nI_02, hq2, hc3, hkd, hq9, hq10, hq11, hq12, hq13])) (by rw [e14])
            ·
              exact absurd hq12 (by decide)
          ·
            exact absurd hq11 (by decide)
      ·
        exact absurd hq9 (by decide)
    ·
      refine z_top hkd ?_
      refine z_istore_n (L' := [(2, .int (nI 2)), (0, .ref (b 0)), (1, .int (nI jv3))]) X dX5_tell_16 rfl (by decide) rfl ?_
      refine z_iload_n X dX5_tell_17 rfl 0 rfl ?_
      refine z_iconst (v := nI 2) X dX5_tell_18 (by decide) ?_
      refine z_icmp_neN (tgt := 27) X dX5_tell_19 (by decide) (by omega) (by omega) (fun hq15 => ?_) (fun hq15 => ?_)
      ·
        exact absurd rfl hq15
      ·
        refine z_aload_n X dX5_tell_22 rfl 1 rfl ?_
        refine z_iconst (v := nI 3) X dX5_tell_23 (by decide) ?_
        refine z_callVM X (c_X5_traced l g b ft so D E tr C lk kd st sp nd rO rB rD rW sz sl sc sm xa xb xc xd y1 y2 y3 y4 y5 hn (nI 3)) gX5_tell_X5_traced rfl ⟨rfl, rfl⟩ (by decide +kernel) ⟨Nat.le_of_ble_eq_true rfl, Nat.le_of_ble_eq_true rfl⟩ ZF.room (ci := 4) rfl 0 rfl rfl (As := [.int (nI 3)]) (n := 1) rfl rfl (st1 := []) rfl (Nat.le_of_ble_eq_true rfl) dX5_tell_24 ?_
        refine z_iload_n X dX5_tell_27 rfl 0 rfl ?_
        refine z_if_leN (tgt := 36) X dX5_tell_28 (by decide) (by omega) (fun hq16 => ?_) (fun hq16 => ?_)
        ·
          exact absurd hq16 (by decide)
        ·
          refine z_aload_n X dX5_tell_31 rfl 1 rfl ?_
          refine z_iconst (v := nI 2) X dX5_tell_32 (by decide) ?_
          refine z_callVM X (c_X5_traced l g b ft so D E (nI 31 * tr + (nI 3)) C lk kd st sp nd rO rB rD rW sz sl sc sm xa xb xc xd y1 y2 y3 y4 y5 hn (nI 2)) gX5_tell_X5_traced rfl ⟨rfl, rfl⟩ (by decide +kernel) ⟨Nat.le_of_ble_eq_true rfl, Nat.le_of_ble_eq_true rfl⟩ ZF.room (ci := 4) rfl 0 rfl rfl (As := [.int (nI 2)]) (n := 1) rfl rfl (st1 := []) rfl (Nat.le_of_ble_eq_true rfl) dX5_tell_33 ?_
          refine z_aload_n X dX5_tell_36 rfl 1 rfl ?_
          refine z_iconst (v := nI 1) X dX5_tell_37 (by decide) ?_
          refine z_callVM X (c_X5_traced l g b ft so D E (nI 31 * (nI 31 * tr + (nI 3)) + (nI 2)) C lk kd st sp nd rO rB rD rW sz sl sc sm xa xb xc xd y1 y2 y3 y4 y5 hn (nI 1)) gX5_tell_X5_traced rfl ⟨rfl, rfl⟩ (by decide +kernel) ⟨Nat.le_of_ble_eq_true rfl, Nat.le_of_ble_eq_true rfl⟩ ZF.room (ci := 4) rfl 0 rfl rfl (As := [.int (nI 1)]) (n := 1) rfl rfl (st1 := []) rfl (Nat.le_of_ble_eq_true rfl) dX5_tell_38 ?_
          refine z_iload_n X dX5_tell_41 rfl 0 rfl ?_
          refine z_iconst (v := nI 2) X dX5_tell_42 (by decide) ?_
          refine z_icmp_neN (tgt := 51) X dX5_tell_43 (by decide) (by omega) (by omega) (fun hq17 => ?_) (fun hq17 => ?_)
          ·
            exact absurd rfl hq17
          ·
            refine z_aload_n X dX5_tell_46 rfl 1 rfl ?_
            refine z_iconst (v := nI 1) X dX5_tell_47 (by decide) ?_
            refine z_callVM X (c_X5_traced l g b ft so D E (nI 31 * (nI 31 * (nI 31 * tr + (nI 3)) + (nI 2)) + (nI 1)) C lk kd st sp nd rO rB rD rW sz sl sc sm xa xb xc xd y1 y2 y3 y4 y5 hn (nI 1)) gX5_tell_X5_traced rfl ⟨rfl, rfl⟩ (by decide +kernel) ⟨Nat.le_of_ble_eq_true rfl, Nat.le_of_ble_eq_true rfl⟩ ZF.room (ci := 4) rfl 0 rfl rfl (As := [.int (nI 1)]) (n := 1) rfl rfl (st1 := []) rfl (Nat.le_of_ble_eq_true rfl) dX5_tell_48 ?_
            refine z_aload_n X dX5_tell_51 rfl 1 rfl ?_
            refine z_get (v := .ref (b 4)) (N := 29) X i_RX5 (ci := 4) rfl 0 rfl 7 (by decide) f_19 rfl dX5_tell_52 ?_
            refine z_iload_n X dX5_tell_55 rfl 2 rfl ?_
            refine z_ialdN X 4 rfl (by omega) (by omega) dX5_tell_56 ?_
            refine z_istore_n (L' := [(3, .int (sp jv3)), (2, .int (nI 2)), (0, .ref (b 0)), (1, .int (nI jv3))]) X dX5_tell_57 rfl (by decide) rfl ?_
            refine z_iload_n X dX5_tell_58 rfl 1 rfl ?_
            refine z_if_neN (tgt := 66) X dX5_tell_59 (by decide) (by omega) (fun hq18 => ?_) (fun hq18 => ?_)
            ·
              refine z_iload_n X dX5_tell_66 rfl 1 rfl ?_
              refine z_iconst (v := nI 1) X dX5_tell_67 (by decide) ?_
              refine z_icmp_neN (tgt := 78) X dX5_tell_68 (by decide) (by omega) (by omega) (fun hq19 => ?_) (fun hq19 => ?_)
              ·
                refine z_iconst (v := nI 2) X dX5_tell_78 (by decide) ?_
                refine z_iload_n X dX5_tell_79 rfl 0 rfl ?_
                refine z_imul X dX5_tell_80 ?_
                refine z_bipush (v := nI 100) X dX5_tell_81 (by decide) ?_
                refine z_iadd X dX5_tell_83 ?_
                have e20 : (if zin (nI jv3) E then telT (kd (tn (nI jv3))) tr else tr) = (nI 31 * (nI 31 * (nI 31 * (nI 31 * tr + (nI 3)) + (nI 2)) + (nI 1)) + (nI 1)) := by first | (simp [telI, telT, hq2, hc3, hkd, hq15, hq16, hq17, hq18, hq19]; done) | (simp [telI, telT, tel2, nI_10, nI_21, nI_12, nI_01, nI_02, hq2, hc3, hkd, hq15, hq16, hq17, hq18, hq19])
                exact z_iret X ZF dX5_tell_84 (by first | (simp [telI, telT, hq2, hc3, hkd, hq15, hq16, hq17, hq18, hq19]; done) | (simp [telI, telT, tel2, nI_10, nI_21, nI_12, nI_01, nI_02, hq2, hc3, hkd, hq15, hq16, hq17, hq18, hq19])) (by rw [e20])
              ·
                exact absurd hq19 (by decide)
            ·
              exact absurd hq18 (by decide)
  ·
    have hq21 : (zin x E) = false := by simpa using hq1
    refine z_iconst (v := (-1)) X dX5_tell_8 (by decide) ?_
    have e22 : (if zin x E then telT (kd (tn x)) tr else tr) = tr := by first | (simp [telI, telT, hq21]; done) | (simp [telI, telT, tel2, nI_10, nI_21, nI_12, nI_01, nI_02, hq21])
    exact z_iret X ZF dX5_tell_9 (by first | (simp [telI, telT, hq21]; done) | (simp [telI, telT, tel2, nI_10, nI_21, nI_12, nI_01, nI_02, hq21])) (by rw [e22])
abbrev rX5_sniff : Room := { frames := 2, cells := 0, slots := 0, locals := 46 }
set_option maxHeartbeats 4000000 in
set_option maxRecDepth 100000 in
theorem c_X5_sniff (l : Launch) (g : zg) (b : Nat → Nat) (ft : Int32) (so : Int32) (D : Nat) (E : Nat) (tr : Int32) (C : Nat) (lk : Nat → Int32) (kd : Nat → Int32) (st : Nat → Int32) (sp : Nat → Int32) (nd : Nat → Int32) (rO : Nat → Int32) (rB : Nat → Int32) (rD : Nat → Int32) (rW : Nat → Int32) (sz : Nat → Int32) (sl : Nat → Int32) (sc : Nat → Int32) (sm : Int32) (xa : Nat) (xb : Int32) (xc : Nat) (xd : Nat) (y1 : Nat → Int32) (y2 : Nat → Int32) (y3 : Nat → Int32) (y4 : Nat → Int32) (y5 : Nat → Int32) (hn : Nat → Int32) (x : Int32) (hE : E ≤ 4) : zM l g yX5_sniff wsX5_sniff rX5_sniff [.ref (b 0), .int x] (wM g b ft so D E tr C lk kd st sp nd rO rB rD rW sz sl sc sm xa xb xc xd y1 y2 y3 y4 y5 hn) (some (.int (if zin x E then (if kd (tn x) = nI 2 then nI 40 else x) else -1))) (wM g b ft so D E (if zin x E then nI 31 * tr + (if kd (tn x) = nI 2 then nI 5 else nI 4) else tr) C lk kd st sp nd rO rB rD rW sz sl sc sm xa xb xc xd y1 y2 y3 y4 y5 hn) := by
  refine z_met (own := RX5) (cc := cX5_sniff) (maxL := 2) (ret := some .int) (by decide +kernel) rfl rfl (Nat.le_of_ble_eq_true rfl) ?_
  intro M X ZF
  refine z_Le (L' := [(0, .ref (b 0)), (1, .int x)]) rfl ?_
  have i_RX5 : ∀ w ∈ wsX50, w ∈ wsX5_sniff := by decide +kernel
  have f_13 : Cond.fieldLink RX5 13 (TX5 5).1 (TX5 5).2.1 (TX5 5).2.2.1 ∈ wsX5_sniff := by decide +kernel
  refine z_aload_n X dX5_sniff_0 rfl 0 rfl ?_
  refine z_iload_n X dX5_sniff_1 rfl 1 rfl ?_
  refine z_callVM X (c_X5_noEater l g b ft so D E tr C lk kd st sp nd rO rB rD rW sz sl sc sm xa xb xc xd y1 y2 y3 y4 y5 hn x (by omega)) gX5_sniff_X5_noEater rfl ⟨rfl, rfl⟩ (by decide +kernel) ⟨Nat.le_of_ble_eq_true rfl, Nat.le_of_ble_eq_true rfl⟩ ZF.room (ci := 4) rfl 0 rfl rfl (As := [.int x]) (n := 1) rfl rfl (st1 := [.int (bI (!zin x E))]) rfl (Nat.le_of_ble_eq_true rfl) dX5_sniff_2 ?_
  refine z_if_eqB (tgt := 10) X dX5_sniff_5 (by decide) (fun hq1 => ?_) (fun hq1 => ?_)
  ·
    have hq2 : (zin x E) = true := by simpa using hq1
    obtain ⟨jv3, hj3, ej3⟩ := zin_t (by omega) hq2
    subst ej3
    have hc3 : tn (nI jv3) = jv3 := nI_clamp (by omega)
    refine z_aload_n X dX5_sniff_10 rfl 0 rfl ?_
    refine z_aload_n X dX5_sniff_11 rfl 0 rfl ?_
    refine z_get (v := .ref (b 2)) (N := 29) X i_RX5 (ci := 4) rfl 0 rfl 5 (by decide) f_13 rfl dX5_sniff_12 ?_
    refine z_iload_n X dX5_sniff_15 rfl 1 rfl ?_
    refine z_ialdN X 2 rfl (by omega) (by omega) dX5_sniff_16 ?_
    refine z_iconst (v := nI 2) X dX5_sniff_17 (by decide) ?_
    refine z_icmp_ne (tgt := 25) X dX5_sniff_18 (by decide) (fun hq4 => ?_) (fun hq4 => ?_)
    ·
      refine z_iconst (v := nI 4) X dX5_sniff_25 (by decide) ?_
      refine z_callVM X (c_X5_traced l g b ft so D E tr C lk kd st sp nd rO rB rD rW sz sl sc sm xa xb xc xd y1 y2 y3 y4 y5 hn (nI 4)) gX5_sniff_X5_traced rfl ⟨rfl, rfl⟩ (by decide +kernel) ⟨Nat.le_of_ble_eq_true rfl, Nat.le_of_ble_eq_true rfl⟩ ZF.room (ci := 4) rfl 0 rfl rfl (As := [.int (nI 4)]) (n := 1) rfl rfl (st1 := []) rfl (Nat.le_of_ble_eq_true rfl) dX5_sniff_26 ?_
      refine z_aload_n X dX5_sniff_29 rfl 0 rfl ?_
      refine z_get (v := .ref (b 2)) (N := 29) X i_RX5 (ci := 4) rfl 0 rfl 5 (by decide) f_13 rfl dX5_sniff_30 ?_
      refine z_iload_n X dX5_sniff_33 rfl 1 rfl ?_
      refine z_ialdN X 2 rfl (by omega) (by omega) dX5_sniff_34 ?_
      refine z_iconst (v := nI 2) X dX5_sniff_35 (by decide) ?_
      refine z_icmp_ne (tgt := 44) X dX5_sniff_36 (by decide) (fun hq5 => ?_) (fun hq5 => ?_)
      ·
        refine z_iload_n X dX5_sniff_44 rfl 1 rfl ?_
        have e6 : (if zin (nI jv3) E then nI 31 * tr + (if kd (tn (nI jv3)) = nI 2 then nI 5 else nI 4) else tr) = (nI 31 * tr + (nI 4)) := by simp [hq2, hc3, hq4, hq5]
        exact z_iret X ZF dX5_sniff_45 (by simp [hq2, hc3, hq4, hq5]) (by rw [e6])
      ·
        exact absurd hq5 hq4
    ·
      refine z_iconst (v := nI 5) X dX5_sniff_21 (by decide) ?_
      refine z_goto (tgt := 26) X dX5_sniff_22 (by decide) ?_
      refine z_callVM X (c_X5_traced l g b ft so D E tr C lk kd st sp nd rO rB rD rW sz sl sc sm xa xb xc xd y1 y2 y3 y4 y5 hn (nI 5)) gX5_sniff_X5_traced rfl ⟨rfl, rfl⟩ (by decide +kernel) ⟨Nat.le_of_ble_eq_true rfl, Nat.le_of_ble_eq_true rfl⟩ ZF.room (ci := 4) rfl 0 rfl rfl (As := [.int (nI 5)]) (n := 1) rfl rfl (st1 := []) rfl (Nat.le_of_ble_eq_true rfl) dX5_sniff_26 ?_
      refine z_aload_n X dX5_sniff_29 rfl 0 rfl ?_
      refine z_get (v := .ref (b 2)) (N := 29) X i_RX5 (ci := 4) rfl 0 rfl 5 (by decide) f_13 rfl dX5_sniff_30 ?_
      refine z_iload_n X dX5_sniff_33 rfl 1 rfl ?_
      refine z_ialdN X 2 rfl (by omega) (by omega) dX5_sniff_34 ?_
      refine z_iconst (v := nI 2) X dX5_sniff_35 (by decide) ?_
      refine z_icmp_ne (tgt := 44) X dX5_sniff_36 (by decide) (fun hq7 => ?_) (fun hq7 => ?_)
      ·
        exact absurd hq4 hq7
      ·
        refine z_bipush (v := nI 40) X dX5_sniff_39 (by decide) ?_
        refine z_goto (tgt := 45) X dX5_sniff_41 (by decide) ?_
        have e8 : (if zin (nI jv3) E then nI 31 * tr + (if kd (tn (nI jv3)) = nI 2 then nI 5 else nI 4) else tr) = (nI 31 * tr + (nI 5)) := by simp [hq2, hc3, hq4, hq7]
        exact z_iret X ZF dX5_sniff_45 (by simp [hq2, hc3, hq4, hq7]) (by rw [e8])
  ·
    have hq9 : (zin x E) = false := by simpa using hq1
    refine z_iconst (v := (-1)) X dX5_sniff_8 (by decide) ?_
    have e10 : (if zin x E then nI 31 * tr + (if kd (tn x) = nI 2 then nI 5 else nI 4) else tr) = tr := by simp [hq9]
    exact z_iret X ZF dX5_sniff_9 (by simp [hq9]) (by rw [e10])
abbrev rX5_as : Room := { frames := 2, cells := 0, slots := 0, locals := 46 }
set_option maxHeartbeats 4000000 in
set_option maxRecDepth 100000 in
theorem c_X5_as (l : Launch) (g : zg) (b : Nat → Nat) (ft : Int32) (so : Int32) (D : Nat) (E : Nat) (tr : Int32) (C : Nat) (lk : Nat → Int32) (kd : Nat → Int32) (st : Nat → Int32) (sp : Nat → Int32) (nd : Nat → Int32) (rO : Nat → Int32) (rB : Nat → Int32) (rD : Nat → Int32) (rW : Nat → Int32) (sz : Nat → Int32) (sl : Nat → Int32) (sc : Nat → Int32) (sm : Int32) (xa : Nat) (xb : Int32) (xc : Nat) (xd : Nat) (y1 : Nat → Int32) (y2 : Nat → Int32) (y3 : Nat → Int32) (y4 : Nat → Int32) (y5 : Nat → Int32) (hn : Nat → Int32) (x : Int32) (k : Int32) (hE : E ≤ 4) : zM l g yX5_as wsX5_as rX5_as [.ref (b 0), .int x, .int k] (wM g b ft so D E tr C lk kd st sp nd rO rB rD rW sz sl sc sm xa xb xc xd y1 y2 y3 y4 y5 hn) (some (.int (if zin x E then (if zin k 3 then (if kd (tn x) < k then (-10) - nI 2 else nI 1) else -2) else -1))) (wM g b (if zin x E && zin k 3 && decide (kd (tn x) < k) then nI 2 else nI 0) so D E tr C lk kd st sp nd rO rB rD rW sz sl sc sm xa xb xc xd y1 y2 y3 y4 y5 hn) := by
  refine z_met (own := RX5) (cc := cX5_as) (maxL := 3) (ret := some .int) (by decide +kernel) rfl rfl (Nat.le_of_ble_eq_true rfl) ?_
  intro M X ZF
  refine z_Le (L' := [(0, .ref (b 0)), (1, .int x), (2, .int k)]) rfl ?_
  have k_130 : Cond.constantLong RX5 130 (2) ∈ wsX5_as := by decide +kernel
  have i_RX5 : ∀ w ∈ wsX50, w ∈ wsX5_as := by decide +kernel
  have f_13 : Cond.fieldLink RX5 13 (TX5 5).1 (TX5 5).2.1 (TX5 5).2.2.1 ∈ wsX5_as := by decide +kernel
  refine z_aload_n X dX5_as_0 rfl 0 rfl ?_
  refine z_iload_n X dX5_as_1 rfl 1 rfl ?_
  refine z_callVM X (c_X5_noEater l g b ft so D E tr C lk kd st sp nd rO rB rD rW sz sl sc sm xa xb xc xd y1 y2 y3 y4 y5 hn x (by omega)) gX5_as_X5_noEater rfl ⟨rfl, rfl⟩ (by decide +kernel) ⟨Nat.le_of_ble_eq_true rfl, Nat.le_of_ble_eq_true rfl⟩ ZF.room (ci := 4) rfl 0 rfl rfl (As := [.int x]) (n := 1) rfl rfl (st1 := [.int (bI (!zin x E))]) rfl (Nat.le_of_ble_eq_true rfl) dX5_as_2 ?_
  refine z_if_eqB (tgt := 14) X dX5_as_5 (by decide) (fun hq1 => ?_) (fun hq1 => ?_)
  ·
    have hq2 : (zin x E) = true := by simpa using hq1
    obtain ⟨jv3, hj3, ej3⟩ := zin_t (by omega) hq2
    subst ej3
    have hc3 : tn (nI jv3) = jv3 := nI_clamp (by omega)
    refine z_iload_n X dX5_as_14 rfl 2 rfl ?_
    refine z_i2l (v := (k).toInt64) X dX5_as_15 rfl ?_
    refine z_lconst (v := 0) X dX5_as_16 (by decide) ?_
    refine z_ldc2 (v := 2) X dX5_as_17 k_130 ?_
    refine z_callS0 X (c_X5_in l g ((k).toInt64) 0 2) gX5_as_X5_in rfl ⟨rfl, rfl⟩ (by decide +kernel) ⟨Nat.le_of_ble_eq_true rfl, Nat.le_of_ble_eq_true rfl⟩ ZF.room (As := [.long ((k).toInt64), .long 0, .long 2]) (n := 3) rfl rfl (st1 := [.int (bI (zil ((k).toInt64) 0 2))]) rfl (Nat.le_of_ble_eq_true rfl) dX5_as_20 ?_
    refine z_top (y := bI (zin k 3)) (bI_eq (zil_k (n := 2) (by decide +kernel) (by omega))) ?_
    refine z_if_neB (tgt := 33) X dX5_as_23 (by decide) (fun hq4 => ?_) (fun hq4 => ?_)
    ·
      obtain ⟨jv5, hj5, ej5⟩ := zin_t (by omega) hq4
      subst ej5
      have hc5 : tn (nI jv5) = jv5 := nI_clamp (by omega)
      refine z_aload_n X dX5_as_33 rfl 0 rfl ?_
      refine z_get (v := .ref (b 2)) (N := 29) X i_RX5 (ci := 4) rfl 0 rfl 5 (by decide) f_13 rfl dX5_as_34 ?_
      refine z_iload_n X dX5_as_37 rfl 1 rfl ?_
      refine z_ialdN X 2 rfl (by omega) (by omega) dX5_as_38 ?_
      refine z_iload_n X dX5_as_39 rfl 2 rfl ?_
      refine z_icmp_lt (tgt := 51) X dX5_as_40 (by decide) (fun hq6 => ?_) (fun hq6 => ?_)
      ·
        refine z_aload_n X dX5_as_51 rfl 0 rfl ?_
        refine z_iconst (v := nI 2) X dX5_as_52 (by decide) ?_
        refine z_callVM X (c_X5_failed l g b ft so D E tr C lk kd st sp nd rO rB rD rW sz sl sc sm xa xb xc xd y1 y2 y3 y4 y5 hn (nI 2)) gX5_as_X5_failed rfl ⟨rfl, rfl⟩ (by decide +kernel) ⟨Nat.le_of_ble_eq_true rfl, Nat.le_of_ble_eq_true rfl⟩ ZF.room (ci := 4) rfl 0 rfl rfl (As := [.int (nI 2)]) (n := 1) rfl rfl (st1 := [.int ((-10) - (nI 2))]) rfl (Nat.le_of_ble_eq_true rfl) dX5_as_53 ?_
        have e7 : (if zin (nI jv3) E && zin (nI jv5) 3 && decide (kd (tn (nI jv3)) < (nI jv5)) then nI 2 else nI 0) = (nI 2) := by simp [hq2, hc3, hq4, hc5, hq6]
        exact z_iret X ZF dX5_as_56 (by simp [hq2, hc3, hq4, hc5, hq6]) (by rw [e7])
      ·
        refine z_aload_n X dX5_as_43 rfl 0 rfl ?_
        refine z_iconst (v := nI 1) X dX5_as_44 (by decide) ?_
        refine z_callVM X (c_X5_refused l g b ft so D E tr C lk kd st sp nd rO rB rD rW sz sl sc sm xa xb xc xd y1 y2 y3 y4 y5 hn (nI 1)) gX5_as_X5_refused rfl ⟨rfl, rfl⟩ (by decide +kernel) ⟨Nat.le_of_ble_eq_true rfl, Nat.le_of_ble_eq_true rfl⟩ ZF.room (ci := 4) rfl 0 rfl rfl (As := [.int (nI 1)]) (n := 1) rfl rfl (st1 := [.int (nI 1)]) rfl (Nat.le_of_ble_eq_true rfl) dX5_as_45 ?_
        refine z_goto (tgt := 56) X dX5_as_48 (by decide) ?_
        have e8 : (if zin (nI jv3) E && zin (nI jv5) 3 && decide (kd (tn (nI jv3)) < (nI jv5)) then nI 2 else nI 0) = (nI 0) := by simp [hq2, hc3, hq4, hc5, hq6]
        exact z_iret X ZF dX5_as_56 (by simp [hq2, hc3, hq4, hc5, hq6]) (by rw [e8])
    ·
      refine z_aload_n X dX5_as_26 rfl 0 rfl ?_
      refine z_bipush (v := (-2)) X dX5_as_27 (by decide) ?_
      refine z_callVM X (c_X5_refused l g b ft so D E tr C lk kd st sp nd rO rB rD rW sz sl sc sm xa xb xc xd y1 y2 y3 y4 y5 hn (-2)) gX5_as_X5_refused rfl ⟨rfl, rfl⟩ (by decide +kernel) ⟨Nat.le_of_ble_eq_true rfl, Nat.le_of_ble_eq_true rfl⟩ ZF.room (ci := 4) rfl 0 rfl rfl (As := [.int (-2)]) (n := 1) rfl rfl (st1 := [.int (-2)]) rfl (Nat.le_of_ble_eq_true rfl) dX5_as_29 ?_
      have e9 : (if zin (nI jv3) E && zin k 3 && decide (kd (tn (nI jv3)) < k) then nI 2 else nI 0) = (nI 0) := by simp [hq2, hc3, hq4]
      exact z_iret X ZF dX5_as_32 (by simp [hq2, hc3, hq4]) (by rw [e9])
  ·
    have hq10 : (zin x E) = false := by simpa using hq1
    refine z_aload_n X dX5_as_8 rfl 0 rfl ?_
    refine z_iconst (v := (-1)) X dX5_as_9 (by decide) ?_
    refine z_callVM X (c_X5_refused l g b ft so D E tr C lk kd st sp nd rO rB rD rW sz sl sc sm xa xb xc xd y1 y2 y3 y4 y5 hn (-1)) gX5_as_X5_refused rfl ⟨rfl, rfl⟩ (by decide +kernel) ⟨Nat.le_of_ble_eq_true rfl, Nat.le_of_ble_eq_true rfl⟩ ZF.room (ci := 4) rfl 0 rfl rfl (As := [.int (-1)]) (n := 1) rfl rfl (st1 := [.int (-1)]) rfl (Nat.le_of_ble_eq_true rfl) dX5_as_10 ?_
    have e11 : (if zin x E && zin k 3 && decide (kd (tn x) < k) then nI 2 else nI 0) = (nI 0) := by simp [hq10]
    exact z_iret X ZF dX5_as_13 (by simp [hq10]) (by rw [e11])
abbrev rX5_trace : Room := { frames := 0, cells := 0, slots := 0, locals := 0 }
set_option maxHeartbeats 4000000 in
set_option maxRecDepth 100000 in
theorem c_X5_trace (l : Launch) (g : zg) (b : Nat → Nat) (ft : Int32) (so : Int32) (D : Nat) (E : Nat) (tr : Int32) (C : Nat) (lk : Nat → Int32) (kd : Nat → Int32) (st : Nat → Int32) (sp : Nat → Int32) (nd : Nat → Int32) (rO : Nat → Int32) (rB : Nat → Int32) (rD : Nat → Int32) (rW : Nat → Int32) (sz : Nat → Int32) (sl : Nat → Int32) (sc : Nat → Int32) (sm : Int32) (xa : Nat) (xb : Int32) (xc : Nat) (xd : Nat) (y1 : Nat → Int32) (y2 : Nat → Int32) (y3 : Nat → Int32) (y4 : Nat → Int32) (y5 : Nat → Int32) (hn : Nat → Int32) : zM l g yX5_trace wsX5_trace rX5_trace [.ref (b 0)] (wM g b ft so D E tr C lk kd st sp nd rO rB rD rW sz sl sc sm xa xb xc xd y1 y2 y3 y4 y5 hn) (some (.int tr)) (wM g b ft so D E tr C lk kd st sp nd rO rB rD rW sz sl sc sm xa xb xc xd y1 y2 y3 y4 y5 hn) := by
  refine z_met (own := RX5) (cc := cX5_trace) (maxL := 1) (ret := some .int) (by decide +kernel) rfl rfl (Nat.le_of_ble_eq_true rfl) ?_
  intro M X ZF
  refine z_Le (L' := [(0, .ref (b 0))]) rfl ?_
  have i_RX5 : ∀ w ∈ wsX50, w ∈ wsX5_trace := by decide +kernel
  have f_210 : Cond.fieldLink RX5 210 (TX5 28).1 (TX5 28).2.1 (TX5 28).2.2.1 ∈ wsX5_trace := by decide +kernel
  refine z_aload_n X dX5_trace_0 rfl 0 rfl ?_
  refine z_get (v := .int tr) (N := 29) X i_RX5 (ci := 4) rfl 0 rfl 28 (by decide) f_210 rfl dX5_trace_1 ?_
  exact z_iret X ZF dX5_trace_4 rfl rfl
abbrev rX5_fault : Room := { frames := 0, cells := 0, slots := 0, locals := 0 }
set_option maxHeartbeats 4000000 in
set_option maxRecDepth 100000 in
theorem c_X5_fault (l : Launch) (g : zg) (b : Nat → Nat) (ft : Int32) (so : Int32) (D : Nat) (E : Nat) (tr : Int32) (C : Nat) (lk : Nat → Int32) (kd : Nat → Int32) (st : Nat → Int32) (sp : Nat → Int32) (nd : Nat → Int32) (rO : Nat → Int32) (rB : Nat → Int32) (rD : Nat → Int32) (rW : Nat → Int32) (sz : Nat → Int32) (sl : Nat → Int32) (sc : Nat → Int32) (sm : Int32) (xa : Nat) (xb : Int32) (xc : Nat) (xd : Nat) (y1 : Nat → Int32) (y2 : Nat → Int32) (y3 : Nat → Int32) (y4 : Nat → Int32) (y5 : Nat → Int32) (hn : Nat → Int32) : zM l g yX5_fault wsX5_fault rX5_fault [.ref (b 0)] (wM g b ft so D E tr C lk kd st sp nd rO rB rD rW sz sl sc sm xa xb xc xd y1 y2 y3 y4 y5 hn) (some (.int ft)) (wM g b ft so D E tr C lk kd st sp nd rO rB rD rW sz sl sc sm xa xb xc xd y1 y2 y3 y4 y5 hn) := by
  refine z_met (own := RX5) (cc := cX5_fault) (maxL := 1) (ret := some .int) (by decide +kernel) rfl rfl (Nat.le_of_ble_eq_true rfl) ?_
  intro M X ZF
  refine z_Le (L' := [(0, .ref (b 0))]) rfl ?_
  have i_RX5 : ∀ w ∈ wsX50, w ∈ wsX5_fault := by decide +kernel
  have f_71 : Cond.fieldLink RX5 71 (TX5 0).1 (TX5 0).2.1 (TX5 0).2.2.1 ∈ wsX5_fault := by decide +kernel
  refine z_aload_n X dX5_fault_0 rfl 0 rfl ?_
  refine z_get (v := .int ft) (N := 29) X i_RX5 (ci := 4) rfl 0 rfl 0 (by decide) f_71 rfl dX5_fault_1 ?_
  exact z_iret X ZF dX5_fault_4 rfl rfl
abbrev rX5_many : Room := { frames := 0, cells := 0, slots := 0, locals := 0 }
set_option maxHeartbeats 4000000 in
set_option maxRecDepth 100000 in
theorem c_X5_many (l : Launch) (g : zg) (b : Nat → Nat) (ft : Int32) (so : Int32) (D : Nat) (E : Nat) (tr : Int32) (C : Nat) (lk : Nat → Int32) (kd : Nat → Int32) (st : Nat → Int32) (sp : Nat → Int32) (nd : Nat → Int32) (rO : Nat → Int32) (rB : Nat → Int32) (rD : Nat → Int32) (rW : Nat → Int32) (sz : Nat → Int32) (sl : Nat → Int32) (sc : Nat → Int32) (sm : Int32) (xa : Nat) (xb : Int32) (xc : Nat) (xd : Nat) (y1 : Nat → Int32) (y2 : Nat → Int32) (y3 : Nat → Int32) (y4 : Nat → Int32) (y5 : Nat → Int32) (hn : Nat → Int32) (w : Int32) : zM l g yX5_many wsX5_many rX5_many [.ref (b 0), .int w] (wM g b ft so D E tr C lk kd st sp nd rO rB rD rW sz sl sc sm xa xb xc xd y1 y2 y3 y4 y5 hn) (some (.int (if w = nI 0 then nI E else if w = nI 1 then nI D else if w = nI 2 then so else if w = nI 3 then nI C else -2))) (wM g b ft so D E tr C lk kd st sp nd rO rB rD rW sz sl sc sm xa xb xc xd y1 y2 y3 y4 y5 hn) := by
  refine z_met (own := RX5) (cc := cX5_many) (maxL := 2) (ret := some .int) (by decide +kernel) rfl rfl (Nat.le_of_ble_eq_true rfl) ?_
  intro M X ZF
  refine z_Le (L' := [(0, .ref (b 0)), (1, .int w)]) rfl ?_
  have i_RX5 : ∀ w ∈ wsX50, w ∈ wsX5_many := by decide +kernel
  have f_85 : Cond.fieldLink RX5 85 (TX5 4).1 (TX5 4).2.1 (TX5 4).2.2.1 ∈ wsX5_many := by decide +kernel
  have f_78 : Cond.fieldLink RX5 78 (TX5 2).1 (TX5 2).2.1 (TX5 2).2.2.1 ∈ wsX5_many := by decide +kernel
  have f_139 : Cond.fieldLink RX5 139 (TX5 1).1 (TX5 1).2.1 (TX5 1).2.2.1 ∈ wsX5_many := by decide +kernel
  have f_142 : Cond.fieldLink RX5 142 (TX5 19).1 (TX5 19).2.1 (TX5 19).2.2.1 ∈ wsX5_many := by decide +kernel
  refine z_iload_n X dX5_many_0 rfl 1 rfl ?_
  by_cases hq1 : w = nI 0
  ·
    subst hq1
    refine z_tableIn (off := 31) (tgt := 32) X dX5_many_1 (by decide +kernel) (by decide +kernel) (by decide +kernel) (by decide) ?_
    refine z_aload_n X dX5_many_32 rfl 0 rfl ?_
    refine z_get (v := .int (nI E)) (N := 29) X i_RX5 (ci := 4) rfl 0 rfl 4 (by decide) f_85 rfl dX5_many_33 ?_
    exact z_iret X ZF dX5_many_36 (by simp [nI_inj5, ]) rfl
  ·
    by_cases hq2 : w = nI 1
    ·
      subst hq2
      refine z_tableIn (off := 36) (tgt := 37) X dX5_many_1 (by decide +kernel) (by decide +kernel) (by decide +kernel) (by decide) ?_
      refine z_aload_n X dX5_many_37 rfl 0 rfl ?_
      refine z_get (v := .int (nI D)) (N := 29) X i_RX5 (ci := 4) rfl 0 rfl 2 (by decide) f_78 rfl dX5_many_38 ?_
      exact z_iret X ZF dX5_many_41 (by simp [nI_inj5, hq1]) rfl
    ·
      by_cases hq3 : w = nI 2
      ·
        subst hq3
        refine z_tableIn (off := 41) (tgt := 42) X dX5_many_1 (by decide +kernel) (by decide +kernel) (by decide +kernel) (by decide) ?_
        refine z_aload_n X dX5_many_42 rfl 0 rfl ?_
        refine z_get (v := .int so) (N := 29) X i_RX5 (ci := 4) rfl 0 rfl 1 (by decide) f_139 rfl dX5_many_43 ?_
        exact z_iret X ZF dX5_many_46 (by simp [nI_inj5, hq1, hq2]) rfl
      ·
        by_cases hq4 : w = nI 3
        ·
          subst hq4
          refine z_tableIn (off := 46) (tgt := 47) X dX5_many_1 (by decide +kernel) (by decide +kernel) (by decide +kernel) (by decide) ?_
          refine z_aload_n X dX5_many_47 rfl 0 rfl ?_
          refine z_get (v := .int (nI C)) (N := 29) X i_RX5 (ci := 4) rfl 0 rfl 19 (by decide) f_142 rfl dX5_many_48 ?_
          exact z_iret X ZF dX5_many_51 (by simp [nI_inj5, hq1, hq2, hq3]) rfl
        ·
          refine z_tableOut (tgt := 52) X dX5_many_1 (by have := lv_neT (k := nI 0) (a := 0) hq1 (by decide +kernel); have := lv_neT (k := nI 1) (a := 1) hq2 (by decide +kernel); have := lv_neT (k := nI 2) (a := 2) hq3 (by decide +kernel); have := lv_neT (k := nI 3) (a := 3) hq4 (by decide +kernel); omega) (by decide) ?_
          refine z_bipush (v := (-2)) X dX5_many_52 (by decide) ?_
          exact z_iret X ZF dX5_many_54 (by simp [nI_inj5, hq1, hq2, hq3, hq4]) rfl
