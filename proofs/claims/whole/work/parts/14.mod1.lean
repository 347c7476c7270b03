abbrev rX5_in : Room := { frames := 0, cells := 0, slots := 0, locals := 0 }
set_option maxHeartbeats 4000000 in
set_option maxRecDepth 100000 in
theorem c_X5_in (l : Launch) (g : zg) (v : Int64) (lo : Int64) (hi : Int64) : zM l g yX5_in wsX5_in rX5_in [.long v, .long lo, .long hi] [] (some (.int (bI (zil v lo hi)))) [] := by
  refine z_met (own := RX5) (cc := cX5_in) (maxL := 6) (ret := some .boolean) (by decide +kernel) rfl rfl (Nat.le_of_ble_eq_true rfl) ?_
  intro M X ZF
  refine z_Le (L' := [(0, .long v), (2, .long lo), (4, .long hi)]) rfl ?_
  refine z_lload_n X dX5_in_0 rfl 0 rfl ?_
  refine z_lload_n X dX5_in_1 rfl 1 rfl ?_
  refine z_lcmp X dX5_in_2 ?_
  refine z_if_lt (tgt := 17) X dX5_in_3 (by decide) (fun hq1 => ?_) (fun hq1 => ?_)
  ·
    refine z_iconst (v := nI 0) X dX5_in_17 (by decide) ?_
    exact z_zret X ZF dX5_in_18 (bI_nar _) (by simp [zil, bI, nI_one, nI_0, hq1]) rfl
  ·
    refine z_lload_n X dX5_in_6 rfl 0 rfl ?_
    refine z_lload X dX5_in_7 2 rfl ?_
    refine z_lcmp X dX5_in_9 ?_
    refine z_if_gt (tgt := 17) X dX5_in_10 (by decide) (fun hq2 => ?_) (fun hq2 => ?_)
    ·
      refine z_iconst (v := nI 0) X dX5_in_17 (by decide) ?_
      exact z_zret X ZF dX5_in_18 (bI_nar _) (by simp [zil, bI, nI_one, nI_0, hq1, hq2]) rfl
    ·
      refine z_iconst (v := nI 1) X dX5_in_13 (by decide) ?_
      refine z_goto (tgt := 18) X dX5_in_14 (by decide) ?_
      exact z_zret X ZF dX5_in_18 (bI_nar _) (by simp [zil, bI, nI_one, nI_0, hq1, hq2]) rfl
abbrev rX5_lost : Room := { frames := 0, cells := 0, slots := 0, locals := 0 }
set_option maxHeartbeats 4000000 in
set_option maxRecDepth 100000 in
theorem c_X5_lost (l : Launch) (g : zg)  : zM l g yX5_lost wsX5_lost rX5_lost [] [] (some (.long (-9223372036854775808))) [] := by
  refine z_met (own := RX5) (cc := cX5_lost) (maxL := 0) (ret := some .long) (by decide +kernel) rfl rfl (Nat.le_of_ble_eq_true rfl) ?_
  intro M X ZF
  refine z_Le (L' := []) rfl ?_
  have k_69 : Cond.constantLong RX5 69 (-9223372036854775808) ∈ wsX5_lost := by decide +kernel
  refine z_ldc2 (v := -9223372036854775808) X dX5_lost_0 k_69 ?_
  exact z_lret X ZF dX5_lost_3 rfl rfl
abbrev rX5_isIn : Room := { frames := 0, cells := 0, slots := 0, locals := 0 }
set_option maxHeartbeats 4000000 in
set_option maxRecDepth 100000 in
theorem c_X5_isIn (l : Launch) (g : zg) (S : Nat) (k : Nat) (h1_ : S < 2 ^ 31) (h2_ : k < 32) : zM l g yX5_isIn wsX5_isIn rX5_isIn [.int (nI S), .int (nI k)] [] (some (.int (bI (zbt S k)))) [] := by
  refine z_met (own := RX5) (cc := cX5_isIn) (maxL := 2) (ret := some .boolean) (by decide +kernel) rfl rfl (Nat.le_of_ble_eq_true rfl) ?_
  intro M X ZF
  refine z_Le (L' := [(0, .int (nI S)), (1, .int (nI k))]) rfl ?_
  refine z_iload_n X dX5_isIn_0 rfl 0 rfl ?_
  refine z_iload_n X dX5_isIn_1 rfl 1 rfl ?_
  refine z_ishr' (v := nI (S / 2 ^ k)) X dX5_isIn_2 (nI_shr (by omega) (by omega)) ?_
  refine z_iconst (v := nI 1) X dX5_isIn_3 (by decide) ?_
  refine z_iand' (v := nI ((S / 2 ^ k) % 2)) X dX5_isIn_4 (nI_and1 _) ?_
  refine z_iconst (v := nI 1) X dX5_isIn_5 (by decide) ?_
  refine z_icmp_neN (tgt := 13) X dX5_isIn_6 (by decide) (by omega) (by omega) (fun hq1 => ?_) (fun hq1 => ?_)
  ·
    refine z_iconst (v := nI 0) X dX5_isIn_13 (by decide) ?_
    exact z_zret X ZF dX5_isIn_14 (bI_nar _) (by first | exact bI_t (decide_eq_true hq1) | exact bI_f (decide_eq_false hq1)) rfl
  ·
    refine z_iconst (v := nI 1) X dX5_isIn_9 (by decide) ?_
    refine z_goto (tgt := 14) X dX5_isIn_10 (by decide) ?_
    exact z_zret X ZF dX5_isIn_14 (bI_nar _) (by first | exact bI_t (decide_eq_true hq1) | exact bI_f (decide_eq_false hq1)) rfl
abbrev rX5_bits : Room := { frames := 0, cells := 0, slots := 0, locals := 0 }
set_option maxHeartbeats 4000000 in
set_option maxRecDepth 100000 in
theorem c_X5_bits (l : Launch) (g : zg) (S : Nat) (h64 : S < 64) : zM l g yX5_bits wsX5_bits rX5_bits [.int (nI S)] [] (some (.int (nI (pc S)))) [] := by
  refine z_met (own := RX5) (cc := cX5_bits) (maxL := 3) (ret := some .int) (by decide +kernel) rfl rfl (Nat.le_of_ble_eq_true rfl) ?_
  intro M X ZF
  refine z_Le (L' := [(0, .int (nI S))]) rfl ?_
  refine z_iconst (v := nI 0) X dX5_bits_0 (by decide) ?_
  refine z_istore_n (L' := [(1, .int (nI 0)), (0, .int (nI S))]) X dX5_bits_1 rfl (by decide) rfl ?_
  refine z_iload_n X dX5_bits_2 rfl 1 rfl ?_
  refine z_istore_n (L' := [(2, .int (nI S)), (1, .int (nI 0)), (0, .int (nI S))]) X dX5_bits_3 rfl (by decide) rfl ?_
  have loopv1 : ∀ (n1 i_v : Nat), i_v ≤ 6 → 6 + 1 ≤ i_v + n1 → zG l g 3 M [] [(0, .int (nI S)), (1, .int (nI (pcb S i_v))), (2, .int (nI (S / 2 ^ i_v)))] 4 [] := by
    intro n1
    induction n1 with
    | zero => intro i_v h1 h2; exact absurd h2 (by omega)
    | succ n1 ih1 =>
      intro i_v hi1 hn1
      have hdl := Nat.div_le_self S (2 ^ i_v)
      refine z_iload_n X dX5_bits_4 rfl 2 rfl ?_
      refine z_if_leN (tgt := 21) X dX5_bits_5 (by decide) (by omega) (fun hq2 => ?_) (fun hq2 => ?_)
      ·
        refine z_iload_n X dX5_bits_21 rfl 1 rfl ?_
        exact z_iret X ZF dX5_bits_22 (by exact congrArg nI (pcb_end S h64 i_v (by omega) (Nat.le_zero.mp hq2))) rfl
      ·
        have hi6 : i_v < 6 := by
          rcases (by omega : i_v = 6 ∨ i_v < 6) with q | q
          · rw [q, pcb_ne S h64] at hq2; omega
          · exact q
        refine z_iload_n X dX5_bits_8 rfl 1 rfl ?_
        refine z_iload_n X dX5_bits_9 rfl 2 rfl ?_
        refine z_iconst (v := nI 1) X dX5_bits_10 (by decide) ?_
        refine z_iand' (v := nI ((S / 2 ^ i_v) % 2)) X dX5_bits_11 (nI_and1 _) ?_
        refine z_iadd' (v := nI (pcb S i_v + ((S / 2 ^ i_v) % 2))) X dX5_bits_12 (nI_add _ _) ?_
        refine z_istore_n (L' := [(1, .int (nI (pcb S i_v + ((S / 2 ^ i_v) % 2)))), (0, .int (nI S)), (2, .int (nI (S / 2 ^ i_v)))]) X dX5_bits_13 rfl (by decide) rfl ?_
        refine z_iload_n X dX5_bits_14 rfl 2 rfl ?_
        refine z_iconst (v := nI 1) X dX5_bits_15 (by decide) ?_
        refine z_ishr' (v := nI ((S / 2 ^ i_v) / 2 ^ 1)) X dX5_bits_16 (nI_shr (by omega) (by omega)) ?_
        refine z_istore_n (L' := [(2, .int (nI ((S / 2 ^ i_v) / 2 ^ 1))), (1, .int (nI (pcb S i_v + ((S / 2 ^ i_v) % 2)))), (0, .int (nI S))]) X dX5_bits_17 rfl (by decide) rfl ?_
        refine z_goto (tgt := 4) X dX5_bits_18 (by decide) ?_
        refine z_ls (L' := [(0, .int (nI S)), (1, .int (nI (pcb S i_v + ((S / 2 ^ i_v) % 2)))), (2, .int (nI ((S / 2 ^ i_v) / 2 ^ 1)))]) [2, 1, 0] rfl ?_
        have e3 : (nI (pcb S i_v + ((S / 2 ^ i_v) % 2))) = (nI (pcb S (i_v + 1))) := by first | rfl | exact congrArg nI (by simp [Nat.pow_succ, Nat.div_div_eq_div_mul])
        have e4 : (nI ((S / 2 ^ i_v) / 2 ^ 1)) = (nI (S / 2 ^ (i_v + 1))) := by first | rfl | exact congrArg nI (by simp [Nat.pow_succ, Nat.div_div_eq_div_mul])
        refine z_Le (L' := [(0, .int (nI S)), (1, .int (nI (pcb S (i_v + 1)))), (2, .int (nI (S / 2 ^ (i_v + 1))))]) (by rw [← e3, ← e4]) ?_
        exact ih1 (i_v + 1) (by omega) (by omega)
  refine z_ls (L' := [(0, .int (nI S)), (1, .int (nI 0)), (2, .int (nI S))]) [2, 1, 0] rfl ?_
  have e5 : (nI 0) = (nI (pcb S 0)) := by first | rfl | exact congrArg nI (by simp [Nat.pow_succ, Nat.div_div_eq_div_mul])
  have e6 : (nI S) = (nI (S / 2 ^ 0)) := by first | rfl | exact congrArg nI (by simp [Nat.pow_succ, Nat.div_div_eq_div_mul])
  refine z_Le (L' := [(0, .int (nI S)), (1, .int (nI (pcb S 0))), (2, .int (nI (S / 2 ^ 0)))]) (by rw [← e5, ← e6]) ?_
  exact loopv1 (6 + 1) 0 (by omega) (by omega)
abbrev rX5_refused : Room := { frames := 0, cells := 0, slots := 0, locals := 0 }
set_option maxHeartbeats 4000000 in
set_option maxRecDepth 100000 in
theorem c_X5_refused (l : Launch) (g : zg) (b : Nat → Nat) (ft : Int32) (so : Int32) (D : Nat) (E : Nat) (tr : Int32) (C : Nat) (lk : Nat → Int32) (kd : Nat → Int32) (st : Nat → Int32) (sp : Nat → Int32) (nd : Nat → Int32) (rO : Nat → Int32) (rB : Nat → Int32) (rD : Nat → Int32) (rW : Nat → Int32) (sz : Nat → Int32) (sl : Nat → Int32) (sc : Nat → Int32) (sm : Int32) (xa : Nat) (xb : Int32) (xc : Nat) (xd : Nat) (y1 : Nat → Int32) (y2 : Nat → Int32) (y3 : Nat → Int32) (y4 : Nat → Int32) (y5 : Nat → Int32) (hn : Nat → Int32) (c : Int32) : zM l g yX5_refused wsX5_refused rX5_refused [.ref (b 0), .int c] (wM g b ft so D E tr C lk kd st sp nd rO rB rD rW sz sl sc sm xa xb xc xd y1 y2 y3 y4 y5 hn) (some (.int c)) (wM g b (nI 0) so D E tr C lk kd st sp nd rO rB rD rW sz sl sc sm xa xb xc xd y1 y2 y3 y4 y5 hn) := by
  refine z_met (own := RX5) (cc := cX5_refused) (maxL := 2) (ret := some .int) (by decide +kernel) rfl rfl (Nat.le_of_ble_eq_true rfl) ?_
  intro M X ZF
  refine z_Le (L' := [(0, .ref (b 0)), (1, .int c)]) rfl ?_
  have i_RX5 : ∀ w ∈ wsX50, w ∈ wsX5_refused := by decide +kernel
  have f_71 : Cond.fieldLink RX5 71 (TX5 0).1 (TX5 0).2.1 (TX5 0).2.2.1 ∈ wsX5_refused := by decide +kernel
  refine z_aload_n X dX5_refused_0 rfl 0 rfl ?_
  refine z_iconst (v := nI 0) X dX5_refused_1 (by decide) ?_
  refine z_put (ws' := (wM g b (nI 0) so D E tr C lk kd st sp nd rO rB rD rW sz sl sc sm xa xb xc xd y1 y2 y3 y4 y5 hn)) (N := 29) X i_RX5 (ci := 4) rfl tyX5 tyX5_ok nmX5 0 rfl 0 (by decide) f_71 rfl (ty := .int) (by decide +kernel) rfl rfl (Nat.le_of_ble_eq_true rfl) dX5_refused_2 rfl ?_
  refine z_iload_n X dX5_refused_5 rfl 1 rfl ?_
  exact z_iret X ZF dX5_refused_6 rfl rfl
abbrev rX5_failed : Room := { frames := 0, cells := 0, slots := 0, locals := 0 }
set_option maxHeartbeats 4000000 in
set_option maxRecDepth 100000 in
theorem c_X5_failed (l : Launch) (g : zg) (b : Nat → Nat) (ft : Int32) (so : Int32) (D : Nat) (E : Nat) (tr : Int32) (C : Nat) (lk : Nat → Int32) (kd : Nat → Int32) (st : Nat → Int32) (sp : Nat → Int32) (nd : Nat → Int32) (rO : Nat → Int32) (rB : Nat → Int32) (rD : Nat → Int32) (rW : Nat → Int32) (sz : Nat → Int32) (sl : Nat → Int32) (sc : Nat → Int32) (sm : Int32) (xa : Nat) (xb : Int32) (xc : Nat) (xd : Nat) (y1 : Nat → Int32) (y2 : Nat → Int32) (y3 : Nat → Int32) (y4 : Nat → Int32) (y5 : Nat → Int32) (hn : Nat → Int32) (f : Int32) : zM l g yX5_failed wsX5_failed rX5_failed [.ref (b 0), .int f] (wM g b ft so D E tr C lk kd st sp nd rO rB rD rW sz sl sc sm xa xb xc xd y1 y2 y3 y4 y5 hn) (some (.int ((-10) - f))) (wM g b f so D E tr C lk kd st sp nd rO rB rD rW sz sl sc sm xa xb xc xd y1 y2 y3 y4 y5 hn) := by
  refine z_met (own := RX5) (cc := cX5_failed) (maxL := 2) (ret := some .int) (by decide +kernel) rfl rfl (Nat.le_of_ble_eq_true rfl) ?_
  intro M X ZF
  refine z_Le (L' := [(0, .ref (b 0)), (1, .int f)]) rfl ?_
  have i_RX5 : ∀ w ∈ wsX50, w ∈ wsX5_failed := by decide +kernel
  have f_71 : Cond.fieldLink RX5 71 (TX5 0).1 (TX5 0).2.1 (TX5 0).2.2.1 ∈ wsX5_failed := by decide +kernel
  refine z_aload_n X dX5_failed_0 rfl 0 rfl ?_
  refine z_iload_n X dX5_failed_1 rfl 1 rfl ?_
  refine z_put (ws' := (wM g b f so D E tr C lk kd st sp nd rO rB rD rW sz sl sc sm xa xb xc xd y1 y2 y3 y4 y5 hn)) (N := 29) X i_RX5 (ci := 4) rfl tyX5 tyX5_ok nmX5 0 rfl 0 (by decide) f_71 rfl (ty := .int) (by decide +kernel) rfl rfl (Nat.le_of_ble_eq_true rfl) dX5_failed_2 rfl ?_
  refine z_bipush (v := (-10)) X dX5_failed_5 (by decide) ?_
  refine z_iload_n X dX5_failed_7 rfl 1 rfl ?_
  refine z_isub X dX5_failed_8 ?_
  exact z_iret X ZF dX5_failed_9 rfl rfl
abbrev rX5_failedLong : Room := { frames := 1, cells := 0, slots := 0, locals := 19 }
set_option maxHeartbeats 4000000 in
set_option maxRecDepth 100000 in
theorem c_X5_failedLong (l : Launch) (g : zg) (b : Nat → Nat) (ft : Int32) (so : Int32) (D : Nat) (E : Nat) (tr : Int32) (C : Nat) (lk : Nat → Int32) (kd : Nat → Int32) (st : Nat → Int32) (sp : Nat → Int32) (nd : Nat → Int32) (rO : Nat → Int32) (rB : Nat → Int32) (rD : Nat → Int32) (rW : Nat → Int32) (sz : Nat → Int32) (sl : Nat → Int32) (sc : Nat → Int32) (sm : Int32) (xa : Nat) (xb : Int32) (xc : Nat) (xd : Nat) (y1 : Nat → Int32) (y2 : Nat → Int32) (y3 : Nat → Int32) (y4 : Nat → Int32) (y5 : Nat → Int32) (hn : Nat → Int32) (f : Int32) : zM l g yX5_failedLong wsX5_failedLong rX5_failedLong [.ref (b 0), .int f] (wM g b ft so D E tr C lk kd st sp nd rO rB rD rW sz sl sc sm xa xb xc xd y1 y2 y3 y4 y5 hn) (some (.long (-9223372036854775808))) (wM g b f so D E tr C lk kd st sp nd rO rB rD rW sz sl sc sm xa xb xc xd y1 y2 y3 y4 y5 hn) := by
  refine z_met (own := RX5) (cc := cX5_failedLong) (maxL := 2) (ret := some .long) (by decide +kernel) rfl rfl (Nat.le_of_ble_eq_true rfl) ?_
  intro M X ZF
  refine z_Le (L' := [(0, .ref (b 0)), (1, .int f)]) rfl ?_
  have i_RX5 : ∀ w ∈ wsX50, w ∈ wsX5_failedLong := by decide +kernel
  have f_71 : Cond.fieldLink RX5 71 (TX5 0).1 (TX5 0).2.1 (TX5 0).2.2.1 ∈ wsX5_failedLong := by decide +kernel
  refine z_aload_n X dX5_failedLong_0 rfl 0 rfl ?_
  refine z_iload_n X dX5_failedLong_1 rfl 1 rfl ?_
  refine z_put (ws' := (wM g b f so D E tr C lk kd st sp nd rO rB rD rW sz sl sc sm xa xb xc xd y1 y2 y3 y4 y5 hn)) (N := 29) X i_RX5 (ci := 4) rfl tyX5 tyX5_ok nmX5 0 rfl 0 (by decide) f_71 rfl (ty := .int) (by decide +kernel) rfl rfl (Nat.le_of_ble_eq_true rfl) dX5_failedLong_2 rfl ?_
  refine z_callS0 X (c_X5_lost l g ) gX5_failedLong_X5_lost rfl ⟨rfl, rfl⟩ (by decide +kernel) ⟨Nat.le_of_ble_eq_true rfl, Nat.le_of_ble_eq_true rfl⟩ ZF.room (As := []) (n := 0) rfl rfl (st1 := [.long (-9223372036854775808)]) rfl (Nat.le_of_ble_eq_true rfl) dX5_failedLong_5 ?_
  exact z_lret X ZF dX5_failedLong_8 rfl rfl
abbrev rX5_noDay : Room := { frames := 1, cells := 0, slots := 0, locals := 25 }
set_option maxHeartbeats 4000000 in
set_option maxRecDepth 100000 in
theorem c_X5_noDay (l : Launch) (g : zg) (b : Nat → Nat) (ft : Int32) (so : Int32) (D : Nat) (E : Nat) (tr : Int32) (C : Nat) (lk : Nat → Int32) (kd : Nat → Int32) (st : Nat → Int32) (sp : Nat → Int32) (nd : Nat → Int32) (rO : Nat → Int32) (rB : Nat → Int32) (rD : Nat → Int32) (rW : Nat → Int32) (sz : Nat → Int32) (sl : Nat → Int32) (sc : Nat → Int32) (sm : Int32) (xa : Nat) (xb : Int32) (xc : Nat) (xd : Nat) (y1 : Nat → Int32) (y2 : Nat → Int32) (y3 : Nat → Int32) (y4 : Nat → Int32) (y5 : Nat → Int32) (hn : Nat → Int32) (x : Int32) (hD : D ≤ 6) : zM l g yX5_noDay wsX5_noDay rX5_noDay [.ref (b 0), .int x] (wM g b ft so D E tr C lk kd st sp nd rO rB rD rW sz sl sc sm xa xb xc xd y1 y2 y3 y4 y5 hn) (some (.int (bI (!zin x D)))) (wM g b ft so D E tr C lk kd st sp nd rO rB rD rW sz sl sc sm xa xb xc xd y1 y2 y3 y4 y5 hn) := by
  refine z_met (own := RX5) (cc := cX5_noDay) (maxL := 2) (ret := some .boolean) (by decide +kernel) rfl rfl (Nat.le_of_ble_eq_true rfl) ?_
  intro M X ZF
  refine z_Le (L' := [(0, .ref (b 0)), (1, .int x)]) rfl ?_
  have i_RX5 : ∀ w ∈ wsX50, w ∈ wsX5_noDay := by decide +kernel
  have f_78 : Cond.fieldLink RX5 78 (TX5 2).1 (TX5 2).2.1 (TX5 2).2.2.1 ∈ wsX5_noDay := by decide +kernel
  refine z_iload_n X dX5_noDay_0 rfl 1 rfl ?_
  refine z_i2l (v := (x).toInt64) X dX5_noDay_1 rfl ?_
  refine z_lconst (v := 0) X dX5_noDay_2 (by decide) ?_
  refine z_aload_n X dX5_noDay_3 rfl 0 rfl ?_
  refine z_get (v := .int (nI D)) (N := 29) X i_RX5 (ci := 4) rfl 0 rfl 2 (by decide) f_78 rfl dX5_noDay_4 ?_
  refine z_i2l (v := (nI D).toInt64) X dX5_noDay_7 rfl ?_
  refine z_lconst (v := 1) X dX5_noDay_8 (by decide) ?_
  refine z_lsub X dX5_noDay_9 ?_
  refine z_callS0 X (c_X5_in l g ((x).toInt64) 0 (((nI D).toInt64) - 1)) gX5_noDay_X5_in rfl ⟨rfl, rfl⟩ (by decide +kernel) ⟨Nat.le_of_ble_eq_true rfl, Nat.le_of_ble_eq_true rfl⟩ ZF.room (As := [.long ((x).toInt64), .long 0, .long (((nI D).toInt64) - 1)]) (n := 3) rfl rfl (st1 := [.int (bI (zil ((x).toInt64) 0 (((nI D).toInt64) - 1)))]) rfl (Nat.le_of_ble_eq_true rfl) dX5_noDay_10 ?_
  refine z_top (y := bI (zin x D)) (bI_eq (zil_in (by omega))) ?_
  refine z_if_neB (tgt := 20) X dX5_noDay_13 (by decide) (fun hq1 => ?_) (fun hq1 => ?_)
  ·
    refine z_iconst (v := nI 0) X dX5_noDay_20 (by decide) ?_
    exact z_zret X ZF dX5_noDay_21 (bI_nar _) (by simp [bI, nI_one, nI_0, hq1]) rfl
  ·
    refine z_iconst (v := nI 1) X dX5_noDay_16 (by decide) ?_
    refine z_goto (tgt := 21) X dX5_noDay_17 (by decide) ?_
    exact z_zret X ZF dX5_noDay_21 (bI_nar _) (by simp [bI, nI_one, nI_0, hq1]) rfl
abbrev rX5_noEater : Room := { frames := 1, cells := 0, slots := 0, locals := 25 }
set_option maxHeartbeats 4000000 in
set_option maxRecDepth 100000 in
theorem c_X5_noEater (l : Launch) (g : zg) (b : Nat → Nat) (ft : Int32) (so : Int32) (D : Nat) (E : Nat) (tr : Int32) (C : Nat) (lk : Nat → Int32) (kd : Nat → Int32) (st : Nat → Int32) (sp : Nat → Int32) (nd : Nat → Int32) (rO : Nat → Int32) (rB : Nat → Int32) (rD : Nat → Int32) (rW : Nat → Int32) (sz : Nat → Int32) (sl : Nat → Int32) (sc : Nat → Int32) (sm : Int32) (xa : Nat) (xb : Int32) (xc : Nat) (xd : Nat) (y1 : Nat → Int32) (y2 : Nat → Int32) (y3 : Nat → Int32) (y4 : Nat → Int32) (y5 : Nat → Int32) (hn : Nat → Int32) (x : Int32) (hE : E ≤ 4) : zM l g yX5_noEater wsX5_noEater rX5_noEater [.ref (b 0), .int x] (wM g b ft so D E tr C lk kd st sp nd rO rB rD rW sz sl sc sm xa xb xc xd y1 y2 y3 y4 y5 hn) (some (.int (bI (!zin x E)))) (wM g b ft so D E tr C lk kd st sp nd rO rB rD rW sz sl sc sm xa xb xc xd y1 y2 y3 y4 y5 hn) := by
  refine z_met (own := RX5) (cc := cX5_noEater) (maxL := 2) (ret := some .boolean) (by decide +kernel) rfl rfl (Nat.le_of_ble_eq_true rfl) ?_
  intro M X ZF
  refine z_Le (L' := [(0, .ref (b 0)), (1, .int x)]) rfl ?_
  have i_RX5 : ∀ w ∈ wsX50, w ∈ wsX5_noEater := by decide +kernel
  have f_85 : Cond.fieldLink RX5 85 (TX5 4).1 (TX5 4).2.1 (TX5 4).2.2.1 ∈ wsX5_noEater := by decide +kernel
  refine z_iload_n X dX5_noEater_0 rfl 1 rfl ?_
  refine z_i2l (v := (x).toInt64) X dX5_noEater_1 rfl ?_
  refine z_lconst (v := 0) X dX5_noEater_2 (by decide) ?_
  refine z_aload_n X dX5_noEater_3 rfl 0 rfl ?_
  refine z_get (v := .int (nI E)) (N := 29) X i_RX5 (ci := 4) rfl 0 rfl 4 (by decide) f_85 rfl dX5_noEater_4 ?_
  refine z_i2l (v := (nI E).toInt64) X dX5_noEater_7 rfl ?_
  refine z_lconst (v := 1) X dX5_noEater_8 (by decide) ?_
  refine z_lsub X dX5_noEater_9 ?_
  refine z_callS0 X (c_X5_in l g ((x).toInt64) 0 (((nI E).toInt64) - 1)) gX5_noEater_X5_in rfl ⟨rfl, rfl⟩ (by decide +kernel) ⟨Nat.le_of_ble_eq_true rfl, Nat.le_of_ble_eq_true rfl⟩ ZF.room (As := [.long ((x).toInt64), .long 0, .long (((nI E).toInt64) - 1)]) (n := 3) rfl rfl (st1 := [.int (bI (zil ((x).toInt64) 0 (((nI E).toInt64) - 1)))]) rfl (Nat.le_of_ble_eq_true rfl) dX5_noEater_10 ?_
  refine z_top (y := bI (zin x E)) (bI_eq (zil_in (by omega))) ?_
  refine z_if_neB (tgt := 20) X dX5_noEater_13 (by decide) (fun hq1 => ?_) (fun hq1 => ?_)
  ·
    refine z_iconst (v := nI 0) X dX5_noEater_20 (by decide) ?_
    exact z_zret X ZF dX5_noEater_21 (bI_nar _) (by simp [bI, nI_one, nI_0, hq1]) rfl
  ·
    refine z_iconst (v := nI 1) X dX5_noEater_16 (by decide) ?_
    refine z_goto (tgt := 21) X dX5_noEater_17 (by decide) ?_
    exact z_zret X ZF dX5_noEater_21 (bI_nar _) (by simp [bI, nI_one, nI_0, hq1]) rfl
abbrev rX5_noSet : Room := { frames := 1, cells := 0, slots := 0, locals := 25 }
set_option maxHeartbeats 4000000 in
set_option maxRecDepth 100000 in
theorem c_X5_noSet (l : Launch) (g : zg) (b : Nat → Nat) (ft : Int32) (so : Int32) (D : Nat) (E : Nat) (tr : Int32) (C : Nat) (lk : Nat → Int32) (kd : Nat → Int32) (st : Nat → Int32) (sp : Nat → Int32) (nd : Nat → Int32) (rO : Nat → Int32) (rB : Nat → Int32) (rD : Nat → Int32) (rW : Nat → Int32) (sz : Nat → Int32) (sl : Nat → Int32) (sc : Nat → Int32) (sm : Int32) (xa : Nat) (xb : Int32) (xc : Nat) (xd : Nat) (y1 : Nat → Int32) (y2 : Nat → Int32) (y3 : Nat → Int32) (y4 : Nat → Int32) (y5 : Nat → Int32) (hn : Nat → Int32) (x : Int32) (hD : D ≤ 6) : zM l g yX5_noSet wsX5_noSet rX5_noSet [.ref (b 0), .int x] (wM g b ft so D E tr C lk kd st sp nd rO rB rD rW sz sl sc sm xa xb xc xd y1 y2 y3 y4 y5 hn) (some (.int (bI (!zin x (2 ^ D))))) (wM g b ft so D E tr C lk kd st sp nd rO rB rD rW sz sl sc sm xa xb xc xd y1 y2 y3 y4 y5 hn) := by
  refine z_met (own := RX5) (cc := cX5_noSet) (maxL := 2) (ret := some .boolean) (by decide +kernel) rfl rfl (Nat.le_of_ble_eq_true rfl) ?_
  intro M X ZF
  refine z_Le (L' := [(0, .ref (b 0)), (1, .int x)]) rfl ?_
  have hpD : 2 ^ D ≤ 2 ^ 6 := Nat.pow_le_pow_right (by omega) hD
  have i_RX5 : ∀ w ∈ wsX50, w ∈ wsX5_noSet := by decide +kernel
  have f_78 : Cond.fieldLink RX5 78 (TX5 2).1 (TX5 2).2.1 (TX5 2).2.2.1 ∈ wsX5_noSet := by decide +kernel
  refine z_iload_n X dX5_noSet_0 rfl 1 rfl ?_
  refine z_i2l (v := (x).toInt64) X dX5_noSet_1 rfl ?_
  refine z_lconst (v := 0) X dX5_noSet_2 (by decide) ?_
  refine z_iconst (v := nI 1) X dX5_noSet_3 (by decide) ?_
  refine z_aload_n X dX5_noSet_4 rfl 0 rfl ?_
  refine z_get (v := .int (nI D)) (N := 29) X i_RX5 (ci := 4) rfl 0 rfl 2 (by decide) f_78 rfl dX5_noSet_5 ?_
  refine z_ishl' (v := nI (2 ^ D)) X dX5_noSet_8 (nI_shl1 (by omega)) ?_
  refine z_i2l (v := (nI (2 ^ D)).toInt64) X dX5_noSet_9 rfl ?_
  refine z_lconst (v := 1) X dX5_noSet_10 (by decide) ?_
  refine z_lsub X dX5_noSet_11 ?_
  refine z_callS0 X (c_X5_in l g ((x).toInt64) 0 (((nI (2 ^ D)).toInt64) - 1)) gX5_noSet_X5_in rfl ⟨rfl, rfl⟩ (by decide +kernel) ⟨Nat.le_of_ble_eq_true rfl, Nat.le_of_ble_eq_true rfl⟩ ZF.room (As := [.long ((x).toInt64), .long 0, .long (((nI (2 ^ D)).toInt64) - 1)]) (n := 3) rfl rfl (st1 := [.int (bI (zil ((x).toInt64) 0 (((nI (2 ^ D)).toInt64) - 1)))]) rfl (Nat.le_of_ble_eq_true rfl) dX5_noSet_12 ?_
  refine z_top (y := bI (zin x (2 ^ D))) (bI_eq (zil_in (by omega))) ?_
  refine z_if_neB (tgt := 22) X dX5_noSet_15 (by decide) (fun hq1 => ?_) (fun hq1 => ?_)
  ·
    refine z_iconst (v := nI 0) X dX5_noSet_22 (by decide) ?_
    exact z_zret X ZF dX5_noSet_23 (bI_nar _) (by simp [bI, nI_one, nI_0, hq1]) rfl
  ·
    refine z_iconst (v := nI 1) X dX5_noSet_18 (by decide) ?_
    refine z_goto (tgt := 23) X dX5_noSet_19 (by decide) ?_
    exact z_zret X ZF dX5_noSet_23 (bI_nar _) (by simp [bI, nI_one, nI_0, hq1]) rfl
abbrev rX5_noSheet : Room := { frames := 1, cells := 0, slots := 0, locals := 25 }
set_option maxHeartbeats 4000000 in
set_option maxRecDepth 100000 in
theorem c_X5_noSheet (l : Launch) (g : zg) (x : Int32) : zM l g yX5_noSheet wsX5_noSheet rX5_noSheet [.int x] [] (some (.int (bI (!zin x 4)))) [] := by
  refine z_met (own := RX5) (cc := cX5_noSheet) (maxL := 1) (ret := some .boolean) (by decide +kernel) rfl rfl (Nat.le_of_ble_eq_true rfl) ?_
  intro M X ZF
  refine z_Le (L' := [(0, .int x)]) rfl ?_
  have k_180 : Cond.constantLong RX5 180 (3) ∈ wsX5_noSheet := by decide +kernel
  refine z_iload_n X dX5_noSheet_0 rfl 0 rfl ?_
  refine z_i2l (v := (x).toInt64) X dX5_noSheet_1 rfl ?_
  refine z_lconst (v := 0) X dX5_noSheet_2 (by decide) ?_
  refine z_ldc2 (v := 3) X dX5_noSheet_3 k_180 ?_
  refine z_callS0 X (c_X5_in l g ((x).toInt64) 0 3) gX5_noSheet_X5_in rfl ⟨rfl, rfl⟩ (by decide +kernel) ⟨Nat.le_of_ble_eq_true rfl, Nat.le_of_ble_eq_true rfl⟩ ZF.room (As := [.long ((x).toInt64), .long 0, .long 3]) (n := 3) rfl rfl (st1 := [.int (bI (zil ((x).toInt64) 0 3))]) rfl (Nat.le_of_ble_eq_true rfl) dX5_noSheet_6 ?_
  refine z_top (y := bI (zin x 4)) (bI_eq (zil_k (n := 3) (by decide +kernel) (by omega))) ?_
  refine z_if_neB (tgt := 16) X dX5_noSheet_9 (by decide) (fun hq1 => ?_) (fun hq1 => ?_)
  ·
    refine z_iconst (v := nI 0) X dX5_noSheet_16 (by decide) ?_
    exact z_zret X ZF dX5_noSheet_17 (bI_nar _) (by simp [bI, nI_one, nI_0, hq1]) rfl
  ·
    refine z_iconst (v := nI 1) X dX5_noSheet_12 (by decide) ?_
    refine z_goto (tgt := 17) X dX5_noSheet_13 (by decide) ?_
    exact z_zret X ZF dX5_noSheet_17 (bI_nar _) (by simp [bI, nI_one, nI_0, hq1]) rfl
abbrev rX5_lastsOf : Room := { frames := 0, cells := 0, slots := 0, locals := 0 }
set_option maxHeartbeats 4000000 in
set_option maxRecDepth 100000 in
theorem c_X5_lastsOf (l : Launch) (g : zg) (b : Nat → Nat) (ft : Int32) (so : Int32) (D : Nat) (E : Nat) (tr : Int32) (C : Nat) (lk : Nat → Int32) (kd : Nat → Int32) (st : Nat → Int32) (sp : Nat → Int32) (nd : Nat → Int32) (rO : Nat → Int32) (rB : Nat → Int32) (rD : Nat → Int32) (rW : Nat → Int32) (sz : Nat → Int32) (sl : Nat → Int32) (sc : Nat → Int32) (sm : Int32) (xa : Nat) (xb : Int32) (xc : Nat) (xd : Nat) (y1 : Nat → Int32) (y2 : Nat → Int32) (y3 : Nat → Int32) (y4 : Nat → Int32) (y5 : Nat → Int32) (hn : Nat → Int32) (k : Nat) (hk : k < E) (hE : E ≤ 4) (hL : vL kd st E) : zM l g yX5_lastsOf wsX5_lastsOf rX5_lastsOf [.ref (b 0), .int (nI k)] (wM g b ft so D E tr C lk kd st sp nd rO rB rD rW sz sl sc sm xa xb xc xd y1 y2 y3 y4 y5 hn) (some (.int (nI (Lf kd st k)))) (wM g b ft so D E tr C lk kd st sp nd rO rB rD rW sz sl sc sm xa xb xc xd y1 y2 y3 y4 y5 hn) := by
  refine z_met (own := RX5) (cc := cX5_lastsOf) (maxL := 3) (ret := some .int) (by decide +kernel) rfl rfl (Nat.le_of_ble_eq_true rfl) ?_
  intro M X ZF
  refine z_Le (L' := [(0, .ref (b 0)), (1, .int (nI k))]) rfl ?_
  have i_RX5 : ∀ w ∈ wsX50, w ∈ wsX5_lastsOf := by decide +kernel
  have f_16 : Cond.fieldLink RX5 16 (TX5 6).1 (TX5 6).2.1 (TX5 6).2.2.1 ∈ wsX5_lastsOf := by decide +kernel
  have f_13 : Cond.fieldLink RX5 13 (TX5 5).1 (TX5 5).2.1 (TX5 5).2.2.1 ∈ wsX5_lastsOf := by decide +kernel
  refine z_aload_n X dX5_lastsOf_0 rfl 0 rfl ?_
  refine z_get (v := .ref (b 3)) (N := 29) X i_RX5 (ci := 4) rfl 0 rfl 6 (by decide) f_16 rfl dX5_lastsOf_1 ?_
  refine z_iload_n X dX5_lastsOf_4 rfl 1 rfl ?_
  refine z_ialdN X 3 rfl (by omega) (by omega) dX5_lastsOf_5 ?_
  refine z_if_le (tgt := 20) X dX5_lastsOf_6 (by decide) (fun hq1 => ?_) (fun hq1 => ?_)
  ·
    refine z_iconst (v := nI 0) X dX5_lastsOf_20 (by decide) ?_
    refine z_istore_n (L' := [(2, .int (nI 0)), (0, .ref (b 0)), (1, .int (nI k))]) X dX5_lastsOf_21 rfl (by decide) rfl ?_
    refine z_aload_n X dX5_lastsOf_22 rfl 1 rfl ?_
    refine z_get (v := .ref (b 2)) (N := 29) X i_RX5 (ci := 4) rfl 0 rfl 5 (by decide) f_13 rfl dX5_lastsOf_23 ?_
    refine z_iload_n X dX5_lastsOf_26 rfl 2 rfl ?_
    refine z_ialdN X 2 rfl (by omega) (by omega) dX5_lastsOf_27 ?_
    refine z_if_ne (tgt := 40) X dX5_lastsOf_28 (by decide) (fun hq2 => ?_) (fun hq2 => ?_)
    ·
      refine z_aload_n X dX5_lastsOf_40 rfl 1 rfl ?_
      refine z_get (v := .ref (b 2)) (N := 29) X i_RX5 (ci := 4) rfl 0 rfl 5 (by decide) f_13 rfl dX5_lastsOf_41 ?_
      refine z_iload_n X dX5_lastsOf_44 rfl 2 rfl ?_
      refine z_ialdN X 2 rfl (by omega) (by omega) dX5_lastsOf_45 ?_
      refine z_iconst (v := nI 1) X dX5_lastsOf_46 (by decide) ?_
      refine z_icmp_ne (tgt := 54) X dX5_lastsOf_47 (by decide) (fun hq3 => ?_) (fun hq3 => ?_)
      ·
        refine z_iload_n X dX5_lastsOf_54 rfl 0 rfl ?_
        refine z_iconst (v := nI 2) X dX5_lastsOf_55 (by decide) ?_
        refine z_idiv X dX5_lastsOf_56 (by decide) ?_
        exact z_iret X ZF dX5_lastsOf_57 (by rw [← (hL k hk).1]; simp [lbI, nI10, hq1, hq2, hq3]) rfl
      ·
        refine z_iload_n X dX5_lastsOf_50 rfl 0 rfl ?_
        refine z_goto (tgt := 57) X dX5_lastsOf_51 (by decide) ?_
        exact z_iret X ZF dX5_lastsOf_57 (by rw [← (hL k hk).1]; simp [lbI, nI10, hq1, hq2, hq3]) rfl
    ·
      refine z_aload_n X dX5_lastsOf_31 rfl 1 rfl ?_
      refine z_get (v := .ref (b 3)) (N := 29) X i_RX5 (ci := 4) rfl 0 rfl 6 (by decide) f_16 rfl dX5_lastsOf_32 ?_
      refine z_iload_n X dX5_lastsOf_35 rfl 2 rfl ?_
      refine z_ialdN X 3 rfl (by omega) (by omega) dX5_lastsOf_36 ?_
      refine z_goto (tgt := 57) X dX5_lastsOf_37 (by decide) ?_
      exact z_iret X ZF dX5_lastsOf_57 (by rw [← (hL k hk).1]; simp [lbI, nI10, hq1, hq2]) rfl
  ·
    refine z_aload_n X dX5_lastsOf_9 rfl 0 rfl ?_
    refine z_get (v := .ref (b 3)) (N := 29) X i_RX5 (ci := 4) rfl 0 rfl 6 (by decide) f_16 rfl dX5_lastsOf_10 ?_
    refine z_iload_n X dX5_lastsOf_13 rfl 1 rfl ?_
    refine z_ialdN X 3 rfl (by omega) (by omega) dX5_lastsOf_14 ?_
    refine z_iconst (v := nI 1) X dX5_lastsOf_15 (by decide) ?_
    refine z_isub X dX5_lastsOf_16 ?_
    refine z_goto (tgt := 21) X dX5_lastsOf_17 (by decide) ?_
    refine z_istore_n (L' := [(2, .int ((st k) - (nI 1))), (0, .ref (b 0)), (1, .int (nI k))]) X dX5_lastsOf_21 rfl (by decide) rfl ?_
    refine z_aload_n X dX5_lastsOf_22 rfl 1 rfl ?_
    refine z_get (v := .ref (b 2)) (N := 29) X i_RX5 (ci := 4) rfl 0 rfl 5 (by decide) f_13 rfl dX5_lastsOf_23 ?_
    refine z_iload_n X dX5_lastsOf_26 rfl 2 rfl ?_
    refine z_ialdN X 2 rfl (by omega) (by omega) dX5_lastsOf_27 ?_
    refine z_if_ne (tgt := 40) X dX5_lastsOf_28 (by decide) (fun hq4 => ?_) (fun hq4 => ?_)
    ·
      refine z_aload_n X dX5_lastsOf_40 rfl 1 rfl ?_
      refine z_get (v := .ref (b 2)) (N := 29) X i_RX5 (ci := 4) rfl 0 rfl 5 (by decide) f_13 rfl dX5_lastsOf_41 ?_
      refine z_iload_n X dX5_lastsOf_44 rfl 2 rfl ?_
      refine z_ialdN X 2 rfl (by omega) (by omega) dX5_lastsOf_45 ?_
      refine z_iconst (v := nI 1) X dX5_lastsOf_46 (by decide) ?_
      refine z_icmp_ne (tgt := 54) X dX5_lastsOf_47 (by decide) (fun hq5 => ?_) (fun hq5 => ?_)
      ·
        refine z_iload_n X dX5_lastsOf_54 rfl 0 rfl ?_
        refine z_iconst (v := nI 2) X dX5_lastsOf_55 (by decide) ?_
        refine z_idiv X dX5_lastsOf_56 (by decide) ?_
        exact z_iret X ZF dX5_lastsOf_57 (by rw [← (hL k hk).1]; simp [lbI, nI10, hq1, hq4, hq5]) rfl
      ·
        refine z_iload_n X dX5_lastsOf_50 rfl 0 rfl ?_
        refine z_goto (tgt := 57) X dX5_lastsOf_51 (by decide) ?_
        exact z_iret X ZF dX5_lastsOf_57 (by rw [← (hL k hk).1]; simp [lbI, nI10, hq1, hq4, hq5]) rfl
    ·
      refine z_aload_n X dX5_lastsOf_31 rfl 1 rfl ?_
      refine z_get (v := .ref (b 3)) (N := 29) X i_RX5 (ci := 4) rfl 0 rfl 6 (by decide) f_16 rfl dX5_lastsOf_32 ?_
      refine z_iload_n X dX5_lastsOf_35 rfl 2 rfl ?_
      refine z_ialdN X 3 rfl (by omega) (by omega) dX5_lastsOf_36 ?_
      refine z_goto (tgt := 57) X dX5_lastsOf_37 (by decide) ?_
      exact z_iret X ZF dX5_lastsOf_57 (by rw [← (hL k hk).1]; simp [lbI, nI10, hq1, hq4]) rfl
abbrev rX5_fastsNow : Room := { frames := 0, cells := 0, slots := 0, locals := 0 }
set_option maxHeartbeats 4000000 in
set_option maxRecDepth 100000 in
theorem c_X5_fastsNow (l : Launch) (g : zg) (b : Nat → Nat) (ft : Int32) (so : Int32) (D : Nat) (E : Nat) (tr : Int32) (C : Nat) (lk : Nat → Int32) (kd : Nat → Int32) (st : Nat → Int32) (sp : Nat → Int32) (nd : Nat → Int32) (rO : Nat → Int32) (rB : Nat → Int32) (rD : Nat → Int32) (rW : Nat → Int32) (sz : Nat → Int32) (sl : Nat → Int32) (sc : Nat → Int32) (sm : Int32) (xa : Nat) (xb : Int32) (xc : Nat) (xd : Nat) (y1 : Nat → Int32) (y2 : Nat → Int32) (y3 : Nat → Int32) (y4 : Nat → Int32) (y5 : Nat → Int32) (hn : Nat → Int32) (hD : D ≤ 6) : zM l g yX5_fastsNow wsX5_fastsNow rX5_fastsNow [.ref (b 0)] (wM g b ft so D E tr C lk kd st sp nd rO rB rD rW sz sl sc sm xa xb xc xd y1 y2 y3 y4 y5 hn) (some (.int (nI (fsm lk so sm D)))) (wM g b ft so D E tr C lk kd st sp nd rO rB rD rW sz sl sc sm xa xb xc xd y1 y2 y3 y4 y5 hn) := by
  refine z_met (own := RX5) (cc := cX5_fastsNow) (maxL := 3) (ret := some .int) (by decide +kernel) rfl rfl (Nat.le_of_ble_eq_true rfl) ?_
  intro M X ZF
  refine z_Le (L' := [(0, .ref (b 0))]) rfl ?_
  have i_RX5 : ∀ w ∈ wsX50, w ∈ wsX5_fastsNow := by decide +kernel
  have f_78 : Cond.fieldLink RX5 78 (TX5 2).1 (TX5 2).2.1 (TX5 2).2.2.1 ∈ wsX5_fastsNow := by decide +kernel
  have f_7 : Cond.fieldLink RX5 7 (TX5 3).1 (TX5 3).2.1 (TX5 3).2.2.1 ∈ wsX5_fastsNow := by decide +kernel
  have f_139 : Cond.fieldLink RX5 139 (TX5 1).1 (TX5 1).2.1 (TX5 1).2.2.1 ∈ wsX5_fastsNow := by decide +kernel
  have f_25 : Cond.fieldLink RX5 25 (TX5 9).1 (TX5 9).2.1 (TX5 9).2.2.1 ∈ wsX5_fastsNow := by decide +kernel
  refine z_iconst (v := nI 0) X dX5_fastsNow_0 (by decide) ?_
  refine z_istore_n (L' := [(1, .int (nI 0)), (0, .ref (b 0))]) X dX5_fastsNow_1 rfl (by decide) rfl ?_
  refine z_iconst (v := nI 0) X dX5_fastsNow_2 (by decide) ?_
  refine z_istore_n (L' := [(2, .int (nI 0)), (1, .int (nI 0)), (0, .ref (b 0))]) X dX5_fastsNow_3 rfl (by decide) rfl ?_
  have loopv1 : ∀ (n1 i_v : Nat), i_v ≤ D → D + 1 ≤ i_v + n1 → zG l g 3 M (wM g b ft so D E tr C lk kd st sp nd rO rB rD rW sz sl sc sm xa xb xc xd y1 y2 y3 y4 y5 hn) [(0, .ref (b 0)), (1, .int (nI (fsm lk so sm i_v))), (2, .int (nI i_v))] 4 [] := by
    intro n1
    induction n1 with
    | zero => intro i_v h1 h2; exact absurd h2 (by omega)
    | succ n1 ih1 =>
      intro i_v hi1 hn1
      refine z_iload_n X dX5_fastsNow_4 rfl 2 rfl ?_
      refine z_aload_n X dX5_fastsNow_5 rfl 0 rfl ?_
      refine z_get (v := .int (nI D)) (N := 29) X i_RX5 (ci := 4) rfl 0 rfl 2 (by decide) f_78 rfl dX5_fastsNow_6 ?_
      refine z_icmp_geN (tgt := 49) X dX5_fastsNow_9 (by decide) (by omega) (by omega) (fun hq2 => ?_) (fun hq2 => ?_)
      ·
        refine z_iload_n X dX5_fastsNow_49 rfl 1 rfl ?_
        exact z_iret X ZF dX5_fastsNow_50 (by rw [show i_v = D by omega]) rfl
      ·
        refine z_iload_n X dX5_fastsNow_12 rfl 1 rfl ?_
        refine z_aload_n X dX5_fastsNow_13 rfl 0 rfl ?_
        refine z_get (v := .ref (b 1)) (N := 29) X i_RX5 (ci := 4) rfl 0 rfl 3 (by decide) f_7 rfl dX5_fastsNow_14 ?_
        refine z_iload_n X dX5_fastsNow_17 rfl 2 rfl ?_
        refine z_ialdN X 1 rfl (by omega) (by omega) dX5_fastsNow_18 ?_
        refine z_aload_n X dX5_fastsNow_19 rfl 0 rfl ?_
        refine z_get (v := .int so) (N := 29) X i_RX5 (ci := 4) rfl 0 rfl 1 (by decide) f_139 rfl dX5_fastsNow_20 ?_
        refine z_icmp_lt (tgt := 40) X dX5_fastsNow_23 (by decide) (fun hq3 => ?_) (fun hq3 => ?_)
        ·
          refine z_iconst (v := nI 0) X dX5_fastsNow_40 (by decide) ?_
          refine z_ior' (v := nI ((fsm lk so sm i_v) ||| 0)) X dX5_fastsNow_41 (fa_or _ _) ?_
          refine z_istore_n (L' := [(1, .int (nI ((fsm lk so sm i_v) ||| 0))), (0, .ref (b 0)), (2, .int (nI i_v))]) X dX5_fastsNow_42 rfl (by decide) rfl ?_
          refine z_iinc (v := nI (i_v + 1)) (L' := [(2, .int (nI (i_v + 1))), (1, .int (nI ((fsm lk so sm i_v) ||| 0))), (0, .ref (b 0))]) X dX5_fastsNow_43 2 rfl (nI_inc i_v 1) (by decide) rfl ?_
          refine z_goto (tgt := 4) X dX5_fastsNow_46 (by decide) ?_
          refine z_ls (L' := [(0, .ref (b 0)), (1, .int (nI ((fsm lk so sm i_v) ||| 0))), (2, .int (nI (i_v + 1)))]) [2, 1, 0] rfl ?_
          have e4 : (nI ((fsm lk so sm i_v) ||| 0)) = (nI (fsm lk so sm (i_v + 1))) := by first | rfl | simp [fsm, hq2, hq3]
          refine z_Le (L' := [(0, .ref (b 0)), (1, .int (nI (fsm lk so sm (i_v + 1)))), (2, .int (nI (i_v + 1)))]) (by rw [← e4]) ?_
          exact ih1 (i_v + 1) (by omega) (by omega)
        ·
          refine z_iload_n X dX5_fastsNow_26 rfl 2 rfl ?_
          refine z_aload_n X dX5_fastsNow_27 rfl 0 rfl ?_
          refine z_get (v := .int sm) (N := 29) X i_RX5 (ci := 4) rfl 0 rfl 9 (by decide) f_25 rfl dX5_fastsNow_28 ?_
          refine z_icmp_eq (tgt := 40) X dX5_fastsNow_31 (by decide) (fun hq5 => ?_) (fun hq5 => ?_)
          ·
            refine z_iconst (v := nI 0) X dX5_fastsNow_40 (by decide) ?_
            refine z_ior' (v := nI ((fsm lk so sm i_v) ||| 0)) X dX5_fastsNow_41 (fa_or _ _) ?_
            refine z_istore_n (L' := [(1, .int (nI ((fsm lk so sm i_v) ||| 0))), (0, .ref (b 0)), (2, .int (nI i_v))]) X dX5_fastsNow_42 rfl (by decide) rfl ?_
            refine z_iinc (v := nI (i_v + 1)) (L' := [(2, .int (nI (i_v + 1))), (1, .int (nI ((fsm lk so sm i_v) ||| 0))), (0, .ref (b 0))]) X dX5_fastsNow_43 2 rfl (nI_inc i_v 1) (by decide) rfl ?_
            refine z_goto (tgt := 4) X dX5_fastsNow_46 (by decide) ?_
            refine z_ls (L' := [(0, .ref (b 0)), (1, .int (nI ((fsm lk so sm i_v) ||| 0))), (2, .int (nI (i_v + 1)))]) [2, 1, 0] rfl ?_
            have e6 : (nI ((fsm lk so sm i_v) ||| 0)) = (nI (fsm lk so sm (i_v + 1))) := by first | rfl | simp [fsm, hq2, hq3, hq5]
            refine z_Le (L' := [(0, .ref (b 0)), (1, .int (nI (fsm lk so sm (i_v + 1)))), (2, .int (nI (i_v + 1)))]) (by rw [← e6]) ?_
            exact ih1 (i_v + 1) (by omega) (by omega)
          ·
            refine z_iconst (v := nI 1) X dX5_fastsNow_34 (by decide) ?_
            refine z_iload_n X dX5_fastsNow_35 rfl 2 rfl ?_
            refine z_ishl' (v := nI (2 ^ i_v)) X dX5_fastsNow_36 (nI_shl1 (by omega)) ?_
            refine z_goto (tgt := 41) X dX5_fastsNow_37 (by decide) ?_
            refine z_ior' (v := nI ((fsm lk so sm i_v) ||| (2 ^ i_v))) X dX5_fastsNow_41 (fa_or _ _) ?_
            refine z_istore_n (L' := [(1, .int (nI ((fsm lk so sm i_v) ||| (2 ^ i_v)))), (0, .ref (b 0)), (2, .int (nI i_v))]) X dX5_fastsNow_42 rfl (by decide) rfl ?_
            refine z_iinc (v := nI (i_v + 1)) (L' := [(2, .int (nI (i_v + 1))), (1, .int (nI ((fsm lk so sm i_v) ||| (2 ^ i_v)))), (0, .ref (b 0))]) X dX5_fastsNow_43 2 rfl (nI_inc i_v 1) (by decide) rfl ?_
            refine z_goto (tgt := 4) X dX5_fastsNow_46 (by decide) ?_
            refine z_ls (L' := [(0, .ref (b 0)), (1, .int (nI ((fsm lk so sm i_v) ||| (2 ^ i_v)))), (2, .int (nI (i_v + 1)))]) [2, 1, 0] rfl ?_
            have e7 : (nI ((fsm lk so sm i_v) ||| (2 ^ i_v))) = (nI (fsm lk so sm (i_v + 1))) := by first | rfl | simp [fsm, hq2, hq3, hq5]
            refine z_Le (L' := [(0, .ref (b 0)), (1, .int (nI (fsm lk so sm (i_v + 1)))), (2, .int (nI (i_v + 1)))]) (by rw [← e7]) ?_
            exact ih1 (i_v + 1) (by omega) (by omega)
  refine z_ls (L' := [(0, .ref (b 0)), (1, .int (nI 0)), (2, .int (nI 0))]) [2, 1, 0] rfl ?_
  have e8 : (nI 0) = (nI (fsm lk so sm 0)) := by first | rfl | simp [fsm, ]
  refine z_Le (L' := [(0, .ref (b 0)), (1, .int (nI (fsm lk so sm 0))), (2, .int (nI 0))]) (by rw [← e8]) ?_
  exact loopv1 (D + 1) 0 (by omega) (by omega)
abbrev rX5_yellowBy : Room := { frames := 1, cells := 0, slots := 0, locals := 22 }
set_option maxHeartbeats 4000000 in
set_option maxRecDepth 100000 in
theorem c_X5_yellowBy (l : Launch) (g : zg) (b : Nat → Nat) (ft : Int32) (so : Int32) (D : Nat) (E : Nat) (tr : Int32) (C : Nat) (lk : Nat → Int32) (kd : Nat → Int32) (st : Nat → Int32) (sp : Nat → Int32) (nd : Nat → Int32) (rO : Nat → Int32) (rB : Nat → Int32) (rD : Nat → Int32) (rW : Nat → Int32) (sz : Nat → Int32) (sl : Nat → Int32) (sc : Nat → Int32) (sm : Int32) (xa : Nat) (xb : Int32) (xc : Nat) (xd : Nat) (y1 : Nat → Int32) (y2 : Nat → Int32) (y3 : Nat → Int32) (y4 : Nat → Int32) (y5 : Nat → Int32) (hn : Nat → Int32) (k : Nat) (S : Nat) (hk : k < E) (hE : E ≤ 4) (hD : D ≤ 6) (hL : vL kd st E) (hS : S < 2 ^ D) : zM l g yX5_yellowBy wsX5_yellowBy rX5_yellowBy [.ref (b 0), .int (nI k), .int (nI S)] (wM g b ft so D E tr C lk kd st sp nd rO rB rD rW sz sl sc sm xa xb xc xd y1 y2 y3 y4 y5 hn) (some (.int (nI (yl D (Lf kd st k) S)))) (wM g b ft so D E tr C lk kd st sp nd rO rB rD rW sz sl sc sm xa xb xc xd y1 y2 y3 y4 y5 hn) := by
  refine z_met (own := RX5) (cc := cX5_yellowBy) (maxL := 7) (ret := some .int) (by decide +kernel) rfl rfl (Nat.le_of_ble_eq_true rfl) ?_
  intro M X ZF
  refine z_Le (L' := [(0, .ref (b 0)), (1, .int (nI k)), (2, .int (nI S))]) rfl ?_
  have hpD : 2 ^ D ≤ 2 ^ 6 := Nat.pow_le_pow_right (by omega) hD
  have hLk := (hL k hk).2
  have i_RX5 : ∀ w ∈ wsX50, w ∈ wsX5_yellowBy := by decide +kernel
  have f_78 : Cond.fieldLink RX5 78 (TX5 2).1 (TX5 2).2.1 (TX5 2).2.2.1 ∈ wsX5_yellowBy := by decide +kernel
  refine z_iconst (v := nI 0) X dX5_yellowBy_0 (by decide) ?_
  refine z_istore_n (L' := [(3, .int (nI 0)), (0, .ref (b 0)), (1, .int (nI k)), (2, .int (nI S))]) X dX5_yellowBy_1 rfl (by decide) rfl ?_
  refine z_aload_n X dX5_yellowBy_2 rfl 1 rfl ?_
  refine z_iload_n X dX5_yellowBy_3 rfl 2 rfl ?_
  refine z_callVM X (c_X5_lastsOf l g b ft so D E tr C lk kd st sp nd rO rB rD rW sz sl sc sm xa xb xc xd y1 y2 y3 y4 y5 hn k (by omega) (by omega) (by first | assumption | omega)) gX5_yellowBy_X5_lastsOf rfl ⟨rfl, rfl⟩ (by decide +kernel) ⟨Nat.le_of_ble_eq_true rfl, Nat.le_of_ble_eq_true rfl⟩ ZF.room (ci := 4) rfl 0 rfl rfl (As := [.int (nI k)]) (n := 1) rfl rfl (st1 := [.int (nI (Lf kd st k))]) rfl (Nat.le_of_ble_eq_true rfl) dX5_yellowBy_4 ?_
  refine z_istore (L' := [(4, .int (nI (Lf kd st k))), (3, .int (nI 0)), (0, .ref (b 0)), (1, .int (nI k)), (2, .int (nI S))]) X dX5_yellowBy_7 (by decide) rfl ?_
  refine z_iconst (v := nI 0) X dX5_yellowBy_9 (by decide) ?_
  refine z_istore (L' := [(5, .int (nI 0)), (4, .int (nI (Lf kd st k))), (3, .int (nI 0)), (0, .ref (b 0)), (1, .int (nI k)), (2, .int (nI S))]) X dX5_yellowBy_10 (by decide) rfl ?_
  have loopv1 : ∀ (n1 d_v : Nat), d_v ≤ D → D + 1 ≤ d_v + n1 → zG l g 7 M (wM g b ft so D E tr C lk kd st sp nd rO rB rD rW sz sl sc sm xa xb xc xd y1 y2 y3 y4 y5 hn) [(0, .ref (b 0)), (1, .int (nI k)), (2, .int (nI S)), (3, .int (nI (yM D (Lf kd st k) S d_v))), (4, .int (nI (Lf kd st k))), (5, .int (nI d_v))] 12 [] := by
    intro n1
    induction n1 with
    | zero => intro d_v h1 h2; exact absurd h2 (by omega)
    | succ n1 ih1 =>
      intro d_v hi1 hn1
      refine z_iload X dX5_yellowBy_12 5 rfl ?_
      refine z_aload_n X dX5_yellowBy_14 rfl 0 rfl ?_
      refine z_get (v := .int (nI D)) (N := 29) X i_RX5 (ci := 4) rfl 0 rfl 2 (by decide) f_78 rfl dX5_yellowBy_15 ?_
      refine z_icmp_geN (tgt := 76) X dX5_yellowBy_18 (by decide) (by omega) (by omega) (fun hq2 => ?_) (fun hq2 => ?_)
      ·
        refine z_iload_n X dX5_yellowBy_76 rfl 3 rfl ?_
        exact z_iret X ZF dX5_yellowBy_77 (by rw [show d_v = D by omega, yM_yl D hD _ hLk S hS]) rfl
      ·
        refine z_iload X dX5_yellowBy_21 5 rfl ?_
        refine z_istore (L' := [(6, .int (nI d_v)), (0, .ref (b 0)), (1, .int (nI k)), (2, .int (nI S)), (3, .int (nI (yM D (Lf kd st k) S d_v))), (4, .int (nI (Lf kd st k))), (5, .int (nI d_v))]) X dX5_yellowBy_23 (by decide) rfl ?_
        have loopv3 : ∀ (n3 j_v : Nat), j_v ≤ 6 → 6 + 1 ≤ j_v + n3 → (j_v ≤ D - d_v) → (j_v ≤ Lf kd st k + 1) → zG l g 7 M (wM g b ft so D E tr C lk kd st sp nd rO rB rD rW sz sl sc sm xa xb xc xd y1 y2 y3 y4 y5 hn) [(0, .ref (b 0)), (1, .int (nI k)), (2, .int (nI S)), (3, .int (nI (yi (zbt S d_v) (yM D (Lf kd st k) S d_v) d_v j_v))), (4, .int (nI (Lf kd st k))), (5, .int (nI d_v)), (6, .int (nI (d_v + j_v)))] 25 [] := by
          intro n3
          induction n3 with
          | zero => intro j_v h1 h2 _ _; exact absurd h2 (by omega)
          | succ n3 ih3 =>
            intro j_v hi3 hn3 hj1 hj2
            refine z_iload X dX5_yellowBy_25 6 rfl ?_
            refine z_aload_n X dX5_yellowBy_27 rfl 0 rfl ?_
            refine z_get (v := .int (nI D)) (N := 29) X i_RX5 (ci := 4) rfl 0 rfl 2 (by decide) f_78 rfl dX5_yellowBy_28 ?_
            refine z_icmp_geN (tgt := 70) X dX5_yellowBy_31 (by decide) (by omega) (by omega) (fun hq4 => ?_) (fun hq4 => ?_)
            ·
              refine z_iinc (v := nI (d_v + 1)) (L' := [(5, .int (nI (d_v + 1))), (0, .ref (b 0)), (1, .int (nI k)), (2, .int (nI S)), (3, .int (nI (yi (zbt S d_v) (yM D (Lf kd st k) S d_v) d_v j_v))), (4, .int (nI (Lf kd st k))), (6, .int (nI (d_v + j_v)))]) X dX5_yellowBy_70 5 rfl (nI_inc d_v 1) (by decide) rfl ?_
              refine z_goto (tgt := 12) X dX5_yellowBy_73 (by decide) ?_
              refine z_ls (L' := [(0, .ref (b 0)), (1, .int (nI k)), (2, .int (nI S)), (3, .int (nI (yi (zbt S d_v) (yM D (Lf kd st k) S d_v) d_v j_v))), (4, .int (nI (Lf kd st k))), (5, .int (nI (d_v + 1)))]) [1, 2, 3, 4, 5, 0] rfl ?_
              have e5 : (nI (yi (zbt S d_v) (yM D (Lf kd st k) S d_v) d_v j_v)) = (nI (yM D (Lf kd st k) S (d_v + 1))) := by first | rfl | exact congrArg nI (yi_fin (by omega) (by omega) (by omega))
              refine z_Le (L' := [(0, .ref (b 0)), (1, .int (nI k)), (2, .int (nI S)), (3, .int (nI (yM D (Lf kd st k) S (d_v + 1)))), (4, .int (nI (Lf kd st k))), (5, .int (nI (d_v + 1)))]) (by rw [← e5]) ?_
              exact ih1 (d_v + 1) (by omega) (by omega)
            ·
              refine z_iload X dX5_yellowBy_34 6 rfl ?_
              refine z_iload X dX5_yellowBy_36 5 rfl ?_
              refine z_iload X dX5_yellowBy_38 4 rfl ?_
              refine z_iadd' (v := nI (d_v + (Lf kd st k))) X dX5_yellowBy_40 (nI_add _ _) ?_
              refine z_icmp_gtN (tgt := 70) X dX5_yellowBy_41 (by decide) (by omega) (by omega) (fun hq6 => ?_) (fun hq6 => ?_)
              ·
                refine z_iinc (v := nI (d_v + 1)) (L' := [(5, .int (nI (d_v + 1))), (0, .ref (b 0)), (1, .int (nI k)), (2, .int (nI S)), (3, .int (nI (yi (zbt S d_v) (yM D (Lf kd st k) S d_v) d_v j_v))), (4, .int (nI (Lf kd st k))), (6, .int (nI (d_v + j_v)))]) X dX5_yellowBy_70 5 rfl (nI_inc d_v 1) (by decide) rfl ?_
                refine z_goto (tgt := 12) X dX5_yellowBy_73 (by decide) ?_
                refine z_ls (L' := [(0, .ref (b 0)), (1, .int (nI k)), (2, .int (nI S)), (3, .int (nI (yi (zbt S d_v) (yM D (Lf kd st k) S d_v) d_v j_v))), (4, .int (nI (Lf kd st k))), (5, .int (nI (d_v + 1)))]) [1, 2, 3, 4, 5, 0] rfl ?_
                have e7 : (nI (yi (zbt S d_v) (yM D (Lf kd st k) S d_v) d_v j_v)) = (nI (yM D (Lf kd st k) S (d_v + 1))) := by first | rfl | exact congrArg nI (yi_fin (by omega) (by omega) (by omega))
                refine z_Le (L' := [(0, .ref (b 0)), (1, .int (nI k)), (2, .int (nI S)), (3, .int (nI (yM D (Lf kd st k) S (d_v + 1)))), (4, .int (nI (Lf kd st k))), (5, .int (nI (d_v + 1)))]) (by rw [← e7]) ?_
                exact ih1 (d_v + 1) (by omega) (by omega)
              ·
                refine z_iload_n X dX5_yellowBy_44 rfl 3 rfl ?_
                refine z_iload_n X dX5_yellowBy_45 rfl 2 rfl ?_
                refine z_iload X dX5_yellowBy_46 5 rfl ?_
                refine z_callS0 X (c_X5_isIn l g S d_v (by omega) (by omega)) gX5_yellowBy_X5_isIn rfl ⟨rfl, rfl⟩ (by decide +kernel) ⟨Nat.le_of_ble_eq_true rfl, Nat.le_of_ble_eq_true rfl⟩ ZF.room (As := [.int (nI S), .int (nI d_v)]) (n := 2) rfl rfl (st1 := [.int (bI (zbt S d_v)), .int (nI (yi (zbt S d_v) (yM D (Lf kd st k) S d_v) d_v j_v))]) rfl (Nat.le_of_ble_eq_true rfl) dX5_yellowBy_48 ?_
                refine z_if_eqB (tgt := 61) X dX5_yellowBy_51 (by decide) (fun hq8 => ?_) (fun hq8 => ?_)
                ·
                  refine z_iconst (v := nI 0) X dX5_yellowBy_61 (by decide) ?_
                  refine z_ior' (v := nI ((yi (zbt S d_v) (yM D (Lf kd st k) S d_v) d_v j_v) ||| 0)) X dX5_yellowBy_62 (fa_or _ _) ?_
                  refine z_istore_n (L' := [(3, .int (nI ((yi (zbt S d_v) (yM D (Lf kd st k) S d_v) d_v j_v) ||| 0))), (0, .ref (b 0)), (1, .int (nI k)), (2, .int (nI S)), (4, .int (nI (Lf kd st k))), (5, .int (nI d_v)), (6, .int (nI (d_v + j_v)))]) X dX5_yellowBy_63 rfl (by decide) rfl ?_
                  refine z_iinc (v := nI (d_v + j_v + 1)) (L' := [(6, .int (nI (d_v + j_v + 1))), (3, .int (nI ((yi (zbt S d_v) (yM D (Lf kd st k) S d_v) d_v j_v) ||| 0))), (0, .ref (b 0)), (1, .int (nI k)), (2, .int (nI S)), (4, .int (nI (Lf kd st k))), (5, .int (nI d_v))]) X dX5_yellowBy_64 6 rfl (nI_inc (d_v + j_v) 1) (by decide) rfl ?_
                  refine z_goto (tgt := 25) X dX5_yellowBy_67 (by decide) ?_
                  refine z_ls (L' := [(0, .ref (b 0)), (1, .int (nI k)), (2, .int (nI S)), (3, .int (nI ((yi (zbt S d_v) (yM D (Lf kd st k) S d_v) d_v j_v) ||| 0))), (4, .int (nI (Lf kd st k))), (5, .int (nI d_v)), (6, .int (nI (d_v + j_v + 1)))]) [2, 3, 4, 1, 5, 6, 0] rfl ?_
                  have e9 : (nI ((yi (zbt S d_v) (yM D (Lf kd st k) S d_v) d_v j_v) ||| 0)) = (nI (yi (zbt S d_v) (yM D (Lf kd st k) S d_v) d_v (j_v + 1))) := by first | rfl | exact congrArg nI (by omega) | simp [yi, hq2, hq4, hq6, hq8]
                  have e10 : (nI (d_v + j_v + 1)) = (nI (d_v + (j_v + 1))) := by first | rfl | exact congrArg nI (by omega) | simp [yi, hq2, hq4, hq6, hq8]
                  refine z_Le (L' := [(0, .ref (b 0)), (1, .int (nI k)), (2, .int (nI S)), (3, .int (nI (yi (zbt S d_v) (yM D (Lf kd st k) S d_v) d_v (j_v + 1)))), (4, .int (nI (Lf kd st k))), (5, .int (nI d_v)), (6, .int (nI (d_v + (j_v + 1))))]) (by rw [← e9, ← e10]) ?_
                  exact ih3 (j_v + 1) (by omega) (by omega) (by omega) (by omega)
                ·
                  refine z_iconst (v := nI 1) X dX5_yellowBy_54 (by decide) ?_
                  refine z_iload X dX5_yellowBy_55 6 rfl ?_
                  refine z_ishl' (v := nI (2 ^ (d_v + j_v))) X dX5_yellowBy_57 (nI_shl1 (by omega)) ?_
                  refine z_goto (tgt := 62) X dX5_yellowBy_58 (by decide) ?_
                  refine z_ior' (v := nI ((yi (zbt S d_v) (yM D (Lf kd st k) S d_v) d_v j_v) ||| (2 ^ (d_v + j_v)))) X dX5_yellowBy_62 (fa_or _ _) ?_
                  refine z_istore_n (L' := [(3, .int (nI ((yi (zbt S d_v) (yM D (Lf kd st k) S d_v) d_v j_v) ||| (2 ^ (d_v + j_v))))), (0, .ref (b 0)), (1, .int (nI k)), (2, .int (nI S)), (4, .int (nI (Lf kd st k))), (5, .int (nI d_v)), (6, .int (nI (d_v + j_v)))]) X dX5_yellowBy_63 rfl (by decide) rfl ?_
                  refine z_iinc (v := nI (d_v + j_v + 1)) (L' := [(6, .int (nI (d_v + j_v + 1))), (3, .int (nI ((yi (zbt S d_v) (yM D (Lf kd st k) S d_v) d_v j_v) ||| (2 ^ (d_v + j_v))))), (0, .ref (b 0)), (1, .int (nI k)), (2, .int (nI S)), (4, .int (nI (Lf kd st k))), (5, .int (nI d_v))]) X dX5_yellowBy_64 6 rfl (nI_inc (d_v + j_v) 1) (by decide) rfl ?_
                  refine z_goto (tgt := 25) X dX5_yellowBy_67 (by decide) ?_
                  refine z_ls (L' := [(0, .ref (b 0)), (1, .int (nI k)), (2, .int (nI S)), (3, .int (nI ((yi (zbt S d_v) (yM D (Lf kd st k) S d_v) d_v j_v) ||| (2 ^ (d_v + j_v))))), (4, .int (nI (Lf kd st k))), (5, .int (nI d_v)), (6, .int (nI (d_v + j_v + 1)))]) [2, 3, 4, 1, 5, 6, 0] rfl ?_
                  have e11 : (nI ((yi (zbt S d_v) (yM D (Lf kd st k) S d_v) d_v j_v) ||| (2 ^ (d_v + j_v)))) = (nI (yi (zbt S d_v) (yM D (Lf kd st k) S d_v) d_v (j_v + 1))) := by first | rfl | exact congrArg nI (by omega) | simp [yi, hq2, hq4, hq6, hq8]
                  have e12 : (nI (d_v + j_v + 1)) = (nI (d_v + (j_v + 1))) := by first | rfl | exact congrArg nI (by omega) | simp [yi, hq2, hq4, hq6, hq8]
                  refine z_Le (L' := [(0, .ref (b 0)), (1, .int (nI k)), (2, .int (nI S)), (3, .int (nI (yi (zbt S d_v) (yM D (Lf kd st k) S d_v) d_v (j_v + 1)))), (4, .int (nI (Lf kd st k))), (5, .int (nI d_v)), (6, .int (nI (d_v + (j_v + 1))))]) (by rw [← e11, ← e12]) ?_
                  exact ih3 (j_v + 1) (by omega) (by omega) (by omega) (by omega)
        refine z_ls (L' := [(0, .ref (b 0)), (1, .int (nI k)), (2, .int (nI S)), (3, .int (nI (yM D (Lf kd st k) S d_v))), (4, .int (nI (Lf kd st k))), (5, .int (nI d_v)), (6, .int (nI d_v))]) [1, 2, 3, 4, 5, 6, 0] rfl ?_
        have e13 : (nI (yM D (Lf kd st k) S d_v)) = (nI (yi (zbt S d_v) (yM D (Lf kd st k) S d_v) d_v 0)) := by first | rfl | exact congrArg nI (by omega) | simp [yi, hq2]
        have e14 : (nI d_v) = (nI (d_v + 0)) := by first | rfl | exact congrArg nI (by omega) | simp [yi, hq2]
        refine z_Le (L' := [(0, .ref (b 0)), (1, .int (nI k)), (2, .int (nI S)), (3, .int (nI (yi (zbt S d_v) (yM D (Lf kd st k) S d_v) d_v 0))), (4, .int (nI (Lf kd st k))), (5, .int (nI d_v)), (6, .int (nI (d_v + 0)))]) (by rw [← e13, ← e14]) ?_
        exact loopv3 (6 + 1) 0 (by omega) (by omega) (by omega) (by omega)
  refine z_ls (L' := [(0, .ref (b 0)), (1, .int (nI k)), (2, .int (nI S)), (3, .int (nI 0)), (4, .int (nI (Lf kd st k))), (5, .int (nI 0))]) [3, 4, 5, 2, 1, 0] rfl ?_
  have e15 : (nI 0) = (nI (yM D (Lf kd st k) S 0)) := by first | rfl | exact congrArg nI (yi_fin (by omega) (by omega) (by omega))
  refine z_Le (L' := [(0, .ref (b 0)), (1, .int (nI k)), (2, .int (nI S)), (3, .int (nI (yM D (Lf kd st k) S 0))), (4, .int (nI (Lf kd st k))), (5, .int (nI 0))]) (by rw [← e15]) ?_
  exact loopv1 (D + 1) 0 (by omega) (by omega)
abbrev rX5_foundBy : Room := { frames := 2, cells := 0, slots := 0, locals := 48 }
set_option maxHeartbeats 4000000 in
set_option maxRecDepth 100000 in
theorem c_X5_foundBy (l : Launch) (g : zg) (b : Nat → Nat) (ft : Int32) (so : Int32) (D : Nat) (E : Nat) (tr : Int32) (C : Nat) (lk : Nat → Int32) (kd : Nat → Int32) (st : Nat → Int32) (sp : Nat → Int32) (nd : Nat → Int32) (rO : Nat → Int32) (rB : Nat → Int32) (rD : Nat → Int32) (rW : Nat → Int32) (sz : Nat → Int32) (sl : Nat → Int32) (sc : Nat → Int32) (sm : Int32) (xa : Nat) (xb : Int32) (xc : Nat) (xd : Nat) (y1 : Nat → Int32) (y2 : Nat → Int32) (y3 : Nat → Int32) (y4 : Nat → Int32) (y5 : Nat → Int32) (hn : Nat → Int32) (k : Nat) (S : Nat) (hk : k < E) (hE : E ≤ 4) (hD : D ≤ 6) (hL : vL kd st E) (hS : S < 2 ^ D) : zM l g yX5_foundBy wsX5_foundBy rX5_foundBy [.ref (b 0), .int (nI k), .int (nI S)] (wM g b ft so D E tr C lk kd st sp nd rO rB rD rW sz sl sc sm xa xb xc xd y1 y2 y3 y4 y5 hn) (some (.int (nI (fnd D (Lf kd st k) S (fsm lk so sm D))))) (wM g b ft so D E tr C lk kd st sp nd rO rB rD rW sz sl sc sm xa xb xc xd y1 y2 y3 y4 y5 hn) := by
  refine z_met (own := RX5) (cc := cX5_foundBy) (maxL := 3) (ret := some .int) (by decide +kernel) rfl rfl (Nat.le_of_ble_eq_true rfl) ?_
  intro M X ZF
  refine z_Le (L' := [(0, .ref (b 0)), (1, .int (nI k)), (2, .int (nI S))]) rfl ?_
  refine z_aload_n X dX5_foundBy_0 rfl 0 rfl ?_
  refine z_iload_n X dX5_foundBy_1 rfl 1 rfl ?_
  refine z_iload_n X dX5_foundBy_2 rfl 2 rfl ?_
  refine z_callVM X (c_X5_yellowBy l g b ft so D E tr C lk kd st sp nd rO rB rD rW sz sl sc sm xa xb xc xd y1 y2 y3 y4 y5 hn k S (by omega) (by omega) (by omega) (by first | assumption | omega) (by omega)) gX5_foundBy_X5_yellowBy rfl ⟨rfl, rfl⟩ (by decide +kernel) ⟨Nat.le_of_ble_eq_true rfl, Nat.le_of_ble_eq_true rfl⟩ ZF.room (ci := 4) rfl 0 rfl rfl (As := [.int (nI k), .int (nI S)]) (n := 2) rfl rfl (st1 := [.int (nI (yl D (Lf kd st k) S))]) rfl (Nat.le_of_ble_eq_true rfl) dX5_foundBy_3 ?_
  refine z_aload_n X dX5_foundBy_6 rfl 0 rfl ?_
  refine z_callVM X (c_X5_fastsNow l g b ft so D E tr C lk kd st sp nd rO rB rD rW sz sl sc sm xa xb xc xd y1 y2 y3 y4 y5 hn (by omega)) gX5_foundBy_X5_fastsNow rfl ⟨rfl, rfl⟩ (by decide +kernel) ⟨Nat.le_of_ble_eq_true rfl, Nat.le_of_ble_eq_true rfl⟩ ZF.room (ci := 4) rfl 0 rfl rfl (As := []) (n := 0) rfl rfl (st1 := [.int (nI (fsm lk so sm D)), .int (nI (yl D (Lf kd st k) S))]) rfl (Nat.le_of_ble_eq_true rfl) dX5_foundBy_7 ?_
  refine z_iand' (v := nI ((yl D (Lf kd st k) S) &&& (fsm lk so sm D))) X dX5_foundBy_10 (fa_and _ _) ?_
  exact z_iret X ZF dX5_foundBy_11 (by rfl) rfl
abbrev rX5_fineOf : Room := { frames := 3, cells := 0, slots := 0, locals := 70 }
set_option maxHeartbeats 4000000 in
set_option maxRecDepth 100000 in
theorem c_X5_fineOf (l : Launch) (g : zg) (b : Nat → Nat) (ft : Int32) (so : Int32) (D : Nat) (E : Nat) (tr : Int32) (C : Nat) (lk : Nat → Int32) (kd : Nat → Int32) (st : Nat → Int32) (sp : Nat → Int32) (nd : Nat → Int32) (rO : Nat → Int32) (rB : Nat → Int32) (rD : Nat → Int32) (rW : Nat → Int32) (sz : Nat → Int32) (sl : Nat → Int32) (sc : Nat → Int32) (sm : Int32) (xa : Nat) (xb : Int32) (xc : Nat) (xd : Nat) (y1 : Nat → Int32) (y2 : Nat → Int32) (y3 : Nat → Int32) (y4 : Nat → Int32) (y5 : Nat → Int32) (hn : Nat → Int32) (k : Nat) (S : Nat) (hk : k < E) (hE : E ≤ 4) (hD : D ≤ 6) (hL : vL kd st E) (hSp : vS sp E) (hS : S < 2 ^ D) : zM l g yX5_fineOf wsX5_fineOf rX5_fineOf [.ref (b 0), .int (nI k), .int (nI S)] (wM g b ft so D E tr C lk kd st sp nd rO rB rD rW sz sl sc sm xa xb xc xd y1 y2 y3 y4 y5 hn) (some (.int (nI (tn (sp k) * pc (fnd D (Lf kd st k) S (fsm lk so sm D)))))) (wM g b ft so D E tr C lk kd st sp nd rO rB rD rW sz sl sc sm xa xb xc xd y1 y2 y3 y4 y5 hn) := by
  refine z_met (own := RX5) (cc := cX5_fineOf) (maxL := 3) (ret := some .int) (by decide +kernel) rfl rfl (Nat.le_of_ble_eq_true rfl) ?_
  intro M X ZF
  refine z_Le (L' := [(0, .ref (b 0)), (1, .int (nI k)), (2, .int (nI S))]) rfl ?_
  have i_RX5 : ∀ w ∈ wsX50, w ∈ wsX5_fineOf := by decide +kernel
  have f_19 : Cond.fieldLink RX5 19 (TX5 7).1 (TX5 7).2.1 (TX5 7).2.2.1 ∈ wsX5_fineOf := by decide +kernel
  refine z_aload_n X dX5_fineOf_0 rfl 0 rfl ?_
  refine z_get (v := .ref (b 4)) (N := 29) X i_RX5 (ci := 4) rfl 0 rfl 7 (by decide) f_19 rfl dX5_fineOf_1 ?_
  refine z_iload_n X dX5_fineOf_4 rfl 1 rfl ?_
  refine z_ialdN X 4 rfl (by omega) (by omega) dX5_fineOf_5 ?_
  refine z_top (y := nI (tn (sp k))) (hSp _ (by omega)).1 ?_
  refine z_aload_n X dX5_fineOf_6 rfl 0 rfl ?_
  refine z_iload_n X dX5_fineOf_7 rfl 1 rfl ?_
  refine z_iload_n X dX5_fineOf_8 rfl 2 rfl ?_
  refine z_callVM X (c_X5_foundBy l g b ft so D E tr C lk kd st sp nd rO rB rD rW sz sl sc sm xa xb xc xd y1 y2 y3 y4 y5 hn k S (by omega) (by omega) (by omega) (by first | assumption | omega) (by omega)) gX5_fineOf_X5_foundBy rfl ⟨rfl, rfl⟩ (by decide +kernel) ⟨Nat.le_of_ble_eq_true rfl, Nat.le_of_ble_eq_true rfl⟩ ZF.room (ci := 4) rfl 0 rfl rfl (As := [.int (nI k), .int (nI S)]) (n := 2) rfl rfl (st1 := [.int (nI (fnd D (Lf kd st k) S (fsm lk so sm D))), .int (nI (tn (sp k)))]) rfl (Nat.le_of_ble_eq_true rfl) dX5_fineOf_9 ?_
  refine z_callS0 X (c_X5_bits l g (fnd D (Lf kd st k) S (fsm lk so sm D)) (fnd_lt hD)) gX5_fineOf_X5_bits rfl ⟨rfl, rfl⟩ (by decide +kernel) ⟨Nat.le_of_ble_eq_true rfl, Nat.le_of_ble_eq_true rfl⟩ ZF.room (As := [.int (nI (fnd D (Lf kd st k) S (fsm lk so sm D)))]) (n := 1) rfl rfl (st1 := [.int (nI (pc (fnd D (Lf kd st k) S (fsm lk so sm D)))), .int (nI (tn (sp k)))]) rfl (Nat.le_of_ble_eq_true rfl) dX5_fineOf_12 ?_
  refine z_imul' (v := nI ((tn (sp k)) * (pc (fnd D (Lf kd st k) S (fsm lk so sm D))))) X dX5_fineOf_15 (pk_mul _ _) ?_
  exact z_iret X ZF dX5_fineOf_16 rfl rfl
abbrev rX5_bestOf : Room := { frames := 4, cells := 0, slots := 0, locals := 92 }
set_option maxHeartbeats 4000000 in
set_option maxRecDepth 100000 in
theorem c_X5_bestOf (l : Launch) (g : zg) (b : Nat → Nat) (ft : Int32) (so : Int32) (D : Nat) (E : Nat) (tr : Int32) (C : Nat) (lk : Nat → Int32) (kd : Nat → Int32) (st : Nat → Int32) (sp : Nat → Int32) (nd : Nat → Int32) (rO : Nat → Int32) (rB : Nat → Int32) (rD : Nat → Int32) (rW : Nat → Int32) (sz : Nat → Int32) (sl : Nat → Int32) (sc : Nat → Int32) (sm : Int32) (xa : Nat) (xb : Int32) (xc : Nat) (xd : Nat) (y1 : Nat → Int32) (y2 : Nat → Int32) (y3 : Nat → Int32) (y4 : Nat → Int32) (y5 : Nat → Int32) (hn : Nat → Int32) (k : Nat) (hk : k < E) (hE : E ≤ 4) (hD : D ≤ 6) (hL : vL kd st E) (hSp : vS sp E) : zM l g yX5_bestOf wsX5_bestOf rX5_bestOf [.ref (b 0), .int (nI k)] (wM g b ft so D E tr C lk kd st sp nd rO rB rD rW sz sl sc sm xa xb xc xd y1 y2 y3 y4 y5 hn) (some (.int (obI (bst D (Lf kd st k) (nd k) (fsm lk so sm D))))) (wM g b ft so D E tr C lk kd st sp nd rO rB rD rW sz sl sc sm xa xb xc xd y1 y2 y3 y4 y5 hn) := by
  refine z_met (own := RX5) (cc := cX5_bestOf) (maxL := 6) (ret := some .int) (by decide +kernel) rfl rfl (Nat.le_of_ble_eq_true rfl) ?_
  intro M X ZF
  refine z_Le (L' := [(0, .ref (b 0)), (1, .int (nI k))]) rfl ?_
  have hpD : 2 ^ D ≤ 2 ^ 6 := Nat.pow_le_pow_right (by omega) hD
  have hpD1 : 1 ≤ 2 ^ D := Nat.one_le_two_pow
  have hSk := hSp k hk
  have i_RX5 : ∀ w ∈ wsX50, w ∈ wsX5_bestOf := by decide +kernel
  have f_78 : Cond.fieldLink RX5 78 (TX5 2).1 (TX5 2).2.1 (TX5 2).2.2.1 ∈ wsX5_bestOf := by decide +kernel
  have f_22 : Cond.fieldLink RX5 22 (TX5 8).1 (TX5 8).2.1 (TX5 8).2.2.1 ∈ wsX5_bestOf := by decide +kernel
  refine z_bipush (v := (-9)) X dX5_bestOf_0 (by decide) ?_
  refine z_istore_n (L' := [(2, .int (-9)), (0, .ref (b 0)), (1, .int (nI k))]) X dX5_bestOf_2 rfl (by decide) rfl ?_
  refine z_iconst (v := nI 0) X dX5_bestOf_3 (by decide) ?_
  refine z_istore_n (L' := [(3, .int (nI 0)), (2, .int (-9)), (0, .ref (b 0)), (1, .int (nI k))]) X dX5_bestOf_4 rfl (by decide) rfl ?_
  have loopv1 : ∀ (n1 S_v : Nat), S_v ≤ 2 ^ D → 2 ^ D + 1 ≤ S_v + n1 → zG l g 6 M (wM g b ft so D E tr C lk kd st sp nd rO rB rD rW sz sl sc sm xa xb xc xd y1 y2 y3 y4 y5 hn) [(0, .ref (b 0)), (1, .int (nI k)), (2, .int (obI (bsF D (Lf kd st k) (nd k) (fsm lk so sm D) S_v))), (3, .int (nI S_v))] 5 [] := by
    intro n1
    induction n1 with
    | zero => intro S_v h1 h2; exact absurd h2 (by omega)
    | succ n1 ih1 =>
      intro S_v hi1 hn1
      have hfo := pc_le (fnd D (Lf kd st k) S_v (fsm lk so sm D))
      have hqs := pc_le S_v
      refine z_iload_n X dX5_bestOf_5 rfl 3 rfl ?_
      refine z_iconst (v := nI 1) X dX5_bestOf_6 (by decide) ?_
      refine z_aload_n X dX5_bestOf_7 rfl 0 rfl ?_
      refine z_get (v := .int (nI D)) (N := 29) X i_RX5 (ci := 4) rfl 0 rfl 2 (by decide) f_78 rfl dX5_bestOf_8 ?_
      refine z_ishl' (v := nI (2 ^ D)) X dX5_bestOf_11 (nI_shl1 (by omega)) ?_
      refine z_icmp_geN (tgt := 99) X dX5_bestOf_12 (by decide) (by omega) (by omega) (fun hq2 => ?_) (fun hq2 => ?_)
      ·
        refine z_iload_n X dX5_bestOf_99 rfl 2 rfl ?_
        exact z_iret X ZF dX5_bestOf_100 (by rw [show S_v = 2 ^ D by omega]; rfl) rfl
      ·
        rcases hbv : bsF D (Lf kd st k) (nd k) (fsm lk so sm D) S_v with _ | ⟨b_v, m_v⟩
        ·
          refine z_Le (L' := [(0, .ref (b 0)), (1, .int (nI k)), (2, .int (-9)), (3, .int (nI S_v))]) rfl ?_
          refine z_iload_n X dX5_bestOf_15 rfl 3 rfl ?_
          refine z_callS0 X (c_X5_bits l g S_v (by omega)) gX5_bestOf_X5_bits rfl ⟨rfl, rfl⟩ (by decide +kernel) ⟨Nat.le_of_ble_eq_true rfl, Nat.le_of_ble_eq_true rfl⟩ ZF.room (As := [.int (nI S_v)]) (n := 1) rfl rfl (st1 := [.int (nI (pc S_v))]) rfl (Nat.le_of_ble_eq_true rfl) dX5_bestOf_16 ?_
          refine z_aload_n X dX5_bestOf_19 rfl 0 rfl ?_
          refine z_get (v := .ref (b 5)) (N := 29) X i_RX5 (ci := 4) rfl 0 rfl 8 (by decide) f_22 rfl dX5_bestOf_20 ?_
          refine z_iload_n X dX5_bestOf_23 rfl 1 rfl ?_
          refine z_ialdN X 5 rfl (by omega) (by omega) dX5_bestOf_24 ?_
          refine z_icmp_lt (tgt := 32) X dX5_bestOf_25 (by decide) (fun hq3 => ?_) (fun hq3 => ?_)
          ·
            refine z_iconst (v := nI 0) X dX5_bestOf_32 (by decide) ?_
            refine z_istore (L' := [(4, .int (nI 0)), (0, .ref (b 0)), (1, .int (nI k)), (2, .int (-9)), (3, .int (nI S_v))]) X dX5_bestOf_33 (by decide) rfl ?_
            refine z_iload X dX5_bestOf_35 0 rfl ?_
            refine z_if_eqN (tgt := 46) X dX5_bestOf_37 (by decide) (by omega) (fun hq4 => ?_) (fun hq4 => ?_)
            ·
              refine z_iload X dX5_bestOf_46 0 rfl ?_
              refine z_if_eqN (tgt := 93) X dX5_bestOf_48 (by decide) (by omega) (fun hq5 => ?_) (fun hq5 => ?_)
              ·
                refine z_iinc (v := nI (S_v + 1)) (L' := [(3, .int (nI (S_v + 1))), (4, .int (nI 0)), (0, .ref (b 0)), (1, .int (nI k)), (2, .int (-9))]) X dX5_bestOf_93 4 rfl (nI_inc S_v 1) (by decide) rfl ?_
                refine z_goto (tgt := 5) X dX5_bestOf_96 (by decide) ?_
                refine z_ls (L' := [(0, .ref (b 0)), (1, .int (nI k)), (2, .int (-9)), (3, .int (nI (S_v + 1)))]) [2, 3, 4, 0] rfl ?_
                have e6 : (-9) = (obI (bsF D (Lf kd st k) (nd k) (fsm lk so sm D) (S_v + 1))) := by first | rfl | (simp [bsF, obI, isb, hq2, hbv, hq3, hq4, hq5]; done)
                refine z_Le (L' := [(0, .ref (b 0)), (1, .int (nI k)), (2, .int (obI (bsF D (Lf kd st k) (nd k) (fsm lk so sm D) (S_v + 1)))), (3, .int (nI (S_v + 1)))]) (by rw [← e6]) ?_
                exact ih1 (S_v + 1) (by omega) (by omega)
              ·
                exact absurd hq5 (by decide)
            ·
              exact absurd hq4 (by decide)
          ·
            refine z_iconst (v := nI 1) X dX5_bestOf_28 (by decide) ?_
            refine z_goto (tgt := 33) X dX5_bestOf_29 (by decide) ?_
            refine z_istore (L' := [(4, .int (nI 1)), (0, .ref (b 0)), (1, .int (nI k)), (2, .int (-9)), (3, .int (nI S_v))]) X dX5_bestOf_33 (by decide) rfl ?_
            refine z_iload X dX5_bestOf_35 0 rfl ?_
            refine z_if_eqN (tgt := 46) X dX5_bestOf_37 (by decide) (by omega) (fun hq7 => ?_) (fun hq7 => ?_)
            ·
              exact absurd hq7 (by decide)
            ·
              refine z_iload_n X dX5_bestOf_40 rfl 3 rfl ?_
              refine z_if_ge (tgt := 46) X dX5_bestOf_41 (by decide) (fun hq8 => ?_) (fun hq8 => ?_)
              ·
                exact absurd hq8 (by decide)
              ·
                refine z_iload_n X dX5_bestOf_44 rfl 4 rfl ?_
                refine z_istore_n (L' := [(2, .int (nI S_v)), (4, .int (nI 1)), (0, .ref (b 0)), (1, .int (nI k)), (3, .int (nI S_v))]) X dX5_bestOf_45 rfl (by decide) rfl ?_
                refine z_iload X dX5_bestOf_46 1 rfl ?_
                refine z_if_eqN (tgt := 93) X dX5_bestOf_48 (by decide) (by omega) (fun hq9 => ?_) (fun hq9 => ?_)
                ·
                  exact absurd hq9 (by decide)
                ·
                  refine z_aload_n X dX5_bestOf_51 rfl 2 rfl ?_
                  refine z_iload_n X dX5_bestOf_52 rfl 3 rfl ?_
                  refine z_iload_n X dX5_bestOf_53 rfl 0 rfl ?_
                  refine z_callVM X (c_X5_fineOf l g b ft so D E tr C lk kd st sp nd rO rB rD rW sz sl sc sm xa xb xc xd y1 y2 y3 y4 y5 hn k S_v (by omega) (by omega) (by omega) (by first | assumption | omega) (by first | assumption | omega) (by omega)) gX5_bestOf_X5_fineOf rfl ⟨rfl, rfl⟩ (by decide +kernel) ⟨Nat.le_of_ble_eq_true rfl, Nat.le_of_ble_eq_true rfl⟩ ZF.room (ci := 4) rfl 0 rfl rfl (As := [.int (nI k), .int (nI S_v)]) (n := 2) rfl rfl (st1 := [.int (nI (tn (sp k) * pc (fnd D (Lf kd st k) S_v (fsm lk so sm D))))]) rfl (Nat.le_of_ble_eq_true rfl) dX5_bestOf_54 ?_
                  refine z_aload_n X dX5_bestOf_57 rfl 2 rfl ?_
                  refine z_iload_n X dX5_bestOf_58 rfl 3 rfl ?_
                  refine z_iload_n X dX5_bestOf_59 rfl 4 rfl ?_
                  refine z_callVM X (c_X5_fineOf l g b ft so D E tr C lk kd st sp nd rO rB rD rW sz sl sc sm xa xb xc xd y1 y2 y3 y4 y5 hn k S_v (by omega) (by omega) (by omega) (by first | assumption | omega) (by first | assumption | omega) (by omega)) gX5_bestOf_X5_fineOf rfl ⟨rfl, rfl⟩ (by decide +kernel) ⟨Nat.le_of_ble_eq_true rfl, Nat.le_of_ble_eq_true rfl⟩ ZF.room (ci := 4) rfl 0 rfl rfl (As := [.int (nI k), .int (nI S_v)]) (n := 2) rfl rfl (st1 := [.int (nI (tn (sp k) * pc (fnd D (Lf kd st k) S_v (fsm lk so sm D)))), .int (nI (tn (sp k) * pc (fnd D (Lf kd st k) S_v (fsm lk so sm D))))]) rfl (Nat.le_of_ble_eq_true rfl) dX5_bestOf_60 ?_
                  refine z_isub X dX5_bestOf_63 ?_
                  refine z_istore (L' := [(5, .int ((nI (tn (sp k) * pc (fnd D (Lf kd st k) S_v (fsm lk so sm D)))) - (nI (tn (sp k) * pc (fnd D (Lf kd st k) S_v (fsm lk so sm D)))))), (2, .int (nI S_v)), (4, .int (nI 1)), (0, .ref (b 0)), (1, .int (nI k)), (3, .int (nI S_v))]) X dX5_bestOf_64 (by decide) rfl ?_
                  refine z_iload X dX5_bestOf_66 0 rfl ?_
                  refine z_if_gt (tgt := 87) X dX5_bestOf_68 (by decide) (fun hq10 => ?_) (fun hq10 => ?_)
                  ·
                    have hlp0 : (pc (fnd D (Lf kd st k) S_v (fsm lk so sm D))) < (pc (fnd D (Lf kd st k) S_v (fsm lk so sm D))) := (less_pos _ (by omega) (pc (fnd D (Lf kd st k) S_v (fsm lk so sm D))) (by omega) (pc (fnd D (Lf kd st k) S_v (fsm lk so sm D))) (by omega) hSk.2.2).mp hq10
                    exact absurd hlp0 (by omega)
                  ·
                    have hlp1 : ¬ ((pc (fnd D (Lf kd st k) S_v (fsm lk so sm D))) < (pc (fnd D (Lf kd st k) S_v (fsm lk so sm D)))) := fun z => hq10 ((less_pos _ (by omega) (pc (fnd D (Lf kd st k) S_v (fsm lk so sm D))) (by omega) (pc (fnd D (Lf kd st k) S_v (fsm lk so sm D))) (by omega) hSk.2.2).mpr z)
                    refine z_iload X dX5_bestOf_71 0 rfl ?_
                    refine z_if_ne (tgt := 91) X dX5_bestOf_73 (by decide) (fun hq11 => ?_) (fun hq11 => ?_)
                    ·
                      have hlp3 : ¬ ((pc (fnd D (Lf kd st k) S_v (fsm lk so sm D))) = (pc (fnd D (Lf kd st k) S_v (fsm lk so sm D)))) := fun z => hq11 ((less_zero _ (by omega) (pc (fnd D (Lf kd st k) S_v (fsm lk so sm D))) (by omega) (pc (fnd D (Lf kd st k) S_v (fsm lk so sm D))) (by omega) hSk.2.2).mpr z)
                      exact absurd rfl hlp3
                    ·
                      have hlp2 : (pc (fnd D (Lf kd st k) S_v (fsm lk so sm D))) = (pc (fnd D (Lf kd st k) S_v (fsm lk so sm D))) := (less_zero _ (by omega) (pc (fnd D (Lf kd st k) S_v (fsm lk so sm D))) (by omega) (pc (fnd D (Lf kd st k) S_v (fsm lk so sm D))) (by omega) hSk.2.2).mp hq11
                      refine z_iload_n X dX5_bestOf_76 rfl 5 rfl ?_
                      refine z_callS0 X (c_X5_bits l g S_v (by omega)) gX5_bestOf_X5_bits rfl ⟨rfl, rfl⟩ (by decide +kernel) ⟨Nat.le_of_ble_eq_true rfl, Nat.le_of_ble_eq_true rfl⟩ ZF.room (As := [.int (nI S_v)]) (n := 1) rfl rfl (st1 := [.int (nI (pc S_v))]) rfl (Nat.le_of_ble_eq_true rfl) dX5_bestOf_77 ?_
                      refine z_iload_n X dX5_bestOf_80 rfl 1 rfl ?_
                      refine z_callS0 X (c_X5_bits l g S_v (by omega)) gX5_bestOf_X5_bits rfl ⟨rfl, rfl⟩ (by decide +kernel) ⟨Nat.le_of_ble_eq_true rfl, Nat.le_of_ble_eq_true rfl⟩ ZF.room (As := [.int (nI S_v)]) (n := 1) rfl rfl (st1 := [.int (nI (pc S_v)), .int (nI (pc S_v))]) rfl (Nat.le_of_ble_eq_true rfl) dX5_bestOf_81 ?_
                      refine z_icmp_geN (tgt := 91) X dX5_bestOf_84 (by decide) (by omega) (by omega) (fun hq12 => ?_) (fun hq12 => ?_)
                      ·
                        refine z_iload_n X dX5_bestOf_91 rfl 1 rfl ?_
                        refine z_istore_n (L' := [(2, .int (nI S_v)), (5, .int ((nI (tn (sp k) * pc (fnd D (Lf kd st k) S_v (fsm lk so sm D)))) - (nI (tn (sp k) * pc (fnd D (Lf kd st k) S_v (fsm lk so sm D)))))), (4, .int (nI 1)), (0, .ref (b 0)), (1, .int (nI k)), (3, .int (nI S_v))]) X dX5_bestOf_92 rfl (by decide) rfl ?_
                        refine z_iinc (v := nI (S_v + 1)) (L' := [(3, .int (nI (S_v + 1))), (2, .int (nI S_v)), (5, .int ((nI (tn (sp k) * pc (fnd D (Lf kd st k) S_v (fsm lk so sm D)))) - (nI (tn (sp k) * pc (fnd D (Lf kd st k) S_v (fsm lk so sm D)))))), (4, .int (nI 1)), (0, .ref (b 0)), (1, .int (nI k))]) X dX5_bestOf_93 5 rfl (nI_inc S_v 1) (by decide) rfl ?_
                        refine z_goto (tgt := 5) X dX5_bestOf_96 (by decide) ?_
                        refine z_ls (L' := [(0, .ref (b 0)), (1, .int (nI k)), (2, .int (nI S_v)), (3, .int (nI (S_v + 1)))]) [4, 5, 1, 0] rfl ?_
                        have e13 : (nI S_v) = (obI (bsF D (Lf kd st k) (nd k) (fsm lk so sm D) (S_v + 1))) := by first | rfl | (simp [bsF, obI, isb, hq2, hbv, hq3, hq7, hq8, hq9, hq10, hlp1, hq11, hlp2, hq12]; done) | (simp [bsF, obI, isb_f2 hlp1 hq12, hq2, hbv, hq3, hq7, hq8, hq9, hq10, hq11, hq12]; done)
                        refine z_Le (L' := [(0, .ref (b 0)), (1, .int (nI k)), (2, .int (obI (bsF D (Lf kd st k) (nd k) (fsm lk so sm D) (S_v + 1)))), (3, .int (nI (S_v + 1)))]) (by rw [← e13]) ?_
                        exact ih1 (S_v + 1) (by omega) (by omega)
                      ·
                        exact absurd hq12 (by omega)
        ·
          obtain ⟨hbl1, hbl2, hbl3⟩ := bsF_lt _ hbv
          subst hbl3
          have hqb := pc_le b_v
          refine z_Le (L' := [(0, .ref (b 0)), (1, .int (nI k)), (2, .int (nI b_v)), (3, .int (nI S_v))]) rfl ?_
          refine z_iload_n X dX5_bestOf_15 rfl 3 rfl ?_
          refine z_callS0 X (c_X5_bits l g S_v (by omega)) gX5_bestOf_X5_bits rfl ⟨rfl, rfl⟩ (by decide +kernel) ⟨Nat.le_of_ble_eq_true rfl, Nat.le_of_ble_eq_true rfl⟩ ZF.room (As := [.int (nI S_v)]) (n := 1) rfl rfl (st1 := [.int (nI (pc S_v))]) rfl (Nat.le_of_ble_eq_true rfl) dX5_bestOf_16 ?_
          refine z_aload_n X dX5_bestOf_19 rfl 0 rfl ?_
          refine z_get (v := .ref (b 5)) (N := 29) X i_RX5 (ci := 4) rfl 0 rfl 8 (by decide) f_22 rfl dX5_bestOf_20 ?_
          refine z_iload_n X dX5_bestOf_23 rfl 1 rfl ?_
          refine z_ialdN X 5 rfl (by omega) (by omega) dX5_bestOf_24 ?_
          refine z_icmp_lt (tgt := 32) X dX5_bestOf_25 (by decide) (fun hq14 => ?_) (fun hq14 => ?_)
          ·
            refine z_iconst (v := nI 0) X dX5_bestOf_32 (by decide) ?_
            refine z_istore (L' := [(4, .int (nI 0)), (0, .ref (b 0)), (1, .int (nI k)), (2, .int (nI b_v)), (3, .int (nI S_v))]) X dX5_bestOf_33 (by decide) rfl ?_
            refine z_iload X dX5_bestOf_35 0 rfl ?_
            refine z_if_eqN (tgt := 46) X dX5_bestOf_37 (by decide) (by omega) (fun hq15 => ?_) (fun hq15 => ?_)
            ·
              refine z_iload X dX5_bestOf_46 0 rfl ?_
              refine z_if_eqN (tgt := 93) X dX5_bestOf_48 (by decide) (by omega) (fun hq16 => ?_) (fun hq16 => ?_)
              ·
                refine z_iinc (v := nI (S_v + 1)) (L' := [(3, .int (nI (S_v + 1))), (4, .int (nI 0)), (0, .ref (b 0)), (1, .int (nI k)), (2, .int (nI b_v))]) X dX5_bestOf_93 4 rfl (nI_inc S_v 1) (by decide) rfl ?_
                refine z_goto (tgt := 5) X dX5_bestOf_96 (by decide) ?_
                refine z_ls (L' := [(0, .ref (b 0)), (1, .int (nI k)), (2, .int (nI b_v)), (3, .int (nI (S_v + 1)))]) [2, 3, 4, 0] rfl ?_
                have e17 : (nI b_v) = (obI (bsF D (Lf kd st k) (nd k) (fsm lk so sm D) (S_v + 1))) := by first | rfl | (simp [bsF, obI, isb, hq2, hbv, hq14, hq15, hq16]; done)
                refine z_Le (L' := [(0, .ref (b 0)), (1, .int (nI k)), (2, .int (obI (bsF D (Lf kd st k) (nd k) (fsm lk so sm D) (S_v + 1)))), (3, .int (nI (S_v + 1)))]) (by rw [← e17]) ?_
                exact ih1 (S_v + 1) (by omega) (by omega)
              ·
                exact absurd hq16 (by decide)
            ·
              exact absurd hq15 (by decide)
          ·
            refine z_iconst (v := nI 1) X dX5_bestOf_28 (by decide) ?_
            refine z_goto (tgt := 33) X dX5_bestOf_29 (by decide) ?_
            refine z_istore (L' := [(4, .int (nI 1)), (0, .ref (b 0)), (1, .int (nI k)), (2, .int (nI b_v)), (3, .int (nI S_v))]) X dX5_bestOf_33 (by decide) rfl ?_
            refine z_iload X dX5_bestOf_35 0 rfl ?_
            refine z_if_eqN (tgt := 46) X dX5_bestOf_37 (by decide) (by omega) (fun hq18 => ?_) (fun hq18 => ?_)
            ·
              exact absurd hq18 (by decide)
            ·
              refine z_iload_n X dX5_bestOf_40 rfl 3 rfl ?_
              refine z_if_geN (tgt := 46) X dX5_bestOf_41 (by decide) (by omega) (fun hq19 => ?_) (fun hq19 => ?_)
              ·
                refine z_iload X dX5_bestOf_46 0 rfl ?_
                refine z_if_eqN (tgt := 93) X dX5_bestOf_48 (by decide) (by omega) (fun hq20 => ?_) (fun hq20 => ?_)
                ·
                  exact absurd hq20 (by decide)
                ·
                  refine z_aload_n X dX5_bestOf_51 rfl 1 rfl ?_
                  refine z_iload_n X dX5_bestOf_52 rfl 2 rfl ?_
                  refine z_iload_n X dX5_bestOf_53 rfl 3 rfl ?_
                  refine z_callVM X (c_X5_fineOf l g b ft so D E tr C lk kd st sp nd rO rB rD rW sz sl sc sm xa xb xc xd y1 y2 y3 y4 y5 hn k b_v (by omega) (by omega) (by omega) (by first | assumption | omega) (by first | assumption | omega) (by omega)) gX5_bestOf_X5_fineOf rfl ⟨rfl, rfl⟩ (by decide +kernel) ⟨Nat.le_of_ble_eq_true rfl, Nat.le_of_ble_eq_true rfl⟩ ZF.room (ci := 4) rfl 0 rfl rfl (As := [.int (nI k), .int (nI b_v)]) (n := 2) rfl rfl (st1 := [.int (nI (tn (sp k) * pc (fnd D (Lf kd st k) b_v (fsm lk so sm D))))]) rfl (Nat.le_of_ble_eq_true rfl) dX5_bestOf_54 ?_
                  refine z_aload_n X dX5_bestOf_57 rfl 1 rfl ?_
                  refine z_iload_n X dX5_bestOf_58 rfl 2 rfl ?_
                  refine z_iload_n X dX5_bestOf_59 rfl 4 rfl ?_
                  refine z_callVM X (c_X5_fineOf l g b ft so D E tr C lk kd st sp nd rO rB rD rW sz sl sc sm xa xb xc xd y1 y2 y3 y4 y5 hn k S_v (by omega) (by omega) (by omega) (by first | assumption | omega) (by first | assumption | omega) (by omega)) gX5_bestOf_X5_fineOf rfl ⟨rfl, rfl⟩ (by decide +kernel) ⟨Nat.le_of_ble_eq_true rfl, Nat.le_of_ble_eq_true rfl⟩ ZF.room (ci := 4) rfl 0 rfl rfl (As := [.int (nI k), .int (nI S_v)]) (n := 2) rfl rfl (st1 := [.int (nI (tn (sp k) * pc (fnd D (Lf kd st k) S_v (fsm lk so sm D)))), .int (nI (tn (sp k) * pc (fnd D (Lf kd st k) b_v (fsm lk so sm D))))]) rfl (Nat.le_of_ble_eq_true rfl) dX5_bestOf_60 ?_
                  refine z_isub X dX5_bestOf_63 ?_
                  refine z_istore (L' := [(5, .int ((nI (tn (sp k) * pc (fnd D (Lf kd st k) b_v (fsm lk so sm D)))) - (nI (tn (sp k) * pc (fnd D (Lf kd st k) S_v (fsm lk so sm D)))))), (4, .int (nI 1)), (0, .ref (b 0)), (1, .int (nI k)), (2, .int (nI b_v)), (3, .int (nI S_v))]) X dX5_bestOf_64 (by decide) rfl ?_
                  refine z_iload X dX5_bestOf_66 0 rfl ?_
                  refine z_if_gt (tgt := 87) X dX5_bestOf_68 (by decide) (fun hq21 => ?_) (fun hq21 => ?_)
                  ·
                    have hlp0 : (pc (fnd D (Lf kd st k) S_v (fsm lk so sm D))) < (pc (fnd D (Lf kd st k) b_v (fsm lk so sm D))) := (less_pos _ (by omega) (pc (fnd D (Lf kd st k) b_v (fsm lk so sm D))) (by omega) (pc (fnd D (Lf kd st k) S_v (fsm lk so sm D))) (by omega) hSk.2.2).mp hq21
                    refine z_iload_n X dX5_bestOf_87 rfl 5 rfl ?_
                    refine z_goto (tgt := 92) X dX5_bestOf_88 (by decide) ?_
                    refine z_istore_n (L' := [(2, .int (nI S_v)), (5, .int ((nI (tn (sp k) * pc (fnd D (Lf kd st k) b_v (fsm lk so sm D)))) - (nI (tn (sp k) * pc (fnd D (Lf kd st k) S_v (fsm lk so sm D)))))), (4, .int (nI 1)), (0, .ref (b 0)), (1, .int (nI k)), (3, .int (nI S_v))]) X dX5_bestOf_92 rfl (by decide) rfl ?_
                    refine z_iinc (v := nI (S_v + 1)) (L' := [(3, .int (nI (S_v + 1))), (2, .int (nI S_v)), (5, .int ((nI (tn (sp k) * pc (fnd D (Lf kd st k) b_v (fsm lk so sm D)))) - (nI (tn (sp k) * pc (fnd D (Lf kd st k) S_v (fsm lk so sm D)))))), (4, .int (nI 1)), (0, .ref (b 0)), (1, .int (nI k))]) X dX5_bestOf_93 5 rfl (nI_inc S_v 1) (by decide) rfl ?_
                    refine z_goto (tgt := 5) X dX5_bestOf_96 (by decide) ?_
                    refine z_ls (L' := [(0, .ref (b 0)), (1, .int (nI k)), (2, .int (nI S_v)), (3, .int (nI (S_v + 1)))]) [4, 5, 1, 0] rfl ?_
                    have e22 : (nI S_v) = (obI (bsF D (Lf kd st k) (nd k) (fsm lk so sm D) (S_v + 1))) := by first | rfl | (simp [bsF, obI, isb, hq2, hbv, hq14, hq18, hq19, hq20, hq21, hlp0]; done)
                    refine z_Le (L' := [(0, .ref (b 0)), (1, .int (nI k)), (2, .int (obI (bsF D (Lf kd st k) (nd k) (fsm lk so sm D) (S_v + 1)))), (3, .int (nI (S_v + 1)))]) (by rw [← e22]) ?_
                    exact ih1 (S_v + 1) (by omega) (by omega)
                  ·
                    have hlp1 : ¬ ((pc (fnd D (Lf kd st k) S_v (fsm lk so sm D))) < (pc (fnd D (Lf kd st k) b_v (fsm lk so sm D)))) := fun z => hq21 ((less_pos _ (by omega) (pc (fnd D (Lf kd st k) b_v (fsm lk so sm D))) (by omega) (pc (fnd D (Lf kd st k) S_v (fsm lk so sm D))) (by omega) hSk.2.2).mpr z)
                    refine z_iload X dX5_bestOf_71 0 rfl ?_
                    refine z_if_ne (tgt := 91) X dX5_bestOf_73 (by decide) (fun hq23 => ?_) (fun hq23 => ?_)
                    ·
                      have hlp3 : ¬ ((pc (fnd D (Lf kd st k) S_v (fsm lk so sm D))) = (pc (fnd D (Lf kd st k) b_v (fsm lk so sm D)))) := fun z => hq23 ((less_zero _ (by omega) (pc (fnd D (Lf kd st k) b_v (fsm lk so sm D))) (by omega) (pc (fnd D (Lf kd st k) S_v (fsm lk so sm D))) (by omega) hSk.2.2).mpr z)
                      refine z_iload_n X dX5_bestOf_91 rfl 4 rfl ?_
                      refine z_istore_n (L' := [(2, .int (nI b_v)), (5, .int ((nI (tn (sp k) * pc (fnd D (Lf kd st k) b_v (fsm lk so sm D)))) - (nI (tn (sp k) * pc (fnd D (Lf kd st k) S_v (fsm lk so sm D)))))), (4, .int (nI 1)), (0, .ref (b 0)), (1, .int (nI k)), (3, .int (nI S_v))]) X dX5_bestOf_92 rfl (by decide) rfl ?_
                      refine z_iinc (v := nI (S_v + 1)) (L' := [(3, .int (nI (S_v + 1))), (2, .int (nI b_v)), (5, .int ((nI (tn (sp k) * pc (fnd D (Lf kd st k) b_v (fsm lk so sm D)))) - (nI (tn (sp k) * pc (fnd D (Lf kd st k) S_v (fsm lk so sm D)))))), (4, .int (nI 1)), (0, .ref (b 0)), (1, .int (nI k))]) X dX5_bestOf_93 5 rfl (nI_inc S_v 1) (by decide) rfl ?_
                      refine z_goto (tgt := 5) X dX5_bestOf_96 (by decide) ?_
                      refine z_ls (L' := [(0, .ref (b 0)), (1, .int (nI k)), (2, .int (nI b_v)), (3, .int (nI (S_v + 1)))]) [4, 5, 1, 0] rfl ?_
                      have e24 : (nI b_v) = (obI (bsF D (Lf kd st k) (nd k) (fsm lk so sm D) (S_v + 1))) := by first | rfl | (simp [bsF, obI, isb, hq2, hbv, hq14, hq18, hq19, hq20, hq21, hlp1, hq23, hlp3]; done)
                      refine z_Le (L' := [(0, .ref (b 0)), (1, .int (nI k)), (2, .int (obI (bsF D (Lf kd st k) (nd k) (fsm lk so sm D) (S_v + 1)))), (3, .int (nI (S_v + 1)))]) (by rw [← e24]) ?_
                      exact ih1 (S_v + 1) (by omega) (by omega)
                    ·
                      have hlp2 : (pc (fnd D (Lf kd st k) S_v (fsm lk so sm D))) = (pc (fnd D (Lf kd st k) b_v (fsm lk so sm D))) := (less_zero _ (by omega) (pc (fnd D (Lf kd st k) b_v (fsm lk so sm D))) (by omega) (pc (fnd D (Lf kd st k) S_v (fsm lk so sm D))) (by omega) hSk.2.2).mp hq23
                      refine z_iload_n X dX5_bestOf_76 rfl 5 rfl ?_
                      refine z_callS0 X (c_X5_bits l g S_v (by omega)) gX5_bestOf_X5_bits rfl ⟨rfl, rfl⟩ (by decide +kernel) ⟨Nat.le_of_ble_eq_true rfl, Nat.le_of_ble_eq_true rfl⟩ ZF.room (As := [.int (nI S_v)]) (n := 1) rfl rfl (st1 := [.int (nI (pc S_v))]) rfl (Nat.le_of_ble_eq_true rfl) dX5_bestOf_77 ?_
                      refine z_iload_n X dX5_bestOf_80 rfl 4 rfl ?_
                      refine z_callS0 X (c_X5_bits l g b_v (by omega)) gX5_bestOf_X5_bits rfl ⟨rfl, rfl⟩ (by decide +kernel) ⟨Nat.le_of_ble_eq_true rfl, Nat.le_of_ble_eq_true rfl⟩ ZF.room (As := [.int (nI b_v)]) (n := 1) rfl rfl (st1 := [.int (nI (pc b_v)), .int (nI (pc S_v))]) rfl (Nat.le_of_ble_eq_true rfl) dX5_bestOf_81 ?_
                      refine z_icmp_geN (tgt := 91) X dX5_bestOf_84 (by decide) (by omega) (by omega) (fun hq25 => ?_) (fun hq25 => ?_)
                      ·
                        refine z_iload_n X dX5_bestOf_91 rfl 4 rfl ?_
                        refine z_istore_n (L' := [(2, .int (nI b_v)), (5, .int ((nI (tn (sp k) * pc (fnd D (Lf kd st k) b_v (fsm lk so sm D)))) - (nI (tn (sp k) * pc (fnd D (Lf kd st k) S_v (fsm lk so sm D)))))), (4, .int (nI 1)), (0, .ref (b 0)), (1, .int (nI k)), (3, .int (nI S_v))]) X dX5_bestOf_92 rfl (by decide) rfl ?_
                        refine z_iinc (v := nI (S_v + 1)) (L' := [(3, .int (nI (S_v + 1))), (2, .int (nI b_v)), (5, .int ((nI (tn (sp k) * pc (fnd D (Lf kd st k) b_v (fsm lk so sm D)))) - (nI (tn (sp k) * pc (fnd D (Lf kd st k) S_v (fsm lk so sm D)))))), (4, .int (nI 1)), (0, .ref (b 0)), (1, .int (nI k))]) X dX5_bestOf_93 5 rfl (nI_inc S_v 1) (by decide) rfl ?_
                        refine z_goto (tgt := 5) X dX5_bestOf_96 (by decide) ?_
                        refine z_ls (L' := [(0, .ref (b 0)), (1, .int (nI k)), (2, .int (nI b_v)), (3, .int (nI (S_v + 1)))]) [4, 5, 1, 0] rfl ?_
                        have e26 : (nI b_v) = (obI (bsF D (Lf kd st k) (nd k) (fsm lk so sm D) (S_v + 1))) := by first | rfl | (simp [bsF, obI, isb, hq2, hbv, hq14, hq18, hq19, hq20, hq21, hlp1, hq23, hlp2, hq25]; done) | (simp [bsF, obI, isb_f2 hlp1 hq25, hq2, hbv, hq14, hq18, hq19, hq20, hq21, hq23, hq25]; done)
                        refine z_Le (L' := [(0, .ref (b 0)), (1, .int (nI k)), (2, .int (obI (bsF D (Lf kd st k) (nd k) (fsm lk so sm D) (S_v + 1)))), (3, .int (nI (S_v + 1)))]) (by rw [← e26]) ?_
                        exact ih1 (S_v + 1) (by omega) (by omega)
                      ·
                        refine z_iload_n X dX5_bestOf_87 rfl 5 rfl ?_
                        refine z_goto (tgt := 92) X dX5_bestOf_88 (by decide) ?_
                        refine z_istore_n (L' := [(2, .int (nI S_v)), (5, .int ((nI (tn (sp k) * pc (fnd D (Lf kd st k) b_v (fsm lk so sm D)))) - (nI (tn (sp k) * pc (fnd D (Lf kd st k) S_v (fsm lk so sm D)))))), (4, .int (nI 1)), (0, .ref (b 0)), (1, .int (nI k)), (3, .int (nI S_v))]) X dX5_bestOf_92 rfl (by decide) rfl ?_
                        refine z_iinc (v := nI (S_v + 1)) (L' := [(3, .int (nI (S_v + 1))), (2, .int (nI S_v)), (5, .int ((nI (tn (sp k) * pc (fnd D (Lf kd st k) b_v (fsm lk so sm D)))) - (nI (tn (sp k) * pc (fnd D (Lf kd st k) S_v (fsm lk so sm D)))))), (4, .int (nI 1)), (0, .ref (b 0)), (1, .int (nI k))]) X dX5_bestOf_93 5 rfl (nI_inc S_v 1) (by decide) rfl ?_
                        refine z_goto (tgt := 5) X dX5_bestOf_96 (by decide) ?_
                        refine z_ls (L' := [(0, .ref (b 0)), (1, .int (nI k)), (2, .int (nI S_v)), (3, .int (nI (S_v + 1)))]) [4, 5, 1, 0] rfl ?_
                        have e27 : (nI S_v) = (obI (bsF D (Lf kd st k) (nd k) (fsm lk so sm D) (S_v + 1))) := by first | rfl | (simp [bsF, obI, isb, hq2, hbv, hq14, hq18, hq19, hq20, hq21, hlp1, hq23, hlp2, hq25]; done) | (simp [bsF, obI, isb_f2 hlp1 hq25, hq2, hbv, hq14, hq18, hq19, hq20, hq21, hq23, hq25]; done)
                        refine z_Le (L' := [(0, .ref (b 0)), (1, .int (nI k)), (2, .int (obI (bsF D (Lf kd st k) (nd k) (fsm lk so sm D) (S_v + 1)))), (3, .int (nI (S_v + 1)))]) (by rw [← e27]) ?_
                        exact ih1 (S_v + 1) (by omega) (by omega)
              ·
                exact absurd hq19 (by omega)
  refine z_ls (L' := [(0, .ref (b 0)), (1, .int (nI k)), (2, .int (-9)), (3, .int (nI 0))]) [2, 3, 1, 0] rfl ?_
  have e28 : (-9) = (obI (bsF D (Lf kd st k) (nd k) (fsm lk so sm D) 0)) := by first | rfl | (simp [bsF, obI, isb, ]; done)
  refine z_Le (L' := [(0, .ref (b 0)), (1, .int (nI k)), (2, .int (obI (bsF D (Lf kd st k) (nd k) (fsm lk so sm D) 0))), (3, .int (nI 0))]) (by rw [← e28]) ?_
  exact loopv1 ((2 ^ D) + 1) 0 (by omega) (by omega)
