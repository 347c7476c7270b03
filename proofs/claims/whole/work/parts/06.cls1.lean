abbrev wA (g : zg) (q : Nat) (n : Nat) (f : Nat → Int32) : va_W := [(q, .inl (g.2.1, n, .inl f))]
abbrev wD (g : zg) (a : Nat → Nat) (D : Nat) (E : Nat) (so : Int32) (lk : Nat → Int32) (kd : Nat → Int32) (st : Nat → Int32) (sp : Nat → Int32) (nd : Nat → Int32) : va_W := [(a 1, .inr (0, [.ref (a 2), .ref (a 3), .ref (a 4), .ref (a 5), .ref (a 6), .int (nI D), .int (nI E), .int so])), (a 2, .inl (g.2.1, 6, .inl lk)), (a 3, .inl (g.2.1, 4, .inl kd)), (a 4, .inl (g.2.1, 4, .inl st)), (a 5, .inl (g.2.1, 4, .inl sp)), (a 6, .inl (g.2.1, 4, .inl nd))]
abbrev wR (g : zg) (a : Nat → Nat) (C : Nat) (rO : Nat → Int32) (rB : Nat → Int32) (rD : Nat → Int32) (rW : Nat → Int32) : va_W := [(a 7, .inr (1, [.ref (a 8), .ref (a 9), .ref (a 10), .ref (a 11), .int (nI C)])), (a 8, .inl (g.2.1, 8, .inl rO)), (a 9, .inl (g.2.1, 8, .inl rB)), (a 10, .inl (g.2.1, 8, .inl rD)), (a 11, .inl (g.2.2.1, 8, .inl rW))]
abbrev wS (g : zg) (p : Nat) (q : Nat) (ln : Int32) (le : Int32) (ce : Nat → Int32) : va_W := [(p, .inr (2, [.ref q, .int ln, .int le])), (q, .inl (g.2.1, 60, .inl ce))]
abbrev wO (g : zg) (a : Nat → Nat) (ft : Int32) (tr : Int32) : va_W := [(a 0, .inr (3, [.ref (a 1), .ref (a 7), .ref (a 12), .int ft, .int tr]))]
abbrev wH (g : zg) (a : Nat → Nat) : va_W := [(a 12, .inl (g.2.2.2, 4, .inr (.inr (.inr (.inr (fun k => some (a (13 + 2 * k))))))))]
abbrev wM (g : zg) (b : Nat → Nat) (ft : Int32) (so : Int32) (D : Nat) (E : Nat) (tr : Int32) (C : Nat) (lk : Nat → Int32) (kd : Nat → Int32) (st : Nat → Int32) (sp : Nat → Int32) (nd : Nat → Int32) (rO : Nat → Int32) (rB : Nat → Int32) (rD : Nat → Int32) (rW : Nat → Int32) (sz : Nat → Int32) (sl : Nat → Int32) (sc : Nat → Int32) (sm : Int32) (xa : Nat) (xb : Int32) (xc : Nat) (xd : Nat) (y1 : Nat → Int32) (y2 : Nat → Int32) (y3 : Nat → Int32) (y4 : Nat → Int32) (y5 : Nat → Int32) (hn : Nat → Int32) : va_W := [(b 0, .inr (4, [.int ft, .int so, .int (nI D), .ref (b 1), .int (nI E), .ref (b 2), .ref (b 3), .ref (b 4), .ref (b 5), .int sm, .int (nI xa), .int xb, .int (nI xc), .int (nI xd), .ref (b 6), .ref (b 7), .ref (b 8), .ref (b 9), .ref (b 10), .int (nI C), .ref (b 11), .ref (b 12), .ref (b 13), .ref (b 14), .ref (b 15), .ref (b 16), .ref (b 17), .ref (b 18), .int tr])), (b 1, .inl (g.2.1, 6, .inl lk)), (b 2, .inl (g.2.1, 4, .inl kd)), (b 3, .inl (g.2.1, 4, .inl st)), (b 4, .inl (g.2.1, 4, .inl sp)), (b 5, .inl (g.2.1, 4, .inl nd)), (b 6, .inl (g.2.1, 6, .inl y1)), (b 7, .inl (g.2.1, 4, .inl y2)), (b 8, .inl (g.2.1, 4, .inl y3)), (b 9, .inl (g.2.1, 4, .inl y4)), (b 10, .inl (g.2.1, 4, .inl y5)), (b 11, .inl (g.2.1, 8, .inl rO)), (b 12, .inl (g.2.1, 8, .inl rB)), (b 13, .inl (g.2.1, 8, .inl rD)), (b 14, .inl (g.2.2.1, 8, .inl rW)), (b 15, .inl (g.2.1, 4, .inl sz)), (b 16, .inl (g.2.1, 4, .inl sl)), (b 17, .inl (g.2.1, 240, .inl sc)), (b 18, .inl (g.2.1, 60, .inl hn))]
abbrev rX4_numberIn : Room := { frames := 0, cells := 0, slots := 0, locals := 0 }
set_option maxHeartbeats 4000000 in
set_option maxRecDepth 100000 in
theorem c_X4_numberIn (l : Launch) (g : zg) (q : Nat) (n : Nat) (f : Nat → Int32) (k : Nat) (hk : k < n) (hn : n < 2 ^ 31) : zM l g yX4_numberIn wsX4_numberIn rX4_numberIn [.ref q, .int (nI k)] (wA g q n f) (some (.int (f k))) (wA g q n f) := by
  refine z_met (own := RX4) (cc := cX4_numberIn) (maxL := 2) (ret := some .int) (by decide +kernel) rfl rfl (Nat.le_of_ble_eq_true rfl) ?_
  intro M X ZF
  refine z_Le (L' := [(0, .ref q), (1, .int (nI k))]) rfl ?_
  refine z_iload_n X dX4_numberIn_0 rfl 1 rfl ?_
  refine z_if_ltN (tgt := 16) X dX4_numberIn_1 (by decide) (by omega) (fun hq1 => ?_) (fun hq1 => ?_)
  ·
    exact absurd hq1 (by omega)
  ·
    refine z_iload_n X dX4_numberIn_4 rfl 1 rfl ?_
    refine z_aload_n X dX4_numberIn_5 rfl 0 rfl ?_
    refine z_alenI X 0 rfl dX4_numberIn_6 ?_
    refine z_icmp_geN (tgt := 16) X dX4_numberIn_7 (by decide) (by omega) (by omega) (fun hq2 => ?_) (fun hq2 => ?_)
    ·
      exact absurd hq2 (by omega)
    ·
      refine z_aload_n X dX4_numberIn_10 rfl 0 rfl ?_
      refine z_iload_n X dX4_numberIn_11 rfl 1 rfl ?_
      refine z_ialdN X 0 rfl (by omega) (by omega) dX4_numberIn_12 ?_
      refine z_goto (tgt := 17) X dX4_numberIn_13 (by decide) ?_
      exact z_iret X ZF dX4_numberIn_17 rfl rfl
abbrev rX4_changeIn : Room := { frames := 0, cells := 0, slots := 0, locals := 0 }
set_option maxHeartbeats 4000000 in
set_option maxRecDepth 100000 in
theorem c_X4_changeIn (l : Launch) (g : zg) (q : Nat) (n : Nat) (f : Nat → Int32) (k : Nat) (v : Int32) (hk : k < n) (hn : n < 2 ^ 31) : zM l g yX4_changeIn wsX4_changeIn rX4_changeIn [.ref q, .int (nI k), .int v] (wA g q n f) none (wA g q n (upd f k v)) := by
  refine z_met (own := RX4) (cc := cX4_changeIn) (maxL := 3) (ret := none) (by decide +kernel) rfl rfl (Nat.le_of_ble_eq_true rfl) ?_
  intro M X ZF
  refine z_Le (L' := [(0, .ref q), (1, .int (nI k)), (2, .int v)]) rfl ?_
  refine z_iload_n X dX4_changeIn_0 rfl 1 rfl ?_
  refine z_if_ltN (tgt := 14) X dX4_changeIn_1 (by decide) (by omega) (fun hq1 => ?_) (fun hq1 => ?_)
  ·
    exact absurd hq1 (by omega)
  ·
    refine z_iload_n X dX4_changeIn_4 rfl 1 rfl ?_
    refine z_aload_n X dX4_changeIn_5 rfl 0 rfl ?_
    refine z_alenI X 0 rfl dX4_changeIn_6 ?_
    refine z_icmp_geN (tgt := 14) X dX4_changeIn_7 (by decide) (by omega) (by omega) (fun hq2 => ?_) (fun hq2 => ?_)
    ·
      exact absurd hq2 (by omega)
    ·
      refine z_aload_n X dX4_changeIn_10 rfl 0 rfl ?_
      refine z_iload_n X dX4_changeIn_11 rfl 1 rfl ?_
      refine z_iload_n X dX4_changeIn_12 rfl 2 rfl ?_
      refine z_iastN (ws' := (wA g q n (upd f k v))) X 0 rfl (by omega) (by omega) dX4_changeIn_13 rfl ?_
      exact z_vret X ZF dX4_changeIn_14 rfl
abbrev rX4_isLane : Room := { frames := 0, cells := 0, slots := 0, locals := 0 }
set_option maxHeartbeats 4000000 in
set_option maxRecDepth 100000 in
theorem c_X4_isLane (l : Launch) (g : zg) (x : Int32) : zM l g yX4_isLane wsX4_isLane rX4_isLane [.int x] [] (some (.int (bI (zin x 3)))) [] := by
  refine z_met (own := RX4) (cc := cX4_isLane) (maxL := 1) (ret := some .boolean) (by decide +kernel) rfl rfl (Nat.le_of_ble_eq_true rfl) ?_
  intro M X ZF
  refine z_Le (L' := [(0, .int x)]) rfl ?_
  refine z_iload_n X dX4_isLane_0 rfl 0 rfl ?_
  refine z_if_lt (tgt := 13) X dX4_isLane_1 (by decide) (fun hq1 => ?_) (fun hq1 => ?_)
  ·
    refine z_iconst (v := nI 0) X dX4_isLane_13 (by decide) ?_
    exact z_zret X ZF dX4_isLane_14 (bI_nar _) (by first | exact bI_f (zin_a hq1)) rfl
  ·
    refine z_iload_n X dX4_isLane_4 rfl 0 rfl ?_
    refine z_iconst (v := nI 2) X dX4_isLane_5 (by decide) ?_
    refine z_icmp_gt (tgt := 13) X dX4_isLane_6 (by decide) (fun hq2 => ?_) (fun hq2 => ?_)
    ·
      refine z_iconst (v := nI 0) X dX4_isLane_13 (by decide) ?_
      exact z_zret X ZF dX4_isLane_14 (bI_nar _) (by first | exact bI_f (zin_a hq1) | exact bI_t (zin_d (by omega) hq1 hq2) | exact bI_f (zin_e (by omega) hq2)) rfl
    ·
      refine z_iconst (v := nI 1) X dX4_isLane_9 (by decide) ?_
      refine z_goto (tgt := 14) X dX4_isLane_10 (by decide) ?_
      exact z_zret X ZF dX4_isLane_14 (bI_nar _) (by first | exact bI_f (zin_a hq1) | exact bI_t (zin_d (by omega) hq1 hq2) | exact bI_f (zin_e (by omega) hq2)) rfl
abbrev rX4_isFrom0To : Room := { frames := 0, cells := 0, slots := 0, locals := 0 }
set_option maxHeartbeats 4000000 in
set_option maxRecDepth 100000 in
theorem c_X4_isFrom0To (l : Launch) (g : zg) (x : Int32) (m : Nat) (hm : m < 1000) : zM l g yX4_isFrom0To wsX4_isFrom0To rX4_isFrom0To [.int x, .int (nI m)] [] (some (.int (bI (zin x (m + 1))))) [] := by
  refine z_met (own := RX4) (cc := cX4_isFrom0To) (maxL := 2) (ret := some .boolean) (by decide +kernel) rfl rfl (Nat.le_of_ble_eq_true rfl) ?_
  intro M X ZF
  refine z_Le (L' := [(0, .int x), (1, .int (nI m))]) rfl ?_
  refine z_iload_n X dX4_isFrom0To_0 rfl 0 rfl ?_
  refine z_if_lt (tgt := 13) X dX4_isFrom0To_1 (by decide) (fun hq1 => ?_) (fun hq1 => ?_)
  ·
    refine z_iconst (v := nI 0) X dX4_isFrom0To_13 (by decide) ?_
    exact z_zret X ZF dX4_isFrom0To_14 (bI_nar _) (by first | exact bI_f (zin_a hq1)) rfl
  ·
    refine z_iload_n X dX4_isFrom0To_4 rfl 0 rfl ?_
    refine z_iload_n X dX4_isFrom0To_5 rfl 1 rfl ?_
    refine z_icmp_gt (tgt := 13) X dX4_isFrom0To_6 (by decide) (fun hq2 => ?_) (fun hq2 => ?_)
    ·
      refine z_iconst (v := nI 0) X dX4_isFrom0To_13 (by decide) ?_
      exact z_zret X ZF dX4_isFrom0To_14 (bI_nar _) (by first | exact bI_f (zin_a hq1) | exact bI_t (zin_d (by omega) hq1 hq2) | exact bI_f (zin_e (by omega) hq2)) rfl
    ·
      refine z_iconst (v := nI 1) X dX4_isFrom0To_9 (by decide) ?_
      refine z_goto (tgt := 14) X dX4_isFrom0To_10 (by decide) ?_
      exact z_zret X ZF dX4_isFrom0To_14 (bI_nar _) (by first | exact bI_f (zin_a hq1) | exact bI_t (zin_d (by omega) hq1 hq2) | exact bI_f (zin_e (by omega) hq2)) rfl
abbrev rX0_isTold : Room := { frames := 0, cells := 0, slots := 0, locals := 0 }
set_option maxHeartbeats 4000000 in
set_option maxRecDepth 100000 in
theorem c_X0_isTold (l : Launch) (g : zg) (a : Nat → Nat) (D : Nat) (E : Nat) (so : Int32) (lk : Nat → Int32) (kd : Nat → Int32) (st : Nat → Int32) (sp : Nat → Int32) (nd : Nat → Int32) (hE : E ≤ 4) : zM l g yX0_isTold wsX0_isTold rX0_isTold [.ref (a 1)] (wD g a D E so lk kd st sp nd) (some (.int (bI (decide (0 < E))))) (wD g a D E so lk kd st sp nd) := by
  refine z_met (own := RX0) (cc := cX0_isTold) (maxL := 1) (ret := some .boolean) (by decide +kernel) rfl rfl (Nat.le_of_ble_eq_true rfl) ?_
  intro M X ZF
  refine z_Le (L' := [(0, .ref (a 1))]) rfl ?_
  have i_RX0 : ∀ w ∈ wsX00, w ∈ wsX0_isTold := by decide +kernel
  have f_40 : Cond.fieldLink RX0 40 (TX0 6).1 (TX0 6).2.1 (TX0 6).2.2.1 ∈ wsX0_isTold := by decide +kernel
  refine z_aload_n X dX0_isTold_0 rfl 0 rfl ?_
  refine z_get (v := .int (nI E)) (N := 8) X i_RX0 (ci := 0) rfl 0 rfl 6 (by decide) f_40 rfl dX0_isTold_1 ?_
  refine z_if_leN (tgt := 11) X dX0_isTold_4 (by decide) (by omega) (fun hq1 => ?_) (fun hq1 => ?_)
  ·
    refine z_iconst (v := nI 0) X dX0_isTold_11 (by decide) ?_
    exact z_zret X ZF dX0_isTold_12 (bI_nar _) (by first | exact bI_t (decide_eq_true hq1) | exact bI_f (decide_eq_false (by omega))) rfl
  ·
    refine z_iconst (v := nI 1) X dX0_isTold_7 (by decide) ?_
    refine z_goto (tgt := 12) X dX0_isTold_8 (by decide) ?_
    exact z_zret X ZF dX0_isTold_12 (bI_nar _) (by first | exact bI_t (decide_eq_true hq1) | exact bI_f (decide_eq_false (by omega))) rfl
abbrev rX0_eaterCount : Room := { frames := 0, cells := 0, slots := 0, locals := 0 }
set_option maxHeartbeats 4000000 in
set_option maxRecDepth 100000 in
theorem c_X0_eaterCount (l : Launch) (g : zg) (a : Nat → Nat) (D : Nat) (E : Nat) (so : Int32) (lk : Nat → Int32) (kd : Nat → Int32) (st : Nat → Int32) (sp : Nat → Int32) (nd : Nat → Int32) : zM l g yX0_eaterCount wsX0_eaterCount rX0_eaterCount [.ref (a 1)] (wD g a D E so lk kd st sp nd) (some (.int (nI E))) (wD g a D E so lk kd st sp nd) := by
  refine z_met (own := RX0) (cc := cX0_eaterCount) (maxL := 1) (ret := some .int) (by decide +kernel) rfl rfl (Nat.le_of_ble_eq_true rfl) ?_
  intro M X ZF
  refine z_Le (L' := [(0, .ref (a 1))]) rfl ?_
  have i_RX0 : ∀ w ∈ wsX00, w ∈ wsX0_eaterCount := by decide +kernel
  have f_40 : Cond.fieldLink RX0 40 (TX0 6).1 (TX0 6).2.1 (TX0 6).2.2.1 ∈ wsX0_eaterCount := by decide +kernel
  refine z_aload_n X dX0_eaterCount_0 rfl 0 rfl ?_
  refine z_get (v := .int (nI E)) (N := 8) X i_RX0 (ci := 0) rfl 0 rfl 6 (by decide) f_40 rfl dX0_eaterCount_1 ?_
  exact z_iret X ZF dX0_eaterCount_4 rfl rfl
abbrev rX0_dayCount : Room := { frames := 0, cells := 0, slots := 0, locals := 0 }
set_option maxHeartbeats 4000000 in
set_option maxRecDepth 100000 in
theorem c_X0_dayCount (l : Launch) (g : zg) (a : Nat → Nat) (D : Nat) (E : Nat) (so : Int32) (lk : Nat → Int32) (kd : Nat → Int32) (st : Nat → Int32) (sp : Nat → Int32) (nd : Nat → Int32) : zM l g yX0_dayCount wsX0_dayCount rX0_dayCount [.ref (a 1)] (wD g a D E so lk kd st sp nd) (some (.int (nI D))) (wD g a D E so lk kd st sp nd) := by
  refine z_met (own := RX0) (cc := cX0_dayCount) (maxL := 1) (ret := some .int) (by decide +kernel) rfl rfl (Nat.le_of_ble_eq_true rfl) ?_
  intro M X ZF
  refine z_Le (L' := [(0, .ref (a 1))]) rfl ?_
  have i_RX0 : ∀ w ∈ wsX00, w ∈ wsX0_dayCount := by decide +kernel
  have f_37 : Cond.fieldLink RX0 37 (TX0 5).1 (TX0 5).2.1 (TX0 5).2.2.1 ∈ wsX0_dayCount := by decide +kernel
  refine z_aload_n X dX0_dayCount_0 rfl 0 rfl ?_
  refine z_get (v := .int (nI D)) (N := 8) X i_RX0 (ci := 0) rfl 0 rfl 5 (by decide) f_37 rfl dX0_dayCount_1 ?_
  exact z_iret X ZF dX0_dayCount_4 rfl rfl
abbrev rX0_hasEater : Room := { frames := 0, cells := 0, slots := 0, locals := 0 }
set_option maxHeartbeats 4000000 in
set_option maxRecDepth 100000 in
theorem c_X0_hasEater (l : Launch) (g : zg) (a : Nat → Nat) (D : Nat) (E : Nat) (so : Int32) (lk : Nat → Int32) (kd : Nat → Int32) (st : Nat → Int32) (sp : Nat → Int32) (nd : Nat → Int32) (x : Int32) (hE : E ≤ 4) : zM l g yX0_hasEater wsX0_hasEater rX0_hasEater [.ref (a 1), .int x] (wD g a D E so lk kd st sp nd) (some (.int (bI (zin x E)))) (wD g a D E so lk kd st sp nd) := by
  refine z_met (own := RX0) (cc := cX0_hasEater) (maxL := 2) (ret := some .boolean) (by decide +kernel) rfl rfl (Nat.le_of_ble_eq_true rfl) ?_
  intro M X ZF
  refine z_Le (L' := [(0, .ref (a 1)), (1, .int x)]) rfl ?_
  have i_RX0 : ∀ w ∈ wsX00, w ∈ wsX0_hasEater := by decide +kernel
  have f_40 : Cond.fieldLink RX0 40 (TX0 6).1 (TX0 6).2.1 (TX0 6).2.2.1 ∈ wsX0_hasEater := by decide +kernel
  refine z_iload_n X dX0_hasEater_0 rfl 1 rfl ?_
  refine z_if_lt (tgt := 16) X dX0_hasEater_1 (by decide) (fun hq1 => ?_) (fun hq1 => ?_)
  ·
    refine z_iconst (v := nI 0) X dX0_hasEater_16 (by decide) ?_
    exact z_zret X ZF dX0_hasEater_17 (bI_nar _) (by first | exact bI_f (zin_a hq1)) rfl
  ·
    refine z_iload_n X dX0_hasEater_4 rfl 1 rfl ?_
    refine z_aload_n X dX0_hasEater_5 rfl 0 rfl ?_
    refine z_get (v := .int (nI E)) (N := 8) X i_RX0 (ci := 0) rfl 0 rfl 6 (by decide) f_40 rfl dX0_hasEater_6 ?_
    refine z_icmp_ge (tgt := 16) X dX0_hasEater_9 (by decide) (fun hq2 => ?_) (fun hq2 => ?_)
    ·
      refine z_iconst (v := nI 0) X dX0_hasEater_16 (by decide) ?_
      exact z_zret X ZF dX0_hasEater_17 (bI_nar _) (by first | exact bI_f (zin_a hq1) | exact bI_t (zin_c hq1 hq2) | exact bI_f (zin_b hq2)) rfl
    ·
      refine z_iconst (v := nI 1) X dX0_hasEater_12 (by decide) ?_
      refine z_goto (tgt := 17) X dX0_hasEater_13 (by decide) ?_
      exact z_zret X ZF dX0_hasEater_17 (bI_nar _) (by first | exact bI_f (zin_a hq1) | exact bI_t (zin_c hq1 hq2) | exact bI_f (zin_b hq2)) rfl
abbrev rX0_hasDay : Room := { frames := 0, cells := 0, slots := 0, locals := 0 }
set_option maxHeartbeats 4000000 in
set_option maxRecDepth 100000 in
theorem c_X0_hasDay (l : Launch) (g : zg) (a : Nat → Nat) (D : Nat) (E : Nat) (so : Int32) (lk : Nat → Int32) (kd : Nat → Int32) (st : Nat → Int32) (sp : Nat → Int32) (nd : Nat → Int32) (x : Int32) (hD : D ≤ 6) : zM l g yX0_hasDay wsX0_hasDay rX0_hasDay [.ref (a 1), .int x] (wD g a D E so lk kd st sp nd) (some (.int (bI (zin x D)))) (wD g a D E so lk kd st sp nd) := by
  refine z_met (own := RX0) (cc := cX0_hasDay) (maxL := 2) (ret := some .boolean) (by decide +kernel) rfl rfl (Nat.le_of_ble_eq_true rfl) ?_
  intro M X ZF
  refine z_Le (L' := [(0, .ref (a 1)), (1, .int x)]) rfl ?_
  have i_RX0 : ∀ w ∈ wsX00, w ∈ wsX0_hasDay := by decide +kernel
  have f_37 : Cond.fieldLink RX0 37 (TX0 5).1 (TX0 5).2.1 (TX0 5).2.2.1 ∈ wsX0_hasDay := by decide +kernel
  refine z_iload_n X dX0_hasDay_0 rfl 1 rfl ?_
  refine z_if_lt (tgt := 16) X dX0_hasDay_1 (by decide) (fun hq1 => ?_) (fun hq1 => ?_)
  ·
    refine z_iconst (v := nI 0) X dX0_hasDay_16 (by decide) ?_
    exact z_zret X ZF dX0_hasDay_17 (bI_nar _) (by first | exact bI_f (zin_a hq1)) rfl
  ·
    refine z_iload_n X dX0_hasDay_4 rfl 1 rfl ?_
    refine z_aload_n X dX0_hasDay_5 rfl 0 rfl ?_
    refine z_get (v := .int (nI D)) (N := 8) X i_RX0 (ci := 0) rfl 0 rfl 5 (by decide) f_37 rfl dX0_hasDay_6 ?_
    refine z_icmp_ge (tgt := 16) X dX0_hasDay_9 (by decide) (fun hq2 => ?_) (fun hq2 => ?_)
    ·
      refine z_iconst (v := nI 0) X dX0_hasDay_16 (by decide) ?_
      exact z_zret X ZF dX0_hasDay_17 (bI_nar _) (by first | exact bI_f (zin_a hq1) | exact bI_t (zin_c hq1 hq2) | exact bI_f (zin_b hq2)) rfl
    ·
      refine z_iconst (v := nI 1) X dX0_hasDay_12 (by decide) ?_
      refine z_goto (tgt := 17) X dX0_hasDay_13 (by decide) ?_
      exact z_zret X ZF dX0_hasDay_17 (bI_nar _) (by first | exact bI_f (zin_a hq1) | exact bI_t (zin_c hq1 hq2) | exact bI_f (zin_b hq2)) rfl
abbrev rX0_allDays : Room := { frames := 0, cells := 0, slots := 0, locals := 0 }
set_option maxHeartbeats 4000000 in
set_option maxRecDepth 100000 in
theorem c_X0_allDays (l : Launch) (g : zg) (a : Nat → Nat) (D : Nat) (E : Nat) (so : Int32) (lk : Nat → Int32) (kd : Nat → Int32) (st : Nat → Int32) (sp : Nat → Int32) (nd : Nat → Int32) (hD : D ≤ 6) : zM l g yX0_allDays wsX0_allDays rX0_allDays [.ref (a 1)] (wD g a D E so lk kd st sp nd) (some (.int (nI (2 ^ D - 1)))) (wD g a D E so lk kd st sp nd) := by
  refine z_met (own := RX0) (cc := cX0_allDays) (maxL := 1) (ret := some .int) (by decide +kernel) rfl rfl (Nat.le_of_ble_eq_true rfl) ?_
  intro M X ZF
  refine z_Le (L' := [(0, .ref (a 1))]) rfl ?_
  have hpD : 2 ^ D ≤ 2 ^ 6 := Nat.pow_le_pow_right (by omega) hD
  have hpD1 : 1 ≤ 2 ^ D := Nat.one_le_two_pow
  have i_RX0 : ∀ w ∈ wsX00, w ∈ wsX0_allDays := by decide +kernel
  have f_37 : Cond.fieldLink RX0 37 (TX0 5).1 (TX0 5).2.1 (TX0 5).2.2.1 ∈ wsX0_allDays := by decide +kernel
  refine z_iconst (v := nI 1) X dX0_allDays_0 (by decide) ?_
  refine z_aload_n X dX0_allDays_1 rfl 0 rfl ?_
  refine z_get (v := .int (nI D)) (N := 8) X i_RX0 (ci := 0) rfl 0 rfl 5 (by decide) f_37 rfl dX0_allDays_2 ?_
  refine z_ishl' (v := nI (2 ^ D)) X dX0_allDays_5 (nI_shl1 (by omega)) ?_
  refine z_iconst (v := nI 1) X dX0_allDays_6 (by decide) ?_
  refine z_isub' (v := nI ((2 ^ D) - 1)) X dX0_allDays_7 (pk_sub (by omega)) ?_
  exact z_iret X ZF dX0_allDays_8 rfl rfl
abbrev rX0_hasDays : Room := { frames := 1, cells := 0, slots := 0, locals := 20 }
set_option maxHeartbeats 4000000 in
set_option maxRecDepth 100000 in
theorem c_X0_hasDays (l : Launch) (g : zg) (a : Nat → Nat) (D : Nat) (E : Nat) (so : Int32) (lk : Nat → Int32) (kd : Nat → Int32) (st : Nat → Int32) (sp : Nat → Int32) (nd : Nat → Int32) (x : Int32) (hD : D ≤ 6) : zM l g yX0_hasDays wsX0_hasDays rX0_hasDays [.ref (a 1), .int x] (wD g a D E so lk kd st sp nd) (some (.int (bI (zin x (2 ^ D))))) (wD g a D E so lk kd st sp nd) := by
  refine z_met (own := RX0) (cc := cX0_hasDays) (maxL := 2) (ret := some .boolean) (by decide +kernel) rfl rfl (Nat.le_of_ble_eq_true rfl) ?_
  intro M X ZF
  refine z_Le (L' := [(0, .ref (a 1)), (1, .int x)]) rfl ?_
  have hpD : 2 ^ D ≤ 2 ^ 6 := Nat.pow_le_pow_right (by omega) hD
  have hpD1 : 1 ≤ 2 ^ D := Nat.one_le_two_pow
  have hpe : 2 ^ D - 1 + 1 = 2 ^ D := by omega
  refine z_iload_n X dX0_hasDays_0 rfl 1 rfl ?_
  refine z_if_lt (tgt := 16) X dX0_hasDays_1 (by decide) (fun hq1 => ?_) (fun hq1 => ?_)
  ·
    refine z_iconst (v := nI 0) X dX0_hasDays_16 (by decide) ?_
    exact z_zret X ZF dX0_hasDays_17 (bI_nar _) (by first | exact bI_f (zin_a hq1)) rfl
  ·
    refine z_iload_n X dX0_hasDays_4 rfl 1 rfl ?_
    refine z_aload_n X dX0_hasDays_5 rfl 0 rfl ?_
    refine z_callVM X (c_X0_allDays l g a D E so lk kd st sp nd (by omega)) gX0_hasDays_X0_allDays rfl ⟨rfl, rfl⟩ (by decide +kernel) ⟨Nat.le_of_ble_eq_true rfl, Nat.le_of_ble_eq_true rfl⟩ ZF.room (ci := 0) rfl 0 rfl rfl (As := []) (n := 0) rfl rfl (st1 := [.int (nI (2 ^ D - 1)), .int x]) rfl (Nat.le_of_ble_eq_true rfl) dX0_hasDays_6 ?_
    refine z_icmp_gt (tgt := 16) X dX0_hasDays_9 (by decide) (fun hq2 => ?_) (fun hq2 => ?_)
    ·
      refine z_iconst (v := nI 0) X dX0_hasDays_16 (by decide) ?_
      exact z_zret X ZF dX0_hasDays_17 (bI_nar _) (by first | exact bI_f (zin_a hq1) | (rw [← hpe]; exact bI_t (zin_d (by omega) hq1 hq2)) | (rw [← hpe]; exact bI_f (zin_e (by omega) hq2))) rfl
    ·
      refine z_iconst (v := nI 1) X dX0_hasDays_12 (by decide) ?_
      refine z_goto (tgt := 17) X dX0_hasDays_13 (by decide) ?_
      exact z_zret X ZF dX0_hasDays_17 (bI_nar _) (by first | exact bI_f (zin_a hq1) | (rw [← hpe]; exact bI_t (zin_d (by omega) hq1 hq2)) | (rw [← hpe]; exact bI_f (zin_e (by omega) hq2))) rfl
abbrev rX0_kindOf : Room := { frames := 1, cells := 0, slots := 0, locals := 21 }
set_option maxHeartbeats 4000000 in
set_option maxRecDepth 100000 in
theorem c_X0_kindOf (l : Launch) (g : zg) (a : Nat → Nat) (D : Nat) (E : Nat) (so : Int32) (lk : Nat → Int32) (kd : Nat → Int32) (st : Nat → Int32) (sp : Nat → Int32) (nd : Nat → Int32) (k : Nat) (hk : k < 4) : zM l g yX0_kindOf wsX0_kindOf rX0_kindOf [.ref (a 1), .int (nI k)] (wD g a D E so lk kd st sp nd) (some (.int (kd k))) (wD g a D E so lk kd st sp nd) := by
  refine z_met (own := RX0) (cc := cX0_kindOf) (maxL := 2) (ret := some .int) (by decide +kernel) rfl rfl (Nat.le_of_ble_eq_true rfl) ?_
  intro M X ZF
  refine z_Le (L' := [(0, .ref (a 1)), (1, .int (nI k))]) rfl ?_
  have i_RX0 : ∀ w ∈ wsX00, w ∈ wsX0_kindOf := by decide +kernel
  have f_15 : Cond.fieldLink RX0 15 (TX0 1).1 (TX0 1).2.1 (TX0 1).2.2.1 ∈ wsX0_kindOf := by decide +kernel
  have n_st_X4_numberIn : Cond.static yX4_numberIn ∈ wsX0_kindOf := by decide +kernel
  have n_in_RX4 : Cond.initialized RX4 ∈ wsX0_kindOf := by decide +kernel
  have n_nl_64 : (RX0, 64, yX4_numberIn, RX4) ∈ zNl := by decide +kernel
  refine z_aload_n X dX0_kindOf_0 rfl 0 rfl ?_
  refine z_get (v := .ref (a 3)) (N := 8) X i_RX0 (ci := 0) rfl 0 rfl 1 (by decide) f_15 rfl dX0_kindOf_1 ?_
  refine z_iload_n X dX0_kindOf_4 rfl 1 rfl ?_
  refine z_callN X (c_X4_numberIn l g (a 3) 4 kd k (by omega) (by omega)) gX0_kindOf_X4_numberIn_n64 n_nl_64 n_in_RX4 n_st_X4_numberIn rfl ⟨rfl, rfl⟩ (by decide +kernel) ⟨Nat.le_of_ble_eq_true rfl, Nat.le_of_ble_eq_true rfl⟩ ZF.room (isC := [2]) (by decide) rfl rfl (ws' := (wD g a D E so lk kd st sp nd)) rfl (As := [.ref (a 3), .int (nI k)]) (n := 2) rfl rfl (st1 := [.int (kd k)]) rfl (Nat.le_of_ble_eq_true rfl) dX0_kindOf_5 ?_
  exact z_iret X ZF dX0_kindOf_8 rfl rfl
abbrev rX0_stayOf : Room := { frames := 1, cells := 0, slots := 0, locals := 21 }
set_option maxHeartbeats 4000000 in
set_option maxRecDepth 100000 in
theorem c_X0_stayOf (l : Launch) (g : zg) (a : Nat → Nat) (D : Nat) (E : Nat) (so : Int32) (lk : Nat → Int32) (kd : Nat → Int32) (st : Nat → Int32) (sp : Nat → Int32) (nd : Nat → Int32) (k : Nat) (hk : k < 4) : zM l g yX0_stayOf wsX0_stayOf rX0_stayOf [.ref (a 1), .int (nI k)] (wD g a D E so lk kd st sp nd) (some (.int (st k))) (wD g a D E so lk kd st sp nd) := by
  refine z_met (own := RX0) (cc := cX0_stayOf) (maxL := 2) (ret := some .int) (by decide +kernel) rfl rfl (Nat.le_of_ble_eq_true rfl) ?_
  intro M X ZF
  refine z_Le (L' := [(0, .ref (a 1)), (1, .int (nI k))]) rfl ?_
  have i_RX0 : ∀ w ∈ wsX00, w ∈ wsX0_stayOf := by decide +kernel
  have f_18 : Cond.fieldLink RX0 18 (TX0 2).1 (TX0 2).2.1 (TX0 2).2.2.1 ∈ wsX0_stayOf := by decide +kernel
  have n_st_X4_numberIn : Cond.static yX4_numberIn ∈ wsX0_stayOf := by decide +kernel
  have n_in_RX4 : Cond.initialized RX4 ∈ wsX0_stayOf := by decide +kernel
  have n_nl_64 : (RX0, 64, yX4_numberIn, RX4) ∈ zNl := by decide +kernel
  refine z_aload_n X dX0_stayOf_0 rfl 0 rfl ?_
  refine z_get (v := .ref (a 4)) (N := 8) X i_RX0 (ci := 0) rfl 0 rfl 2 (by decide) f_18 rfl dX0_stayOf_1 ?_
  refine z_iload_n X dX0_stayOf_4 rfl 1 rfl ?_
  refine z_callN X (c_X4_numberIn l g (a 4) 4 st k (by omega) (by omega)) gX0_stayOf_X4_numberIn_n64 n_nl_64 n_in_RX4 n_st_X4_numberIn rfl ⟨rfl, rfl⟩ (by decide +kernel) ⟨Nat.le_of_ble_eq_true rfl, Nat.le_of_ble_eq_true rfl⟩ ZF.room (isC := [3]) (by decide) rfl rfl (ws' := (wD g a D E so lk kd st sp nd)) rfl (As := [.ref (a 4), .int (nI k)]) (n := 2) rfl rfl (st1 := [.int (st k)]) rfl (Nat.le_of_ble_eq_true rfl) dX0_stayOf_5 ?_
  exact z_iret X ZF dX0_stayOf_8 rfl rfl
abbrev rX0_spoonsOf : Room := { frames := 1, cells := 0, slots := 0, locals := 21 }
set_option maxHeartbeats 4000000 in
set_option maxRecDepth 100000 in
theorem c_X0_spoonsOf (l : Launch) (g : zg) (a : Nat → Nat) (D : Nat) (E : Nat) (so : Int32) (lk : Nat → Int32) (kd : Nat → Int32) (st : Nat → Int32) (sp : Nat → Int32) (nd : Nat → Int32) (k : Nat) (hk : k < 4) : zM l g yX0_spoonsOf wsX0_spoonsOf rX0_spoonsOf [.ref (a 1), .int (nI k)] (wD g a D E so lk kd st sp nd) (some (.int (sp k))) (wD g a D E so lk kd st sp nd) := by
  refine z_met (own := RX0) (cc := cX0_spoonsOf) (maxL := 2) (ret := some .int) (by decide +kernel) rfl rfl (Nat.le_of_ble_eq_true rfl) ?_
  intro M X ZF
  refine z_Le (L' := [(0, .ref (a 1)), (1, .int (nI k))]) rfl ?_
  have i_RX0 : ∀ w ∈ wsX00, w ∈ wsX0_spoonsOf := by decide +kernel
  have f_21 : Cond.fieldLink RX0 21 (TX0 3).1 (TX0 3).2.1 (TX0 3).2.2.1 ∈ wsX0_spoonsOf := by decide +kernel
  have n_st_X4_numberIn : Cond.static yX4_numberIn ∈ wsX0_spoonsOf := by decide +kernel
  have n_in_RX4 : Cond.initialized RX4 ∈ wsX0_spoonsOf := by decide +kernel
  have n_nl_64 : (RX0, 64, yX4_numberIn, RX4) ∈ zNl := by decide +kernel
  refine z_aload_n X dX0_spoonsOf_0 rfl 0 rfl ?_
  refine z_get (v := .ref (a 5)) (N := 8) X i_RX0 (ci := 0) rfl 0 rfl 3 (by decide) f_21 rfl dX0_spoonsOf_1 ?_
  refine z_iload_n X dX0_spoonsOf_4 rfl 1 rfl ?_
  refine z_callN X (c_X4_numberIn l g (a 5) 4 sp k (by omega) (by omega)) gX0_spoonsOf_X4_numberIn_n64 n_nl_64 n_in_RX4 n_st_X4_numberIn rfl ⟨rfl, rfl⟩ (by decide +kernel) ⟨Nat.le_of_ble_eq_true rfl, Nat.le_of_ble_eq_true rfl⟩ ZF.room (isC := [4]) (by decide) rfl rfl (ws' := (wD g a D E so lk kd st sp nd)) rfl (As := [.ref (a 5), .int (nI k)]) (n := 2) rfl rfl (st1 := [.int (sp k)]) rfl (Nat.le_of_ble_eq_true rfl) dX0_spoonsOf_5 ?_
  exact z_iret X ZF dX0_spoonsOf_8 rfl rfl
abbrev rX0_needOf : Room := { frames := 1, cells := 0, slots := 0, locals := 21 }
set_option maxHeartbeats 4000000 in
set_option maxRecDepth 100000 in
theorem c_X0_needOf (l : Launch) (g : zg) (a : Nat → Nat) (D : Nat) (E : Nat) (so : Int32) (lk : Nat → Int32) (kd : Nat → Int32) (st : Nat → Int32) (sp : Nat → Int32) (nd : Nat → Int32) (k : Nat) (hk : k < 4) : zM l g yX0_needOf wsX0_needOf rX0_needOf [.ref (a 1), .int (nI k)] (wD g a D E so lk kd st sp nd) (some (.int (nd k))) (wD g a D E so lk kd st sp nd) := by
  refine z_met (own := RX0) (cc := cX0_needOf) (maxL := 2) (ret := some .int) (by decide +kernel) rfl rfl (Nat.le_of_ble_eq_true rfl) ?_
  intro M X ZF
  refine z_Le (L' := [(0, .ref (a 1)), (1, .int (nI k))]) rfl ?_
  have i_RX0 : ∀ w ∈ wsX00, w ∈ wsX0_needOf := by decide +kernel
  have f_24 : Cond.fieldLink RX0 24 (TX0 4).1 (TX0 4).2.1 (TX0 4).2.2.1 ∈ wsX0_needOf := by decide +kernel
  have n_st_X4_numberIn : Cond.static yX4_numberIn ∈ wsX0_needOf := by decide +kernel
  have n_in_RX4 : Cond.initialized RX4 ∈ wsX0_needOf := by decide +kernel
  have n_nl_64 : (RX0, 64, yX4_numberIn, RX4) ∈ zNl := by decide +kernel
  refine z_aload_n X dX0_needOf_0 rfl 0 rfl ?_
  refine z_get (v := .ref (a 6)) (N := 8) X i_RX0 (ci := 0) rfl 0 rfl 4 (by decide) f_24 rfl dX0_needOf_1 ?_
  refine z_iload_n X dX0_needOf_4 rfl 1 rfl ?_
  refine z_callN X (c_X4_numberIn l g (a 6) 4 nd k (by omega) (by omega)) gX0_needOf_X4_numberIn_n64 n_nl_64 n_in_RX4 n_st_X4_numberIn rfl ⟨rfl, rfl⟩ (by decide +kernel) ⟨Nat.le_of_ble_eq_true rfl, Nat.le_of_ble_eq_true rfl⟩ ZF.room (isC := [5]) (by decide) rfl rfl (ws' := (wD g a D E so lk kd st sp nd)) rfl (As := [.ref (a 6), .int (nI k)]) (n := 2) rfl rfl (st1 := [.int (nd k)]) rfl (Nat.le_of_ble_eq_true rfl) dX0_needOf_5 ?_
  exact z_iret X ZF dX0_needOf_8 rfl rfl
abbrev rX0_lookOf : Room := { frames := 1, cells := 0, slots := 0, locals := 21 }
set_option maxHeartbeats 4000000 in
set_option maxRecDepth 100000 in
theorem c_X0_lookOf (l : Launch) (g : zg) (a : Nat → Nat) (D : Nat) (E : Nat) (so : Int32) (lk : Nat → Int32) (kd : Nat → Int32) (st : Nat → Int32) (sp : Nat → Int32) (nd : Nat → Int32) (k : Nat) (hk : k < 6) : zM l g yX0_lookOf wsX0_lookOf rX0_lookOf [.ref (a 1), .int (nI k)] (wD g a D E so lk kd st sp nd) (some (.int (lk k))) (wD g a D E so lk kd st sp nd) := by
  refine z_met (own := RX0) (cc := cX0_lookOf) (maxL := 2) (ret := some .int) (by decide +kernel) rfl rfl (Nat.le_of_ble_eq_true rfl) ?_
  intro M X ZF
  refine z_Le (L' := [(0, .ref (a 1)), (1, .int (nI k))]) rfl ?_
  have i_RX0 : ∀ w ∈ wsX00, w ∈ wsX0_lookOf := by decide +kernel
  have f_9 : Cond.fieldLink RX0 9 (TX0 0).1 (TX0 0).2.1 (TX0 0).2.2.1 ∈ wsX0_lookOf := by decide +kernel
  have n_st_X4_numberIn : Cond.static yX4_numberIn ∈ wsX0_lookOf := by decide +kernel
  have n_in_RX4 : Cond.initialized RX4 ∈ wsX0_lookOf := by decide +kernel
  have n_nl_64 : (RX0, 64, yX4_numberIn, RX4) ∈ zNl := by decide +kernel
  refine z_aload_n X dX0_lookOf_0 rfl 0 rfl ?_
  refine z_get (v := .ref (a 2)) (N := 8) X i_RX0 (ci := 0) rfl 0 rfl 0 (by decide) f_9 rfl dX0_lookOf_1 ?_
  refine z_iload_n X dX0_lookOf_4 rfl 1 rfl ?_
  refine z_callN X (c_X4_numberIn l g (a 2) 6 lk k (by omega) (by omega)) gX0_lookOf_X4_numberIn_n64 n_nl_64 n_in_RX4 n_st_X4_numberIn rfl ⟨rfl, rfl⟩ (by decide +kernel) ⟨Nat.le_of_ble_eq_true rfl, Nat.le_of_ble_eq_true rfl⟩ ZF.room (isC := [1]) (by decide) rfl rfl (ws' := (wD g a D E so lk kd st sp nd)) rfl (As := [.ref (a 2), .int (nI k)]) (n := 2) rfl rfl (st1 := [.int (lk k)]) rfl (Nat.le_of_ble_eq_true rfl) dX0_lookOf_5 ?_
  exact z_iret X ZF dX0_lookOf_8 rfl rfl
abbrev rX0_changeNeed : Room := { frames := 1, cells := 0, slots := 0, locals := 22 }
set_option maxHeartbeats 4000000 in
set_option maxRecDepth 100000 in
theorem c_X0_changeNeed (l : Launch) (g : zg) (a : Nat → Nat) (D : Nat) (E : Nat) (so : Int32) (lk : Nat → Int32) (kd : Nat → Int32) (st : Nat → Int32) (sp : Nat → Int32) (nd : Nat → Int32) (k : Nat) (v : Int32) (hk : k < 4) : zM l g yX0_changeNeed wsX0_changeNeed rX0_changeNeed [.ref (a 1), .int (nI k), .int v] (wD g a D E so lk kd st sp nd) none (wD g a D E so lk kd st sp (upd nd k v)) := by
  refine z_met (own := RX0) (cc := cX0_changeNeed) (maxL := 3) (ret := none) (by decide +kernel) rfl rfl (Nat.le_of_ble_eq_true rfl) ?_
  intro M X ZF
  refine z_Le (L' := [(0, .ref (a 1)), (1, .int (nI k)), (2, .int v)]) rfl ?_
  have i_RX0 : ∀ w ∈ wsX00, w ∈ wsX0_changeNeed := by decide +kernel
  have f_24 : Cond.fieldLink RX0 24 (TX0 4).1 (TX0 4).2.1 (TX0 4).2.2.1 ∈ wsX0_changeNeed := by decide +kernel
  have n_st_X4_changeIn : Cond.static yX4_changeIn ∈ wsX0_changeNeed := by decide +kernel
  have n_in_RX4 : Cond.initialized RX4 ∈ wsX0_changeNeed := by decide +kernel
  have n_nl_47 : (RX0, 47, yX4_changeIn, RX4) ∈ zNl := by decide +kernel
  refine z_aload_n X dX0_changeNeed_0 rfl 0 rfl ?_
  refine z_get (v := .ref (a 6)) (N := 8) X i_RX0 (ci := 0) rfl 0 rfl 4 (by decide) f_24 rfl dX0_changeNeed_1 ?_
  refine z_iload_n X dX0_changeNeed_4 rfl 1 rfl ?_
  refine z_iload_n X dX0_changeNeed_5 rfl 2 rfl ?_
  refine z_callN X (c_X4_changeIn l g (a 6) 4 nd k v (by omega) (by omega)) gX0_changeNeed_X4_changeIn_n47 n_nl_47 n_in_RX4 n_st_X4_changeIn rfl ⟨rfl, rfl⟩ (by decide +kernel) ⟨Nat.le_of_ble_eq_true rfl, Nat.le_of_ble_eq_true rfl⟩ ZF.room (isC := [5]) (by decide) rfl rfl (ws' := (wD g a D E so lk kd st sp (upd nd k v))) rfl (As := [.ref (a 6), .int (nI k), .int v]) (n := 3) rfl rfl (st1 := []) rfl (Nat.le_of_ble_eq_true rfl) dX0_changeNeed_6 ?_
  exact z_vret X ZF dX0_changeNeed_9 rfl
abbrev rX0_changeLook : Room := { frames := 1, cells := 0, slots := 0, locals := 22 }
set_option maxHeartbeats 4000000 in
set_option maxRecDepth 100000 in
theorem c_X0_changeLook (l : Launch) (g : zg) (a : Nat → Nat) (D : Nat) (E : Nat) (so : Int32) (lk : Nat → Int32) (kd : Nat → Int32) (st : Nat → Int32) (sp : Nat → Int32) (nd : Nat → Int32) (k : Nat) (v : Int32) (hk : k < 6) : zM l g yX0_changeLook wsX0_changeLook rX0_changeLook [.ref (a 1), .int (nI k), .int v] (wD g a D E so lk kd st sp nd) none (wD g a D E so (upd lk k v) kd st sp nd) := by
  refine z_met (own := RX0) (cc := cX0_changeLook) (maxL := 3) (ret := none) (by decide +kernel) rfl rfl (Nat.le_of_ble_eq_true rfl) ?_
  intro M X ZF
  refine z_Le (L' := [(0, .ref (a 1)), (1, .int (nI k)), (2, .int v)]) rfl ?_
  have i_RX0 : ∀ w ∈ wsX00, w ∈ wsX0_changeLook := by decide +kernel
  have f_9 : Cond.fieldLink RX0 9 (TX0 0).1 (TX0 0).2.1 (TX0 0).2.2.1 ∈ wsX0_changeLook := by decide +kernel
  have n_st_X4_changeIn : Cond.static yX4_changeIn ∈ wsX0_changeLook := by decide +kernel
  have n_in_RX4 : Cond.initialized RX4 ∈ wsX0_changeLook := by decide +kernel
  have n_nl_47 : (RX0, 47, yX4_changeIn, RX4) ∈ zNl := by decide +kernel
  refine z_aload_n X dX0_changeLook_0 rfl 0 rfl ?_
  refine z_get (v := .ref (a 2)) (N := 8) X i_RX0 (ci := 0) rfl 0 rfl 0 (by decide) f_9 rfl dX0_changeLook_1 ?_
  refine z_iload_n X dX0_changeLook_4 rfl 1 rfl ?_
  refine z_iload_n X dX0_changeLook_5 rfl 2 rfl ?_
  refine z_callN X (c_X4_changeIn l g (a 2) 6 lk k v (by omega) (by omega)) gX0_changeLook_X4_changeIn_n47 n_nl_47 n_in_RX4 n_st_X4_changeIn rfl ⟨rfl, rfl⟩ (by decide +kernel) ⟨Nat.le_of_ble_eq_true rfl, Nat.le_of_ble_eq_true rfl⟩ ZF.room (isC := [1]) (by decide) rfl rfl (ws' := (wD g a D E so (upd lk k v) kd st sp nd)) rfl (As := [.ref (a 2), .int (nI k), .int v]) (n := 3) rfl rfl (st1 := []) rfl (Nat.le_of_ble_eq_true rfl) dX0_changeLook_6 ?_
  exact z_vret X ZF dX0_changeLook_9 rfl
abbrev rX0_sourLook : Room := { frames := 0, cells := 0, slots := 0, locals := 0 }
set_option maxHeartbeats 4000000 in
set_option maxRecDepth 100000 in
theorem c_X0_sourLook (l : Launch) (g : zg) (a : Nat → Nat) (D : Nat) (E : Nat) (so : Int32) (lk : Nat → Int32) (kd : Nat → Int32) (st : Nat → Int32) (sp : Nat → Int32) (nd : Nat → Int32) : zM l g yX0_sourLook wsX0_sourLook rX0_sourLook [.ref (a 1)] (wD g a D E so lk kd st sp nd) (some (.int so)) (wD g a D E so lk kd st sp nd) := by
  refine z_met (own := RX0) (cc := cX0_sourLook) (maxL := 1) (ret := some .int) (by decide +kernel) rfl rfl (Nat.le_of_ble_eq_true rfl) ?_
  intro M X ZF
  refine z_Le (L' := [(0, .ref (a 1))]) rfl ?_
  have i_RX0 : ∀ w ∈ wsX00, w ∈ wsX0_sourLook := by decide +kernel
  have f_33 : Cond.fieldLink RX0 33 (TX0 7).1 (TX0 7).2.1 (TX0 7).2.2.1 ∈ wsX0_sourLook := by decide +kernel
  refine z_aload_n X dX0_sourLook_0 rfl 0 rfl ?_
  refine z_get (v := .int so) (N := 8) X i_RX0 (ci := 0) rfl 0 rfl 7 (by decide) f_33 rfl dX0_sourLook_1 ?_
  exact z_iret X ZF dX0_sourLook_4 rfl rfl
abbrev rX0_changeSour : Room := { frames := 0, cells := 0, slots := 0, locals := 0 }
set_option maxHeartbeats 4000000 in
set_option maxRecDepth 100000 in
theorem c_X0_changeSour (l : Launch) (g : zg) (a : Nat → Nat) (D : Nat) (E : Nat) (so : Int32) (lk : Nat → Int32) (kd : Nat → Int32) (st : Nat → Int32) (sp : Nat → Int32) (nd : Nat → Int32) (v : Int32) : zM l g yX0_changeSour wsX0_changeSour rX0_changeSour [.ref (a 1), .int v] (wD g a D E so lk kd st sp nd) none (wD g a D E v lk kd st sp nd) := by
  refine z_met (own := RX0) (cc := cX0_changeSour) (maxL := 2) (ret := none) (by decide +kernel) rfl rfl (Nat.le_of_ble_eq_true rfl) ?_
  intro M X ZF
  refine z_Le (L' := [(0, .ref (a 1)), (1, .int v)]) rfl ?_
  have i_RX0 : ∀ w ∈ wsX00, w ∈ wsX0_changeSour := by decide +kernel
  have f_33 : Cond.fieldLink RX0 33 (TX0 7).1 (TX0 7).2.1 (TX0 7).2.2.1 ∈ wsX0_changeSour := by decide +kernel
  refine z_aload_n X dX0_changeSour_0 rfl 0 rfl ?_
  refine z_iload_n X dX0_changeSour_1 rfl 1 rfl ?_
  refine z_put (ws' := (wD g a D E v lk kd st sp nd)) (N := 8) X i_RX0 (ci := 0) rfl tyX0 tyX0_ok nmX0 0 rfl 7 (by decide) f_33 rfl (ty := .int) (by decide +kernel) rfl rfl (Nat.le_of_ble_eq_true rfl) dX0_changeSour_2 rfl ?_
  exact z_vret X ZF dX0_changeSour_5 rfl
