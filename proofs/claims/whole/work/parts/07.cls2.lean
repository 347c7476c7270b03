def bc1 (n : Nat) : Nat := tn (nI n - (((nI n).toUInt32 >>> ((nI 1).toUInt32 &&& Int32.toUInt32 31)).toInt32 &&& 1431655765))
theorem bc1_eq : ∀ n, n < 64 → nI n - (((nI n).toUInt32 >>> ((nI 1).toUInt32 &&& Int32.toUInt32 31)).toInt32 &&& 1431655765) = nI (bc1 n) := by decide +kernel
def bc2 (n : Nat) : Nat := tn ((nI (bc1 n) &&& 858993459) + (((nI (bc1 n)).toUInt32 >>> ((nI 2).toUInt32 &&& Int32.toUInt32 31)).toInt32 &&& 858993459))
theorem bc2_eq : ∀ n, n < 64 → (nI (bc1 n) &&& 858993459) + (((nI (bc1 n)).toUInt32 >>> ((nI 2).toUInt32 &&& Int32.toUInt32 31)).toInt32 &&& 858993459) = nI (bc2 n) := by decide +kernel
def bc3 (n : Nat) : Nat := tn ((nI (bc2 n) + ((nI (bc2 n)).toUInt32 >>> ((nI 4).toUInt32 &&& Int32.toUInt32 31)).toInt32) &&& 252645135)
theorem bc3_eq : ∀ n, n < 64 → (nI (bc2 n) + ((nI (bc2 n)).toUInt32 >>> ((nI 4).toUInt32 &&& Int32.toUInt32 31)).toInt32) &&& 252645135 = nI (bc3 n) := by decide +kernel
def bc4 (n : Nat) : Nat := tn (nI (bc3 n) + ((nI (bc3 n)).toUInt32 >>> ((nI 8).toUInt32 &&& Int32.toUInt32 31)).toInt32)
theorem bc4_eq : ∀ n, n < 64 → nI (bc3 n) + ((nI (bc3 n)).toUInt32 >>> ((nI 8).toUInt32 &&& Int32.toUInt32 31)).toInt32 = nI (bc4 n) := by decide +kernel
def bc5 (n : Nat) : Nat := tn (nI (bc4 n) + ((nI (bc4 n)).toUInt32 >>> ((nI 16).toUInt32 &&& Int32.toUInt32 31)).toInt32)
theorem bc5_eq : ∀ n, n < 64 → nI (bc4 n) + ((nI (bc4 n)).toUInt32 >>> ((nI 16).toUInt32 &&& Int32.toUInt32 31)).toInt32 = nI (bc5 n) := by decide +kernel
theorem bc6_eq : ∀ n, n < 64 → nI (bc5 n &&& 63) = nI (pc n) := by decide +kernel
abbrev rX0_lastsBy : Room := { frames := 0, cells := 0, slots := 0, locals := 0 }
set_option maxHeartbeats 4000000 in
set_option maxRecDepth 100000 in
theorem c_X0_lastsBy (l : Launch) (g : zg) (kx : Int32) (sx : Int32) : zM l g yX0_lastsBy wsX0_lastsBy rX0_lastsBy [.int kx, .int sx] [] (some (.int (lbI kx sx))) [] := by
  refine z_met (own := RX0) (cc := cX0_lastsBy) (maxL := 3) (ret := some .int) (by decide +kernel) rfl rfl (Nat.le_of_ble_eq_true rfl) ?_
  intro M X ZF
  refine z_Le (L' := [(0, .int kx), (1, .int sx)]) rfl ?_
  refine z_iload_n X dX0_lastsBy_0 rfl 0 rfl ?_
  refine z_if_ne (tgt := 6) X dX0_lastsBy_1 (by decide) (fun hq1 => ?_) (fun hq1 => ?_)
  ·
    refine z_iload_n X dX0_lastsBy_6 rfl 1 rfl ?_
    refine z_if_le (tgt := 16) X dX0_lastsBy_7 (by decide) (fun hq2 => ?_) (fun hq2 => ?_)
    ·
      refine z_iconst (v := nI 0) X dX0_lastsBy_16 (by decide) ?_
      refine z_istore_n (L' := [(2, .int (nI 0)), (0, .int kx), (1, .int sx)]) X dX0_lastsBy_17 rfl (by decide) rfl ?_
      refine z_iload_n X dX0_lastsBy_18 rfl 1 rfl ?_
      refine z_iconst (v := nI 1) X dX0_lastsBy_19 (by decide) ?_
      refine z_icmp_ne (tgt := 27) X dX0_lastsBy_20 (by decide) (fun hq3 => ?_) (fun hq3 => ?_)
      ·
        refine z_iload_n X dX0_lastsBy_27 rfl 0 rfl ?_
        refine z_iconst (v := nI 2) X dX0_lastsBy_28 (by decide) ?_
        refine z_idiv X dX0_lastsBy_29 (by decide) ?_
        exact z_iret X ZF dX0_lastsBy_30 (by simp [lbI, nI10, hq1, hq2, hq3]) rfl
      ·
        refine z_iload_n X dX0_lastsBy_23 rfl 0 rfl ?_
        refine z_goto (tgt := 30) X dX0_lastsBy_24 (by decide) ?_
        exact z_iret X ZF dX0_lastsBy_30 (by simp [lbI, nI10, hq1, hq2, hq3]) rfl
    ·
      refine z_iload_n X dX0_lastsBy_10 rfl 1 rfl ?_
      refine z_iconst (v := nI 1) X dX0_lastsBy_11 (by decide) ?_
      refine z_isub X dX0_lastsBy_12 ?_
      refine z_goto (tgt := 17) X dX0_lastsBy_13 (by decide) ?_
      refine z_istore_n (L' := [(2, .int (sx - (nI 1))), (0, .int kx), (1, .int sx)]) X dX0_lastsBy_17 rfl (by decide) rfl ?_
      refine z_iload_n X dX0_lastsBy_18 rfl 1 rfl ?_
      refine z_iconst (v := nI 1) X dX0_lastsBy_19 (by decide) ?_
      refine z_icmp_ne (tgt := 27) X dX0_lastsBy_20 (by decide) (fun hq4 => ?_) (fun hq4 => ?_)
      ·
        refine z_iload_n X dX0_lastsBy_27 rfl 0 rfl ?_
        refine z_iconst (v := nI 2) X dX0_lastsBy_28 (by decide) ?_
        refine z_idiv X dX0_lastsBy_29 (by decide) ?_
        exact z_iret X ZF dX0_lastsBy_30 (by simp [lbI, nI10, hq1, hq2, hq4]) rfl
      ·
        refine z_iload_n X dX0_lastsBy_23 rfl 0 rfl ?_
        refine z_goto (tgt := 30) X dX0_lastsBy_24 (by decide) ?_
        exact z_iret X ZF dX0_lastsBy_30 (by simp [lbI, nI10, hq1, hq2, hq4]) rfl
  ·
    refine z_iload_n X dX0_lastsBy_4 rfl 1 rfl ?_
    exact z_iret X ZF dX0_lastsBy_5 (by simp [lbI, nI10, hq1]) rfl
abbrev rX0_lastsOf : Room := { frames := 1, cells := 0, slots := 0, locals := 22 }
set_option maxHeartbeats 4000000 in
set_option maxRecDepth 100000 in
theorem c_X0_lastsOf (l : Launch) (g : zg) (a : Nat → Nat) (D : Nat) (E : Nat) (so : Int32) (lk : Nat → Int32) (kd : Nat → Int32) (st : Nat → Int32) (sp : Nat → Int32) (nd : Nat → Int32) (k : Nat) (hk : k < E) (hE : E ≤ 4) (hL : vL kd st E) : zM l g yX0_lastsOf wsX0_lastsOf rX0_lastsOf [.ref (a 1), .int (nI k)] (wD g a D E so lk kd st sp nd) (some (.int (nI (Lf kd st k)))) (wD g a D E so lk kd st sp nd) := by
  refine z_met (own := RX0) (cc := cX0_lastsOf) (maxL := 2) (ret := some .int) (by decide +kernel) rfl rfl (Nat.le_of_ble_eq_true rfl) ?_
  intro M X ZF
  refine z_Le (L' := [(0, .ref (a 1)), (1, .int (nI k))]) rfl ?_
  have i_RX0 : ∀ w ∈ wsX00, w ∈ wsX0_lastsOf := by decide +kernel
  have f_15 : Cond.fieldLink RX0 15 (TX0 1).1 (TX0 1).2.1 (TX0 1).2.2.1 ∈ wsX0_lastsOf := by decide +kernel
  have n_st_X4_numberIn : Cond.static yX4_numberIn ∈ wsX0_lastsOf := by decide +kernel
  have n_in_RX4 : Cond.initialized RX4 ∈ wsX0_lastsOf := by decide +kernel
  have n_nl_64 : (RX0, 64, yX4_numberIn, RX4) ∈ zNl := by decide +kernel
  have f_18 : Cond.fieldLink RX0 18 (TX0 2).1 (TX0 2).2.1 (TX0 2).2.2.1 ∈ wsX0_lastsOf := by decide +kernel
  refine z_aload_n X dX0_lastsOf_0 rfl 0 rfl ?_
  refine z_get (v := .ref (a 3)) (N := 8) X i_RX0 (ci := 0) rfl 0 rfl 1 (by decide) f_15 rfl dX0_lastsOf_1 ?_
  refine z_iload_n X dX0_lastsOf_4 rfl 1 rfl ?_
  refine z_callN X (c_X4_numberIn l g (a 3) 4 kd k (by omega) (by omega)) gX0_lastsOf_X4_numberIn_n64 n_nl_64 n_in_RX4 n_st_X4_numberIn rfl ⟨rfl, rfl⟩ (by decide +kernel) ⟨Nat.le_of_ble_eq_true rfl, Nat.le_of_ble_eq_true rfl⟩ ZF.room (isC := [2]) (by decide) rfl rfl (ws' := (wD g a D E so lk kd st sp nd)) rfl (As := [.ref (a 3), .int (nI k)]) (n := 2) rfl rfl (st1 := [.int (kd k)]) rfl (Nat.le_of_ble_eq_true rfl) dX0_lastsOf_5 ?_
  refine z_aload_n X dX0_lastsOf_8 rfl 0 rfl ?_
  refine z_get (v := .ref (a 4)) (N := 8) X i_RX0 (ci := 0) rfl 0 rfl 2 (by decide) f_18 rfl dX0_lastsOf_9 ?_
  refine z_iload_n X dX0_lastsOf_12 rfl 1 rfl ?_
  refine z_callN X (c_X4_numberIn l g (a 4) 4 st k (by omega) (by omega)) gX0_lastsOf_X4_numberIn_n64 n_nl_64 n_in_RX4 n_st_X4_numberIn rfl ⟨rfl, rfl⟩ (by decide +kernel) ⟨Nat.le_of_ble_eq_true rfl, Nat.le_of_ble_eq_true rfl⟩ ZF.room (isC := [3]) (by decide) rfl rfl (ws' := (wD g a D E so lk kd st sp nd)) rfl (As := [.ref (a 4), .int (nI k)]) (n := 2) rfl rfl (st1 := [.int (st k), .int (kd k)]) rfl (Nat.le_of_ble_eq_true rfl) dX0_lastsOf_13 ?_
  refine z_callS0 X (c_X0_lastsBy l g (kd k) (st k)) gX0_lastsOf_X0_lastsBy rfl ⟨rfl, rfl⟩ (by decide +kernel) ⟨Nat.le_of_ble_eq_true rfl, Nat.le_of_ble_eq_true rfl⟩ ZF.room (As := [.int (kd k), .int (st k)]) (n := 2) rfl rfl (st1 := [.int (lbI (kd k) (st k))]) rfl (Nat.le_of_ble_eq_true rfl) dX0_lastsOf_16 ?_
  refine z_top (y := nI (Lf kd st k)) (hL _ (by omega)).1 ?_
  exact z_iret X ZF dX0_lastsOf_19 rfl rfl
abbrev rX0_fastDays : Room := { frames := 1, cells := 0, slots := 0, locals := 21 }
set_option maxHeartbeats 4000000 in
set_option maxRecDepth 100000 in
theorem c_X0_fastDays (l : Launch) (g : zg) (a : Nat → Nat) (D : Nat) (E : Nat) (so : Int32) (lk : Nat → Int32) (kd : Nat → Int32) (st : Nat → Int32) (sp : Nat → Int32) (nd : Nat → Int32) (hD : D ≤ 6) : zM l g yX0_fastDays wsX0_fastDays rX0_fastDays [.ref (a 1)] (wD g a D E so lk kd st sp nd) (some (.int (nI (fs lk so D)))) (wD g a D E so lk kd st sp nd) := by
  refine z_met (own := RX0) (cc := cX0_fastDays) (maxL := 3) (ret := some .int) (by decide +kernel) rfl rfl (Nat.le_of_ble_eq_true rfl) ?_
  intro M X ZF
  refine z_Le (L' := [(0, .ref (a 1))]) rfl ?_
  have i_RX0 : ∀ w ∈ wsX00, w ∈ wsX0_fastDays := by decide +kernel
  have f_37 : Cond.fieldLink RX0 37 (TX0 5).1 (TX0 5).2.1 (TX0 5).2.2.1 ∈ wsX0_fastDays := by decide +kernel
  have f_9 : Cond.fieldLink RX0 9 (TX0 0).1 (TX0 0).2.1 (TX0 0).2.2.1 ∈ wsX0_fastDays := by decide +kernel
  have n_st_X4_numberIn : Cond.static yX4_numberIn ∈ wsX0_fastDays := by decide +kernel
  have n_in_RX4 : Cond.initialized RX4 ∈ wsX0_fastDays := by decide +kernel
  have n_nl_64 : (RX0, 64, yX4_numberIn, RX4) ∈ zNl := by decide +kernel
  have f_33 : Cond.fieldLink RX0 33 (TX0 7).1 (TX0 7).2.1 (TX0 7).2.2.1 ∈ wsX0_fastDays := by decide +kernel
  refine z_iconst (v := nI 0) X dX0_fastDays_0 (by decide) ?_
  refine z_istore_n (L' := [(1, .int (nI 0)), (0, .ref (a 1))]) X dX0_fastDays_1 rfl (by decide) rfl ?_
  refine z_iconst (v := nI 0) X dX0_fastDays_2 (by decide) ?_
  refine z_istore_n (L' := [(2, .int (nI 0)), (1, .int (nI 0)), (0, .ref (a 1))]) X dX0_fastDays_3 rfl (by decide) rfl ?_
  have loopv1 : ∀ (n1 i_v : Nat), i_v ≤ D → D + 1 ≤ i_v + n1 → zG l g 3 M (wD g a D E so lk kd st sp nd) [(0, .ref (a 1)), (1, .int (nI (fs lk so i_v))), (2, .int (nI i_v))] 4 [] := by
    intro n1
    induction n1 with
    | zero => intro i_v h1 h2; exact absurd h2 (by omega)
    | succ n1 ih1 =>
      intro i_v hi1 hn1
      refine z_iload_n X dX0_fastDays_4 rfl 2 rfl ?_
      refine z_aload_n X dX0_fastDays_5 rfl 0 rfl ?_
      refine z_get (v := .int (nI D)) (N := 8) X i_RX0 (ci := 0) rfl 0 rfl 5 (by decide) f_37 rfl dX0_fastDays_6 ?_
      refine z_icmp_geN (tgt := 39) X dX0_fastDays_9 (by decide) (by omega) (by omega) (fun hq2 => ?_) (fun hq2 => ?_)
      ·
        refine z_iload_n X dX0_fastDays_39 rfl 1 rfl ?_
        exact z_iret X ZF dX0_fastDays_40 (by rw [show i_v = D by omega]) rfl
      ·
        refine z_aload_n X dX0_fastDays_12 rfl 0 rfl ?_
        refine z_get (v := .ref (a 2)) (N := 8) X i_RX0 (ci := 0) rfl 0 rfl 0 (by decide) f_9 rfl dX0_fastDays_13 ?_
        refine z_iload_n X dX0_fastDays_16 rfl 2 rfl ?_
        refine z_callN X (c_X4_numberIn l g (a 2) 6 lk i_v (by omega) (by omega)) gX0_fastDays_X4_numberIn_n64 n_nl_64 n_in_RX4 n_st_X4_numberIn rfl ⟨rfl, rfl⟩ (by decide +kernel) ⟨Nat.le_of_ble_eq_true rfl, Nat.le_of_ble_eq_true rfl⟩ ZF.room (isC := [1]) (by decide) rfl rfl (ws' := (wD g a D E so lk kd st sp nd)) rfl (As := [.ref (a 2), .int (nI i_v)]) (n := 2) rfl rfl (st1 := [.int (lk i_v)]) rfl (Nat.le_of_ble_eq_true rfl) dX0_fastDays_17 ?_
        refine z_aload_n X dX0_fastDays_20 rfl 0 rfl ?_
        refine z_get (v := .int so) (N := 8) X i_RX0 (ci := 0) rfl 0 rfl 7 (by decide) f_33 rfl dX0_fastDays_21 ?_
        refine z_icmp_lt (tgt := 33) X dX0_fastDays_24 (by decide) (fun hq3 => ?_) (fun hq3 => ?_)
        ·
          refine z_iinc (v := nI (i_v + 1)) (L' := [(2, .int (nI (i_v + 1))), (0, .ref (a 1)), (1, .int (nI (fs lk so i_v)))]) X dX0_fastDays_33 2 rfl (nI_inc i_v 1) (by decide) rfl ?_
          refine z_goto (tgt := 4) X dX0_fastDays_36 (by decide) ?_
          refine z_ls (L' := [(0, .ref (a 1)), (1, .int (nI (fs lk so i_v))), (2, .int (nI (i_v + 1)))]) [1, 2, 0] rfl ?_
          have e4 : (nI (fs lk so i_v)) = (nI (fs lk so (i_v + 1))) := by first | rfl | simp [fs, hq2, hq3]
          refine z_Le (L' := [(0, .ref (a 1)), (1, .int (nI (fs lk so (i_v + 1)))), (2, .int (nI (i_v + 1)))]) (by rw [← e4]) ?_
          exact ih1 (i_v + 1) (by omega) (by omega)
        ·
          refine z_iload_n X dX0_fastDays_27 rfl 1 rfl ?_
          refine z_iconst (v := nI 1) X dX0_fastDays_28 (by decide) ?_
          refine z_iload_n X dX0_fastDays_29 rfl 2 rfl ?_
          refine z_ishl' (v := nI (2 ^ i_v)) X dX0_fastDays_30 (nI_shl1 (by omega)) ?_
          refine z_ior' (v := nI ((fs lk so i_v) ||| (2 ^ i_v))) X dX0_fastDays_31 (fa_or _ _) ?_
          refine z_istore_n (L' := [(1, .int (nI ((fs lk so i_v) ||| (2 ^ i_v)))), (0, .ref (a 1)), (2, .int (nI i_v))]) X dX0_fastDays_32 rfl (by decide) rfl ?_
          refine z_iinc (v := nI (i_v + 1)) (L' := [(2, .int (nI (i_v + 1))), (1, .int (nI ((fs lk so i_v) ||| (2 ^ i_v)))), (0, .ref (a 1))]) X dX0_fastDays_33 2 rfl (nI_inc i_v 1) (by decide) rfl ?_
          refine z_goto (tgt := 4) X dX0_fastDays_36 (by decide) ?_
          refine z_ls (L' := [(0, .ref (a 1)), (1, .int (nI ((fs lk so i_v) ||| (2 ^ i_v)))), (2, .int (nI (i_v + 1)))]) [2, 1, 0] rfl ?_
          have e5 : (nI ((fs lk so i_v) ||| (2 ^ i_v))) = (nI (fs lk so (i_v + 1))) := by first | rfl | simp [fs, hq2, hq3]
          refine z_Le (L' := [(0, .ref (a 1)), (1, .int (nI (fs lk so (i_v + 1)))), (2, .int (nI (i_v + 1)))]) (by rw [← e5]) ?_
          exact ih1 (i_v + 1) (by omega) (by omega)
  refine z_ls (L' := [(0, .ref (a 1)), (1, .int (nI 0)), (2, .int (nI 0))]) [2, 1, 0] rfl ?_
  have e6 : (nI 0) = (nI (fs lk so 0)) := by first | rfl | simp [fs, ]
  refine z_Le (L' := [(0, .ref (a 1)), (1, .int (nI (fs lk so 0))), (2, .int (nI 0))]) (by rw [← e6]) ?_
  exact loopv1 (D + 1) 0 (by omega) (by omega)
abbrev rX0_fastDaysBut : Room := { frames := 2, cells := 0, slots := 0, locals := 43 }
set_option maxHeartbeats 4000000 in
set_option maxRecDepth 100000 in
theorem c_X0_fastDaysBut (l : Launch) (g : zg) (a : Nat → Nat) (D : Nat) (E : Nat) (so : Int32) (lk : Nat → Int32) (kd : Nat → Int32) (st : Nat → Int32) (sp : Nat → Int32) (nd : Nat → Int32) (d : Nat) (hD : D ≤ 6) (hd : d < D) : zM l g yX0_fastDaysBut wsX0_fastDaysBut rX0_fastDaysBut [.ref (a 1), .int (nI d)] (wD g a D E so lk kd st sp nd) (some (.int (nI (clr (fs lk so D) d)))) (wD g a D E so lk kd st sp nd) := by
  refine z_met (own := RX0) (cc := cX0_fastDaysBut) (maxL := 2) (ret := some .int) (by decide +kernel) rfl rfl (Nat.le_of_ble_eq_true rfl) ?_
  intro M X ZF
  refine z_Le (L' := [(0, .ref (a 1)), (1, .int (nI d))]) rfl ?_
  refine z_aload_n X dX0_fastDaysBut_0 rfl 0 rfl ?_
  refine z_callVM X (c_X0_fastDays l g a D E so lk kd st sp nd (by omega)) gX0_fastDaysBut_X0_fastDays rfl ⟨rfl, rfl⟩ (by decide +kernel) ⟨Nat.le_of_ble_eq_true rfl, Nat.le_of_ble_eq_true rfl⟩ ZF.room (ci := 0) rfl 0 rfl rfl (As := []) (n := 0) rfl rfl (st1 := [.int (nI (fs lk so D))]) rfl (Nat.le_of_ble_eq_true rfl) dX0_fastDaysBut_1 ?_
  refine z_iconst (v := nI 1) X dX0_fastDaysBut_4 (by decide) ?_
  refine z_iload_n X dX0_fastDaysBut_5 rfl 1 rfl ?_
  refine z_ishl' (v := nI (2 ^ d)) X dX0_fastDaysBut_6 (nI_shl1 (by omega)) ?_
  refine z_iconst (v := (-1)) X dX0_fastDaysBut_7 (by decide) ?_
  refine z_ixor X dX0_fastDaysBut_8 ?_
  refine z_iand X dX0_fastDaysBut_9 ?_
  exact z_iret X ZF dX0_fastDaysBut_10 (by exact clr_I _ (fs_lt6 hD) _ (by omega)) rfl
abbrev rX0_yellowDays : Room := { frames := 1, cells := 0, slots := 0, locals := 20 }
set_option maxHeartbeats 4000000 in
set_option maxRecDepth 100000 in
theorem c_X0_yellowDays (l : Launch) (g : zg) (a : Nat → Nat) (D : Nat) (E : Nat) (so : Int32) (lk : Nat → Int32) (kd : Nat → Int32) (st : Nat → Int32) (sp : Nat → Int32) (nd : Nat → Int32) (L : Nat) (S : Nat) (hD : D ≤ 6) (hLL : L ≤ 5) : zM l g yX0_yellowDays wsX0_yellowDays rX0_yellowDays [.ref (a 1), .int (nI L), .int (nI S)] (wD g a D E so lk kd st sp nd) (some (.int (nI (yl D L S)))) (wD g a D E so lk kd st sp nd) := by
  refine z_met (own := RX0) (cc := cX0_yellowDays) (maxL := 5) (ret := some .int) (by decide +kernel) rfl rfl (Nat.le_of_ble_eq_true rfl) ?_
  intro M X ZF
  refine z_Le (L' := [(0, .ref (a 1)), (1, .int (nI L)), (2, .int (nI S))]) rfl ?_
  refine z_iconst (v := nI 0) X dX0_yellowDays_0 (by decide) ?_
  refine z_istore_n (L' := [(3, .int (nI 0)), (0, .ref (a 1)), (1, .int (nI L)), (2, .int (nI S))]) X dX0_yellowDays_1 rfl (by decide) rfl ?_
  refine z_iconst (v := nI 0) X dX0_yellowDays_2 (by decide) ?_
  refine z_istore (L' := [(4, .int (nI 0)), (3, .int (nI 0)), (0, .ref (a 1)), (1, .int (nI L)), (2, .int (nI S))]) X dX0_yellowDays_3 (by decide) rfl ?_
  have loopv1 : ∀ (n1 b_v : Nat), b_v ≤ L + 1 → L + 1 + 1 ≤ b_v + n1 → zG l g 5 M (wD g a D E so lk kd st sp nd) [(0, .ref (a 1)), (1, .int (nI L)), (2, .int (nI S)), (3, .int (nI (yo S b_v))), (4, .int (nI b_v))] 5 [] := by
    intro n1
    induction n1 with
    | zero => intro b_v h1 h2; exact absurd h2 (by omega)
    | succ n1 ih1 =>
      intro b_v hi1 hn1
      refine z_iload X dX0_yellowDays_5 4 rfl ?_
      refine z_iload_n X dX0_yellowDays_7 rfl 1 rfl ?_
      refine z_icmp_gtN (tgt := 30) X dX0_yellowDays_8 (by decide) (by omega) (by omega) (fun hq2 => ?_) (fun hq2 => ?_)
      ·
        refine z_iload_n X dX0_yellowDays_30 rfl 3 rfl ?_
        refine z_aload_n X dX0_yellowDays_31 rfl 0 rfl ?_
        refine z_callVM X (c_X0_allDays l g a D E so lk kd st sp nd (by omega)) gX0_yellowDays_X0_allDays rfl ⟨rfl, rfl⟩ (by decide +kernel) ⟨Nat.le_of_ble_eq_true rfl, Nat.le_of_ble_eq_true rfl⟩ ZF.room (ci := 0) rfl 0 rfl rfl (As := []) (n := 0) rfl rfl (st1 := [.int (nI (2 ^ D - 1)), .int (nI (yo S b_v))]) rfl (Nat.le_of_ble_eq_true rfl) dX0_yellowDays_32 ?_
        refine z_iand' (v := nI ((yo S b_v) &&& (2 ^ D - 1))) X dX0_yellowDays_35 (fa_and _ _) ?_
        exact z_iret X ZF dX0_yellowDays_36 (by rw [show b_v = L + 1 by omega]; rfl) rfl
      ·
        refine z_iload X dX0_yellowDays_11 4 rfl ?_
        refine z_iconst (v := nI 5) X dX0_yellowDays_13 (by decide) ?_
        refine z_icmp_gtN (tgt := 30) X dX0_yellowDays_14 (by decide) (by omega) (by omega) (fun hq3 => ?_) (fun hq3 => ?_)
        ·
          exact absurd hq3 (by omega)
        ·
          refine z_iload_n X dX0_yellowDays_17 rfl 3 rfl ?_
          refine z_iload_n X dX0_yellowDays_18 rfl 2 rfl ?_
          refine z_iload X dX0_yellowDays_19 4 rfl ?_
          refine z_ishl' (v := nI (S * 2 ^ b_v)) X dX0_yellowDays_21 (nI_shl _ (by omega)) ?_
          refine z_ior' (v := nI ((yo S b_v) ||| (S * 2 ^ b_v))) X dX0_yellowDays_22 (fa_or _ _) ?_
          refine z_istore_n (L' := [(3, .int (nI ((yo S b_v) ||| (S * 2 ^ b_v)))), (0, .ref (a 1)), (1, .int (nI L)), (2, .int (nI S)), (4, .int (nI b_v))]) X dX0_yellowDays_23 rfl (by decide) rfl ?_
          refine z_iinc (v := nI (b_v + 1)) (L' := [(4, .int (nI (b_v + 1))), (3, .int (nI ((yo S b_v) ||| (S * 2 ^ b_v)))), (0, .ref (a 1)), (1, .int (nI L)), (2, .int (nI S))]) X dX0_yellowDays_24 4 rfl (nI_inc b_v 1) (by decide) rfl ?_
          refine z_goto (tgt := 5) X dX0_yellowDays_27 (by decide) ?_
          refine z_ls (L' := [(0, .ref (a 1)), (1, .int (nI L)), (2, .int (nI S)), (3, .int (nI ((yo S b_v) ||| (S * 2 ^ b_v)))), (4, .int (nI (b_v + 1)))]) [2, 3, 4, 1, 0] rfl ?_
          have e4 : (nI ((yo S b_v) ||| (S * 2 ^ b_v))) = (nI (yo S (b_v + 1))) := by rfl
          refine z_Le (L' := [(0, .ref (a 1)), (1, .int (nI L)), (2, .int (nI S)), (3, .int (nI (yo S (b_v + 1)))), (4, .int (nI (b_v + 1)))]) (by rw [← e4]) ?_
          exact ih1 (b_v + 1) (by omega) (by omega)
  refine z_ls (L' := [(0, .ref (a 1)), (1, .int (nI L)), (2, .int (nI S)), (3, .int (nI 0)), (4, .int (nI 0))]) [2, 3, 4, 1, 0] rfl ?_
  have e5 : (nI 0) = (nI (yo S 0)) := by rfl
  refine z_Le (L' := [(0, .ref (a 1)), (1, .int (nI L)), (2, .int (nI S)), (3, .int (nI (yo S 0))), (4, .int (nI 0))]) (by rw [← e5]) ?_
  exact loopv1 ((L + 1) + 1) 0 (by omega) (by omega)
abbrev rX0_foundDays : Room := { frames := 2, cells := 0, slots := 0, locals := 44 }
set_option maxHeartbeats 4000000 in
set_option maxRecDepth 100000 in
theorem c_X0_foundDays (l : Launch) (g : zg) (a : Nat → Nat) (D : Nat) (E : Nat) (so : Int32) (lk : Nat → Int32) (kd : Nat → Int32) (st : Nat → Int32) (sp : Nat → Int32) (nd : Nat → Int32) (k : Nat) (S : Nat) (hk : k < E) (hE : E ≤ 4) (hD : D ≤ 6) (hL : vL kd st E) : zM l g yX0_foundDays wsX0_foundDays rX0_foundDays [.ref (a 1), .int (nI k), .int (nI S)] (wD g a D E so lk kd st sp nd) (some (.int (nI (fnd D (Lf kd st k) S (fs lk so D))))) (wD g a D E so lk kd st sp nd) := by
  refine z_met (own := RX0) (cc := cX0_foundDays) (maxL := 3) (ret := some .int) (by decide +kernel) rfl rfl (Nat.le_of_ble_eq_true rfl) ?_
  intro M X ZF
  refine z_Le (L' := [(0, .ref (a 1)), (1, .int (nI k)), (2, .int (nI S))]) rfl ?_
  refine z_aload_n X dX0_foundDays_0 rfl 0 rfl ?_
  refine z_aload_n X dX0_foundDays_1 rfl 0 rfl ?_
  refine z_iload_n X dX0_foundDays_2 rfl 1 rfl ?_
  refine z_callVM X (c_X0_lastsOf l g a D E so lk kd st sp nd k (by omega) (by omega) (by first | assumption | omega)) gX0_foundDays_X0_lastsOf rfl ⟨rfl, rfl⟩ (by decide +kernel) ⟨Nat.le_of_ble_eq_true rfl, Nat.le_of_ble_eq_true rfl⟩ ZF.room (ci := 0) rfl 0 rfl rfl (As := [.int (nI k)]) (n := 1) rfl rfl (st1 := [.int (nI (Lf kd st k)), .ref (a 1)]) rfl (Nat.le_of_ble_eq_true rfl) dX0_foundDays_3 ?_
  refine z_iload_n X dX0_foundDays_6 rfl 2 rfl ?_
  refine z_callVM X (c_X0_yellowDays l g a D E so lk kd st sp nd (Lf kd st k) S (by omega) (hL _ hk).2) gX0_foundDays_X0_yellowDays rfl ⟨rfl, rfl⟩ (by decide +kernel) ⟨Nat.le_of_ble_eq_true rfl, Nat.le_of_ble_eq_true rfl⟩ ZF.room (ci := 0) rfl 0 rfl rfl (As := [.int (nI (Lf kd st k)), .int (nI S)]) (n := 2) rfl rfl (st1 := [.int (nI (yl D (Lf kd st k) S))]) rfl (Nat.le_of_ble_eq_true rfl) dX0_foundDays_7 ?_
  refine z_aload_n X dX0_foundDays_10 rfl 0 rfl ?_
  refine z_callVM X (c_X0_fastDays l g a D E so lk kd st sp nd (by omega)) gX0_foundDays_X0_fastDays rfl ⟨rfl, rfl⟩ (by decide +kernel) ⟨Nat.le_of_ble_eq_true rfl, Nat.le_of_ble_eq_true rfl⟩ ZF.room (ci := 0) rfl 0 rfl rfl (As := []) (n := 0) rfl rfl (st1 := [.int (nI (fs lk so D)), .int (nI (yl D (Lf kd st k) S))]) rfl (Nat.le_of_ble_eq_true rfl) dX0_foundDays_11 ?_
  refine z_iand' (v := nI ((yl D (Lf kd st k) S) &&& (fs lk so D))) X dX0_foundDays_14 (fa_and _ _) ?_
  exact z_iret X ZF dX0_foundDays_15 (by rfl) rfl
abbrev rJ6_bitCount_0f7a4 : Room := { frames := 0, cells := 0, slots := 0, locals := 0 }
set_option maxHeartbeats 4000000 in
set_option maxRecDepth 100000 in
theorem c_J6_bitCount_0f7a4 (l : Launch) (g : zg) (n : Nat) (h64 : n < 64) : zM l g yJ6_bitCount_0f7a4 wsJ6_bitCount_0f7a4 rJ6_bitCount_0f7a4 [.int (nI n)] [] (some (.int (nI (pc n)))) [] := by
  refine z_met (own := RJ6) (cc := cJ6_bitCount_0f7a4) (maxL := 1) (ret := some .int) (by decide +kernel) rfl rfl (Nat.le_of_ble_eq_true rfl) ?_
  intro M X ZF
  refine z_Le (L' := [(0, .int (nI n))]) rfl ?_
  have k_265 : Cond.constant RJ6 265 (1431655765) ∈ wsJ6_bitCount_0f7a4 := by decide +kernel
  have k_266 : Cond.constant RJ6 266 (858993459) ∈ wsJ6_bitCount_0f7a4 := by decide +kernel
  have k_267 : Cond.constant RJ6 267 (252645135) ∈ wsJ6_bitCount_0f7a4 := by decide +kernel
  refine z_iload_n X dJ6_bitCount_0f7a4_0 rfl 0 rfl ?_
  refine z_iload_n X dJ6_bitCount_0f7a4_1 rfl 0 rfl ?_
  refine z_iconst (v := nI 1) X dJ6_bitCount_0f7a4_2 (by decide) ?_
  refine z_iushr (v := ((nI n).toUInt32 >>> ((nI 1).toUInt32 &&& Int32.toUInt32 31)).toInt32) X dJ6_bitCount_0f7a4_3 rfl ?_
  refine z_ldcw (v := 1431655765) X dJ6_bitCount_0f7a4_4 k_265 ?_
  refine z_iand X dJ6_bitCount_0f7a4_7 ?_
  refine z_isub X dJ6_bitCount_0f7a4_8 ?_
  refine z_top (y := nI (bc1 n)) (bc1_eq n h64) ?_
  refine z_istore_n (L' := [(0, .int (nI (bc1 n)))]) X dJ6_bitCount_0f7a4_9 rfl (by decide) rfl ?_
  refine z_iload_n X dJ6_bitCount_0f7a4_10 rfl 0 rfl ?_
  refine z_ldcw (v := 858993459) X dJ6_bitCount_0f7a4_11 k_266 ?_
  refine z_iand X dJ6_bitCount_0f7a4_14 ?_
  refine z_iload_n X dJ6_bitCount_0f7a4_15 rfl 0 rfl ?_
  refine z_iconst (v := nI 2) X dJ6_bitCount_0f7a4_16 (by decide) ?_
  refine z_iushr (v := ((nI (bc1 n)).toUInt32 >>> ((nI 2).toUInt32 &&& Int32.toUInt32 31)).toInt32) X dJ6_bitCount_0f7a4_17 rfl ?_
  refine z_ldcw (v := 858993459) X dJ6_bitCount_0f7a4_18 k_266 ?_
  refine z_iand X dJ6_bitCount_0f7a4_21 ?_
  refine z_iadd X dJ6_bitCount_0f7a4_22 ?_
  refine z_top (y := nI (bc2 n)) (bc2_eq n h64) ?_
  refine z_istore_n (L' := [(0, .int (nI (bc2 n)))]) X dJ6_bitCount_0f7a4_23 rfl (by decide) rfl ?_
  refine z_iload_n X dJ6_bitCount_0f7a4_24 rfl 0 rfl ?_
  refine z_iload_n X dJ6_bitCount_0f7a4_25 rfl 0 rfl ?_
  refine z_iconst (v := nI 4) X dJ6_bitCount_0f7a4_26 (by decide) ?_
  refine z_iushr (v := ((nI (bc2 n)).toUInt32 >>> ((nI 4).toUInt32 &&& Int32.toUInt32 31)).toInt32) X dJ6_bitCount_0f7a4_27 rfl ?_
  refine z_iadd X dJ6_bitCount_0f7a4_28 ?_
  refine z_ldcw (v := 252645135) X dJ6_bitCount_0f7a4_29 k_267 ?_
  refine z_iand X dJ6_bitCount_0f7a4_32 ?_
  refine z_top (y := nI (bc3 n)) (bc3_eq n h64) ?_
  refine z_istore_n (L' := [(0, .int (nI (bc3 n)))]) X dJ6_bitCount_0f7a4_33 rfl (by decide) rfl ?_
  refine z_iload_n X dJ6_bitCount_0f7a4_34 rfl 0 rfl ?_
  refine z_iload_n X dJ6_bitCount_0f7a4_35 rfl 0 rfl ?_
  refine z_bipush (v := nI 8) X dJ6_bitCount_0f7a4_36 (by decide) ?_
  refine z_iushr (v := ((nI (bc3 n)).toUInt32 >>> ((nI 8).toUInt32 &&& Int32.toUInt32 31)).toInt32) X dJ6_bitCount_0f7a4_38 rfl ?_
  refine z_iadd X dJ6_bitCount_0f7a4_39 ?_
  refine z_top (y := nI (bc4 n)) (bc4_eq n h64) ?_
  refine z_istore_n (L' := [(0, .int (nI (bc4 n)))]) X dJ6_bitCount_0f7a4_40 rfl (by decide) rfl ?_
  refine z_iload_n X dJ6_bitCount_0f7a4_41 rfl 0 rfl ?_
  refine z_iload_n X dJ6_bitCount_0f7a4_42 rfl 0 rfl ?_
  refine z_bipush (v := nI 16) X dJ6_bitCount_0f7a4_43 (by decide) ?_
  refine z_iushr (v := ((nI (bc4 n)).toUInt32 >>> ((nI 16).toUInt32 &&& Int32.toUInt32 31)).toInt32) X dJ6_bitCount_0f7a4_45 rfl ?_
  refine z_iadd X dJ6_bitCount_0f7a4_46 ?_
  refine z_top (y := nI (bc5 n)) (bc5_eq n h64) ?_
  refine z_istore_n (L' := [(0, .int (nI (bc5 n)))]) X dJ6_bitCount_0f7a4_47 rfl (by decide) rfl ?_
  refine z_iload_n X dJ6_bitCount_0f7a4_48 rfl 0 rfl ?_
  refine z_bipush (v := nI 63) X dJ6_bitCount_0f7a4_49 (by decide) ?_
  refine z_iand' (v := nI ((bc5 n) &&& 63)) X dJ6_bitCount_0f7a4_51 (fa_and _ _) ?_
  exact z_iret X ZF dJ6_bitCount_0f7a4_52 (by exact bc6_eq n h64) rfl
abbrev rX0_fineOf : Room := { frames := 3, cells := 0, slots := 0, locals := 66 }
set_option maxHeartbeats 4000000 in
set_option maxRecDepth 100000 in
theorem c_X0_fineOf (l : Launch) (g : zg) (a : Nat → Nat) (D : Nat) (E : Nat) (so : Int32) (lk : Nat → Int32) (kd : Nat → Int32) (st : Nat → Int32) (sp : Nat → Int32) (nd : Nat → Int32) (k : Nat) (S : Nat) (hk : k < E) (hE : E ≤ 4) (hD : D ≤ 6) (hL : vL kd st E) (hSp : vS sp E) : zM l g yX0_fineOf wsX0_fineOf rX0_fineOf [.ref (a 1), .int (nI k), .int (nI S)] (wD g a D E so lk kd st sp nd) (some (.int (nI (pc (fnd D (Lf kd st k) S (fs lk so D)) * tn (sp k))))) (wD g a D E so lk kd st sp nd) := by
  refine z_met (own := RX0) (cc := cX0_fineOf) (maxL := 3) (ret := some .int) (by decide +kernel) rfl rfl (Nat.le_of_ble_eq_true rfl) ?_
  intro M X ZF
  refine z_Le (L' := [(0, .ref (a 1)), (1, .int (nI k)), (2, .int (nI S))]) rfl ?_
  refine z_aload_n X dX0_fineOf_0 rfl 0 rfl ?_
  refine z_iload_n X dX0_fineOf_1 rfl 1 rfl ?_
  refine z_iload_n X dX0_fineOf_2 rfl 2 rfl ?_
  refine z_callVM X (c_X0_foundDays l g a D E so lk kd st sp nd k S (by omega) (by omega) (by omega) (by first | assumption | omega)) gX0_fineOf_X0_foundDays rfl ⟨rfl, rfl⟩ (by decide +kernel) ⟨Nat.le_of_ble_eq_true rfl, Nat.le_of_ble_eq_true rfl⟩ ZF.room (ci := 0) rfl 0 rfl rfl (As := [.int (nI k), .int (nI S)]) (n := 2) rfl rfl (st1 := [.int (nI (fnd D (Lf kd st k) S (fs lk so D)))]) rfl (Nat.le_of_ble_eq_true rfl) dX0_fineOf_3 ?_
  refine z_callS0 X (c_J6_bitCount_0f7a4 l g (fnd D (Lf kd st k) S (fs lk so D)) (fnd_lt hD)) gX0_fineOf_J6_bitCount_0f7a4 rfl ⟨rfl, rfl⟩ (by decide +kernel) ⟨Nat.le_of_ble_eq_true rfl, Nat.le_of_ble_eq_true rfl⟩ ZF.room (As := [.int (nI (fnd D (Lf kd st k) S (fs lk so D)))]) (n := 1) rfl rfl (st1 := [.int (nI (pc (fnd D (Lf kd st k) S (fs lk so D))))]) rfl (Nat.le_of_ble_eq_true rfl) dX0_fineOf_6 ?_
  refine z_aload_n X dX0_fineOf_9 rfl 0 rfl ?_
  refine z_iload_n X dX0_fineOf_10 rfl 1 rfl ?_
  refine z_callVM X (c_X0_spoonsOf l g a D E so lk kd st sp nd k (by omega)) gX0_fineOf_X0_spoonsOf rfl ⟨rfl, rfl⟩ (by decide +kernel) ⟨Nat.le_of_ble_eq_true rfl, Nat.le_of_ble_eq_true rfl⟩ ZF.room (ci := 0) rfl 0 rfl rfl (As := [.int (nI k)]) (n := 1) rfl rfl (st1 := [.int (sp k), .int (nI (pc (fnd D (Lf kd st k) S (fs lk so D))))]) rfl (Nat.le_of_ble_eq_true rfl) dX0_fineOf_11 ?_
  refine z_top (y := nI (tn (sp k))) (hSp _ (by omega)).1 ?_
  refine z_imul' (v := nI ((pc (fnd D (Lf kd st k) S (fs lk so D))) * (tn (sp k)))) X dX0_fineOf_14 (pk_mul _ _) ?_
  exact z_iret X ZF dX0_fineOf_15 rfl rfl
abbrev rX0_isFoundOn : Room := { frames := 2, cells := 0, slots := 0, locals := 44 }
set_option maxHeartbeats 4000000 in
set_option maxRecDepth 100000 in
theorem c_X0_isFoundOn (l : Launch) (g : zg) (a : Nat → Nat) (D : Nat) (E : Nat) (so : Int32) (lk : Nat → Int32) (kd : Nat → Int32) (st : Nat → Int32) (sp : Nat → Int32) (nd : Nat → Int32) (d : Nat) (S : Nat) (L : Nat) (s_w : Int32) (hd : d < D) (hD : D ≤ 6) (hLL : L ≤ 5) : zM l g yX0_isFoundOn wsX0_isFoundOn rX0_isFoundOn [.ref (a 1), .int (nI d), .int (nI S), .int (nI L), .int s_w] (wD g a D E so lk kd st sp nd) (some (.int (bI (zbt (yl D L S) d && !decide (lk d < s_w))))) (wD g a D E so lk kd st sp nd) := by
  refine z_met (own := RX0) (cc := cX0_isFoundOn) (maxL := 5) (ret := some .boolean) (by decide +kernel) rfl rfl (Nat.le_of_ble_eq_true rfl) ?_
  intro M X ZF
  refine z_Le (L' := [(0, .ref (a 1)), (1, .int (nI d)), (2, .int (nI S)), (3, .int (nI L)), (4, .int s_w)]) rfl ?_
  have hyl := yl_lt (D := D) (L := L) (S := S) hD
  refine z_aload_n X dX0_isFoundOn_0 rfl 0 rfl ?_
  refine z_iload_n X dX0_isFoundOn_1 rfl 3 rfl ?_
  refine z_iload_n X dX0_isFoundOn_2 rfl 2 rfl ?_
  refine z_callVM X (c_X0_yellowDays l g a D E so lk kd st sp nd L S (by omega) (by omega)) gX0_isFoundOn_X0_yellowDays rfl ⟨rfl, rfl⟩ (by decide +kernel) ⟨Nat.le_of_ble_eq_true rfl, Nat.le_of_ble_eq_true rfl⟩ ZF.room (ci := 0) rfl 0 rfl rfl (As := [.int (nI L), .int (nI S)]) (n := 2) rfl rfl (st1 := [.int (nI (yl D L S))]) rfl (Nat.le_of_ble_eq_true rfl) dX0_isFoundOn_3 ?_
  refine z_iload_n X dX0_isFoundOn_6 rfl 1 rfl ?_
  refine z_ishr' (v := nI ((yl D L S) / 2 ^ d)) X dX0_isFoundOn_7 (nI_shr (by omega) (by omega)) ?_
  refine z_iconst (v := nI 1) X dX0_isFoundOn_8 (by decide) ?_
  refine z_iand' (v := nI (((yl D L S) / 2 ^ d) % 2)) X dX0_isFoundOn_9 (nI_and1 _) ?_
  refine z_if_eqN (tgt := 27) X dX0_isFoundOn_10 (by decide) (by omega) (fun hq1 => ?_) (fun hq1 => ?_)
  ·
    refine z_iconst (v := nI 0) X dX0_isFoundOn_27 (by decide) ?_
    exact z_zret X ZF dX0_isFoundOn_28 (bI_nar _) (by first | (rw [zbt_f hq1]; rfl)) rfl
  ·
    refine z_aload_n X dX0_isFoundOn_13 rfl 0 rfl ?_
    refine z_iload_n X dX0_isFoundOn_14 rfl 1 rfl ?_
    refine z_callVM X (c_X0_lookOf l g a D E so lk kd st sp nd d (by omega)) gX0_isFoundOn_X0_lookOf rfl ⟨rfl, rfl⟩ (by decide +kernel) ⟨Nat.le_of_ble_eq_true rfl, Nat.le_of_ble_eq_true rfl⟩ ZF.room (ci := 0) rfl 0 rfl rfl (As := [.int (nI d)]) (n := 1) rfl rfl (st1 := [.int (lk d)]) rfl (Nat.le_of_ble_eq_true rfl) dX0_isFoundOn_15 ?_
    refine z_iload X dX0_isFoundOn_18 4 rfl ?_
    refine z_icmp_lt (tgt := 27) X dX0_isFoundOn_20 (by decide) (fun hq2 => ?_) (fun hq2 => ?_)
    ·
      refine z_iconst (v := nI 0) X dX0_isFoundOn_27 (by decide) ?_
      exact z_zret X ZF dX0_isFoundOn_28 (bI_nar _) (by first | (rw [zbt_f hq1]; rfl) | (rw [zbt_t hq1]; simp [hq2, bI, nI_one, nI_0])) rfl
    ·
      refine z_iconst (v := nI 1) X dX0_isFoundOn_23 (by decide) ?_
      refine z_goto (tgt := 28) X dX0_isFoundOn_24 (by decide) ?_
      exact z_zret X ZF dX0_isFoundOn_28 (bI_nar _) (by first | (rw [zbt_f hq1]; rfl) | (rw [zbt_t hq1]; simp [hq2, bI, nI_one, nI_0])) rfl
abbrev rX2_hasRow : Room := { frames := 0, cells := 0, slots := 0, locals := 0 }
set_option maxHeartbeats 4000000 in
set_option maxRecDepth 100000 in
theorem c_X2_hasRow (l : Launch) (g : zg) (p : Nat) (q : Nat) (ln : Int32) (le : Int32) (ce : Nat → Int32) : zM l g yX2_hasRow wsX2_hasRow rX2_hasRow [.ref p] (wS g p q ln le ce) (some (.int (bI (!decide (le = (-1)))))) (wS g p q ln le ce) := by
  refine z_met (own := RX2) (cc := cX2_hasRow) (maxL := 1) (ret := some .boolean) (by decide +kernel) rfl rfl (Nat.le_of_ble_eq_true rfl) ?_
  intro M X ZF
  refine z_Le (L' := [(0, .ref p)]) rfl ?_
  have i_RX2 : ∀ w ∈ wsX20, w ∈ wsX2_hasRow := by decide +kernel
  have f_15 : Cond.fieldLink RX2 15 (TX2 2).1 (TX2 2).2.1 (TX2 2).2.2.1 ∈ wsX2_hasRow := by decide +kernel
  refine z_aload_n X dX2_hasRow_0 rfl 0 rfl ?_
  refine z_get (v := .int le) (N := 3) X i_RX2 (ci := 2) rfl 0 rfl 2 (by decide) f_15 rfl dX2_hasRow_1 ?_
  refine z_iconst (v := (-1)) X dX2_hasRow_4 (by decide) ?_
  refine z_icmp_eq (tgt := 12) X dX2_hasRow_5 (by decide) (fun hq1 => ?_) (fun hq1 => ?_)
  ·
    refine z_iconst (v := nI 0) X dX2_hasRow_12 (by decide) ?_
    exact z_zret X ZF dX2_hasRow_13 (bI_nar _) (by simp [bI, nI_one, nI_0, hq1]) rfl
  ·
    refine z_iconst (v := nI 1) X dX2_hasRow_8 (by decide) ?_
    refine z_goto (tgt := 13) X dX2_hasRow_9 (by decide) ?_
    exact z_zret X ZF dX2_hasRow_13 (bI_nar _) (by simp [bI, nI_one, nI_0, hq1]) rfl
abbrev rX2_rowLane : Room := { frames := 0, cells := 0, slots := 0, locals := 0 }
set_option maxHeartbeats 4000000 in
set_option maxRecDepth 100000 in
theorem c_X2_rowLane (l : Launch) (g : zg) (p : Nat) (q : Nat) (ln : Int32) (le : Int32) (ce : Nat → Int32) : zM l g yX2_rowLane wsX2_rowLane rX2_rowLane [.ref p] (wS g p q ln le ce) (some (.int ln)) (wS g p q ln le ce) := by
  refine z_met (own := RX2) (cc := cX2_rowLane) (maxL := 1) (ret := some .int) (by decide +kernel) rfl rfl (Nat.le_of_ble_eq_true rfl) ?_
  intro M X ZF
  refine z_Le (L' := [(0, .ref p)]) rfl ?_
  have i_RX2 : ∀ w ∈ wsX20, w ∈ wsX2_rowLane := by decide +kernel
  have f_19 : Cond.fieldLink RX2 19 (TX2 1).1 (TX2 1).2.1 (TX2 1).2.2.1 ∈ wsX2_rowLane := by decide +kernel
  refine z_aload_n X dX2_rowLane_0 rfl 0 rfl ?_
  refine z_get (v := .int ln) (N := 3) X i_RX2 (ci := 2) rfl 0 rfl 1 (by decide) f_19 rfl dX2_rowLane_1 ?_
  exact z_iret X ZF dX2_rowLane_4 rfl rfl
abbrev rJ7_fill_53178 : Room := { frames := 0, cells := 0, slots := 0, locals := 0 }
set_option maxHeartbeats 4000000 in
set_option maxRecDepth 100000 in
theorem c_J7_fill_53178 (l : Launch) (g : zg) (q : Nat) (n : Nat) (f : Nat → Int32) (v : Int32) (hn : n < 2 ^ 31) : zM l g yJ7_fill_53178 wsJ7_fill_53178 rJ7_fill_53178 [.ref q, .int v] (wA g q n f) none (wA g q n (fil f v n)) := by
  refine z_met (own := RJ7) (cc := cJ7_fill_53178) (maxL := 4) (ret := none) (by decide +kernel) rfl rfl (Nat.le_of_ble_eq_true rfl) ?_
  intro M X ZF
  refine z_Le (L' := [(0, .ref q), (1, .int v)]) rfl ?_
  refine z_iconst (v := nI 0) X dJ7_fill_53178_0 (by decide) ?_
  refine z_istore_n (L' := [(2, .int (nI 0)), (0, .ref q), (1, .int v)]) X dJ7_fill_53178_1 rfl (by decide) rfl ?_
  refine z_aload_n X dJ7_fill_53178_2 rfl 1 rfl ?_
  refine z_alenI X 0 rfl dJ7_fill_53178_3 ?_
  refine z_istore_n (L' := [(3, .int (nI n)), (2, .int (nI 0)), (0, .ref q), (1, .int v)]) X dJ7_fill_53178_4 rfl (by decide) rfl ?_
  have loopv1 : ∀ (n1 i_v : Nat), i_v ≤ n → n + 1 ≤ i_v + n1 → zG l g 4 M (wA g q n (fil f v i_v)) [(0, .ref q), (1, .int v), (2, .int (nI i_v)), (3, .int (nI n))] 5 [] := by
    intro n1
    induction n1 with
    | zero => intro i_v h1 h2; exact absurd h2 (by omega)
    | succ n1 ih1 =>
      intro i_v hi1 hn1
      refine z_iload_n X dJ7_fill_53178_5 rfl 2 rfl ?_
      refine z_iload_n X dJ7_fill_53178_6 rfl 3 rfl ?_
      refine z_icmp_geN (tgt := 20) X dJ7_fill_53178_7 (by decide) (by omega) (by omega) (fun hq2 => ?_) (fun hq2 => ?_)
      ·
        have e3 : (fil f v n) = (fil f v i_v) := by rw [show i_v = n by omega]
        exact z_vret X ZF dJ7_fill_53178_20 (by rw [e3])
      ·
        refine z_aload_n X dJ7_fill_53178_10 rfl 0 rfl ?_
        refine z_iload_n X dJ7_fill_53178_11 rfl 2 rfl ?_
        refine z_iload_n X dJ7_fill_53178_12 rfl 1 rfl ?_
        refine z_iastN (ws' := (wA g q n (upd (fil f v i_v) i_v v))) X 0 rfl (by omega) (by omega) dJ7_fill_53178_13 rfl ?_
        refine z_iinc (v := nI (i_v + 1)) (L' := [(2, .int (nI (i_v + 1))), (0, .ref q), (1, .int v), (3, .int (nI n))]) X dJ7_fill_53178_14 2 rfl (nI_inc i_v 1) (by decide) rfl ?_
        refine z_goto (tgt := 5) X dJ7_fill_53178_17 (by decide) ?_
        refine z_ls (L' := [(0, .ref q), (1, .int v), (2, .int (nI (i_v + 1))), (3, .int (nI n))]) [1, 2, 0, 3] rfl ?_
        have e4 : (upd (fil f v i_v) i_v v) = (fil f v (i_v + 1)) := by first | exact (fil_0 _ _).symm | exact fil_s _ _ _
        refine z_ws (ws' := (wA g q n (fil f v (i_v + 1)))) (by rw [← e4]) ?_
        exact ih1 (i_v + 1) (by omega) (by omega)
  refine z_ls (L' := [(0, .ref q), (1, .int v), (2, .int (nI 0)), (3, .int (nI n))]) [2, 3, 1, 0] rfl ?_
  have e5 : f = (fil f v 0) := by first | exact (fil_0 _ _).symm | exact fil_s _ _ _
  refine z_ws (ws' := (wA g q n (fil f v 0))) (by rw [← e5]) ?_
  exact loopv1 (n + 1) 0 (by omega) (by omega)
abbrev rX2_makeRow : Room := { frames := 1, cells := 0, slots := 0, locals := 23 }
set_option maxHeartbeats 4000000 in
set_option maxRecDepth 100000 in
theorem c_X2_makeRow (l : Launch) (g : zg) (p : Nat) (q : Nat) (ln : Int32) (le : Int32) (ce : Nat → Int32) (l2 : Int32) (n2 : Int32) : zM l g yX2_makeRow wsX2_makeRow rX2_makeRow [.ref p, .int l2, .int n2] (wS g p q ln le ce) none (wS g p q l2 n2 (fil ce (nI 0) 60)) := by
  refine z_met (own := RX2) (cc := cX2_makeRow) (maxL := 3) (ret := none) (by decide +kernel) rfl rfl (Nat.le_of_ble_eq_true rfl) ?_
  intro M X ZF
  refine z_Le (L' := [(0, .ref p), (1, .int l2), (2, .int n2)]) rfl ?_
  have i_RX2 : ∀ w ∈ wsX20, w ∈ wsX2_makeRow := by decide +kernel
  have f_9 : Cond.fieldLink RX2 9 (TX2 0).1 (TX2 0).2.1 (TX2 0).2.2.1 ∈ wsX2_makeRow := by decide +kernel
  have f_19 : Cond.fieldLink RX2 19 (TX2 1).1 (TX2 1).2.1 (TX2 1).2.2.1 ∈ wsX2_makeRow := by decide +kernel
  have f_15 : Cond.fieldLink RX2 15 (TX2 2).1 (TX2 2).2.1 (TX2 2).2.2.1 ∈ wsX2_makeRow := by decide +kernel
  refine z_aload_n X dX2_makeRow_0 rfl 0 rfl ?_
  refine z_get (v := .ref q) (N := 3) X i_RX2 (ci := 2) rfl 0 rfl 0 (by decide) f_9 rfl dX2_makeRow_1 ?_
  refine z_iconst (v := nI 0) X dX2_makeRow_4 (by decide) ?_
  refine z_callS X (c_J7_fill_53178 l g q 60 ce (nI 0) (by omega)) gX2_makeRow_J7_fill_53178 rfl ⟨rfl, rfl⟩ (by decide +kernel) ⟨Nat.le_of_ble_eq_true rfl, Nat.le_of_ble_eq_true rfl⟩ ZF.room (isC := [1]) (by decide) rfl rfl (ws' := (wS g p q ln le (fil ce (nI 0) 60))) rfl (As := [.ref q, .int (nI 0)]) (n := 2) rfl rfl (st1 := []) rfl (Nat.le_of_ble_eq_true rfl) dX2_makeRow_5 ?_
  refine z_aload_n X dX2_makeRow_8 rfl 0 rfl ?_
  refine z_iload_n X dX2_makeRow_9 rfl 1 rfl ?_
  refine z_put (ws' := (wS g p q l2 le (fil ce (nI 0) 60))) (N := 3) X i_RX2 (ci := 2) rfl tyX2 tyX2_ok nmX2 0 rfl 1 (by decide) f_19 rfl (ty := .int) (by decide +kernel) rfl rfl (Nat.le_of_ble_eq_true rfl) dX2_makeRow_10 rfl ?_
  refine z_aload_n X dX2_makeRow_13 rfl 0 rfl ?_
  refine z_iload_n X dX2_makeRow_14 rfl 2 rfl ?_
  refine z_put (ws' := (wS g p q l2 n2 (fil ce (nI 0) 60))) (N := 3) X i_RX2 (ci := 2) rfl tyX2 tyX2_ok nmX2 0 rfl 2 (by decide) f_15 rfl (ty := .int) (by decide +kernel) rfl rfl (Nat.le_of_ble_eq_true rfl) dX2_makeRow_15 rfl ?_
  exact z_vret X ZF dX2_makeRow_18 rfl
abbrev rX2_dropRow : Room := { frames := 0, cells := 0, slots := 0, locals := 0 }
set_option maxHeartbeats 4000000 in
set_option maxRecDepth 100000 in
theorem c_X2_dropRow (l : Launch) (g : zg) (p : Nat) (q : Nat) (ln : Int32) (le : Int32) (ce : Nat → Int32) : zM l g yX2_dropRow wsX2_dropRow rX2_dropRow [.ref p] (wS g p q ln le ce) none (wS g p q ln (-1) ce) := by
  refine z_met (own := RX2) (cc := cX2_dropRow) (maxL := 1) (ret := none) (by decide +kernel) rfl rfl (Nat.le_of_ble_eq_true rfl) ?_
  intro M X ZF
  refine z_Le (L' := [(0, .ref p)]) rfl ?_
  have i_RX2 : ∀ w ∈ wsX20, w ∈ wsX2_dropRow := by decide +kernel
  have f_15 : Cond.fieldLink RX2 15 (TX2 2).1 (TX2 2).2.1 (TX2 2).2.2.1 ∈ wsX2_dropRow := by decide +kernel
  refine z_aload_n X dX2_dropRow_0 rfl 0 rfl ?_
  refine z_iconst (v := (-1)) X dX2_dropRow_1 (by decide) ?_
  refine z_put (ws' := (wS g p q ln (-1) ce)) (N := 3) X i_RX2 (ci := 2) rfl tyX2 tyX2_ok nmX2 0 rfl 2 (by decide) f_15 rfl (ty := .int) (by decide +kernel) rfl rfl (Nat.le_of_ble_eq_true rfl) dX2_dropRow_2 rfl ?_
  exact z_vret X ZF dX2_dropRow_5 rfl
abbrev rX2_hasCells : Room := { frames := 0, cells := 0, slots := 0, locals := 0 }
set_option maxHeartbeats 4000000 in
set_option maxRecDepth 100000 in
theorem c_X2_hasCells (l : Launch) (g : zg) (p : Nat) (q : Nat) (ln : Int32) (le : Int32) (ce : Nat → Int32) (i : Int32) (n : Int32) : zM l g yX2_hasCells wsX2_hasCells rX2_hasCells [.ref p, .int i, .int n] (wS g p q ln le ce) (some (.int (bI (hcl le i n)))) (wS g p q ln le ce) := by
  refine z_met (own := RX2) (cc := cX2_hasCells) (maxL := 3) (ret := some .boolean) (by decide +kernel) rfl rfl (Nat.le_of_ble_eq_true rfl) ?_
  intro M X ZF
  refine z_Le (L' := [(0, .ref p), (1, .int i), (2, .int n)]) rfl ?_
  have i_RX2 : ∀ w ∈ wsX20, w ∈ wsX2_hasCells := by decide +kernel
  have f_15 : Cond.fieldLink RX2 15 (TX2 2).1 (TX2 2).2.1 (TX2 2).2.2.1 ∈ wsX2_hasCells := by decide +kernel
  refine z_iload_n X dX2_hasCells_0 rfl 1 rfl ?_
  refine z_if_lt (tgt := 30) X dX2_hasCells_1 (by decide) (fun hq1 => ?_) (fun hq1 => ?_)
  ·
    refine z_iconst (v := nI 0) X dX2_hasCells_30 (by decide) ?_
    exact z_zret X ZF dX2_hasCells_31 (bI_nar _) (by simp [hcl, bI, nI_one, nI_0, hq1]) rfl
  ·
    refine z_iload_n X dX2_hasCells_4 rfl 1 rfl ?_
    refine z_aload_n X dX2_hasCells_5 rfl 0 rfl ?_
    refine z_get (v := .int le) (N := 3) X i_RX2 (ci := 2) rfl 0 rfl 2 (by decide) f_15 rfl dX2_hasCells_6 ?_
    refine z_icmp_gt (tgt := 30) X dX2_hasCells_9 (by decide) (fun hq2 => ?_) (fun hq2 => ?_)
    ·
      refine z_iconst (v := nI 0) X dX2_hasCells_30 (by decide) ?_
      exact z_zret X ZF dX2_hasCells_31 (bI_nar _) (by simp [hcl, bI, nI_one, nI_0, hq1, hq2]) rfl
    ·
      refine z_iload_n X dX2_hasCells_12 rfl 2 rfl ?_
      refine z_if_lt (tgt := 30) X dX2_hasCells_13 (by decide) (fun hq3 => ?_) (fun hq3 => ?_)
      ·
        refine z_iconst (v := nI 0) X dX2_hasCells_30 (by decide) ?_
        exact z_zret X ZF dX2_hasCells_31 (bI_nar _) (by simp [hcl, bI, nI_one, nI_0, hq1, hq2, hq3]) rfl
      ·
        refine z_iload_n X dX2_hasCells_16 rfl 2 rfl ?_
        refine z_aload_n X dX2_hasCells_17 rfl 0 rfl ?_
        refine z_get (v := .int le) (N := 3) X i_RX2 (ci := 2) rfl 0 rfl 2 (by decide) f_15 rfl dX2_hasCells_18 ?_
        refine z_iload_n X dX2_hasCells_21 rfl 1 rfl ?_
        refine z_isub X dX2_hasCells_22 ?_
        refine z_icmp_gt (tgt := 30) X dX2_hasCells_23 (by decide) (fun hq4 => ?_) (fun hq4 => ?_)
        ·
          refine z_iconst (v := nI 0) X dX2_hasCells_30 (by decide) ?_
          exact z_zret X ZF dX2_hasCells_31 (bI_nar _) (by simp [hcl, bI, nI_one, nI_0, hq1, hq2, hq3, hq4]) rfl
        ·
          refine z_iconst (v := nI 1) X dX2_hasCells_26 (by decide) ?_
          refine z_goto (tgt := 31) X dX2_hasCells_27 (by decide) ?_
          exact z_zret X ZF dX2_hasCells_31 (bI_nar _) (by simp [hcl, bI, nI_one, nI_0, hq1, hq2, hq3, hq4]) rfl
abbrev rX2_faultOfCells : Room := { frames := 1, cells := 0, slots := 0, locals := 22 }
set_option maxHeartbeats 4000000 in
set_option maxRecDepth 100000 in
theorem c_X2_faultOfCells (l : Launch) (g : zg) (p : Nat) (q : Nat) (ln : Int32) (le : Int32) (ce : Nat → Int32) (al : Int32) (i : Int32) (n : Int32) : zM l g yX2_faultOfCells wsX2_faultOfCells rX2_faultOfCells [.ref p, .int al, .int i, .int n] (wS g p q ln le ce) (some (.int (foc ln le al i n))) (wS g p q ln le ce) := by
  refine z_met (own := RX2) (cc := cX2_faultOfCells) (maxL := 4) (ret := some .int) (by decide +kernel) rfl rfl (Nat.le_of_ble_eq_true rfl) ?_
  intro M X ZF
  refine z_Le (L' := [(0, .ref p), (1, .int al), (2, .int i), (3, .int n)]) rfl ?_
  have i_RX2 : ∀ w ∈ wsX20, w ∈ wsX2_faultOfCells := by decide +kernel
  have f_19 : Cond.fieldLink RX2 19 (TX2 1).1 (TX2 1).2.1 (TX2 1).2.2.1 ∈ wsX2_faultOfCells := by decide +kernel
  refine z_aload_n X dX2_faultOfCells_0 rfl 0 rfl ?_
  refine z_callV X (c_X2_hasRow l g p q ln le ce) gX2_faultOfCells_X2_hasRow rfl ⟨rfl, rfl⟩ (by decide +kernel) ⟨Nat.le_of_ble_eq_true rfl, Nat.le_of_ble_eq_true rfl⟩ ZF.room (ci := 2) rfl 0 rfl (isC := [0, 1]) (by decide) rfl rfl (ws' := (wS g p q ln le ce)) rfl (As := []) (n := 0) rfl rfl (st1 := [.int (bI (!decide (le = (-1))))]) rfl (Nat.le_of_ble_eq_true rfl) dX2_faultOfCells_1 ?_
  refine z_if_eqB (tgt := 17) X dX2_faultOfCells_4 (by decide) (fun hq1 => ?_) (fun hq1 => ?_)
  ·
    have hq2 : (decide (le = (-1))) = true := by simpa using hq1
    have hq3 : (le = (-1)) := of_decide_eq_true hq2
    refine z_aload_n X dX2_faultOfCells_17 rfl 0 rfl ?_
    refine z_callV X (c_X2_hasRow l g p q ln le ce) gX2_faultOfCells_X2_hasRow rfl ⟨rfl, rfl⟩ (by decide +kernel) ⟨Nat.le_of_ble_eq_true rfl, Nat.le_of_ble_eq_true rfl⟩ ZF.room (ci := 2) rfl 0 rfl (isC := [0, 1]) (by decide) rfl rfl (ws' := (wS g p q ln le ce)) rfl (As := []) (n := 0) rfl rfl (st1 := [.int (bI (!decide (le = (-1))))]) rfl (Nat.le_of_ble_eq_true rfl) dX2_faultOfCells_18 ?_
    refine z_if_neB (tgt := 26) X dX2_faultOfCells_21 (by decide) (fun hq4 => ?_) (fun hq4 => ?_)
    ·
      have hq5 : (decide (le = (-1))) = false := by simpa using hq4
      exact absurd (hq2.symm.trans hq5) (by decide)
    ·
      have hq6 : (decide (le = (-1))) = true := by simpa using hq4
      refine z_iconst (v := nI 1) X dX2_faultOfCells_24 (by decide) ?_
      exact z_iret X ZF dX2_faultOfCells_25 (by simp [foc, hq3]) rfl
  ·
    have hq7 : (decide (le = (-1))) = false := by simpa using hq1
    have hq8 : ¬ (le = (-1)) := of_decide_eq_false hq7
    refine z_aload_n X dX2_faultOfCells_7 rfl 0 rfl ?_
    refine z_get (v := .int ln) (N := 3) X i_RX2 (ci := 2) rfl 0 rfl 1 (by decide) f_19 rfl dX2_faultOfCells_8 ?_
    refine z_iload_n X dX2_faultOfCells_11 rfl 1 rfl ?_
    refine z_icmp_eq (tgt := 17) X dX2_faultOfCells_12 (by decide) (fun hq9 => ?_) (fun hq9 => ?_)
    ·
      refine z_aload_n X dX2_faultOfCells_17 rfl 0 rfl ?_
      refine z_callV X (c_X2_hasRow l g p q ln le ce) gX2_faultOfCells_X2_hasRow rfl ⟨rfl, rfl⟩ (by decide +kernel) ⟨Nat.le_of_ble_eq_true rfl, Nat.le_of_ble_eq_true rfl⟩ ZF.room (ci := 2) rfl 0 rfl (isC := [0, 1]) (by decide) rfl rfl (ws' := (wS g p q ln le ce)) rfl (As := []) (n := 0) rfl rfl (st1 := [.int (bI (!decide (le = (-1))))]) rfl (Nat.le_of_ble_eq_true rfl) dX2_faultOfCells_18 ?_
      refine z_if_neB (tgt := 26) X dX2_faultOfCells_21 (by decide) (fun hq10 => ?_) (fun hq10 => ?_)
      ·
        have hq11 : (decide (le = (-1))) = false := by simpa using hq10
        refine z_iload_n X dX2_faultOfCells_26 rfl 3 rfl ?_
        refine z_if_ge (tgt := 32) X dX2_faultOfCells_27 (by decide) (fun hq12 => ?_) (fun hq12 => ?_)
        ·
          refine z_aload_n X dX2_faultOfCells_32 rfl 0 rfl ?_
          refine z_iload_n X dX2_faultOfCells_33 rfl 2 rfl ?_
          refine z_iload_n X dX2_faultOfCells_34 rfl 3 rfl ?_
          refine z_callV X (c_X2_hasCells l g p q ln le ce i n) gX2_faultOfCells_X2_hasCells rfl ⟨rfl, rfl⟩ (by decide +kernel) ⟨Nat.le_of_ble_eq_true rfl, Nat.le_of_ble_eq_true rfl⟩ ZF.room (ci := 2) rfl 0 rfl (isC := [0, 1]) (by decide) rfl rfl (ws' := (wS g p q ln le ce)) rfl (As := [.int i, .int n]) (n := 2) rfl rfl (st1 := [.int (bI (hcl le i n))]) rfl (Nat.le_of_ble_eq_true rfl) dX2_faultOfCells_35 ?_
          refine z_if_eqB (tgt := 45) X dX2_faultOfCells_38 (by decide) (fun hq13 => ?_) (fun hq13 => ?_)
          ·
            refine z_iconst (v := nI 3) X dX2_faultOfCells_45 (by decide) ?_
            exact z_iret X ZF dX2_faultOfCells_46 (by simp [foc, hq8, hq9, hq12, hq13]) rfl
          ·
            refine z_iconst (v := nI 0) X dX2_faultOfCells_41 (by decide) ?_
            refine z_goto (tgt := 46) X dX2_faultOfCells_42 (by decide) ?_
            exact z_iret X ZF dX2_faultOfCells_46 (by simp [foc, hq8, hq9, hq12, hq13]) rfl
        ·
          refine z_iconst (v := nI 4) X dX2_faultOfCells_30 (by decide) ?_
          exact z_iret X ZF dX2_faultOfCells_31 (by simp [foc, hq8, hq9, hq12]) rfl
      ·
        have hq14 : (decide (le = (-1))) = true := by simpa using hq10
        exact absurd (hq7.symm.trans hq14) (by decide)
    ·
      refine z_iconst (v := nI 2) X dX2_faultOfCells_15 (by decide) ?_
      exact z_iret X ZF dX2_faultOfCells_16 (by simp [foc, hq8, hq9]) rfl
abbrev rX2_numberAt : Room := { frames := 1, cells := 0, slots := 0, locals := 21 }
set_option maxHeartbeats 4000000 in
set_option maxRecDepth 100000 in
theorem c_X2_numberAt (l : Launch) (g : zg) (p : Nat) (q : Nat) (ln : Int32) (le : Int32) (ce : Nat → Int32) (k : Nat) (hk : k < 60) : zM l g yX2_numberAt wsX2_numberAt rX2_numberAt [.ref p, .int (nI k)] (wS g p q ln le ce) (some (.int (ce k))) (wS g p q ln le ce) := by
  refine z_met (own := RX2) (cc := cX2_numberAt) (maxL := 2) (ret := some .int) (by decide +kernel) rfl rfl (Nat.le_of_ble_eq_true rfl) ?_
  intro M X ZF
  refine z_Le (L' := [(0, .ref p), (1, .int (nI k))]) rfl ?_
  have i_RX2 : ∀ w ∈ wsX20, w ∈ wsX2_numberAt := by decide +kernel
  have f_9 : Cond.fieldLink RX2 9 (TX2 0).1 (TX2 0).2.1 (TX2 0).2.2.1 ∈ wsX2_numberAt := by decide +kernel
  have n_st_X4_numberIn : Cond.static yX4_numberIn ∈ wsX2_numberAt := by decide +kernel
  have n_in_RX4 : Cond.initialized RX4 ∈ wsX2_numberAt := by decide +kernel
  have n_nl_36 : (RX2, 36, yX4_numberIn, RX4) ∈ zNl := by decide +kernel
  refine z_aload_n X dX2_numberAt_0 rfl 0 rfl ?_
  refine z_get (v := .ref q) (N := 3) X i_RX2 (ci := 2) rfl 0 rfl 0 (by decide) f_9 rfl dX2_numberAt_1 ?_
  refine z_iload_n X dX2_numberAt_4 rfl 1 rfl ?_
  refine z_callN X (c_X4_numberIn l g q 60 ce k (by omega) (by omega)) gX2_numberAt_X4_numberIn_n36 n_nl_36 n_in_RX4 n_st_X4_numberIn rfl ⟨rfl, rfl⟩ (by decide +kernel) ⟨Nat.le_of_ble_eq_true rfl, Nat.le_of_ble_eq_true rfl⟩ ZF.room (isC := [1]) (by decide) rfl rfl (ws' := (wS g p q ln le ce)) rfl (As := [.ref q, .int (nI k)]) (n := 2) rfl rfl (st1 := [.int (ce k)]) rfl (Nat.le_of_ble_eq_true rfl) dX2_numberAt_5 ?_
  exact z_iret X ZF dX2_numberAt_8 rfl rfl
abbrev rX2_cutToLane : Room := { frames := 0, cells := 0, slots := 0, locals := 0 }
set_option maxHeartbeats 4000000 in
set_option maxRecDepth 100000 in
theorem c_X2_cutToLane (l : Launch) (g : zg) (p : Nat) (q : Nat) (ln : Int32) (le : Int32) (ce : Nat → Int32) (v : Int32) : zM l g yX2_cutToLane wsX2_cutToLane rX2_cutToLane [.ref p, .int v] (wS g p q ln le ce) (some (.int (cut ln v))) (wS g p q ln le ce) := by
  refine z_met (own := RX2) (cc := cX2_cutToLane) (maxL := 2) (ret := some .int) (by decide +kernel) rfl rfl (Nat.le_of_ble_eq_true rfl) ?_
  intro M X ZF
  refine z_Le (L' := [(0, .ref p), (1, .int v)]) rfl ?_
  have i_RX2 : ∀ w ∈ wsX20, w ∈ wsX2_cutToLane := by decide +kernel
  have f_19 : Cond.fieldLink RX2 19 (TX2 1).1 (TX2 1).2.1 (TX2 1).2.2.1 ∈ wsX2_cutToLane := by decide +kernel
  refine z_aload_n X dX2_cutToLane_0 rfl 0 rfl ?_
  refine z_get (v := .int ln) (N := 3) X i_RX2 (ci := 2) rfl 0 rfl 1 (by decide) f_19 rfl dX2_cutToLane_1 ?_
  by_cases hq1 : ln = nI 0
  ·
    refine z_top hq1 ?_
    refine z_lookup (off := 28) (tgt := 32) X dX2_cutToLane_4 (by decide +kernel) (by decide +kernel) (by decide) ?_
    refine z_iload_n X dX2_cutToLane_32 rfl 1 rfl ?_
    refine z_i2b (v := (v).toInt8.toInt32) X dX2_cutToLane_33 rfl ?_
    exact z_iret X ZF dX2_cutToLane_34 (by simp [cut, nI_10, hq1]) rfl
  ·
    by_cases hq2 : ln = nI 1
    ·
      refine z_top hq2 ?_
      refine z_lookup (off := 31) (tgt := 35) X dX2_cutToLane_4 (by decide +kernel) (by decide +kernel) (by decide) ?_
      refine z_iload_n X dX2_cutToLane_35 rfl 1 rfl ?_
      refine z_i2s (v := (v).toInt16.toInt32) X dX2_cutToLane_36 rfl ?_
      exact z_iret X ZF dX2_cutToLane_37 (by simp [cut, nI_10, hq1, hq2]) rfl
    ·
      refine z_lookup (off := 34) (tgt := 38) X dX2_cutToLane_4 (by decide +kernel) (by show Op.lookupswitch.offset [(0, 28), (1, 31)] (34) _ = _; rw [lv_osw (k := nI 0) hq1 (by decide +kernel), lv_osw (k := nI 1) hq2 (by decide +kernel)]; rfl) (by decide) ?_
      refine z_iload_n X dX2_cutToLane_38 rfl 1 rfl ?_
      exact z_iret X ZF dX2_cutToLane_39 (by simp [cut, nI_10, hq1, hq2]) rfl
abbrev rX2_write : Room := { frames := 1, cells := 0, slots := 0, locals := 22 }
set_option maxHeartbeats 4000000 in
set_option maxRecDepth 100000 in
theorem c_X2_write (l : Launch) (g : zg) (p : Nat) (q : Nat) (ln : Int32) (le : Int32) (ce : Nat → Int32) (k : Nat) (v : Int32) (hk : k < 60) : zM l g yX2_write wsX2_write rX2_write [.ref p, .int (nI k), .int v] (wS g p q ln le ce) none (wS g p q ln le (upd ce k (cut ln v))) := by
  refine z_met (own := RX2) (cc := cX2_write) (maxL := 3) (ret := none) (by decide +kernel) rfl rfl (Nat.le_of_ble_eq_true rfl) ?_
  intro M X ZF
  refine z_Le (L' := [(0, .ref p), (1, .int (nI k)), (2, .int v)]) rfl ?_
  have i_RX2 : ∀ w ∈ wsX20, w ∈ wsX2_write := by decide +kernel
  have f_9 : Cond.fieldLink RX2 9 (TX2 0).1 (TX2 0).2.1 (TX2 0).2.2.1 ∈ wsX2_write := by decide +kernel
  have n_st_X4_changeIn : Cond.static yX4_changeIn ∈ wsX2_write := by decide +kernel
  have n_in_RX4 : Cond.initialized RX4 ∈ wsX2_write := by decide +kernel
  have n_nl_44 : (RX2, 44, yX4_changeIn, RX4) ∈ zNl := by decide +kernel
  refine z_aload_n X dX2_write_0 rfl 0 rfl ?_
  refine z_get (v := .ref q) (N := 3) X i_RX2 (ci := 2) rfl 0 rfl 0 (by decide) f_9 rfl dX2_write_1 ?_
  refine z_iload_n X dX2_write_4 rfl 1 rfl ?_
  refine z_aload_n X dX2_write_5 rfl 0 rfl ?_
  refine z_iload_n X dX2_write_6 rfl 2 rfl ?_
  refine z_callV X (c_X2_cutToLane l g p q ln le ce v) gX2_write_X2_cutToLane rfl ⟨rfl, rfl⟩ (by decide +kernel) ⟨Nat.le_of_ble_eq_true rfl, Nat.le_of_ble_eq_true rfl⟩ ZF.room (ci := 2) rfl 0 rfl (isC := [0, 1]) (by decide) rfl rfl (ws' := (wS g p q ln le ce)) rfl (As := [.int v]) (n := 1) rfl rfl (st1 := [.int (cut ln v), .int (nI k), .ref q]) rfl (Nat.le_of_ble_eq_true rfl) dX2_write_7 ?_
  refine z_callN X (c_X4_changeIn l g q 60 ce k (cut ln v) (by omega) (by omega)) gX2_write_X4_changeIn_n44 n_nl_44 n_in_RX4 n_st_X4_changeIn rfl ⟨rfl, rfl⟩ (by decide +kernel) ⟨Nat.le_of_ble_eq_true rfl, Nat.le_of_ble_eq_true rfl⟩ ZF.room (isC := [1]) (by decide) rfl rfl (ws' := (wS g p q ln le (upd ce k (cut ln v)))) rfl (As := [.ref q, .int (nI k), .int (cut ln v)]) (n := 3) rfl rfl (st1 := []) rfl (Nat.le_of_ble_eq_true rfl) dX2_write_10 ?_
  exact z_vret X ZF dX2_write_13 rfl
abbrev rX1_keptCount : Room := { frames := 0, cells := 0, slots := 0, locals := 0 }
set_option maxHeartbeats 4000000 in
set_option maxRecDepth 100000 in
theorem c_X1_keptCount (l : Launch) (g : zg) (a : Nat → Nat) (C : Nat) (rO : Nat → Int32) (rB : Nat → Int32) (rD : Nat → Int32) (rW : Nat → Int32) : zM l g yX1_keptCount wsX1_keptCount rX1_keptCount [.ref (a 7)] (wR g a C rO rB rD rW) (some (.int (nI C))) (wR g a C rO rB rD rW) := by
  refine z_met (own := RX1) (cc := cX1_keptCount) (maxL := 1) (ret := some .int) (by decide +kernel) rfl rfl (Nat.le_of_ble_eq_true rfl) ?_
  intro M X ZF
  refine z_Le (L' := [(0, .ref (a 7))]) rfl ?_
  have i_RX1 : ∀ w ∈ wsX10, w ∈ wsX1_keptCount := by decide +kernel
  have f_25 : Cond.fieldLink RX1 25 (TX1 4).1 (TX1 4).2.1 (TX1 4).2.2.1 ∈ wsX1_keptCount := by decide +kernel
  refine z_aload_n X dX1_keptCount_0 rfl 0 rfl ?_
  refine z_get (v := .int (nI C)) (N := 5) X i_RX1 (ci := 1) rfl 0 rfl 4 (by decide) f_25 rfl dX1_keptCount_1 ?_
  exact z_iret X ZF dX1_keptCount_4 rfl rfl
abbrev rX1_isFull : Room := { frames := 0, cells := 0, slots := 0, locals := 0 }
set_option maxHeartbeats 4000000 in
set_option maxRecDepth 100000 in
theorem c_X1_isFull (l : Launch) (g : zg) (a : Nat → Nat) (C : Nat) (rO : Nat → Int32) (rB : Nat → Int32) (rD : Nat → Int32) (rW : Nat → Int32) (hC : C ≤ 8) : zM l g yX1_isFull wsX1_isFull rX1_isFull [.ref (a 7)] (wR g a C rO rB rD rW) (some (.int (bI (decide (8 ≤ C))))) (wR g a C rO rB rD rW) := by
  refine z_met (own := RX1) (cc := cX1_isFull) (maxL := 1) (ret := some .boolean) (by decide +kernel) rfl rfl (Nat.le_of_ble_eq_true rfl) ?_
  intro M X ZF
  refine z_Le (L' := [(0, .ref (a 7))]) rfl ?_
  have i_RX1 : ∀ w ∈ wsX10, w ∈ wsX1_isFull := by decide +kernel
  have f_25 : Cond.fieldLink RX1 25 (TX1 4).1 (TX1 4).2.1 (TX1 4).2.2.1 ∈ wsX1_isFull := by decide +kernel
  refine z_aload_n X dX1_isFull_0 rfl 0 rfl ?_
  refine z_get (v := .int (nI C)) (N := 5) X i_RX1 (ci := 1) rfl 0 rfl 4 (by decide) f_25 rfl dX1_isFull_1 ?_
  refine z_bipush (v := nI 8) X dX1_isFull_4 (by decide) ?_
  refine z_icmp_ltN (tgt := 13) X dX1_isFull_6 (by decide) (by omega) (by omega) (fun hq1 => ?_) (fun hq1 => ?_)
  ·
    refine z_iconst (v := nI 0) X dX1_isFull_13 (by decide) ?_
    exact z_zret X ZF dX1_isFull_14 (bI_nar _) (by first | exact bI_t (decide_eq_true (by omega)) | exact bI_f (decide_eq_false (by omega))) rfl
  ·
    refine z_iconst (v := nI 1) X dX1_isFull_9 (by decide) ?_
    refine z_goto (tgt := 14) X dX1_isFull_10 (by decide) ?_
    exact z_zret X ZF dX1_isFull_14 (bI_nar _) (by first | exact bI_t (decide_eq_true (by omega)) | exact bI_f (decide_eq_false (by omega))) rfl
abbrev rX1_keep : Room := { frames := 1, cells := 0, slots := 0, locals := 22 }
set_option maxHeartbeats 4000000 in
set_option maxRecDepth 100000 in
theorem c_X1_keep (l : Launch) (g : zg) (a : Nat → Nat) (C : Nat) (rO : Nat → Int32) (rB : Nat → Int32) (rD : Nat → Int32) (rW : Nat → Int32) (o1 : Nat) (o2 : Nat) (o3 : Nat) (o4 : Bool) (hC : C < 8) : zM l g yX1_keep wsX1_keep rX1_keep [.ref (a 7), .int (nI o1), .int (nI o2), .int (nI o3), .int (bI o4)] (wR g a C rO rB rD rW) none (wR g a (C + 1) (upd rO C (nI o1)) (upd rB C (nI o2)) (upd rD C (nI o3)) (upd rW C (bI o4))) := by
  refine z_met (own := RX1) (cc := cX1_keep) (maxL := 5) (ret := none) (by decide +kernel) rfl rfl (Nat.le_of_ble_eq_true rfl) ?_
  intro M X ZF
  refine z_Le (L' := [(0, .ref (a 7)), (1, .int (nI o1)), (2, .int (nI o2)), (3, .int (nI o3)), (4, .int (bI o4))]) rfl ?_
  have i_RX1 : ∀ w ∈ wsX10, w ∈ wsX1_keep := by decide +kernel
  have f_25 : Cond.fieldLink RX1 25 (TX1 4).1 (TX1 4).2.1 (TX1 4).2.2.1 ∈ wsX1_keep := by decide +kernel
  have f_21 : Cond.fieldLink RX1 21 (TX1 3).1 (TX1 3).2.1 (TX1 3).2.2.1 ∈ wsX1_keep := by decide +kernel
  have f_9 : Cond.fieldLink RX1 9 (TX1 0).1 (TX1 0).2.1 (TX1 0).2.2.1 ∈ wsX1_keep := by decide +kernel
  have n_st_X4_changeIn : Cond.static yX4_changeIn ∈ wsX1_keep := by decide +kernel
  have n_in_RX4 : Cond.initialized RX4 ∈ wsX1_keep := by decide +kernel
  have n_nl_29 : (RX1, 29, yX4_changeIn, RX4) ∈ zNl := by decide +kernel
  have f_15 : Cond.fieldLink RX1 15 (TX1 1).1 (TX1 1).2.1 (TX1 1).2.2.1 ∈ wsX1_keep := by decide +kernel
  have f_18 : Cond.fieldLink RX1 18 (TX1 2).1 (TX1 2).2.1 (TX1 2).2.2.1 ∈ wsX1_keep := by decide +kernel
  refine z_aload_n X dX1_keep_0 rfl 0 rfl ?_
  refine z_get (v := .int (nI C)) (N := 5) X i_RX1 (ci := 1) rfl 0 rfl 4 (by decide) f_25 rfl dX1_keep_1 ?_
  refine z_if_ltN (tgt := 19) X dX1_keep_4 (by decide) (by omega) (fun hq1 => ?_) (fun hq1 => ?_)
  ·
    exact absurd hq1 (by omega)
  ·
    refine z_aload_n X dX1_keep_7 rfl 0 rfl ?_
    refine z_get (v := .int (nI C)) (N := 5) X i_RX1 (ci := 1) rfl 0 rfl 4 (by decide) f_25 rfl dX1_keep_8 ?_
    refine z_aload_n X dX1_keep_11 rfl 0 rfl ?_
    refine z_get (v := .ref (a 11)) (N := 5) X i_RX1 (ci := 1) rfl 0 rfl 3 (by decide) f_21 rfl dX1_keep_12 ?_
    refine z_alenZ X 4 rfl dX1_keep_15 ?_
    refine z_icmp_ltN (tgt := 20) X dX1_keep_16 (by decide) (by omega) (by omega) (fun hq2 => ?_) (fun hq2 => ?_)
    ·
      refine z_aload_n X dX1_keep_20 rfl 0 rfl ?_
      refine z_get (v := .ref (a 8)) (N := 5) X i_RX1 (ci := 1) rfl 0 rfl 0 (by decide) f_9 rfl dX1_keep_21 ?_
      refine z_aload_n X dX1_keep_24 rfl 0 rfl ?_
      refine z_get (v := .int (nI C)) (N := 5) X i_RX1 (ci := 1) rfl 0 rfl 4 (by decide) f_25 rfl dX1_keep_25 ?_
      refine z_iload_n X dX1_keep_28 rfl 1 rfl ?_
      refine z_callN X (c_X4_changeIn l g (a 8) 8 rO C (nI o1) (by omega) (by omega)) gX1_keep_X4_changeIn_n29 n_nl_29 n_in_RX4 n_st_X4_changeIn rfl ⟨rfl, rfl⟩ (by decide +kernel) ⟨Nat.le_of_ble_eq_true rfl, Nat.le_of_ble_eq_true rfl⟩ ZF.room (isC := [1]) (by decide) rfl rfl (ws' := (wR g a C (upd rO C (nI o1)) rB rD rW)) rfl (As := [.ref (a 8), .int (nI C), .int (nI o1)]) (n := 3) rfl rfl (st1 := []) rfl (Nat.le_of_ble_eq_true rfl) dX1_keep_29 ?_
      refine z_aload_n X dX1_keep_32 rfl 0 rfl ?_
      refine z_get (v := .ref (a 9)) (N := 5) X i_RX1 (ci := 1) rfl 0 rfl 1 (by decide) f_15 rfl dX1_keep_33 ?_
      refine z_aload_n X dX1_keep_36 rfl 0 rfl ?_
      refine z_get (v := .int (nI C)) (N := 5) X i_RX1 (ci := 1) rfl 0 rfl 4 (by decide) f_25 rfl dX1_keep_37 ?_
      refine z_iload_n X dX1_keep_40 rfl 2 rfl ?_
      refine z_callN X (c_X4_changeIn l g (a 9) 8 rB C (nI o2) (by omega) (by omega)) gX1_keep_X4_changeIn_n29 n_nl_29 n_in_RX4 n_st_X4_changeIn rfl ⟨rfl, rfl⟩ (by decide +kernel) ⟨Nat.le_of_ble_eq_true rfl, Nat.le_of_ble_eq_true rfl⟩ ZF.room (isC := [2]) (by decide) rfl rfl (ws' := (wR g a C (upd rO C (nI o1)) (upd rB C (nI o2)) rD rW)) rfl (As := [.ref (a 9), .int (nI C), .int (nI o2)]) (n := 3) rfl rfl (st1 := []) rfl (Nat.le_of_ble_eq_true rfl) dX1_keep_41 ?_
      refine z_aload_n X dX1_keep_44 rfl 0 rfl ?_
      refine z_get (v := .ref (a 10)) (N := 5) X i_RX1 (ci := 1) rfl 0 rfl 2 (by decide) f_18 rfl dX1_keep_45 ?_
      refine z_aload_n X dX1_keep_48 rfl 0 rfl ?_
      refine z_get (v := .int (nI C)) (N := 5) X i_RX1 (ci := 1) rfl 0 rfl 4 (by decide) f_25 rfl dX1_keep_49 ?_
      refine z_iload_n X dX1_keep_52 rfl 3 rfl ?_
      refine z_callN X (c_X4_changeIn l g (a 10) 8 rD C (nI o3) (by omega) (by omega)) gX1_keep_X4_changeIn_n29 n_nl_29 n_in_RX4 n_st_X4_changeIn rfl ⟨rfl, rfl⟩ (by decide +kernel) ⟨Nat.le_of_ble_eq_true rfl, Nat.le_of_ble_eq_true rfl⟩ ZF.room (isC := [3]) (by decide) rfl rfl (ws' := (wR g a C (upd rO C (nI o1)) (upd rB C (nI o2)) (upd rD C (nI o3)) rW)) rfl (As := [.ref (a 10), .int (nI C), .int (nI o3)]) (n := 3) rfl rfl (st1 := []) rfl (Nat.le_of_ble_eq_true rfl) dX1_keep_53 ?_
      refine z_aload_n X dX1_keep_56 rfl 0 rfl ?_
      refine z_get (v := .ref (a 11)) (N := 5) X i_RX1 (ci := 1) rfl 0 rfl 3 (by decide) f_21 rfl dX1_keep_57 ?_
      refine z_aload_n X dX1_keep_60 rfl 0 rfl ?_
      refine z_get (v := .int (nI C)) (N := 5) X i_RX1 (ci := 1) rfl 0 rfl 4 (by decide) f_25 rfl dX1_keep_61 ?_
      refine z_iload X dX1_keep_64 4 rfl ?_
      refine z_zastN (ws' := (wR g a C (upd rO C (nI o1)) (upd rB C (nI o2)) (upd rD C (nI o3)) (upd rW C (bI o4)))) X 4 rfl (by omega) (by omega) (bI_nar2 _) dX1_keep_66 rfl ?_
      refine z_aload_n X dX1_keep_67 rfl 0 rfl ?_
      refine z_dup X dX1_keep_68 rfl ?_
      refine z_get (v := .int (nI C)) (N := 5) X i_RX1 (ci := 1) rfl 0 rfl 4 (by decide) f_25 rfl dX1_keep_69 ?_
      refine z_iconst (v := nI 1) X dX1_keep_72 (by decide) ?_
      refine z_iadd' (v := nI (C + 1)) X dX1_keep_73 (nI_add _ _) ?_
      refine z_put (ws' := (wR g a (C + 1) (upd rO C (nI o1)) (upd rB C (nI o2)) (upd rD C (nI o3)) (upd rW C (bI o4)))) (N := 5) X i_RX1 (ci := 1) rfl tyX1 tyX1_ok nmX1 0 rfl 4 (by decide) f_25 rfl (ty := .int) (by decide +kernel) rfl rfl (Nat.le_of_ble_eq_true rfl) dX1_keep_74 rfl ?_
      exact z_vret X ZF dX1_keep_77 rfl
    ·
      exact absurd hq2 (by omega)
abbrev rX1_dropLast : Room := { frames := 0, cells := 0, slots := 0, locals := 0 }
set_option maxHeartbeats 4000000 in
set_option maxRecDepth 100000 in
theorem c_X1_dropLast (l : Launch) (g : zg) (a : Nat → Nat) (C : Nat) (rO : Nat → Int32) (rB : Nat → Int32) (rD : Nat → Int32) (rW : Nat → Int32) (m : Nat) (hC : C ≤ 8) (hm : m ≤ C) : zM l g yX1_dropLast wsX1_dropLast rX1_dropLast [.ref (a 7), .int (nI m)] (wR g a C rO rB rD rW) none (wR g a (C - m) rO rB rD rW) := by
  refine z_met (own := RX1) (cc := cX1_dropLast) (maxL := 2) (ret := none) (by decide +kernel) rfl rfl (Nat.le_of_ble_eq_true rfl) ?_
  intro M X ZF
  refine z_Le (L' := [(0, .ref (a 7)), (1, .int (nI m))]) rfl ?_
  have i_RX1 : ∀ w ∈ wsX10, w ∈ wsX1_dropLast := by decide +kernel
  have f_25 : Cond.fieldLink RX1 25 (TX1 4).1 (TX1 4).2.1 (TX1 4).2.2.1 ∈ wsX1_dropLast := by decide +kernel
  refine z_aload_n X dX1_dropLast_0 rfl 0 rfl ?_
  refine z_dup X dX1_dropLast_1 rfl ?_
  refine z_get (v := .int (nI C)) (N := 5) X i_RX1 (ci := 1) rfl 0 rfl 4 (by decide) f_25 rfl dX1_dropLast_2 ?_
  refine z_iload_n X dX1_dropLast_5 rfl 1 rfl ?_
  refine z_isub' (v := nI (C - m)) X dX1_dropLast_6 (pk_sub (by omega)) ?_
  refine z_put (ws' := (wR g a (C - m) rO rB rD rW)) (N := 5) X i_RX1 (ci := 1) rfl tyX1 tyX1_ok nmX1 0 rfl 4 (by decide) f_25 rfl (ty := .int) (by decide +kernel) rfl rfl (Nat.le_of_ble_eq_true rfl) dX1_dropLast_7 rfl ?_
  exact z_vret X ZF dX1_dropLast_10 rfl
abbrev rX1_dropAll : Room := { frames := 0, cells := 0, slots := 0, locals := 0 }
set_option maxHeartbeats 4000000 in
set_option maxRecDepth 100000 in
theorem c_X1_dropAll (l : Launch) (g : zg) (a : Nat → Nat) (C : Nat) (rO : Nat → Int32) (rB : Nat → Int32) (rD : Nat → Int32) (rW : Nat → Int32) : zM l g yX1_dropAll wsX1_dropAll rX1_dropAll [.ref (a 7)] (wR g a C rO rB rD rW) none (wR g a 0 rO rB rD rW) := by
  refine z_met (own := RX1) (cc := cX1_dropAll) (maxL := 1) (ret := none) (by decide +kernel) rfl rfl (Nat.le_of_ble_eq_true rfl) ?_
  intro M X ZF
  refine z_Le (L' := [(0, .ref (a 7))]) rfl ?_
  have i_RX1 : ∀ w ∈ wsX10, w ∈ wsX1_dropAll := by decide +kernel
  have f_25 : Cond.fieldLink RX1 25 (TX1 4).1 (TX1 4).2.1 (TX1 4).2.2.1 ∈ wsX1_dropAll := by decide +kernel
  refine z_aload_n X dX1_dropAll_0 rfl 0 rfl ?_
  refine z_iconst (v := nI 0) X dX1_dropAll_1 (by decide) ?_
  refine z_put (ws' := (wR g a 0 rO rB rD rW)) (N := 5) X i_RX1 (ci := 1) rfl tyX1 tyX1_ok nmX1 0 rfl 4 (by decide) f_25 rfl (ty := .int) (by decide +kernel) rfl rfl (Nat.le_of_ble_eq_true rfl) dX1_dropAll_2 rfl ?_
  exact z_vret X ZF dX1_dropAll_5 rfl
abbrev rX1_allAreSo : Room := { frames := 3, cells := 0, slots := 0, locals := 68 }
set_option maxHeartbeats 4000000 in
set_option maxRecDepth 100000 in
theorem c_X1_allAreSo (l : Launch) (g : zg) (a : Nat → Nat) (C : Nat) (rO : Nat → Int32) (rB : Nat → Int32) (rD : Nat → Int32) (rW : Nat → Int32) (D : Nat) (E : Nat) (so : Int32) (lk : Nat → Int32) (kd : Nat → Int32) (st : Nat → Int32) (sp : Nat → Int32) (nd : Nat → Int32) (one : Int32) (lo : Nat) (s_w : Int32) (hC : C ≤ 8) (hE : E ≤ 4) (hD : D ≤ 6) (hL : vL kd st E) (hR : vR D E C rO rB rD rW) (hlo : lo ≤ 5) : zM l g yX1_allAreSo wsX1_allAreSo rX1_allAreSo [.ref (a 7), .ref (a 1), .int one, .int (nI lo), .int s_w] (wR g a C rO rB rD rW ++ (wD g a D E so lk kd st sp nd)) (some (.int (bI (ax D lk s_w kd st rO rB rD rW one lo C)))) (wR g a C rO rB rD rW ++ (wD g a D E so lk kd st sp nd)) := by
  refine z_met (own := RX1) (cc := cX1_allAreSo) (maxL := 9) (ret := some .boolean) (by decide +kernel) rfl rfl (Nat.le_of_ble_eq_true rfl) ?_
  intro M X ZF
  refine z_Le (L' := [(0, .ref (a 7)), (1, .ref (a 1)), (2, .int one), (3, .int (nI lo)), (4, .int s_w)]) rfl ?_
  have i_RX1 : ∀ w ∈ wsX10, w ∈ wsX1_allAreSo := by decide +kernel
  have f_25 : Cond.fieldLink RX1 25 (TX1 4).1 (TX1 4).2.1 (TX1 4).2.2.1 ∈ wsX1_allAreSo := by decide +kernel
  have f_21 : Cond.fieldLink RX1 21 (TX1 3).1 (TX1 3).2.1 (TX1 3).2.2.1 ∈ wsX1_allAreSo := by decide +kernel
  have f_9 : Cond.fieldLink RX1 9 (TX1 0).1 (TX1 0).2.1 (TX1 0).2.2.1 ∈ wsX1_allAreSo := by decide +kernel
  have n_st_X4_numberIn : Cond.static yX4_numberIn ∈ wsX1_allAreSo := by decide +kernel
  have n_in_RX4 : Cond.initialized RX4 ∈ wsX1_allAreSo := by decide +kernel
  have n_nl_33 : (RX1, 33, yX4_numberIn, RX4) ∈ zNl := by decide +kernel
  have f_18 : Cond.fieldLink RX1 18 (TX1 2).1 (TX1 2).2.1 (TX1 2).2.2.1 ∈ wsX1_allAreSo := by decide +kernel
  have f_15 : Cond.fieldLink RX1 15 (TX1 1).1 (TX1 1).2.1 (TX1 1).2.2.1 ∈ wsX1_allAreSo := by decide +kernel
  refine z_iconst (v := nI 0) X dX1_allAreSo_0 (by decide) ?_
  refine z_istore (L' := [(5, .int (nI 0)), (0, .ref (a 7)), (1, .ref (a 1)), (2, .int one), (3, .int (nI lo)), (4, .int s_w)]) X dX1_allAreSo_1 (by decide) rfl ?_
  have loopv1 : ∀ (n1 i_v : Nat), i_v ≤ C → C + 1 ≤ i_v + n1 → (ax D lk s_w kd st rO rB rD rW one lo i_v = true) → zG l g 9 M (wR g a C rO rB rD rW ++ (wD g a D E so lk kd st sp nd)) [(0, .ref (a 7)), (1, .ref (a 1)), (2, .int one), (3, .int (nI lo)), (4, .int s_w), (5, .int (nI i_v))] 3 [] := by
    intro n1
    induction n1 with
    | zero => intro i_v h1 h2 _; exact absurd h2 (by omega)
    | succ n1 ih1 =>
      intro i_v hi1 hn1 hax
      refine z_iload X dX1_allAreSo_3 5 rfl ?_
      refine z_aload_n X dX1_allAreSo_5 rfl 0 rfl ?_
      refine z_get (v := .int (nI C)) (N := 5) X i_RX1 (ci := 1) rfl 0 rfl 4 (by decide) f_25 rfl dX1_allAreSo_6 ?_
      refine z_icmp_geN (tgt := 99) X dX1_allAreSo_9 (by decide) (by omega) (by omega) (fun hq2 => ?_) (fun hq2 => ?_)
      ·
        refine z_iconst (v := nI 1) X dX1_allAreSo_99 (by decide) ?_
        exact z_zret X ZF dX1_allAreSo_100 (bI_nar _) (by exact bI_t (by rw [show C = i_v by omega]; exact hax)) rfl
      ·
        refine z_iload X dX1_allAreSo_12 5 rfl ?_
        refine z_aload_n X dX1_allAreSo_14 rfl 0 rfl ?_
        refine z_get (v := .ref (a 11)) (N := 5) X i_RX1 (ci := 1) rfl 0 rfl 3 (by decide) f_21 rfl dX1_allAreSo_15 ?_
        refine z_alenZ X 4 rfl dX1_allAreSo_18 ?_
        refine z_icmp_geN (tgt := 99) X dX1_allAreSo_19 (by decide) (by omega) (by omega) (fun hq3 => ?_) (fun hq3 => ?_)
        ·
          exact absurd hq3 (by omega)
        ·
          refine z_aload_n X dX1_allAreSo_22 rfl 0 rfl ?_
          refine z_get (v := .ref (a 8)) (N := 5) X i_RX1 (ci := 1) rfl 0 rfl 0 (by decide) f_9 rfl dX1_allAreSo_23 ?_
          refine z_iload X dX1_allAreSo_26 5 rfl ?_
          refine z_callN X (c_X4_numberIn l g (a 8) 8 rO i_v (by omega) (by omega)) gX1_allAreSo_X4_numberIn_n33 n_nl_33 n_in_RX4 n_st_X4_numberIn rfl ⟨rfl, rfl⟩ (by decide +kernel) ⟨Nat.le_of_ble_eq_true rfl, Nat.le_of_ble_eq_true rfl⟩ ZF.room (isC := [1]) (by decide) rfl rfl (ws' := (wR g a C rO rB rD rW ++ (wD g a D E so lk kd st sp nd))) rfl (As := [.ref (a 8), .int (nI i_v)]) (n := 2) rfl rfl (st1 := [.int (rO i_v)]) rfl (Nat.le_of_ble_eq_true rfl) dX1_allAreSo_28 ?_
          refine z_top (y := nI (tn (rO i_v))) (hR _ (by omega)).1.1 ?_
          refine z_istore (L' := [(6, .int (nI (tn (rO i_v)))), (0, .ref (a 7)), (1, .ref (a 1)), (2, .int one), (3, .int (nI lo)), (4, .int s_w), (5, .int (nI i_v))]) X dX1_allAreSo_31 (by decide) rfl ?_
          refine z_iload X dX1_allAreSo_33 0 rfl ?_
          refine z_iload_n X dX1_allAreSo_35 rfl 3 rfl ?_
          refine z_icmp_ne (tgt := 43) X dX1_allAreSo_36 (by decide) (fun hq4 => ?_) (fun hq4 => ?_)
          ·
            refine z_aload_n X dX1_allAreSo_43 rfl 2 rfl ?_
            refine z_iload X dX1_allAreSo_44 0 rfl ?_
            refine z_callV X (c_X0_lastsOf l g a D E so lk kd st sp nd (tn (rO i_v)) (hR _ (by omega)).1.2 (by omega) (by first | assumption | omega)) gX1_allAreSo_X0_lastsOf rfl ⟨rfl, rfl⟩ (by decide +kernel) ⟨Nat.le_of_ble_eq_true rfl, Nat.le_of_ble_eq_true rfl⟩ ZF.room (ci := 0) rfl 5 rfl (isC := [5, 6, 7, 8, 9, 10]) (by decide) rfl rfl (ws' := (wR g a C rO rB rD rW ++ (wD g a D E so lk kd st sp nd))) rfl (As := [.int (nI (tn (rO i_v)))]) (n := 1) rfl rfl (st1 := [.int (nI (Lf kd st (tn (rO i_v))))]) rfl (Nat.le_of_ble_eq_true rfl) dX1_allAreSo_46 ?_
            refine z_istore (L' := [(7, .int (nI (Lf kd st (tn (rO i_v))))), (6, .int (nI (tn (rO i_v)))), (0, .ref (a 7)), (1, .ref (a 1)), (2, .int one), (3, .int (nI lo)), (4, .int s_w), (5, .int (nI i_v))]) X dX1_allAreSo_49 (by decide) rfl ?_
            refine z_aload_n X dX1_allAreSo_51 rfl 3 rfl ?_
            refine z_aload_n X dX1_allAreSo_52 rfl 2 rfl ?_
            refine z_get (v := .ref (a 10)) (N := 5) X i_RX1 (ci := 1) rfl 0 rfl 2 (by decide) f_18 rfl dX1_allAreSo_53 ?_
            refine z_iload X dX1_allAreSo_56 7 rfl ?_
            refine z_callN X (c_X4_numberIn l g (a 10) 8 rD i_v (by omega) (by omega)) gX1_allAreSo_X4_numberIn_n33 n_nl_33 n_in_RX4 n_st_X4_numberIn rfl ⟨rfl, rfl⟩ (by decide +kernel) ⟨Nat.le_of_ble_eq_true rfl, Nat.le_of_ble_eq_true rfl⟩ ZF.room (isC := [3]) (by decide) rfl rfl (ws' := (wR g a C rO rB rD rW ++ (wD g a D E so lk kd st sp nd))) rfl (As := [.ref (a 10), .int (nI i_v)]) (n := 2) rfl rfl (st1 := [.int (rD i_v), .ref (a 1)]) rfl (Nat.le_of_ble_eq_true rfl) dX1_allAreSo_58 ?_
            refine z_top (y := nI (tn (rD i_v))) (hR _ (by omega)).2.2.1.1 ?_
            refine z_aload_n X dX1_allAreSo_61 rfl 2 rfl ?_
            refine z_get (v := .ref (a 9)) (N := 5) X i_RX1 (ci := 1) rfl 0 rfl 1 (by decide) f_15 rfl dX1_allAreSo_62 ?_
            refine z_iload X dX1_allAreSo_65 7 rfl ?_
            refine z_callN X (c_X4_numberIn l g (a 9) 8 rB i_v (by omega) (by omega)) gX1_allAreSo_X4_numberIn_n33 n_nl_33 n_in_RX4 n_st_X4_numberIn rfl ⟨rfl, rfl⟩ (by decide +kernel) ⟨Nat.le_of_ble_eq_true rfl, Nat.le_of_ble_eq_true rfl⟩ ZF.room (isC := [2]) (by decide) rfl rfl (ws' := (wR g a C rO rB rD rW ++ (wD g a D E so lk kd st sp nd))) rfl (As := [.ref (a 9), .int (nI i_v)]) (n := 2) rfl rfl (st1 := [.int (rB i_v), .int (nI (tn (rD i_v))), .ref (a 1)]) rfl (Nat.le_of_ble_eq_true rfl) dX1_allAreSo_67 ?_
            refine z_top (y := nI (tn (rB i_v))) (hR _ (by omega)).2.1.1 ?_
            refine z_iload X dX1_allAreSo_70 0 rfl ?_
            refine z_iload X dX1_allAreSo_72 6 rfl ?_
            refine z_callV X (c_X0_isFoundOn l g a D E so lk kd st sp nd (tn (rD i_v)) (tn (rB i_v)) (Lf kd st (tn (rO i_v))) s_w (hR _ (by omega)).2.2.1.2 (by omega) (hL _ (hR _ (by omega)).1.2).2) gX1_allAreSo_X0_isFoundOn rfl ⟨rfl, rfl⟩ (by decide +kernel) ⟨Nat.le_of_ble_eq_true rfl, Nat.le_of_ble_eq_true rfl⟩ ZF.room (ci := 0) rfl 5 rfl (isC := [5, 6, 7, 8, 9, 10]) (by decide) rfl rfl (ws' := (wR g a C rO rB rD rW ++ (wD g a D E so lk kd st sp nd))) rfl (As := [.int (nI (tn (rD i_v))), .int (nI (tn (rB i_v))), .int (nI (Lf kd st (tn (rO i_v)))), .int s_w]) (n := 4) rfl rfl (st1 := [.int (bI (zbt (yl D (Lf kd st (tn (rO i_v))) (tn (rB i_v))) (tn (rD i_v)) && !decide (lk (tn (rD i_v)) < s_w)))]) rfl (Nat.le_of_ble_eq_true rfl) dX1_allAreSo_74 ?_
            refine z_istore (L' := [(8, .int (bI (zbt (yl D (Lf kd st (tn (rO i_v))) (tn (rB i_v))) (tn (rD i_v)) && !decide (lk (tn (rD i_v)) < s_w)))), (7, .int (nI (Lf kd st (tn (rO i_v))))), (6, .int (nI (tn (rO i_v)))), (0, .ref (a 7)), (1, .ref (a 1)), (2, .int one), (3, .int (nI lo)), (4, .int s_w), (5, .int (nI i_v))]) X dX1_allAreSo_77 (by decide) rfl ?_
            refine z_iload X dX1_allAreSo_79 0 rfl ?_
            refine z_aload_n X dX1_allAreSo_81 rfl 3 rfl ?_
            refine z_get (v := .ref (a 11)) (N := 5) X i_RX1 (ci := 1) rfl 0 rfl 3 (by decide) f_21 rfl dX1_allAreSo_82 ?_
            refine z_iload X dX1_allAreSo_85 8 rfl ?_
            refine z_zaldN X 4 rfl (by omega) (by omega) dX1_allAreSo_87 ?_
            refine z_top (y := bI (decide (rW i_v = 1))) (hR _ (by omega)).2.2.2 ?_
            refine z_icmp_eqB (tgt := 93) X dX1_allAreSo_88 (by decide) (fun hq5 => ?_) (fun hq5 => ?_)
            ·
              refine z_iinc (v := nI (i_v + 1)) (L' := [(5, .int (nI (i_v + 1))), (8, .int (bI (zbt (yl D (Lf kd st (tn (rO i_v))) (tn (rB i_v))) (tn (rD i_v)) && !decide (lk (tn (rD i_v)) < s_w)))), (7, .int (nI (Lf kd st (tn (rO i_v))))), (6, .int (nI (tn (rO i_v)))), (0, .ref (a 7)), (1, .ref (a 1)), (2, .int one), (3, .int (nI lo)), (4, .int s_w)]) X dX1_allAreSo_93 8 rfl (nI_inc i_v 1) (by decide) rfl ?_
              refine z_goto (tgt := 3) X dX1_allAreSo_96 (by decide) ?_
              refine z_ls (L' := [(0, .ref (a 7)), (1, .ref (a 1)), (2, .int one), (3, .int (nI lo)), (4, .int s_w), (5, .int (nI (i_v + 1)))]) [4, 5, 6, 7, 8, 0] rfl ?_
              exact ih1 (i_v + 1) (by omega) (by omega) (by unfold ax; rw [hax]; unfold sx1; rw [if_neg hq4, hq5]; simp)
            ·
              refine z_iconst (v := nI 0) X dX1_allAreSo_91 (by decide) ?_
              exact z_zret X ZF dX1_allAreSo_92 (bI_nar _) (by exact bI_f (ax_none C (i_v + 1) (by omega) (by unfold ax; rw [hax]; unfold sx1; rw [if_neg hq4]; simpa using hq5))) rfl
          ·
            refine z_iload_n X dX1_allAreSo_39 rfl 4 rfl ?_
            refine z_goto (tgt := 49) X dX1_allAreSo_40 (by decide) ?_
            refine z_istore (L' := [(7, .int (nI lo)), (6, .int (nI (tn (rO i_v)))), (0, .ref (a 7)), (1, .ref (a 1)), (2, .int one), (3, .int (nI lo)), (4, .int s_w), (5, .int (nI i_v))]) X dX1_allAreSo_49 (by decide) rfl ?_
            refine z_aload_n X dX1_allAreSo_51 rfl 3 rfl ?_
            refine z_aload_n X dX1_allAreSo_52 rfl 2 rfl ?_
            refine z_get (v := .ref (a 10)) (N := 5) X i_RX1 (ci := 1) rfl 0 rfl 2 (by decide) f_18 rfl dX1_allAreSo_53 ?_
            refine z_iload X dX1_allAreSo_56 7 rfl ?_
            refine z_callN X (c_X4_numberIn l g (a 10) 8 rD i_v (by omega) (by omega)) gX1_allAreSo_X4_numberIn_n33 n_nl_33 n_in_RX4 n_st_X4_numberIn rfl ⟨rfl, rfl⟩ (by decide +kernel) ⟨Nat.le_of_ble_eq_true rfl, Nat.le_of_ble_eq_true rfl⟩ ZF.room (isC := [3]) (by decide) rfl rfl (ws' := (wR g a C rO rB rD rW ++ (wD g a D E so lk kd st sp nd))) rfl (As := [.ref (a 10), .int (nI i_v)]) (n := 2) rfl rfl (st1 := [.int (rD i_v), .ref (a 1)]) rfl (Nat.le_of_ble_eq_true rfl) dX1_allAreSo_58 ?_
            refine z_top (y := nI (tn (rD i_v))) (hR _ (by omega)).2.2.1.1 ?_
            refine z_aload_n X dX1_allAreSo_61 rfl 2 rfl ?_
            refine z_get (v := .ref (a 9)) (N := 5) X i_RX1 (ci := 1) rfl 0 rfl 1 (by decide) f_15 rfl dX1_allAreSo_62 ?_
            refine z_iload X dX1_allAreSo_65 7 rfl ?_
            refine z_callN X (c_X4_numberIn l g (a 9) 8 rB i_v (by omega) (by omega)) gX1_allAreSo_X4_numberIn_n33 n_nl_33 n_in_RX4 n_st_X4_numberIn rfl ⟨rfl, rfl⟩ (by decide +kernel) ⟨Nat.le_of_ble_eq_true rfl, Nat.le_of_ble_eq_true rfl⟩ ZF.room (isC := [2]) (by decide) rfl rfl (ws' := (wR g a C rO rB rD rW ++ (wD g a D E so lk kd st sp nd))) rfl (As := [.ref (a 9), .int (nI i_v)]) (n := 2) rfl rfl (st1 := [.int (rB i_v), .int (nI (tn (rD i_v))), .ref (a 1)]) rfl (Nat.le_of_ble_eq_true rfl) dX1_allAreSo_67 ?_
            refine z_top (y := nI (tn (rB i_v))) (hR _ (by omega)).2.1.1 ?_
            refine z_iload X dX1_allAreSo_70 0 rfl ?_
            refine z_iload X dX1_allAreSo_72 6 rfl ?_
            refine z_callV X (c_X0_isFoundOn l g a D E so lk kd st sp nd (tn (rD i_v)) (tn (rB i_v)) lo s_w (hR _ (by omega)).2.2.1.2 (by omega) (by omega)) gX1_allAreSo_X0_isFoundOn rfl ⟨rfl, rfl⟩ (by decide +kernel) ⟨Nat.le_of_ble_eq_true rfl, Nat.le_of_ble_eq_true rfl⟩ ZF.room (ci := 0) rfl 5 rfl (isC := [5, 6, 7, 8, 9, 10]) (by decide) rfl rfl (ws' := (wR g a C rO rB rD rW ++ (wD g a D E so lk kd st sp nd))) rfl (As := [.int (nI (tn (rD i_v))), .int (nI (tn (rB i_v))), .int (nI lo), .int s_w]) (n := 4) rfl rfl (st1 := [.int (bI (zbt (yl D lo (tn (rB i_v))) (tn (rD i_v)) && !decide (lk (tn (rD i_v)) < s_w)))]) rfl (Nat.le_of_ble_eq_true rfl) dX1_allAreSo_74 ?_
            refine z_istore (L' := [(8, .int (bI (zbt (yl D lo (tn (rB i_v))) (tn (rD i_v)) && !decide (lk (tn (rD i_v)) < s_w)))), (7, .int (nI lo)), (6, .int (nI (tn (rO i_v)))), (0, .ref (a 7)), (1, .ref (a 1)), (2, .int one), (3, .int (nI lo)), (4, .int s_w), (5, .int (nI i_v))]) X dX1_allAreSo_77 (by decide) rfl ?_
            refine z_iload X dX1_allAreSo_79 0 rfl ?_
            refine z_aload_n X dX1_allAreSo_81 rfl 3 rfl ?_
            refine z_get (v := .ref (a 11)) (N := 5) X i_RX1 (ci := 1) rfl 0 rfl 3 (by decide) f_21 rfl dX1_allAreSo_82 ?_
            refine z_iload X dX1_allAreSo_85 8 rfl ?_
            refine z_zaldN X 4 rfl (by omega) (by omega) dX1_allAreSo_87 ?_
            refine z_top (y := bI (decide (rW i_v = 1))) (hR _ (by omega)).2.2.2 ?_
            refine z_icmp_eqB (tgt := 93) X dX1_allAreSo_88 (by decide) (fun hq6 => ?_) (fun hq6 => ?_)
            ·
              refine z_iinc (v := nI (i_v + 1)) (L' := [(5, .int (nI (i_v + 1))), (8, .int (bI (zbt (yl D lo (tn (rB i_v))) (tn (rD i_v)) && !decide (lk (tn (rD i_v)) < s_w)))), (7, .int (nI lo)), (6, .int (nI (tn (rO i_v)))), (0, .ref (a 7)), (1, .ref (a 1)), (2, .int one), (3, .int (nI lo)), (4, .int s_w)]) X dX1_allAreSo_93 8 rfl (nI_inc i_v 1) (by decide) rfl ?_
              refine z_goto (tgt := 3) X dX1_allAreSo_96 (by decide) ?_
              refine z_ls (L' := [(0, .ref (a 7)), (1, .ref (a 1)), (2, .int one), (3, .int (nI lo)), (4, .int s_w), (5, .int (nI (i_v + 1)))]) [4, 5, 6, 7, 8, 0] rfl ?_
              exact ih1 (i_v + 1) (by omega) (by omega) (by unfold ax; rw [hax]; unfold sx1; rw [if_pos hq4, hq6]; simp)
            ·
              refine z_iconst (v := nI 0) X dX1_allAreSo_91 (by decide) ?_
              exact z_zret X ZF dX1_allAreSo_92 (bI_nar _) (by exact bI_f (ax_none C (i_v + 1) (by omega) (by unfold ax; rw [hax]; unfold sx1; rw [if_pos hq4]; simpa using hq6))) rfl
  refine z_ls (L' := [(0, .ref (a 7)), (1, .ref (a 1)), (2, .int one), (3, .int (nI lo)), (4, .int s_w), (5, .int (nI 0))]) [1, 2, 3, 4, 5, 0] rfl ?_
  exact loopv1 (C + 1) 0 (by omega) (by omega) rfl
abbrev rX0_hasPlan : Room := { frames := 2, cells := 0, slots := 0, locals := 42 }
set_option maxHeartbeats 4000000 in
set_option maxRecDepth 100000 in
theorem c_X0_hasPlan (l : Launch) (g : zg) (a : Nat → Nat) (p : Nat) (q : Nat) (D : Nat) (E : Nat) (so : Int32) (lk : Nat → Int32) (kd : Nat → Int32) (st : Nat → Int32) (sp : Nat → Int32) (nd : Nat → Int32) (ln : Int32) (le : Int32) (ce : Nat → Int32) (i_i : Nat) (n_n : Nat) (hii : i_i + n_n ≤ 60) (hE : E ≤ 4) (hD : D ≤ 6) : zM l g yX0_hasPlan wsX0_hasPlan rX0_hasPlan [.ref (a 1), .ref p, .int (nI i_i), .int (nI n_n)] (wD g a D E so lk kd st sp nd ++ (wS g p q ln le ce)) (some (.int (bI (decide (n_n = E) && alp ce i_i D E)))) (wD g a D E so lk kd st sp nd ++ (wS g p q ln le ce)) := by
  refine z_met (own := RX0) (cc := cX0_hasPlan) (maxL := 5) (ret := some .boolean) (by decide +kernel) rfl rfl (Nat.le_of_ble_eq_true rfl) ?_
  intro M X ZF
  refine z_Le (L' := [(0, .ref (a 1)), (1, .ref p), (2, .int (nI i_i)), (3, .int (nI n_n))]) rfl ?_
  have i_RX0 : ∀ w ∈ wsX00, w ∈ wsX0_hasPlan := by decide +kernel
  have f_40 : Cond.fieldLink RX0 40 (TX0 6).1 (TX0 6).2.1 (TX0 6).2.2.1 ∈ wsX0_hasPlan := by decide +kernel
  refine z_iload_n X dX0_hasPlan_0 rfl 3 rfl ?_
  refine z_aload_n X dX0_hasPlan_1 rfl 0 rfl ?_
  refine z_get (v := .int (nI E)) (N := 8) X i_RX0 (ci := 0) rfl 0 rfl 6 (by decide) f_40 rfl dX0_hasPlan_2 ?_
  refine z_icmp_eqN (tgt := 10) X dX0_hasPlan_5 (by decide) (by omega) (by omega) (fun hq1 => ?_) (fun hq1 => ?_)
  ·
    refine z_iconst (v := nI 0) X dX0_hasPlan_10 (by decide) ?_
    refine z_istore (L' := [(4, .int (nI 0)), (0, .ref (a 1)), (1, .ref p), (2, .int (nI i_i)), (3, .int (nI n_n))]) X dX0_hasPlan_11 (by decide) rfl ?_
    have loopv2 : ∀ (n2 i_v : Nat), i_v ≤ E → E + 1 ≤ i_v + n2 → (alp ce i_i D i_v = true) → zG l g 5 M (wD g a D E so lk kd st sp nd ++ (wS g p q ln le ce)) [(0, .ref (a 1)), (1, .ref p), (2, .int (nI i_i)), (3, .int (nI n_n)), (4, .int (nI i_v))] 13 [] := by
      intro n2
      induction n2 with
      | zero => intro i_v h1 h2 _; exact absurd h2 (by omega)
      | succ n2 ih2 =>
        intro i_v hi2 hn2 hal
        refine z_iload X dX0_hasPlan_13 4 rfl ?_
        refine z_aload_n X dX0_hasPlan_15 rfl 0 rfl ?_
        refine z_get (v := .int (nI E)) (N := 8) X i_RX0 (ci := 0) rfl 0 rfl 6 (by decide) f_40 rfl dX0_hasPlan_16 ?_
        refine z_icmp_geN (tgt := 45) X dX0_hasPlan_19 (by decide) (by omega) (by omega) (fun hq3 => ?_) (fun hq3 => ?_)
        ·
          refine z_iconst (v := nI 1) X dX0_hasPlan_45 (by decide) ?_
          exact z_zret X ZF dX0_hasPlan_46 (bI_nar _) (by exact bI_t (by rw [show E = i_v by omega, hal]; simp; omega)) rfl
        ·
          refine z_aload_n X dX0_hasPlan_22 rfl 0 rfl ?_
          refine z_aload_n X dX0_hasPlan_23 rfl 1 rfl ?_
          refine z_iload_n X dX0_hasPlan_24 rfl 2 rfl ?_
          refine z_iload X dX0_hasPlan_25 4 rfl ?_
          refine z_iadd' (v := nI (i_i + i_v)) X dX0_hasPlan_27 (nI_add _ _) ?_
          refine z_callV X (c_X2_numberAt l g p q ln le ce (i_i + i_v) (by omega)) gX0_hasPlan_X2_numberAt rfl ⟨rfl, rfl⟩ (by decide +kernel) ⟨Nat.le_of_ble_eq_true rfl, Nat.le_of_ble_eq_true rfl⟩ ZF.room (ci := 2) rfl 6 rfl (isC := [6, 7]) (by decide) rfl rfl (ws' := (wD g a D E so lk kd st sp nd ++ (wS g p q ln le ce))) rfl (As := [.int (nI (i_i + i_v))]) (n := 1) rfl rfl (st1 := [.int (ce (i_i + i_v)), .ref (a 1)]) rfl (Nat.le_of_ble_eq_true rfl) dX0_hasPlan_28 ?_
          refine z_callV X (c_X0_hasDays l g a D E so lk kd st sp nd (ce (i_i + i_v)) (by omega)) gX0_hasPlan_X0_hasDays rfl ⟨rfl, rfl⟩ (by decide +kernel) ⟨Nat.le_of_ble_eq_true rfl, Nat.le_of_ble_eq_true rfl⟩ ZF.room (ci := 0) rfl 0 rfl (isC := [0, 1, 2, 3, 4, 5]) (by decide) rfl rfl (ws' := (wD g a D E so lk kd st sp nd ++ (wS g p q ln le ce))) rfl (As := [.int (ce (i_i + i_v))]) (n := 1) rfl rfl (st1 := [.int (bI (zin (ce (i_i + i_v)) (2 ^ D)))]) rfl (Nat.le_of_ble_eq_true rfl) dX0_hasPlan_31 ?_
          refine z_if_neB (tgt := 39) X dX0_hasPlan_34 (by decide) (fun hq4 => ?_) (fun hq4 => ?_)
          ·
            refine z_iinc (v := nI (i_v + 1)) (L' := [(4, .int (nI (i_v + 1))), (0, .ref (a 1)), (1, .ref p), (2, .int (nI i_i)), (3, .int (nI n_n))]) X dX0_hasPlan_39 4 rfl (nI_inc i_v 1) (by decide) rfl ?_
            refine z_goto (tgt := 13) X dX0_hasPlan_42 (by decide) ?_
            refine z_ls (L' := [(0, .ref (a 1)), (1, .ref p), (2, .int (nI i_i)), (3, .int (nI n_n)), (4, .int (nI (i_v + 1)))]) [1, 2, 3, 4, 0] rfl ?_
            exact ih2 (i_v + 1) (by omega) (by omega) (by unfold alp; rw [hal, hq4]; rfl)
          ·
            refine z_iconst (v := nI 0) X dX0_hasPlan_37 (by decide) ?_
            exact z_zret X ZF dX0_hasPlan_38 (bI_nar _) (by exact bI_f (by rw [alp_none E (i_v + 1) (by omega) (by unfold alp; rw [hal, hq4]; rfl)]; simp)) rfl
    refine z_ls (L' := [(0, .ref (a 1)), (1, .ref p), (2, .int (nI i_i)), (3, .int (nI n_n)), (4, .int (nI 0))]) [1, 2, 3, 4, 0] rfl ?_
    exact loopv2 (E + 1) 0 (by omega) (by omega) rfl
  ·
    refine z_iconst (v := nI 0) X dX0_hasPlan_8 (by decide) ?_
    exact z_zret X ZF dX0_hasPlan_9 (bI_nar _) (by simp [bI, nI_0, hq1]) rfl
abbrev rX0_finesOfPlan : Room := { frames := 4, cells := 0, slots := 0, locals := 88 }
set_option maxHeartbeats 4000000 in
set_option maxRecDepth 100000 in
theorem c_X0_finesOfPlan (l : Launch) (g : zg) (a : Nat → Nat) (p : Nat) (q : Nat) (D : Nat) (E : Nat) (so : Int32) (lk : Nat → Int32) (kd : Nat → Int32) (st : Nat → Int32) (sp : Nat → Int32) (nd : Nat → Int32) (ln : Int32) (le : Int32) (ce : Nat → Int32) (i_i : Nat) (hii : i_i + E ≤ 60) (hE : E ≤ 4) (hD : D ≤ 6) (hL : vL kd st E) (hSp : vS sp E) (hF : ∀ a_, a_ < E → ce (i_i + a_) = nI (tn (ce (i_i + a_))) ∧ tn (ce (i_i + a_)) < 2 ^ D) : zM l g yX0_finesOfPlan wsX0_finesOfPlan rX0_finesOfPlan [.ref (a 1), .ref p, .int (nI i_i)] (wD g a D E so lk kd st sp nd ++ (wS g p q ln le ce)) (some (.int (nI (fpl D kd st sp (fs lk so D) ce i_i E)))) (wD g a D E so lk kd st sp nd ++ (wS g p q ln le ce)) := by
  refine z_met (own := RX0) (cc := cX0_finesOfPlan) (maxL := 5) (ret := some .int) (by decide +kernel) rfl rfl (Nat.le_of_ble_eq_true rfl) ?_
  intro M X ZF
  refine z_Le (L' := [(0, .ref (a 1)), (1, .ref p), (2, .int (nI i_i))]) rfl ?_
  have i_RX0 : ∀ w ∈ wsX00, w ∈ wsX0_finesOfPlan := by decide +kernel
  have f_40 : Cond.fieldLink RX0 40 (TX0 6).1 (TX0 6).2.1 (TX0 6).2.2.1 ∈ wsX0_finesOfPlan := by decide +kernel
  refine z_iconst (v := nI 0) X dX0_finesOfPlan_0 (by decide) ?_
  refine z_istore_n (L' := [(3, .int (nI 0)), (0, .ref (a 1)), (1, .ref p), (2, .int (nI i_i))]) X dX0_finesOfPlan_1 rfl (by decide) rfl ?_
  refine z_iconst (v := nI 0) X dX0_finesOfPlan_2 (by decide) ?_
  refine z_istore (L' := [(4, .int (nI 0)), (3, .int (nI 0)), (0, .ref (a 1)), (1, .ref p), (2, .int (nI i_i))]) X dX0_finesOfPlan_3 (by decide) rfl ?_
  have loopv1 : ∀ (n1 i_v : Nat), i_v ≤ E → E + 1 ≤ i_v + n1 → zG l g 5 M (wD g a D E so lk kd st sp nd ++ (wS g p q ln le ce)) [(0, .ref (a 1)), (1, .ref p), (2, .int (nI i_i)), (3, .int (nI (fpl D kd st sp (fs lk so D) ce i_i i_v))), (4, .int (nI i_v))] 5 [] := by
    intro n1
    induction n1 with
    | zero => intro i_v h1 h2; exact absurd h2 (by omega)
    | succ n1 ih1 =>
      intro i_v hi1 hn1
      refine z_iload X dX0_finesOfPlan_5 4 rfl ?_
      refine z_aload_n X dX0_finesOfPlan_7 rfl 0 rfl ?_
      refine z_get (v := .int (nI E)) (N := 8) X i_RX0 (ci := 0) rfl 0 rfl 6 (by decide) f_40 rfl dX0_finesOfPlan_8 ?_
      refine z_icmp_geN (tgt := 37) X dX0_finesOfPlan_11 (by decide) (by omega) (by omega) (fun hq2 => ?_) (fun hq2 => ?_)
      ·
        refine z_iload_n X dX0_finesOfPlan_37 rfl 3 rfl ?_
        exact z_iret X ZF dX0_finesOfPlan_38 (by rw [show i_v = E by omega]) rfl
      ·
        refine z_iload_n X dX0_finesOfPlan_14 rfl 3 rfl ?_
        refine z_aload_n X dX0_finesOfPlan_15 rfl 0 rfl ?_
        refine z_iload X dX0_finesOfPlan_16 4 rfl ?_
        refine z_aload_n X dX0_finesOfPlan_18 rfl 1 rfl ?_
        refine z_iload_n X dX0_finesOfPlan_19 rfl 2 rfl ?_
        refine z_iload X dX0_finesOfPlan_20 4 rfl ?_
        refine z_iadd' (v := nI (i_i + i_v)) X dX0_finesOfPlan_22 (nI_add _ _) ?_
        refine z_callV X (c_X2_numberAt l g p q ln le ce (i_i + i_v) (by omega)) gX0_finesOfPlan_X2_numberAt rfl ⟨rfl, rfl⟩ (by decide +kernel) ⟨Nat.le_of_ble_eq_true rfl, Nat.le_of_ble_eq_true rfl⟩ ZF.room (ci := 2) rfl 6 rfl (isC := [6, 7]) (by decide) rfl rfl (ws' := (wD g a D E so lk kd st sp nd ++ (wS g p q ln le ce))) rfl (As := [.int (nI (i_i + i_v))]) (n := 1) rfl rfl (st1 := [.int (ce (i_i + i_v)), .int (nI i_v), .ref (a 1), .int (nI (fpl D kd st sp (fs lk so D) ce i_i i_v))]) rfl (Nat.le_of_ble_eq_true rfl) dX0_finesOfPlan_23 ?_
        refine z_top (y := nI (tn (ce (i_i + i_v)))) (hF _ (by omega)).1 ?_
        refine z_callV X (c_X0_fineOf l g a D E so lk kd st sp nd i_v (tn (ce (i_i + i_v))) (by omega) (by omega) (by omega) (by first | assumption | omega) (by first | assumption | omega)) gX0_finesOfPlan_X0_fineOf rfl ⟨rfl, rfl⟩ (by decide +kernel) ⟨Nat.le_of_ble_eq_true rfl, Nat.le_of_ble_eq_true rfl⟩ ZF.room (ci := 0) rfl 0 rfl (isC := [0, 1, 2, 3, 4, 5]) (by decide) rfl rfl (ws' := (wD g a D E so lk kd st sp nd ++ (wS g p q ln le ce))) rfl (As := [.int (nI i_v), .int (nI (tn (ce (i_i + i_v))))]) (n := 2) rfl rfl (st1 := [.int (nI (pc (fnd D (Lf kd st i_v) (tn (ce (i_i + i_v))) (fs lk so D)) * tn (sp i_v))), .int (nI (fpl D kd st sp (fs lk so D) ce i_i i_v))]) rfl (Nat.le_of_ble_eq_true rfl) dX0_finesOfPlan_26 ?_
        refine z_iadd' (v := nI ((fpl D kd st sp (fs lk so D) ce i_i i_v) + (pc (fnd D (Lf kd st i_v) (tn (ce (i_i + i_v))) (fs lk so D)) * tn (sp i_v)))) X dX0_finesOfPlan_29 (nI_add _ _) ?_
        refine z_istore_n (L' := [(3, .int (nI ((fpl D kd st sp (fs lk so D) ce i_i i_v) + (pc (fnd D (Lf kd st i_v) (tn (ce (i_i + i_v))) (fs lk so D)) * tn (sp i_v))))), (0, .ref (a 1)), (1, .ref p), (2, .int (nI i_i)), (4, .int (nI i_v))]) X dX0_finesOfPlan_30 rfl (by decide) rfl ?_
        refine z_iinc (v := nI (i_v + 1)) (L' := [(4, .int (nI (i_v + 1))), (3, .int (nI ((fpl D kd st sp (fs lk so D) ce i_i i_v) + (pc (fnd D (Lf kd st i_v) (tn (ce (i_i + i_v))) (fs lk so D)) * tn (sp i_v))))), (0, .ref (a 1)), (1, .ref p), (2, .int (nI i_i))]) X dX0_finesOfPlan_31 4 rfl (nI_inc i_v 1) (by decide) rfl ?_
        refine z_goto (tgt := 5) X dX0_finesOfPlan_34 (by decide) ?_
        refine z_ls (L' := [(0, .ref (a 1)), (1, .ref p), (2, .int (nI i_i)), (3, .int (nI ((fpl D kd st sp (fs lk so D) ce i_i i_v) + (pc (fnd D (Lf kd st i_v) (tn (ce (i_i + i_v))) (fs lk so D)) * tn (sp i_v))))), (4, .int (nI (i_v + 1)))]) [2, 3, 4, 1, 0] rfl ?_
        have e3 : (nI ((fpl D kd st sp (fs lk so D) ce i_i i_v) + (pc (fnd D (Lf kd st i_v) (tn (ce (i_i + i_v))) (fs lk so D)) * tn (sp i_v)))) = (nI (fpl D kd st sp (fs lk so D) ce i_i (i_v + 1))) := by rfl
        refine z_Le (L' := [(0, .ref (a 1)), (1, .ref p), (2, .int (nI i_i)), (3, .int (nI (fpl D kd st sp (fs lk so D) ce i_i (i_v + 1)))), (4, .int (nI (i_v + 1)))]) (by rw [← e3]) ?_
        exact ih1 (i_v + 1) (by omega) (by omega)
  refine z_ls (L' := [(0, .ref (a 1)), (1, .ref p), (2, .int (nI i_i)), (3, .int (nI 0)), (4, .int (nI 0))]) [2, 3, 4, 1, 0] rfl ?_
  have e4 : (nI 0) = (nI (fpl D kd st sp (fs lk so D) ce i_i 0)) := by rfl
  refine z_Le (L' := [(0, .ref (a 1)), (1, .ref p), (2, .int (nI i_i)), (3, .int (nI (fpl D kd st sp (fs lk so D) ce i_i 0))), (4, .int (nI 0))]) (by rw [← e4]) ?_
  exact loopv1 (E + 1) 0 (by omega) (by omega)
abbrev rX0_firstDayOfPlan : Room := { frames := 3, cells := 0, slots := 0, locals := 66 }
set_option maxHeartbeats 4000000 in
set_option maxRecDepth 100000 in
theorem c_X0_firstDayOfPlan (l : Launch) (g : zg) (a : Nat → Nat) (p : Nat) (q : Nat) (D : Nat) (E : Nat) (so : Int32) (lk : Nat → Int32) (kd : Nat → Int32) (st : Nat → Int32) (sp : Nat → Int32) (nd : Nat → Int32) (ln : Int32) (le : Int32) (ce : Nat → Int32) (i_i : Nat) (hii : i_i + E ≤ 60) (hE : E ≤ 4) (hD : D ≤ 6) (hL : vL kd st E) (hF : ∀ a_, a_ < E → ce (i_i + a_) = nI (tn (ce (i_i + a_))) ∧ tn (ce (i_i + a_)) < 2 ^ D) : zM l g yX0_firstDayOfPlan wsX0_firstDayOfPlan rX0_firstDayOfPlan [.ref (a 1), .ref p, .int (nI i_i)] (wD g a D E so lk kd st sp nd ++ (wS g p q ln le ce)) (some (.int (fdx (opl D kd st (fs lk so D) ce i_i E) D 0))) (wD g a D E so lk kd st sp nd ++ (wS g p q ln le ce)) := by
  refine z_met (own := RX0) (cc := cX0_firstDayOfPlan) (maxL := 5) (ret := some .int) (by decide +kernel) rfl rfl (Nat.le_of_ble_eq_true rfl) ?_
  intro M X ZF
  refine z_Le (L' := [(0, .ref (a 1)), (1, .ref p), (2, .int (nI i_i))]) rfl ?_
  have hop := opl_lt (D := D) (kd := kd) (st := st) (F := fs lk so D) (f := ce) (i := i_i) hD E
  have i_RX0 : ∀ w ∈ wsX00, w ∈ wsX0_firstDayOfPlan := by decide +kernel
  have f_40 : Cond.fieldLink RX0 40 (TX0 6).1 (TX0 6).2.1 (TX0 6).2.2.1 ∈ wsX0_firstDayOfPlan := by decide +kernel
  have f_37 : Cond.fieldLink RX0 37 (TX0 5).1 (TX0 5).2.1 (TX0 5).2.2.1 ∈ wsX0_firstDayOfPlan := by decide +kernel
  refine z_iconst (v := nI 0) X dX0_firstDayOfPlan_0 (by decide) ?_
  refine z_istore_n (L' := [(3, .int (nI 0)), (0, .ref (a 1)), (1, .ref p), (2, .int (nI i_i))]) X dX0_firstDayOfPlan_1 rfl (by decide) rfl ?_
  refine z_iconst (v := nI 0) X dX0_firstDayOfPlan_2 (by decide) ?_
  refine z_istore (L' := [(4, .int (nI 0)), (3, .int (nI 0)), (0, .ref (a 1)), (1, .ref p), (2, .int (nI i_i))]) X dX0_firstDayOfPlan_3 (by decide) rfl ?_
  have loopv1 : ∀ (n1 i_v : Nat), i_v ≤ E → E + 1 ≤ i_v + n1 → zG l g 5 M (wD g a D E so lk kd st sp nd ++ (wS g p q ln le ce)) [(0, .ref (a 1)), (1, .ref p), (2, .int (nI i_i)), (3, .int (nI (opl D kd st (fs lk so D) ce i_i i_v))), (4, .int (nI i_v))] 5 [] := by
    intro n1
    induction n1 with
    | zero => intro i_v h1 h2; exact absurd h2 (by omega)
    | succ n1 ih1 =>
      intro i_v hi1 hn1
      refine z_iload X dX0_firstDayOfPlan_5 4 rfl ?_
      refine z_aload_n X dX0_firstDayOfPlan_7 rfl 0 rfl ?_
      refine z_get (v := .int (nI E)) (N := 8) X i_RX0 (ci := 0) rfl 0 rfl 6 (by decide) f_40 rfl dX0_firstDayOfPlan_8 ?_
      refine z_icmp_geN (tgt := 37) X dX0_firstDayOfPlan_11 (by decide) (by omega) (by omega) (fun hq2 => ?_) (fun hq2 => ?_)
      ·
        refine z_iconst (v := nI 0) X dX0_firstDayOfPlan_37 (by decide) ?_
        refine z_istore (L' := [(4, .int (nI 0)), (0, .ref (a 1)), (1, .ref p), (2, .int (nI i_i)), (3, .int (nI (opl D kd st (fs lk so D) ce i_i i_v)))]) X dX0_firstDayOfPlan_38 (by decide) rfl ?_
        have loopv3 : ∀ (n3 d_v : Nat), d_v ≤ D → D + 1 ≤ d_v + n3 → (fdx (opl D kd st (fs lk so D) ce i_i E) D 0 = fdx (opl D kd st (fs lk so D) ce i_i E) (D - d_v) d_v) → zG l g 5 M (wD g a D E so lk kd st sp nd ++ (wS g p q ln le ce)) [(0, .ref (a 1)), (1, .ref p), (2, .int (nI i_i)), (3, .int (nI (opl D kd st (fs lk so D) ce i_i E))), (4, .int (nI d_v))] 40 [] := by
          intro n3
          induction n3 with
          | zero => intro d_v h1 h2 _; exact absurd h2 (by omega)
          | succ n3 ih3 =>
            intro d_v hi3 hn3 hfd
            refine z_iload X dX0_firstDayOfPlan_40 4 rfl ?_
            refine z_aload_n X dX0_firstDayOfPlan_42 rfl 0 rfl ?_
            refine z_get (v := .int (nI D)) (N := 8) X i_RX0 (ci := 0) rfl 0 rfl 5 (by decide) f_37 rfl dX0_firstDayOfPlan_43 ?_
            refine z_icmp_geN (tgt := 67) X dX0_firstDayOfPlan_46 (by decide) (by omega) (by omega) (fun hq4 => ?_) (fun hq4 => ?_)
            ·
              refine z_bipush (v := (-9)) X dX0_firstDayOfPlan_67 (by decide) ?_
              exact z_iret X ZF dX0_firstDayOfPlan_69 (by rw [hfd, show D - d_v = 0 by omega]; rfl) rfl
            ·
              refine z_iload_n X dX0_firstDayOfPlan_49 rfl 3 rfl ?_
              refine z_iload X dX0_firstDayOfPlan_50 4 rfl ?_
              refine z_ishr' (v := nI ((opl D kd st (fs lk so D) ce i_i E) / 2 ^ d_v)) X dX0_firstDayOfPlan_52 (nI_shr (by omega) (by omega)) ?_
              refine z_iconst (v := nI 1) X dX0_firstDayOfPlan_53 (by decide) ?_
              refine z_iand' (v := nI (((opl D kd st (fs lk so D) ce i_i E) / 2 ^ d_v) % 2)) X dX0_firstDayOfPlan_54 (nI_and1 _) ?_
              refine z_if_eqN (tgt := 61) X dX0_firstDayOfPlan_55 (by decide) (by omega) (fun hq5 => ?_) (fun hq5 => ?_)
              ·
                refine z_iinc (v := nI (d_v + 1)) (L' := [(4, .int (nI (d_v + 1))), (0, .ref (a 1)), (1, .ref p), (2, .int (nI i_i)), (3, .int (nI (opl D kd st (fs lk so D) ce i_i E)))]) X dX0_firstDayOfPlan_61 4 rfl (nI_inc d_v 1) (by decide) rfl ?_
                refine z_goto (tgt := 40) X dX0_firstDayOfPlan_64 (by decide) ?_
                refine z_ls (L' := [(0, .ref (a 1)), (1, .ref p), (2, .int (nI i_i)), (3, .int (nI (opl D kd st (fs lk so D) ce i_i E))), (4, .int (nI (d_v + 1)))]) [1, 2, 3, 4, 0] rfl ?_
                exact ih3 (d_v + 1) (by omega) (by omega) (by rw [hfd]; exact fdx_miss (by omega) (zbt_f hq5))
              ·
                refine z_iload X dX0_firstDayOfPlan_58 4 rfl ?_
                exact z_iret X ZF dX0_firstDayOfPlan_60 (by rw [hfd]; exact (fdx_hit (by omega) (zbt_t hq5)).symm) rfl
        refine z_ls (L' := [(0, .ref (a 1)), (1, .ref p), (2, .int (nI i_i)), (3, .int (nI (opl D kd st (fs lk so D) ce i_i i_v))), (4, .int (nI 0))]) [1, 2, 3, 4, 0] rfl ?_
        have e6 : (nI (opl D kd st (fs lk so D) ce i_i i_v)) = (nI (opl D kd st (fs lk so D) ce i_i E)) := by rw [show i_v = E by omega]
        refine z_Le (L' := [(0, .ref (a 1)), (1, .ref p), (2, .int (nI i_i)), (3, .int (nI (opl D kd st (fs lk so D) ce i_i E))), (4, .int (nI 0))]) (by rw [← e6]) ?_
        exact loopv3 (D + 1) 0 (by omega) (by omega) rfl
      ·
        refine z_iload_n X dX0_firstDayOfPlan_14 rfl 3 rfl ?_
        refine z_aload_n X dX0_firstDayOfPlan_15 rfl 0 rfl ?_
        refine z_iload X dX0_firstDayOfPlan_16 4 rfl ?_
        refine z_aload_n X dX0_firstDayOfPlan_18 rfl 1 rfl ?_
        refine z_iload_n X dX0_firstDayOfPlan_19 rfl 2 rfl ?_
        refine z_iload X dX0_firstDayOfPlan_20 4 rfl ?_
        refine z_iadd' (v := nI (i_i + i_v)) X dX0_firstDayOfPlan_22 (nI_add _ _) ?_
        refine z_callV X (c_X2_numberAt l g p q ln le ce (i_i + i_v) (by omega)) gX0_firstDayOfPlan_X2_numberAt rfl ⟨rfl, rfl⟩ (by decide +kernel) ⟨Nat.le_of_ble_eq_true rfl, Nat.le_of_ble_eq_true rfl⟩ ZF.room (ci := 2) rfl 6 rfl (isC := [6, 7]) (by decide) rfl rfl (ws' := (wD g a D E so lk kd st sp nd ++ (wS g p q ln le ce))) rfl (As := [.int (nI (i_i + i_v))]) (n := 1) rfl rfl (st1 := [.int (ce (i_i + i_v)), .int (nI i_v), .ref (a 1), .int (nI (opl D kd st (fs lk so D) ce i_i i_v))]) rfl (Nat.le_of_ble_eq_true rfl) dX0_firstDayOfPlan_23 ?_
        refine z_top (y := nI (tn (ce (i_i + i_v)))) (hF _ (by omega)).1 ?_
        refine z_callV X (c_X0_foundDays l g a D E so lk kd st sp nd i_v (tn (ce (i_i + i_v))) (by omega) (by omega) (by omega) (by first | assumption | omega)) gX0_firstDayOfPlan_X0_foundDays rfl ⟨rfl, rfl⟩ (by decide +kernel) ⟨Nat.le_of_ble_eq_true rfl, Nat.le_of_ble_eq_true rfl⟩ ZF.room (ci := 0) rfl 0 rfl (isC := [0, 1, 2, 3, 4, 5]) (by decide) rfl rfl (ws' := (wD g a D E so lk kd st sp nd ++ (wS g p q ln le ce))) rfl (As := [.int (nI i_v), .int (nI (tn (ce (i_i + i_v))))]) (n := 2) rfl rfl (st1 := [.int (nI (fnd D (Lf kd st i_v) (tn (ce (i_i + i_v))) (fs lk so D))), .int (nI (opl D kd st (fs lk so D) ce i_i i_v))]) rfl (Nat.le_of_ble_eq_true rfl) dX0_firstDayOfPlan_26 ?_
        refine z_ior' (v := nI ((opl D kd st (fs lk so D) ce i_i i_v) ||| (fnd D (Lf kd st i_v) (tn (ce (i_i + i_v))) (fs lk so D)))) X dX0_firstDayOfPlan_29 (fa_or _ _) ?_
        refine z_istore_n (L' := [(3, .int (nI ((opl D kd st (fs lk so D) ce i_i i_v) ||| (fnd D (Lf kd st i_v) (tn (ce (i_i + i_v))) (fs lk so D))))), (0, .ref (a 1)), (1, .ref p), (2, .int (nI i_i)), (4, .int (nI i_v))]) X dX0_firstDayOfPlan_30 rfl (by decide) rfl ?_
        refine z_iinc (v := nI (i_v + 1)) (L' := [(4, .int (nI (i_v + 1))), (3, .int (nI ((opl D kd st (fs lk so D) ce i_i i_v) ||| (fnd D (Lf kd st i_v) (tn (ce (i_i + i_v))) (fs lk so D))))), (0, .ref (a 1)), (1, .ref p), (2, .int (nI i_i))]) X dX0_firstDayOfPlan_31 4 rfl (nI_inc i_v 1) (by decide) rfl ?_
        refine z_goto (tgt := 5) X dX0_firstDayOfPlan_34 (by decide) ?_
        refine z_ls (L' := [(0, .ref (a 1)), (1, .ref p), (2, .int (nI i_i)), (3, .int (nI ((opl D kd st (fs lk so D) ce i_i i_v) ||| (fnd D (Lf kd st i_v) (tn (ce (i_i + i_v))) (fs lk so D))))), (4, .int (nI (i_v + 1)))]) [2, 3, 4, 1, 0] rfl ?_
        have e7 : (nI ((opl D kd st (fs lk so D) ce i_i i_v) ||| (fnd D (Lf kd st i_v) (tn (ce (i_i + i_v))) (fs lk so D)))) = (nI (opl D kd st (fs lk so D) ce i_i (i_v + 1))) := by rfl
        refine z_Le (L' := [(0, .ref (a 1)), (1, .ref p), (2, .int (nI i_i)), (3, .int (nI (opl D kd st (fs lk so D) ce i_i (i_v + 1)))), (4, .int (nI (i_v + 1)))]) (by rw [← e7]) ?_
        exact ih1 (i_v + 1) (by omega) (by omega)
  refine z_ls (L' := [(0, .ref (a 1)), (1, .ref p), (2, .int (nI i_i)), (3, .int (nI 0)), (4, .int (nI 0))]) [2, 3, 4, 1, 0] rfl ?_
  have e8 : (nI 0) = (nI (opl D kd st (fs lk so D) ce i_i 0)) := by rfl
  refine z_Le (L' := [(0, .ref (a 1)), (1, .ref p), (2, .int (nI i_i)), (3, .int (nI (opl D kd st (fs lk so D) ce i_i 0))), (4, .int (nI 0))]) (by rw [← e8]) ?_
  exact loopv1 (E + 1) 0 (by omega) (by omega)
abbrev rX0_foundEatersOfPlan : Room := { frames := 3, cells := 0, slots := 0, locals := 66 }
set_option maxHeartbeats 4000000 in
set_option maxRecDepth 100000 in
theorem c_X0_foundEatersOfPlan (l : Launch) (g : zg) (a : Nat → Nat) (p : Nat) (q : Nat) (D : Nat) (E : Nat) (so : Int32) (lk : Nat → Int32) (kd : Nat → Int32) (st : Nat → Int32) (sp : Nat → Int32) (nd : Nat → Int32) (ln : Int32) (le : Int32) (ce : Nat → Int32) (i_i : Nat) (hii : i_i + E ≤ 60) (hE : E ≤ 4) (hD : D ≤ 6) (hL : vL kd st E) (hF : ∀ a_, a_ < E → ce (i_i + a_) = nI (tn (ce (i_i + a_))) ∧ tn (ce (i_i + a_)) < 2 ^ D) : zM l g yX0_foundEatersOfPlan wsX0_foundEatersOfPlan rX0_foundEatersOfPlan [.ref (a 1), .ref p, .int (nI i_i)] (wD g a D E so lk kd st sp nd ++ (wS g p q ln le ce)) (some (.int (nI (wpl D kd st (fs lk so D) ce i_i E)))) (wD g a D E so lk kd st sp nd ++ (wS g p q ln le ce)) := by
  refine z_met (own := RX0) (cc := cX0_foundEatersOfPlan) (maxL := 5) (ret := some .int) (by decide +kernel) rfl rfl (Nat.le_of_ble_eq_true rfl) ?_
  intro M X ZF
  refine z_Le (L' := [(0, .ref (a 1)), (1, .ref p), (2, .int (nI i_i))]) rfl ?_
  have i_RX0 : ∀ w ∈ wsX00, w ∈ wsX0_foundEatersOfPlan := by decide +kernel
  have f_40 : Cond.fieldLink RX0 40 (TX0 6).1 (TX0 6).2.1 (TX0 6).2.2.1 ∈ wsX0_foundEatersOfPlan := by decide +kernel
  refine z_iconst (v := nI 0) X dX0_foundEatersOfPlan_0 (by decide) ?_
  refine z_istore_n (L' := [(3, .int (nI 0)), (0, .ref (a 1)), (1, .ref p), (2, .int (nI i_i))]) X dX0_foundEatersOfPlan_1 rfl (by decide) rfl ?_
  refine z_iconst (v := nI 0) X dX0_foundEatersOfPlan_2 (by decide) ?_
  refine z_istore (L' := [(4, .int (nI 0)), (3, .int (nI 0)), (0, .ref (a 1)), (1, .ref p), (2, .int (nI i_i))]) X dX0_foundEatersOfPlan_3 (by decide) rfl ?_
  have loopv1 : ∀ (n1 i_v : Nat), i_v ≤ E → E + 1 ≤ i_v + n1 → zG l g 5 M (wD g a D E so lk kd st sp nd ++ (wS g p q ln le ce)) [(0, .ref (a 1)), (1, .ref p), (2, .int (nI i_i)), (3, .int (nI (wpl D kd st (fs lk so D) ce i_i i_v))), (4, .int (nI i_v))] 5 [] := by
    intro n1
    induction n1 with
    | zero => intro i_v h1 h2; exact absurd h2 (by omega)
    | succ n1 ih1 =>
      intro i_v hi1 hn1
      have hfb := fnd_lt (D := D) (L := Lf kd st i_v) (S := tn (ce (i_i + i_v))) (F := fs lk so D) hD
      refine z_iload X dX0_foundEatersOfPlan_5 4 rfl ?_
      refine z_aload_n X dX0_foundEatersOfPlan_7 rfl 0 rfl ?_
      refine z_get (v := .int (nI E)) (N := 8) X i_RX0 (ci := 0) rfl 0 rfl 6 (by decide) f_40 rfl dX0_foundEatersOfPlan_8 ?_
      refine z_icmp_geN (tgt := 44) X dX0_foundEatersOfPlan_11 (by decide) (by omega) (by omega) (fun hq2 => ?_) (fun hq2 => ?_)
      ·
        refine z_iload_n X dX0_foundEatersOfPlan_44 rfl 3 rfl ?_
        exact z_iret X ZF dX0_foundEatersOfPlan_45 (by rw [show i_v = E by omega]) rfl
      ·
        refine z_aload_n X dX0_foundEatersOfPlan_14 rfl 0 rfl ?_
        refine z_iload X dX0_foundEatersOfPlan_15 4 rfl ?_
        refine z_aload_n X dX0_foundEatersOfPlan_17 rfl 1 rfl ?_
        refine z_iload_n X dX0_foundEatersOfPlan_18 rfl 2 rfl ?_
        refine z_iload X dX0_foundEatersOfPlan_19 4 rfl ?_
        refine z_iadd' (v := nI (i_i + i_v)) X dX0_foundEatersOfPlan_21 (nI_add _ _) ?_
        refine z_callV X (c_X2_numberAt l g p q ln le ce (i_i + i_v) (by omega)) gX0_foundEatersOfPlan_X2_numberAt rfl ⟨rfl, rfl⟩ (by decide +kernel) ⟨Nat.le_of_ble_eq_true rfl, Nat.le_of_ble_eq_true rfl⟩ ZF.room (ci := 2) rfl 6 rfl (isC := [6, 7]) (by decide) rfl rfl (ws' := (wD g a D E so lk kd st sp nd ++ (wS g p q ln le ce))) rfl (As := [.int (nI (i_i + i_v))]) (n := 1) rfl rfl (st1 := [.int (ce (i_i + i_v)), .int (nI i_v), .ref (a 1)]) rfl (Nat.le_of_ble_eq_true rfl) dX0_foundEatersOfPlan_22 ?_
        refine z_top (y := nI (tn (ce (i_i + i_v)))) (hF _ (by omega)).1 ?_
        refine z_callV X (c_X0_foundDays l g a D E so lk kd st sp nd i_v (tn (ce (i_i + i_v))) (by omega) (by omega) (by omega) (by first | assumption | omega)) gX0_foundEatersOfPlan_X0_foundDays rfl ⟨rfl, rfl⟩ (by decide +kernel) ⟨Nat.le_of_ble_eq_true rfl, Nat.le_of_ble_eq_true rfl⟩ ZF.room (ci := 0) rfl 0 rfl (isC := [0, 1, 2, 3, 4, 5]) (by decide) rfl rfl (ws' := (wD g a D E so lk kd st sp nd ++ (wS g p q ln le ce))) rfl (As := [.int (nI i_v), .int (nI (tn (ce (i_i + i_v))))]) (n := 2) rfl rfl (st1 := [.int (nI (fnd D (Lf kd st i_v) (tn (ce (i_i + i_v))) (fs lk so D)))]) rfl (Nat.le_of_ble_eq_true rfl) dX0_foundEatersOfPlan_25 ?_
        refine z_if_eqN (tgt := 38) X dX0_foundEatersOfPlan_28 (by decide) (by omega) (fun hq3 => ?_) (fun hq3 => ?_)
        ·
          refine z_iinc (v := nI (i_v + 1)) (L' := [(4, .int (nI (i_v + 1))), (0, .ref (a 1)), (1, .ref p), (2, .int (nI i_i)), (3, .int (nI (wpl D kd st (fs lk so D) ce i_i i_v)))]) X dX0_foundEatersOfPlan_38 4 rfl (nI_inc i_v 1) (by decide) rfl ?_
          refine z_goto (tgt := 5) X dX0_foundEatersOfPlan_41 (by decide) ?_
          refine z_ls (L' := [(0, .ref (a 1)), (1, .ref p), (2, .int (nI i_i)), (3, .int (nI (wpl D kd st (fs lk so D) ce i_i i_v))), (4, .int (nI (i_v + 1)))]) [1, 2, 3, 4, 0] rfl ?_
          have e4 : (nI (wpl D kd st (fs lk so D) ce i_i i_v)) = (nI (wpl D kd st (fs lk so D) ce i_i (i_v + 1))) := by first | rfl | simp [wpl, hq2, hq3]
          refine z_Le (L' := [(0, .ref (a 1)), (1, .ref p), (2, .int (nI i_i)), (3, .int (nI (wpl D kd st (fs lk so D) ce i_i (i_v + 1)))), (4, .int (nI (i_v + 1)))]) (by rw [← e4]) ?_
          exact ih1 (i_v + 1) (by omega) (by omega)
        ·
          refine z_iload_n X dX0_foundEatersOfPlan_31 rfl 3 rfl ?_
          refine z_iconst (v := nI 1) X dX0_foundEatersOfPlan_32 (by decide) ?_
          refine z_iload X dX0_foundEatersOfPlan_33 4 rfl ?_
          refine z_ishl' (v := nI (2 ^ i_v)) X dX0_foundEatersOfPlan_35 (nI_shl1 (by omega)) ?_
          refine z_ior' (v := nI ((wpl D kd st (fs lk so D) ce i_i i_v) ||| (2 ^ i_v))) X dX0_foundEatersOfPlan_36 (fa_or _ _) ?_
          refine z_istore_n (L' := [(3, .int (nI ((wpl D kd st (fs lk so D) ce i_i i_v) ||| (2 ^ i_v)))), (0, .ref (a 1)), (1, .ref p), (2, .int (nI i_i)), (4, .int (nI i_v))]) X dX0_foundEatersOfPlan_37 rfl (by decide) rfl ?_
          refine z_iinc (v := nI (i_v + 1)) (L' := [(4, .int (nI (i_v + 1))), (3, .int (nI ((wpl D kd st (fs lk so D) ce i_i i_v) ||| (2 ^ i_v)))), (0, .ref (a 1)), (1, .ref p), (2, .int (nI i_i))]) X dX0_foundEatersOfPlan_38 4 rfl (nI_inc i_v 1) (by decide) rfl ?_
          refine z_goto (tgt := 5) X dX0_foundEatersOfPlan_41 (by decide) ?_
          refine z_ls (L' := [(0, .ref (a 1)), (1, .ref p), (2, .int (nI i_i)), (3, .int (nI ((wpl D kd st (fs lk so D) ce i_i i_v) ||| (2 ^ i_v)))), (4, .int (nI (i_v + 1)))]) [2, 3, 4, 1, 0] rfl ?_
          have e5 : (nI ((wpl D kd st (fs lk so D) ce i_i i_v) ||| (2 ^ i_v))) = (nI (wpl D kd st (fs lk so D) ce i_i (i_v + 1))) := by first | rfl | simp [wpl, hq2, hq3]
          refine z_Le (L' := [(0, .ref (a 1)), (1, .ref p), (2, .int (nI i_i)), (3, .int (nI (wpl D kd st (fs lk so D) ce i_i (i_v + 1)))), (4, .int (nI (i_v + 1)))]) (by rw [← e5]) ?_
          exact ih1 (i_v + 1) (by omega) (by omega)
  refine z_ls (L' := [(0, .ref (a 1)), (1, .ref p), (2, .int (nI i_i)), (3, .int (nI 0)), (4, .int (nI 0))]) [2, 3, 4, 1, 0] rfl ?_
  have e6 : (nI 0) = (nI (wpl D kd st (fs lk so D) ce i_i 0)) := by first | rfl | simp [wpl, ]
  refine z_Le (L' := [(0, .ref (a 1)), (1, .ref p), (2, .int (nI i_i)), (3, .int (nI (wpl D kd st (fs lk so D) ce i_i 0))), (4, .int (nI 0))]) (by rw [← e6]) ?_
  exact loopv1 (E + 1) 0 (by omega) (by omega)
abbrev rX0_starvedEatersOfPlan : Room := { frames := 2, cells := 0, slots := 0, locals := 42 }
set_option maxHeartbeats 4000000 in
set_option maxRecDepth 100000 in
theorem c_X0_starvedEatersOfPlan (l : Launch) (g : zg) (a : Nat → Nat) (p : Nat) (q : Nat) (D : Nat) (E : Nat) (so : Int32) (lk : Nat → Int32) (kd : Nat → Int32) (st : Nat → Int32) (sp : Nat → Int32) (nd : Nat → Int32) (ln : Int32) (le : Int32) (ce : Nat → Int32) (i_i : Nat) (hii : i_i + E ≤ 60) (hE : E ≤ 4) (hD : D ≤ 6) (hF : ∀ a_, a_ < E → ce (i_i + a_) = nI (tn (ce (i_i + a_))) ∧ tn (ce (i_i + a_)) < 2 ^ D) : zM l g yX0_starvedEatersOfPlan wsX0_starvedEatersOfPlan rX0_starvedEatersOfPlan [.ref (a 1), .ref p, .int (nI i_i)] (wD g a D E so lk kd st sp nd ++ (wS g p q ln le ce)) (some (.int (nI (hpl nd ce i_i E)))) (wD g a D E so lk kd st sp nd ++ (wS g p q ln le ce)) := by
  refine z_met (own := RX0) (cc := cX0_starvedEatersOfPlan) (maxL := 5) (ret := some .int) (by decide +kernel) rfl rfl (Nat.le_of_ble_eq_true rfl) ?_
  intro M X ZF
  refine z_Le (L' := [(0, .ref (a 1)), (1, .ref p), (2, .int (nI i_i))]) rfl ?_
  have hpD : 2 ^ D ≤ 2 ^ 6 := Nat.pow_le_pow_right (by omega) hD
  have i_RX0 : ∀ w ∈ wsX00, w ∈ wsX0_starvedEatersOfPlan := by decide +kernel
  have f_40 : Cond.fieldLink RX0 40 (TX0 6).1 (TX0 6).2.1 (TX0 6).2.2.1 ∈ wsX0_starvedEatersOfPlan := by decide +kernel
  refine z_iconst (v := nI 0) X dX0_starvedEatersOfPlan_0 (by decide) ?_
  refine z_istore_n (L' := [(3, .int (nI 0)), (0, .ref (a 1)), (1, .ref p), (2, .int (nI i_i))]) X dX0_starvedEatersOfPlan_1 rfl (by decide) rfl ?_
  refine z_iconst (v := nI 0) X dX0_starvedEatersOfPlan_2 (by decide) ?_
  refine z_istore (L' := [(4, .int (nI 0)), (3, .int (nI 0)), (0, .ref (a 1)), (1, .ref p), (2, .int (nI i_i))]) X dX0_starvedEatersOfPlan_3 (by decide) rfl ?_
  have loopv1 : ∀ (n1 i_v : Nat), i_v ≤ E → E + 1 ≤ i_v + n1 → zG l g 5 M (wD g a D E so lk kd st sp nd ++ (wS g p q ln le ce)) [(0, .ref (a 1)), (1, .ref p), (2, .int (nI i_i)), (3, .int (nI (hpl nd ce i_i i_v))), (4, .int (nI i_v))] 5 [] := by
    intro n1
    induction n1 with
    | zero => intro i_v h1 h2; exact absurd h2 (by omega)
    | succ n1 ih1 =>
      intro i_v hi1 hn1
      refine z_iload X dX0_starvedEatersOfPlan_5 4 rfl ?_
      refine z_aload_n X dX0_starvedEatersOfPlan_7 rfl 0 rfl ?_
      refine z_get (v := .int (nI E)) (N := 8) X i_RX0 (ci := 0) rfl 0 rfl 6 (by decide) f_40 rfl dX0_starvedEatersOfPlan_8 ?_
      refine z_icmp_geN (tgt := 47) X dX0_starvedEatersOfPlan_11 (by decide) (by omega) (by omega) (fun hq2 => ?_) (fun hq2 => ?_)
      ·
        refine z_iload_n X dX0_starvedEatersOfPlan_47 rfl 3 rfl ?_
        exact z_iret X ZF dX0_starvedEatersOfPlan_48 (by rw [show i_v = E by omega]) rfl
      ·
        refine z_aload_n X dX0_starvedEatersOfPlan_14 rfl 1 rfl ?_
        refine z_iload_n X dX0_starvedEatersOfPlan_15 rfl 2 rfl ?_
        refine z_iload X dX0_starvedEatersOfPlan_16 4 rfl ?_
        refine z_iadd' (v := nI (i_i + i_v)) X dX0_starvedEatersOfPlan_18 (nI_add _ _) ?_
        refine z_callV X (c_X2_numberAt l g p q ln le ce (i_i + i_v) (by omega)) gX0_starvedEatersOfPlan_X2_numberAt rfl ⟨rfl, rfl⟩ (by decide +kernel) ⟨Nat.le_of_ble_eq_true rfl, Nat.le_of_ble_eq_true rfl⟩ ZF.room (ci := 2) rfl 6 rfl (isC := [6, 7]) (by decide) rfl rfl (ws' := (wD g a D E so lk kd st sp nd ++ (wS g p q ln le ce))) rfl (As := [.int (nI (i_i + i_v))]) (n := 1) rfl rfl (st1 := [.int (ce (i_i + i_v))]) rfl (Nat.le_of_ble_eq_true rfl) dX0_starvedEatersOfPlan_19 ?_
        refine z_top (y := nI (tn (ce (i_i + i_v)))) (hF _ (by omega)).1 ?_
        refine z_callS0 X (c_J6_bitCount_0f7a4 l g (tn (ce (i_i + i_v))) (Nat.lt_of_lt_of_le (hF _ (by omega)).2 hpD)) gX0_starvedEatersOfPlan_J6_bitCount_0f7a4 rfl ⟨rfl, rfl⟩ (by decide +kernel) ⟨Nat.le_of_ble_eq_true rfl, Nat.le_of_ble_eq_true rfl⟩ ZF.room (As := [.int (nI (tn (ce (i_i + i_v))))]) (n := 1) rfl rfl (st1 := [.int (nI (pc (tn (ce (i_i + i_v)))))]) rfl (Nat.le_of_ble_eq_true rfl) dX0_starvedEatersOfPlan_22 ?_
        refine z_aload_n X dX0_starvedEatersOfPlan_25 rfl 0 rfl ?_
        refine z_iload X dX0_starvedEatersOfPlan_26 4 rfl ?_
        refine z_callV X (c_X0_needOf l g a D E so lk kd st sp nd i_v (by omega)) gX0_starvedEatersOfPlan_X0_needOf rfl ⟨rfl, rfl⟩ (by decide +kernel) ⟨Nat.le_of_ble_eq_true rfl, Nat.le_of_ble_eq_true rfl⟩ ZF.room (ci := 0) rfl 0 rfl (isC := [0, 1, 2, 3, 4, 5]) (by decide) rfl rfl (ws' := (wD g a D E so lk kd st sp nd ++ (wS g p q ln le ce))) rfl (As := [.int (nI i_v)]) (n := 1) rfl rfl (st1 := [.int (nd i_v), .int (nI (pc (tn (ce (i_i + i_v)))))]) rfl (Nat.le_of_ble_eq_true rfl) dX0_starvedEatersOfPlan_28 ?_
        refine z_icmp_ge (tgt := 41) X dX0_starvedEatersOfPlan_31 (by decide) (fun hq3 => ?_) (fun hq3 => ?_)
        ·
          refine z_iinc (v := nI (i_v + 1)) (L' := [(4, .int (nI (i_v + 1))), (0, .ref (a 1)), (1, .ref p), (2, .int (nI i_i)), (3, .int (nI (hpl nd ce i_i i_v)))]) X dX0_starvedEatersOfPlan_41 4 rfl (nI_inc i_v 1) (by decide) rfl ?_
          refine z_goto (tgt := 5) X dX0_starvedEatersOfPlan_44 (by decide) ?_
          refine z_ls (L' := [(0, .ref (a 1)), (1, .ref p), (2, .int (nI i_i)), (3, .int (nI (hpl nd ce i_i i_v))), (4, .int (nI (i_v + 1)))]) [1, 2, 3, 4, 0] rfl ?_
          have e4 : (nI (hpl nd ce i_i i_v)) = (nI (hpl nd ce i_i (i_v + 1))) := by first | rfl | simp [hpl, hq2, hq3]
          refine z_Le (L' := [(0, .ref (a 1)), (1, .ref p), (2, .int (nI i_i)), (3, .int (nI (hpl nd ce i_i (i_v + 1)))), (4, .int (nI (i_v + 1)))]) (by rw [← e4]) ?_
          exact ih1 (i_v + 1) (by omega) (by omega)
        ·
          refine z_iload_n X dX0_starvedEatersOfPlan_34 rfl 3 rfl ?_
          refine z_iconst (v := nI 1) X dX0_starvedEatersOfPlan_35 (by decide) ?_
          refine z_iload X dX0_starvedEatersOfPlan_36 4 rfl ?_
          refine z_ishl' (v := nI (2 ^ i_v)) X dX0_starvedEatersOfPlan_38 (nI_shl1 (by omega)) ?_
          refine z_ior' (v := nI ((hpl nd ce i_i i_v) ||| (2 ^ i_v))) X dX0_starvedEatersOfPlan_39 (fa_or _ _) ?_
          refine z_istore_n (L' := [(3, .int (nI ((hpl nd ce i_i i_v) ||| (2 ^ i_v)))), (0, .ref (a 1)), (1, .ref p), (2, .int (nI i_i)), (4, .int (nI i_v))]) X dX0_starvedEatersOfPlan_40 rfl (by decide) rfl ?_
          refine z_iinc (v := nI (i_v + 1)) (L' := [(4, .int (nI (i_v + 1))), (3, .int (nI ((hpl nd ce i_i i_v) ||| (2 ^ i_v)))), (0, .ref (a 1)), (1, .ref p), (2, .int (nI i_i))]) X dX0_starvedEatersOfPlan_41 4 rfl (nI_inc i_v 1) (by decide) rfl ?_
          refine z_goto (tgt := 5) X dX0_starvedEatersOfPlan_44 (by decide) ?_
          refine z_ls (L' := [(0, .ref (a 1)), (1, .ref p), (2, .int (nI i_i)), (3, .int (nI ((hpl nd ce i_i i_v) ||| (2 ^ i_v)))), (4, .int (nI (i_v + 1)))]) [2, 3, 4, 1, 0] rfl ?_
          have e5 : (nI ((hpl nd ce i_i i_v) ||| (2 ^ i_v))) = (nI (hpl nd ce i_i (i_v + 1))) := by first | rfl | simp [hpl, hq2, hq3]
          refine z_Le (L' := [(0, .ref (a 1)), (1, .ref p), (2, .int (nI i_i)), (3, .int (nI (hpl nd ce i_i (i_v + 1)))), (4, .int (nI (i_v + 1)))]) (by rw [← e5]) ?_
          exact ih1 (i_v + 1) (by omega) (by omega)
  refine z_ls (L' := [(0, .ref (a 1)), (1, .ref p), (2, .int (nI i_i)), (3, .int (nI 0)), (4, .int (nI 0))]) [2, 3, 4, 1, 0] rfl ?_
  have e6 : (nI 0) = (nI (hpl nd ce i_i 0)) := by first | rfl | simp [hpl, ]
  refine z_Le (L' := [(0, .ref (a 1)), (1, .ref p), (2, .int (nI i_i)), (3, .int (nI (hpl nd ce i_i 0))), (4, .int (nI 0))]) (by rw [← e6]) ?_
  exact loopv1 (E + 1) 0 (by omega) (by omega)
abbrev rX0_foundOnDayOfPlan : Room := { frames := 3, cells := 0, slots := 0, locals := 66 }
set_option maxHeartbeats 4000000 in
set_option maxRecDepth 100000 in
theorem c_X0_foundOnDayOfPlan (l : Launch) (g : zg) (a : Nat → Nat) (p : Nat) (q : Nat) (D : Nat) (E : Nat) (so : Int32) (lk : Nat → Int32) (kd : Nat → Int32) (st : Nat → Int32) (sp : Nat → Int32) (nd : Nat → Int32) (ln : Int32) (le : Int32) (ce : Nat → Int32) (i_i : Nat) (d : Nat) (hii : i_i + E ≤ 60) (hE : E ≤ 4) (hD : D ≤ 6) (hL : vL kd st E) (hF : ∀ a_, a_ < E → ce (i_i + a_) = nI (tn (ce (i_i + a_))) ∧ tn (ce (i_i + a_)) < 2 ^ D) (hd : d < D) : zM l g yX0_foundOnDayOfPlan wsX0_foundOnDayOfPlan rX0_foundOnDayOfPlan [.ref (a 1), .ref p, .int (nI i_i), .int (nI d)] (wD g a D E so lk kd st sp nd ++ (wS g p q ln le ce)) (some (.int (nI (dpl D kd st (fs lk so D) ce i_i d E)))) (wD g a D E so lk kd st sp nd ++ (wS g p q ln le ce)) := by
  refine z_met (own := RX0) (cc := cX0_foundOnDayOfPlan) (maxL := 6) (ret := some .int) (by decide +kernel) rfl rfl (Nat.le_of_ble_eq_true rfl) ?_
  intro M X ZF
  refine z_Le (L' := [(0, .ref (a 1)), (1, .ref p), (2, .int (nI i_i)), (3, .int (nI d))]) rfl ?_
  have i_RX0 : ∀ w ∈ wsX00, w ∈ wsX0_foundOnDayOfPlan := by decide +kernel
  have f_40 : Cond.fieldLink RX0 40 (TX0 6).1 (TX0 6).2.1 (TX0 6).2.2.1 ∈ wsX0_foundOnDayOfPlan := by decide +kernel
  refine z_iconst (v := nI 0) X dX0_foundOnDayOfPlan_0 (by decide) ?_
  refine z_istore (L' := [(4, .int (nI 0)), (0, .ref (a 1)), (1, .ref p), (2, .int (nI i_i)), (3, .int (nI d))]) X dX0_foundOnDayOfPlan_1 (by decide) rfl ?_
  refine z_iconst (v := nI 0) X dX0_foundOnDayOfPlan_3 (by decide) ?_
  refine z_istore (L' := [(5, .int (nI 0)), (4, .int (nI 0)), (0, .ref (a 1)), (1, .ref p), (2, .int (nI i_i)), (3, .int (nI d))]) X dX0_foundOnDayOfPlan_4 (by decide) rfl ?_
  have loopv1 : ∀ (n1 i_v : Nat), i_v ≤ E → E + 1 ≤ i_v + n1 → zG l g 6 M (wD g a D E so lk kd st sp nd ++ (wS g p q ln le ce)) [(0, .ref (a 1)), (1, .ref p), (2, .int (nI i_i)), (3, .int (nI d)), (4, .int (nI (dpl D kd st (fs lk so D) ce i_i d i_v))), (5, .int (nI i_v))] 6 [] := by
    intro n1
    induction n1 with
    | zero => intro i_v h1 h2; exact absurd h2 (by omega)
    | succ n1 ih1 =>
      intro i_v hi1 hn1
      have hfb := fnd_lt (D := D) (L := Lf kd st i_v) (S := tn (ce (i_i + i_v))) (F := fs lk so D) hD
      refine z_iload X dX0_foundOnDayOfPlan_6 5 rfl ?_
      refine z_aload_n X dX0_foundOnDayOfPlan_8 rfl 0 rfl ?_
      refine z_get (v := .int (nI E)) (N := 8) X i_RX0 (ci := 0) rfl 0 rfl 6 (by decide) f_40 rfl dX0_foundOnDayOfPlan_9 ?_
      refine z_icmp_geN (tgt := 44) X dX0_foundOnDayOfPlan_12 (by decide) (by omega) (by omega) (fun hq2 => ?_) (fun hq2 => ?_)
      ·
        refine z_iload X dX0_foundOnDayOfPlan_44 4 rfl ?_
        exact z_iret X ZF dX0_foundOnDayOfPlan_46 (by rw [show i_v = E by omega]) rfl
      ·
        refine z_iload X dX0_foundOnDayOfPlan_15 4 rfl ?_
        refine z_aload_n X dX0_foundOnDayOfPlan_17 rfl 0 rfl ?_
        refine z_iload X dX0_foundOnDayOfPlan_18 5 rfl ?_
        refine z_aload_n X dX0_foundOnDayOfPlan_20 rfl 1 rfl ?_
        refine z_iload_n X dX0_foundOnDayOfPlan_21 rfl 2 rfl ?_
        refine z_iload X dX0_foundOnDayOfPlan_22 5 rfl ?_
        refine z_iadd' (v := nI (i_i + i_v)) X dX0_foundOnDayOfPlan_24 (nI_add _ _) ?_
        refine z_callV X (c_X2_numberAt l g p q ln le ce (i_i + i_v) (by omega)) gX0_foundOnDayOfPlan_X2_numberAt rfl ⟨rfl, rfl⟩ (by decide +kernel) ⟨Nat.le_of_ble_eq_true rfl, Nat.le_of_ble_eq_true rfl⟩ ZF.room (ci := 2) rfl 6 rfl (isC := [6, 7]) (by decide) rfl rfl (ws' := (wD g a D E so lk kd st sp nd ++ (wS g p q ln le ce))) rfl (As := [.int (nI (i_i + i_v))]) (n := 1) rfl rfl (st1 := [.int (ce (i_i + i_v)), .int (nI i_v), .ref (a 1), .int (nI (dpl D kd st (fs lk so D) ce i_i d i_v))]) rfl (Nat.le_of_ble_eq_true rfl) dX0_foundOnDayOfPlan_25 ?_
        refine z_top (y := nI (tn (ce (i_i + i_v)))) (hF _ (by omega)).1 ?_
        refine z_callV X (c_X0_foundDays l g a D E so lk kd st sp nd i_v (tn (ce (i_i + i_v))) (by omega) (by omega) (by omega) (by first | assumption | omega)) gX0_foundOnDayOfPlan_X0_foundDays rfl ⟨rfl, rfl⟩ (by decide +kernel) ⟨Nat.le_of_ble_eq_true rfl, Nat.le_of_ble_eq_true rfl⟩ ZF.room (ci := 0) rfl 0 rfl (isC := [0, 1, 2, 3, 4, 5]) (by decide) rfl rfl (ws' := (wD g a D E so lk kd st sp nd ++ (wS g p q ln le ce))) rfl (As := [.int (nI i_v), .int (nI (tn (ce (i_i + i_v))))]) (n := 2) rfl rfl (st1 := [.int (nI (fnd D (Lf kd st i_v) (tn (ce (i_i + i_v))) (fs lk so D))), .int (nI (dpl D kd st (fs lk so D) ce i_i d i_v))]) rfl (Nat.le_of_ble_eq_true rfl) dX0_foundOnDayOfPlan_28 ?_
        refine z_iload_n X dX0_foundOnDayOfPlan_31 rfl 3 rfl ?_
        refine z_ishr' (v := nI ((fnd D (Lf kd st i_v) (tn (ce (i_i + i_v))) (fs lk so D)) / 2 ^ d)) X dX0_foundOnDayOfPlan_32 (nI_shr (by omega) (by omega)) ?_
        refine z_iconst (v := nI 1) X dX0_foundOnDayOfPlan_33 (by decide) ?_
        refine z_iand' (v := nI (((fnd D (Lf kd st i_v) (tn (ce (i_i + i_v))) (fs lk so D)) / 2 ^ d) % 2)) X dX0_foundOnDayOfPlan_34 (nI_and1 _) ?_
        refine z_iadd' (v := nI ((dpl D kd st (fs lk so D) ce i_i d i_v) + (((fnd D (Lf kd st i_v) (tn (ce (i_i + i_v))) (fs lk so D)) / 2 ^ d) % 2))) X dX0_foundOnDayOfPlan_35 (nI_add _ _) ?_
        refine z_istore (L' := [(4, .int (nI ((dpl D kd st (fs lk so D) ce i_i d i_v) + (((fnd D (Lf kd st i_v) (tn (ce (i_i + i_v))) (fs lk so D)) / 2 ^ d) % 2)))), (0, .ref (a 1)), (1, .ref p), (2, .int (nI i_i)), (3, .int (nI d)), (5, .int (nI i_v))]) X dX0_foundOnDayOfPlan_36 (by decide) rfl ?_
        refine z_iinc (v := nI (i_v + 1)) (L' := [(5, .int (nI (i_v + 1))), (4, .int (nI ((dpl D kd st (fs lk so D) ce i_i d i_v) + (((fnd D (Lf kd st i_v) (tn (ce (i_i + i_v))) (fs lk so D)) / 2 ^ d) % 2)))), (0, .ref (a 1)), (1, .ref p), (2, .int (nI i_i)), (3, .int (nI d))]) X dX0_foundOnDayOfPlan_38 5 rfl (nI_inc i_v 1) (by decide) rfl ?_
        refine z_goto (tgt := 6) X dX0_foundOnDayOfPlan_41 (by decide) ?_
        refine z_ls (L' := [(0, .ref (a 1)), (1, .ref p), (2, .int (nI i_i)), (3, .int (nI d)), (4, .int (nI ((dpl D kd st (fs lk so D) ce i_i d i_v) + (((fnd D (Lf kd st i_v) (tn (ce (i_i + i_v))) (fs lk so D)) / 2 ^ d) % 2)))), (5, .int (nI (i_v + 1)))]) [2, 3, 4, 5, 1, 0] rfl ?_
        have e3 : (nI ((dpl D kd st (fs lk so D) ce i_i d i_v) + (((fnd D (Lf kd st i_v) (tn (ce (i_i + i_v))) (fs lk so D)) / 2 ^ d) % 2))) = (nI (dpl D kd st (fs lk so D) ce i_i d (i_v + 1))) := by rfl
        refine z_Le (L' := [(0, .ref (a 1)), (1, .ref p), (2, .int (nI i_i)), (3, .int (nI d)), (4, .int (nI (dpl D kd st (fs lk so D) ce i_i d (i_v + 1)))), (5, .int (nI (i_v + 1)))]) (by rw [← e3]) ?_
        exact ih1 (i_v + 1) (by omega) (by omega)
  refine z_ls (L' := [(0, .ref (a 1)), (1, .ref p), (2, .int (nI i_i)), (3, .int (nI d)), (4, .int (nI 0)), (5, .int (nI 0))]) [2, 3, 4, 5, 1, 0] rfl ?_
  have e4 : (nI 0) = (nI (dpl D kd st (fs lk so D) ce i_i d 0)) := by rfl
  refine z_Le (L' := [(0, .ref (a 1)), (1, .ref p), (2, .int (nI i_i)), (3, .int (nI d)), (4, .int (nI (dpl D kd st (fs lk so D) ce i_i d 0))), (5, .int (nI 0))]) (by rw [← e4]) ?_
  exact loopv1 (E + 1) 0 (by omega) (by omega)
abbrev rX0_isBetter : Room := { frames := 1, cells := 0, slots := 0, locals := 20 }
set_option maxHeartbeats 4000000 in
set_option maxRecDepth 100000 in
theorem c_X0_isBetter (l : Launch) (g : zg) (fo : Nat) (S : Nat) (lf : Nat) (be : Nat) (h1_ : fo ≤ 6) (h2_ : lf ≤ 6) (h3_ : S < 64) (h4_ : be < 64) : zM l g yX0_isBetter wsX0_isBetter rX0_isBetter [.int (nI fo), .int (nI S), .int (nI lf), .int (nI be)] [] (some (.int (bI (isb fo S lf be)))) [] := by
  refine z_met (own := RX0) (cc := cX0_isBetter) (maxL := 4) (ret := some .boolean) (by decide +kernel) rfl rfl (Nat.le_of_ble_eq_true rfl) ?_
  intro M X ZF
  refine z_Le (L' := [(0, .int (nI fo)), (1, .int (nI S)), (2, .int (nI lf)), (3, .int (nI be))]) rfl ?_
  have hq1 := pc_le S
  have hq2 := pc_le be
  refine z_iload_n X dX0_isBetter_0 rfl 0 rfl ?_
  refine z_iload_n X dX0_isBetter_1 rfl 2 rfl ?_
  refine z_icmp_ltN (tgt := 21) X dX0_isBetter_2 (by decide) (by omega) (by omega) (fun hq1 => ?_) (fun hq1 => ?_)
  ·
    refine z_iconst (v := nI 1) X dX0_isBetter_21 (by decide) ?_
    refine z_goto (tgt := 26) X dX0_isBetter_22 (by decide) ?_
    exact z_zret X ZF dX0_isBetter_26 (bI_nar _) (by simp [isb, bI, nI_one, nI_0]; omega) rfl
  ·
    refine z_iload_n X dX0_isBetter_5 rfl 0 rfl ?_
    refine z_iload_n X dX0_isBetter_6 rfl 2 rfl ?_
    refine z_icmp_neN (tgt := 25) X dX0_isBetter_7 (by decide) (by omega) (by omega) (fun hq2 => ?_) (fun hq2 => ?_)
    ·
      refine z_iconst (v := nI 0) X dX0_isBetter_25 (by decide) ?_
      exact z_zret X ZF dX0_isBetter_26 (bI_nar _) (by simp [isb, bI, nI_one, nI_0]; omega) rfl
    ·
      refine z_iload_n X dX0_isBetter_10 rfl 1 rfl ?_
      refine z_callS0 X (c_J6_bitCount_0f7a4 l g S (by omega)) gX0_isBetter_J6_bitCount_0f7a4 rfl ⟨rfl, rfl⟩ (by decide +kernel) ⟨Nat.le_of_ble_eq_true rfl, Nat.le_of_ble_eq_true rfl⟩ ZF.room (As := [.int (nI S)]) (n := 1) rfl rfl (st1 := [.int (nI (pc S))]) rfl (Nat.le_of_ble_eq_true rfl) dX0_isBetter_11 ?_
      refine z_iload_n X dX0_isBetter_14 rfl 3 rfl ?_
      refine z_callS0 X (c_J6_bitCount_0f7a4 l g be (by omega)) gX0_isBetter_J6_bitCount_0f7a4 rfl ⟨rfl, rfl⟩ (by decide +kernel) ⟨Nat.le_of_ble_eq_true rfl, Nat.le_of_ble_eq_true rfl⟩ ZF.room (As := [.int (nI be)]) (n := 1) rfl rfl (st1 := [.int (nI (pc be)), .int (nI (pc S))]) rfl (Nat.le_of_ble_eq_true rfl) dX0_isBetter_15 ?_
      refine z_icmp_geN (tgt := 25) X dX0_isBetter_18 (by decide) (by omega) (by omega) (fun hq3 => ?_) (fun hq3 => ?_)
      ·
        refine z_iconst (v := nI 0) X dX0_isBetter_25 (by decide) ?_
        exact z_zret X ZF dX0_isBetter_26 (bI_nar _) (by simp [isb, bI, nI_one, nI_0]; omega) rfl
      ·
        refine z_iconst (v := nI 1) X dX0_isBetter_21 (by decide) ?_
        refine z_goto (tgt := 26) X dX0_isBetter_22 (by decide) ?_
        exact z_zret X ZF dX0_isBetter_26 (bI_nar _) (by simp [isb, bI, nI_one, nI_0]; omega) rfl
abbrev rX0_bestSet : Room := { frames := 2, cells := 0, slots := 0, locals := 44 }
set_option maxHeartbeats 4000000 in
set_option maxRecDepth 100000 in
theorem c_X0_bestSet (l : Launch) (g : zg) (a : Nat → Nat) (D : Nat) (E : Nat) (so : Int32) (lk : Nat → Int32) (kd : Nat → Int32) (st : Nat → Int32) (sp : Nat → Int32) (nd : Nat → Int32) (k : Nat) (F : Nat) (hk : k < E) (hE : E ≤ 4) (hD : D ≤ 6) (hL : vL kd st E) (hF64 : F < 64) : zM l g yX0_bestSet wsX0_bestSet rX0_bestSet [.ref (a 1), .int (nI k), .int (nI F)] (wD g a D E so lk kd st sp nd) (some (.int (obI (bst D (Lf kd st k) (nd k) F)))) (wD g a D E so lk kd st sp nd) := by
  refine z_met (own := RX0) (cc := cX0_bestSet) (maxL := 10) (ret := some .int) (by decide +kernel) rfl rfl (Nat.le_of_ble_eq_true rfl) ?_
  intro M X ZF
  refine z_Le (L' := [(0, .ref (a 1)), (1, .int (nI k)), (2, .int (nI F))]) rfl ?_
  have hpD : 2 ^ D ≤ 2 ^ 6 := Nat.pow_le_pow_right (by omega) hD
  have hpD1 : 1 ≤ 2 ^ D := Nat.one_le_two_pow
  refine z_aload_n X dX0_bestSet_0 rfl 0 rfl ?_
  refine z_iload_n X dX0_bestSet_1 rfl 1 rfl ?_
  refine z_callVM X (c_X0_lastsOf l g a D E so lk kd st sp nd k (by omega) (by omega) (by first | assumption | omega)) gX0_bestSet_X0_lastsOf rfl ⟨rfl, rfl⟩ (by decide +kernel) ⟨Nat.le_of_ble_eq_true rfl, Nat.le_of_ble_eq_true rfl⟩ ZF.room (ci := 0) rfl 0 rfl rfl (As := [.int (nI k)]) (n := 1) rfl rfl (st1 := [.int (nI (Lf kd st k))]) rfl (Nat.le_of_ble_eq_true rfl) dX0_bestSet_2 ?_
  refine z_istore_n (L' := [(3, .int (nI (Lf kd st k))), (0, .ref (a 1)), (1, .int (nI k)), (2, .int (nI F))]) X dX0_bestSet_5 rfl (by decide) rfl ?_
  refine z_aload_n X dX0_bestSet_6 rfl 1 rfl ?_
  refine z_callVM X (c_X0_allDays l g a D E so lk kd st sp nd (by omega)) gX0_bestSet_X0_allDays rfl ⟨rfl, rfl⟩ (by decide +kernel) ⟨Nat.le_of_ble_eq_true rfl, Nat.le_of_ble_eq_true rfl⟩ ZF.room (ci := 0) rfl 0 rfl rfl (As := []) (n := 0) rfl rfl (st1 := [.int (nI (2 ^ D - 1))]) rfl (Nat.le_of_ble_eq_true rfl) dX0_bestSet_7 ?_
  refine z_istore (L' := [(4, .int (nI (2 ^ D - 1))), (3, .int (nI (Lf kd st k))), (0, .ref (a 1)), (1, .int (nI k)), (2, .int (nI F))]) X dX0_bestSet_10 (by decide) rfl ?_
  refine z_bipush (v := (-9)) X dX0_bestSet_12 (by decide) ?_
  refine z_istore (L' := [(5, .int (-9)), (4, .int (nI (2 ^ D - 1))), (3, .int (nI (Lf kd st k))), (0, .ref (a 1)), (1, .int (nI k)), (2, .int (nI F))]) X dX0_bestSet_14 (by decide) rfl ?_
  refine z_iconst (v := nI 0) X dX0_bestSet_16 (by decide) ?_
  refine z_istore (L' := [(6, .int (nI 0)), (5, .int (-9)), (4, .int (nI (2 ^ D - 1))), (3, .int (nI (Lf kd st k))), (0, .ref (a 1)), (1, .int (nI k)), (2, .int (nI F))]) X dX0_bestSet_17 (by decide) rfl ?_
  refine z_iconst (v := nI 0) X dX0_bestSet_19 (by decide) ?_
  refine z_istore (L' := [(7, .int (nI 0)), (6, .int (nI 0)), (5, .int (-9)), (4, .int (nI (2 ^ D - 1))), (3, .int (nI (Lf kd st k))), (0, .ref (a 1)), (1, .int (nI k)), (2, .int (nI F))]) X dX0_bestSet_20 (by decide) rfl ?_
  have loopv1 : ∀ (n1 S_v : Nat), S_v ≤ 2 ^ D → 2 ^ D + 1 ≤ S_v + n1 → zG l g 10 M (wD g a D E so lk kd st sp nd) [(0, .ref (a 1)), (1, .int (nI k)), (2, .int (nI F)), (3, .int (nI (Lf kd st k))), (4, .int (nI (2 ^ D - 1))), (5, .int (obI (bsF D (Lf kd st k) (nd k) F S_v))), (6, .int (olI (bsF D (Lf kd st k) (nd k) F S_v))), (7, .int (nI S_v))] 22 [] := by
    intro n1
    induction n1 with
    | zero => intro S_v h1 h2; exact absurd h2 (by omega)
    | succ n1 ih1 =>
      intro S_v hi1 hn1
      have hfo := pc_le (fnd D (Lf kd st k) S_v F)
      refine z_iload X dX0_bestSet_22 7 rfl ?_
      refine z_iload X dX0_bestSet_24 4 rfl ?_
      refine z_icmp_gtN (tgt := 103) X dX0_bestSet_26 (by decide) (by omega) (by omega) (fun hq2 => ?_) (fun hq2 => ?_)
      ·
        refine z_iload X dX0_bestSet_103 5 rfl ?_
        exact z_iret X ZF dX0_bestSet_105 (by rw [show S_v = 2 ^ D by omega]; rfl) rfl
      ·
        rcases hbv : bsF D (Lf kd st k) (nd k) F S_v with _ | ⟨b_v, m_v⟩
        ·
          refine z_Le (L' := [(0, .ref (a 1)), (1, .int (nI k)), (2, .int (nI F)), (3, .int (nI (Lf kd st k))), (4, .int (nI (2 ^ D - 1))), (5, .int (-9)), (6, .int (nI 0)), (7, .int (nI S_v))]) rfl ?_
          refine z_aload_n X dX0_bestSet_29 rfl 0 rfl ?_
          refine z_iload_n X dX0_bestSet_30 rfl 3 rfl ?_
          refine z_iload X dX0_bestSet_31 7 rfl ?_
          refine z_callVM X (c_X0_yellowDays l g a D E so lk kd st sp nd (Lf kd st k) S_v (by omega) (hL _ hk).2) gX0_bestSet_X0_yellowDays rfl ⟨rfl, rfl⟩ (by decide +kernel) ⟨Nat.le_of_ble_eq_true rfl, Nat.le_of_ble_eq_true rfl⟩ ZF.room (ci := 0) rfl 0 rfl rfl (As := [.int (nI (Lf kd st k)), .int (nI S_v)]) (n := 2) rfl rfl (st1 := [.int (nI (yl D (Lf kd st k) S_v))]) rfl (Nat.le_of_ble_eq_true rfl) dX0_bestSet_33 ?_
          refine z_iload_n X dX0_bestSet_36 rfl 2 rfl ?_
          refine z_iand' (v := nI ((yl D (Lf kd st k) S_v) &&& F)) X dX0_bestSet_37 (fa_and _ _) ?_
          refine z_callS0 X (c_J6_bitCount_0f7a4 l g ((yl D (Lf kd st k) S_v) &&& F) (fnd_lt hD)) gX0_bestSet_J6_bitCount_0f7a4 rfl ⟨rfl, rfl⟩ (by decide +kernel) ⟨Nat.le_of_ble_eq_true rfl, Nat.le_of_ble_eq_true rfl⟩ ZF.room (As := [.int (nI ((yl D (Lf kd st k) S_v) &&& F))]) (n := 1) rfl rfl (st1 := [.int (nI (pc ((yl D (Lf kd st k) S_v) &&& F)))]) rfl (Nat.le_of_ble_eq_true rfl) dX0_bestSet_38 ?_
          refine z_istore (L' := [(8, .int (nI (pc ((yl D (Lf kd st k) S_v) &&& F)))), (0, .ref (a 1)), (1, .int (nI k)), (2, .int (nI F)), (3, .int (nI (Lf kd st k))), (4, .int (nI (2 ^ D - 1))), (5, .int (-9)), (6, .int (nI 0)), (7, .int (nI S_v))]) X dX0_bestSet_41 (by decide) rfl ?_
          refine z_iload X dX0_bestSet_43 8 rfl ?_
          refine z_callS0 X (c_J6_bitCount_0f7a4 l g S_v (by omega)) gX0_bestSet_J6_bitCount_0f7a4 rfl ⟨rfl, rfl⟩ (by decide +kernel) ⟨Nat.le_of_ble_eq_true rfl, Nat.le_of_ble_eq_true rfl⟩ ZF.room (As := [.int (nI S_v)]) (n := 1) rfl rfl (st1 := [.int (nI (pc S_v))]) rfl (Nat.le_of_ble_eq_true rfl) dX0_bestSet_45 ?_
          refine z_aload_n X dX0_bestSet_48 rfl 1 rfl ?_
          refine z_iload_n X dX0_bestSet_49 rfl 2 rfl ?_
          refine z_callVM X (c_X0_needOf l g a D E so lk kd st sp nd k (by omega)) gX0_bestSet_X0_needOf rfl ⟨rfl, rfl⟩ (by decide +kernel) ⟨Nat.le_of_ble_eq_true rfl, Nat.le_of_ble_eq_true rfl⟩ ZF.room (ci := 0) rfl 0 rfl rfl (As := [.int (nI k)]) (n := 1) rfl rfl (st1 := [.int (nd k), .int (nI (pc S_v))]) rfl (Nat.le_of_ble_eq_true rfl) dX0_bestSet_50 ?_
          refine z_icmp_lt (tgt := 60) X dX0_bestSet_53 (by decide) (fun hq3 => ?_) (fun hq3 => ?_)
          ·
            refine z_iconst (v := nI 0) X dX0_bestSet_60 (by decide) ?_
            refine z_istore (L' := [(9, .int (nI 0)), (8, .int (nI (pc ((yl D (Lf kd st k) S_v) &&& F)))), (0, .ref (a 1)), (1, .int (nI k)), (2, .int (nI F)), (3, .int (nI (Lf kd st k))), (4, .int (nI (2 ^ D - 1))), (5, .int (-9)), (6, .int (nI 0)), (7, .int (nI S_v))]) X dX0_bestSet_61 (by decide) rfl ?_
            refine z_iload X dX0_bestSet_63 0 rfl ?_
            refine z_if_eqN (tgt := 97) X dX0_bestSet_65 (by decide) (by omega) (fun hq4 => ?_) (fun hq4 => ?_)
            ·
              refine z_iinc (v := nI (S_v + 1)) (L' := [(7, .int (nI (S_v + 1))), (9, .int (nI 0)), (8, .int (nI (pc ((yl D (Lf kd st k) S_v) &&& F)))), (0, .ref (a 1)), (1, .int (nI k)), (2, .int (nI F)), (3, .int (nI (Lf kd st k))), (4, .int (nI (2 ^ D - 1))), (5, .int (-9)), (6, .int (nI 0))]) X dX0_bestSet_97 9 rfl (nI_inc S_v 1) (by decide) rfl ?_
              refine z_goto (tgt := 22) X dX0_bestSet_100 (by decide) ?_
              refine z_ls (L' := [(0, .ref (a 1)), (1, .int (nI k)), (2, .int (nI F)), (3, .int (nI (Lf kd st k))), (4, .int (nI (2 ^ D - 1))), (5, .int (-9)), (6, .int (nI 0)), (7, .int (nI (S_v + 1)))]) [3, 4, 5, 6, 7, 8, 9, 0] rfl ?_
              have e5 : (-9) = (obI (bsF D (Lf kd st k) (nd k) F (S_v + 1))) := by first | rfl | simp [bsF, fnd, obI, olI, hq2, hbv, hq3, hq4]
              have e6 : (nI 0) = (olI (bsF D (Lf kd st k) (nd k) F (S_v + 1))) := by first | rfl | simp [bsF, fnd, obI, olI, hq2, hbv, hq3, hq4]
              refine z_Le (L' := [(0, .ref (a 1)), (1, .int (nI k)), (2, .int (nI F)), (3, .int (nI (Lf kd st k))), (4, .int (nI (2 ^ D - 1))), (5, .int (obI (bsF D (Lf kd st k) (nd k) F (S_v + 1)))), (6, .int (olI (bsF D (Lf kd st k) (nd k) F (S_v + 1)))), (7, .int (nI (S_v + 1)))]) (by rw [← e5, ← e6]) ?_
              exact ih1 (S_v + 1) (by omega) (by omega)
            ·
              exact absurd hq4 (by decide)
          ·
            refine z_iconst (v := nI 1) X dX0_bestSet_56 (by decide) ?_
            refine z_goto (tgt := 61) X dX0_bestSet_57 (by decide) ?_
            refine z_istore (L' := [(9, .int (nI 1)), (8, .int (nI (pc ((yl D (Lf kd st k) S_v) &&& F)))), (0, .ref (a 1)), (1, .int (nI k)), (2, .int (nI F)), (3, .int (nI (Lf kd st k))), (4, .int (nI (2 ^ D - 1))), (5, .int (-9)), (6, .int (nI 0)), (7, .int (nI S_v))]) X dX0_bestSet_61 (by decide) rfl ?_
            refine z_iload X dX0_bestSet_63 0 rfl ?_
            refine z_if_eqN (tgt := 97) X dX0_bestSet_65 (by decide) (by omega) (fun hq7 => ?_) (fun hq7 => ?_)
            ·
              exact absurd hq7 (by decide)
            ·
              refine z_iload X dX0_bestSet_68 7 rfl ?_
              refine z_bipush (v := (-9)) X dX0_bestSet_70 (by decide) ?_
              refine z_icmp_eq (tgt := 89) X dX0_bestSet_72 (by decide) (fun hq8 => ?_) (fun hq8 => ?_)
              ·
                refine z_iload X dX0_bestSet_89 9 rfl ?_
                refine z_istore (L' := [(5, .int (nI S_v)), (9, .int (nI 1)), (8, .int (nI (pc ((yl D (Lf kd st k) S_v) &&& F)))), (0, .ref (a 1)), (1, .int (nI k)), (2, .int (nI F)), (3, .int (nI (Lf kd st k))), (4, .int (nI (2 ^ D - 1))), (6, .int (nI 0)), (7, .int (nI S_v))]) X dX0_bestSet_91 (by decide) rfl ?_
                refine z_iload X dX0_bestSet_93 2 rfl ?_
                refine z_istore (L' := [(6, .int (nI (pc ((yl D (Lf kd st k) S_v) &&& F)))), (5, .int (nI S_v)), (9, .int (nI 1)), (8, .int (nI (pc ((yl D (Lf kd st k) S_v) &&& F)))), (0, .ref (a 1)), (1, .int (nI k)), (2, .int (nI F)), (3, .int (nI (Lf kd st k))), (4, .int (nI (2 ^ D - 1))), (7, .int (nI S_v))]) X dX0_bestSet_95 (by decide) rfl ?_
                refine z_iinc (v := nI (S_v + 1)) (L' := [(7, .int (nI (S_v + 1))), (6, .int (nI (pc ((yl D (Lf kd st k) S_v) &&& F)))), (5, .int (nI S_v)), (9, .int (nI 1)), (8, .int (nI (pc ((yl D (Lf kd st k) S_v) &&& F)))), (0, .ref (a 1)), (1, .int (nI k)), (2, .int (nI F)), (3, .int (nI (Lf kd st k))), (4, .int (nI (2 ^ D - 1)))]) X dX0_bestSet_97 9 rfl (nI_inc S_v 1) (by decide) rfl ?_
                refine z_goto (tgt := 22) X dX0_bestSet_100 (by decide) ?_
                refine z_ls (L' := [(0, .ref (a 1)), (1, .int (nI k)), (2, .int (nI F)), (3, .int (nI (Lf kd st k))), (4, .int (nI (2 ^ D - 1))), (5, .int (nI S_v)), (6, .int (nI (pc ((yl D (Lf kd st k) S_v) &&& F)))), (7, .int (nI (S_v + 1)))]) [5, 6, 7, 8, 9, 2, 1, 0] rfl ?_
                have e9 : (nI S_v) = (obI (bsF D (Lf kd st k) (nd k) F (S_v + 1))) := by first | rfl | simp [bsF, fnd, obI, olI, hq2, hbv, hq3, hq7, hq8]
                have e10 : (nI (pc ((yl D (Lf kd st k) S_v) &&& F))) = (olI (bsF D (Lf kd st k) (nd k) F (S_v + 1))) := by first | rfl | simp [bsF, fnd, obI, olI, hq2, hbv, hq3, hq7, hq8]
                refine z_Le (L' := [(0, .ref (a 1)), (1, .int (nI k)), (2, .int (nI F)), (3, .int (nI (Lf kd st k))), (4, .int (nI (2 ^ D - 1))), (5, .int (obI (bsF D (Lf kd st k) (nd k) F (S_v + 1)))), (6, .int (olI (bsF D (Lf kd st k) (nd k) F (S_v + 1)))), (7, .int (nI (S_v + 1)))]) (by rw [← e9, ← e10]) ?_
                exact ih1 (S_v + 1) (by omega) (by omega)
              ·
                exact absurd rfl hq8
        ·
          have hbl := bsF_lt _ hbv
          refine z_Le (L' := [(0, .ref (a 1)), (1, .int (nI k)), (2, .int (nI F)), (3, .int (nI (Lf kd st k))), (4, .int (nI (2 ^ D - 1))), (5, .int (nI b_v)), (6, .int (nI m_v)), (7, .int (nI S_v))]) rfl ?_
          refine z_aload_n X dX0_bestSet_29 rfl 0 rfl ?_
          refine z_iload_n X dX0_bestSet_30 rfl 3 rfl ?_
          refine z_iload X dX0_bestSet_31 7 rfl ?_
          refine z_callVM X (c_X0_yellowDays l g a D E so lk kd st sp nd (Lf kd st k) S_v (by omega) (hL _ hk).2) gX0_bestSet_X0_yellowDays rfl ⟨rfl, rfl⟩ (by decide +kernel) ⟨Nat.le_of_ble_eq_true rfl, Nat.le_of_ble_eq_true rfl⟩ ZF.room (ci := 0) rfl 0 rfl rfl (As := [.int (nI (Lf kd st k)), .int (nI S_v)]) (n := 2) rfl rfl (st1 := [.int (nI (yl D (Lf kd st k) S_v))]) rfl (Nat.le_of_ble_eq_true rfl) dX0_bestSet_33 ?_
          refine z_iload_n X dX0_bestSet_36 rfl 2 rfl ?_
          refine z_iand' (v := nI ((yl D (Lf kd st k) S_v) &&& F)) X dX0_bestSet_37 (fa_and _ _) ?_
          refine z_callS0 X (c_J6_bitCount_0f7a4 l g ((yl D (Lf kd st k) S_v) &&& F) (fnd_lt hD)) gX0_bestSet_J6_bitCount_0f7a4 rfl ⟨rfl, rfl⟩ (by decide +kernel) ⟨Nat.le_of_ble_eq_true rfl, Nat.le_of_ble_eq_true rfl⟩ ZF.room (As := [.int (nI ((yl D (Lf kd st k) S_v) &&& F))]) (n := 1) rfl rfl (st1 := [.int (nI (pc ((yl D (Lf kd st k) S_v) &&& F)))]) rfl (Nat.le_of_ble_eq_true rfl) dX0_bestSet_38 ?_
          refine z_istore (L' := [(8, .int (nI (pc ((yl D (Lf kd st k) S_v) &&& F)))), (0, .ref (a 1)), (1, .int (nI k)), (2, .int (nI F)), (3, .int (nI (Lf kd st k))), (4, .int (nI (2 ^ D - 1))), (5, .int (nI b_v)), (6, .int (nI m_v)), (7, .int (nI S_v))]) X dX0_bestSet_41 (by decide) rfl ?_
          refine z_iload X dX0_bestSet_43 8 rfl ?_
          refine z_callS0 X (c_J6_bitCount_0f7a4 l g S_v (by omega)) gX0_bestSet_J6_bitCount_0f7a4 rfl ⟨rfl, rfl⟩ (by decide +kernel) ⟨Nat.le_of_ble_eq_true rfl, Nat.le_of_ble_eq_true rfl⟩ ZF.room (As := [.int (nI S_v)]) (n := 1) rfl rfl (st1 := [.int (nI (pc S_v))]) rfl (Nat.le_of_ble_eq_true rfl) dX0_bestSet_45 ?_
          refine z_aload_n X dX0_bestSet_48 rfl 1 rfl ?_
          refine z_iload_n X dX0_bestSet_49 rfl 2 rfl ?_
          refine z_callVM X (c_X0_needOf l g a D E so lk kd st sp nd k (by omega)) gX0_bestSet_X0_needOf rfl ⟨rfl, rfl⟩ (by decide +kernel) ⟨Nat.le_of_ble_eq_true rfl, Nat.le_of_ble_eq_true rfl⟩ ZF.room (ci := 0) rfl 0 rfl rfl (As := [.int (nI k)]) (n := 1) rfl rfl (st1 := [.int (nd k), .int (nI (pc S_v))]) rfl (Nat.le_of_ble_eq_true rfl) dX0_bestSet_50 ?_
          refine z_icmp_lt (tgt := 60) X dX0_bestSet_53 (by decide) (fun hq11 => ?_) (fun hq11 => ?_)
          ·
            refine z_iconst (v := nI 0) X dX0_bestSet_60 (by decide) ?_
            refine z_istore (L' := [(9, .int (nI 0)), (8, .int (nI (pc ((yl D (Lf kd st k) S_v) &&& F)))), (0, .ref (a 1)), (1, .int (nI k)), (2, .int (nI F)), (3, .int (nI (Lf kd st k))), (4, .int (nI (2 ^ D - 1))), (5, .int (nI b_v)), (6, .int (nI m_v)), (7, .int (nI S_v))]) X dX0_bestSet_61 (by decide) rfl ?_
            refine z_iload X dX0_bestSet_63 0 rfl ?_
            refine z_if_eqN (tgt := 97) X dX0_bestSet_65 (by decide) (by omega) (fun hq12 => ?_) (fun hq12 => ?_)
            ·
              refine z_iinc (v := nI (S_v + 1)) (L' := [(7, .int (nI (S_v + 1))), (9, .int (nI 0)), (8, .int (nI (pc ((yl D (Lf kd st k) S_v) &&& F)))), (0, .ref (a 1)), (1, .int (nI k)), (2, .int (nI F)), (3, .int (nI (Lf kd st k))), (4, .int (nI (2 ^ D - 1))), (5, .int (nI b_v)), (6, .int (nI m_v))]) X dX0_bestSet_97 9 rfl (nI_inc S_v 1) (by decide) rfl ?_
              refine z_goto (tgt := 22) X dX0_bestSet_100 (by decide) ?_
              refine z_ls (L' := [(0, .ref (a 1)), (1, .int (nI k)), (2, .int (nI F)), (3, .int (nI (Lf kd st k))), (4, .int (nI (2 ^ D - 1))), (5, .int (nI b_v)), (6, .int (nI m_v)), (7, .int (nI (S_v + 1)))]) [3, 4, 5, 6, 7, 8, 9, 0] rfl ?_
              have e13 : (nI b_v) = (obI (bsF D (Lf kd st k) (nd k) F (S_v + 1))) := by first | rfl | simp [bsF, fnd, obI, olI, hq2, hbv, hq11, hq12]
              have e14 : (nI m_v) = (olI (bsF D (Lf kd st k) (nd k) F (S_v + 1))) := by first | rfl | simp [bsF, fnd, obI, olI, hq2, hbv, hq11, hq12]
              refine z_Le (L' := [(0, .ref (a 1)), (1, .int (nI k)), (2, .int (nI F)), (3, .int (nI (Lf kd st k))), (4, .int (nI (2 ^ D - 1))), (5, .int (obI (bsF D (Lf kd st k) (nd k) F (S_v + 1)))), (6, .int (olI (bsF D (Lf kd st k) (nd k) F (S_v + 1)))), (7, .int (nI (S_v + 1)))]) (by rw [← e13, ← e14]) ?_
              exact ih1 (S_v + 1) (by omega) (by omega)
            ·
              exact absurd hq12 (by decide)
          ·
            refine z_iconst (v := nI 1) X dX0_bestSet_56 (by decide) ?_
            refine z_goto (tgt := 61) X dX0_bestSet_57 (by decide) ?_
            refine z_istore (L' := [(9, .int (nI 1)), (8, .int (nI (pc ((yl D (Lf kd st k) S_v) &&& F)))), (0, .ref (a 1)), (1, .int (nI k)), (2, .int (nI F)), (3, .int (nI (Lf kd st k))), (4, .int (nI (2 ^ D - 1))), (5, .int (nI b_v)), (6, .int (nI m_v)), (7, .int (nI S_v))]) X dX0_bestSet_61 (by decide) rfl ?_
            refine z_iload X dX0_bestSet_63 0 rfl ?_
            refine z_if_eqN (tgt := 97) X dX0_bestSet_65 (by decide) (by omega) (fun hq15 => ?_) (fun hq15 => ?_)
            ·
              exact absurd hq15 (by decide)
            ·
              refine z_iload X dX0_bestSet_68 7 rfl ?_
              refine z_bipush (v := (-9)) X dX0_bestSet_70 (by decide) ?_
              refine z_icmp_eq (tgt := 89) X dX0_bestSet_72 (by decide) (fun hq16 => ?_) (fun hq16 => ?_)
              ·
                exact absurd hq16 (nI_nm (k := 8) (by omega) (by decide +kernel))
              ·
                refine z_iload X dX0_bestSet_75 1 rfl ?_
                refine z_iload X dX0_bestSet_77 9 rfl ?_
                refine z_iload X dX0_bestSet_79 8 rfl ?_
                refine z_iload X dX0_bestSet_81 7 rfl ?_
                refine z_callS0 X (c_X0_isBetter l g (pc ((yl D (Lf kd st k) S_v) &&& F)) S_v m_v b_v hfo (by omega) (by omega) (by omega)) gX0_bestSet_X0_isBetter rfl ⟨rfl, rfl⟩ (by decide +kernel) ⟨Nat.le_of_ble_eq_true rfl, Nat.le_of_ble_eq_true rfl⟩ ZF.room (As := [.int (nI (pc ((yl D (Lf kd st k) S_v) &&& F))), .int (nI S_v), .int (nI m_v), .int (nI b_v)]) (n := 4) rfl rfl (st1 := [.int (bI (isb (pc ((yl D (Lf kd st k) S_v) &&& F)) S_v m_v b_v))]) rfl (Nat.le_of_ble_eq_true rfl) dX0_bestSet_83 ?_
                refine z_if_eqB (tgt := 97) X dX0_bestSet_86 (by decide) (fun hq17 => ?_) (fun hq17 => ?_)
                ·
                  refine z_iinc (v := nI (S_v + 1)) (L' := [(7, .int (nI (S_v + 1))), (9, .int (nI 1)), (8, .int (nI (pc ((yl D (Lf kd st k) S_v) &&& F)))), (0, .ref (a 1)), (1, .int (nI k)), (2, .int (nI F)), (3, .int (nI (Lf kd st k))), (4, .int (nI (2 ^ D - 1))), (5, .int (nI b_v)), (6, .int (nI m_v))]) X dX0_bestSet_97 9 rfl (nI_inc S_v 1) (by decide) rfl ?_
                  refine z_goto (tgt := 22) X dX0_bestSet_100 (by decide) ?_
                  refine z_ls (L' := [(0, .ref (a 1)), (1, .int (nI k)), (2, .int (nI F)), (3, .int (nI (Lf kd st k))), (4, .int (nI (2 ^ D - 1))), (5, .int (nI b_v)), (6, .int (nI m_v)), (7, .int (nI (S_v + 1)))]) [3, 4, 5, 6, 7, 8, 9, 0] rfl ?_
                  have e18 : (nI b_v) = (obI (bsF D (Lf kd st k) (nd k) F (S_v + 1))) := by first | rfl | simp [bsF, fnd, obI, olI, hq2, hbv, hq11, hq15, hq16, hq17]
                  have e19 : (nI m_v) = (olI (bsF D (Lf kd st k) (nd k) F (S_v + 1))) := by first | rfl | simp [bsF, fnd, obI, olI, hq2, hbv, hq11, hq15, hq16, hq17]
                  refine z_Le (L' := [(0, .ref (a 1)), (1, .int (nI k)), (2, .int (nI F)), (3, .int (nI (Lf kd st k))), (4, .int (nI (2 ^ D - 1))), (5, .int (obI (bsF D (Lf kd st k) (nd k) F (S_v + 1)))), (6, .int (olI (bsF D (Lf kd st k) (nd k) F (S_v + 1)))), (7, .int (nI (S_v + 1)))]) (by rw [← e18, ← e19]) ?_
                  exact ih1 (S_v + 1) (by omega) (by omega)
                ·
                  refine z_iload X dX0_bestSet_89 9 rfl ?_
                  refine z_istore (L' := [(5, .int (nI S_v)), (9, .int (nI 1)), (8, .int (nI (pc ((yl D (Lf kd st k) S_v) &&& F)))), (0, .ref (a 1)), (1, .int (nI k)), (2, .int (nI F)), (3, .int (nI (Lf kd st k))), (4, .int (nI (2 ^ D - 1))), (6, .int (nI m_v)), (7, .int (nI S_v))]) X dX0_bestSet_91 (by decide) rfl ?_
                  refine z_iload X dX0_bestSet_93 2 rfl ?_
                  refine z_istore (L' := [(6, .int (nI (pc ((yl D (Lf kd st k) S_v) &&& F)))), (5, .int (nI S_v)), (9, .int (nI 1)), (8, .int (nI (pc ((yl D (Lf kd st k) S_v) &&& F)))), (0, .ref (a 1)), (1, .int (nI k)), (2, .int (nI F)), (3, .int (nI (Lf kd st k))), (4, .int (nI (2 ^ D - 1))), (7, .int (nI S_v))]) X dX0_bestSet_95 (by decide) rfl ?_
                  refine z_iinc (v := nI (S_v + 1)) (L' := [(7, .int (nI (S_v + 1))), (6, .int (nI (pc ((yl D (Lf kd st k) S_v) &&& F)))), (5, .int (nI S_v)), (9, .int (nI 1)), (8, .int (nI (pc ((yl D (Lf kd st k) S_v) &&& F)))), (0, .ref (a 1)), (1, .int (nI k)), (2, .int (nI F)), (3, .int (nI (Lf kd st k))), (4, .int (nI (2 ^ D - 1)))]) X dX0_bestSet_97 9 rfl (nI_inc S_v 1) (by decide) rfl ?_
                  refine z_goto (tgt := 22) X dX0_bestSet_100 (by decide) ?_
                  refine z_ls (L' := [(0, .ref (a 1)), (1, .int (nI k)), (2, .int (nI F)), (3, .int (nI (Lf kd st k))), (4, .int (nI (2 ^ D - 1))), (5, .int (nI S_v)), (6, .int (nI (pc ((yl D (Lf kd st k) S_v) &&& F)))), (7, .int (nI (S_v + 1)))]) [5, 6, 7, 8, 9, 2, 1, 0] rfl ?_
                  have e20 : (nI S_v) = (obI (bsF D (Lf kd st k) (nd k) F (S_v + 1))) := by first | rfl | simp [bsF, fnd, obI, olI, hq2, hbv, hq11, hq15, hq16, hq17]
                  have e21 : (nI (pc ((yl D (Lf kd st k) S_v) &&& F))) = (olI (bsF D (Lf kd st k) (nd k) F (S_v + 1))) := by first | rfl | simp [bsF, fnd, obI, olI, hq2, hbv, hq11, hq15, hq16, hq17]
                  refine z_Le (L' := [(0, .ref (a 1)), (1, .int (nI k)), (2, .int (nI F)), (3, .int (nI (Lf kd st k))), (4, .int (nI (2 ^ D - 1))), (5, .int (obI (bsF D (Lf kd st k) (nd k) F (S_v + 1)))), (6, .int (olI (bsF D (Lf kd st k) (nd k) F (S_v + 1)))), (7, .int (nI (S_v + 1)))]) (by rw [← e20, ← e21]) ?_
                  exact ih1 (S_v + 1) (by omega) (by omega)
  refine z_ls (L' := [(0, .ref (a 1)), (1, .int (nI k)), (2, .int (nI F)), (3, .int (nI (Lf kd st k))), (4, .int (nI (2 ^ D - 1))), (5, .int (-9)), (6, .int (nI 0)), (7, .int (nI 0))]) [5, 6, 7, 4, 3, 2, 1, 0] rfl ?_
  have e22 : (-9) = (obI (bsF D (Lf kd st k) (nd k) F 0)) := by first | rfl | simp [bsF, fnd, obI, olI, ]
  have e23 : (nI 0) = (olI (bsF D (Lf kd st k) (nd k) F 0)) := by first | rfl | simp [bsF, fnd, obI, olI, ]
  refine z_Le (L' := [(0, .ref (a 1)), (1, .int (nI k)), (2, .int (nI F)), (3, .int (nI (Lf kd st k))), (4, .int (nI (2 ^ D - 1))), (5, .int (obI (bsF D (Lf kd st k) (nd k) F 0))), (6, .int (olI (bsF D (Lf kd st k) (nd k) F 0))), (7, .int (nI 0))]) (by rw [← e22, ← e23]) ?_
  exact loopv1 ((2 ^ D) + 1) 0 (by omega) (by omega)
abbrev rX0_villagePays : Room := { frames := 3, cells := 0, slots := 0, locals := 73 }
set_option maxHeartbeats 4000000 in
set_option maxRecDepth 100000 in
theorem c_X0_villagePays (l : Launch) (g : zg) (a : Nat → Nat) (D : Nat) (E : Nat) (so : Int32) (lk : Nat → Int32) (kd : Nat → Int32) (st : Nat → Int32) (sp : Nat → Int32) (nd : Nat → Int32) (F : Nat) (hE : E ≤ 4) (hD : D ≤ 6) (hL : vL kd st E) (hSp : vS sp E) (hF64 : F < 64) : zM l g yX0_villagePays wsX0_villagePays rX0_villagePays [.ref (a 1), .int (nI F)] (wD g a D E so lk kd st sp nd) (some (.int (onI (vil D kd st sp nd F E)))) (wD g a D E so lk kd st sp nd) := by
  refine z_met (own := RX0) (cc := cX0_villagePays) (maxL := 5) (ret := some .int) (by decide +kernel) rfl rfl (Nat.le_of_ble_eq_true rfl) ?_
  intro M X ZF
  refine z_Le (L' := [(0, .ref (a 1)), (1, .int (nI F))]) rfl ?_
  have hpD : 2 ^ D ≤ 2 ^ 6 := Nat.pow_le_pow_right (by omega) hD
  have i_RX0 : ∀ w ∈ wsX00, w ∈ wsX0_villagePays := by decide +kernel
  have f_40 : Cond.fieldLink RX0 40 (TX0 6).1 (TX0 6).2.1 (TX0 6).2.2.1 ∈ wsX0_villagePays := by decide +kernel
  refine z_iconst (v := nI 0) X dX0_villagePays_0 (by decide) ?_
  refine z_istore_n (L' := [(2, .int (nI 0)), (0, .ref (a 1)), (1, .int (nI F))]) X dX0_villagePays_1 rfl (by decide) rfl ?_
  refine z_iconst (v := nI 0) X dX0_villagePays_2 (by decide) ?_
  refine z_istore_n (L' := [(3, .int (nI 0)), (2, .int (nI 0)), (0, .ref (a 1)), (1, .int (nI F))]) X dX0_villagePays_3 rfl (by decide) rfl ?_
  have loopv1 : ∀ (n1 i_v : Nat) (p_v : Nat), i_v ≤ E → E + 1 ≤ i_v + n1 → (vil D kd st sp nd F i_v = some p_v) → zG l g 5 M (wD g a D E so lk kd st sp nd) [(0, .ref (a 1)), (1, .int (nI F)), (2, .int (nI p_v)), (3, .int (nI i_v))] 4 [] := by
    intro n1
    induction n1 with
    | zero => intro i_v p_v h1 h2 _; exact absurd h2 (by omega)
    | succ n1 ih1 =>
      intro i_v p_v hi1 hn1 hv
      refine z_iload_n X dX0_villagePays_4 rfl 3 rfl ?_
      refine z_aload_n X dX0_villagePays_5 rfl 0 rfl ?_
      refine z_get (v := .int (nI E)) (N := 8) X i_RX0 (ci := 0) rfl 0 rfl 6 (by decide) f_40 rfl dX0_villagePays_6 ?_
      refine z_icmp_geN (tgt := 61) X dX0_villagePays_9 (by decide) (by omega) (by omega) (fun hq2 => ?_) (fun hq2 => ?_)
      ·
        refine z_iload_n X dX0_villagePays_61 rfl 2 rfl ?_
        exact z_iret X ZF dX0_villagePays_62 (by rw [show E = i_v by omega, hv]; rfl) rfl
      ·
        refine z_aload_n X dX0_villagePays_12 rfl 0 rfl ?_
        refine z_iload_n X dX0_villagePays_13 rfl 3 rfl ?_
        refine z_iload_n X dX0_villagePays_14 rfl 1 rfl ?_
        refine z_callVM X (c_X0_bestSet l g a D E so lk kd st sp nd i_v F (by omega) (by omega) (by omega) (by first | assumption | omega) (by omega)) gX0_villagePays_X0_bestSet rfl ⟨rfl, rfl⟩ (by decide +kernel) ⟨Nat.le_of_ble_eq_true rfl, Nat.le_of_ble_eq_true rfl⟩ ZF.room (ci := 0) rfl 0 rfl rfl (As := [.int (nI i_v), .int (nI F)]) (n := 2) rfl rfl (st1 := [.int (obI (bst D (Lf kd st i_v) (nd i_v) F))]) rfl (Nat.le_of_ble_eq_true rfl) dX0_villagePays_15 ?_
        refine z_istore (L' := [(4, .int (obI (bst D (Lf kd st i_v) (nd i_v) F))), (0, .ref (a 1)), (1, .int (nI F)), (2, .int (nI p_v)), (3, .int (nI i_v))]) X dX0_villagePays_18 (by decide) rfl ?_
        rcases hbv : bst D (Lf kd st i_v) (nd i_v) F with _ | ⟨b_v, m_v⟩
        ·
          refine z_Le (L' := [(4, .int (-9)), (0, .ref (a 1)), (1, .int (nI F)), (2, .int (nI p_v)), (3, .int (nI i_v))]) rfl ?_
          refine z_iload X dX0_villagePays_20 0 rfl ?_
          refine z_bipush (v := (-9)) X dX0_villagePays_22 (by decide) ?_
          refine z_icmp_ne (tgt := 30) X dX0_villagePays_24 (by decide) (fun hq3 => ?_) (fun hq3 => ?_)
          ·
            exact absurd rfl hq3
          ·
            refine z_bipush (v := (-9)) X dX0_villagePays_27 (by decide) ?_
            exact z_iret X ZF dX0_villagePays_29 (by rw [vil_none E (i_v + 1) (by omega) (by simp [vil, hbv])]; rfl) rfl
        ·
          have hbl := bst_lt hbv
          refine z_Le (L' := [(4, .int (nI b_v)), (0, .ref (a 1)), (1, .int (nI F)), (2, .int (nI p_v)), (3, .int (nI i_v))]) rfl ?_
          refine z_iload X dX0_villagePays_20 0 rfl ?_
          refine z_bipush (v := (-9)) X dX0_villagePays_22 (by decide) ?_
          refine z_icmp_ne (tgt := 30) X dX0_villagePays_24 (by decide) (fun hq4 => ?_) (fun hq4 => ?_)
          ·
            refine z_iload_n X dX0_villagePays_30 rfl 3 rfl ?_
            refine z_aload_n X dX0_villagePays_31 rfl 1 rfl ?_
            refine z_aload_n X dX0_villagePays_32 rfl 1 rfl ?_
            refine z_iload_n X dX0_villagePays_33 rfl 4 rfl ?_
            refine z_callVM X (c_X0_lastsOf l g a D E so lk kd st sp nd i_v (by omega) (by omega) (by first | assumption | omega)) gX0_villagePays_X0_lastsOf rfl ⟨rfl, rfl⟩ (by decide +kernel) ⟨Nat.le_of_ble_eq_true rfl, Nat.le_of_ble_eq_true rfl⟩ ZF.room (ci := 0) rfl 0 rfl rfl (As := [.int (nI i_v)]) (n := 1) rfl rfl (st1 := [.int (nI (Lf kd st i_v)), .ref (a 1), .int (nI p_v)]) rfl (Nat.le_of_ble_eq_true rfl) dX0_villagePays_34 ?_
            refine z_iload X dX0_villagePays_37 0 rfl ?_
            refine z_callVM X (c_X0_yellowDays l g a D E so lk kd st sp nd (Lf kd st i_v) b_v (by omega) (hL _ (by omega)).2) gX0_villagePays_X0_yellowDays rfl ⟨rfl, rfl⟩ (by decide +kernel) ⟨Nat.le_of_ble_eq_true rfl, Nat.le_of_ble_eq_true rfl⟩ ZF.room (ci := 0) rfl 0 rfl rfl (As := [.int (nI (Lf kd st i_v)), .int (nI b_v)]) (n := 2) rfl rfl (st1 := [.int (nI (yl D (Lf kd st i_v) b_v)), .int (nI p_v)]) rfl (Nat.le_of_ble_eq_true rfl) dX0_villagePays_39 ?_
            refine z_iload_n X dX0_villagePays_42 rfl 2 rfl ?_
            refine z_iand' (v := nI ((yl D (Lf kd st i_v) b_v) &&& F)) X dX0_villagePays_43 (fa_and _ _) ?_
            refine z_callS0 X (c_J6_bitCount_0f7a4 l g ((yl D (Lf kd st i_v) b_v) &&& F) (fnd_lt hD)) gX0_villagePays_J6_bitCount_0f7a4 rfl ⟨rfl, rfl⟩ (by decide +kernel) ⟨Nat.le_of_ble_eq_true rfl, Nat.le_of_ble_eq_true rfl⟩ ZF.room (As := [.int (nI ((yl D (Lf kd st i_v) b_v) &&& F))]) (n := 1) rfl rfl (st1 := [.int (nI (pc ((yl D (Lf kd st i_v) b_v) &&& F))), .int (nI p_v)]) rfl (Nat.le_of_ble_eq_true rfl) dX0_villagePays_44 ?_
            refine z_aload_n X dX0_villagePays_47 rfl 1 rfl ?_
            refine z_iload_n X dX0_villagePays_48 rfl 4 rfl ?_
            refine z_callVM X (c_X0_spoonsOf l g a D E so lk kd st sp nd i_v (by omega)) gX0_villagePays_X0_spoonsOf rfl ⟨rfl, rfl⟩ (by decide +kernel) ⟨Nat.le_of_ble_eq_true rfl, Nat.le_of_ble_eq_true rfl⟩ ZF.room (ci := 0) rfl 0 rfl rfl (As := [.int (nI i_v)]) (n := 1) rfl rfl (st1 := [.int (sp i_v), .int (nI (pc ((yl D (Lf kd st i_v) b_v) &&& F))), .int (nI p_v)]) rfl (Nat.le_of_ble_eq_true rfl) dX0_villagePays_49 ?_
            refine z_top (y := nI (tn (sp i_v))) (hSp _ (by omega)).1 ?_
            refine z_imul' (v := nI ((pc ((yl D (Lf kd st i_v) b_v) &&& F)) * (tn (sp i_v)))) X dX0_villagePays_52 (pk_mul _ _) ?_
            refine z_iadd' (v := nI (p_v + ((pc ((yl D (Lf kd st i_v) b_v) &&& F)) * (tn (sp i_v))))) X dX0_villagePays_53 (nI_add _ _) ?_
            refine z_istore_n (L' := [(2, .int (nI (p_v + ((pc ((yl D (Lf kd st i_v) b_v) &&& F)) * (tn (sp i_v)))))), (4, .int (nI b_v)), (0, .ref (a 1)), (1, .int (nI F)), (3, .int (nI i_v))]) X dX0_villagePays_54 rfl (by decide) rfl ?_
            refine z_iinc (v := nI (i_v + 1)) (L' := [(3, .int (nI (i_v + 1))), (2, .int (nI (p_v + ((pc ((yl D (Lf kd st i_v) b_v) &&& F)) * (tn (sp i_v)))))), (4, .int (nI b_v)), (0, .ref (a 1)), (1, .int (nI F))]) X dX0_villagePays_55 4 rfl (nI_inc i_v 1) (by decide) rfl ?_
            refine z_goto (tgt := 4) X dX0_villagePays_58 (by decide) ?_
            refine z_ls (L' := [(0, .ref (a 1)), (1, .int (nI F)), (2, .int (nI (p_v + ((pc ((yl D (Lf kd st i_v) b_v) &&& F)) * (tn (sp i_v)))))), (3, .int (nI (i_v + 1)))]) [3, 4, 1, 0] rfl ?_
            exact ih1 (i_v + 1) (p_v + ((pc ((yl D (Lf kd st i_v) b_v) &&& F)) * (tn (sp i_v)))) (by omega) (by omega) (by simp [vil, fnd, hv, hbv])
          ·
            exact absurd hq4 (nI_nm (k := 8) (by omega) (by decide +kernel))
  refine z_ls (L' := [(0, .ref (a 1)), (1, .int (nI F)), (2, .int (nI 0)), (3, .int (nI 0))]) [2, 3, 1, 0] rfl ?_
  exact loopv1 (E + 1) 0 0 (by omega) (by omega) rfl
abbrev rX0_smileDay : Room := { frames := 4, cells := 0, slots := 0, locals := 97 }
set_option maxHeartbeats 4000000 in
set_option maxRecDepth 100000 in
theorem c_X0_smileDay (l : Launch) (g : zg) (a : Nat → Nat) (D : Nat) (E : Nat) (so : Int32) (lk : Nat → Int32) (kd : Nat → Int32) (st : Nat → Int32) (sp : Nat → Int32) (nd : Nat → Int32) (hE : E ≤ 4) (hD : D ≤ 6) (hL : vL kd st E) (hSp : vS sp E) : zM l g yX0_smileDay wsX0_smileDay rX0_smileDay [.ref (a 1)] (wD g a D E so lk kd st sp nd) (some (.int (obI (smF D E kd st sp nd (fs lk so D) D)))) (wD g a D E so lk kd st sp nd) := by
  refine z_met (own := RX0) (cc := cX0_smileDay) (maxL := 6) (ret := some .int) (by decide +kernel) rfl rfl (Nat.le_of_ble_eq_true rfl) ?_
  intro M X ZF
  refine z_Le (L' := [(0, .ref (a 1))]) rfl ?_
  have hfs := fs_lt6 (lk := lk) (so := so) hD
  have i_RX0 : ∀ w ∈ wsX00, w ∈ wsX0_smileDay := by decide +kernel
  have f_37 : Cond.fieldLink RX0 37 (TX0 5).1 (TX0 5).2.1 (TX0 5).2.2.1 ∈ wsX0_smileDay := by decide +kernel
  refine z_aload_n X dX0_smileDay_0 rfl 0 rfl ?_
  refine z_callVM X (c_X0_fastDays l g a D E so lk kd st sp nd (by omega)) gX0_smileDay_X0_fastDays rfl ⟨rfl, rfl⟩ (by decide +kernel) ⟨Nat.le_of_ble_eq_true rfl, Nat.le_of_ble_eq_true rfl⟩ ZF.room (ci := 0) rfl 0 rfl rfl (As := []) (n := 0) rfl rfl (st1 := [.int (nI (fs lk so D))]) rfl (Nat.le_of_ble_eq_true rfl) dX0_smileDay_1 ?_
  refine z_istore_n (L' := [(1, .int (nI (fs lk so D))), (0, .ref (a 1))]) X dX0_smileDay_4 rfl (by decide) rfl ?_
  refine z_bipush (v := (-9)) X dX0_smileDay_5 (by decide) ?_
  refine z_istore_n (L' := [(2, .int (-9)), (1, .int (nI (fs lk so D))), (0, .ref (a 1))]) X dX0_smileDay_7 rfl (by decide) rfl ?_
  refine z_iconst (v := nI 0) X dX0_smileDay_8 (by decide) ?_
  refine z_istore_n (L' := [(3, .int (nI 0)), (2, .int (-9)), (1, .int (nI (fs lk so D))), (0, .ref (a 1))]) X dX0_smileDay_9 rfl (by decide) rfl ?_
  refine z_iconst (v := nI 0) X dX0_smileDay_10 (by decide) ?_
  refine z_istore (L' := [(4, .int (nI 0)), (3, .int (nI 0)), (2, .int (-9)), (1, .int (nI (fs lk so D))), (0, .ref (a 1))]) X dX0_smileDay_11 (by decide) rfl ?_
  have loopv1 : ∀ (n1 d_v : Nat), d_v ≤ D → D + 1 ≤ d_v + n1 → zG l g 6 M (wD g a D E so lk kd st sp nd) [(0, .ref (a 1)), (1, .int (nI (fs lk so D))), (2, .int (obI (smF D E kd st sp nd (fs lk so D) d_v))), (3, .int (olI (smF D E kd st sp nd (fs lk so D) d_v))), (4, .int (nI d_v))] 13 [] := by
    intro n1
    induction n1 with
    | zero => intro d_v h1 h2; exact absurd h2 (by omega)
    | succ n1 ih1 =>
      intro d_v hi1 hn1
      refine z_iload X dX0_smileDay_13 4 rfl ?_
      refine z_aload_n X dX0_smileDay_15 rfl 0 rfl ?_
      refine z_get (v := .int (nI D)) (N := 8) X i_RX0 (ci := 0) rfl 0 rfl 5 (by decide) f_37 rfl dX0_smileDay_16 ?_
      refine z_icmp_geN (tgt := 79) X dX0_smileDay_19 (by decide) (by omega) (by omega) (fun hq2 => ?_) (fun hq2 => ?_)
      ·
        refine z_iload_n X dX0_smileDay_79 rfl 2 rfl ?_
        exact z_iret X ZF dX0_smileDay_80 (by rw [show d_v = D by omega]) rfl
      ·
        rcases hbv : smF D E kd st sp nd (fs lk so D) d_v with _ | ⟨s_v, m_v⟩
        ·
          refine z_Le (L' := [(0, .ref (a 1)), (1, .int (nI (fs lk so D))), (2, .int (-9)), (3, .int (nI 0)), (4, .int (nI d_v))]) rfl ?_
          refine z_iload_n X dX0_smileDay_22 rfl 1 rfl ?_
          refine z_iload X dX0_smileDay_23 4 rfl ?_
          refine z_ishr' (v := nI ((fs lk so D) / 2 ^ d_v)) X dX0_smileDay_25 (nI_shr (by omega) (by omega)) ?_
          refine z_iconst (v := nI 1) X dX0_smileDay_26 (by decide) ?_
          refine z_iand' (v := nI (((fs lk so D) / 2 ^ d_v) % 2)) X dX0_smileDay_27 (nI_and1 _) ?_
          refine z_if_neN (tgt := 36) X dX0_smileDay_28 (by decide) (by omega) (fun hq3 => ?_) (fun hq3 => ?_)
          ·
            have hz := zbt_t hq3
            refine z_aload_n X dX0_smileDay_36 rfl 0 rfl ?_
            refine z_aload_n X dX0_smileDay_37 rfl 0 rfl ?_
            refine z_iload X dX0_smileDay_38 4 rfl ?_
            refine z_callVM X (c_X0_fastDaysBut l g a D E so lk kd st sp nd d_v (by omega) (by omega)) gX0_smileDay_X0_fastDaysBut rfl ⟨rfl, rfl⟩ (by decide +kernel) ⟨Nat.le_of_ble_eq_true rfl, Nat.le_of_ble_eq_true rfl⟩ ZF.room (ci := 0) rfl 0 rfl rfl (As := [.int (nI d_v)]) (n := 1) rfl rfl (st1 := [.int (nI (clr (fs lk so D) d_v)), .ref (a 1)]) rfl (Nat.le_of_ble_eq_true rfl) dX0_smileDay_40 ?_
            refine z_callVM X (c_X0_villagePays l g a D E so lk kd st sp nd (clr (fs lk so D) d_v) (by omega) (by omega) (by first | assumption | omega) (by first | assumption | omega) clr_lt) gX0_smileDay_X0_villagePays rfl ⟨rfl, rfl⟩ (by decide +kernel) ⟨Nat.le_of_ble_eq_true rfl, Nat.le_of_ble_eq_true rfl⟩ ZF.room (ci := 0) rfl 0 rfl rfl (As := [.int (nI (clr (fs lk so D) d_v))]) (n := 1) rfl rfl (st1 := [.int (onI (vil D kd st sp nd (clr (fs lk so D) d_v) E))]) rfl (Nat.le_of_ble_eq_true rfl) dX0_smileDay_43 ?_
            refine z_istore (L' := [(5, .int (onI (vil D kd st sp nd (clr (fs lk so D) d_v) E))), (0, .ref (a 1)), (1, .int (nI (fs lk so D))), (2, .int (-9)), (3, .int (nI 0)), (4, .int (nI d_v))]) X dX0_smileDay_46 (by decide) rfl ?_
            rcases hv : vil D kd st sp nd (clr (fs lk so D) d_v) E with _ | p_v
            ·
              refine z_Le (L' := [(5, .int (-9)), (0, .ref (a 1)), (1, .int (nI (fs lk so D))), (2, .int (-9)), (3, .int (nI 0)), (4, .int (nI d_v))]) rfl ?_
              refine z_iload X dX0_smileDay_48 0 rfl ?_
              refine z_bipush (v := (-9)) X dX0_smileDay_50 (by decide) ?_
              refine z_icmp_eq (tgt := 73) X dX0_smileDay_52 (by decide) (fun hq4 => ?_) (fun hq4 => ?_)
              ·
                refine z_iinc (v := nI (d_v + 1)) (L' := [(4, .int (nI (d_v + 1))), (5, .int (-9)), (0, .ref (a 1)), (1, .int (nI (fs lk so D))), (2, .int (-9)), (3, .int (nI 0))]) X dX0_smileDay_73 5 rfl (nI_inc d_v 1) (by decide) rfl ?_
                refine z_goto (tgt := 13) X dX0_smileDay_76 (by decide) ?_
                refine z_ls (L' := [(0, .ref (a 1)), (1, .int (nI (fs lk so D))), (2, .int (-9)), (3, .int (nI 0)), (4, .int (nI (d_v + 1)))]) [2, 3, 4, 5, 0] rfl ?_
                have e5 : (-9) = (obI (smF D E kd st sp nd (fs lk so D) (d_v + 1))) := by first | rfl | simp [smF, obI, olI, hq2, hbv, hq3, hz, hv, hq4]
                have e6 : (nI 0) = (olI (smF D E kd st sp nd (fs lk so D) (d_v + 1))) := by first | rfl | simp [smF, obI, olI, hq2, hbv, hq3, hz, hv, hq4]
                refine z_Le (L' := [(0, .ref (a 1)), (1, .int (nI (fs lk so D))), (2, .int (obI (smF D E kd st sp nd (fs lk so D) (d_v + 1)))), (3, .int (olI (smF D E kd st sp nd (fs lk so D) (d_v + 1)))), (4, .int (nI (d_v + 1)))]) (by rw [← e5, ← e6]) ?_
                exact ih1 (d_v + 1) (by omega) (by omega)
              ·
                exact absurd rfl hq4
            ·
              have hvl := vil_le E hSp hv
              refine z_Le (L' := [(5, .int (nI p_v)), (0, .ref (a 1)), (1, .int (nI (fs lk so D))), (2, .int (-9)), (3, .int (nI 0)), (4, .int (nI d_v))]) rfl ?_
              refine z_iload X dX0_smileDay_48 0 rfl ?_
              refine z_bipush (v := (-9)) X dX0_smileDay_50 (by decide) ?_
              refine z_icmp_eq (tgt := 73) X dX0_smileDay_52 (by decide) (fun hq7 => ?_) (fun hq7 => ?_)
              ·
                exact absurd hq7 (nI_nm (k := 8) (by omega) (by decide +kernel))
              ·
                refine z_iload_n X dX0_smileDay_55 rfl 3 rfl ?_
                refine z_bipush (v := (-9)) X dX0_smileDay_56 (by decide) ?_
                refine z_icmp_eq (tgt := 67) X dX0_smileDay_58 (by decide) (fun hq8 => ?_) (fun hq8 => ?_)
                ·
                  refine z_iload X dX0_smileDay_67 5 rfl ?_
                  refine z_istore_n (L' := [(2, .int (nI d_v)), (5, .int (nI p_v)), (0, .ref (a 1)), (1, .int (nI (fs lk so D))), (3, .int (nI 0)), (4, .int (nI d_v))]) X dX0_smileDay_69 rfl (by decide) rfl ?_
                  refine z_iload X dX0_smileDay_70 1 rfl ?_
                  refine z_istore_n (L' := [(3, .int (nI p_v)), (2, .int (nI d_v)), (5, .int (nI p_v)), (0, .ref (a 1)), (1, .int (nI (fs lk so D))), (4, .int (nI d_v))]) X dX0_smileDay_72 rfl (by decide) rfl ?_
                  refine z_iinc (v := nI (d_v + 1)) (L' := [(4, .int (nI (d_v + 1))), (3, .int (nI p_v)), (2, .int (nI d_v)), (5, .int (nI p_v)), (0, .ref (a 1)), (1, .int (nI (fs lk so D)))]) X dX0_smileDay_73 5 rfl (nI_inc d_v 1) (by decide) rfl ?_
                  refine z_goto (tgt := 13) X dX0_smileDay_76 (by decide) ?_
                  refine z_ls (L' := [(0, .ref (a 1)), (1, .int (nI (fs lk so D))), (2, .int (nI d_v)), (3, .int (nI p_v)), (4, .int (nI (d_v + 1)))]) [4, 5, 2, 1, 0] rfl ?_
                  have e9 : (nI d_v) = (obI (smF D E kd st sp nd (fs lk so D) (d_v + 1))) := by first | rfl | simp [smF, obI, olI, hq2, hbv, hq3, hz, hv, hq7, hq8]
                  have e10 : (nI p_v) = (olI (smF D E kd st sp nd (fs lk so D) (d_v + 1))) := by first | rfl | simp [smF, obI, olI, hq2, hbv, hq3, hz, hv, hq7, hq8]
                  refine z_Le (L' := [(0, .ref (a 1)), (1, .int (nI (fs lk so D))), (2, .int (obI (smF D E kd st sp nd (fs lk so D) (d_v + 1)))), (3, .int (olI (smF D E kd st sp nd (fs lk so D) (d_v + 1)))), (4, .int (nI (d_v + 1)))]) (by rw [← e9, ← e10]) ?_
                  exact ih1 (d_v + 1) (by omega) (by omega)
                ·
                  exact absurd rfl hq8
          ·
            have hz := zbt_f hq3
            refine z_bipush (v := (-9)) X dX0_smileDay_31 (by decide) ?_
            refine z_goto (tgt := 46) X dX0_smileDay_33 (by decide) ?_
            refine z_istore (L' := [(5, .int (-9)), (0, .ref (a 1)), (1, .int (nI (fs lk so D))), (2, .int (-9)), (3, .int (nI 0)), (4, .int (nI d_v))]) X dX0_smileDay_46 (by decide) rfl ?_
            refine z_iload X dX0_smileDay_48 0 rfl ?_
            refine z_bipush (v := (-9)) X dX0_smileDay_50 (by decide) ?_
            refine z_icmp_eq (tgt := 73) X dX0_smileDay_52 (by decide) (fun hq11 => ?_) (fun hq11 => ?_)
            ·
              refine z_iinc (v := nI (d_v + 1)) (L' := [(4, .int (nI (d_v + 1))), (5, .int (-9)), (0, .ref (a 1)), (1, .int (nI (fs lk so D))), (2, .int (-9)), (3, .int (nI 0))]) X dX0_smileDay_73 5 rfl (nI_inc d_v 1) (by decide) rfl ?_
              refine z_goto (tgt := 13) X dX0_smileDay_76 (by decide) ?_
              refine z_ls (L' := [(0, .ref (a 1)), (1, .int (nI (fs lk so D))), (2, .int (-9)), (3, .int (nI 0)), (4, .int (nI (d_v + 1)))]) [2, 3, 4, 5, 0] rfl ?_
              have e12 : (-9) = (obI (smF D E kd st sp nd (fs lk so D) (d_v + 1))) := by first | rfl | simp [smF, obI, olI, hq2, hbv, hq3, hz, hq11]
              have e13 : (nI 0) = (olI (smF D E kd st sp nd (fs lk so D) (d_v + 1))) := by first | rfl | simp [smF, obI, olI, hq2, hbv, hq3, hz, hq11]
              refine z_Le (L' := [(0, .ref (a 1)), (1, .int (nI (fs lk so D))), (2, .int (obI (smF D E kd st sp nd (fs lk so D) (d_v + 1)))), (3, .int (olI (smF D E kd st sp nd (fs lk so D) (d_v + 1)))), (4, .int (nI (d_v + 1)))]) (by rw [← e12, ← e13]) ?_
              exact ih1 (d_v + 1) (by omega) (by omega)
            ·
              exact absurd rfl hq11
        ·
          have hsl := smF_le hSp _ hbv
          refine z_Le (L' := [(0, .ref (a 1)), (1, .int (nI (fs lk so D))), (2, .int (nI s_v)), (3, .int (nI m_v)), (4, .int (nI d_v))]) rfl ?_
          refine z_iload_n X dX0_smileDay_22 rfl 1 rfl ?_
          refine z_iload X dX0_smileDay_23 4 rfl ?_
          refine z_ishr' (v := nI ((fs lk so D) / 2 ^ d_v)) X dX0_smileDay_25 (nI_shr (by omega) (by omega)) ?_
          refine z_iconst (v := nI 1) X dX0_smileDay_26 (by decide) ?_
          refine z_iand' (v := nI (((fs lk so D) / 2 ^ d_v) % 2)) X dX0_smileDay_27 (nI_and1 _) ?_
          refine z_if_neN (tgt := 36) X dX0_smileDay_28 (by decide) (by omega) (fun hq14 => ?_) (fun hq14 => ?_)
          ·
            have hz := zbt_t hq14
            refine z_aload_n X dX0_smileDay_36 rfl 0 rfl ?_
            refine z_aload_n X dX0_smileDay_37 rfl 0 rfl ?_
            refine z_iload X dX0_smileDay_38 4 rfl ?_
            refine z_callVM X (c_X0_fastDaysBut l g a D E so lk kd st sp nd d_v (by omega) (by omega)) gX0_smileDay_X0_fastDaysBut rfl ⟨rfl, rfl⟩ (by decide +kernel) ⟨Nat.le_of_ble_eq_true rfl, Nat.le_of_ble_eq_true rfl⟩ ZF.room (ci := 0) rfl 0 rfl rfl (As := [.int (nI d_v)]) (n := 1) rfl rfl (st1 := [.int (nI (clr (fs lk so D) d_v)), .ref (a 1)]) rfl (Nat.le_of_ble_eq_true rfl) dX0_smileDay_40 ?_
            refine z_callVM X (c_X0_villagePays l g a D E so lk kd st sp nd (clr (fs lk so D) d_v) (by omega) (by omega) (by first | assumption | omega) (by first | assumption | omega) clr_lt) gX0_smileDay_X0_villagePays rfl ⟨rfl, rfl⟩ (by decide +kernel) ⟨Nat.le_of_ble_eq_true rfl, Nat.le_of_ble_eq_true rfl⟩ ZF.room (ci := 0) rfl 0 rfl rfl (As := [.int (nI (clr (fs lk so D) d_v))]) (n := 1) rfl rfl (st1 := [.int (onI (vil D kd st sp nd (clr (fs lk so D) d_v) E))]) rfl (Nat.le_of_ble_eq_true rfl) dX0_smileDay_43 ?_
            refine z_istore (L' := [(5, .int (onI (vil D kd st sp nd (clr (fs lk so D) d_v) E))), (0, .ref (a 1)), (1, .int (nI (fs lk so D))), (2, .int (nI s_v)), (3, .int (nI m_v)), (4, .int (nI d_v))]) X dX0_smileDay_46 (by decide) rfl ?_
            rcases hv : vil D kd st sp nd (clr (fs lk so D) d_v) E with _ | p_v
            ·
              refine z_Le (L' := [(5, .int (-9)), (0, .ref (a 1)), (1, .int (nI (fs lk so D))), (2, .int (nI s_v)), (3, .int (nI m_v)), (4, .int (nI d_v))]) rfl ?_
              refine z_iload X dX0_smileDay_48 0 rfl ?_
              refine z_bipush (v := (-9)) X dX0_smileDay_50 (by decide) ?_
              refine z_icmp_eq (tgt := 73) X dX0_smileDay_52 (by decide) (fun hq15 => ?_) (fun hq15 => ?_)
              ·
                refine z_iinc (v := nI (d_v + 1)) (L' := [(4, .int (nI (d_v + 1))), (5, .int (-9)), (0, .ref (a 1)), (1, .int (nI (fs lk so D))), (2, .int (nI s_v)), (3, .int (nI m_v))]) X dX0_smileDay_73 5 rfl (nI_inc d_v 1) (by decide) rfl ?_
                refine z_goto (tgt := 13) X dX0_smileDay_76 (by decide) ?_
                refine z_ls (L' := [(0, .ref (a 1)), (1, .int (nI (fs lk so D))), (2, .int (nI s_v)), (3, .int (nI m_v)), (4, .int (nI (d_v + 1)))]) [2, 3, 4, 5, 0] rfl ?_
                have e16 : (nI s_v) = (obI (smF D E kd st sp nd (fs lk so D) (d_v + 1))) := by first | rfl | simp [smF, obI, olI, hq2, hbv, hq14, hz, hv, hq15]
                have e17 : (nI m_v) = (olI (smF D E kd st sp nd (fs lk so D) (d_v + 1))) := by first | rfl | simp [smF, obI, olI, hq2, hbv, hq14, hz, hv, hq15]
                refine z_Le (L' := [(0, .ref (a 1)), (1, .int (nI (fs lk so D))), (2, .int (obI (smF D E kd st sp nd (fs lk so D) (d_v + 1)))), (3, .int (olI (smF D E kd st sp nd (fs lk so D) (d_v + 1)))), (4, .int (nI (d_v + 1)))]) (by rw [← e16, ← e17]) ?_
                exact ih1 (d_v + 1) (by omega) (by omega)
              ·
                exact absurd rfl hq15
            ·
              have hvl := vil_le E hSp hv
              refine z_Le (L' := [(5, .int (nI p_v)), (0, .ref (a 1)), (1, .int (nI (fs lk so D))), (2, .int (nI s_v)), (3, .int (nI m_v)), (4, .int (nI d_v))]) rfl ?_
              refine z_iload X dX0_smileDay_48 0 rfl ?_
              refine z_bipush (v := (-9)) X dX0_smileDay_50 (by decide) ?_
              refine z_icmp_eq (tgt := 73) X dX0_smileDay_52 (by decide) (fun hq18 => ?_) (fun hq18 => ?_)
              ·
                exact absurd hq18 (nI_nm (k := 8) (by omega) (by decide +kernel))
              ·
                refine z_iload_n X dX0_smileDay_55 rfl 3 rfl ?_
                refine z_bipush (v := (-9)) X dX0_smileDay_56 (by decide) ?_
                refine z_icmp_eq (tgt := 67) X dX0_smileDay_58 (by decide) (fun hq19 => ?_) (fun hq19 => ?_)
                ·
                  exact absurd hq19 (nI_nm (k := 8) (by omega) (by decide +kernel))
                ·
                  refine z_iload X dX0_smileDay_61 0 rfl ?_
                  refine z_iload_n X dX0_smileDay_63 rfl 4 rfl ?_
                  refine z_icmp_geN (tgt := 73) X dX0_smileDay_64 (by decide) (by omega) (by omega) (fun hq20 => ?_) (fun hq20 => ?_)
                  ·
                    have hnl : ¬ p_v < m_v := by omega
                    refine z_iinc (v := nI (d_v + 1)) (L' := [(4, .int (nI (d_v + 1))), (5, .int (nI p_v)), (0, .ref (a 1)), (1, .int (nI (fs lk so D))), (2, .int (nI s_v)), (3, .int (nI m_v))]) X dX0_smileDay_73 5 rfl (nI_inc d_v 1) (by decide) rfl ?_
                    refine z_goto (tgt := 13) X dX0_smileDay_76 (by decide) ?_
                    refine z_ls (L' := [(0, .ref (a 1)), (1, .int (nI (fs lk so D))), (2, .int (nI s_v)), (3, .int (nI m_v)), (4, .int (nI (d_v + 1)))]) [2, 3, 4, 5, 0] rfl ?_
                    have e21 : (nI s_v) = (obI (smF D E kd st sp nd (fs lk so D) (d_v + 1))) := by first | rfl | simp [smF, obI, olI, hq2, hbv, hq14, hz, hv, hq18, hq19, hq20, hnl]
                    have e22 : (nI m_v) = (olI (smF D E kd st sp nd (fs lk so D) (d_v + 1))) := by first | rfl | simp [smF, obI, olI, hq2, hbv, hq14, hz, hv, hq18, hq19, hq20, hnl]
                    refine z_Le (L' := [(0, .ref (a 1)), (1, .int (nI (fs lk so D))), (2, .int (obI (smF D E kd st sp nd (fs lk so D) (d_v + 1)))), (3, .int (olI (smF D E kd st sp nd (fs lk so D) (d_v + 1)))), (4, .int (nI (d_v + 1)))]) (by rw [← e21, ← e22]) ?_
                    exact ih1 (d_v + 1) (by omega) (by omega)
                  ·
                    refine z_iload X dX0_smileDay_67 5 rfl ?_
                    refine z_istore_n (L' := [(2, .int (nI d_v)), (5, .int (nI p_v)), (0, .ref (a 1)), (1, .int (nI (fs lk so D))), (3, .int (nI m_v)), (4, .int (nI d_v))]) X dX0_smileDay_69 rfl (by decide) rfl ?_
                    refine z_iload X dX0_smileDay_70 1 rfl ?_
                    refine z_istore_n (L' := [(3, .int (nI p_v)), (2, .int (nI d_v)), (5, .int (nI p_v)), (0, .ref (a 1)), (1, .int (nI (fs lk so D))), (4, .int (nI d_v))]) X dX0_smileDay_72 rfl (by decide) rfl ?_
                    refine z_iinc (v := nI (d_v + 1)) (L' := [(4, .int (nI (d_v + 1))), (3, .int (nI p_v)), (2, .int (nI d_v)), (5, .int (nI p_v)), (0, .ref (a 1)), (1, .int (nI (fs lk so D)))]) X dX0_smileDay_73 5 rfl (nI_inc d_v 1) (by decide) rfl ?_
                    refine z_goto (tgt := 13) X dX0_smileDay_76 (by decide) ?_
                    refine z_ls (L' := [(0, .ref (a 1)), (1, .int (nI (fs lk so D))), (2, .int (nI d_v)), (3, .int (nI p_v)), (4, .int (nI (d_v + 1)))]) [4, 5, 2, 1, 0] rfl ?_
                    have e23 : (nI d_v) = (obI (smF D E kd st sp nd (fs lk so D) (d_v + 1))) := by first | rfl | simp [smF, obI, olI, hq2, hbv, hq14, hz, hv, hq18, hq19, hq20]
                    have e24 : (nI p_v) = (olI (smF D E kd st sp nd (fs lk so D) (d_v + 1))) := by first | rfl | simp [smF, obI, olI, hq2, hbv, hq14, hz, hv, hq18, hq19, hq20]
                    refine z_Le (L' := [(0, .ref (a 1)), (1, .int (nI (fs lk so D))), (2, .int (obI (smF D E kd st sp nd (fs lk so D) (d_v + 1)))), (3, .int (olI (smF D E kd st sp nd (fs lk so D) (d_v + 1)))), (4, .int (nI (d_v + 1)))]) (by rw [← e23, ← e24]) ?_
                    exact ih1 (d_v + 1) (by omega) (by omega)
          ·
            have hz := zbt_f hq14
            refine z_bipush (v := (-9)) X dX0_smileDay_31 (by decide) ?_
            refine z_goto (tgt := 46) X dX0_smileDay_33 (by decide) ?_
            refine z_istore (L' := [(5, .int (-9)), (0, .ref (a 1)), (1, .int (nI (fs lk so D))), (2, .int (nI s_v)), (3, .int (nI m_v)), (4, .int (nI d_v))]) X dX0_smileDay_46 (by decide) rfl ?_
            refine z_iload X dX0_smileDay_48 0 rfl ?_
            refine z_bipush (v := (-9)) X dX0_smileDay_50 (by decide) ?_
            refine z_icmp_eq (tgt := 73) X dX0_smileDay_52 (by decide) (fun hq25 => ?_) (fun hq25 => ?_)
            ·
              refine z_iinc (v := nI (d_v + 1)) (L' := [(4, .int (nI (d_v + 1))), (5, .int (-9)), (0, .ref (a 1)), (1, .int (nI (fs lk so D))), (2, .int (nI s_v)), (3, .int (nI m_v))]) X dX0_smileDay_73 5 rfl (nI_inc d_v 1) (by decide) rfl ?_
              refine z_goto (tgt := 13) X dX0_smileDay_76 (by decide) ?_
              refine z_ls (L' := [(0, .ref (a 1)), (1, .int (nI (fs lk so D))), (2, .int (nI s_v)), (3, .int (nI m_v)), (4, .int (nI (d_v + 1)))]) [2, 3, 4, 5, 0] rfl ?_
              have e26 : (nI s_v) = (obI (smF D E kd st sp nd (fs lk so D) (d_v + 1))) := by first | rfl | simp [smF, obI, olI, hq2, hbv, hq14, hz, hq25]
              have e27 : (nI m_v) = (olI (smF D E kd st sp nd (fs lk so D) (d_v + 1))) := by first | rfl | simp [smF, obI, olI, hq2, hbv, hq14, hz, hq25]
              refine z_Le (L' := [(0, .ref (a 1)), (1, .int (nI (fs lk so D))), (2, .int (obI (smF D E kd st sp nd (fs lk so D) (d_v + 1)))), (3, .int (olI (smF D E kd st sp nd (fs lk so D) (d_v + 1)))), (4, .int (nI (d_v + 1)))]) (by rw [← e26, ← e27]) ?_
              exact ih1 (d_v + 1) (by omega) (by omega)
            ·
              exact absurd rfl hq25
  refine z_ls (L' := [(0, .ref (a 1)), (1, .int (nI (fs lk so D))), (2, .int (-9)), (3, .int (nI 0)), (4, .int (nI 0))]) [4, 3, 2, 1, 0] rfl ?_
  have e28 : (-9) = (obI (smF D E kd st sp nd (fs lk so D) 0)) := by first | rfl | simp [smF, obI, olI, ]
  have e29 : (nI 0) = (olI (smF D E kd st sp nd (fs lk so D) 0)) := by first | rfl | simp [smF, obI, olI, ]
  refine z_Le (L' := [(0, .ref (a 1)), (1, .int (nI (fs lk so D))), (2, .int (obI (smF D E kd st sp nd (fs lk so D) 0))), (3, .int (olI (smF D E kd st sp nd (fs lk so D) 0))), (4, .int (nI 0))]) (by rw [← e28, ← e29]) ?_
  exact loopv1 (D + 1) 0 (by omega) (by omega)
