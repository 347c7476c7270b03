abbrev rX3_isDigit : Room := { frames := 0, cells := 0, slots := 0, locals := 0 }
set_option maxHeartbeats 4000000 in
set_option maxRecDepth 100000 in
theorem c_X3_isDigit (l : Launch) (g : zg) (c : Int32) (lo : Nat) (hi : Nat) (h1_ : lo ≤ 9) (h2_ : hi ≤ 9) : zM l g yX3_isDigit wsX3_isDigit rX3_isDigit [.int c, .int (nI lo), .int (nI hi)] [] (some (.int (bI (zdg c lo hi)))) [] := by
  refine z_met (own := RX3) (cc := cX3_isDigit) (maxL := 3) (ret := some .boolean) (by decide +kernel) rfl rfl (Nat.le_of_ble_eq_true rfl) ?_
  intro M X ZF
  refine z_Le (L' := [(0, .int c), (1, .int (nI lo)), (2, .int (nI hi))]) rfl ?_
  refine z_iload_n X dX3_isDigit_0 rfl 0 rfl ?_
  refine z_bipush (v := nI 48) X dX3_isDigit_1 (by decide) ?_
  refine z_iload_n X dX3_isDigit_3 rfl 1 rfl ?_
  refine z_iadd' (v := nI (48 + lo)) X dX3_isDigit_4 (nI_add _ _) ?_
  refine z_icmp_lt (tgt := 20) X dX3_isDigit_5 (by decide) (fun hq1 => ?_) (fun hq1 => ?_)
  ·
    refine z_iconst (v := nI 0) X dX3_isDigit_20 (by decide) ?_
    exact z_zret X ZF dX3_isDigit_21 (bI_nar _) (by simp [zdg, bI, nI_one, nI_0, hq1]) rfl
  ·
    refine z_iload_n X dX3_isDigit_8 rfl 0 rfl ?_
    refine z_bipush (v := nI 48) X dX3_isDigit_9 (by decide) ?_
    refine z_iload_n X dX3_isDigit_11 rfl 2 rfl ?_
    refine z_iadd' (v := nI (48 + hi)) X dX3_isDigit_12 (nI_add _ _) ?_
    refine z_icmp_gt (tgt := 20) X dX3_isDigit_13 (by decide) (fun hq2 => ?_) (fun hq2 => ?_)
    ·
      refine z_iconst (v := nI 0) X dX3_isDigit_20 (by decide) ?_
      exact z_zret X ZF dX3_isDigit_21 (bI_nar _) (by simp [zdg, bI, nI_one, nI_0, hq1, hq2]) rfl
    ·
      refine z_iconst (v := nI 1) X dX3_isDigit_16 (by decide) ?_
      refine z_goto (tgt := 21) X dX3_isDigit_17 (by decide) ?_
      exact z_zret X ZF dX3_isDigit_21 (bI_nar _) (by simp [zdg, bI, nI_one, nI_0, hq1, hq2]) rfl
abbrev rX3_kindByLetter : Room := { frames := 0, cells := 0, slots := 0, locals := 0 }
set_option maxHeartbeats 4000000 in
set_option maxRecDepth 100000 in
theorem c_X3_kindByLetter (l : Launch) (g : zg) (c : Int32) : zM l g yX3_kindByLetter wsX3_kindByLetter rX3_kindByLetter [.int c] [] (some (.int (kbl c))) [] := by
  refine z_met (own := RX3) (cc := cX3_kindByLetter) (maxL := 1) (ret := some .int) (by decide +kernel) rfl rfl (Nat.le_of_ble_eq_true rfl) ?_
  intro M X ZF
  refine z_Le (L' := [(0, .int c)]) rfl ?_
  refine z_iload_n X dX3_kindByLetter_0 rfl 0 rfl ?_
  by_cases hq1 : c = nI 101
  ·
    subst hq1
    refine z_lookup (off := 35) (tgt := 36) X dX3_kindByLetter_1 (by decide +kernel) (by decide +kernel) (by decide) ?_
    refine z_iconst (v := nI 0) X dX3_kindByLetter_36 (by decide) ?_
    exact z_iret X ZF dX3_kindByLetter_37 (by first | rfl | simp [kbl, ]) rfl
  ·
    by_cases hq2 : c = nI 108
    ·
      subst hq2
      refine z_lookup (off := 39) (tgt := 40) X dX3_kindByLetter_1 (by decide +kernel) (by decide +kernel) (by decide) ?_
      refine z_iconst (v := nI 2) X dX3_kindByLetter_40 (by decide) ?_
      exact z_iret X ZF dX3_kindByLetter_41 (by first | rfl | simp [kbl, hq1]) rfl
    ·
      by_cases hq3 : c = nI 115
      ·
        subst hq3
        refine z_lookup (off := 37) (tgt := 38) X dX3_kindByLetter_1 (by decide +kernel) (by decide +kernel) (by decide) ?_
        refine z_iconst (v := nI 1) X dX3_kindByLetter_38 (by decide) ?_
        exact z_iret X ZF dX3_kindByLetter_39 (by first | rfl | simp [kbl, hq1, hq2]) rfl
      ·
        refine z_lookup (off := 41) (tgt := 42) X dX3_kindByLetter_1 (by decide +kernel) (by show Op.lookupswitch.offset [(101, 35), (108, 39), (115, 37)] (41) _ = _; rw [lv_osw (k := nI 101) hq1 (by decide +kernel), lv_osw (k := nI 108) hq2 (by decide +kernel), lv_osw (k := nI 115) hq3 (by decide +kernel)]; rfl) (by decide) ?_
        refine z_bipush (v := (-9)) X dX3_kindByLetter_42 (by decide) ?_
        exact z_iret X ZF dX3_kindByLetter_44 (by first | rfl | simp [kbl, hq1, hq2, hq3]) rfl
abbrev rX3_stepAfterDay : Room := { frames := 1, cells := 0, slots := 0, locals := 22 }
set_option maxHeartbeats 4000000 in
set_option maxRecDepth 100000 in
theorem c_X3_stepAfterDay (l : Launch) (g : zg) (c : Int32) (dy : Nat) (h1_ : dy < 1000) : zM l g yX3_stepAfterDay wsX3_stepAfterDay rX3_stepAfterDay [.int c, .int (nI dy)] [] (some (.int (ostI (sto 4 c dy 0)))) [] := by
  refine z_met (own := RX3) (cc := cX3_stepAfterDay) (maxL := 2) (ret := some .int) (by decide +kernel) rfl rfl (Nat.le_of_ble_eq_true rfl) ?_
  intro M X ZF
  refine z_Le (L' := [(0, .int c), (1, .int (nI dy))]) rfl ?_
  refine z_iload_n X dX3_stepAfterDay_0 rfl 0 rfl ?_
  refine z_bipush (v := nI 59) X dX3_stepAfterDay_1 (by decide) ?_
  refine z_icmp_ne (tgt := 8) X dX3_stepAfterDay_3 (by decide) (fun hq1 => ?_) (fun hq1 => ?_)
  ·
    refine z_iload_n X dX3_stepAfterDay_8 rfl 0 rfl ?_
    refine z_iconst (v := nI 0) X dX3_stepAfterDay_9 (by decide) ?_
    refine z_bipush (v := nI 9) X dX3_stepAfterDay_10 (by decide) ?_
    refine z_callS0 X (c_X3_isDigit l g c 0 9 (by omega) (by omega)) gX3_stepAfterDay_X3_isDigit rfl ⟨rfl, rfl⟩ (by decide +kernel) ⟨Nat.le_of_ble_eq_true rfl, Nat.le_of_ble_eq_true rfl⟩ ZF.room (As := [.int c, .int (nI 0), .int (nI 9)]) (n := 3) rfl rfl (st1 := [.int (bI (zdg c 0 9))]) rfl (Nat.le_of_ble_eq_true rfl) dX3_stepAfterDay_12 ?_
    refine z_if_eqB (tgt := 28) X dX3_stepAfterDay_15 (by decide) (fun hq2 => ?_) (fun hq2 => ?_)
    ·
      refine z_iconst (v := (-1)) X dX3_stepAfterDay_28 (by decide) ?_
      exact z_iret X ZF dX3_stepAfterDay_29 (by first | (simp [sto, ostI, hq1, hq2]; done) | (simp [sto, ostI, hq1, hq2]; rw [if_neg (by omega)])) rfl
    ·
      refine z_iload_n X dX3_stepAfterDay_18 rfl 1 rfl ?_
      refine z_bipush (v := nI 6) X dX3_stepAfterDay_19 (by decide) ?_
      refine z_icmp_geN (tgt := 28) X dX3_stepAfterDay_21 (by decide) (by omega) (by omega) (fun hq3 => ?_) (fun hq3 => ?_)
      ·
        refine z_iconst (v := (-1)) X dX3_stepAfterDay_28 (by decide) ?_
        exact z_iret X ZF dX3_stepAfterDay_29 (by first | (simp [sto, ostI, hq1, hq2, hq3]; done) | (simp [sto, ostI, hq1, hq2, hq3]; rw [if_neg (by omega)])) rfl
      ·
        refine z_iconst (v := nI 4) X dX3_stepAfterDay_24 (by decide) ?_
        refine z_goto (tgt := 29) X dX3_stepAfterDay_25 (by decide) ?_
        exact z_iret X ZF dX3_stepAfterDay_29 (by first | (simp [sto, ostI, hq1, hq2, hq3]; done) | (simp [sto, ostI, hq1, hq2, hq3]; rw [if_neg (by omega)])) rfl
  ·
    refine z_iconst (v := nI 5) X dX3_stepAfterDay_6 (by decide) ?_
    exact z_iret X ZF dX3_stepAfterDay_7 (by first | (simp [sto, ostI, hq1]; done) | (simp [sto, ostI, hq1]; rw [if_neg (by omega)])) rfl
abbrev rX3_stepAfter : Room := { frames := 2, cells := 0, slots := 0, locals := 43 }
set_option maxHeartbeats 4000000 in
set_option maxRecDepth 100000 in
theorem c_X3_stepAfter (l : Launch) (g : zg) (s : Nat) (c : Int32) (dy : Nat) (ea : Nat) (h0_ : s ≤ 9) (h1_ : dy < 1000) (h2_ : ea < 1000) : zM l g yX3_stepAfter wsX3_stepAfter rX3_stepAfter [.int (nI s), .int c, .int (nI dy), .int (nI ea)] [] (some (.int (ostI (sto s c dy ea)))) [] := by
  refine z_met (own := RX3) (cc := cX3_stepAfter) (maxL := 4) (ret := some .int) (by decide +kernel) rfl rfl (Nat.le_of_ble_eq_true rfl) ?_
  intro M X ZF
  refine z_Le (L' := [(0, .int (nI s)), (1, .int c), (2, .int (nI dy)), (3, .int (nI ea))]) rfl ?_
  rcases (by omega : s = 0 ∨ s = 1 ∨ s = 2 ∨ s = 3 ∨ s = 4 ∨ s = 5 ∨ s = 6 ∨ s = 7 ∨ s = 8 ∨ s = 9) with rfl | rfl | rfl | rfl | rfl | rfl | rfl | rfl | rfl | rfl
  ·
    refine z_iload_n X dX3_stepAfter_0 rfl 0 rfl ?_
    refine z_tableIn (off := 55) (tgt := 56) X dX3_stepAfter_1 (by decide +kernel) (by decide +kernel) (by decide +kernel) (by decide) ?_
    refine z_iload_n X dX3_stepAfter_56 rfl 1 rfl ?_
    refine z_bipush (v := nI 100) X dX3_stepAfter_57 (by decide) ?_
    refine z_icmp_ne (tgt := 66) X dX3_stepAfter_59 (by decide) (fun hq1 => ?_) (fun hq1 => ?_)
    ·
      refine z_iconst (v := (-1)) X dX3_stepAfter_66 (by decide) ?_
      exact z_iret X ZF dX3_stepAfter_67 (by first | rfl | (simp [sto, ostI, hq1]; done) | (simp [sto, ostI, hq1]; rw [if_neg (by omega)])) rfl
    ·
      refine z_iconst (v := nI 1) X dX3_stepAfter_62 (by decide) ?_
      refine z_goto (tgt := 67) X dX3_stepAfter_63 (by decide) ?_
      exact z_iret X ZF dX3_stepAfter_67 (by first | rfl | (simp [sto, ostI, hq1]; done) | (simp [sto, ostI, hq1]; rw [if_neg (by omega)])) rfl
  ·
    refine z_iload_n X dX3_stepAfter_0 rfl 0 rfl ?_
    refine z_tableIn (off := 67) (tgt := 68) X dX3_stepAfter_1 (by decide +kernel) (by decide +kernel) (by decide +kernel) (by decide) ?_
    refine z_iload_n X dX3_stepAfter_68 rfl 1 rfl ?_
    refine z_iconst (v := nI 0) X dX3_stepAfter_69 (by decide) ?_
    refine z_bipush (v := nI 9) X dX3_stepAfter_70 (by decide) ?_
    refine z_callS0 X (c_X3_isDigit l g c 0 9 (by omega) (by omega)) gX3_stepAfter_X3_isDigit rfl ⟨rfl, rfl⟩ (by decide +kernel) ⟨Nat.le_of_ble_eq_true rfl, Nat.le_of_ble_eq_true rfl⟩ ZF.room (As := [.int c, .int (nI 0), .int (nI 9)]) (n := 3) rfl rfl (st1 := [.int (bI (zdg c 0 9))]) rfl (Nat.le_of_ble_eq_true rfl) dX3_stepAfter_72 ?_
    refine z_if_eqB (tgt := 82) X dX3_stepAfter_75 (by decide) (fun hq2 => ?_) (fun hq2 => ?_)
    ·
      refine z_iconst (v := (-1)) X dX3_stepAfter_82 (by decide) ?_
      exact z_iret X ZF dX3_stepAfter_83 (by first | rfl | (simp [sto, ostI, hq2]; done) | (simp [sto, ostI, hq2]; rw [if_neg (by omega)])) rfl
    ·
      refine z_iconst (v := nI 2) X dX3_stepAfter_78 (by decide) ?_
      refine z_goto (tgt := 83) X dX3_stepAfter_79 (by decide) ?_
      exact z_iret X ZF dX3_stepAfter_83 (by first | rfl | (simp [sto, ostI, hq2]; done) | (simp [sto, ostI, hq2]; rw [if_neg (by omega)])) rfl
  ·
    refine z_iload_n X dX3_stepAfter_0 rfl 0 rfl ?_
    refine z_tableIn (off := 83) (tgt := 84) X dX3_stepAfter_1 (by decide +kernel) (by decide +kernel) (by decide +kernel) (by decide) ?_
    refine z_iload_n X dX3_stepAfter_84 rfl 1 rfl ?_
    refine z_bipush (v := nI 44) X dX3_stepAfter_85 (by decide) ?_
    refine z_icmp_ne (tgt := 94) X dX3_stepAfter_87 (by decide) (fun hq3 => ?_) (fun hq3 => ?_)
    ·
      refine z_iconst (v := (-1)) X dX3_stepAfter_94 (by decide) ?_
      exact z_iret X ZF dX3_stepAfter_95 (by first | rfl | (simp [sto, ostI, hq3]; done) | (simp [sto, ostI, hq3]; rw [if_neg (by omega)])) rfl
    ·
      refine z_iconst (v := nI 3) X dX3_stepAfter_90 (by decide) ?_
      refine z_goto (tgt := 95) X dX3_stepAfter_91 (by decide) ?_
      exact z_iret X ZF dX3_stepAfter_95 (by first | rfl | (simp [sto, ostI, hq3]; done) | (simp [sto, ostI, hq3]; rw [if_neg (by omega)])) rfl
  ·
    refine z_iload_n X dX3_stepAfter_0 rfl 0 rfl ?_
    refine z_tableIn (off := 95) (tgt := 96) X dX3_stepAfter_1 (by decide +kernel) (by decide +kernel) (by decide +kernel) (by decide) ?_
    refine z_iload_n X dX3_stepAfter_96 rfl 1 rfl ?_
    refine z_iconst (v := nI 0) X dX3_stepAfter_97 (by decide) ?_
    refine z_bipush (v := nI 9) X dX3_stepAfter_98 (by decide) ?_
    refine z_callS0 X (c_X3_isDigit l g c 0 9 (by omega) (by omega)) gX3_stepAfter_X3_isDigit rfl ⟨rfl, rfl⟩ (by decide +kernel) ⟨Nat.le_of_ble_eq_true rfl, Nat.le_of_ble_eq_true rfl⟩ ZF.room (As := [.int c, .int (nI 0), .int (nI 9)]) (n := 3) rfl rfl (st1 := [.int (bI (zdg c 0 9))]) rfl (Nat.le_of_ble_eq_true rfl) dX3_stepAfter_100 ?_
    refine z_if_eqB (tgt := 110) X dX3_stepAfter_103 (by decide) (fun hq4 => ?_) (fun hq4 => ?_)
    ·
      refine z_iconst (v := (-1)) X dX3_stepAfter_110 (by decide) ?_
      exact z_iret X ZF dX3_stepAfter_111 (by first | rfl | (simp [sto, ostI, hq4]; done) | (simp [sto, ostI, hq4]; rw [if_neg (by omega)])) rfl
    ·
      refine z_iconst (v := nI 4) X dX3_stepAfter_106 (by decide) ?_
      refine z_goto (tgt := 111) X dX3_stepAfter_107 (by decide) ?_
      exact z_iret X ZF dX3_stepAfter_111 (by first | rfl | (simp [sto, ostI, hq4]; done) | (simp [sto, ostI, hq4]; rw [if_neg (by omega)])) rfl
  ·
    refine z_iload_n X dX3_stepAfter_0 rfl 0 rfl ?_
    refine z_tableIn (off := 111) (tgt := 112) X dX3_stepAfter_1 (by decide +kernel) (by decide +kernel) (by decide +kernel) (by decide) ?_
    refine z_iload_n X dX3_stepAfter_112 rfl 1 rfl ?_
    refine z_iload_n X dX3_stepAfter_113 rfl 2 rfl ?_
    refine z_callS0 X (c_X3_stepAfterDay l g c dy (by omega)) gX3_stepAfter_X3_stepAfterDay rfl ⟨rfl, rfl⟩ (by decide +kernel) ⟨Nat.le_of_ble_eq_true rfl, Nat.le_of_ble_eq_true rfl⟩ ZF.room (As := [.int c, .int (nI dy)]) (n := 2) rfl rfl (st1 := [.int (ostI (sto 4 c dy 0))]) rfl (Nat.le_of_ble_eq_true rfl) dX3_stepAfter_114 ?_
    exact z_iret X ZF dX3_stepAfter_117 (by first | rfl | (simp [sto, ostI, ]; done) | (simp [sto, ostI, ]; rw [if_neg (by omega)])) rfl
  ·
    refine z_iload_n X dX3_stepAfter_0 rfl 0 rfl ?_
    refine z_tableIn (off := 117) (tgt := 118) X dX3_stepAfter_1 (by decide +kernel) (by decide +kernel) (by decide +kernel) (by decide) ?_
    refine z_iload_n X dX3_stepAfter_118 rfl 1 rfl ?_
    refine z_callS0 X (c_X3_kindByLetter l g c) gX3_stepAfter_X3_kindByLetter rfl ⟨rfl, rfl⟩ (by decide +kernel) ⟨Nat.le_of_ble_eq_true rfl, Nat.le_of_ble_eq_true rfl⟩ ZF.room (As := [.int c]) (n := 1) rfl rfl (st1 := [.int (kbl c)]) rfl (Nat.le_of_ble_eq_true rfl) dX3_stepAfter_119 ?_
    refine z_bipush (v := (-9)) X dX3_stepAfter_122 (by decide) ?_
    refine z_icmp_ne (tgt := 131) X dX3_stepAfter_124 (by decide) (fun hq5 => ?_) (fun hq5 => ?_)
    ·
      refine z_bipush (v := nI 6) X dX3_stepAfter_131 (by decide) ?_
      exact z_iret X ZF dX3_stepAfter_133 (by first | rfl | (simp [sto, ostI, hq5]; done) | (simp [sto, ostI, hq5]; rw [if_neg (by omega)])) rfl
    ·
      refine z_iconst (v := (-1)) X dX3_stepAfter_127 (by decide) ?_
      refine z_goto (tgt := 133) X dX3_stepAfter_128 (by decide) ?_
      exact z_iret X ZF dX3_stepAfter_133 (by first | rfl | (simp [sto, ostI, hq5]; done) | (simp [sto, ostI, hq5]; rw [if_neg (by omega)])) rfl
  ·
    refine z_iload_n X dX3_stepAfter_0 rfl 0 rfl ?_
    refine z_tableIn (off := 133) (tgt := 134) X dX3_stepAfter_1 (by decide +kernel) (by decide +kernel) (by decide +kernel) (by decide) ?_
    refine z_iload_n X dX3_stepAfter_134 rfl 1 rfl ?_
    refine z_iconst (v := nI 0) X dX3_stepAfter_135 (by decide) ?_
    refine z_iconst (v := nI 5) X dX3_stepAfter_136 (by decide) ?_
    refine z_callS0 X (c_X3_isDigit l g c 0 5 (by omega) (by omega)) gX3_stepAfter_X3_isDigit rfl ⟨rfl, rfl⟩ (by decide +kernel) ⟨Nat.le_of_ble_eq_true rfl, Nat.le_of_ble_eq_true rfl⟩ ZF.room (As := [.int c, .int (nI 0), .int (nI 5)]) (n := 3) rfl rfl (st1 := [.int (bI (zdg c 0 5))]) rfl (Nat.le_of_ble_eq_true rfl) dX3_stepAfter_137 ?_
    refine z_if_eqB (tgt := 148) X dX3_stepAfter_140 (by decide) (fun hq6 => ?_) (fun hq6 => ?_)
    ·
      refine z_iconst (v := (-1)) X dX3_stepAfter_148 (by decide) ?_
      exact z_iret X ZF dX3_stepAfter_149 (by first | rfl | (simp [sto, ostI, hq6]; done) | (simp [sto, ostI, hq6]; rw [if_neg (by omega)])) rfl
    ·
      refine z_bipush (v := nI 7) X dX3_stepAfter_143 (by decide) ?_
      refine z_goto (tgt := 149) X dX3_stepAfter_145 (by decide) ?_
      exact z_iret X ZF dX3_stepAfter_149 (by first | rfl | (simp [sto, ostI, hq6]; done) | (simp [sto, ostI, hq6]; rw [if_neg (by omega)])) rfl
  ·
    refine z_iload_n X dX3_stepAfter_0 rfl 0 rfl ?_
    refine z_tableIn (off := 149) (tgt := 150) X dX3_stepAfter_1 (by decide +kernel) (by decide +kernel) (by decide +kernel) (by decide) ?_
    refine z_iload_n X dX3_stepAfter_150 rfl 1 rfl ?_
    refine z_iconst (v := nI 1) X dX3_stepAfter_151 (by decide) ?_
    refine z_bipush (v := nI 9) X dX3_stepAfter_152 (by decide) ?_
    refine z_callS0 X (c_X3_isDigit l g c 1 9 (by omega) (by omega)) gX3_stepAfter_X3_isDigit rfl ⟨rfl, rfl⟩ (by decide +kernel) ⟨Nat.le_of_ble_eq_true rfl, Nat.le_of_ble_eq_true rfl⟩ ZF.room (As := [.int c, .int (nI 1), .int (nI 9)]) (n := 3) rfl rfl (st1 := [.int (bI (zdg c 1 9))]) rfl (Nat.le_of_ble_eq_true rfl) dX3_stepAfter_154 ?_
    refine z_if_eqB (tgt := 165) X dX3_stepAfter_157 (by decide) (fun hq7 => ?_) (fun hq7 => ?_)
    ·
      refine z_iconst (v := (-1)) X dX3_stepAfter_165 (by decide) ?_
      exact z_iret X ZF dX3_stepAfter_166 (by first | rfl | (simp [sto, ostI, hq7]; done) | (simp [sto, ostI, hq7]; rw [if_neg (by omega)])) rfl
    ·
      refine z_bipush (v := nI 8) X dX3_stepAfter_160 (by decide) ?_
      refine z_goto (tgt := 166) X dX3_stepAfter_162 (by decide) ?_
      exact z_iret X ZF dX3_stepAfter_166 (by first | rfl | (simp [sto, ostI, hq7]; done) | (simp [sto, ostI, hq7]; rw [if_neg (by omega)])) rfl
  ·
    refine z_iload_n X dX3_stepAfter_0 rfl 0 rfl ?_
    refine z_tableIn (off := 166) (tgt := 167) X dX3_stepAfter_1 (by decide +kernel) (by decide +kernel) (by decide +kernel) (by decide) ?_
    refine z_iload_n X dX3_stepAfter_167 rfl 1 rfl ?_
    refine z_iconst (v := nI 0) X dX3_stepAfter_168 (by decide) ?_
    refine z_bipush (v := nI 6) X dX3_stepAfter_169 (by decide) ?_
    refine z_callS0 X (c_X3_isDigit l g c 0 6 (by omega) (by omega)) gX3_stepAfter_X3_isDigit rfl ⟨rfl, rfl⟩ (by decide +kernel) ⟨Nat.le_of_ble_eq_true rfl, Nat.le_of_ble_eq_true rfl⟩ ZF.room (As := [.int c, .int (nI 0), .int (nI 6)]) (n := 3) rfl rfl (st1 := [.int (bI (zdg c 0 6))]) rfl (Nat.le_of_ble_eq_true rfl) dX3_stepAfter_171 ?_
    refine z_if_eqB (tgt := 182) X dX3_stepAfter_174 (by decide) (fun hq8 => ?_) (fun hq8 => ?_)
    ·
      refine z_iconst (v := (-1)) X dX3_stepAfter_182 (by decide) ?_
      exact z_iret X ZF dX3_stepAfter_183 (by first | rfl | (simp [sto, ostI, hq8]; done) | (simp [sto, ostI, hq8]; rw [if_neg (by omega)])) rfl
    ·
      refine z_bipush (v := nI 9) X dX3_stepAfter_177 (by decide) ?_
      refine z_goto (tgt := 183) X dX3_stepAfter_179 (by decide) ?_
      exact z_iret X ZF dX3_stepAfter_183 (by first | rfl | (simp [sto, ostI, hq8]; done) | (simp [sto, ostI, hq8]; rw [if_neg (by omega)])) rfl
  ·
    refine z_iload_n X dX3_stepAfter_0 rfl 0 rfl ?_
    refine z_tableIn (off := 183) (tgt := 184) X dX3_stepAfter_1 (by decide +kernel) (by decide +kernel) (by decide +kernel) (by decide) ?_
    refine z_iload_n X dX3_stepAfter_184 rfl 1 rfl ?_
    refine z_bipush (v := nI 59) X dX3_stepAfter_185 (by decide) ?_
    refine z_icmp_ne (tgt := 199) X dX3_stepAfter_187 (by decide) (fun hq9 => ?_) (fun hq9 => ?_)
    ·
      refine z_iconst (v := (-1)) X dX3_stepAfter_199 (by decide) ?_
      exact z_iret X ZF dX3_stepAfter_200 (by first | rfl | (simp [sto, ostI, hq9]; done) | (simp [sto, ostI, hq9]; rw [if_neg (by omega)])) rfl
    ·
      refine z_iload_n X dX3_stepAfter_190 rfl 3 rfl ?_
      refine z_iconst (v := nI 4) X dX3_stepAfter_191 (by decide) ?_
      refine z_icmp_geN (tgt := 199) X dX3_stepAfter_192 (by decide) (by omega) (by omega) (fun hq10 => ?_) (fun hq10 => ?_)
      ·
        refine z_iconst (v := (-1)) X dX3_stepAfter_199 (by decide) ?_
        exact z_iret X ZF dX3_stepAfter_200 (by first | rfl | (simp [sto, ostI, hq9, hq10]; done) | (simp [sto, ostI, hq9, hq10]; rw [if_neg (by omega)])) rfl
      ·
        refine z_iconst (v := nI 5) X dX3_stepAfter_195 (by decide) ?_
        refine z_goto (tgt := 200) X dX3_stepAfter_196 (by decide) ?_
        exact z_iret X ZF dX3_stepAfter_200 (by first | rfl | (simp [sto, ostI, hq9, hq10]; done) | (simp [sto, ostI, hq9, hq10]; rw [if_neg (by omega)])) rfl
abbrev rX3_isDigitAt : Room := { frames := 2, cells := 0, slots := 0, locals := 42 }
set_option maxHeartbeats 4000000 in
set_option maxRecDepth 100000 in
theorem c_X3_isDigitAt (l : Launch) (g : zg) (p : Nat) (q : Nat) (ln : Int32) (le : Int32) (ce : Nat → Int32) (k : Nat) (hk : k < 60) : zM l g yX3_isDigitAt wsX3_isDigitAt rX3_isDigitAt [.ref p, .int (nI k)] (wS g p q ln le ce) (some (.int (bI (zdg (ce k) 0 9)))) (wS g p q ln le ce) := by
  refine z_met (own := RX3) (cc := cX3_isDigitAt) (maxL := 2) (ret := some .boolean) (by decide +kernel) rfl rfl (Nat.le_of_ble_eq_true rfl) ?_
  intro M X ZF
  refine z_Le (L' := [(0, .ref p), (1, .int (nI k))]) rfl ?_
  refine z_aload_n X dX3_isDigitAt_0 rfl 0 rfl ?_
  refine z_iload_n X dX3_isDigitAt_1 rfl 1 rfl ?_
  refine z_callV X (c_X2_numberAt l g p q ln le ce k (by omega)) gX3_isDigitAt_X2_numberAt rfl ⟨rfl, rfl⟩ (by decide +kernel) ⟨Nat.le_of_ble_eq_true rfl, Nat.le_of_ble_eq_true rfl⟩ ZF.room (ci := 2) rfl 0 rfl (isC := [0, 1]) (by decide) rfl rfl (ws' := (wS g p q ln le ce)) rfl (As := [.int (nI k)]) (n := 1) rfl rfl (st1 := [.int (ce k)]) rfl (Nat.le_of_ble_eq_true rfl) dX3_isDigitAt_2 ?_
  refine z_iconst (v := nI 0) X dX3_isDigitAt_5 (by decide) ?_
  refine z_bipush (v := nI 9) X dX3_isDigitAt_6 (by decide) ?_
  refine z_callS0 X (c_X3_isDigit l g (ce k) 0 9 (by omega) (by omega)) gX3_isDigitAt_X3_isDigit rfl ⟨rfl, rfl⟩ (by decide +kernel) ⟨Nat.le_of_ble_eq_true rfl, Nat.le_of_ble_eq_true rfl⟩ ZF.room (As := [.int (ce k), .int (nI 0), .int (nI 9)]) (n := 3) rfl rfl (st1 := [.int (bI (zdg (ce k) 0 9))]) rfl (Nat.le_of_ble_eq_true rfl) dX3_isDigitAt_8 ?_
  exact z_zret X ZF dX3_isDigitAt_11 (bI_nar _) rfl rfl
abbrev rX3_digitAt : Room := { frames := 2, cells := 0, slots := 0, locals := 42 }
set_option maxHeartbeats 4000000 in
set_option maxRecDepth 100000 in
theorem c_X3_digitAt (l : Launch) (g : zg) (p : Nat) (q : Nat) (ln : Int32) (le : Int32) (ce : Nat → Int32) (k : Nat) (hk : k < 60) : zM l g yX3_digitAt wsX3_digitAt rX3_digitAt [.ref p, .int (nI k)] (wS g p q ln le ce) (some (.int (ce k - nI 48))) (wS g p q ln le ce) := by
  refine z_met (own := RX3) (cc := cX3_digitAt) (maxL := 2) (ret := some .int) (by decide +kernel) rfl rfl (Nat.le_of_ble_eq_true rfl) ?_
  intro M X ZF
  refine z_Le (L' := [(0, .ref p), (1, .int (nI k))]) rfl ?_
  refine z_aload_n X dX3_digitAt_0 rfl 0 rfl ?_
  refine z_iload_n X dX3_digitAt_1 rfl 1 rfl ?_
  refine z_callV X (c_X2_numberAt l g p q ln le ce k (by omega)) gX3_digitAt_X2_numberAt rfl ⟨rfl, rfl⟩ (by decide +kernel) ⟨Nat.le_of_ble_eq_true rfl, Nat.le_of_ble_eq_true rfl⟩ ZF.room (ci := 2) rfl 0 rfl (isC := [0, 1]) (by decide) rfl rfl (ws' := (wS g p q ln le ce)) rfl (As := [.int (nI k)]) (n := 1) rfl rfl (st1 := [.int (ce k)]) rfl (Nat.le_of_ble_eq_true rfl) dX3_digitAt_2 ?_
  refine z_bipush (v := nI 48) X dX3_digitAt_5 (by decide) ?_
  refine z_isub X dX3_digitAt_7 ?_
  exact z_iret X ZF dX3_digitAt_8 rfl rfl
abbrev rX3_firstFault : Room := { frames := 3, cells := 0, slots := 0, locals := 66 }
set_option maxHeartbeats 4000000 in
set_option maxRecDepth 100000 in
theorem c_X3_firstFault (l : Launch) (g : zg) (p : Nat) (q : Nat) (ln : Int32) (le : Int32) (ce : Nat → Int32) (f_r : Nat) (n : Nat) (hfr : f_r + n ≤ 60) : zM l g yX3_firstFault wsX3_firstFault rX3_firstFault [.ref p, .int (nI f_r), .int (nI n)] (wS g p q ln le ce) (some (.int (frun ce f_r n 0 0 0 0))) (wS g p q ln le ce) := by
  refine z_met (own := RX3) (cc := cX3_firstFault) (maxL := 7) (ret := some .int) (by decide +kernel) rfl rfl (Nat.le_of_ble_eq_true rfl) ?_
  intro M X ZF
  refine z_Le (L' := [(0, .ref p), (1, .int (nI f_r)), (2, .int (nI n))]) rfl ?_
  refine z_iconst (v := nI 0) X dX3_firstFault_0 (by decide) ?_
  refine z_istore_n (L' := [(3, .int (nI 0)), (0, .ref p), (1, .int (nI f_r)), (2, .int (nI n))]) X dX3_firstFault_1 rfl (by decide) rfl ?_
  refine z_iconst (v := nI 0) X dX3_firstFault_2 (by decide) ?_
  refine z_istore (L' := [(4, .int (nI 0)), (3, .int (nI 0)), (0, .ref p), (1, .int (nI f_r)), (2, .int (nI n))]) X dX3_firstFault_3 (by decide) rfl ?_
  refine z_iconst (v := nI 0) X dX3_firstFault_5 (by decide) ?_
  refine z_istore (L' := [(5, .int (nI 0)), (4, .int (nI 0)), (3, .int (nI 0)), (0, .ref p), (1, .int (nI f_r)), (2, .int (nI n))]) X dX3_firstFault_6 (by decide) rfl ?_
  refine z_iconst (v := nI 0) X dX3_firstFault_8 (by decide) ?_
  refine z_istore (L' := [(6, .int (nI 0)), (5, .int (nI 0)), (4, .int (nI 0)), (3, .int (nI 0)), (0, .ref p), (1, .int (nI f_r)), (2, .int (nI n))]) X dX3_firstFault_9 (by decide) rfl ?_
  have loopv1 : ∀ (n1 p_v : Nat) (s_v : Nat) (dyv : Nat) (eav : Nat), p_v ≤ n → n + 1 ≤ p_v + n1 → (frun ce f_r n 0 0 0 0 = frun ce f_r (n - p_v) p_v s_v dyv eav) → (s_v ≤ 9) → (dyv ≤ p_v) → (eav ≤ p_v) → zG l g 7 M (wS g p q ln le ce) [(0, .ref p), (1, .int (nI f_r)), (2, .int (nI n)), (3, .int (nI s_v)), (4, .int (nI dyv)), (5, .int (nI eav)), (6, .int (nI p_v))] 11 [] := by
    intro n1
    induction n1 with
    | zero => intro p_v s_v dyv eav h1 h2 _ _ _ _; exact absurd h2 (by omega)
    | succ n1 ih1 =>
      intro p_v s_v dyv eav hi1 hn1 hrun hs1 hdy hea
      refine z_iload X dX3_firstFault_11 6 rfl ?_
      refine z_iload_n X dX3_firstFault_13 rfl 2 rfl ?_
      refine z_icmp_geN (tgt := 78) X dX3_firstFault_14 (by decide) (by omega) (by omega) (fun hq2 => ?_) (fun hq2 => ?_)
      ·
        refine z_iload_n X dX3_firstFault_78 rfl 3 rfl ?_
        refine z_bipush (v := nI 9) X dX3_firstFault_79 (by decide) ?_
        refine z_icmp_neN (tgt := 88) X dX3_firstFault_81 (by decide) (by omega) (by omega) (fun hq3 => ?_) (fun hq3 => ?_)
        ·
          refine z_iload_n X dX3_firstFault_88 rfl 2 rfl ?_
          exact z_iret X ZF dX3_firstFault_89 (by rw [hrun, show n - p_v = 0 by omega]; simp [frun, hq3]; try (congr 1; omega)) rfl
        ·
          refine z_iconst (v := (-1)) X dX3_firstFault_84 (by decide) ?_
          refine z_goto (tgt := 89) X dX3_firstFault_85 (by decide) ?_
          exact z_iret X ZF dX3_firstFault_89 (by rw [hrun, show n - p_v = 0 by omega]; simp [frun, hq3]; try (congr 1; omega)) rfl
      ·
        refine z_iload_n X dX3_firstFault_17 rfl 3 rfl ?_
        refine z_aload_n X dX3_firstFault_18 rfl 0 rfl ?_
        refine z_iload_n X dX3_firstFault_19 rfl 1 rfl ?_
        refine z_iload X dX3_firstFault_20 6 rfl ?_
        refine z_iadd' (v := nI (f_r + p_v)) X dX3_firstFault_22 (nI_add _ _) ?_
        refine z_callV X (c_X2_numberAt l g p q ln le ce (f_r + p_v) (by omega)) gX3_firstFault_X2_numberAt rfl ⟨rfl, rfl⟩ (by decide +kernel) ⟨Nat.le_of_ble_eq_true rfl, Nat.le_of_ble_eq_true rfl⟩ ZF.room (ci := 2) rfl 0 rfl (isC := [0, 1]) (by decide) rfl rfl (ws' := (wS g p q ln le ce)) rfl (As := [.int (nI (f_r + p_v))]) (n := 1) rfl rfl (st1 := [.int (ce (f_r + p_v)), .int (nI s_v)]) rfl (Nat.le_of_ble_eq_true rfl) dX3_firstFault_23 ?_
        refine z_iload X dX3_firstFault_26 4 rfl ?_
        refine z_iload X dX3_firstFault_28 5 rfl ?_
        refine z_callS0 X (c_X3_stepAfter l g s_v (ce (f_r + p_v)) dyv eav (by omega) (by omega) (by omega)) gX3_firstFault_X3_stepAfter rfl ⟨rfl, rfl⟩ (by decide +kernel) ⟨Nat.le_of_ble_eq_true rfl, Nat.le_of_ble_eq_true rfl⟩ ZF.room (As := [.int (nI s_v), .int (ce (f_r + p_v)), .int (nI dyv), .int (nI eav)]) (n := 4) rfl rfl (st1 := [.int (ostI (sto s_v (ce (f_r + p_v)) dyv eav))]) rfl (Nat.le_of_ble_eq_true rfl) dX3_firstFault_30 ?_
        rcases hst : sto s_v (ce (f_r + p_v)) dyv eav with _ | s_w
        ·
          refine z_st (st' := [.int (-1)]) rfl ?_
          refine z_istore_n (L' := [(3, .int (-1)), (0, .ref p), (1, .int (nI f_r)), (2, .int (nI n)), (4, .int (nI dyv)), (5, .int (nI eav)), (6, .int (nI p_v))]) X dX3_firstFault_33 rfl (by decide) rfl ?_
          refine z_iload_n X dX3_firstFault_34 rfl 0 rfl ?_
          refine z_iconst (v := (-1)) X dX3_firstFault_35 (by decide) ?_
          refine z_icmp_ne (tgt := 42) X dX3_firstFault_36 (by decide) (fun hq4 => ?_) (fun hq4 => ?_)
          ·
            exact absurd rfl hq4
          ·
            refine z_iload X dX3_firstFault_39 6 rfl ?_
            exact z_iret X ZF dX3_firstFault_41 (by rw [hrun, frun_bad (by omega) hst]) rfl
        ·
          have hsl := sto_le hst
          refine z_st (st' := [.int (nI s_w)]) rfl ?_
          refine z_istore_n (L' := [(3, .int (nI s_w)), (0, .ref p), (1, .int (nI f_r)), (2, .int (nI n)), (4, .int (nI dyv)), (5, .int (nI eav)), (6, .int (nI p_v))]) X dX3_firstFault_33 rfl (by decide) rfl ?_
          refine z_iload_n X dX3_firstFault_34 rfl 0 rfl ?_
          refine z_iconst (v := (-1)) X dX3_firstFault_35 (by decide) ?_
          refine z_icmp_ne (tgt := 42) X dX3_firstFault_36 (by decide) (fun hq5 => ?_) (fun hq5 => ?_)
          ·
            refine z_iload X dX3_firstFault_42 4 rfl ?_
            refine z_iload_n X dX3_firstFault_44 rfl 0 rfl ?_
            refine z_iconst (v := nI 4) X dX3_firstFault_45 (by decide) ?_
            refine z_icmp_neN (tgt := 53) X dX3_firstFault_46 (by decide) (by omega) (by omega) (fun hq6 => ?_) (fun hq6 => ?_)
            ·
              refine z_iconst (v := nI 0) X dX3_firstFault_53 (by decide) ?_
              refine z_iadd' (v := nI dyv) X dX3_firstFault_54 (nI_add _ _) ?_
              refine z_istore (L' := [(4, .int (nI dyv)), (3, .int (nI s_w)), (0, .ref p), (1, .int (nI f_r)), (2, .int (nI n)), (5, .int (nI eav)), (6, .int (nI p_v))]) X dX3_firstFault_55 (by decide) rfl ?_
              refine z_iload X dX3_firstFault_57 5 rfl ?_
              refine z_iload_n X dX3_firstFault_59 rfl 1 rfl ?_
              refine z_iconst (v := nI 5) X dX3_firstFault_60 (by decide) ?_
              refine z_icmp_neN (tgt := 68) X dX3_firstFault_61 (by decide) (by omega) (by omega) (fun hq7 => ?_) (fun hq7 => ?_)
              ·
                refine z_iconst (v := nI 0) X dX3_firstFault_68 (by decide) ?_
                refine z_iadd' (v := nI eav) X dX3_firstFault_69 (nI_add _ _) ?_
                refine z_istore (L' := [(5, .int (nI eav)), (4, .int (nI dyv)), (3, .int (nI s_w)), (0, .ref p), (1, .int (nI f_r)), (2, .int (nI n)), (6, .int (nI p_v))]) X dX3_firstFault_70 (by decide) rfl ?_
                refine z_iinc (v := nI (p_v + 1)) (L' := [(6, .int (nI (p_v + 1))), (5, .int (nI eav)), (4, .int (nI dyv)), (3, .int (nI s_w)), (0, .ref p), (1, .int (nI f_r)), (2, .int (nI n))]) X dX3_firstFault_72 6 rfl (nI_inc p_v 1) (by decide) rfl ?_
                refine z_goto (tgt := 11) X dX3_firstFault_75 (by decide) ?_
                refine z_ls (L' := [(0, .ref p), (1, .int (nI f_r)), (2, .int (nI n)), (3, .int (nI s_w)), (4, .int (nI dyv)), (5, .int (nI eav)), (6, .int (nI (p_v + 1)))]) [4, 5, 6, 3, 2, 1, 0] rfl ?_
                exact ih1 (p_v + 1) s_w dyv eav (by omega) (by omega) (by first | (rw [hrun, frun_step (by omega) hst]; simp [hq2, hq5, hq6, hq7]; done) | omega) (by omega) (by omega) (by omega)
              ·
                refine z_iconst (v := nI 1) X dX3_firstFault_64 (by decide) ?_
                refine z_goto (tgt := 69) X dX3_firstFault_65 (by decide) ?_
                refine z_iadd' (v := nI (eav + 1)) X dX3_firstFault_69 (nI_add _ _) ?_
                refine z_istore (L' := [(5, .int (nI (eav + 1))), (4, .int (nI dyv)), (3, .int (nI s_w)), (0, .ref p), (1, .int (nI f_r)), (2, .int (nI n)), (6, .int (nI p_v))]) X dX3_firstFault_70 (by decide) rfl ?_
                refine z_iinc (v := nI (p_v + 1)) (L' := [(6, .int (nI (p_v + 1))), (5, .int (nI (eav + 1))), (4, .int (nI dyv)), (3, .int (nI s_w)), (0, .ref p), (1, .int (nI f_r)), (2, .int (nI n))]) X dX3_firstFault_72 6 rfl (nI_inc p_v 1) (by decide) rfl ?_
                refine z_goto (tgt := 11) X dX3_firstFault_75 (by decide) ?_
                refine z_ls (L' := [(0, .ref p), (1, .int (nI f_r)), (2, .int (nI n)), (3, .int (nI s_w)), (4, .int (nI dyv)), (5, .int (nI (eav + 1))), (6, .int (nI (p_v + 1)))]) [4, 5, 6, 3, 2, 1, 0] rfl ?_
                exact ih1 (p_v + 1) s_w dyv (eav + 1) (by omega) (by omega) (by first | (rw [hrun, frun_step (by omega) hst]; simp [hq2, hq5, hq6, hq7]; done) | omega) (by omega) (by omega) (by omega)
            ·
              refine z_iconst (v := nI 1) X dX3_firstFault_49 (by decide) ?_
              refine z_goto (tgt := 54) X dX3_firstFault_50 (by decide) ?_
              refine z_iadd' (v := nI (dyv + 1)) X dX3_firstFault_54 (nI_add _ _) ?_
              refine z_istore (L' := [(4, .int (nI (dyv + 1))), (3, .int (nI s_w)), (0, .ref p), (1, .int (nI f_r)), (2, .int (nI n)), (5, .int (nI eav)), (6, .int (nI p_v))]) X dX3_firstFault_55 (by decide) rfl ?_
              refine z_iload X dX3_firstFault_57 5 rfl ?_
              refine z_iload_n X dX3_firstFault_59 rfl 1 rfl ?_
              refine z_iconst (v := nI 5) X dX3_firstFault_60 (by decide) ?_
              refine z_icmp_neN (tgt := 68) X dX3_firstFault_61 (by decide) (by omega) (by omega) (fun hq8 => ?_) (fun hq8 => ?_)
              ·
                refine z_iconst (v := nI 0) X dX3_firstFault_68 (by decide) ?_
                refine z_iadd' (v := nI eav) X dX3_firstFault_69 (nI_add _ _) ?_
                refine z_istore (L' := [(5, .int (nI eav)), (4, .int (nI (dyv + 1))), (3, .int (nI s_w)), (0, .ref p), (1, .int (nI f_r)), (2, .int (nI n)), (6, .int (nI p_v))]) X dX3_firstFault_70 (by decide) rfl ?_
                refine z_iinc (v := nI (p_v + 1)) (L' := [(6, .int (nI (p_v + 1))), (5, .int (nI eav)), (4, .int (nI (dyv + 1))), (3, .int (nI s_w)), (0, .ref p), (1, .int (nI f_r)), (2, .int (nI n))]) X dX3_firstFault_72 6 rfl (nI_inc p_v 1) (by decide) rfl ?_
                refine z_goto (tgt := 11) X dX3_firstFault_75 (by decide) ?_
                refine z_ls (L' := [(0, .ref p), (1, .int (nI f_r)), (2, .int (nI n)), (3, .int (nI s_w)), (4, .int (nI (dyv + 1))), (5, .int (nI eav)), (6, .int (nI (p_v + 1)))]) [4, 5, 6, 3, 2, 1, 0] rfl ?_
                exact ih1 (p_v + 1) s_w (dyv + 1) eav (by omega) (by omega) (by first | (rw [hrun, frun_step (by omega) hst]; simp [hq2, hq5, hq6, hq8]; done) | omega) (by omega) (by omega) (by omega)
              ·
                refine z_iconst (v := nI 1) X dX3_firstFault_64 (by decide) ?_
                refine z_goto (tgt := 69) X dX3_firstFault_65 (by decide) ?_
                refine z_iadd' (v := nI (eav + 1)) X dX3_firstFault_69 (nI_add _ _) ?_
                refine z_istore (L' := [(5, .int (nI (eav + 1))), (4, .int (nI (dyv + 1))), (3, .int (nI s_w)), (0, .ref p), (1, .int (nI f_r)), (2, .int (nI n)), (6, .int (nI p_v))]) X dX3_firstFault_70 (by decide) rfl ?_
                refine z_iinc (v := nI (p_v + 1)) (L' := [(6, .int (nI (p_v + 1))), (5, .int (nI (eav + 1))), (4, .int (nI (dyv + 1))), (3, .int (nI s_w)), (0, .ref p), (1, .int (nI f_r)), (2, .int (nI n))]) X dX3_firstFault_72 6 rfl (nI_inc p_v 1) (by decide) rfl ?_
                refine z_goto (tgt := 11) X dX3_firstFault_75 (by decide) ?_
                refine z_ls (L' := [(0, .ref p), (1, .int (nI f_r)), (2, .int (nI n)), (3, .int (nI s_w)), (4, .int (nI (dyv + 1))), (5, .int (nI (eav + 1))), (6, .int (nI (p_v + 1)))]) [4, 5, 6, 3, 2, 1, 0] rfl ?_
                exact ih1 (p_v + 1) s_w (dyv + 1) (eav + 1) (by omega) (by omega) (by first | (rw [hrun, frun_step (by omega) hst]; simp [hq2, hq5, hq6, hq8]; done) | omega) (by omega) (by omega) (by omega)
          ·
            exact absurd hq5 (nI_nm (k := 0) (by omega) (by decide +kernel))
  refine z_ls (L' := [(0, .ref p), (1, .int (nI f_r)), (2, .int (nI n)), (3, .int (nI 0)), (4, .int (nI 0)), (5, .int (nI 0)), (6, .int (nI 0))]) [4, 5, 6, 3, 2, 1, 0] rfl ?_
  exact loopv1 (n + 1) 0 0 0 0 (by omega) (by omega) rfl (by omega) (by omega) (by omega)
abbrev rX0_takeText : Room := { frames := 3, cells := 0, slots := 0, locals := 63 }
set_option maxHeartbeats 4000000 in
set_option maxRecDepth 100000 in
theorem c_X0_takeText (l : Launch) (g : zg) (a : Nat → Nat) (p : Nat) (q : Nat) (D : Nat) (E : Nat) (so : Int32) (lk : Nat → Int32) (kd : Nat → Int32) (st : Nat → Int32) (sp : Nat → Int32) (nd : Nat → Int32) (ln : Int32) (le : Int32) (ce : Nat → Int32) (f_r : Nat) (n_n : Nat) (hfr : f_r + n_n ≤ 60) (hn2 : 2 ≤ n_n) : zM l g yX0_takeText wsX0_takeText rX0_takeText [.ref (a 1), .ref p, .int (nI f_r), .int (nI n_n)] (wD g a D E so lk kd st sp nd ++ (wS g p q ln le ce)) none (wD g a (tdy ce f_r n_n) (tea n_n (tdy ce f_r n_n)) (ce (f_r + 1) - nI 48) (tlk ce f_r lk (tdy ce f_r n_n)) (tkd ce f_r (3 + tdy ce f_r n_n) kd (tea n_n (tdy ce f_r n_n))) (tst ce f_r (3 + tdy ce f_r n_n) 2 st (tea n_n (tdy ce f_r n_n))) (tst ce f_r (3 + tdy ce f_r n_n) 3 sp (tea n_n (tdy ce f_r n_n))) (tst ce f_r (3 + tdy ce f_r n_n) 4 nd (tea n_n (tdy ce f_r n_n))) ++ (wS g p q ln le ce)) := by
  refine z_met (own := RX0) (cc := cX0_takeText) (maxL := 5) (ret := none) (by decide +kernel) rfl rfl (Nat.le_of_ble_eq_true rfl) ?_
  intro M X ZF
  refine z_Le (L' := [(0, .ref (a 1)), (1, .ref p), (2, .int (nI f_r)), (3, .int (nI n_n))]) rfl ?_
  have i_RX0 : ∀ w ∈ wsX00, w ∈ wsX0_takeText := by decide +kernel
  have f_33 : Cond.fieldLink RX0 33 (TX0 7).1 (TX0 7).2.1 (TX0 7).2.2.1 ∈ wsX0_takeText := by decide +kernel
  have f_37 : Cond.fieldLink RX0 37 (TX0 5).1 (TX0 5).2.1 (TX0 5).2.2.1 ∈ wsX0_takeText := by decide +kernel
  have f_40 : Cond.fieldLink RX0 40 (TX0 6).1 (TX0 6).2.1 (TX0 6).2.2.1 ∈ wsX0_takeText := by decide +kernel
  have f_15 : Cond.fieldLink RX0 15 (TX0 1).1 (TX0 1).2.1 (TX0 1).2.2.1 ∈ wsX0_takeText := by decide +kernel
  have n_st_X4_changeIn : Cond.static yX4_changeIn ∈ wsX0_takeText := by decide +kernel
  have n_in_RX4 : Cond.initialized RX4 ∈ wsX0_takeText := by decide +kernel
  have n_nl_47 : (RX0, 47, yX4_changeIn, RX4) ∈ zNl := by decide +kernel
  have f_18 : Cond.fieldLink RX0 18 (TX0 2).1 (TX0 2).2.1 (TX0 2).2.2.1 ∈ wsX0_takeText := by decide +kernel
  have f_21 : Cond.fieldLink RX0 21 (TX0 3).1 (TX0 3).2.1 (TX0 3).2.2.1 ∈ wsX0_takeText := by decide +kernel
  have f_24 : Cond.fieldLink RX0 24 (TX0 4).1 (TX0 4).2.1 (TX0 4).2.2.1 ∈ wsX0_takeText := by decide +kernel
  have f_9 : Cond.fieldLink RX0 9 (TX0 0).1 (TX0 0).2.1 (TX0 0).2.2.1 ∈ wsX0_takeText := by decide +kernel
  refine z_aload_n X dX0_takeText_0 rfl 0 rfl ?_
  refine z_aload_n X dX0_takeText_1 rfl 1 rfl ?_
  refine z_iload_n X dX0_takeText_2 rfl 2 rfl ?_
  refine z_iconst (v := nI 1) X dX0_takeText_3 (by decide) ?_
  refine z_iadd' (v := nI (f_r + 1)) X dX0_takeText_4 (nI_add _ _) ?_
  refine z_callS X (c_X3_digitAt l g p q ln le ce (f_r + 1) (by omega)) gX0_takeText_X3_digitAt rfl ⟨rfl, rfl⟩ (by decide +kernel) ⟨Nat.le_of_ble_eq_true rfl, Nat.le_of_ble_eq_true rfl⟩ ZF.room (isC := [6, 7]) (by decide) rfl rfl (ws' := (wD g a D E so lk kd st sp nd ++ (wS g p q ln le ce))) rfl (As := [.ref p, .int (nI (f_r + 1))]) (n := 2) rfl rfl (st1 := [.int (ce (f_r + 1) - nI 48), .ref (a 1)]) rfl (Nat.le_of_ble_eq_true rfl) dX0_takeText_5 ?_
  refine z_put (ws' := (wD g a D E (ce (f_r + 1) - nI 48) lk kd st sp nd ++ (wS g p q ln le ce))) (N := 8) X i_RX0 (ci := 0) rfl tyX0 tyX0_ok nmX0 0 rfl 7 (by decide) f_33 rfl (ty := .int) (by decide +kernel) rfl rfl (Nat.le_of_ble_eq_true rfl) dX0_takeText_8 rfl ?_
  refine z_aload_n X dX0_takeText_11 rfl 0 rfl ?_
  refine z_iconst (v := nI 0) X dX0_takeText_12 (by decide) ?_
  refine z_put (ws' := (wD g a 0 E (ce (f_r + 1) - nI 48) lk kd st sp nd ++ (wS g p q ln le ce))) (N := 8) X i_RX0 (ci := 0) rfl tyX0 tyX0_ok nmX0 0 rfl 5 (by decide) f_37 rfl (ty := .int) (by decide +kernel) rfl rfl (Nat.le_of_ble_eq_true rfl) dX0_takeText_13 rfl ?_
  refine z_aload_n X dX0_takeText_16 rfl 0 rfl ?_
  refine z_iconst (v := nI 0) X dX0_takeText_17 (by decide) ?_
  refine z_put (ws' := (wD g a 0 0 (ce (f_r + 1) - nI 48) lk kd st sp nd ++ (wS g p q ln le ce))) (N := 8) X i_RX0 (ci := 0) rfl tyX0 tyX0_ok nmX0 0 rfl 6 (by decide) f_40 rfl (ty := .int) (by decide +kernel) rfl rfl (Nat.le_of_ble_eq_true rfl) dX0_takeText_18 rfl ?_
  refine z_iconst (v := nI 3) X dX0_takeText_21 (by decide) ?_
  refine z_istore (L' := [(4, .int (nI 3)), (0, .ref (a 1)), (1, .ref p), (2, .int (nI f_r)), (3, .int (nI n_n))]) X dX0_takeText_22 (by decide) rfl ?_
  have jn1 : ∀ (d_v : Nat), (tdy ce f_r n_n = d_v) → (d_v ≤ 6) → zG l g 5 M (wD g a d_v 0 (ce (f_r + 1) - nI 48) (tlk ce f_r lk d_v) kd st sp nd ++ (wS g p q ln le ce)) [(0, .ref (a 1)), (1, .ref p), (2, .int (nI f_r)), (3, .int (nI n_n)), (4, .int (nI (3 + d_v)))] 85 [] := by
    intro d_v hD1 hd6
    have loopv2 : ∀ (n2 e_v : Nat), e_v ≤ 4 → 4 + 1 ≤ e_v + n2 → (tea n_n d_v = tec n_n (3 + d_v) (4 - e_v) e_v) → zG l g 5 M (wD g a d_v e_v (ce (f_r + 1) - nI 48) (tlk ce f_r lk d_v) (tkd ce f_r (3 + d_v) kd e_v) (tst ce f_r (3 + d_v) 2 st e_v) (tst ce f_r (3 + d_v) 3 sp e_v) (tst ce f_r (3 + d_v) 4 nd e_v) ++ (wS g p q ln le ce)) [(0, .ref (a 1)), (1, .ref p), (2, .int (nI f_r)), (3, .int (nI n_n)), (4, .int (nI (3 + d_v + 5 * e_v)))] 85 [] := by
      intro n2
      induction n2 with
      | zero => intro e_v h1 h2 _; exact absurd h2 (by omega)
      | succ n2 ih2 =>
        intro e_v hi2 hn2 hee
        refine z_iload X dX0_takeText_85 4 rfl ?_
        refine z_iconst (v := nI 4) X dX0_takeText_87 (by decide) ?_
        refine z_iadd' (v := nI ((3 + d_v + 5 * e_v) + 4)) X dX0_takeText_88 (nI_add _ _) ?_
        refine z_iload_n X dX0_takeText_89 rfl 3 rfl ?_
        refine z_icmp_geN (tgt := 204) X dX0_takeText_90 (by decide) (by omega) (by omega) (fun hq3 => ?_) (fun hq3 => ?_)
        ·
          have e4 : (tdy ce f_r n_n) = d_v := by exact hD1
          have e5 : (tea n_n (tdy ce f_r n_n)) = e_v := by rw [hD1, hee]; exact (tec_end (by omega) : tec n_n (3 + d_v) (4 - e_v) e_v = e_v)
          have e6 : (tlk ce f_r lk (tdy ce f_r n_n)) = (tlk ce f_r lk d_v) := by rw [hD1]
          have e7 : (tkd ce f_r (3 + tdy ce f_r n_n) kd (tea n_n (tdy ce f_r n_n))) = (tkd ce f_r (3 + d_v) kd e_v) := by rw [hD1, hee, (tec_end (by omega) : tec n_n (3 + d_v) (4 - e_v) e_v = e_v)]
          have e8 : (tst ce f_r (3 + tdy ce f_r n_n) 2 st (tea n_n (tdy ce f_r n_n))) = (tst ce f_r (3 + d_v) 2 st e_v) := by rw [hD1, hee, (tec_end (by omega) : tec n_n (3 + d_v) (4 - e_v) e_v = e_v)]
          have e9 : (tst ce f_r (3 + tdy ce f_r n_n) 3 sp (tea n_n (tdy ce f_r n_n))) = (tst ce f_r (3 + d_v) 3 sp e_v) := by rw [hD1, hee, (tec_end (by omega) : tec n_n (3 + d_v) (4 - e_v) e_v = e_v)]
          have e10 : (tst ce f_r (3 + tdy ce f_r n_n) 4 nd (tea n_n (tdy ce f_r n_n))) = (tst ce f_r (3 + d_v) 4 nd e_v) := by rw [hD1, hee, (tec_end (by omega) : tec n_n (3 + d_v) (4 - e_v) e_v = e_v)]
          exact z_vret X ZF dX0_takeText_204 (by first | rw [e10, e9, e8, e7, e6, e5, e4] | (simp only [e10, e9, e8, e7, e6, e5, e4]))
        ·
          refine z_aload_n X dX0_takeText_93 rfl 0 rfl ?_
          refine z_get (v := .int (nI e_v)) (N := 8) X i_RX0 (ci := 0) rfl 0 rfl 6 (by decide) f_40 rfl dX0_takeText_94 ?_
          refine z_iconst (v := nI 4) X dX0_takeText_97 (by decide) ?_
          refine z_icmp_geN (tgt := 204) X dX0_takeText_98 (by decide) (by omega) (by omega) (fun hq11 => ?_) (fun hq11 => ?_)
          ·
            have e12 : (tdy ce f_r n_n) = d_v := by exact hD1
            have e13 : (tea n_n (tdy ce f_r n_n)) = e_v := by rw [hD1, hee]; exact (by rw [show e_v = 4 by omega]; rfl : tec n_n (3 + d_v) (4 - e_v) e_v = e_v)
            have e14 : (tlk ce f_r lk (tdy ce f_r n_n)) = (tlk ce f_r lk d_v) := by rw [hD1]
            have e15 : (tkd ce f_r (3 + tdy ce f_r n_n) kd (tea n_n (tdy ce f_r n_n))) = (tkd ce f_r (3 + d_v) kd e_v) := by rw [hD1, hee, (by rw [show e_v = 4 by omega]; rfl : tec n_n (3 + d_v) (4 - e_v) e_v = e_v)]
            have e16 : (tst ce f_r (3 + tdy ce f_r n_n) 2 st (tea n_n (tdy ce f_r n_n))) = (tst ce f_r (3 + d_v) 2 st e_v) := by rw [hD1, hee, (by rw [show e_v = 4 by omega]; rfl : tec n_n (3 + d_v) (4 - e_v) e_v = e_v)]
            have e17 : (tst ce f_r (3 + tdy ce f_r n_n) 3 sp (tea n_n (tdy ce f_r n_n))) = (tst ce f_r (3 + d_v) 3 sp e_v) := by rw [hD1, hee, (by rw [show e_v = 4 by omega]; rfl : tec n_n (3 + d_v) (4 - e_v) e_v = e_v)]
            have e18 : (tst ce f_r (3 + tdy ce f_r n_n) 4 nd (tea n_n (tdy ce f_r n_n))) = (tst ce f_r (3 + d_v) 4 nd e_v) := by rw [hD1, hee, (by rw [show e_v = 4 by omega]; rfl : tec n_n (3 + d_v) (4 - e_v) e_v = e_v)]
            exact z_vret X ZF dX0_takeText_204 (by first | rw [e18, e17, e16, e15, e14, e13, e12] | (simp only [e18, e17, e16, e15, e14, e13, e12]))
          ·
            refine z_aload_n X dX0_takeText_101 rfl 0 rfl ?_
            refine z_get (v := .ref (a 3)) (N := 8) X i_RX0 (ci := 0) rfl 0 rfl 1 (by decide) f_15 rfl dX0_takeText_102 ?_
            refine z_aload_n X dX0_takeText_105 rfl 0 rfl ?_
            refine z_get (v := .int (nI e_v)) (N := 8) X i_RX0 (ci := 0) rfl 0 rfl 6 (by decide) f_40 rfl dX0_takeText_106 ?_
            refine z_aload_n X dX0_takeText_109 rfl 1 rfl ?_
            refine z_iload_n X dX0_takeText_110 rfl 2 rfl ?_
            refine z_iload X dX0_takeText_111 4 rfl ?_
            refine z_iadd' (v := nI (f_r + (3 + d_v + 5 * e_v))) X dX0_takeText_113 (nI_add _ _) ?_
            refine z_iconst (v := nI 1) X dX0_takeText_114 (by decide) ?_
            refine z_iadd' (v := nI ((f_r + (3 + d_v + 5 * e_v)) + 1)) X dX0_takeText_115 (nI_add _ _) ?_
            refine z_callV X (c_X2_numberAt l g p q ln le ce ((f_r + (3 + d_v + 5 * e_v)) + 1) (by omega)) gX0_takeText_X2_numberAt rfl ⟨rfl, rfl⟩ (by decide +kernel) ⟨Nat.le_of_ble_eq_true rfl, Nat.le_of_ble_eq_true rfl⟩ ZF.room (ci := 2) rfl 6 rfl (isC := [6, 7]) (by decide) rfl rfl (ws' := (wD g a d_v e_v (ce (f_r + 1) - nI 48) (tlk ce f_r lk d_v) (tkd ce f_r (3 + d_v) kd e_v) (tst ce f_r (3 + d_v) 2 st e_v) (tst ce f_r (3 + d_v) 3 sp e_v) (tst ce f_r (3 + d_v) 4 nd e_v) ++ (wS g p q ln le ce))) rfl (As := [.int (nI ((f_r + (3 + d_v + 5 * e_v)) + 1))]) (n := 1) rfl rfl (st1 := [.int (ce ((f_r + (3 + d_v + 5 * e_v)) + 1)), .int (nI e_v), .ref (a 3)]) rfl (Nat.le_of_ble_eq_true rfl) dX0_takeText_116 ?_
            refine z_callS0 X (c_X3_kindByLetter l g (ce ((f_r + (3 + d_v + 5 * e_v)) + 1))) gX0_takeText_X3_kindByLetter rfl ⟨rfl, rfl⟩ (by decide +kernel) ⟨Nat.le_of_ble_eq_true rfl, Nat.le_of_ble_eq_true rfl⟩ ZF.room (As := [.int (ce ((f_r + (3 + d_v + 5 * e_v)) + 1))]) (n := 1) rfl rfl (st1 := [.int (kbl (ce ((f_r + (3 + d_v + 5 * e_v)) + 1))), .int (nI e_v), .ref (a 3)]) rfl (Nat.le_of_ble_eq_true rfl) dX0_takeText_119 ?_
            refine z_callN X (c_X4_changeIn l g (a 3) 4 (tkd ce f_r (3 + d_v) kd e_v) e_v (kbl (ce ((f_r + (3 + d_v + 5 * e_v)) + 1))) (by omega) (by omega)) gX0_takeText_X4_changeIn_n47 n_nl_47 n_in_RX4 n_st_X4_changeIn rfl ⟨rfl, rfl⟩ (by decide +kernel) ⟨Nat.le_of_ble_eq_true rfl, Nat.le_of_ble_eq_true rfl⟩ ZF.room (isC := [2]) (by decide) rfl rfl (ws' := (wD g a d_v e_v (ce (f_r + 1) - nI 48) (tlk ce f_r lk d_v) (upd (tkd ce f_r (3 + d_v) kd e_v) e_v (kbl (ce ((f_r + (3 + d_v + 5 * e_v)) + 1)))) (tst ce f_r (3 + d_v) 2 st e_v) (tst ce f_r (3 + d_v) 3 sp e_v) (tst ce f_r (3 + d_v) 4 nd e_v) ++ (wS g p q ln le ce))) rfl (As := [.ref (a 3), .int (nI e_v), .int (kbl (ce ((f_r + (3 + d_v + 5 * e_v)) + 1)))]) (n := 3) rfl rfl (st1 := []) rfl (Nat.le_of_ble_eq_true rfl) dX0_takeText_122 ?_
            refine z_aload_n X dX0_takeText_125 rfl 0 rfl ?_
            refine z_get (v := .ref (a 4)) (N := 8) X i_RX0 (ci := 0) rfl 0 rfl 2 (by decide) f_18 rfl dX0_takeText_126 ?_
            refine z_aload_n X dX0_takeText_129 rfl 0 rfl ?_
            refine z_get (v := .int (nI e_v)) (N := 8) X i_RX0 (ci := 0) rfl 0 rfl 6 (by decide) f_40 rfl dX0_takeText_130 ?_
            refine z_aload_n X dX0_takeText_133 rfl 1 rfl ?_
            refine z_iload_n X dX0_takeText_134 rfl 2 rfl ?_
            refine z_iload X dX0_takeText_135 4 rfl ?_
            refine z_iadd' (v := nI (f_r + (3 + d_v + 5 * e_v))) X dX0_takeText_137 (nI_add _ _) ?_
            refine z_iconst (v := nI 2) X dX0_takeText_138 (by decide) ?_
            refine z_iadd' (v := nI ((f_r + (3 + d_v + 5 * e_v)) + 2)) X dX0_takeText_139 (nI_add _ _) ?_
            refine z_callS X (c_X3_digitAt l g p q ln le ce ((f_r + (3 + d_v + 5 * e_v)) + 2) (by omega)) gX0_takeText_X3_digitAt rfl ⟨rfl, rfl⟩ (by decide +kernel) ⟨Nat.le_of_ble_eq_true rfl, Nat.le_of_ble_eq_true rfl⟩ ZF.room (isC := [6, 7]) (by decide) rfl rfl (ws' := (wD g a d_v e_v (ce (f_r + 1) - nI 48) (tlk ce f_r lk d_v) (upd (tkd ce f_r (3 + d_v) kd e_v) e_v (kbl (ce ((f_r + (3 + d_v + 5 * e_v)) + 1)))) (tst ce f_r (3 + d_v) 2 st e_v) (tst ce f_r (3 + d_v) 3 sp e_v) (tst ce f_r (3 + d_v) 4 nd e_v) ++ (wS g p q ln le ce))) rfl (As := [.ref p, .int (nI ((f_r + (3 + d_v + 5 * e_v)) + 2))]) (n := 2) rfl rfl (st1 := [.int (ce ((f_r + (3 + d_v + 5 * e_v)) + 2) - nI 48), .int (nI e_v), .ref (a 4)]) rfl (Nat.le_of_ble_eq_true rfl) dX0_takeText_140 ?_
            refine z_callN X (c_X4_changeIn l g (a 4) 4 (tst ce f_r (3 + d_v) 2 st e_v) e_v (ce ((f_r + (3 + d_v + 5 * e_v)) + 2) - nI 48) (by omega) (by omega)) gX0_takeText_X4_changeIn_n47 n_nl_47 n_in_RX4 n_st_X4_changeIn rfl ⟨rfl, rfl⟩ (by decide +kernel) ⟨Nat.le_of_ble_eq_true rfl, Nat.le_of_ble_eq_true rfl⟩ ZF.room (isC := [3]) (by decide) rfl rfl (ws' := (wD g a d_v e_v (ce (f_r + 1) - nI 48) (tlk ce f_r lk d_v) (upd (tkd ce f_r (3 + d_v) kd e_v) e_v (kbl (ce ((f_r + (3 + d_v + 5 * e_v)) + 1)))) (upd (tst ce f_r (3 + d_v) 2 st e_v) e_v (ce ((f_r + (3 + d_v + 5 * e_v)) + 2) - nI 48)) (tst ce f_r (3 + d_v) 3 sp e_v) (tst ce f_r (3 + d_v) 4 nd e_v) ++ (wS g p q ln le ce))) rfl (As := [.ref (a 4), .int (nI e_v), .int (ce ((f_r + (3 + d_v + 5 * e_v)) + 2) - nI 48)]) (n := 3) rfl rfl (st1 := []) rfl (Nat.le_of_ble_eq_true rfl) dX0_takeText_143 ?_
            refine z_aload_n X dX0_takeText_146 rfl 0 rfl ?_
            refine z_get (v := .ref (a 5)) (N := 8) X i_RX0 (ci := 0) rfl 0 rfl 3 (by decide) f_21 rfl dX0_takeText_147 ?_
            refine z_aload_n X dX0_takeText_150 rfl 0 rfl ?_
            refine z_get (v := .int (nI e_v)) (N := 8) X i_RX0 (ci := 0) rfl 0 rfl 6 (by decide) f_40 rfl dX0_takeText_151 ?_
            refine z_aload_n X dX0_takeText_154 rfl 1 rfl ?_
            refine z_iload_n X dX0_takeText_155 rfl 2 rfl ?_
            refine z_iload X dX0_takeText_156 4 rfl ?_
            refine z_iadd' (v := nI (f_r + (3 + d_v + 5 * e_v))) X dX0_takeText_158 (nI_add _ _) ?_
            refine z_iconst (v := nI 3) X dX0_takeText_159 (by decide) ?_
            refine z_iadd' (v := nI ((f_r + (3 + d_v + 5 * e_v)) + 3)) X dX0_takeText_160 (nI_add _ _) ?_
            refine z_callS X (c_X3_digitAt l g p q ln le ce ((f_r + (3 + d_v + 5 * e_v)) + 3) (by omega)) gX0_takeText_X3_digitAt rfl ⟨rfl, rfl⟩ (by decide +kernel) ⟨Nat.le_of_ble_eq_true rfl, Nat.le_of_ble_eq_true rfl⟩ ZF.room (isC := [6, 7]) (by decide) rfl rfl (ws' := (wD g a d_v e_v (ce (f_r + 1) - nI 48) (tlk ce f_r lk d_v) (upd (tkd ce f_r (3 + d_v) kd e_v) e_v (kbl (ce ((f_r + (3 + d_v + 5 * e_v)) + 1)))) (upd (tst ce f_r (3 + d_v) 2 st e_v) e_v (ce ((f_r + (3 + d_v + 5 * e_v)) + 2) - nI 48)) (tst ce f_r (3 + d_v) 3 sp e_v) (tst ce f_r (3 + d_v) 4 nd e_v) ++ (wS g p q ln le ce))) rfl (As := [.ref p, .int (nI ((f_r + (3 + d_v + 5 * e_v)) + 3))]) (n := 2) rfl rfl (st1 := [.int (ce ((f_r + (3 + d_v + 5 * e_v)) + 3) - nI 48), .int (nI e_v), .ref (a 5)]) rfl (Nat.le_of_ble_eq_true rfl) dX0_takeText_161 ?_
            refine z_callN X (c_X4_changeIn l g (a 5) 4 (tst ce f_r (3 + d_v) 3 sp e_v) e_v (ce ((f_r + (3 + d_v + 5 * e_v)) + 3) - nI 48) (by omega) (by omega)) gX0_takeText_X4_changeIn_n47 n_nl_47 n_in_RX4 n_st_X4_changeIn rfl ⟨rfl, rfl⟩ (by decide +kernel) ⟨Nat.le_of_ble_eq_true rfl, Nat.le_of_ble_eq_true rfl⟩ ZF.room (isC := [4]) (by decide) rfl rfl (ws' := (wD g a d_v e_v (ce (f_r + 1) - nI 48) (tlk ce f_r lk d_v) (upd (tkd ce f_r (3 + d_v) kd e_v) e_v (kbl (ce ((f_r + (3 + d_v + 5 * e_v)) + 1)))) (upd (tst ce f_r (3 + d_v) 2 st e_v) e_v (ce ((f_r + (3 + d_v + 5 * e_v)) + 2) - nI 48)) (upd (tst ce f_r (3 + d_v) 3 sp e_v) e_v (ce ((f_r + (3 + d_v + 5 * e_v)) + 3) - nI 48)) (tst ce f_r (3 + d_v) 4 nd e_v) ++ (wS g p q ln le ce))) rfl (As := [.ref (a 5), .int (nI e_v), .int (ce ((f_r + (3 + d_v + 5 * e_v)) + 3) - nI 48)]) (n := 3) rfl rfl (st1 := []) rfl (Nat.le_of_ble_eq_true rfl) dX0_takeText_164 ?_
            refine z_aload_n X dX0_takeText_167 rfl 0 rfl ?_
            refine z_get (v := .ref (a 6)) (N := 8) X i_RX0 (ci := 0) rfl 0 rfl 4 (by decide) f_24 rfl dX0_takeText_168 ?_
            refine z_aload_n X dX0_takeText_171 rfl 0 rfl ?_
            refine z_get (v := .int (nI e_v)) (N := 8) X i_RX0 (ci := 0) rfl 0 rfl 6 (by decide) f_40 rfl dX0_takeText_172 ?_
            refine z_aload_n X dX0_takeText_175 rfl 1 rfl ?_
            refine z_iload_n X dX0_takeText_176 rfl 2 rfl ?_
            refine z_iload X dX0_takeText_177 4 rfl ?_
            refine z_iadd' (v := nI (f_r + (3 + d_v + 5 * e_v))) X dX0_takeText_179 (nI_add _ _) ?_
            refine z_iconst (v := nI 4) X dX0_takeText_180 (by decide) ?_
            refine z_iadd' (v := nI ((f_r + (3 + d_v + 5 * e_v)) + 4)) X dX0_takeText_181 (nI_add _ _) ?_
            refine z_callS X (c_X3_digitAt l g p q ln le ce ((f_r + (3 + d_v + 5 * e_v)) + 4) (by omega)) gX0_takeText_X3_digitAt rfl ⟨rfl, rfl⟩ (by decide +kernel) ⟨Nat.le_of_ble_eq_true rfl, Nat.le_of_ble_eq_true rfl⟩ ZF.room (isC := [6, 7]) (by decide) rfl rfl (ws' := (wD g a d_v e_v (ce (f_r + 1) - nI 48) (tlk ce f_r lk d_v) (upd (tkd ce f_r (3 + d_v) kd e_v) e_v (kbl (ce ((f_r + (3 + d_v + 5 * e_v)) + 1)))) (upd (tst ce f_r (3 + d_v) 2 st e_v) e_v (ce ((f_r + (3 + d_v + 5 * e_v)) + 2) - nI 48)) (upd (tst ce f_r (3 + d_v) 3 sp e_v) e_v (ce ((f_r + (3 + d_v + 5 * e_v)) + 3) - nI 48)) (tst ce f_r (3 + d_v) 4 nd e_v) ++ (wS g p q ln le ce))) rfl (As := [.ref p, .int (nI ((f_r + (3 + d_v + 5 * e_v)) + 4))]) (n := 2) rfl rfl (st1 := [.int (ce ((f_r + (3 + d_v + 5 * e_v)) + 4) - nI 48), .int (nI e_v), .ref (a 6)]) rfl (Nat.le_of_ble_eq_true rfl) dX0_takeText_182 ?_
            refine z_callN X (c_X4_changeIn l g (a 6) 4 (tst ce f_r (3 + d_v) 4 nd e_v) e_v (ce ((f_r + (3 + d_v + 5 * e_v)) + 4) - nI 48) (by omega) (by omega)) gX0_takeText_X4_changeIn_n47 n_nl_47 n_in_RX4 n_st_X4_changeIn rfl ⟨rfl, rfl⟩ (by decide +kernel) ⟨Nat.le_of_ble_eq_true rfl, Nat.le_of_ble_eq_true rfl⟩ ZF.room (isC := [5]) (by decide) rfl rfl (ws' := (wD g a d_v e_v (ce (f_r + 1) - nI 48) (tlk ce f_r lk d_v) (upd (tkd ce f_r (3 + d_v) kd e_v) e_v (kbl (ce ((f_r + (3 + d_v + 5 * e_v)) + 1)))) (upd (tst ce f_r (3 + d_v) 2 st e_v) e_v (ce ((f_r + (3 + d_v + 5 * e_v)) + 2) - nI 48)) (upd (tst ce f_r (3 + d_v) 3 sp e_v) e_v (ce ((f_r + (3 + d_v + 5 * e_v)) + 3) - nI 48)) (upd (tst ce f_r (3 + d_v) 4 nd e_v) e_v (ce ((f_r + (3 + d_v + 5 * e_v)) + 4) - nI 48)) ++ (wS g p q ln le ce))) rfl (As := [.ref (a 6), .int (nI e_v), .int (ce ((f_r + (3 + d_v + 5 * e_v)) + 4) - nI 48)]) (n := 3) rfl rfl (st1 := []) rfl (Nat.le_of_ble_eq_true rfl) dX0_takeText_185 ?_
            refine z_aload_n X dX0_takeText_188 rfl 0 rfl ?_
            refine z_dup X dX0_takeText_189 rfl ?_
            refine z_get (v := .int (nI e_v)) (N := 8) X i_RX0 (ci := 0) rfl 0 rfl 6 (by decide) f_40 rfl dX0_takeText_190 ?_
            refine z_iconst (v := nI 1) X dX0_takeText_193 (by decide) ?_
            refine z_iadd' (v := nI (e_v + 1)) X dX0_takeText_194 (nI_add _ _) ?_
            refine z_put (ws' := (wD g a d_v (e_v + 1) (ce (f_r + 1) - nI 48) (tlk ce f_r lk d_v) (upd (tkd ce f_r (3 + d_v) kd e_v) e_v (kbl (ce ((f_r + (3 + d_v + 5 * e_v)) + 1)))) (upd (tst ce f_r (3 + d_v) 2 st e_v) e_v (ce ((f_r + (3 + d_v + 5 * e_v)) + 2) - nI 48)) (upd (tst ce f_r (3 + d_v) 3 sp e_v) e_v (ce ((f_r + (3 + d_v + 5 * e_v)) + 3) - nI 48)) (upd (tst ce f_r (3 + d_v) 4 nd e_v) e_v (ce ((f_r + (3 + d_v + 5 * e_v)) + 4) - nI 48)) ++ (wS g p q ln le ce))) (N := 8) X i_RX0 (ci := 0) rfl tyX0 tyX0_ok nmX0 0 rfl 6 (by decide) f_40 rfl (ty := .int) (by decide +kernel) rfl rfl (Nat.le_of_ble_eq_true rfl) dX0_takeText_195 rfl ?_
            refine z_iinc (v := nI (3 + d_v + 5 * e_v + 5)) (L' := [(4, .int (nI (3 + d_v + 5 * e_v + 5))), (0, .ref (a 1)), (1, .ref p), (2, .int (nI f_r)), (3, .int (nI n_n))]) X dX0_takeText_198 4 rfl (nI_inc (3 + d_v + 5 * e_v) 5) (by decide) rfl ?_
            refine z_goto (tgt := 85) X dX0_takeText_201 (by decide) ?_
            refine z_ls (L' := [(0, .ref (a 1)), (1, .ref p), (2, .int (nI f_r)), (3, .int (nI n_n)), (4, .int (nI (3 + d_v + 5 * e_v + 5)))]) [1, 2, 3, 4, 0] rfl ?_
            have e19 : (nI (3 + d_v + 5 * e_v + 5)) = (nI (3 + d_v + 5 * (e_v + 1))) := by first | rfl | exact congrArg nI (by omega)
            refine z_Le (L' := [(0, .ref (a 1)), (1, .ref p), (2, .int (nI f_r)), (3, .int (nI n_n)), (4, .int (nI (3 + d_v + 5 * (e_v + 1))))]) (by rw [← e19]) ?_
            have e20 : (e_v + 1) = (e_v + 1) := by first | rfl | exact congrArg nI (by omega)
            have e21 : (upd (tkd ce f_r (3 + d_v) kd e_v) e_v (kbl (ce ((f_r + (3 + d_v + 5 * e_v)) + 1)))) = (tkd ce f_r (3 + d_v) kd (e_v + 1)) := by first | rfl | exact congrArg nI (by omega)
            have e22 : (upd (tst ce f_r (3 + d_v) 2 st e_v) e_v (ce ((f_r + (3 + d_v + 5 * e_v)) + 2) - nI 48)) = (tst ce f_r (3 + d_v) 2 st (e_v + 1)) := by first | rfl | exact congrArg nI (by omega)
            have e23 : (upd (tst ce f_r (3 + d_v) 3 sp e_v) e_v (ce ((f_r + (3 + d_v + 5 * e_v)) + 3) - nI 48)) = (tst ce f_r (3 + d_v) 3 sp (e_v + 1)) := by first | rfl | exact congrArg nI (by omega)
            have e24 : (upd (tst ce f_r (3 + d_v) 4 nd e_v) e_v (ce ((f_r + (3 + d_v + 5 * e_v)) + 4) - nI 48)) = (tst ce f_r (3 + d_v) 4 nd (e_v + 1)) := by first | rfl | exact congrArg nI (by omega)
            refine z_ws (ws' := (wD g a d_v (e_v + 1) (ce (f_r + 1) - nI 48) (tlk ce f_r lk d_v) (tkd ce f_r (3 + d_v) kd (e_v + 1)) (tst ce f_r (3 + d_v) 2 st (e_v + 1)) (tst ce f_r (3 + d_v) 3 sp (e_v + 1)) (tst ce f_r (3 + d_v) 4 nd (e_v + 1)) ++ (wS g p q ln le ce))) (by rw [← e20, ← e21, ← e22, ← e23, ← e24]) ?_
            exact ih2 (e_v + 1) (by omega) (by omega) (by rw [hee]; exact tec_step (by omega) (by omega))
    have e25 : (nI (3 + d_v)) = (nI (3 + d_v + 5 * 0)) := by first | rfl | exact congrArg nI (by omega)
    refine z_Le (L' := [(0, .ref (a 1)), (1, .ref p), (2, .int (nI f_r)), (3, .int (nI n_n)), (4, .int (nI (3 + d_v + 5 * 0)))]) (by rw [← e25]) ?_
    have e26 : kd = (tkd ce f_r (3 + d_v) kd 0) := by first | rfl | exact congrArg nI (by omega)
    have e27 : st = (tst ce f_r (3 + d_v) 2 st 0) := by first | rfl | exact congrArg nI (by omega)
    have e28 : sp = (tst ce f_r (3 + d_v) 3 sp 0) := by first | rfl | exact congrArg nI (by omega)
    have e29 : nd = (tst ce f_r (3 + d_v) 4 nd 0) := by first | rfl | exact congrArg nI (by omega)
    refine z_ws (ws' := (wD g a d_v 0 (ce (f_r + 1) - nI 48) (tlk ce f_r lk d_v) (tkd ce f_r (3 + d_v) kd 0) (tst ce f_r (3 + d_v) 2 st 0) (tst ce f_r (3 + d_v) 3 sp 0) (tst ce f_r (3 + d_v) 4 nd 0) ++ (wS g p q ln le ce))) (by rw [← e26, ← e27, ← e28, ← e29]) ?_
    exact loopv2 (4 + 1) 0 (by omega) (by omega) rfl
  have loopv30 : ∀ (n30 d_w : Nat), d_w ≤ 6 → 6 + 1 ≤ d_w + n30 → (tdy ce f_r n_n = tdc ce f_r n_n (6 - d_w) d_w) → zG l g 5 M (wD g a d_w 0 (ce (f_r + 1) - nI 48) (tlk ce f_r lk d_w) kd st sp nd ++ (wS g p q ln le ce)) [(0, .ref (a 1)), (1, .ref p), (2, .int (nI f_r)), (3, .int (nI n_n)), (4, .int (nI (3 + d_w)))] 24 [] := by
    intro n30
    induction n30 with
    | zero => intro d_w h1 h2 _; exact absurd h2 (by omega)
    | succ n30 ih30 =>
      intro d_w hi30 hn30 hdd
      refine z_iload X dX0_takeText_24 4 rfl ?_
      refine z_iload_n X dX0_takeText_26 rfl 3 rfl ?_
      refine z_icmp_geN (tgt := 85) X dX0_takeText_27 (by decide) (by omega) (by omega) (fun hq31 => ?_) (fun hq31 => ?_)
      ·
        exact jn1 d_w (by rw [hdd]; exact tdc_end (fun q => absurd q.1 (by omega))) (by omega)
      ·
        refine z_aload_n X dX0_takeText_30 rfl 0 rfl ?_
        refine z_get (v := .int (nI d_w)) (N := 8) X i_RX0 (ci := 0) rfl 0 rfl 5 (by decide) f_37 rfl dX0_takeText_31 ?_
        refine z_bipush (v := nI 6) X dX0_takeText_34 (by decide) ?_
        refine z_icmp_geN (tgt := 85) X dX0_takeText_36 (by decide) (by omega) (by omega) (fun hq32 => ?_) (fun hq32 => ?_)
        ·
          exact jn1 d_w (by rw [hdd, show d_w = 6 by omega]; rfl) (by omega)
        ·
          refine z_aload_n X dX0_takeText_39 rfl 1 rfl ?_
          refine z_iload_n X dX0_takeText_40 rfl 2 rfl ?_
          refine z_iload X dX0_takeText_41 4 rfl ?_
          refine z_iadd' (v := nI (f_r + (3 + d_w))) X dX0_takeText_43 (nI_add _ _) ?_
          refine z_callS X (c_X3_isDigitAt l g p q ln le ce (f_r + (3 + d_w)) (by omega)) gX0_takeText_X3_isDigitAt rfl ⟨rfl, rfl⟩ (by decide +kernel) ⟨Nat.le_of_ble_eq_true rfl, Nat.le_of_ble_eq_true rfl⟩ ZF.room (isC := [6, 7]) (by decide) rfl rfl (ws' := (wD g a d_w 0 (ce (f_r + 1) - nI 48) (tlk ce f_r lk d_w) kd st sp nd ++ (wS g p q ln le ce))) rfl (As := [.ref p, .int (nI (f_r + (3 + d_w)))]) (n := 2) rfl rfl (st1 := [.int (bI (zdg (ce (f_r + (3 + d_w))) 0 9))]) rfl (Nat.le_of_ble_eq_true rfl) dX0_takeText_44 ?_
          refine z_if_eqB (tgt := 85) X dX0_takeText_47 (by decide) (fun hq33 => ?_) (fun hq33 => ?_)
          ·
            exact jn1 d_w (by rw [hdd]; exact tdc_end (fun q => by rw [hq33] at q; exact absurd q.2 (by decide))) (by omega)
          ·
            refine z_aload_n X dX0_takeText_50 rfl 0 rfl ?_
            refine z_get (v := .ref (a 2)) (N := 8) X i_RX0 (ci := 0) rfl 0 rfl 0 (by decide) f_9 rfl dX0_takeText_51 ?_
            refine z_aload_n X dX0_takeText_54 rfl 0 rfl ?_
            refine z_get (v := .int (nI d_w)) (N := 8) X i_RX0 (ci := 0) rfl 0 rfl 5 (by decide) f_37 rfl dX0_takeText_55 ?_
            refine z_aload_n X dX0_takeText_58 rfl 1 rfl ?_
            refine z_iload_n X dX0_takeText_59 rfl 2 rfl ?_
            refine z_iload X dX0_takeText_60 4 rfl ?_
            refine z_iadd' (v := nI (f_r + (3 + d_w))) X dX0_takeText_62 (nI_add _ _) ?_
            refine z_callS X (c_X3_digitAt l g p q ln le ce (f_r + (3 + d_w)) (by omega)) gX0_takeText_X3_digitAt rfl ⟨rfl, rfl⟩ (by decide +kernel) ⟨Nat.le_of_ble_eq_true rfl, Nat.le_of_ble_eq_true rfl⟩ ZF.room (isC := [6, 7]) (by decide) rfl rfl (ws' := (wD g a d_w 0 (ce (f_r + 1) - nI 48) (tlk ce f_r lk d_w) kd st sp nd ++ (wS g p q ln le ce))) rfl (As := [.ref p, .int (nI (f_r + (3 + d_w)))]) (n := 2) rfl rfl (st1 := [.int (ce (f_r + (3 + d_w)) - nI 48), .int (nI d_w), .ref (a 2)]) rfl (Nat.le_of_ble_eq_true rfl) dX0_takeText_63 ?_
            refine z_callN X (c_X4_changeIn l g (a 2) 6 (tlk ce f_r lk d_w) d_w (ce (f_r + (3 + d_w)) - nI 48) (by omega) (by omega)) gX0_takeText_X4_changeIn_n47 n_nl_47 n_in_RX4 n_st_X4_changeIn rfl ⟨rfl, rfl⟩ (by decide +kernel) ⟨Nat.le_of_ble_eq_true rfl, Nat.le_of_ble_eq_true rfl⟩ ZF.room (isC := [1]) (by decide) rfl rfl (ws' := (wD g a d_w 0 (ce (f_r + 1) - nI 48) (upd (tlk ce f_r lk d_w) d_w (ce (f_r + (3 + d_w)) - nI 48)) kd st sp nd ++ (wS g p q ln le ce))) rfl (As := [.ref (a 2), .int (nI d_w), .int (ce (f_r + (3 + d_w)) - nI 48)]) (n := 3) rfl rfl (st1 := []) rfl (Nat.le_of_ble_eq_true rfl) dX0_takeText_66 ?_
            refine z_aload_n X dX0_takeText_69 rfl 0 rfl ?_
            refine z_dup X dX0_takeText_70 rfl ?_
            refine z_get (v := .int (nI d_w)) (N := 8) X i_RX0 (ci := 0) rfl 0 rfl 5 (by decide) f_37 rfl dX0_takeText_71 ?_
            refine z_iconst (v := nI 1) X dX0_takeText_74 (by decide) ?_
            refine z_iadd' (v := nI (d_w + 1)) X dX0_takeText_75 (nI_add _ _) ?_
            refine z_put (ws' := (wD g a (d_w + 1) 0 (ce (f_r + 1) - nI 48) (upd (tlk ce f_r lk d_w) d_w (ce (f_r + (3 + d_w)) - nI 48)) kd st sp nd ++ (wS g p q ln le ce))) (N := 8) X i_RX0 (ci := 0) rfl tyX0 tyX0_ok nmX0 0 rfl 5 (by decide) f_37 rfl (ty := .int) (by decide +kernel) rfl rfl (Nat.le_of_ble_eq_true rfl) dX0_takeText_76 rfl ?_
            refine z_iinc (v := nI (3 + d_w + 1)) (L' := [(4, .int (nI (3 + d_w + 1))), (0, .ref (a 1)), (1, .ref p), (2, .int (nI f_r)), (3, .int (nI n_n))]) X dX0_takeText_79 4 rfl (nI_inc (3 + d_w) 1) (by decide) rfl ?_
            refine z_goto (tgt := 24) X dX0_takeText_82 (by decide) ?_
            refine z_ls (L' := [(0, .ref (a 1)), (1, .ref p), (2, .int (nI f_r)), (3, .int (nI n_n)), (4, .int (nI (3 + d_w + 1)))]) [1, 2, 3, 4, 0] rfl ?_
            have e34 : (nI (3 + d_w + 1)) = (nI (3 + (d_w + 1))) := by first | rfl | exact congrArg nI (by omega)
            refine z_Le (L' := [(0, .ref (a 1)), (1, .ref p), (2, .int (nI f_r)), (3, .int (nI n_n)), (4, .int (nI (3 + (d_w + 1))))]) (by rw [← e34]) ?_
            have e35 : (d_w + 1) = (d_w + 1) := by first | rfl | exact congrArg nI (by omega)
            have e36 : (upd (tlk ce f_r lk d_w) d_w (ce (f_r + (3 + d_w)) - nI 48)) = (tlk ce f_r lk (d_w + 1)) := by first | rfl | exact congrArg nI (by omega)
            refine z_ws (ws' := (wD g a (d_w + 1) 0 (ce (f_r + 1) - nI 48) (tlk ce f_r lk (d_w + 1)) kd st sp nd ++ (wS g p q ln le ce))) (by rw [← e35, ← e36]) ?_
            exact ih30 (d_w + 1) (by omega) (by omega) (by rw [hdd]; exact tdc_step (by omega) (by omega) hq33)
  refine z_ls (L' := [(0, .ref (a 1)), (1, .ref p), (2, .int (nI f_r)), (3, .int (nI n_n)), (4, .int (nI 3))]) [1, 2, 3, 4, 0] rfl ?_
  have e37 : (nI 3) = (nI (3 + 0)) := by first | rfl | exact congrArg nI (by omega)
  refine z_Le (L' := [(0, .ref (a 1)), (1, .ref p), (2, .int (nI f_r)), (3, .int (nI n_n)), (4, .int (nI (3 + 0)))]) (by rw [← e37]) ?_
  have e38 : lk = (tlk ce f_r lk 0) := by first | rfl | exact congrArg nI (by omega)
  refine z_ws (ws' := (wD g a 0 0 (ce (f_r + 1) - nI 48) (tlk ce f_r lk 0) kd st sp nd ++ (wS g p q ln le ce))) (by rw [← e38]) ?_
  exact loopv30 (6 + 1) 0 (by omega) (by omega) rfl
abbrev rX2_copyTo_two : Room := { frames := 1, cells := 0, slots := 0, locals := 22 }
set_option maxHeartbeats 4000000 in
set_option maxRecDepth 100000 in
theorem c_X2_copyTo_two (l : Launch) (g : zg) (p : Nat) (q : Nat) (p2 : Nat) (q2 : Nat) (ln : Int32) (le : Int32) (ce : Nat → Int32) (ln2 : Int32) (le2 : Int32) (ce2 : Nat → Int32) (i : Nat) (j : Nat) (n : Nat) (h1_ : i + n ≤ 60) (h2_ : j + n ≤ 60) (hl1 : hcl le (nI i) (nI n) = true) (hl2 : hcl le2 (nI j) (nI n) = true) : zM l g yX2_copyTo wsX2_copyTo rX2_copyTo_two [.ref p, .int (nI i), .ref p2, .int (nI j), .int (nI n)] (wS g p q ln le ce ++ (wS g p2 q2 ln2 le2 ce2)) none (wS g p q ln le ce ++ (wS g p2 q2 ln2 le2 (va_cpy ce ce2 i j n))) := by
  refine z_met (own := RX2) (cc := cX2_copyTo) (maxL := 5) (ret := none) (by decide +kernel) rfl rfl (Nat.le_of_ble_eq_true rfl) ?_
  intro M X ZF
  refine z_Le (L' := [(0, .ref p), (1, .int (nI i)), (2, .ref p2), (3, .int (nI j)), (4, .int (nI n))]) rfl ?_
  have i_RX2 : ∀ w ∈ wsX20, w ∈ wsX2_copyTo := by decide +kernel
  have f_9 : Cond.fieldLink RX2 9 (TX2 0).1 (TX2 0).2.1 (TX2 0).2.2.1 ∈ wsX2_copyTo := by decide +kernel
  have m_0 : Cond.methodLink RX2 48 arraycopyName ∈ wsX2_copyTo := by decide +kernel
  have m_1 : Cond.native arraycopyName ∈ wsX2_copyTo := by decide +kernel
  have m_2 : Cond.static arraycopyName ∈ wsX2_copyTo := by decide +kernel
  have m_3 : Cond.initialized "java/lang/System" ∈ wsX2_copyTo := by decide +kernel
  refine z_aload_n X dX2_copyTo_0 rfl 0 rfl ?_
  refine z_iload_n X dX2_copyTo_1 rfl 1 rfl ?_
  refine z_iload X dX2_copyTo_2 4 rfl ?_
  refine z_callV X (c_X2_hasCells l g p q ln le ce (nI i) (nI n)) gX2_copyTo_X2_hasCells rfl ⟨rfl, rfl⟩ (by decide +kernel) ⟨Nat.le_of_ble_eq_true rfl, Nat.le_of_ble_eq_true rfl⟩ ZF.room (ci := 2) rfl 0 rfl (isC := [0, 1]) (by decide) rfl rfl (ws' := (wS g p q ln le ce ++ (wS g p2 q2 ln2 le2 ce2))) rfl (As := [.int (nI i), .int (nI n)]) (n := 2) rfl rfl (st1 := [.int (bI (hcl le (nI i) (nI n)))]) rfl (Nat.le_of_ble_eq_true rfl) dX2_copyTo_4 ?_
  refine z_if_eqB (tgt := 35) X dX2_copyTo_7 (by decide) (fun hq1 => ?_) (fun hq1 => ?_)
  ·
    exact absurd (hl1.symm.trans hq1) (by decide)
  ·
    refine z_aload_n X dX2_copyTo_10 rfl 2 rfl ?_
    refine z_iload_n X dX2_copyTo_11 rfl 3 rfl ?_
    refine z_iload X dX2_copyTo_12 4 rfl ?_
    refine z_callV X (c_X2_hasCells l g p2 q2 ln2 le2 ce2 (nI j) (nI n)) gX2_copyTo_X2_hasCells rfl ⟨rfl, rfl⟩ (by decide +kernel) ⟨Nat.le_of_ble_eq_true rfl, Nat.le_of_ble_eq_true rfl⟩ ZF.room (ci := 2) rfl 2 rfl (isC := [2, 3]) (by decide) rfl rfl (ws' := (wS g p q ln le ce ++ (wS g p2 q2 ln2 le2 ce2))) rfl (As := [.int (nI j), .int (nI n)]) (n := 2) rfl rfl (st1 := [.int (bI (hcl le2 (nI j) (nI n)))]) rfl (Nat.le_of_ble_eq_true rfl) dX2_copyTo_14 ?_
    refine z_if_eqB (tgt := 35) X dX2_copyTo_17 (by decide) (fun hq2 => ?_) (fun hq2 => ?_)
    ·
      exact absurd (hl2.symm.trans hq2) (by decide)
    ·
      refine z_aload_n X dX2_copyTo_20 rfl 0 rfl ?_
      refine z_get (v := .ref q) (N := 3) X i_RX2 (ci := 2) rfl 0 rfl 0 (by decide) f_9 rfl dX2_copyTo_21 ?_
      refine z_iload_n X dX2_copyTo_24 rfl 1 rfl ?_
      refine z_aload_n X dX2_copyTo_25 rfl 2 rfl ?_
      refine z_get (v := .ref q2) (N := 3) X i_RX2 (ci := 2) rfl 2 rfl 0 (by decide) f_9 rfl dX2_copyTo_26 ?_
      refine z_iload_n X dX2_copyTo_29 rfl 3 rfl ?_
      refine z_iload X dX2_copyTo_30 4 rfl ?_
      refine z_copy (ws' := (wS g p q ln le ce ++ (wS g p2 q2 ln2 le2 (va_cpy ce ce2 i j n)))) X m_0 m_1 m_2 m_3 1 3 rfl rfl (by omega) (by omega) (by omega) (by omega) (Nat.le_of_ble_eq_true rfl) (Nat.le_of_ble_eq_true rfl) dX2_copyTo_32 rfl ?_
      exact z_vret X ZF dX2_copyTo_35 rfl
abbrev rX2_copyTo_one : Room := { frames := 1, cells := 0, slots := 0, locals := 22 }
set_option maxHeartbeats 4000000 in
set_option maxRecDepth 100000 in
theorem c_X2_copyTo_one (l : Launch) (g : zg) (p : Nat) (q : Nat) (ln : Int32) (le : Int32) (ce : Nat → Int32) (i : Nat) (j : Nat) (n : Nat) (h1_ : i + n ≤ 60) (h2_ : j + n ≤ 60) (hl1 : hcl le (nI i) (nI n) = true) (hl2 : hcl le (nI j) (nI n) = true) : zM l g yX2_copyTo wsX2_copyTo rX2_copyTo_one [.ref p, .int (nI i), .ref p, .int (nI j), .int (nI n)] (wS g p q ln le ce) none (wS g p q ln le (va_cpy ce ce i j n)) := by
  refine z_met (own := RX2) (cc := cX2_copyTo) (maxL := 5) (ret := none) (by decide +kernel) rfl rfl (Nat.le_of_ble_eq_true rfl) ?_
  intro M X ZF
  refine z_Le (L' := [(0, .ref p), (1, .int (nI i)), (2, .ref p), (3, .int (nI j)), (4, .int (nI n))]) rfl ?_
  have i_RX2 : ∀ w ∈ wsX20, w ∈ wsX2_copyTo := by decide +kernel
  have f_9 : Cond.fieldLink RX2 9 (TX2 0).1 (TX2 0).2.1 (TX2 0).2.2.1 ∈ wsX2_copyTo := by decide +kernel
  have m_0 : Cond.methodLink RX2 48 arraycopyName ∈ wsX2_copyTo := by decide +kernel
  have m_1 : Cond.native arraycopyName ∈ wsX2_copyTo := by decide +kernel
  have m_2 : Cond.static arraycopyName ∈ wsX2_copyTo := by decide +kernel
  have m_3 : Cond.initialized "java/lang/System" ∈ wsX2_copyTo := by decide +kernel
  refine z_aload_n X dX2_copyTo_0 rfl 0 rfl ?_
  refine z_iload_n X dX2_copyTo_1 rfl 1 rfl ?_
  refine z_iload X dX2_copyTo_2 4 rfl ?_
  refine z_callV X (c_X2_hasCells l g p q ln le ce (nI i) (nI n)) gX2_copyTo_X2_hasCells rfl ⟨rfl, rfl⟩ (by decide +kernel) ⟨Nat.le_of_ble_eq_true rfl, Nat.le_of_ble_eq_true rfl⟩ ZF.room (ci := 2) rfl 0 rfl (isC := [0, 1]) (by decide) rfl rfl (ws' := (wS g p q ln le ce)) rfl (As := [.int (nI i), .int (nI n)]) (n := 2) rfl rfl (st1 := [.int (bI (hcl le (nI i) (nI n)))]) rfl (Nat.le_of_ble_eq_true rfl) dX2_copyTo_4 ?_
  refine z_if_eqB (tgt := 35) X dX2_copyTo_7 (by decide) (fun hq1 => ?_) (fun hq1 => ?_)
  ·
    exact absurd (hl1.symm.trans hq1) (by decide)
  ·
    refine z_aload_n X dX2_copyTo_10 rfl 2 rfl ?_
    refine z_iload_n X dX2_copyTo_11 rfl 3 rfl ?_
    refine z_iload X dX2_copyTo_12 4 rfl ?_
    refine z_callV X (c_X2_hasCells l g p q ln le ce (nI j) (nI n)) gX2_copyTo_X2_hasCells rfl ⟨rfl, rfl⟩ (by decide +kernel) ⟨Nat.le_of_ble_eq_true rfl, Nat.le_of_ble_eq_true rfl⟩ ZF.room (ci := 2) rfl 0 rfl (isC := [0, 1]) (by decide) rfl rfl (ws' := (wS g p q ln le ce)) rfl (As := [.int (nI j), .int (nI n)]) (n := 2) rfl rfl (st1 := [.int (bI (hcl le (nI j) (nI n)))]) rfl (Nat.le_of_ble_eq_true rfl) dX2_copyTo_14 ?_
    refine z_if_eqB (tgt := 35) X dX2_copyTo_17 (by decide) (fun hq2 => ?_) (fun hq2 => ?_)
    ·
      exact absurd (hl2.symm.trans hq2) (by decide)
    ·
      refine z_aload_n X dX2_copyTo_20 rfl 0 rfl ?_
      refine z_get (v := .ref q) (N := 3) X i_RX2 (ci := 2) rfl 0 rfl 0 (by decide) f_9 rfl dX2_copyTo_21 ?_
      refine z_iload_n X dX2_copyTo_24 rfl 1 rfl ?_
      refine z_aload_n X dX2_copyTo_25 rfl 2 rfl ?_
      refine z_get (v := .ref q) (N := 3) X i_RX2 (ci := 2) rfl 0 rfl 0 (by decide) f_9 rfl dX2_copyTo_26 ?_
      refine z_iload_n X dX2_copyTo_29 rfl 3 rfl ?_
      refine z_iload X dX2_copyTo_30 4 rfl ?_
      refine z_copy (ws' := (wS g p q ln le (va_cpy ce ce i j n))) X m_0 m_1 m_2 m_3 1 1 rfl rfl (by omega) (by omega) (by omega) (by omega) (Nat.le_of_ble_eq_true rfl) (Nat.le_of_ble_eq_true rfl) dX2_copyTo_32 rfl ?_
      exact z_vret X ZF dX2_copyTo_35 rfl
