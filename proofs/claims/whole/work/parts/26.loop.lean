/-! the law's loop -/
theorem law_sub {Ln i : Nat} (hL : Ln ≤ 3072) (hi : i ≤ 4000) (h : ¬ nI Ln - nI 6 < nI i) : i + 6 ≤ Ln := by
  have h1 : ¬ (nI Ln - nI 6).toInt < (nI i).toInt := fun z => h ((fa_lt _ _).mpr z)
  have e1 : (nI Ln).toInt = (Ln : Int) := nI_toInt (by omega)
  have e2 : (nI 6).toInt = 6 := by decide +kernel
  have e3 : (nI i).toInt = (i : Int) := nI_toInt (by omega)
  rw [i32_sub_toInt (by rw [e1, e2]; omega) (by rw [e1, e2]; omega), e1, e2, e3] at h1
  omega
theorem law_and (x : Int32) : ∃ o, o < 32 ∧ x &&& nI 31 = nI o := by
  have e : x = nI x.toBitVec.toNat := nI_of_tn (Nat.mod_eq_of_lt x.toBitVec.isLt).symm
  refine ⟨x.toBitVec.toNat &&& 31, Nat.lt_of_le_of_lt Nat.and_le_right (by omega), ?_⟩
  conv => lhs; rw [e]
  exact fa_and _ _
theorem law_4 {x : Int32} (h : zin x 4 = true) : x = nI 0 ∨ x = nI 1 ∨ x = nI 2 ∨ x = nI 3 := by
  obtain ⟨j, hj, rfl⟩ := zin_t (by omega) h
  rcases (by omega : j = 0 ∨ j = 1 ∨ j = 2 ∨ j = 3) with rfl | rfl | rfl | rfl
  · exact Or.inl rfl
  · exact Or.inr (Or.inl rfl)
  · exact Or.inr (Or.inr (Or.inl rfl))
  · exact Or.inr (Or.inr (Or.inr rfl))
set_option maxHeartbeats 4000000 in
set_option maxRecDepth 100000 in
theorem law_head (l : Launch) (g : zg) {E_ : zE} {s_b Ln i_v : Nat} {xs : Nat → Int32} {a b : Nat → Nat} (X : zX g 4 E_ code RL wsL_law room_1 ret) (hX : va_X s_b Ln xs (zs E_) (zs E_).heap) (hbl : s_b < (zs E_).heap.size) (hbA : ¬ zA E_ s_b) (hLn : Ln ≤ 3072) (hiB : i_v ≤ 3072) (hroom : zk E_ ≤ room_1.cells ∧ zn E_ ≤ room_1.slots) (hEnd : ∀ (ws : va_W) (L : List (Nat × Value)), zG l g 4 E_ ws L 1132 []) (hNx : i_v + 6 ≤ Ln → LWI l g E_ s_b a b (i_v + 6)) : LWI l g E_ s_b a b i_v := by
  intro ft tr D E so lk kd st sp nd C rO rB rD rW sz sl ceF sc sm xa xb xc xd y1 y2 y3 y4 y5 hn hI
  refine z_iload_n X dL_law_18 rfl 0 rfl ?_
  refine z_aload_n X dL_law_19 rfl 1 rfl ?_
  refine z_slen X hX hbl hbA dL_law_20 ?_
  refine z_bipush (v := nI 6) X dL_law_21 (by decide) ?_
  refine z_isub X dL_law_23 ?_
  refine z_icmp_gt (tgt := 1132) X dL_law_24 (by decide) (fun _ => hEnd _ _) (fun h => ?_)
  have hi := law_sub hLn (by omega) h
  have hN := hNx hi
  refine z_aload_n X dL_law_27 rfl 1 rfl ?_
  refine z_iload_n X dL_law_28 rfl 0 rfl ?_
  refine z_sld X hX hbl hbA (by omega) (by omega) dL_law_29 ?_
  refine z_bipush (v := nI 31) X dL_law_30 (by decide) ?_
  refine z_iand X dL_law_32 ?_
  obtain ⟨o_, ho_, eo_⟩ := law_and (xs i_v)
  refine z_top eo_ ?_
  rcases (by omega : o_ = 0 ∨ o_ = 1 ∨ o_ = 2 ∨ o_ = 3 ∨ o_ = 4 ∨ o_ = 5 ∨ o_ = 6 ∨ o_ = 7 ∨ o_ = 8 ∨ o_ = 9 ∨ o_ = 10 ∨ o_ = 11 ∨ o_ = 12 ∨ o_ = 13 ∨ o_ = 14 ∨ o_ = 15 ∨ o_ = 16 ∨ o_ = 17 ∨ o_ = 18 ∨ o_ = 19 ∨ o_ = 20 ∨ o_ = 21 ∨ o_ = 22 ∨ o_ = 23 ∨ o_ = 24 ∨ o_ = 25 ∨ o_ = 26 ∨ o_ = 27 ∨ o_ = 28 ∨ o_ = 29 ∨ o_ = 30 ∨ o_ = 31) with rfl | rfl | rfl | rfl | rfl | rfl | rfl | rfl | rfl | rfl | rfl | rfl | rfl | rfl | rfl | rfl | rfl | rfl | rfl | rfl | rfl | rfl | rfl | rfl | rfl | rfl | rfl | rfl | rfl | rfl | rfl | rfl
  · refine z_tableIn (off := 135) (tgt := 168) X dL_law_33 (by decide +kernel) (by decide +kernel) (by decide +kernel) (by decide) ?_
    rcases bTF (zin (xs (i_v + 1)) 4) with h1 | h1
    · rcases law_4 h1 with h1 | h1 | h1 | h1
      · exact op_duchy_0 l g X hX hbl hbA hLn hi hroom hN h1 ft tr D E so lk kd st sp nd C rO rB rD rW sz sl ceF sc sm xa xb xc xd y1 y2 y3 y4 y5 hn hI
      · exact op_duchy_1 l g X hX hbl hbA hLn hi hroom hN h1 ft tr D E so lk kd st sp nd C rO rB rD rW sz sl ceF sc sm xa xb xc xd y1 y2 y3 y4 y5 hn hI
      · exact op_duchy_2 l g X hX hbl hbA hLn hi hroom hN h1 ft tr D E so lk kd st sp nd C rO rB rD rW sz sl ceF sc sm xa xb xc xd y1 y2 y3 y4 y5 hn hI
      · exact op_duchy_3 l g X hX hbl hbA hLn hi hroom hN h1 ft tr D E so lk kd st sp nd C rO rB rD rW sz sl ceF sc sm xa xb xc xd y1 y2 y3 y4 y5 hn hI
    · exact op_duchy_x l g X hX hbl hbA hLn hi hroom hN h1 ft tr D E so lk kd st sp nd C rO rB rD rW sz sl ceF sc sm xa xb xc xd y1 y2 y3 y4 y5 hn hI
  · refine z_tableIn (off := 188) (tgt := 221) X dL_law_33 (by decide +kernel) (by decide +kernel) (by decide +kernel) (by decide) ?_
    exact op_ofEater l g X hX hbl hbA hLn hi hroom hN  ft tr D E so lk kd st sp nd C rO rB rD rW sz sl ceF sc sm xa xb xc xd y1 y2 y3 y4 y5 hn hI
  · refine z_tableIn (off := 221) (tgt := 254) X dL_law_33 (by decide +kernel) (by decide +kernel) (by decide +kernel) (by decide) ?_
    exact op_look l g X hX hbl hbA hLn hi hroom hN  ft tr D E so lk kd st sp nd C rO rB rD rW sz sl ceF sc sm xa xb xc xd y1 y2 y3 y4 y5 hn hI
  · refine z_tableIn (off := 244) (tgt := 277) X dL_law_33 (by decide +kernel) (by decide +kernel) (by decide +kernel) (by decide) ?_
    exact op_pull l g X hX hbl hbA hLn hi hroom hN  ft tr D E so lk kd st sp nd C rO rB rD rW sz sl ceF sc sm xa xb xc xd y1 y2 y3 y4 y5 hn hI
  · refine z_tableIn (off := 277) (tgt := 310) X dL_law_33 (by decide +kernel) (by decide +kernel) (by decide +kernel) (by decide) ?_
    exact op_sour l g X hX hbl hbA hLn hi hroom hN  ft tr D E so lk kd st sp nd C rO rB rD rW sz sl ceF sc sm xa xb xc xd y1 y2 y3 y4 y5 hn hI
  · refine z_tableIn (off := 300) (tgt := 333) X dL_law_33 (by decide +kernel) (by decide +kernel) (by decide +kernel) (by decide) ?_
    exact op_crave l g X hX hbl hbA hLn hi hroom hN  ft tr D E so lk kd st sp nd C rO rB rD rW sz sl ceF sc sm xa xb xc xd y1 y2 y3 y4 y5 hn hI
  · refine z_tableIn (off := 333) (tgt := 366) X dL_law_33 (by decide +kernel) (by decide +kernel) (by decide +kernel) (by decide) ?_
    exact op_fasts l g X hX hbl hbA hLn hi hroom hN  ft tr D E so lk kd st sp nd C rO rB rD rW sz sl ceF sc sm xa xb xc xd y1 y2 y3 y4 y5 hn hI
  · refine z_tableIn (off := 346) (tgt := 379) X dL_law_33 (by decide +kernel) (by decide +kernel) (by decide +kernel) (by decide) ?_
    exact op_yellow l g X hX hbl hbA hLn hi hroom hN  ft tr D E so lk kd st sp nd C rO rB rD rW sz sl ceF sc sm xa xb xc xd y1 y2 y3 y4 y5 hn hI
  · refine z_tableIn (off := 379) (tgt := 412) X dL_law_33 (by decide +kernel) (by decide +kernel) (by decide +kernel) (by decide) ?_
    exact op_found l g X hX hbl hbA hLn hi hroom hN  ft tr D E so lk kd st sp nd C rO rB rD rW sz sl ceF sc sm xa xb xc xd y1 y2 y3 y4 y5 hn hI
  · refine z_tableIn (off := 422) (tgt := 455) X dL_law_33 (by decide +kernel) (by decide +kernel) (by decide +kernel) (by decide) ?_
    rcases bTF (zin (xs (i_v + 1)) 4) with h1 | h1
    · rcases law_4 h1 with h1 | h1 | h1 | h1
      · exact op_plan_0 l g X hX hbl hbA hLn hi hroom hN h1 ft tr D E so lk kd st sp nd C rO rB rD rW sz sl ceF sc sm xa xb xc xd y1 y2 y3 y4 y5 hn hI
      · exact op_plan_1 l g X hX hbl hbA hLn hi hroom hN h1 ft tr D E so lk kd st sp nd C rO rB rD rW sz sl ceF sc sm xa xb xc xd y1 y2 y3 y4 y5 hn hI
      · exact op_plan_2 l g X hX hbl hbA hLn hi hroom hN h1 ft tr D E so lk kd st sp nd C rO rB rD rW sz sl ceF sc sm xa xb xc xd y1 y2 y3 y4 y5 hn hI
      · exact op_plan_3 l g X hX hbl hbA hLn hi hroom hN h1 ft tr D E so lk kd st sp nd C rO rB rD rW sz sl ceF sc sm xa xb xc xd y1 y2 y3 y4 y5 hn hI
    · exact op_plan_x l g X hX hbl hbA hLn hi hroom hN h1 ft tr D E so lk kd st sp nd C rO rB rD rW sz sl ceF sc sm xa xb xc xd y1 y2 y3 y4 y5 hn hI
  · refine z_tableIn (off := 485) (tgt := 518) X dL_law_33 (by decide +kernel) (by decide +kernel) (by decide +kernel) (by decide) ?_
    exact op_best l g X hX hbl hbA hLn hi hroom hN  ft tr D E so lk kd st sp nd C rO rB rD rW sz sl ceF sc sm xa xb xc xd y1 y2 y3 y4 y5 hn hI
  · refine z_tableIn (off := 518) (tgt := 551) X dL_law_33 (by decide +kernel) (by decide +kernel) (by decide +kernel) (by decide) ?_
    exact op_village l g X hX hbl hbA hLn hi hroom hN  ft tr D E so lk kd st sp nd C rO rB rD rW sz sl ceF sc sm xa xb xc xd y1 y2 y3 y4 y5 hn hI
  · refine z_tableIn (off := 531) (tgt := 564) X dL_law_33 (by decide +kernel) (by decide +kernel) (by decide +kernel) (by decide) ?_
    exact op_smile l g X hX hbl hbA hLn hi hroom hN  ft tr D E so lk kd st sp nd C rO rB rD rW sz sl ceF sc sm xa xb xc xd y1 y2 y3 y4 y5 hn hI
  · refine z_tableIn (off := 554) (tgt := 587) X dL_law_33 (by decide +kernel) (by decide +kernel) (by decide +kernel) (by decide) ?_
    exact op_reading l g X hX hbl hbA hLn hi hroom hN  ft tr D E so lk kd st sp nd C rO rB rD rW sz sl ceF sc sm xa xb xc xd y1 y2 y3 y4 y5 hn hI
  · refine z_tableIn (off := 623) (tgt := 656) X dL_law_33 (by decide +kernel) (by decide +kernel) (by decide +kernel) (by decide) ?_
    exact op_back l g X hX hbl hbA hLn hi hroom hN  ft tr D E so lk kd st sp nd C rO rB rD rW sz sl ceF sc sm xa xb xc xd y1 y2 y3 y4 y5 hn hI
  · refine z_tableIn (off := 646) (tgt := 679) X dL_law_33 (by decide +kernel) (by decide +kernel) (by decide +kernel) (by decide) ?_
    exact op_stays l g X hX hbl hbA hLn hi hroom hN  ft tr D E so lk kd st sp nd C rO rB rD rW sz sl ceF sc sm xa xb xc xd y1 y2 y3 y4 y5 hn hI
  · refine z_tableIn (off := 669) (tgt := 702) X dL_law_33 (by decide +kernel) (by decide +kernel) (by decide +kernel) (by decide) ?_
    exact op_kinds l g X hX hbl hbA hLn hi hroom hN  ft tr D E so lk kd st sp nd C rO rB rD rW sz sl ceF sc sm xa xb xc xd y1 y2 y3 y4 y5 hn hI
  · refine z_tableIn (off := 692) (tgt := 725) X dL_law_33 (by decide +kernel) (by decide +kernel) (by decide +kernel) (by decide) ?_
    exact op_sours l g X hX hbl hbA hLn hi hroom hN  ft tr D E so lk kd st sp nd C rO rB rD rW sz sl ceF sc sm xa xb xc xd y1 y2 y3 y4 y5 hn hI
  · refine z_tableIn (off := 705) (tgt := 738) X dL_law_33 (by decide +kernel) (by decide +kernel) (by decide +kernel) (by decide) ?_
    exact op_odds l g X hX hbl hbA hLn hi hroom hN  ft tr D E so lk kd st sp nd C rO rB rD rW sz sl ceF sc sm xa xb xc xd y1 y2 y3 y4 y5 hn hI
  · refine z_tableIn (off := 749) (tgt := 782) X dL_law_33 (by decide +kernel) (by decide +kernel) (by decide +kernel) (by decide) ?_
    rcases bTF (zin (xs (i_v + 1)) 4) with h1 | h1
    · rcases law_4 h1 with h1 | h1 | h1 | h1
      · exact op_sheet_0 l g X hX hbl hbA hLn hi hroom hN h1 ft tr D E so lk kd st sp nd C rO rB rD rW sz sl ceF sc sm xa xb xc xd y1 y2 y3 y4 y5 hn hI
      · exact op_sheet_1 l g X hX hbl hbA hLn hi hroom hN h1 ft tr D E so lk kd st sp nd C rO rB rD rW sz sl ceF sc sm xa xb xc xd y1 y2 y3 y4 y5 hn hI
      · exact op_sheet_2 l g X hX hbl hbA hLn hi hroom hN h1 ft tr D E so lk kd st sp nd C rO rB rD rW sz sl ceF sc sm xa xb xc xd y1 y2 y3 y4 y5 hn hI
      · exact op_sheet_3 l g X hX hbl hbA hLn hi hroom hN h1 ft tr D E so lk kd st sp nd C rO rB rD rW sz sl ceF sc sm xa xb xc xd y1 y2 y3 y4 y5 hn hI
    · exact op_sheet_x l g X hX hbl hbA hLn hi hroom hN h1 ft tr D E so lk kd st sp nd C rO rB rD rW sz sl ceF sc sm xa xb xc xd y1 y2 y3 y4 y5 hn hI
  · refine z_tableIn (off := 792) (tgt := 825) X dL_law_33 (by decide +kernel) (by decide +kernel) (by decide +kernel) (by decide) ?_
    rcases bTF (zin (xs (i_v + 1)) 4) with h1 | h1
    · rcases law_4 h1 with h1 | h1 | h1 | h1
      · exact op_lose_0 l g X hX hbl hbA hLn hi hroom hN h1 ft tr D E so lk kd st sp nd C rO rB rD rW sz sl ceF sc sm xa xb xc xd y1 y2 y3 y4 y5 hn hI
      · exact op_lose_1 l g X hX hbl hbA hLn hi hroom hN h1 ft tr D E so lk kd st sp nd C rO rB rD rW sz sl ceF sc sm xa xb xc xd y1 y2 y3 y4 y5 hn hI
      · exact op_lose_2 l g X hX hbl hbA hLn hi hroom hN h1 ft tr D E so lk kd st sp nd C rO rB rD rW sz sl ceF sc sm xa xb xc xd y1 y2 y3 y4 y5 hn hI
      · exact op_lose_3 l g X hX hbl hbA hLn hi hroom hN h1 ft tr D E so lk kd st sp nd C rO rB rD rW sz sl ceF sc sm xa xb xc xd y1 y2 y3 y4 y5 hn hI
    · exact op_lose_x l g X hX hbl hbA hLn hi hroom hN h1 ft tr D E so lk kd st sp nd C rO rB rD rW sz sl ceF sc sm xa xb xc xd y1 y2 y3 y4 y5 hn hI
  · refine z_tableIn (off := 815) (tgt := 848) X dL_law_33 (by decide +kernel) (by decide +kernel) (by decide +kernel) (by decide) ?_
    rcases bTF (zin (xs (i_v + 1)) 4) with h1 | h1
    · rcases law_4 h1 with h1 | h1 | h1 | h1
      · exact op_put_0 l g X hX hbl hbA hLn hi hroom hN h1 ft tr D E so lk kd st sp nd C rO rB rD rW sz sl ceF sc sm xa xb xc xd y1 y2 y3 y4 y5 hn hI
      · exact op_put_1 l g X hX hbl hbA hLn hi hroom hN h1 ft tr D E so lk kd st sp nd C rO rB rD rW sz sl ceF sc sm xa xb xc xd y1 y2 y3 y4 y5 hn hI
      · exact op_put_2 l g X hX hbl hbA hLn hi hroom hN h1 ft tr D E so lk kd st sp nd C rO rB rD rW sz sl ceF sc sm xa xb xc xd y1 y2 y3 y4 y5 hn hI
      · exact op_put_3 l g X hX hbl hbA hLn hi hroom hN h1 ft tr D E so lk kd st sp nd C rO rB rD rW sz sl ceF sc sm xa xb xc xd y1 y2 y3 y4 y5 hn hI
    · exact op_put_x l g X hX hbl hbA hLn hi hroom hN h1 ft tr D E so lk kd st sp nd C rO rB rD rW sz sl ceF sc sm xa xb xc xd y1 y2 y3 y4 y5 hn hI
  · refine z_tableIn (off := 858) (tgt := 891) X dL_law_33 (by decide +kernel) (by decide +kernel) (by decide +kernel) (by decide) ?_
    rcases bTF (zin (xs (i_v + 1)) 4) with h1 | h1
    · rcases law_4 h1 with h1 | h1 | h1 | h1
      · exact op_cell_0 l g X hX hbl hbA hLn hi hroom hN h1 ft tr D E so lk kd st sp nd C rO rB rD rW sz sl ceF sc sm xa xb xc xd y1 y2 y3 y4 y5 hn hI
      · exact op_cell_1 l g X hX hbl hbA hLn hi hroom hN h1 ft tr D E so lk kd st sp nd C rO rB rD rW sz sl ceF sc sm xa xb xc xd y1 y2 y3 y4 y5 hn hI
      · exact op_cell_2 l g X hX hbl hbA hLn hi hroom hN h1 ft tr D E so lk kd st sp nd C rO rB rD rW sz sl ceF sc sm xa xb xc xd y1 y2 y3 y4 y5 hn hI
      · exact op_cell_3 l g X hX hbl hbA hLn hi hroom hN h1 ft tr D E so lk kd st sp nd C rO rB rD rW sz sl ceF sc sm xa xb xc xd y1 y2 y3 y4 y5 hn hI
    · exact op_cell_x l g X hX hbl hbA hLn hi hroom hN h1 ft tr D E so lk kd st sp nd C rO rB rD rW sz sl ceF sc sm xa xb xc xd y1 y2 y3 y4 y5 hn hI
  · refine z_tableIn (off := 902) (tgt := 935) X dL_law_33 (by decide +kernel) (by decide +kernel) (by decide +kernel) (by decide) ?_
    rcases bTF (zin (xs (i_v + 1)) 4) with h1 | h1
    · rcases bTF (zin (xs (i_v + 3)) 4) with h2 | h2
      · rcases law_4 h1 with h1 | h1 | h1 | h1
        · rcases law_4 h2 with h2 | h2 | h2 | h2
          · exact op_copy_00 l g X hX hbl hbA hLn hi hroom hN h1 h2 ft tr D E so lk kd st sp nd C rO rB rD rW sz sl ceF sc sm xa xb xc xd y1 y2 y3 y4 y5 hn hI
          · exact op_copy_01 l g X hX hbl hbA hLn hi hroom hN h1 h2 ft tr D E so lk kd st sp nd C rO rB rD rW sz sl ceF sc sm xa xb xc xd y1 y2 y3 y4 y5 hn hI
          · exact op_copy_02 l g X hX hbl hbA hLn hi hroom hN h1 h2 ft tr D E so lk kd st sp nd C rO rB rD rW sz sl ceF sc sm xa xb xc xd y1 y2 y3 y4 y5 hn hI
          · exact op_copy_03 l g X hX hbl hbA hLn hi hroom hN h1 h2 ft tr D E so lk kd st sp nd C rO rB rD rW sz sl ceF sc sm xa xb xc xd y1 y2 y3 y4 y5 hn hI
        · rcases law_4 h2 with h2 | h2 | h2 | h2
          · exact op_copy_10 l g X hX hbl hbA hLn hi hroom hN h1 h2 ft tr D E so lk kd st sp nd C rO rB rD rW sz sl ceF sc sm xa xb xc xd y1 y2 y3 y4 y5 hn hI
          · exact op_copy_11 l g X hX hbl hbA hLn hi hroom hN h1 h2 ft tr D E so lk kd st sp nd C rO rB rD rW sz sl ceF sc sm xa xb xc xd y1 y2 y3 y4 y5 hn hI
          · exact op_copy_12 l g X hX hbl hbA hLn hi hroom hN h1 h2 ft tr D E so lk kd st sp nd C rO rB rD rW sz sl ceF sc sm xa xb xc xd y1 y2 y3 y4 y5 hn hI
          · exact op_copy_13 l g X hX hbl hbA hLn hi hroom hN h1 h2 ft tr D E so lk kd st sp nd C rO rB rD rW sz sl ceF sc sm xa xb xc xd y1 y2 y3 y4 y5 hn hI
        · rcases law_4 h2 with h2 | h2 | h2 | h2
          · exact op_copy_20 l g X hX hbl hbA hLn hi hroom hN h1 h2 ft tr D E so lk kd st sp nd C rO rB rD rW sz sl ceF sc sm xa xb xc xd y1 y2 y3 y4 y5 hn hI
          · exact op_copy_21 l g X hX hbl hbA hLn hi hroom hN h1 h2 ft tr D E so lk kd st sp nd C rO rB rD rW sz sl ceF sc sm xa xb xc xd y1 y2 y3 y4 y5 hn hI
          · exact op_copy_22 l g X hX hbl hbA hLn hi hroom hN h1 h2 ft tr D E so lk kd st sp nd C rO rB rD rW sz sl ceF sc sm xa xb xc xd y1 y2 y3 y4 y5 hn hI
          · exact op_copy_23 l g X hX hbl hbA hLn hi hroom hN h1 h2 ft tr D E so lk kd st sp nd C rO rB rD rW sz sl ceF sc sm xa xb xc xd y1 y2 y3 y4 y5 hn hI
        · rcases law_4 h2 with h2 | h2 | h2 | h2
          · exact op_copy_30 l g X hX hbl hbA hLn hi hroom hN h1 h2 ft tr D E so lk kd st sp nd C rO rB rD rW sz sl ceF sc sm xa xb xc xd y1 y2 y3 y4 y5 hn hI
          · exact op_copy_31 l g X hX hbl hbA hLn hi hroom hN h1 h2 ft tr D E so lk kd st sp nd C rO rB rD rW sz sl ceF sc sm xa xb xc xd y1 y2 y3 y4 y5 hn hI
          · exact op_copy_32 l g X hX hbl hbA hLn hi hroom hN h1 h2 ft tr D E so lk kd st sp nd C rO rB rD rW sz sl ceF sc sm xa xb xc xd y1 y2 y3 y4 y5 hn hI
          · exact op_copy_33 l g X hX hbl hbA hLn hi hroom hN h1 h2 ft tr D E so lk kd st sp nd C rO rB rD rW sz sl ceF sc sm xa xb xc xd y1 y2 y3 y4 y5 hn hI
      · rcases law_4 h1 with h1 | h1 | h1 | h1
        · exact op_copy_0x l g X hX hbl hbA hLn hi hroom hN h1 h2 ft tr D E so lk kd st sp nd C rO rB rD rW sz sl ceF sc sm xa xb xc xd y1 y2 y3 y4 y5 hn hI
        · exact op_copy_1x l g X hX hbl hbA hLn hi hroom hN h1 h2 ft tr D E so lk kd st sp nd C rO rB rD rW sz sl ceF sc sm xa xb xc xd y1 y2 y3 y4 y5 hn hI
        · exact op_copy_2x l g X hX hbl hbA hLn hi hroom hN h1 h2 ft tr D E so lk kd st sp nd C rO rB rD rW sz sl ceF sc sm xa xb xc xd y1 y2 y3 y4 y5 hn hI
        · exact op_copy_3x l g X hX hbl hbA hLn hi hroom hN h1 h2 ft tr D E so lk kd st sp nd C rO rB rD rW sz sl ceF sc sm xa xb xc xd y1 y2 y3 y4 y5 hn hI
    · rcases bTF (zin (xs (i_v + 3)) 4) with h2 | h2
      · rcases law_4 h2 with h2 | h2 | h2 | h2
        · exact op_copy_x0 l g X hX hbl hbA hLn hi hroom hN h1 h2 ft tr D E so lk kd st sp nd C rO rB rD rW sz sl ceF sc sm xa xb xc xd y1 y2 y3 y4 y5 hn hI
        · exact op_copy_x1 l g X hX hbl hbA hLn hi hroom hN h1 h2 ft tr D E so lk kd st sp nd C rO rB rD rW sz sl ceF sc sm xa xb xc xd y1 y2 y3 y4 y5 hn hI
        · exact op_copy_x2 l g X hX hbl hbA hLn hi hroom hN h1 h2 ft tr D E so lk kd st sp nd C rO rB rD rW sz sl ceF sc sm xa xb xc xd y1 y2 y3 y4 y5 hn hI
        · exact op_copy_x3 l g X hX hbl hbA hLn hi hroom hN h1 h2 ft tr D E so lk kd st sp nd C rO rB rD rW sz sl ceF sc sm xa xb xc xd y1 y2 y3 y4 y5 hn hI
      · exact op_copy_xx l g X hX hbl hbA hLn hi hroom hN h1 h2 ft tr D E so lk kd st sp nd C rO rB rD rW sz sl ceF sc sm xa xb xc xd y1 y2 y3 y4 y5 hn hI
  · refine z_tableIn (off := 965) (tgt := 998) X dL_law_33 (by decide +kernel) (by decide +kernel) (by decide +kernel) (by decide) ?_
    exact op_tell l g X hX hbl hbA hLn hi hroom hN  ft tr D E so lk kd st sp nd C rO rB rD rW sz sl ceF sc sm xa xb xc xd y1 y2 y3 y4 y5 hn hI
  · refine z_tableIn (off := 988) (tgt := 1021) X dL_law_33 (by decide +kernel) (by decide +kernel) (by decide +kernel) (by decide) ?_
    exact op_sniff l g X hX hbl hbA hLn hi hroom hN  ft tr D E so lk kd st sp nd C rO rB rD rW sz sl ceF sc sm xa xb xc xd y1 y2 y3 y4 y5 hn hI
  · refine z_tableIn (off := 1011) (tgt := 1044) X dL_law_33 (by decide +kernel) (by decide +kernel) (by decide +kernel) (by decide) ?_
    exact op_as l g X hX hbl hbA hLn hi hroom hN  ft tr D E so lk kd st sp nd C rO rB rD rW sz sl ceF sc sm xa xb xc xd y1 y2 y3 y4 y5 hn hI
  · refine z_tableIn (off := 1044) (tgt := 1077) X dL_law_33 (by decide +kernel) (by decide +kernel) (by decide +kernel) (by decide) ?_
    exact op_trace l g X hX hbl hbA hLn hi hroom hN  ft tr D E so lk kd st sp nd C rO rB rD rW sz sl ceF sc sm xa xb xc xd y1 y2 y3 y4 y5 hn hI
  · refine z_tableIn (off := 1057) (tgt := 1090) X dL_law_33 (by decide +kernel) (by decide +kernel) (by decide +kernel) (by decide) ?_
    exact op_fault l g X hX hbl hbA hLn hi hroom hN  ft tr D E so lk kd st sp nd C rO rB rD rW sz sl ceF sc sm xa xb xc xd y1 y2 y3 y4 y5 hn hI
  · refine z_tableIn (off := 1070) (tgt := 1103) X dL_law_33 (by decide +kernel) (by decide +kernel) (by decide +kernel) (by decide) ?_
    exact op_many l g X hX hbl hbA hLn hi hroom hN  ft tr D E so lk kd st sp nd C rO rB rD rW sz sl ceF sc sm xa xb xc xd y1 y2 y3 y4 y5 hn hI
  · refine z_tableOut (tgt := 1126) X dL_law_33 (by decide +kernel) (by decide) ?_
    refine z_iinc (v := nI (i_v + 6)) (L' := [(3, .int (nI (i_v + 6))), (0, .ref s_b), (1, .ref (a 0)), (2, .ref (b 0))]) X dL_law_1126 0 rfl (nI_inc i_v 6) (by decide) rfl ?_
    refine z_goto (tgt := 18) X dL_law_1129 (by decide) ?_
    exact hN ft tr D E so lk kd st sp nd C rO rB rD rW sz sl ceF sc sm xa xb xc xd y1 y2 y3 y4 y5 hn hI
  · refine z_tableOut (tgt := 1126) X dL_law_33 (by decide +kernel) (by decide) ?_
    refine z_iinc (v := nI (i_v + 6)) (L' := [(3, .int (nI (i_v + 6))), (0, .ref s_b), (1, .ref (a 0)), (2, .ref (b 0))]) X dL_law_1126 0 rfl (nI_inc i_v 6) (by decide) rfl ?_
    refine z_goto (tgt := 18) X dL_law_1129 (by decide) ?_
    exact hN ft tr D E so lk kd st sp nd C rO rB rD rW sz sl ceF sc sm xa xb xc xd y1 y2 y3 y4 y5 hn hI
theorem law_loop (l : Launch) (g : zg) {E_ : zE} {s_b Ln : Nat} {xs : Nat → Int32} {a b : Nat → Nat} (X : zX g 4 E_ code RL wsL_law room_1 ret) (hX : va_X s_b Ln xs (zs E_) (zs E_).heap) (hbl : s_b < (zs E_).heap.size) (hbA : ¬ zA E_ s_b) (hLn : Ln ≤ 3072) (hroom : zk E_ ≤ room_1.cells ∧ zn E_ ≤ room_1.slots) (hEnd : ∀ (ws : va_W) (L : List (Nat × Value)), zG l g 4 E_ ws L 1132 []) : ∀ n i, i ≤ 3072 → Ln ≤ i + n → LWI l g E_ s_b a b i
  | 0, i, h1, h2 => law_head l g X hX hbl hbA hLn h1 hroom hEnd (fun h => absurd h (by omega))
  | n + 1, i, h1, h2 => law_head l g X hX hbl hbA hLn h1 hroom hEnd (fun h => law_loop l g X hX hbl hbA hLn hroom hEnd n (i + 6) (by omega) (by omega))
