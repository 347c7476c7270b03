/-! what the calls answer, and what they need of the numbers held -/
def vK (kd st : Nat → Int32) (E : Nat) : Prop := ∀ a, a < E → (kd a = nI (tn (kd a)) ∧ tn (kd a) ≤ 2) ∧ (st a = nI (tn (st a)) ∧ tn (st a) ≤ 5)
def vle (x : Int32) : Prop := x = (-1) ∨ ∃ m, m ≤ 60 ∧ x = nI m
theorem nI_inj5 {a b : Nat} (ha : a < 2 ^ 31) (hb : b < 2 ^ 31) : (nI a = nI b) = (a = b) := propext (nI_eq ha hb)
theorem nI_12 : (nI 1 = nI 2) = False := by decide +kernel
theorem zin_lt {j n : Nat} (hj : j < 2 ^ 31) (hn : n < 2 ^ 31) (h : zin (nI j) n = true) : j < n := by
  have h := of_decide_eq_true h
  exact (nI_ltI hj hn).mp h.2
theorem lbI_kd {k : Int32} {v : Nat} (hk : k = nI (tn k) ∧ tn k ≤ 2) (hv : v ≤ 5) : lbI k (nI v) = nI (tn (lbI k (nI v))) ∧ tn (lbI k (nI v)) ≤ 5 := by
  obtain ⟨h1, h2⟩ := hk
  rw [h1]
  exact lbI_L _ h2 _ hv
theorem lbI_st {s : Int32} {v : Nat} (hs : s = nI (tn s) ∧ tn s ≤ 5) (hv : v ≤ 2) : lbI (nI v) s = nI (tn (lbI (nI v) s)) ∧ tn (lbI (nI v) s) ≤ 5 := by
  obtain ⟨h1, h2⟩ := hs
  rw [h1]
  exact lbI_L _ hv _ h2
theorem vK_L {kd st : Nat → Int32} {E : Nat} (h : vK kd st E) : vL kd st E := fun a ha => by
  obtain ⟨⟨h1, h2⟩, h3, h4⟩ := h a ha
  unfold Lf
  rw [h1, h3]
  exact lbI_L _ h2 _ h4
def ofe (kd st sp nd : Nat → Int32) (j : Nat) (w : Int32) : Int32 := if w = nI 0 then kd j else if w = nI 1 then st j else if w = nI 2 then sp j else if w = nI 3 then nd j else if w = nI 4 then nI (Lf kd st j) else -2
def besI (o : Option (Nat × Nat)) (w : Int32) (p : Nat) : Int32 := match o with
  | none => -9
  | some (b, m) => if tn w = 0 then nI b else nI (m * p)
def smiI (o : Option (Nat × Nat)) (w : Int32) : Int32 := match o with
  | none => -9
  | some (s, m) => if tn w = 0 then nI s else nI m
theorem smF_val {D E : Nat} {kd st sp nd : Nat → Int32} {F : Nat} : ∀ (n : Nat) {s m : Nat}, smF D E kd st sp nd F n = some (s, m) → vil D kd st sp nd (clr F s) E = some m
  | 0, s, m, h => by cases h
  | n + 1, s, m, h => by
    unfold smF at h
    split at h
    · exact smF_val n h
    · rename_i p hp
      have hv : vil D kd st sp nd (clr F n) E = some p := by
        by_cases hz : zbt F n = true
        · rw [if_pos hz] at hp; exact hp
        · rw [if_neg hz] at hp; cases hp
      split at h
      · cases h; exact hv
      · rename_i s' m' hb'
        split at h
        · cases h; exact hv
        · cases h; exact smF_val n hb'
def rok (D E C : Nat) (x s d : Int32) : Bool := zin x E && zin s (2 ^ D) && zin d D && decide (C < 8)
def apl (x : Int32) : Bool := zin x 4 || (!decide (x < nI 10) && !decide (nI 16 ≤ x))
theorem apl_d {x : Int32} (h : apl x = true) (h0 : ¬ x = nI 0) (h1 : ¬ x = nI 1) (h2 : ¬ x = nI 2) (h3 : ¬ x = nI 3) : ∃ w, 10 ≤ w ∧ w < 16 ∧ x = nI w := by
  unfold apl at h
  rcases Bool.or_eq_true_iff.mp h with h | h
  · obtain ⟨j, hj, rfl⟩ := zin_t (by omega) h
    rcases (by omega : j = 0 ∨ j = 1 ∨ j = 2 ∨ j = 3) with rfl | rfl | rfl | rfl <;> contradiction
  · simp only [Bool.and_eq_true, Bool.not_eq_true', decide_eq_false_iff_not] at h
    have e1 : ¬ x.toInt < (nI 10).toInt := fun z => h.1 ((fa_lt _ _).mpr z)
    have e2 : ¬ (nI 16).toInt ≤ x.toInt := fun z => h.2 ((fa_le _ _).mpr z)
    rw [nI_toInt (by omega)] at e1 e2
    obtain ⟨w, hw, rfl⟩ := nI_of (x := x) (fun z => by
      have := (fa_lt _ _).mp z
      rw [Int32.toInt_zero] at this
      omega)
    rw [nI_toInt hw] at e1 e2
    exact ⟨w, by omega, by omega, rfl⟩
def ofp (D E : Nat) (lk : Nat → Int32) (so : Int32) (kd st sp nd ce : Nat → Int32) (i : Nat) (w : Int32) : Int32 :=
  if w = nI 0 then nI (fpl D kd st sp (fs lk so D) ce i E) else if w = nI 1 then fdx (opl D kd st (fs lk so D) ce i E) D 0 else if w = nI 2 then nI (wpl D kd st (fs lk so D) ce i E) else if w = nI 3 then nI (hpl nd ce i E)
  else if zin (w - nI 10) D then nI (dpl D kd st (fs lk so D) ce i (tn (w - nI 10)) E) else -9
def plr (lane w : Int32) (E : Nat) (fo : Int32) (hp : Bool) (r : Int32) : Int32 := if zin lane 3 && apl w then (if 0 < E then (if fo = 0 then (if hp then r else -2) else (-10) - fo) else -3) else -2
def dur (lane fo fr : Int32) (te : Nat) : Int32 := if zin lane 3 then (if fo = 0 then (if fr = (-1) then nI te else (-100) - fr) else (-10) - fo) else -2
def duk (lane fo fr : Int32) : Bool := zin lane 3 && decide (fo = 0) && decide (fr = (-1))
def shk (lane n : Int32) : Bool := zin lane 3 && !decide (nI 60 < n) && decide (0 ≤ n)
def telI (k p : Int32) : Int32 := if k = nI 1 then p + nI 100 else if k = nI 2 then (p + nI 100) + p else p
def telT (k t : Int32) : Int32 := if k = nI 1 then nI 31 * (nI 31 * t + nI 2) + nI 1 else if k = nI 2 then nI 31 * (nI 31 * (nI 31 * (nI 31 * t + nI 3) + nI 2) + nI 1) + nI 1 else nI 31 * t + nI 1
def cor (ln le ln2 le2 i j n : Int32) : Int32 := if le = (-1) ∨ le2 = (-1) then (-10) - nI 1 else if ln = ln2 then (if hcl le i n && hcl le2 j n then n else (-10) - nI 3) else (-10) - nI 2
def cof (ln le ln2 le2 i j n : Int32) : Int32 := if le = (-1) ∨ le2 = (-1) then nI 1 else if ln = ln2 then (if hcl le i n && hcl le2 j n then nI 0 else nI 3) else nI 2
def cok (ln le ln2 le2 i j n : Int32) : Bool := !decide (le = (-1)) && !decide (le2 = (-1)) && decide (ln = ln2) && hcl le i n && hcl le2 j n
theorem m1_toInt : ((-1 : Int32)).toInt = -1 := by decide +kernel
theorem nI_of_toInt {x : Int32} (h : 0 ≤ x.toInt) : ∃ j, x = nI j ∧ (j : Int) = x.toInt := by
  obtain ⟨j, hj, rfl⟩ := nI_of (x := x) (fun z => by
    have := (fa_lt _ _).mp z
    rw [Int32.toInt_zero] at this
    omega)
  exact ⟨j, rfl, (nI_toInt hj).symm⟩
theorem i32_sub_toInt {x y : Int32} (h1 : -2147483648 ≤ x.toInt - y.toInt) (h2 : x.toInt - y.toInt < 2147483648) : (x - y).toInt = x.toInt - y.toInt := by
  rw [Int32.toInt_sub]
  exact Int.bmod_eq_of_le (by omega) (by omega)
theorem hcl_t {le i n : Int32} (hv : vle le) (h : hcl le i n = true) : ∃ i' n', i = nI i' ∧ n = nI n' ∧ ∃ m, m ≤ 60 ∧ le = nI m ∧ i' + n' ≤ m := by
  unfold hcl at h
  simp only [Bool.and_eq_true, Bool.not_eq_true', decide_eq_false_iff_not] at h
  obtain ⟨⟨⟨h1, h2⟩, h3⟩, h4⟩ := h
  have e1 : ¬ i.toInt < 0 := fun z => h1 ((fa_lt _ _).mpr (by rw [Int32.toInt_zero]; exact z))
  have e2 : ¬ le.toInt < i.toInt := fun z => h2 ((fa_lt _ _).mpr z)
  have e3 : ¬ n.toInt < 0 := fun z => h3 ((fa_lt _ _).mpr (by rw [Int32.toInt_zero]; exact z))
  obtain ⟨i', rfl, hi⟩ := nI_of_toInt (x := i) (by omega)
  obtain ⟨n', rfl, hn⟩ := nI_of_toInt (x := n) (by omega)
  rcases hv with hv | ⟨m, hm, hv⟩
  · rw [hv, m1_toInt] at e2; omega
  · have el : le.toInt = (m : Int) := by rw [hv, nI_toInt (by omega)]
    have e4 : ¬ (le - nI i').toInt < (nI n').toInt := fun z => h4 ((fa_lt _ _).mpr z)
    rw [i32_sub_toInt (by omega) (by omega)] at e4
    exact ⟨i', n', rfl, rfl, m, hm, hv, by omega⟩
theorem hcl_t2 {le j : Int32} {n : Nat} (hn : n ≤ 60) (hv : vle le) (h : hcl le j (nI n) = true) : ∃ j', j = nI j' ∧ ∃ m, m ≤ 60 ∧ le = nI m ∧ j' + n ≤ m := by
  obtain ⟨j', n', e1, e2, m, hm, e3, h4⟩ := hcl_t hv h
  have e5 : n' ≤ 60 := by omega
  have e6 : n = n' := (nI_eq (by omega) (by omega)).mp e2
  exact ⟨j', e1, m, hm, e3, by omega⟩
theorem foc_hcl {ln le al i n : Int32} (h : foc ln le al i n = 0) : ¬ le = (-1) ∧ ln = al ∧ hcl le i n = true := by
  unfold foc at h
  have n1 : ¬ nI 1 = (0 : Int32) := by decide +kernel
  have n2 : ¬ nI 2 = (0 : Int32) := by decide +kernel
  have n3 : ¬ nI 3 = (0 : Int32) := by decide +kernel
  have n4 : ¬ nI 4 = (0 : Int32) := by decide +kernel
  split at h
  · exact absurd h n2
  · rename_i q
    split at h
    · exact absurd h n1
    · rename_i q2
      split at h
      · split at h
        · rename_i q4
          exact ⟨q2, Decidable.byContradiction fun z => q ⟨q2, z⟩, q4⟩
        · exact absurd h n3
      · exact absurd h n4
theorem foc0 {ln le al i n : Int32} (hv : vle le) (h : foc ln le al i n = 0) : ∃ i' n', i = nI i' ∧ n = nI n' ∧ i' + n' ≤ 60 ∧ ∃ m, le = nI m ∧ i' + n' ≤ m := by
  obtain ⟨-, -, h⟩ := foc_hcl h
  obtain ⟨i', n', e1, e2, m, hm, e3, h4⟩ := hcl_t hv h
  exact ⟨i', n', e1, e2, by omega, m, e3, h4⟩
theorem foc1 {ln le al i : Int32} (hv : vle le) (h : foc ln le al i (nI 1) = 0) : ∃ i', i = nI i' ∧ i' + 1 ≤ 60 ∧ ∃ m, le = nI m ∧ i' < m := by
  obtain ⟨-, -, h⟩ := foc_hcl h
  obtain ⟨i', e1, m, hm, e3, h4⟩ := hcl_t2 (n := 1) (by omega) hv h
  exact ⟨i', e1, by omega, m, e3, by omega⟩
theorem frun_2 {f : Nat → Int32} {b n : Nat} (h : frun f b n 0 0 0 0 = (-1)) : 2 ≤ n := by
  rcases (by omega : n = 0 ∨ n = 1 ∨ 2 ≤ n) with rfl | rfl | h2
  · exact absurd (show nI 0 = (-1) from h) (by decide +kernel)
  · unfold frun at h
    split at h
    · exact absurd h (by decide +kernel)
    · rename_i s' hs
      unfold frun at h
      split at h
      · rename_i q
        subst q
        unfold sto at hs
        simp only at hs
        split at hs <;> cases hs
      · exact absurd h (by decide +kernel)
  · exact h2
theorem alp_hF {f : Nat → Int32} {i D : Nat} (hD : D ≤ 6) : ∀ {E : Nat}, alp f i D E = true → ∀ a, a < E → f (i + a) = nI (tn (f (i + a))) ∧ tn (f (i + a)) < 2 ^ D
  | 0, _, a, ha => absurd ha (Nat.not_lt_zero a)
  | E + 1, h, a, ha => by
    unfold alp at h
    have h := Bool.and_eq_true_iff.mp h
    have hp : 2 ^ D ≤ 2 ^ 6 := Nat.pow_le_pow_right (by omega) hD
    by_cases e : a = E
    · subst e
      obtain ⟨j, hj, hz⟩ := zin_t (by omega) h.2
      rw [hz, tn_nI (by omega)]
      exact ⟨rfl, hj⟩
    · exact alp_hF hD h.1 a (by omega)
theorem sets_congr {p q : Nat → Bool} : ∀ {n : Nat}, (∀ v, v < n → p v = q v) → sets p n = sets q n
  | 0, _ => rfl
  | n + 1, h => by
    unfold sets
    rw [h n (by omega), sets_congr (fun v hv => h v (by omega))]
theorem ax_gen {D C E : Nat} {lk : Nat → Int32} {so : Int32} {kd st kd' st' rO rB rD rW : Nat → Int32} {one : Int32} {lo : Nat} (hR : vR D E C rO rB rD rW)
    (h : ∀ a, a < E → (if nI a = one then lo else Lf kd st a) = Lf kd' st' a) : ∀ n, n ≤ C → ax D lk so kd st rO rB rD rW one lo n = ar D lk so kd' st' rO rB rD rW n
  | 0, _ => rfl
  | n + 1, hn => by
    unfold ax ar
    rw [ax_gen hR h n (by omega)]
    unfold sx1 so1
    rw [h _ (hR n (by omega)).1.2]
theorem ax_st {D C E j v : Nat} {lk : Nat → Int32} {so : Int32} {kd st rO rB rD rW : Nat → Int32} (hE : E ≤ 4) (hj : j < E) (hR : vR D E C rO rB rD rW) (n : Nat) (hn : n ≤ C) : ax D lk so kd st rO rB rD rW (nI j) (tn (lbI (kd j) (nI v))) n = ar D lk so kd (upd st j (nI v)) rO rB rD rW n :=
  ax_gen hR (fun a ha => by
    by_cases e : a = j
    · subst e
      rw [if_pos rfl]; unfold Lf upd; rw [if_pos rfl]
    · rw [if_neg (fun z => e ((nI_eq (by omega) (by omega)).mp z))]; unfold Lf upd; rw [if_neg e]) n hn
theorem ax_kd {D C E j v : Nat} {lk : Nat → Int32} {so : Int32} {kd st rO rB rD rW : Nat → Int32} (hE : E ≤ 4) (hj : j < E) (hR : vR D E C rO rB rD rW) (n : Nat) (hn : n ≤ C) : ax D lk so kd st rO rB rD rW (nI j) (tn (lbI (nI v) (st j))) n = ar D lk so (upd kd j (nI v)) st rO rB rD rW n :=
  ax_gen hR (fun a ha => by
    by_cases e : a = j
    · subst e
      rw [if_pos rfl]; unfold Lf upd; rw [if_pos rfl]
    · rw [if_neg (fun z => e ((nI_eq (by omega) (by omega)).mp z))]; unfold Lf upd; rw [if_neg e]) n hn
theorem ax_no {D C E lo : Nat} {lk : Nat → Int32} {so : Int32} {kd st rO rB rD rW : Nat → Int32} (hE : E ≤ 4) (hR : vR D E C rO rB rD rW) (n : Nat) (hn : n ≤ C) : ax D lk so kd st rO rB rD rW (-1) lo n = ar D lk so kd st rO rB rD rW n :=
  ax_gen hR (fun a ha => if_neg (nI_nm1 (by omega))) n hn
theorem odd_shl : ∀ p, p ≤ 6 → (1 : Int64) <<< ((nI p).toInt64 &&& 63) = lN (2 ^ p) := by decide +kernel
theorem z02 : zin (nI 0) 2 = true := by decide +kernel
theorem t00 : tn (nI 0) = 0 := by decide +kernel
theorem nI_21 : (nI 2 = nI 1) = False := by decide +kernel
