/-! the reference's texts, sheets -/
def cA (f : Nat → Int32) (b n p : Nat) : Int32 := if p < n then f (b + p) else -9
def fgI (c : Int32) (lo hi : Nat) : Int32 := if zdg c lo hi = true then c - nI 48 else -9
theorem cA_in {f : Nat → Int32} {b n p : Nat} (h : p < n) : cA f b n p = f (b + p) := if_pos h
theorem cA_out {f : Nat → Int32} {b n p : Nat} (h : ¬ p < n) : cA f b n p = -9 := if_neg h
theorem cA_lt {f : Nat → Int32} {b n p : Nat} {c : Int32} (h : cA f b n p = c) (hc : c ≠ -9) : p < n := by
  by_cases q : p < n
  · exact q
  · exact absurd (h.symm.trans (cA_out q)) hc
theorem zdg_m9 : ∀ lo, lo ≤ 9 → ∀ hi, hi ≤ 9 → zdg (-9) lo hi = false := by decide +kernel
theorem zdg_lt {f : Nat → Int32} {b n p lo hi : Nat} (h1 : lo ≤ 9) (h2 : hi ≤ 9) (h : zdg (cA f b n p) lo hi = true) : p < n := by
  by_cases q : p < n
  · exact q
  · rw [cA_out q, zdg_m9 lo h1 hi h2] at h; cases h
theorem zdg_n {c : Int32} {lo hi : Nat} (h1 : lo ≤ 9) (h2 : hi ≤ 9) (h : zdg c lo hi = true) : ∃ j, j ≤ 9 ∧ c - nI 48 = nI j := by
  unfold zdg at h
  simp only [Bool.and_eq_true, Bool.not_eq_true', decide_eq_false_iff_not] at h
  have e1 : ¬ c.toInt < (nI (48 + lo)).toInt := fun z => h.1 ((fa_lt _ _).mpr z)
  have e2 : ¬ (nI (48 + hi)).toInt < c.toInt := fun z => h.2 ((fa_lt _ _).mpr z)
  rw [nI_toInt (by omega)] at e1 e2
  obtain ⟨j, hj, ej⟩ := nI_of_toInt (x := c) (by omega)
  refine ⟨j - 48, by omega, ?_⟩
  rw [hj, pk_sub (by omega)]
theorem fgI_t {c : Int32} {lo hi : Nat} (h : zdg c lo hi = true) : fgI c lo hi = c - nI 48 := if_pos h
theorem fgI_f {c : Int32} {lo hi : Nat} (h : zdg c lo hi = false) : fgI c lo hi = -9 := if_neg (by rw [h]; decide)
/-- one eater's five codes from p on: whether they are there, and where it stops -/
def eaF (f : Nat → Int32) (b n p e : Nat) : Bool × Nat :=
  if e = 4 then (false, p)
  else if ¬ cA f b n p = nI 59 then (false, p)
  else if kbl (cA f b n (p + 1)) = -9 then (false, p + 1)
  else if zdg (cA f b n (p + 1 + 1)) 0 5 = false then (false, p + 1 + 1)
  else if zdg (cA f b n (p + 1 + 1 + 1)) 1 9 = false then (false, p + 1 + 1 + 1)
  else if zdg (cA f b n (p + 1 + 1 + 1 + 1)) 0 6 = false then (false, p + 1 + 1 + 1 + 1) else (true, p + 1 + 1 + 1 + 1 + 1)
theorem eaF_a {f : Nat → Int32} {b n p e : Nat} (h : e = 4) : eaF f b n p e = (false, p) := by unfold eaF; rw [if_pos h]
theorem eaF_b {f : Nat → Int32} {b n p e : Nat} (h : e ≠ 4) (h0 : ¬ cA f b n p = nI 59) : eaF f b n p e = (false, p) := by unfold eaF; rw [if_neg h, if_pos h0]
theorem eaF_c {f : Nat → Int32} {b n p e : Nat} (h : e ≠ 4) (h0 : cA f b n p = nI 59) (h1 : kbl (cA f b n (p + 1)) = -9) : eaF f b n p e = (false, p + 1) := by unfold eaF; rw [if_neg h, if_neg (fun z => z h0), if_pos h1]
theorem eaF_d {f : Nat → Int32} {b n p e : Nat} (h : e ≠ 4) (h0 : cA f b n p = nI 59) (h1 : ¬ kbl (cA f b n (p + 1)) = -9) (h2 : zdg (cA f b n (p + 1 + 1)) 0 5 = false) : eaF f b n p e = (false, p + 1 + 1) := by unfold eaF; rw [if_neg h, if_neg (fun z => z h0), if_neg h1, if_pos h2]
theorem eaF_e {f : Nat → Int32} {b n p e : Nat} (h : e ≠ 4) (h0 : cA f b n p = nI 59) (h1 : ¬ kbl (cA f b n (p + 1)) = -9) (h2 : zdg (cA f b n (p + 1 + 1)) 0 5 = true) (h3 : zdg (cA f b n (p + 1 + 1 + 1)) 1 9 = false) : eaF f b n p e = (false, p + 1 + 1 + 1) := by unfold eaF; rw [if_neg h, if_neg (fun z => z h0), if_neg h1, if_neg (by rw [h2]; decide), if_pos h3]
theorem eaF_f {f : Nat → Int32} {b n p e : Nat} (h : e ≠ 4) (h0 : cA f b n p = nI 59) (h1 : ¬ kbl (cA f b n (p + 1)) = -9) (h2 : zdg (cA f b n (p + 1 + 1)) 0 5 = true) (h3 : zdg (cA f b n (p + 1 + 1 + 1)) 1 9 = true) (h4 : zdg (cA f b n (p + 1 + 1 + 1 + 1)) 0 6 = false) : eaF f b n p e = (false, p + 1 + 1 + 1 + 1) := by unfold eaF; rw [if_neg h, if_neg (fun z => z h0), if_neg h1, if_neg (by rw [h2]; decide), if_neg (by rw [h3]; decide), if_pos h4]
theorem eaF_g {f : Nat → Int32} {b n p e : Nat} (h : e ≠ 4) (h0 : cA f b n p = nI 59) (h1 : ¬ kbl (cA f b n (p + 1)) = -9) (h2 : zdg (cA f b n (p + 1 + 1)) 0 5 = true) (h3 : zdg (cA f b n (p + 1 + 1 + 1)) 1 9 = true) (h4 : zdg (cA f b n (p + 1 + 1 + 1 + 1)) 0 6 = true) : eaF f b n p e = (true, p + 1 + 1 + 1 + 1 + 1) := by unfold eaF; rw [if_neg h, if_neg (fun z => z h0), if_neg h1, if_neg (by rw [h2]; decide), if_neg (by rw [h3]; decide), if_neg (by rw [h4]; decide)]
theorem kbl_m9 : kbl (-9) = -9 := by decide +kernel
theorem c59_m9 : ¬ (-9 : Int32) = nI 59 := by decide +kernel
/-- all that an answer of eaF says -/
theorem eaF_t {f : Nat → Int32} {b n p e q : Nat} (h : eaF f b n p e = (true, q)) : e ≠ 4 ∧ cA f b n p = nI 59 ∧ ¬ kbl (cA f b n (p + 1)) = -9 ∧ zdg (cA f b n (p + 1 + 1)) 0 5 = true ∧ zdg (cA f b n (p + 1 + 1 + 1)) 1 9 = true ∧ zdg (cA f b n (p + 1 + 1 + 1 + 1)) 0 6 = true ∧ q = p + 5 := by
  unfold eaF at h
  split at h
  · cases h
  · rename_i a0
    split at h
    · cases h
    · rename_i a1
      split at h
      · cases h
      · rename_i a2
        split at h
        · cases h
        · rename_i a3
          split at h
          · cases h
          · rename_i a4
            split at h
            · cases h
            · rename_i a5
              cases h
              exact ⟨a0, Decidable.byContradiction (fun z => a1 z), a2, Bool.not_eq_false _ ▸ a3, Bool.not_eq_false _ ▸ a4, Bool.not_eq_false _ ▸ a5, rfl⟩
theorem eaF_pos {f : Nat → Int32} {b n p e q : Nat} (h : eaF f b n p e = (true, q)) : q = p + 5 ∧ p + 5 ≤ n := by
  obtain ⟨-, -, -, -, -, h5, h6⟩ := eaF_t h
  have := zdg_lt (by omega) (by omega) h5
  exact ⟨h6, by omega⟩
theorem eaF_le {f : Nat → Int32} {b n p e q : Nat} {t : Bool} (hp : p ≤ n) (h : eaF f b n p e = (t, q)) : q ≤ n ∧ p ≤ q := by
  cases t with
  | true => have := eaF_pos h; omega
  | false =>
    unfold eaF at h
    split at h
    · cases h; omega
    · split at h
      · cases h; omega
      · rename_i a0 a1
        have l0 : p < n := cA_lt (Decidable.byContradiction (fun z => a1 z)) (by decide +kernel)
        split at h
        · cases h; omega
        · rename_i a2
          have l1 : p + 1 < n := by
            by_cases z : p + 1 < n
            · exact z
            · exact absurd (by rw [cA_out z]; exact kbl_m9) a2
          split at h
          · cases h; omega
          · rename_i a3
            have l2 := zdg_lt (by omega) (by omega) (Bool.not_eq_false _ ▸ a3)
            split at h
            · cases h; omega
            · rename_i a4
              have l3 := zdg_lt (by omega) (by omega) (Bool.not_eq_false _ ▸ a4)
              split at h
              · cases h; omega
              · cases h
/-- the machine's run over one eater -/
theorem frun_ea {f : Nat → Int32} {b n p e q s dy : Nat} (hs : (s = 4 ∧ e = 0) ∨ s = 9) (he : e ≤ 4) (h : eaF f b n p e = (true, q)) : frun f b (n - p) p s dy e = frun f b (n - (p + 5)) (p + 5) 9 dy (e + 1) := by
  obtain ⟨h0, h1, h2, h3, h4, h5, h6⟩ := eaF_t h
  have l4 := zdg_lt (by omega) (by omega) h5
  rw [cA_in (by omega)] at h1 h2 h3 h4 h5
  rw [frun_step (s' := 5) (by omega) (by rcases hs with ⟨rfl, rfl⟩ | rfl
                                         · simp [sto, h1]
                                         · simp [sto, h1]; omega)]
  rw [frun_step (s' := 6) (by omega) (by simp [sto]; exact h2)]
  rw [frun_step (s' := 7) (by omega) (by simp [sto]; exact h3)]
  rw [frun_step (s' := 8) (by omega) (by simp [sto]; exact h4)]
  rw [frun_step (s' := 9) (by omega) (by simp [sto]; exact h5)]
  simp
theorem frun_0 {f : Nat → Int32} {b n p s dy ea : Nat} (hp : p = n) (hs : s ≠ 9) : frun f b (n - p) p s dy ea = nI p := by
  rw [hp, Nat.sub_self]
  show (if s = 9 then (-1) else nI n) = nI n
  rw [if_neg hs]
theorem frun_nea {f : Nat → Int32} {b n p e q s dy : Nat} (hp : p ≤ n) (hs : (s = 4 ∧ e = 0 ∧ ¬ (dy < 6 ∧ p < n ∧ zdg (f (b + p)) 0 9 = true)) ∨ (s = 9 ∧ p < n)) (he : e ≤ 4) (h : eaF f b n p e = (false, q)) : frun f b (n - p) p s dy e = nI q := by
  have at0 : (e = 4 ∨ ¬ cA f b n p = nI 59) → frun f b (n - p) p s dy e = nI p := by
    intro z
    rcases hs with ⟨rfl, rfl, hz⟩ | ⟨rfl, hl⟩
    · by_cases hl : p < n
      · refine frun_bad hl ?_
        rcases z with z | z
        · omega
        · rw [cA_in hl] at z
          simp only [sto]
          rw [if_neg z, if_neg]
          intro w
          simp only [Bool.and_eq_true, decide_eq_true_eq] at w
          exact hz ⟨w.2, hl, w.1⟩
      · exact frun_0 (by omega) (by omega)
    · refine frun_bad hl ?_
      simp only [sto]
      rw [if_neg]
      intro w
      simp only [Bool.and_eq_true, decide_eq_true_eq] at w
      rcases z with z | z
      · omega
      · rw [cA_in hl] at z
        exact z w.1
  unfold eaF at h
  split at h
  · rename_i a0; cases h; exact at0 (Or.inl a0)
  · split at h
    · rename_i a0 a1; cases h; exact at0 (Or.inr a1)
    · rename_i a0 a1
      have a1' : cA f b n p = nI 59 := Decidable.byContradiction (fun z => a1 z)
      have l0 : p < n := cA_lt a1' (by decide +kernel)
      have s1 : frun f b (n - p) p s dy e = frun f b (n - (p + 1)) (p + 1) 5 dy (e + 1) := by
        rw [cA_in l0] at a1'
        rw [frun_step (s' := 5) l0 (by rcases hs with ⟨rfl, rfl, -⟩ | ⟨rfl, -⟩
                                       · simp [sto, a1']
                                       · simp [sto, a1']; omega)]
        simp
      rw [s1]
      split at h
      · rename_i a2
        cases h
        by_cases l1 : p + 1 < n
        · rw [cA_in l1] at a2
          exact frun_bad l1 (by simp [sto]; exact a2)
        · exact frun_0 (by omega) (by omega)
      · rename_i a2
        have l1 : p + 1 < n := by
          by_cases z : p + 1 < n
          · exact z
          · exact absurd (by rw [cA_out z]; exact kbl_m9) a2
        rw [cA_in l1] at a2
        rw [frun_step (s' := 6) l1 (by simp [sto]; exact a2)]
        split at h
        · rename_i a3
          cases h
          by_cases l2 : p + 1 + 1 < n
          · rw [cA_in l2] at a3
            exact frun_bad l2 (by simp [sto]; exact a3)
          · exact frun_0 (by omega) (by omega)
        · rename_i a3
          have a3' := Bool.not_eq_false _ ▸ a3
          have l2 := zdg_lt (by omega) (by omega) a3'
          rw [cA_in l2] at a3'
          rw [frun_step (s' := 7) l2 (by simp [sto]; exact a3')]
          split at h
          · rename_i a4
            cases h
            by_cases l3 : p + 1 + 1 + 1 < n
            · rw [cA_in l3] at a4
              exact frun_bad l3 (by simp [sto]; exact a4)
            · exact frun_0 (by omega) (by omega)
          · rename_i a4
            have a4' := Bool.not_eq_false _ ▸ a4
            have l3 := zdg_lt (by omega) (by omega) a4'
            rw [cA_in l3] at a4'
            rw [frun_step (s' := 8) l3 (by simp [sto]; exact a4')]
            split at h
            · rename_i a5
              cases h
              by_cases l4 : p + 1 + 1 + 1 + 1 < n
              · rw [cA_in l4] at a5
                exact frun_bad l4 (by simp [sto]; exact a5)
              · exact frun_0 (by omega) (by omega)
            · cases h
/-- days -/
theorem tdc_all {f : Nat → Int32} {b n : Nat} : ∀ r d j, d ≤ j → j < tdc f b n r d → 3 + j < n ∧ zdg (f (b + (3 + j))) 0 9 = true
  | 0, d, j, h1, h2 => by
    unfold tdc at h2; omega
  | r + 1, d, j, h1, h2 => by
    unfold tdc at h2
    by_cases q : 3 + d < n ∧ zdg (f (b + (3 + d))) 0 9 = true
    · rw [if_pos q] at h2
      by_cases e : d = j
      · subst e; exact q
      · exact tdc_all r (d + 1) j (by omega) h2
    · rw [if_neg q] at h2; omega
theorem tdc_stop {f : Nat → Int32} {b n : Nat} : ∀ r d, d + r = 6 → tdc f b n r d < 6 → ¬ (3 + tdc f b n r d < n ∧ zdg (f (b + (3 + tdc f b n r d))) 0 9 = true)
  | 0, d, h1, h2 => by
    unfold tdc at h2; omega
  | r + 1, d, h1, h2 => by
    unfold tdc at h2 ⊢
    by_cases q : 3 + d < n ∧ zdg (f (b + (3 + d))) 0 9 = true
    · rw [if_pos q] at h2 ⊢
      exact tdc_stop r (d + 1) (by omega) h2
    · rw [if_neg q]; exact q
theorem tdy_le6 {f : Nat → Int32} {b n : Nat} : tdy f b n ≤ 6 := tdc_le 6 0
theorem tdy_len {f : Nat → Int32} {b n : Nat} (h : 3 ≤ n) : 3 + tdy f b n ≤ n := by
  rcases Nat.eq_zero_or_pos (tdy f b n) with q | q
  · omega
  · have := (tdc_all (f := f) (b := b) (n := n) 6 0 (tdy f b n - 1) (Nat.zero_le _) (show tdy f b n - 1 < tdy f b n by omega)).1
    omega
theorem tdy_stop {f : Nat → Int32} {b n : Nat} : ¬ (tdy f b n < 6 ∧ 3 + tdy f b n < n ∧ zdg (f (b + (3 + tdy f b n))) 0 9 = true) := fun z => tdc_stop 6 0 (by omega) z.1 z.2
theorem frun_hd {f : Nat → Int32} {b n : Nat} (h0 : cA f b n 0 = nI 100) (h1 : zdg (cA f b n 1) 0 9 = true) (h2 : cA f b n 2 = nI 44) : frun f b n 0 0 0 0 = frun f b (n - 3) 3 3 0 0 := by
  have l2 : 2 < n := cA_lt h2 (by decide +kernel)
  rw [cA_in (by omega)] at h0 h1 h2
  have e := frun_step (f := f) (b := b) (n := n) (p := 0) (s := 0) (dy := 0) (ea := 0) (s' := 1) (by omega) (by simp [sto]; exact h0)
  rw [Nat.sub_zero] at e
  rw [e, frun_step (s' := 2) (by omega) (by simp [sto]; exact h1), frun_step (s' := 3) (by omega) (by simp [sto]; exact h2)]
  simp
theorem frun_dys {f : Nat → Int32} {b n : Nat} : ∀ d, 1 ≤ d → d ≤ tdy f b n → frun f b (n - 3) 3 3 0 0 = frun f b (n - (3 + d)) (3 + d) 4 d 0
  | 0, h, _ => absurd h (by omega)
  | 1, _, h => by
    obtain ⟨l, z⟩ := tdc_all (f := f) (b := b) (n := n) 6 0 0 (Nat.le_refl _) (show 0 < tdy f b n by omega)
    rw [frun_step (s' := 4) (by omega) (by simp [sto]; exact z)]
    simp
  | d + 2, _, h => by
    have t6 := tdy_le6 (f := f) (b := b) (n := n)
    obtain ⟨l, z⟩ := tdc_all (f := f) (b := b) (n := n) 6 0 (d + 1) (Nat.zero_le _) (show d + 1 < tdy f b n by omega)
    rw [frun_dys (d + 1) (by omega) (by omega), frun_step (s' := 4) l (by
      have n59 : ¬ f (b + (3 + (d + 1))) = nI 59 := fun w => by rw [w] at z; exact absurd z (by decide +kernel)
      simp only [sto]
      rw [if_neg n59, z, if_pos (by simp; omega)])]
    rw [if_pos rfl, if_neg (by omega)]
    rfl
theorem frun_days {f : Nat → Int32} {b n : Nat} (h0 : cA f b n 0 = nI 100) (h1 : zdg (cA f b n 1) 0 9 = true) (h2 : cA f b n 2 = nI 44) (h3 : 0 < tdy f b n) : frun f b n 0 0 0 0 = frun f b (n - (3 + tdy f b n)) (3 + tdy f b n) 4 (tdy f b n) 0 := by
  rw [frun_hd h0 h1 h2, frun_dys _ h3 (Nat.le_refl _)]
/-- texts whose head is wrong -/
theorem frun_f0 {f : Nat → Int32} {b n : Nat} (h0 : ¬ cA f b n 0 = nI 100) : frun f b n 0 0 0 0 = nI 0 := by
  by_cases l : 0 < n
  · rw [cA_in l] at h0
    have e := frun_bad (f := f) (b := b) (n := n) (p := 0) (s := 0) (dy := 0) (ea := 0) l (by simp [sto]; exact h0)
    rw [Nat.sub_zero] at e
    exact e
  · rw [show n = 0 by omega]; rfl
theorem frun_f1 {f : Nat → Int32} {b n : Nat} (h0 : cA f b n 0 = nI 100) (h1 : zdg (cA f b n 1) 0 9 = false) : frun f b n 0 0 0 0 = nI 1 := by
  have l0 : 0 < n := cA_lt h0 (by decide +kernel)
  rw [cA_in l0] at h0
  have e := frun_step (f := f) (b := b) (n := n) (p := 0) (s := 0) (dy := 0) (ea := 0) (s' := 1) (by omega) (by simp [sto]; exact h0)
  rw [Nat.sub_zero] at e
  rw [e]
  by_cases l : 1 < n
  · rw [cA_in l] at h1
    exact frun_bad l (by simp [sto]; exact h1)
  · exact frun_0 (by omega) (by omega)
theorem frun_f2 {f : Nat → Int32} {b n : Nat} (h0 : cA f b n 0 = nI 100) (h1 : zdg (cA f b n 1) 0 9 = true) (h2 : ¬ cA f b n 2 = nI 44) : frun f b n 0 0 0 0 = nI 2 := by
  have l1 := zdg_lt (by omega) (by omega) h1
  rw [cA_in (by omega)] at h0 h1
  have e := frun_step (f := f) (b := b) (n := n) (p := 0) (s := 0) (dy := 0) (ea := 0) (s' := 1) (by omega) (by simp [sto]; exact h0)
  rw [Nat.sub_zero] at e
  rw [e, frun_step (s' := 2) (by omega) (by simp [sto]; exact h1)]
  by_cases l : 2 < n
  · rw [cA_in l] at h2
    exact frun_bad l (by simp [sto]; exact h2)
  · exact frun_0 (by omega) (by omega)
theorem frun_f3 {f : Nat → Int32} {b n : Nat} (h0 : cA f b n 0 = nI 100) (h1 : zdg (cA f b n 1) 0 9 = true) (h2 : cA f b n 2 = nI 44) (h3 : tdy f b n = 0) : frun f b n 0 0 0 0 = nI 3 := by
  rw [frun_hd h0 h1 h2]
  have l2 : 2 < n := cA_lt h2 (by decide +kernel)
  have hs := tdy_stop (f := f) (b := b) (n := n)
  rw [h3] at hs
  by_cases l : 3 < n
  · refine frun_bad l ?_
    have z : ¬ zdg (f (b + 3)) 0 9 = true := fun w => hs ⟨by omega, l, w⟩
    simp only [sto]
    rw [if_neg z]
  · exact frun_0 (by omega) (by omega)
theorem tec_val {n pl e : Nat} (h : n = pl + 5 * e) (he : e ≤ 4) : tec n pl 4 0 = e := by
  subst h
  rcases (by omega : e = 0 ∨ e = 1 ∨ e = 2 ∨ e = 3 ∨ e = 4) with rfl | rfl | rfl | rfl | rfl
  · unfold tec; rw [if_neg (by omega)]
  · unfold tec; rw [if_pos (by omega)]; unfold tec; rw [if_neg (by omega)]
  · unfold tec; rw [if_pos (by omega)]; unfold tec; rw [if_pos (by omega)]; unfold tec; rw [if_neg (by omega)]
  · unfold tec; rw [if_pos (by omega)]; unfold tec; rw [if_pos (by omega)]; unfold tec; rw [if_pos (by omega)]; unfold tec; rw [if_neg (by omega)]
  · unfold tec; rw [if_pos (by omega)]; unfold tec; rw [if_pos (by omega)]; unfold tec; rw [if_pos (by omega)]; unfold tec; rw [if_pos (by omega)]; rfl
/-- how many eaters are read -/
def eln (f : Nat → Int32) (b n pl : Nat) : Nat → Nat → Nat
  | 0, e => e
  | r + 1, e => if (eaF f b n (pl + 5 * e) e).1 = true then eln f b n pl r (e + 1) else e
theorem eln_step {f : Nat → Int32} {b n pl e : Nat} (he : e < 4) (h : (eaF f b n (pl + 5 * e) e).1 = true) : eln f b n pl (4 - e) e = eln f b n pl (4 - (e + 1)) (e + 1) := by
  obtain ⟨r, hr⟩ : ∃ r, 4 - e = r + 1 := ⟨4 - e - 1, by omega⟩
  rw [hr, show 4 - (e + 1) = r by omega]
  conv => lhs; unfold eln
  rw [if_pos h]
theorem eln_end {f : Nat → Int32} {b n pl r e : Nat} (h : (eaF f b n (pl + 5 * e) e).1 = false) : eln f b n pl r e = e := by
  cases r with
  | zero => rfl
  | succ r => unfold eln; rw [if_neg (by rw [h]; decide)]
def hdA (f : Nat → Int32) (b n : Nat) : Bool := decide (cA f b n 0 = nI 100) && zdg (cA f b n 1) 0 9 && decide (cA f b n 2 = nI 44)
def fr0 (f : Nat → Int32) (b n : Nat) : Int32 := frun f b n 0 0 0 0
def pXA (f : Nat → Int32) (b n : Nat) : Nat := if fr0 f b n = (-1) then n else tn (fr0 f b n)
def pXB (f : Nat → Int32) (b n : Nat) : Int32 := if fr0 f b n = (-1) then f (b + 1) - nI 48 else if cA f b n 0 = nI 100 then fgI (cA f b n 1) 0 9 else -9
def pXC (f : Nat → Int32) (b n : Nat) : Nat := if fr0 f b n = (-1) then tdy f b n else if hdA f b n = true then tdy f b n else 0
def pXD (f : Nat → Int32) (b n : Nat) : Nat := if fr0 f b n = (-1) then tea n (tdy f b n) else if hdA f b n = true ∧ 0 < tdy f b n then eln f b n (3 + tdy f b n) 4 0 else 0
theorem pXA_f {f : Nat → Int32} {b n q : Nat} (hq : q < 1000) (h : fr0 f b n = nI q) : pXA f b n = q := by
  unfold pXA; rw [h, if_neg (nI_nm1 (by omega)), tn_nI (by omega)]
theorem hdA_t {f : Nat → Int32} {b n : Nat} (h0 : cA f b n 0 = nI 100) (h1 : zdg (cA f b n 1) 0 9 = true) (h2 : cA f b n 2 = nI 44) : hdA f b n = true := by unfold hdA; rw [h1]; simp [h0, h2]
theorem pX_f0 {f : Nat → Int32} {b n : Nat} (h0 : ¬ cA f b n 0 = nI 100) : (pXA f b n = 0 ∧ pXB f b n = -9 ∧ pXC f b n = 0 ∧ pXD f b n = 0) ∧ decide (fr0 f b n = (-1)) = false := by
  have h := frun_f0 (f := f) (b := b) (n := n) h0
  have hd : hdA f b n = false := by unfold hdA; rw [decide_eq_false h0]; rfl
  have hn : ¬ fr0 f b n = (-1) := by unfold fr0; rw [h]; exact nI_nm1 (by omega)
  refine ⟨⟨pXA_f (by omega) h, ?_, ?_, ?_⟩, decide_eq_false hn⟩
  · unfold pXB; rw [if_neg hn, if_neg h0]
  · unfold pXC; rw [if_neg hn, hd]; rfl
  · unfold pXD; rw [if_neg hn, hd]; rfl
theorem pX_f1 {f : Nat → Int32} {b n : Nat} (h0 : cA f b n 0 = nI 100) (h1 : zdg (cA f b n 1) 0 9 = false) : (pXA f b n = 1 ∧ pXB f b n = -9 ∧ pXC f b n = 0 ∧ pXD f b n = 0) ∧ decide (fr0 f b n = (-1)) = false := by
  have h := frun_f1 (f := f) (b := b) (n := n) h0 h1
  have hd : hdA f b n = false := by unfold hdA; rw [h1, Bool.and_false]; rfl
  have hn : ¬ fr0 f b n = (-1) := by unfold fr0; rw [h]; exact nI_nm1 (by omega)
  refine ⟨⟨pXA_f (by omega) h, ?_, ?_, ?_⟩, decide_eq_false hn⟩
  · unfold pXB; rw [if_neg hn, if_pos h0, fgI_f h1]
  · unfold pXC; rw [if_neg hn, hd]; rfl
  · unfold pXD; rw [if_neg hn, hd]; rfl
theorem pX_f2 {f : Nat → Int32} {b n : Nat} (h0 : cA f b n 0 = nI 100) (h1 : zdg (cA f b n 1) 0 9 = true) (h2 : ¬ cA f b n 2 = nI 44) : (pXA f b n = 2 ∧ pXB f b n = cA f b n 1 - nI 48 ∧ pXC f b n = 0 ∧ pXD f b n = 0) ∧ decide (fr0 f b n = (-1)) = false := by
  have h := frun_f2 (f := f) (b := b) (n := n) h0 h1 h2
  have hd : hdA f b n = false := by unfold hdA; rw [decide_eq_false h2, Bool.and_false]
  have hn : ¬ fr0 f b n = (-1) := by unfold fr0; rw [h]; exact nI_nm1 (by omega)
  refine ⟨⟨pXA_f (by omega) h, ?_, ?_, ?_⟩, decide_eq_false hn⟩
  · unfold pXB; rw [if_neg hn, if_pos h0, fgI_t h1]
  · unfold pXC; rw [if_neg hn, hd]; rfl
  · unfold pXD; rw [if_neg hn, hd]; rfl
theorem pX_f3 {f : Nat → Int32} {b n : Nat} (h0 : cA f b n 0 = nI 100) (h1 : zdg (cA f b n 1) 0 9 = true) (h2 : cA f b n 2 = nI 44) (h3 : ¬ 0 < tdy f b n) : (pXA f b n = 3 + tdy f b n ∧ pXB f b n = cA f b n 1 - nI 48 ∧ pXC f b n = tdy f b n ∧ pXD f b n = 0) ∧ decide (fr0 f b n = (-1)) = false := by
  have h := frun_f3 (f := f) (b := b) (n := n) h0 h1 h2 (by omega)
  have hd := hdA_t h0 h1 h2
  have hn : ¬ fr0 f b n = (-1) := by unfold fr0; rw [h]; exact nI_nm1 (by omega)
  refine ⟨⟨?_, ?_, ?_, ?_⟩, decide_eq_false hn⟩
  · rw [show 3 + tdy f b n = 3 by omega]; exact pXA_f (by omega) h
  · unfold pXB; rw [if_neg hn, if_pos h0, fgI_t h1]
  · unfold pXC; rw [if_neg hn, if_pos hd]
  · unfold pXD; rw [if_neg hn, if_neg (fun z => h3 z.2)]
theorem pX_f4 {f : Nat → Int32} {b n e q : Nat} (h0 : cA f b n 0 = nI 100) (h1 : zdg (cA f b n 1) 0 9 = true) (h2 : cA f b n 2 = nI 44) (h3 : 0 < tdy f b n) (he : e ≤ 4) (hn60 : n ≤ 240) (hq0 : q ≤ n) (hl : eln f b n (3 + tdy f b n) 4 0 = eln f b n (3 + tdy f b n) (4 - e) e)
    (hq : eaF f b n (3 + tdy f b n + 5 * e) e = (false, q)) (hr : frun f b n 0 0 0 0 = nI q) : (pXA f b n = q ∧ pXB f b n = cA f b n 1 - nI 48 ∧ pXC f b n = tdy f b n ∧ pXD f b n = e) ∧ decide (fr0 f b n = (-1)) = false := by
  have hd := hdA_t h0 h1 h2
  have hn : ¬ fr0 f b n = (-1) := by unfold fr0; rw [hr]; exact nI_nm1 (by omega)
  refine ⟨⟨pXA_f (by omega) hr, ?_, ?_, ?_⟩, decide_eq_false hn⟩
  · unfold pXB; rw [if_neg hn, if_pos h0, fgI_t h1]
  · unfold pXC; rw [if_neg hn, if_pos hd]
  · unfold pXD; rw [if_neg hn, if_pos ⟨hd, h3⟩, hl, eln_end (by rw [hq])]
theorem pX_t {f : Nat → Int32} {b n e : Nat} (h0 : cA f b n 0 = nI 100) (h1 : zdg (cA f b n 1) 0 9 = true) (h2 : cA f b n 2 = nI 44) (he : e ≤ 4) (hp : n = 3 + tdy f b n + 5 * e) (hr : frun f b n 0 0 0 0 = frun f b (n - (3 + tdy f b n + 5 * e)) (3 + tdy f b n + 5 * e) 9 (tdy f b n) e) : (pXA f b n = n ∧ pXB f b n = cA f b n 1 - nI 48 ∧ pXC f b n = tdy f b n ∧ pXD f b n = e) ∧ decide (fr0 f b n = (-1)) = true := by
  have l1 := zdg_lt (by omega) (by omega) h1
  have hn : fr0 f b n = (-1) := by
    unfold fr0
    rw [hr, ← hp, Nat.sub_self]; rfl
  refine ⟨⟨?_, ?_, ?_, ?_⟩, decide_eq_true hn⟩
  · unfold pXA; rw [if_pos hn]
  · unfold pXB; rw [if_pos hn, cA_in l1]
  · unfold pXC; rw [if_pos hn]
  · unfold pXD; rw [if_pos hn]; exact tec_val hp he
theorem pX_ok {f : Nat → Int32} {b n : Nat} (h : fr0 f b n = (-1)) : pXA f b n = n ∧ pXB f b n = f (b + 1) - nI 48 ∧ pXC f b n = tdy f b n ∧ pXD f b n = tea n (tdy f b n) := by
  refine ⟨?_, ?_, ?_, ?_⟩
  · unfold pXA; rw [if_pos h]
  · unfold pXB; rw [if_pos h]
  · unfold pXC; rw [if_pos h]
  · unfold pXD; rw [if_pos h]
theorem tea_le {n D : Nat} : tea n D ≤ 4 := tec_le 4 0
/-- rows of another's numbers -/
def cpl (h f : Nat → Int32) (n : Nat) : Nat → Int32 := fun q => if q < n then f q else h q
theorem cpl_0 (h f : Nat → Int32) : cpl h f 0 = h := by funext q; unfold cpl; rw [if_neg (by omega)]
theorem cpl_s (h f : Nat → Int32) (n : Nat) : upd (cpl h f n) n (f n) = cpl h f (n + 1) := by
  funext q
  unfold upd cpl
  by_cases e : q = n
  · subst e; rw [if_pos rfl, if_pos (by omega)]
  · rw [if_neg e]
    by_cases h2 : q < n
    · rw [if_pos h2, if_pos (by omega)]
    · rw [if_neg h2, if_neg (by omega)]
theorem tlk_at {f : Nat → Int32} {b : Nat} {lk : Nat → Int32} : ∀ {n : Nat} (q : Nat), tlk f b lk n q = if q < n then f (b + (3 + q)) - nI 48 else lk q
  | 0, q => by rw [if_neg (by omega)]; rfl
  | n + 1, q => by
    unfold tlk upd
    by_cases e : q = n
    · subst e; rw [if_pos rfl, if_pos (by omega)]
    · rw [if_neg e, tlk_at q]
      by_cases h : q < n
      · rw [if_pos h, if_pos (by omega)]
      · rw [if_neg h, if_neg (by omega)]
theorem tkd_at {f : Nat → Int32} {b pl : Nat} {kd : Nat → Int32} : ∀ {n : Nat} (q : Nat), tkd f b pl kd n q = if q < n then kbl (f (b + (pl + 5 * q) + 1)) else kd q
  | 0, q => by rw [if_neg (by omega)]; rfl
  | n + 1, q => by
    unfold tkd upd
    by_cases e : q = n
    · subst e; rw [if_pos rfl, if_pos (by omega)]
    · rw [if_neg e, tkd_at q]
      by_cases h : q < n
      · rw [if_pos h, if_pos (by omega)]
      · rw [if_neg h, if_neg (by omega)]
theorem tst_at {f : Nat → Int32} {b pl o : Nat} {st : Nat → Int32} : ∀ {n : Nat} (q : Nat), tst f b pl o st n q = if q < n then f (b + (pl + 5 * q) + o) - nI 48 else st q
  | 0, q => by rw [if_neg (by omega)]; rfl
  | n + 1, q => by
    unfold tst upd
    by_cases e : q = n
    · subst e; rw [if_pos rfl, if_pos (by omega)]
    · rw [if_neg e, tst_at q]
      by_cases h : q < n
      · rw [if_pos h, if_pos (by omega)]
      · rw [if_neg h, if_neg (by omega)]
theorem cpl_tlk {f : Nat → Int32} {b : Nat} {lk y : Nat → Int32} {n : Nat} : cpl lk (tlk f b y n) n = tlk f b lk n := by
  funext q
  unfold cpl
  rw [tlk_at, tlk_at]
  by_cases h : q < n
  · rw [if_pos h, if_pos h, if_pos h]
  · rw [if_neg h, if_neg h]
theorem cpl_tkd {f : Nat → Int32} {b pl : Nat} {kd y : Nat → Int32} {n : Nat} : cpl kd (tkd f b pl y n) n = tkd f b pl kd n := by
  funext q
  unfold cpl
  rw [tkd_at, tkd_at]
  by_cases h : q < n
  · rw [if_pos h, if_pos h, if_pos h]
  · rw [if_neg h, if_neg h]
theorem cpl_tst {f : Nat → Int32} {b pl o : Nat} {st y : Nat → Int32} {n : Nat} : cpl st (tst f b pl o y n) n = tst f b pl o st n := by
  funext q
  unfold cpl
  rw [tst_at, tst_at]
  by_cases h : q < n
  · rw [if_pos h, if_pos h, if_pos h]
  · rw [if_neg h, if_neg h]
/-- what cells a call takes -/
def ibB (i : Int32) (n : Int64) (al : Int32) : Bool := decide (i < 0) || decide (lg_cmp n 0 < 0) || decide (0 < lg_cmp (i.toInt64 + n) al.toInt64)
theorem ib_toInt {i n : Int32} : (i.toInt64 + n.toInt64).toInt = i.toInt + n.toInt := by
  have h1 := fb_rng i
  have h2 := fb_rng n
  rw [Int64.toInt_add, Int32.toInt_toInt64, Int32.toInt_toInt64]
  exact Int.bmod_eq_of_le (by omega) (by omega)
theorem lcz {n : Int32} : lg_cmp n.toInt64 0 < 0 ↔ n < 0 := by
  rw [lg_cmp_lt, fa_lt64, fa_lt, Int32.toInt_toInt64]
  exact Iff.rfl
theorem z_lt0 {n : Int32} : n < 0 ↔ n.toInt < 0 := by rw [fa_lt, Int32.toInt_zero]
theorem z_ge0 {n : Int32} : 0 ≤ n ↔ 0 ≤ n.toInt := by rw [fa_le, Int32.toInt_zero]
theorem vle_neg {le : Int32} (hv : vle le) (h : le < 0) : le = (-1) := by
  rcases hv with hv | ⟨m, hm, hv⟩
  · exact hv
  · rw [hv] at h; exact absurd h (nI_pos (by omega))
theorem vle_pos {le : Int32} (hv : vle le) (h : ¬ le < 0) : ¬ le = (-1) ∧ ∃ m, m ≤ 60 ∧ le = nI m := by
  rcases hv with hv | ⟨m, hm, hv⟩
  · rw [hv] at h; exact absurd (by decide +kernel) h
  · exact ⟨by rw [hv]; exact nI_nm1 (by omega), m, hm, hv⟩
theorem vle_ge {le : Int32} (hv : vle le) (h : 0 ≤ le) : ¬ le = (-1) ∧ ∃ m, m ≤ 60 ∧ le = nI m := vle_pos hv (fun z => by
  have h1 := z_ge0.mp h
  have h2 := z_lt0.mp z
  omega)
theorem vle_lt {le : Int32} (hv : vle le) (h : ¬ 0 ≤ le) : le = (-1) := vle_neg hv (by
  rw [z_ge0] at h
  rw [z_lt0]; omega)
theorem ibB_hcl {le i n : Int32} {m : Nat} (hm : m ≤ 60) (hl : le = nI m) : ibB i n.toInt64 le = !hcl le i n := by
  have e1 := z_lt0 (n := i)
  have e2 := z_lt0 (n := n)
  have e3 : (0 < lg_cmp (i.toInt64 + n.toInt64) le.toInt64) ↔ le.toInt < i.toInt + n.toInt := by
    rw [lg_cmp_gt, fa_lt64, ib_toInt, Int32.toInt_toInt64]
  have e4 : le < i ↔ le.toInt < i.toInt := fa_lt _ _
  have el : le.toInt = (m : Int) := by rw [hl, nI_toInt (by omega)]
  unfold ibB hcl
  by_cases q1 : i < 0
  · rw [decide_eq_true q1]; rfl
  · rw [decide_eq_false q1]
    by_cases q2 : n < 0
    · rw [decide_eq_true (lcz.mpr q2), decide_eq_true q2]; simp
    · rw [decide_eq_false (fun z => q2 (lcz.mp z)), decide_eq_false q2]
      have r1 : ¬ i.toInt < 0 := fun z => q1 (e1.mpr z)
      have r2 : ¬ n.toInt < 0 := fun z => q2 (e2.mpr z)
      have b1 := fb_rng i
      have b2 := fb_rng n
      by_cases q3 : le < i
      · rw [decide_eq_true q3, decide_eq_true (e3.mpr (by have := e4.mp q3; omega))]; simp
      · rw [decide_eq_false q3]
        have r3 : ¬ le.toInt < i.toInt := fun z => q3 (e4.mpr z)
        have e5 : le - i < n ↔ le.toInt - i.toInt < n.toInt := by rw [fa_lt, i32_sub_toInt (by omega) (by omega)]
        have e6 : (0 < lg_cmp (i.toInt64 + n.toInt64) le.toInt64) ↔ (le - i < n) := by rw [e3, e5]; omega
        rw [show decide (0 < lg_cmp (i.toInt64 + n.toInt64) le.toInt64) = decide (le - i < n) from decide_eq_decide.mpr e6]
        simp
theorem hcl_1 {m : Nat} {i : Int32} (hm : m ≤ 60) : hcl (nI m) i (nI 1) = zin i m := by
  have h := ibB_hcl (le := nI m) (i := i) (n := nI 1) hm rfl
  have e1 := z_lt0 (n := i)
  have el : (nI m).toInt = (m : Int) := nI_toInt (by omega)
  have e3 : (0 < lg_cmp (i.toInt64 + (nI 1).toInt64) (nI m).toInt64) ↔ (m : Int) < i.toInt + 1 := by
    rw [lg_cmp_gt, fa_lt64, ib_toInt, Int32.toInt_toInt64, el, nI_toInt (by omega)]; rfl
  have e4 : i < nI m ↔ i.toInt < (m : Int) := by rw [fa_lt, el]
  have e5 := z_ge0 (n := i)
  have h2 : hcl (nI m) i (nI 1) = !ibB i (nI 1).toInt64 (nI m) := by rw [h, Bool.not_not]
  rw [h2]
  unfold ibB zin
  rw [show decide (lg_cmp (nI 1).toInt64 0 < 0) = false by decide +kernel]
  by_cases q1 : i < 0
  · rw [decide_eq_true q1, show decide (0 ≤ i ∧ i < nI m) = false from decide_eq_false (fun z => by have := e5.mp z.1; have := e1.mp q1; omega)]; rfl
  · have r1 : ¬ i.toInt < 0 := fun z => q1 (e1.mpr z)
    rw [decide_eq_false q1]
    by_cases q2 : (m : Int) < i.toInt + 1
    · rw [decide_eq_true (e3.mpr q2), show decide (0 ≤ i ∧ i < nI m) = false from decide_eq_false (fun z => by have := e4.mp z.2; omega)]; rfl
    · rw [decide_eq_false (fun z => q2 (e3.mp z)), show decide (0 ≤ i ∧ i < nI m) = true from decide_eq_true ⟨e5.mpr (by omega), e4.mpr (by omega)⟩]; rfl
theorem foc_nul {ln al i n : Int32} : foc ln (-1) al i n = nI 1 := by
  unfold foc
  rw [if_neg (fun z => z.1 rfl), if_pos rfl]
theorem foc_cst {ln le al i n : Int32} (h : ¬ le = (-1)) (h2 : ¬ ln = al) : foc ln le al i n = nI 2 := by unfold foc; rw [if_pos ⟨h, h2⟩]
theorem foc_siz {ln le al i n : Int32} (h : ¬ le = (-1)) (h2 : ln = al) (h3 : ¬ 0 ≤ n) : foc ln le al i n = nI 4 := by unfold foc; rw [if_neg (fun z => z.2 h2), if_neg h, if_neg h3]
theorem foc_ind {ln le al i n : Int32} (h : ¬ le = (-1)) (h2 : ln = al) (h3 : 0 ≤ n) (h4 : hcl le i n = false) : foc ln le al i n = nI 3 := by unfold foc; rw [if_neg (fun z => z.2 h2), if_neg h, if_pos h3, h4]; rfl
theorem foc_non {ln le al i n : Int32} (h : ¬ le = (-1)) (h2 : ln = al) (h3 : 0 ≤ n) (h4 : hcl le i n = true) : foc ln le al i n = nI 0 := by unfold foc; rw [if_neg (fun z => z.2 h2), if_neg h, if_pos h3, h4]; rfl
theorem foc_cases (ln le al i n : Int32) : foc ln le al i n = nI 0 ∨ foc ln le al i n = nI 1 ∨ foc ln le al i n = nI 2 ∨ foc ln le al i n = nI 3 ∨ foc ln le al i n = nI 4 := by
  unfold foc
  split
  · exact Or.inr (Or.inr (Or.inl rfl))
  · split
    · exact Or.inr (Or.inl rfl)
    · split
      · split
        · exact Or.inl rfl
        · exact Or.inr (Or.inr (Or.inr (Or.inl rfl)))
      · exact Or.inr (Or.inr (Or.inr (Or.inr rfl)))
theorem foc_neg {ln le al i n : Int32} (h : ¬ foc ln le al i n = 0) : ¬ 0 ≤ (-10) - foc ln le al i n := by
  rcases foc_cases ln le al i n with q | q | q | q | q <;> rw [q] at h ⊢
  · exact absurd nI_0 h
  all_goals decide +kernel
theorem foc_pos {ln le al i n : Int32} (h : ¬ foc ln le al i n = 0) : ¬ foc ln le al i n ≤ 0 := by
  rcases foc_cases ln le al i n with q | q | q | q | q <;> rw [q] at h ⊢
  · exact absurd nI_0 h
  all_goals decide +kernel
theorem foc_al {ln le al al' i n : Int32} (h : ¬ (¬ le = (-1) ∧ ¬ ln = al)) (h' : ¬ (¬ le = (-1) ∧ ¬ ln = al')) : foc ln le al i n = foc ln le al' i n := by unfold foc; rw [if_neg h, if_neg h']
theorem foc_own1 {ln : Int32} {m : Nat} {i : Int32} (hm : m ≤ 60) : foc ln (nI m) ln i (nI 1) = if zin i m then nI 0 else nI 3 := by
  unfold foc
  rw [if_neg (fun z => z.2 rfl), if_neg (nI_nm1 (by omega)), if_pos (by decide +kernel), hcl_1 hm]
def zim (x : Int32) : Bool := !decide (x < nI 10) && !decide (nI 16 ≤ x)
theorem zil_im {x : Int32} : zil x.toInt64 10 15 = zim x := by
  have e1 : (nI 10).toInt = 10 := by decide +kernel
  have e2 : (nI 16).toInt = 16 := by decide +kernel
  have h1 : ((10 : Int64) ≤ x.toInt64) ↔ ¬ x < nI 10 := by
    rw [fa_le64, fa_lt, Int32.toInt_toInt64, e1, show (10 : Int64).toInt = 10 by decide +kernel]; omega
  have h2 : (x.toInt64 ≤ (15 : Int64)) ↔ ¬ nI 16 ≤ x := by
    rw [fa_le64, fa_le, Int32.toInt_toInt64, e2, show (15 : Int64).toInt = 15 by decide +kernel]; omega
  rw [zil_eq]
  unfold zim
  rw [show decide ((10 : Int64) ≤ x.toInt64 ∧ x.toInt64 ≤ 15) = decide (¬ x < nI 10 ∧ ¬ nI 16 ≤ x) from decide_eq_decide.mpr (and_congr h1 h2)]
  by_cases q1 : x < nI 10 <;> by_cases q2 : nI 16 ≤ x <;> simp [q1, q2]
theorem zim_t {x : Int32} (h : zim x = true) : ∃ w, 10 ≤ w ∧ w < 16 ∧ x = nI w := by
  unfold zim at h
  simp only [Bool.and_eq_true, Bool.not_eq_true', decide_eq_false_iff_not] at h
  have e1 : ¬ x.toInt < (nI 10).toInt := fun z => h.1 ((fa_lt _ _).mpr z)
  have e2 : ¬ (nI 16).toInt ≤ x.toInt := fun z => h.2 ((fa_le _ _).mpr z)
  rw [nI_toInt (by omega)] at e1 e2
  obtain ⟨j, hj, ej⟩ := nI_of_toInt (x := x) (by omega)
  exact ⟨j, by omega, by omega, hj⟩
theorem apl_z (x : Int32) : apl x = (zin x 4 || zim x) := rfl
theorem fdx_0 : ∀ r d, fdx 0 r d = -9
  | 0, _ => rfl
  | r + 1, d => by
    unfold fdx
    rw [show zbt 0 d = false by unfold zbt; rw [Nat.zero_div]; rfl, if_neg (by decide)]
    exact fdx_0 r (d + 1)
theorem fnd_ltD {D L S F : Nat} : fnd D L S F < 2 ^ D := Nat.lt_of_le_of_lt Nat.and_le_left yl_ltD
theorem opl_ltD {D : Nat} {kd st : Nat → Int32} {F : Nat} {f : Nat → Int32} {i : Nat} : ∀ n, opl D kd st F f i n < 2 ^ D
  | 0 => Nat.two_pow_pos D
  | n + 1 => Nat.or_lt_two_pow (opl_ltD n) fnd_ltD
theorem ffo_fdx {D : Nat} {kd st : Nat → Int32} {F : Nat} {f : Nat → Int32} {i : Nat} (hD : D ≤ 6) : ∀ n, ffo D kd st F f i n = fdx (opl D kd st F f i n) D 0
  | 0 => (fdx_0 D 0).symm
  | n + 1 => by
    unfold ffo opl
    rw [ffo_fdx hD n]
    exact mfd_fdx D hD _ (opl_ltD n) _ fnd_ltD
theorem bI_tt : bI true = nI 1 := by decide +kernel
theorem bI_ff : bI false = nI 0 := by decide +kernel
theorem fpl_bd {D E : Nat} {kd st sp : Nat → Int32} {F : Nat} {f : Nat → Int32} {i : Nat} (hS : vS sp E) : ∀ n, n ≤ E → fpl D kd st sp F f i n ≤ 54 * n
  | 0, _ => Nat.le_refl 0
  | n + 1, h => by
    unfold fpl
    have ih := fpl_bd (D := D) (kd := kd) (st := st) (F := F) (f := f) (i := i) hS n (by omega)
    have h1 := (hS n (by omega)).2.1
    have h2 := pc_le (fnd D (Lf kd st n) (tn (f (i + n))) F)
    have h3 : pc (fnd D (Lf kd st n) (tn (f (i + n))) F) * tn (sp n) ≤ 6 * 9 := Nat.mul_le_mul h2 h1
    omega
theorem dpl_s {D : Nat} {kd st : Nat → Int32} {F : Nat} {f : Nat → Int32} {i d a : Nat} : dpl D kd st F f i d (a + 1) = dpl D kd st F f i d a + (if zbt (fnd D (Lf kd st a) (tn (f (i + a))) F) d = true then 1 else 0) := by
  have e : dpl D kd st F f i d (a + 1) = dpl D kd st F f i d a + fnd D (Lf kd st a) (tn (f (i + a))) F / 2 ^ d % 2 := rfl
  rw [e]
  by_cases q : fnd D (Lf kd st a) (tn (f (i + a))) F / 2 ^ d % 2 = 1
  · have z : zbt (fnd D (Lf kd st a) (tn (f (i + a))) F) d = true := decide_eq_true q
    rw [q, if_pos z]
  · have z : ¬ zbt (fnd D (Lf kd st a) (tn (f (i + a))) F) d = true := fun w => q (of_decide_eq_true w)
    rw [if_neg z, show fnd D (Lf kd st a) (tn (f (i + a))) F / 2 ^ d % 2 = 0 by omega]
theorem bTF (b : Bool) : b = true ∨ b = false := by cases b <;> simp
theorem pr_tf (x : Bool × Nat) : (∃ q, x = (false, q)) ∨ (∃ q, x = (true, q)) := by
  obtain ⟨b, q⟩ := x
  cases b
  · exact Or.inl ⟨q, rfl⟩
  · exact Or.inr ⟨q, rfl⟩
theorem pr_t {α : Type} {t : Bool × Nat} {q : Nat} {A B C : α} (h : t = (true, q)) (e : A = C) : (if t.1 = true then A else B) = C := by rw [h]; exact e
theorem pr_f {α : Type} {t : Bool × Nat} {q : Nat} {A B : α} (h : t = (false, q)) : (if t.1 = true then A else B) = B := by rw [h]; rfl
def cbI (f : Int32) : Int32 := if f = nI 0 then nI 0 else (-10) - f
theorem cb_e {f c : Int32} (h : f = c) (hc : ¬ c = nI 0) : (-10) - c = cbI f := by subst h; exact (if_neg hc).symm
theorem cb_z {f : Int32} (h : f = nI 0) : nI 0 = cbI f := (if_pos h).symm
theorem cb_0 {f : Int32} (h : f = 0) : cbI f = nI 0 := if_pos (h.trans nI_0.symm)
theorem cb_1 {f : Int32} (h : ¬ f = 0) : cbI f = (-10) - f := if_neg (fun z => h (z.trans nI_0))
theorem cf_e {f c t : Int32} (h : f = c) (hc : ¬ c = nI 0) : (if f = 0 then t else f) = c := by
  subst h
  exact if_neg (fun z => hc (z.trans nI_0.symm))
theorem cf_z {f t : Int32} (h : f = nI 0) : (if f = 0 then t else f) = t := if_pos (h.trans nI_0)
theorem frun_nx {f : Nat → Int32} {b n e q : Nat} (hp : 3 + tdy f b n + 5 * e ≤ n) (he : e ≤ 4) (hs : e = 0 ∨ 3 + tdy f b n + 5 * e < n) (h : eaF f b n (3 + tdy f b n + 5 * e) e = (false, q)) : frun f b (n - (3 + tdy f b n + 5 * e)) (3 + tdy f b n + 5 * e) (if e = 0 then 4 else 9) (tdy f b n) e = nI q := by
  by_cases z : e = 0
  · subst z
    rw [if_pos rfl]
    exact frun_nea hp (Or.inl ⟨rfl, rfl, tdy_stop⟩) he h
  · rw [if_neg z]
    exact frun_nea hp (Or.inr ⟨rfl, by omega⟩) he h
theorem frun_nxt {f : Nat → Int32} {b n e q : Nat} (he : e ≤ 4) (h : eaF f b n (3 + tdy f b n + 5 * e) e = (true, q)) : frun f b (n - (3 + tdy f b n + 5 * e)) (3 + tdy f b n + 5 * e) (if e = 0 then 4 else 9) (tdy f b n) e = frun f b (n - (3 + tdy f b n + 5 * (e + 1))) (3 + tdy f b n + 5 * (e + 1)) (if e + 1 = 0 then 4 else 9) (tdy f b n) (e + 1) := by
  rw [if_neg (show ¬ e + 1 = 0 by omega), show 3 + tdy f b n + 5 * (e + 1) = 3 + tdy f b n + 5 * e + 5 by omega]
  refine frun_ea ?_ he h
  by_cases z : e = 0
  · left; rw [if_pos z]; exact ⟨rfl, z⟩
  · right; rw [if_neg z]
theorem frun_val {f : Nat → Int32} {b : Nat} : ∀ r p s dy ea, frun f b r p s dy ea = (-1) ∨ ∃ q, q ≤ p + r ∧ frun f b r p s dy ea = nI q
  | 0, p, s, dy, ea => by
    unfold frun
    by_cases h : s = 9
    · exact Or.inl (if_pos h)
    · exact Or.inr ⟨p, by omega, if_neg h⟩
  | r + 1, p, s, dy, ea => by
    unfold frun
    split
    · exact Or.inr ⟨p, by omega, rfl⟩
    · rename_i s' hs
      rcases frun_val (f := f) (b := b) r (p + 1) s' (dy + if s' = 4 then 1 else 0) (ea + if s' = 5 then 1 else 0) with h | ⟨q, hq, h⟩
      · exact Or.inl h
      · exact Or.inr ⟨q, by omega, h⟩
theorem pXA_nI {f : Nat → Int32} {b n : Nat} (hn : n ≤ 240) (h : ¬ fr0 f b n = (-1)) : nI (pXA f b n) = fr0 f b n := by
  rcases frun_val (f := f) (b := b) n 0 0 0 0 with q | ⟨q, hq, e⟩
  · exact absurd q h
  · unfold pXA
    rw [if_neg h]
    unfold fr0
    rw [e, tn_nI (by omega)]
theorem lcz_ge {n : Int32} : 0 ≤ lg_cmp n.toInt64 0 ↔ 0 ≤ n := by
  have h := lcz (n := n)
  rw [z_lt0, z_lt0] at h
  rw [z_ge0, z_ge0]
  omega
theorem le_nlt {a b : Int32} (h : a ≤ b) : ¬ b < a := fun z => by
  have h1 := (fa_le _ _).mp h
  have h2 := (fa_lt _ _).mp z
  omega
theorem nle_lt {a b : Int32} (h : ¬ a ≤ b) : b < a := (fa_lt _ _).mpr (by
  have h1 : ¬ a.toInt ≤ b.toInt := fun z => h ((fa_le _ _).mpr z)
  omega)
theorem n60 {n : Int32} (h1 : ¬ nI 60 < n) (h2 : 0 ≤ n) : ∃ j, n = nI j ∧ j ≤ 60 := by
  have e1 : ¬ (nI 60).toInt < n.toInt := fun z => h1 ((fa_lt _ _).mpr z)
  rw [nI_toInt (by omega)] at e1
  obtain ⟨j, hj, ej⟩ := nI_of_toInt (z_ge0.mp h2)
  exact ⟨j, hj, by omega⟩
theorem cut_0 {ln v : Int32} (h : ln = 0) : v.toInt8.toInt32 = cut ln v := (if_pos (h.trans nI_0.symm)).symm
theorem cut_1 {ln v : Int32} (h : ¬ ln = 0) (h1 : ln = nI 1) : v.toInt16.toInt32 = cut ln v := by
  unfold cut
  rw [if_neg (fun z => h (z.trans nI_0)), if_pos h1]
theorem cut_2 {ln v : Int32} (h : ¬ ln = 0) (h1 : ¬ ln = nI 1) : v = cut ln v := by
  unfold cut
  rw [if_neg (fun z => h (z.trans nI_0)), if_neg h1]
theorem wpl_t {D : Nat} {kd st : Nat → Int32} {F : Nat} {f : Nat → Int32} {i a : Nat} (h : 0 < fnd D (Lf kd st a) (tn (f (i + a))) F) : wpl D kd st F f i a ||| 2 ^ a = wpl D kd st F f i (a + 1) := by
  conv => rhs; unfold wpl
  rw [if_neg (by omega)]
theorem wpl_f {D : Nat} {kd st : Nat → Int32} {F : Nat} {f : Nat → Int32} {i a : Nat} (h : fnd D (Lf kd st a) (tn (f (i + a))) F ≤ 0) : wpl D kd st F f i a ||| 0 = wpl D kd st F f i (a + 1) := by
  conv => rhs; unfold wpl
  rw [if_pos (by omega), Nat.or_zero]
theorem hpl_t {nd f : Nat → Int32} {i a : Nat} (h : nd a ≤ nI (pc (tn (f (i + a))))) : hpl nd f i a ||| 0 = hpl nd f i (a + 1) := by
  conv => rhs; unfold hpl
  rw [if_pos h, Nat.or_zero]
theorem hpl_f {nd f : Nat → Int32} {i a : Nat} (h : ¬ nd a ≤ nI (pc (tn (f (i + a))))) : hpl nd f i a ||| 2 ^ a = hpl nd f i (a + 1) := by
  conv => rhs; unfold hpl
  rw [if_neg h]
theorem dpl_t {D : Nat} {kd st : Nat → Int32} {F : Nat} {f : Nat → Int32} {i d a : Nat} (h : zbt (fnd D (Lf kd st a) (tn (f (i + a))) F) d = true) : dpl D kd st F f i d a + 1 = dpl D kd st F f i d (a + 1) := by rw [dpl_s, if_pos h]
theorem dpl_f {D : Nat} {kd st : Nat → Int32} {F : Nat} {f : Nat → Int32} {i d a : Nat} (h : zbt (fnd D (Lf kd st a) (tn (f (i + a))) F) d = false) : dpl D kd st F f i d a = dpl D kd st F f i d (a + 1) := by rw [dpl_s, if_neg (by rw [h]; decide)]; rfl
theorem mfd_n {D its c : Nat} {f : Int32} (h : zbt its (D - c - 1) = false) : mfd D its f c = mfd D its f (c + 1) := by
  show _ = mf1 its (D - c - 1) (mfd D its f c)
  unfold mf1
  rw [if_neg (by rw [h]; decide)]
theorem mfd_a {D its c : Nat} {f : Int32} (h : zbt its (D - c - 1) = true) (h2 : mfd D its f c < 0) : nI (D - c - 1) = mfd D its f (c + 1) := by
  show _ = mf1 its (D - c - 1) (mfd D its f c)
  unfold mf1
  rw [if_pos h, if_pos h2]
theorem mfd_b {D its c : Nat} {f : Int32} (h : zbt its (D - c - 1) = true) (h2 : ¬ mfd D its f c < 0) (h3 : mfd D its f c ≤ nI (D - c - 1)) : mfd D its f c = mfd D its f (c + 1) := by
  show _ = mf1 its (D - c - 1) (mfd D its f c)
  unfold mf1
  rw [if_pos h, if_neg h2, if_pos h3]
theorem mfd_c {D its c : Nat} {f : Int32} (h : zbt its (D - c - 1) = true) (h2 : ¬ mfd D its f c < 0) (h3 : ¬ mfd D its f c ≤ nI (D - c - 1)) : nI (D - c - 1) = mfd D its f (c + 1) := by
  show _ = mf1 its (D - c - 1) (mfd D its f c)
  unfold mf1
  rw [if_pos h, if_neg h2, if_neg h3]
theorem nI_ne {a b : Nat} (ha : a < 2 ^ 31) (hb : b < 2 ^ 31) (h : a ≠ b) : ¬ nI a = nI b := fun z => h ((nI_eq ha hb).mp z)
theorem ofp_0 {D E : Nat} {lk : Nat → Int32} {so : Int32} {kd st sp nd ce : Nat → Int32} {i w : Nat} (h : w = 0) : ofp D E lk so kd st sp nd ce i (nI w) = nI (fpl D kd st sp (fs lk so D) ce i E) := by
  subst h; exact if_pos rfl
theorem ofp_1 {D E : Nat} {lk : Nat → Int32} {so : Int32} {kd st sp nd ce : Nat → Int32} {i w : Nat} (h : w = 1) : ofp D E lk so kd st sp nd ce i (nI w) = fdx (opl D kd st (fs lk so D) ce i E) D 0 := by
  subst h
  unfold ofp
  rw [if_neg (nI_ne (by omega) (by omega) (by omega)), if_pos rfl]
theorem ofp_2 {D E : Nat} {lk : Nat → Int32} {so : Int32} {kd st sp nd ce : Nat → Int32} {i w : Nat} (h : w = 2) : ofp D E lk so kd st sp nd ce i (nI w) = nI (wpl D kd st (fs lk so D) ce i E) := by
  subst h
  unfold ofp
  rw [if_neg (nI_ne (by omega) (by omega) (by omega)), if_neg (nI_ne (by omega) (by omega) (by omega)), if_pos rfl]
theorem ofp_3 {D E : Nat} {lk : Nat → Int32} {so : Int32} {kd st sp nd ce : Nat → Int32} {i w : Nat} (h : w = 3) : ofp D E lk so kd st sp nd ce i (nI w) = nI (hpl nd ce i E) := by
  subst h
  unfold ofp
  rw [if_neg (nI_ne (by omega) (by omega) (by omega)), if_neg (nI_ne (by omega) (by omega) (by omega)), if_neg (nI_ne (by omega) (by omega) (by omega)), if_pos rfl]
theorem ofp_d {D E : Nat} {lk : Nat → Int32} {so : Int32} {kd st sp nd ce : Nat → Int32} {i w : Nat} (h1 : 10 ≤ w) (h2 : w < 16) : ofp D E lk so kd st sp nd ce i (nI w) = if zin (nI (w - 10)) D = true then nI (dpl D kd st (fs lk so D) ce i (w - 10) E) else -9 := by
  unfold ofp
  rw [if_neg (nI_ne (by omega) (by omega) (by omega)), if_neg (nI_ne (by omega) (by omega) (by omega)), if_neg (nI_ne (by omega) (by omega) (by omega)), if_neg (nI_ne (by omega) (by omega) (by omega)), pk_sub h1, tn_nI (by omega)]
theorem nI_2z : (nI 2 = 0) = False := by decide +kernel
