/-! what the system answers: functions over its numbers -/
def pc (n : Nat) : Nat := n % 2 + n / 2 % 2 + n / 4 % 2 + n / 8 % 2 + n / 16 % 2 + n / 32 % 2
def zbt (n k : Nat) : Bool := decide (n / 2 ^ k % 2 = 1)
/-- how long a tongue stays yellow, by kind and stay -/
def lbI (kd st : Int32) : Int32 := if kd = 0 then st else if kd = nI 1 then (if st ≤ 0 then nI 0 else st - nI 1) else (if st ≤ 0 then nI 0 else st - nI 1) / nI 2
def Lf (kd st : Nat → Int32) (a : Nat) : Nat := tn (lbI (kd a) (st a))
def vL (kd st : Nat → Int32) (E : Nat) : Prop := ∀ a, a < E → lbI (kd a) (st a) = nI (Lf kd st a) ∧ Lf kd st a ≤ 5
/-- yellow days of D, by a tongue that stays yellow for L days, of the set S -/
def yo (S : Nat) : Nat → Nat
  | 0 => 0
  | b + 1 => yo S b ||| S * 2 ^ b
def yl (D L S : Nat) : Nat := yo S (L + 1) &&& (2 ^ D - 1)
def fs (lk : Nat → Int32) (so : Int32) : Nat → Nat
  | 0 => 0
  | d + 1 => if lk d < so then fs lk so d else fs lk so d ||| 2 ^ d
def clr (F d : Nat) : Nat := F &&& (63 - 2 ^ d)
def fnd (D L S F : Nat) : Nat := yl D L S &&& F
/-- best -/
def isb (fo S lf be : Nat) : Bool := decide (fo < lf) || (decide (fo = lf) && decide (pc S < pc be))
def bsF (D L : Nat) (nd : Int32) (F : Nat) : Nat → Option (Nat × Nat)
  | 0 => none
  | S + 1 => if nI (pc S) < nd then bsF D L nd F S else match bsF D L nd F S with
    | none => some (S, pc (fnd D L S F))
    | some (b, m) => if isb (pc (fnd D L S F)) S m b then some (S, pc (fnd D L S F)) else some (b, m)
def obI (o : Option (Nat × Nat)) : Int32 := match o with
  | none => -9
  | some (b, _) => nI b
def olI (o : Option (Nat × Nat)) : Int32 := match o with
  | none => nI 0
  | some (_, m) => nI m
def onI (o : Option Nat) : Int32 := match o with
  | none => -9
  | some p => nI p
def bst (D L : Nat) (nd : Int32) (F : Nat) : Option (Nat × Nat) := bsF D L nd F (2 ^ D)
/-- what the first n eaters pay -/
def vil (D : Nat) (kd st sp nd : Nat → Int32) (F : Nat) : Nat → Option Nat
  | 0 => some 0
  | a + 1 => match vil D kd st sp nd F a, bst D (Lf kd st a) (nd a) F with
    | some p, some (b, _) => some (p + pc (fnd D (Lf kd st a) b F) * tn (sp a))
    | _, _ => none
def vS (sp : Nat → Int32) (E : Nat) : Prop := ∀ a, a < E → sp a = nI (tn (sp a)) ∧ tn (sp a) ≤ 9 ∧ 1 ≤ tn (sp a)
def smF (D E : Nat) (kd st sp nd : Nat → Int32) (F : Nat) : Nat → Option (Nat × Nat)
  | 0 => none
  | d + 1 => match (if zbt F d then vil D kd st sp nd (clr F d) E else none) with
    | none => smF D E kd st sp nd F d
    | some p => match smF D E kd st sp nd F d with
      | none => some (d, p)
      | some (s, m) => if p < m then some (d, p) else some (s, m)
/-- readings: whether all are so -/
def so1 (D : Nat) (lk : Nat → Int32) (so : Int32) (kd st rO rB rD rW : Nat → Int32) (r : Nat) : Bool := (zbt (yl D (Lf kd st (tn (rO r))) (tn (rB r))) (tn (rD r)) && !decide (lk (tn (rD r)) < so)) == decide (rW r = 1)
def ar (D : Nat) (lk : Nat → Int32) (so : Int32) (kd st rO rB rD rW : Nat → Int32) : Nat → Bool
  | 0 => true
  | r + 1 => ar D lk so kd st rO rB rD rW r && so1 D lk so kd st rO rB rD rW r
/-- the same, one eater's tongue staying yellow for lo days -/
def sx1 (D : Nat) (lk : Nat → Int32) (so : Int32) (kd st rO rB rD rW : Nat → Int32) (one : Int32) (lo : Nat) (r : Nat) : Bool := (zbt (yl D (if nI (tn (rO r)) = one then lo else Lf kd st (tn (rO r))) (tn (rB r))) (tn (rD r)) && !decide (lk (tn (rD r)) < so)) == decide (rW r = 1)
def ax (D : Nat) (lk : Nat → Int32) (so : Int32) (kd st rO rB rD rW : Nat → Int32) (one : Int32) (lo : Nat) : Nat → Bool
  | 0 => true
  | r + 1 => ax D lk so kd st rO rB rD rW one lo r && sx1 D lk so kd st rO rB rD rW one lo r
def vR (D E C : Nat) (rO rB rD rW : Nat → Int32) : Prop := ∀ r, r < C → (rO r = nI (tn (rO r)) ∧ tn (rO r) < E) ∧ (rB r = nI (tn (rB r)) ∧ tn (rB r) < 2 ^ D) ∧ (rD r = nI (tn (rD r)) ∧ tn (rD r) < D) ∧ rW r = bI (decide (rW r = 1))
def sets (p : Nat → Bool) : Nat → Nat
  | 0 => 0
  | v + 1 => if p v then sets p v ||| 2 ^ v else sets p v
/-- plans -/
def alp (f : Nat → Int32) (i D : Nat) : Nat → Bool
  | 0 => true
  | a + 1 => alp f i D a && zin (f (i + a)) (2 ^ D)
def fpl (D : Nat) (kd st sp : Nat → Int32) (F : Nat) (f : Nat → Int32) (i : Nat) : Nat → Nat
  | 0 => 0
  | a + 1 => fpl D kd st sp F f i a + pc (fnd D (Lf kd st a) (tn (f (i + a))) F) * tn (sp a)
def opl (D : Nat) (kd st : Nat → Int32) (F : Nat) (f : Nat → Int32) (i : Nat) : Nat → Nat
  | 0 => 0
  | a + 1 => opl D kd st F f i a ||| fnd D (Lf kd st a) (tn (f (i + a))) F
def wpl (D : Nat) (kd st : Nat → Int32) (F : Nat) (f : Nat → Int32) (i : Nat) : Nat → Nat
  | 0 => 0
  | a + 1 => if fnd D (Lf kd st a) (tn (f (i + a))) F = 0 then wpl D kd st F f i a else wpl D kd st F f i a ||| 2 ^ a
def hpl (nd : Nat → Int32) (f : Nat → Int32) (i : Nat) : Nat → Nat
  | 0 => 0
  | a + 1 => if nd a ≤ nI (pc (tn (f (i + a)))) then hpl nd f i a else hpl nd f i a ||| 2 ^ a
def dpl (D : Nat) (kd st : Nat → Int32) (F : Nat) (f : Nat → Int32) (i d : Nat) : Nat → Nat
  | 0 => 0
  | a + 1 => dpl D kd st F f i d a + fnd D (Lf kd st a) (tn (f (i + a))) F / 2 ^ d % 2
/-- the first day of a set -/
def fdx (F : Nat) : Nat → Nat → Int32
  | 0, _ => -9
  | r + 1, d => if zbt F d then nI d else fdx F r (d + 1)
/-- a text: how it goes on; a step is named by what stands last -/
def zdg (c : Int32) (lo hi : Nat) : Bool := !decide (c < nI (48 + lo)) && !decide (nI (48 + hi) < c)
def kbl (c : Int32) : Int32 := if c = nI 101 then nI 0 else if c = nI 115 then nI 1 else if c = nI 108 then nI 2 else -9
def sto (s : Nat) (c : Int32) (dy ea : Nat) : Option Nat := match s with
  | 0 => if c = nI 100 then some 1 else none
  | 1 => if zdg c 0 9 then some 2 else none
  | 2 => if c = nI 44 then some 3 else none
  | 3 => if zdg c 0 9 then some 4 else none
  | 4 => if c = nI 59 then some 5 else if zdg c 0 9 && decide (dy < 6) then some 4 else none
  | 5 => if kbl c = -9 then none else some 6
  | 6 => if zdg c 0 5 then some 7 else none
  | 7 => if zdg c 1 9 then some 8 else none
  | 8 => if zdg c 0 6 then some 9 else none
  | 9 => if c = nI 59 && decide (ea < 4) then some 5 else none
  | _ => none
def ostI (o : Option Nat) : Int32 := match o with
  | none => -1
  | some k => nI k
/-- the class's run over a text's codes (the cells of f from b on), r of them left, from place p on -/
def frun (f : Nat → Int32) (b : Nat) : Nat → Nat → Nat → Nat → Nat → Int32
  | 0, p, s, _, _ => if s = 9 then -1 else nI p
  | r + 1, p, s, dy, ea => match sto s (f (b + p)) dy ea with
    | none => nI p
    | some s' => frun f b r (p + 1) (s') (dy + if s' = 4 then 1 else 0) (ea + if s' = 5 then 1 else 0)
/-- how many days, eaters a text tells that has no fault -/
def tdc (f : Nat → Int32) (b n : Nat) : Nat → Nat → Nat
  | 0, d => d
  | r + 1, d => if 3 + d < n ∧ zdg (f (b + (3 + d))) 0 9 = true then tdc f b n r (d + 1) else d
def tec (n pl : Nat) : Nat → Nat → Nat
  | 0, e => e
  | r + 1, e => if pl + 5 * e + 4 < n then tec n pl r (e + 1) else e
def tdy (f : Nat → Int32) (b n : Nat) : Nat := tdc f b n 6 0
def tea (n D : Nat) : Nat := tec n (3 + D) 4 0
def tlk (f : Nat → Int32) (b : Nat) (lk : Nat → Int32) : Nat → Nat → Int32
  | 0 => lk
  | d + 1 => upd (tlk f b lk d) d (f (b + (3 + d)) - nI 48)
def tkd (f : Nat → Int32) (b pl : Nat) (kd : Nat → Int32) : Nat → Nat → Int32
  | 0 => kd
  | e + 1 => upd (tkd f b pl kd e) e (kbl (f (b + (pl + 5 * e) + 1)))
def tst (f : Nat → Int32) (b pl o : Nat) (st : Nat → Int32) : Nat → Nat → Int32
  | 0 => st
  | e + 1 => upd (tst f b pl o st e) e (f (b + (pl + 5 * e) + o) - nI 48)
theorem tdc_end {f : Nat → Int32} {b n r d : Nat} (h : ¬ (3 + d < n ∧ zdg (f (b + (3 + d))) 0 9 = true)) : tdc f b n r d = d := by
  cases r with
  | zero => rfl
  | succ r => unfold tdc; rw [if_neg h]
theorem tdc_step {f : Nat → Int32} {b n d : Nat} (hd : d < 6) (h : 3 + d < n) (h2 : zdg (f (b + (3 + d))) 0 9 = true) : tdc f b n (6 - d) d = tdc f b n (6 - (d + 1)) (d + 1) := by
  obtain ⟨r, hr⟩ : ∃ r, 6 - d = r + 1 := ⟨6 - d - 1, by omega⟩
  rw [hr, show 6 - (d + 1) = r by omega]
  conv => lhs; unfold tdc
  rw [if_pos ⟨h, h2⟩]
theorem tec_end {n pl r e : Nat} (h : ¬ pl + 5 * e + 4 < n) : tec n pl r e = e := by
  cases r with
  | zero => rfl
  | succ r => unfold tec; rw [if_neg h]
theorem tec_step {n pl e : Nat} (he : e < 4) (h : pl + 5 * e + 4 < n) : tec n pl (4 - e) e = tec n pl (4 - (e + 1)) (e + 1) := by
  obtain ⟨r, hr⟩ : ∃ r, 4 - e = r + 1 := ⟨4 - e - 1, by omega⟩
  rw [hr, show 4 - (e + 1) = r by omega]
  conv => lhs; unfold tec
  rw [if_pos h]
theorem tdc_le {f : Nat → Int32} {b n : Nat} : ∀ r d, tdc f b n r d ≤ d + r
  | 0, d => Nat.le_refl d
  | r + 1, d => by
    unfold tdc
    have := tdc_le (f := f) (b := b) (n := n) r (d + 1)
    split <;> omega
theorem tec_le {n pl : Nat} : ∀ r e, tec n pl r e ≤ e + r
  | 0, e => Nat.le_refl e
  | r + 1, e => by
    unfold tec
    have := tec_le (n := n) (pl := pl) r (e + 1)
    split <;> omega
theorem sto_le {s : Nat} {c : Int32} {dy ea k : Nat} (h : sto s c dy ea = some k) : 1 ≤ k ∧ k ≤ 9 := by
  unfold sto at h
  split at h <;> (repeat' (split at h)) <;> first | (cases h; omega) | (cases h; done)
theorem frun_step {f : Nat → Int32} {b n p s dy ea s' : Nat} (hp : p < n) (h : sto s (f (b + p)) dy ea = some s') : frun f b (n - p) p s dy ea = frun f b (n - (p + 1)) (p + 1) s' (dy + if s' = 4 then 1 else 0) (ea + if s' = 5 then 1 else 0) := by
  obtain ⟨r, hr⟩ : ∃ r, n - p = r + 1 := ⟨n - p - 1, by omega⟩
  rw [hr, show n - (p + 1) = r by omega]
  conv => lhs; unfold frun
  rw [h]
theorem frun_bad {f : Nat → Int32} {b n p s dy ea : Nat} (hp : p < n) (h : sto s (f (b + p)) dy ea = none) : frun f b (n - p) p s dy ea = nI p := by
  obtain ⟨r, hr⟩ : ∃ r, n - p = r + 1 := ⟨n - p - 1, by omega⟩
  rw [hr]
  unfold frun
  rw [h]
/-- sheets -/
def hcl (le i n : Int32) : Bool := !decide (i < 0) && !decide (le < i) && !decide (n < 0) && !decide (le - i < n)
def foc (ln le al i n : Int32) : Int32 := if ¬ le = (-1) ∧ ¬ ln = al then nI 2 else if le = (-1) then nI 1 else if 0 ≤ n then (if hcl le i n then nI 0 else nI 3) else nI 4
def cut (ln v : Int32) : Int32 := if ln = nI 0 then v.toInt8.toInt32 else if ln = nI 1 then v.toInt16.toInt32 else v
def fil (f : Nat → Int32) (v : Int32) (n : Nat) : Nat → Int32 := fun j => if j < n then v else f j
theorem fil_0 (f : Nat → Int32) (v : Int32) : fil f v 0 = f := by funext j; simp [fil]
theorem fil_s (f : Nat → Int32) (v : Int32) (n : Nat) : upd (fil f v n) n v = fil f v (n + 1) := by
  funext j
  simp only [fil, upd]
  by_cases h : j = n
  · subst h; simp
  · rw [if_neg h]
    by_cases h2 : j < n
    · rw [if_pos h2, if_pos (by omega)]
    · rw [if_neg h2, if_neg (by omega)]
/-- bounds -/
theorem yl_lt {D L S : Nat} (hD : D ≤ 6) : yl D L S < 64 := by
  have h1 : yl D L S ≤ 2 ^ D - 1 := Nat.and_le_right
  have h2 : 2 ^ D ≤ 2 ^ 6 := Nat.pow_le_pow_right (by omega) hD
  have h3 : 1 ≤ 2 ^ D := Nat.one_le_two_pow
  omega
theorem fnd_lt {D L S F : Nat} (hD : D ≤ 6) : fnd D L S F < 64 := Nat.lt_of_le_of_lt Nat.and_le_left (yl_lt hD)
theorem pc_le (n : Nat) : pc n ≤ 6 := by unfold pc; omega
theorem zbt_t {n k : Nat} (h : n / 2 ^ k % 2 ≠ 0) : zbt n k = true := decide_eq_true (by omega)
theorem zbt_f {n k : Nat} (h : n / 2 ^ k % 2 = 0) : zbt n k = false := decide_eq_false (by omega)
theorem clr_lt {F d : Nat} : clr F d < 64 := Nat.lt_of_le_of_lt Nat.and_le_right (Nat.lt_of_le_of_lt (Nat.sub_le _ _) (by decide))
theorem fs_lt {lk : Nat → Int32} {so : Int32} : ∀ n, fs lk so n < 2 ^ n
  | 0 => Nat.one_pos
  | n + 1 => by
    have ih := fs_lt (lk := lk) (so := so) n
    have h2 : 2 ^ (n + 1) = 2 ^ n * 2 := Nat.pow_succ 2 n
    unfold fs
    split
    · omega
    · exact Nat.or_lt_two_pow (by omega) (Nat.pow_lt_pow_right (by omega) (by omega))
theorem fs_lt6 {lk : Nat → Int32} {so : Int32} {D : Nat} (hD : D ≤ 6) : fs lk so D < 64 := Nat.lt_of_lt_of_le (fs_lt D) (Nat.pow_le_pow_right (n := 2) (by omega) hD)
theorem clr_I : ∀ F, F < 64 → ∀ d, d < 6 → nI F &&& (nI (2 ^ d) ^^^ (-1)) = nI (clr F d) := by decide +kernel
theorem bsF_lt {D L : Nat} {nd : Int32} {F : Nat} : ∀ (n : Nat) {b m : Nat}, bsF D L nd F n = some (b, m) → b < n ∧ m ≤ 6 ∧ m = pc (fnd D L b F)
  | 0, b, m, h => by cases h
  | n + 1, b, m, h => by
    unfold bsF at h
    split at h
    · have := bsF_lt n h
      exact ⟨by omega, this.2⟩
    · split at h
      · cases h
        exact ⟨by omega, pc_le _, rfl⟩
      · rename_i b' m' hb
        split at h
        · cases h
          exact ⟨by omega, pc_le _, rfl⟩
        · cases h
          have := bsF_lt n hb
          exact ⟨by omega, this.2⟩
theorem bst_lt {D L : Nat} {nd : Int32} {F b m : Nat} (h : bst D L nd F = some (b, m)) : b < 2 ^ D ∧ m ≤ 6 ∧ m = pc (fnd D L b F) := bsF_lt _ h
theorem vil_none {D : Nat} {kd st sp nd : Nat → Int32} {F : Nat} : ∀ (E a : Nat), a ≤ E → vil D kd st sp nd F a = none → vil D kd st sp nd F E = none
  | 0, a, h, h2 => by rw [show a = 0 by omega] at h2; exact h2
  | E + 1, a, h, h2 => by
    by_cases e : a = E + 1
    · rw [← e]; exact h2
    · have ih := vil_none E a (by omega) h2
      unfold vil
      rw [ih]
theorem vil_le {D : Nat} {kd st sp nd : Nat → Int32} {F : Nat} : ∀ (n : Nat) {p : Nat}, vS sp n → vil D kd st sp nd F n = some p → p ≤ 54 * n
  | 0, p, _, h => by cases h; exact Nat.le_refl 0
  | n + 1, p, hS, h => by
    unfold vil at h
    split at h
    · rename_i p' b' m' hp hb
      cases h
      have ih := vil_le n (fun a ha => hS a (by omega)) hp
      have h1 := (hS n (by omega)).2.1
      have h2 := pc_le (fnd D (Lf kd st n) b' F)
      have h3 : pc (fnd D (Lf kd st n) b' F) * tn (sp n) ≤ 6 * 9 := Nat.mul_le_mul h2 h1
      omega
    · cases h
theorem alp_none {f : Nat → Int32} {i D : Nat} : ∀ (E a : Nat), a ≤ E → alp f i D a = false → alp f i D E = false
  | 0, a, h, h2 => by rw [show a = 0 by omega] at h2; exact h2
  | E + 1, a, h, h2 => by
    by_cases e : a = E + 1
    · rw [← e]; exact h2
    · have ih := alp_none E a (by omega) h2
      unfold alp
      rw [ih]; rfl
theorem ax_none {D : Nat} {lk : Nat → Int32} {so : Int32} {kd st rO rB rD rW : Nat → Int32} {one : Int32} {lo : Nat} : ∀ (C a : Nat), a ≤ C → ax D lk so kd st rO rB rD rW one lo a = false → ax D lk so kd st rO rB rD rW one lo C = false
  | 0, a, h, h2 => by rw [show a = 0 by omega] at h2; exact h2
  | C + 1, a, h, h2 => by
    by_cases e : a = C + 1
    · rw [← e]; exact h2
    · have ih := ax_none C a (by omega) h2
      unfold ax
      rw [ih]; rfl
theorem fdx_hit {F D d : Nat} (hd : d < D) (h : zbt F d = true) : fdx F (D - d) d = nI d := by
  obtain ⟨r, hr⟩ : ∃ r, D - d = r + 1 := ⟨D - d - 1, by omega⟩
  rw [hr]; unfold fdx; rw [if_pos h]
theorem fdx_miss {F D d : Nat} (hd : d < D) (h : zbt F d = false) : fdx F (D - d) d = fdx F (D - (d + 1)) (d + 1) := by
  obtain ⟨r, hr⟩ : ∃ r, D - d = r + 1 := ⟨D - d - 1, by omega⟩
  rw [show D - (d + 1) = r by omega, hr]
  conv => lhs; unfold fdx
  rw [if_neg (by rw [h]; decide)]
theorem lbI_L : ∀ k, k ≤ 2 → ∀ s, s ≤ 5 → lbI (nI k) (nI s) = nI (tn (lbI (nI k) (nI s))) ∧ tn (lbI (nI k) (nI s)) ≤ 5 := by decide +kernel
theorem opl_lt {D : Nat} {kd st : Nat → Int32} {F : Nat} {f : Nat → Int32} {i : Nat} (hD : D ≤ 6) : ∀ n, opl D kd st F f i n < 64
  | 0 => by show (0 : Nat) < 64; decide
  | n + 1 => Nat.or_lt_two_pow (n := 6) (opl_lt hD n) (fnd_lt hD)
theorem smF_le {D E : Nat} {kd st sp nd : Nat → Int32} {F : Nat} (hS : vS sp E) : ∀ (n : Nat) {s m : Nat}, smF D E kd st sp nd F n = some (s, m) → s < n ∧ m ≤ 54 * E
  | 0, s, m, h => by cases h
  | n + 1, s, m, h => by
    unfold smF at h
    split at h
    · have := smF_le hS n h
      exact ⟨by omega, this.2⟩
    · rename_i p hp
      have hv : vil D kd st sp nd (clr F n) E = some p := by
        by_cases hz : zbt F n = true
        · rw [if_pos hz] at hp; exact hp
        · rw [if_neg hz] at hp; cases hp
      have hpl := vil_le E hS hv
      split at h
      · cases h
        exact ⟨by omega, hpl⟩
      · rename_i s' m' hb
        have ih := smF_le hS n hb
        split at h
        · cases h
          exact ⟨by omega, hpl⟩
        · cases h
          exact ⟨by omega, ih.2⟩
