/-! the reference's own words -/
def zil (v lo hi : Int64) : Bool := !decide (lg_cmp v lo < 0) && !decide (0 < lg_cmp v hi)
theorem zil_eq (v lo hi : Int64) : zil v lo hi = decide (lo ≤ v ∧ v ≤ hi) := by
  unfold zil
  have e1 := lg_cmp_lt v lo
  have e2 := lg_cmp_gt v hi
  by_cases h1 : v < lo
  · rw [decide_eq_true (e1.mpr h1), show decide (lo ≤ v ∧ v ≤ hi) = false from decide_eq_false (fun z => (lg_lt_not_le h1) z.1)]; rfl
  · rw [decide_eq_false (fun z => h1 (e1.mp z))]
    by_cases h2 : hi < v
    · rw [decide_eq_true (e2.mpr h2), show decide (lo ≤ v ∧ v ≤ hi) = false from decide_eq_false (fun z => (lg_lt_not_le h2) z.2)]; rfl
    · rw [decide_eq_false (fun z => h2 (e2.mp z)), decide_eq_true]
      · rfl
      · have e3 : ¬ v.toInt < lo.toInt := fun z => h1 ((fa_lt64 _ _).mpr z)
        have e4 : ¬ hi.toInt < v.toInt := fun z => h2 ((fa_lt64 _ _).mpr z)
        exact ⟨(fa_le64 _ _).mpr (by omega), (fa_le64 _ _).mpr (by omega)⟩
theorem zil_in {x : Int32} {n : Nat} (hn : n < 2 ^ 31) : zil x.toInt64 0 ((nI n).toInt64 - 1) = zin x n := by rw [zil_eq, zin_L hn]
theorem zil_c {x : Int32} {n : Nat} (hn : n + 1 < 2 ^ 31) : zil x.toInt64 0 (nI n).toInt64 = zin x (n + 1) := by
  rw [zil_eq]
  unfold zin
  congr 1
  rw [fa_le64, fa_le64, fa_le, fa_lt, Int32.toInt_toInt64, Int32.toInt_toInt64, nI_toInt (by omega), nI_toInt hn]
  show ((0 : Int) ≤ x.toInt ∧ x.toInt ≤ (n : Int)) = ((0 : Int) ≤ x.toInt ∧ x.toInt < ((n + 1 : Nat) : Int))
  apply propext
  constructor <;> intro h <;> exact ⟨h.1, by omega⟩
theorem zil_k {x : Int32} {n : Nat} {m : Int64} (hm : m = (nI n).toInt64) (hn : n + 1 < 2 ^ 31) : zil x.toInt64 0 m = zin x (n + 1) := by rw [hm, zil_c hn]
theorem zil_dg {c : Int32} {lo hi : Nat} (h1 : lo ≤ 9) (h2 : hi ≤ 9) : zil (c - nI 48).toInt64 (nI lo).toInt64 (nI hi).toInt64 = zdg c lo hi := by
  rw [zil_eq]
  unfold zdg
  have hr := fb_rng c
  have e0 : (c - nI 48).toInt = (c.toInt - 48).bmod (2 ^ 32) := by rw [Int32.toInt_sub, nI_toInt (by omega)]; rfl
  have e1 : (c < nI (48 + lo)) ↔ c.toInt < 48 + (lo : Int) := by rw [fa_lt, nI_toInt (by omega)]; omega
  have e2 : (nI (48 + hi) < c) ↔ 48 + (hi : Int) < c.toInt := by rw [fa_lt, nI_toInt (by omega)]; omega
  have e3 : ((nI lo).toInt64 ≤ (c - nI 48).toInt64) ↔ (lo : Int) ≤ (c - nI 48).toInt := by rw [fa_le64, Int32.toInt_toInt64, Int32.toInt_toInt64, nI_toInt (by omega)]
  have e4 : ((c - nI 48).toInt64 ≤ (nI hi).toInt64) ↔ (c - nI 48).toInt ≤ (hi : Int) := by rw [fa_le64, Int32.toInt_toInt64, Int32.toInt_toInt64, nI_toInt (by omega)]
  have key : ((lo : Int) ≤ (c - nI 48).toInt ∧ (c - nI 48).toInt ≤ (hi : Int)) ↔ (¬ c.toInt < 48 + (lo : Int) ∧ ¬ 48 + (hi : Int) < c.toInt) := by
    rw [e0]
    by_cases hb : -2147483648 ≤ c.toInt - 48
    · rw [Int.bmod_eq_of_le (by omega) (by omega)]; omega
    · have : (c.toInt - 48).bmod (2 ^ 32) = c.toInt - 48 + 4294967296 := by
        rw [← Int.add_bmod_right]
        exact Int.bmod_eq_of_le (by omega) (by omega)
      rw [this]; omega
  have hd : decide ((nI lo).toInt64 ≤ (c - nI 48).toInt64 ∧ (c - nI 48).toInt64 ≤ (nI hi).toInt64) = decide (¬ c < nI (48 + lo) ∧ ¬ nI (48 + hi) < c) := by
    congr 1
    rw [e1, e2, e3, e4]
    exact propext key
  rw [hd]
  by_cases q1 : c < nI (48 + lo) <;> by_cases q2 : nI (48 + hi) < c <;> simp [q1, q2]
def pcb (S : Nat) : Nat → Nat
  | 0 => 0
  | i + 1 => pcb S i + S / 2 ^ i % 2
theorem pcb_end : ∀ S, S < 64 → ∀ i, i ≤ 6 → S / 2 ^ i = 0 → pcb S i = pc S := by decide +kernel
theorem pcb_ne : ∀ S, S < 64 → S / 2 ^ 6 = 0 := by decide +kernel
def fsm (lk : Nat → Int32) (so sm : Int32) : Nat → Nat
  | 0 => 0
  | d + 1 => if lk d < so then fsm lk so sm d else if nI d = sm then fsm lk so sm d else fsm lk so sm d ||| 2 ^ d
theorem fsm_no {lk : Nat → Int32} {so : Int32} : ∀ {n : Nat}, n ≤ 6 → fsm lk so (-9) n = fs lk so n
  | 0, _ => rfl
  | n + 1, h => by
    unfold fsm fs
    rw [fsm_no (by omega), if_neg (nI_nm9 (by omega))]
theorem clr_or : ∀ F, F < 64 → ∀ k, k < 6 → ∀ d, d < 6 → clr (F ||| 2 ^ k) d = if k = d then clr F d else clr F d ||| 2 ^ k := by decide +kernel
theorem fsm_clr {lk : Nat → Int32} {so : Int32} {d : Nat} (hd : d < 6) : ∀ {n : Nat}, n ≤ 6 → fsm lk so (nI d) n = clr (fs lk so n) d
  | 0, _ => by unfold clr; show 0 = 0 &&& _; rw [Nat.zero_and]
  | n + 1, h => by
    unfold fsm fs
    rw [fsm_clr hd (by omega)]
    by_cases h1 : lk n < so
    · rw [if_pos h1, if_pos h1]
    · rw [if_neg h1, if_neg h1, clr_or _ (fs_lt6 (by omega)) _ (by omega) _ hd]
      by_cases h2 : n = d
      · rw [if_pos h2, if_pos (by rw [h2])]
      · rw [if_neg h2, if_neg (fun z => h2 ((nI_eq (by omega) (by omega)).mp z))]
theorem fsm_lt {lk : Nat → Int32} {so sm : Int32} : ∀ n, fsm lk so sm n < 2 ^ n
  | 0 => Nat.one_pos
  | n + 1 => by
    have ih := fsm_lt (lk := lk) (so := so) (sm := sm) n
    have h2 : 2 ^ (n + 1) = 2 ^ n * 2 := Nat.pow_succ 2 n
    unfold fsm
    split
    · omega
    · split
      · omega
      · exact Nat.or_lt_two_pow (by omega) (Nat.pow_lt_pow_right (by omega) (by omega))
theorem fsm_lt6 {lk : Nat → Int32} {so sm : Int32} {D : Nat} (hD : D ≤ 6) : fsm lk so sm D < 64 := Nat.lt_of_lt_of_le (fsm_lt D) (Nat.pow_le_pow_right (n := 2) (by omega) hD)
def yi (b : Bool) (acc d : Nat) : Nat → Nat
  | 0 => acc
  | j + 1 => if b then yi b acc d j ||| 2 ^ (d + j) else yi b acc d j
def yM (D L S : Nat) : Nat → Nat
  | 0 => 0
  | d + 1 => yi (zbt S d) (yM D L S d) d (min (D - d) (L + 1))
theorem yM_yl : ∀ D, D ≤ 6 → ∀ L, L ≤ 5 → ∀ S, S < 2 ^ D → yM D L S D = yl D L S := by decide +kernel
theorem yi_fin {b : Bool} {acc d D L j : Nat} (h1 : j ≤ D - d) (h2 : j ≤ L + 1) (h3 : j = D - d ∨ j = L + 1) : yi b acc d j = yi b acc d (min (D - d) (L + 1)) := by
  rw [show min (D - d) (L + 1) = j by omega]
theorem less_pos : ∀ p, p < 10 → ∀ m, m < 7 → ∀ f, f < 7 → 1 ≤ p → (0 < nI (p * m) - nI (p * f) ↔ f < m) := by decide +kernel
theorem less_zero : ∀ p, p < 10 → ∀ m, m < 7 → ∀ f, f < 7 → 1 ≤ p → (nI (p * m) - nI (p * f) = 0 ↔ f = m) := by decide +kernel
def mf1 (its d : Nat) (f : Int32) : Int32 := if zbt its d then (if f < 0 then nI d else if f ≤ nI d then f else nI d) else f
def mfd (D its : Nat) (f : Int32) : Nat → Int32
  | 0 => f
  | c + 1 => mf1 its (D - c - 1) (mfd D its f c)
def ffo (D : Nat) (kd st : Nat → Int32) (F : Nat) (f : Nat → Int32) (i : Nat) : Nat → Int32
  | 0 => -9
  | a + 1 => mfd D (fnd D (Lf kd st a) (tn (f (i + a))) F) (ffo D kd st F f i a) D
theorem mfd_fdx : ∀ D, D ≤ 6 → ∀ O, O < 2 ^ D → ∀ I, I < 2 ^ D → mfd D I (fdx O D 0) D = fdx (O ||| I) D 0 := by decide +kernel
theorem nI_decI (a : Nat) : nI a + Int32.ofInt (-1) = nI a - nI 1 := by
  apply Int32.toBitVec_inj.1
  show BitVec.ofNat 32 a + BitVec.ofInt 32 (-1) = BitVec.ofNat 32 a - BitVec.ofNat 32 1
  rw [BitVec.sub_eq_add_neg]
  congr 1
theorem dn_neg {r : Nat} (hr : r < 2 ^ 31) (h : nI r - nI 1 < 0) : r = 0 := by
  rcases Nat.eq_zero_or_pos r with h0 | h0
  · exact h0
  · rw [pk_sub h0] at h
    exact absurd h (nI_pos (by omega))
theorem dn_pos {r : Nat} (hr : r < 2 ^ 31) (h : ¬ nI r - nI 1 < 0) : 1 ≤ r := by
  rcases Nat.eq_zero_or_pos r with h0 | h0
  · subst h0; exact absurd (by decide +kernel) h
  · exact h0
theorem zbt_tb (n k : Nat) : zbt n k = n.testBit k := by
  unfold zbt
  rw [Nat.testBit_eq_decide_div_mod_eq]
theorem fs_bt {lk : Nat → Int32} {so : Int32} : ∀ {n d : Nat}, d < n → zbt (fs lk so n) d = !decide (lk d < so)
  | 0, d, h => absurd h (Nat.not_lt_zero d)
  | n + 1, d, h => by
    rw [zbt_tb]
    by_cases e : d = n
    · subst e
      unfold fs
      have h0 : (fs lk so d).testBit d = false := Nat.testBit_lt_two_pow (fs_lt d)
      by_cases q : lk d < so
      · rw [if_pos q, h0]; simp [q]
      · rw [if_neg q, Nat.testBit_or, h0, Nat.testBit_two_pow_self]; simp [q]
    · have ih := fs_bt (lk := lk) (so := so) (n := n) (d := d) (by omega)
      rw [zbt_tb] at ih
      unfold fs
      by_cases q : lk n < so
      · rw [if_pos q, ih]
      · rw [if_neg q, Nat.testBit_or, ih, Nat.testBit_two_pow_of_ne (by omega)]; simp
theorem fnd_bt {D L S d : Nat} {lk : Nat → Int32} {so : Int32} (hd : d < D) : zbt (fnd D L S (fs lk so D)) d = (zbt (yl D L S) d && !decide (lk d < so)) := by
  rw [← fs_bt (lk := lk) (so := so) hd]
  simp only [zbt_tb]
  exact Nat.testBit_and ..
theorem upd_upd (f : Nat → Int32) (k : Nat) (x y : Int32) : upd (upd f k x) k y = upd f k y := by
  funext j
  simp only [upd]
  by_cases h : j = k
  · rw [if_pos h, if_pos h]
  · rw [if_neg h, if_neg h, if_neg h]
theorem upd_same (f : Nat → Int32) (k : Nat) : upd f k (f k) = f := by
  funext j
  simp only [upd]
  by_cases h : j = k
  · rw [if_pos h, h]
  · rw [if_neg h]
def stv (f : Nat → Int32) (j : Nat) : Nat → Nat → Int32
  | 0 => f
  | v + 1 => upd f j (nI v)
theorem stv_up (f : Nat → Int32) (j v : Nat) (x : Int32) : upd (stv f j v) j x = upd f j x := by
  cases v with
  | zero => rfl
  | succ v => exact upd_upd f j (nI v) x
theorem upd_at (f : Nat → Int32) (k : Nat) (x : Int32) : upd f k x k = x := by simp [upd]
theorem upd_ne {f : Nat → Int32} {k j : Nat} {x : Int32} (h : j ≠ k) : upd f k x j = f j := by simp [upd, h]
theorem vK_st {kd st : Nat → Int32} {E j v : Nat} (h : vK kd st E) (hv : v ≤ 5) : vK kd (upd st j (nI v)) E := fun a ha => by
  refine ⟨(h a ha).1, ?_⟩
  by_cases e : a = j
  · rw [e, upd_at, tn_nI (by omega)]; exact ⟨rfl, hv⟩
  · rw [upd_ne e]; exact (h a ha).2
theorem vK_kd {kd st : Nat → Int32} {E j v : Nat} (h : vK kd st E) (hv : v ≤ 2) : vK (upd kd j (nI v)) st E := fun a ha => by
  refine ⟨?_, (h a ha).2⟩
  by_cases e : a = j
  · rw [e, upd_at, tn_nI (by omega)]; exact ⟨rfl, hv⟩
  · rw [upd_ne e]; exact (h a ha).1
def cntZ (Y : Nat) : Nat → Nat
  | 0 => 0
  | f + 1 => if Y &&& f = 0 then cntZ Y f + 1 else cntZ Y f
theorem cntZ_le (Y : Nat) : ∀ n, cntZ Y n ≤ n
  | 0 => Nat.le_refl 0
  | n + 1 => by
    have := cntZ_le Y n
    unfold cntZ
    split <;> omega
theorem cntZ_gcd : ∀ D, D ≤ 6 → ∀ Y, Y < 2 ^ D → (Nat.gcd (cntZ Y (2 ^ D)) (2 ^ D) = cntZ Y (2 ^ D) ∧ 0 < cntZ Y (2 ^ D)) ∧ 2 ^ D / cntZ Y (2 ^ D) = 2 ^ pc Y := by decide +kernel
def fzr (f : Nat → Int32) (b n : Nat) : Nat → Int32 := fun q => if b ≤ q ∧ q < b + n then nI 0 else f q
theorem fzr_0 (f : Nat → Int32) (b : Nat) : fzr f b 0 = f := by funext q; unfold fzr; rw [if_neg (by omega)]
theorem fzr_s (f : Nat → Int32) (b n : Nat) : upd (fzr f b n) (b + n) (nI 0) = fzr f b (n + 1) := by
  funext q
  unfold upd fzr
  by_cases h : q = b + n
  · rw [if_pos h, if_pos (by omega)]
  · rw [if_neg h]
    by_cases h2 : b ≤ q ∧ q < b + n
    · rw [if_pos h2, if_pos (by omega)]
    · rw [if_neg h2, if_neg (by omega)]
def hnd (h f : Nat → Int32) (b n : Nat) : Nat → Int32 := fun q => if q < n then f (b + q) else h q
theorem hnd_0 (h f : Nat → Int32) (b : Nat) : hnd h f b 0 = h := by funext q; simp [hnd]
theorem hnd_s (h f : Nat → Int32) (b n : Nat) : upd (hnd h f b n) n (f (b + n)) = hnd h f b (n + 1) := by
  funext q
  unfold upd hnd
  by_cases e : q = n
  · subst e; rw [if_pos rfl, if_pos (by omega)]
  · rw [if_neg e]
    by_cases h2 : q < n
    · rw [if_pos h2, if_pos (by omega)]
    · rw [if_neg h2, if_neg (by omega)]
def cpf (f g : Nat → Int32) (b n : Nat) : Nat → Int32 := fun q => if b ≤ q ∧ q < b + n then g (q - b) else f q
theorem cpf_0 (f g : Nat → Int32) (b : Nat) : cpf f g b 0 = f := by funext q; unfold cpf; rw [if_neg (by omega)]
theorem cpf_s (f g : Nat → Int32) (b n : Nat) : upd (cpf f g b n) (b + n) (g n) = cpf f g b (n + 1) := by
  funext q
  unfold upd cpf
  by_cases h : q = b + n
  · rw [if_pos h, if_pos (by omega), h, Nat.add_sub_cancel_left]
  · rw [if_neg h]
    by_cases h2 : b ≤ q ∧ q < b + n
    · rw [if_pos h2, if_pos (by omega)]
    · rw [if_neg h2, if_neg (by omega)]
def omI (o : Option (Nat × Nat)) : Int32 := match o with
  | none => -9
  | some (_, m) => nI m
theorem so1_fnd {D : Nat} {lk : Nat → Int32} {so : Int32} {kd st rO rB rD rW : Nat → Int32} {r : Nat} (hD : D ≤ 6) (hd : tn (rD r) < D) : so1 D lk so kd st rO rB rD rW r = (zbt (fnd D (Lf kd st (tn (rO r))) (tn (rB r)) (fsm lk so (-9) D)) (tn (rD r)) == decide (rW r = 1)) := by
  rw [fsm_no hD, fnd_bt hd]
  rfl
theorem gcd_st (x y : Nat) : Nat.gcd y (x % y) = Nat.gcd x y := by rw [Nat.gcd_comm x y, Nat.gcd_rec y x, Nat.gcd_comm]
theorem yl_ltD {D L S : Nat} : yl D L S < 2 ^ D := by
  have h1 : yl D L S ≤ 2 ^ D - 1 := Nat.and_le_right
  have h3 : 1 ≤ 2 ^ D := Nat.one_le_two_pow
  omega
theorem isb_f2 {fo S m b : Nat} (h : ¬ fo < m) (h2 : pc b ≤ pc S) : isb fo S m b = false := by
  unfold isb
  rw [decide_eq_false h, decide_eq_false (show ¬ pc S < pc b by omega)]
  simp
theorem kd3 {k : Int32} (h : k = nI (tn k) ∧ tn k ≤ 2) : k = nI 0 ∨ k = nI 1 ∨ k = nI 2 := by
  obtain ⟨h1, h2⟩ := h
  rcases (by omega : tn k = 0 ∨ tn k = 1 ∨ tn k = 2) with q | q | q <;> rw [q] at h1 <;> simp [h1]
theorem nI_01 : (nI 0 = nI 1) = False := by decide +kernel
theorem nI_02 : (nI 0 = nI 2) = False := by decide +kernel
theorem tel2 (p : Int32) : nI 2 * p + nI 100 = (p + nI 100) + p := by
  apply Int32.toBitVec_inj.1
  show BitVec.ofNat 32 2 * p.toBitVec + BitVec.ofNat 32 100 = (p.toBitVec + BitVec.ofNat 32 100) + p.toBitVec
  rw [BitVec.two_mul, BitVec.add_comm (p.toBitVec + p.toBitVec), ← BitVec.add_assoc, BitVec.add_comm p.toBitVec (BitVec.ofNat 32 100)]
