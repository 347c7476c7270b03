/-! numbers: what the walker's rows name -/
theorem fa_and (a b : Nat) : nI a &&& nI b = nI (a &&& b) := by
  apply Int32.toBitVec_inj.1
  show BitVec.ofNat 32 a &&& BitVec.ofNat 32 b = BitVec.ofNat 32 (a &&& b)
  apply BitVec.eq_of_getLsbD_eq
  intro i hi
  simp [hi]
theorem fa_or (a b : Nat) : nI a ||| nI b = nI (a ||| b) := by
  apply Int32.toBitVec_inj.1
  show BitVec.ofNat 32 a ||| BitVec.ofNat 32 b = BitVec.ofNat 32 (a ||| b)
  apply BitVec.eq_of_getLsbD_eq
  intro i hi
  simp [hi]
theorem s_l : ∀ n, n < 32 → ((nI n &&& 31).toBitVec.smod 32).toNat = n := by decide +kernel
theorem nI_one : nI 1 = 1 := by decide +kernel
theorem nI_ofI (k : Nat) : Int32.ofInt (k : Int) = nI k := by
  apply Int32.toBitVec_inj.1
  show BitVec.ofInt 32 (k : Int) = BitVec.ofNat 32 k
  exact BitVec.ofInt_natCast 32 k
theorem nI_inc (a k : Nat) : nI a + Int32.ofInt (k : Int) = nI (a + k) := by rw [nI_ofI, nI_add]
theorem nI_dec {a : Nat} (h : 1 ≤ a) : nI a + Int32.ofInt (-1) = nI (a - 1) := by
  obtain ⟨b, rfl⟩ : ∃ b, a = b + 1 := ⟨a - 1, by omega⟩
  exact pk_m1 b
theorem nI_tn (a : Nat) : (nI a).toBitVec.toNat = a % 2 ^ 32 := BitVec.toNat_ofNat a 32
theorem nI_of_tn {x : Int32} {a : Nat} (h : x.toBitVec.toNat = a % 2 ^ 32) : x = nI a := by
  apply Int32.toBitVec_inj.1
  apply BitVec.eq_of_toNat_eq
  rw [h, nI_tn]
theorem nI_shl (a : Nat) {b : Nat} (hb : b < 32) : nI a <<< (nI b &&& 31) = nI (a * 2 ^ b) := by
  apply nI_of_tn
  rw [pk_shl _ _ b (s_l b hb), nI_tn, Nat.mod_mul_mod]
theorem nI_shl1 {b : Nat} (hb : b < 32) : nI 1 <<< (nI b &&& 31) = nI (2 ^ b) := by rw [nI_shl 1 hb, Nat.one_mul]
theorem nI_shr {a b : Nat} (ha : a < 2 ^ 31) (hb : b < 32) : nI a >>> (nI b &&& 31) = nI (a / 2 ^ b) := pk_shrN ha _ b (s_l b hb)
theorem nI_nm {b k : Nat} {z : Int32} (hb : b < 2 ^ 31) (hz : z.toInt = -(k + 1 : Int)) : ¬ nI b = z := fun h => by
  have := congrArg Int32.toInt h
  rw [nI_toInt hb, hz] at this
  omega
theorem nI_nm9 {b : Nat} (hb : b < 2 ^ 31) : ¬ nI b = (-9) := nI_nm (k := 8) hb (by decide +kernel)
theorem nI_nm1 {b : Nat} (hb : b < 2 ^ 31) : ¬ nI b = (-1) := nI_nm (k := 0) hb (by decide +kernel)
theorem fa_lt (a b : Int32) : a < b ↔ a.toInt < b.toInt := Int32.lt_iff_toInt_lt
theorem fa_le (a b : Int32) : a ≤ b ↔ a.toInt ≤ b.toInt := Int32.le_iff_toInt_le
theorem fa_lt64 (a b : Int64) : a < b ↔ a.toInt < b.toInt := Int64.lt_iff_toInt_lt
theorem fa_le64 (a b : Int64) : a ≤ b ↔ a.toInt ≤ b.toInt := Int64.le_iff_toInt_le
theorem fb_rng (x : Int32) : -2147483648 ≤ x.toInt ∧ x.toInt < 2147483648 := by
  have h1 := Int32.le_toInt x
  have h2 := Int32.toInt_lt x
  omega
def zin (x : Int32) (n : Nat) : Bool := decide (0 ≤ x ∧ x < nI n)
theorem zin_t {x : Int32} {n : Nat} (hn : n < 2 ^ 31) (h : zin x n = true) : ∃ j, j < n ∧ x = nI j := by
  have h := of_decide_eq_true h
  obtain ⟨j, h1, h2⟩ := nI_of (x := x) (fun z => by
    have h1 := (fa_le _ _).mp h.1
    have h2 := (fa_lt _ _).mp z
    omega)
  subst h2
  exact ⟨j, (nI_ltI h1 hn).mp h.2, rfl⟩
theorem zin_n {j n : Nat} (hn : n < 2 ^ 31) (hj : j < n) : zin (nI j) n = true := decide_eq_true ⟨nI_pos' (Nat.lt_trans hj hn), nI_lt hj hn⟩
theorem zin_a {x : Int32} {n : Nat} (h : x < 0) : zin x n = false := decide_eq_false fun z => by
  have h1 := (fa_le _ _).mp z.1
  have h2 := (fa_lt _ _).mp h
  omega
theorem zin_b {x : Int32} {n : Nat} (h : nI n ≤ x) : zin x n = false := decide_eq_false fun z => by
  have h1 := (fa_lt _ _).mp z.2
  have h2 := (fa_le _ _).mp h
  omega
theorem zin_c {x : Int32} {n : Nat} (h1 : ¬ x < 0) (h2 : ¬ nI n ≤ x) : zin x n = true := decide_eq_true ⟨by
  have h1 : ¬ x.toInt < (0 : Int32).toInt := fun q => h1 ((fa_lt _ _).mpr q)
  exact (fa_le _ _).mpr (by omega), by
  have h2 : ¬ (nI n).toInt ≤ x.toInt := fun q => h2 ((fa_le _ _).mpr q)
  exact (fa_lt _ _).mpr (by omega)⟩
theorem zin_d {x : Int32} {n : Nat} (hn : n + 1 < 2 ^ 31) (h1 : ¬ x < 0) (h2 : ¬ nI n < x) : zin x (n + 1) = true := zin_c h1 (fun z => h2 (by
  rw [fa_lt, nI_toInt (by omega)]
  have := (fa_le _ _).mp z
  rw [nI_toInt hn] at this
  omega))
theorem zin_e {x : Int32} {n : Nat} (hn : n + 1 < 2 ^ 31) (h : nI n < x) : zin x (n + 1) = false := zin_b (by
  rw [fa_le, nI_toInt hn]
  have := (fa_lt _ _).mp h
  rw [nI_toInt (by omega)] at this
  omega)
/-- a long's range that an int lies in -/
theorem zin_L {x : Int32} {n : Nat} (hn : n < 2 ^ 31) : decide ((0 : Int64) ≤ x.toInt64 ∧ x.toInt64 ≤ (nI n).toInt64 - 1) = zin x n := by
  have e1 : ((nI n).toInt64 - 1).toInt = (n : Int) - 1 := by
    have h1 : ((nI n).toInt64).toInt = (n : Int) := by rw [Int32.toInt_toInt64, nI_toInt hn]
    rw [Int64.toInt_sub, h1]
    show ((n : Int) - 1).bmod (2 ^ 64) = _
    rw [Int.bmod_eq_of_le] <;> omega
  unfold zin
  congr 1
  rw [fa_le64, fa_le64, e1, fa_le, fa_lt, Int32.toInt_toInt64, nI_toInt hn]
  show ((0 : Int) ≤ x.toInt ∧ x.toInt ≤ (n : Int) - 1) = ((0 : Int) ≤ x.toInt ∧ x.toInt < (n : Int))
  apply propext
  constructor <;> intro h <;> exact ⟨h.1, by omega⟩
abbrev tn (x : Int32) : Nat := x.toNatClampNeg
theorem tn_nI {a : Nat} (h : a < 2 ^ 31) : tn (nI a) = a := nI_clamp h
theorem bI_t {b : Bool} (h : b = true) : nI 1 = bI b := by subst h; decide +kernel
theorem bI_f {b : Bool} (h : b = false) : nI 0 = bI b := by subst h; decide +kernel
theorem bI_eq {b c : Bool} (h : b = c) : bI b = bI c := congrArg bI h
theorem nI_and1 (a : Nat) : nI a &&& nI 1 = nI (a % 2) := by rw [fa_and, Nat.and_one_is_mod]
theorem nI10 : (nI 1 = 0) = False := by decide +kernel
theorem nI_10 : (nI 1 = nI 0) = False := by decide +kernel
