/-! what the system answers: functions over its numbers -/
def pc (n : Nat) : Nat := n % 2 + n / 2 % 2 + n / 4 % 2 + n / 8 % 2 + n / 16 % 2 + n / 32 % 2
def zbt (n k : Nat) : Bool := decide (n / 2 ^ k % 2 = 1)
/-- how long a tongue stays yellow, by kind and stay -/
def lbI (kd st : Int32) : Int32 := if kd = nI 0 then st else if kd = nI 1 then (if 0 < st then st - nI 1 else nI 0) else (if 0 < st then st - nI 1 else nI 0) / nI 2
def Lf (kd st : Nat → Int32) (a : Nat) : Nat := tn (lbI (kd a) (st a))
def vL (kd st : Nat → Int32) (E : Nat) : Prop := ∀ a, a < E → lbI (kd a) (st a) = nI (Lf kd st a) ∧ Lf kd st a ≤ 5
/-- yellow days of D, by a tongue that stays yellow for L days, of the set S -/
def yo (S : Nat) : Nat → Nat
  | 0 => 0
  | b + 1 => yo S b ||| S * 2 ^ b
def yl (D L S : Nat) : Nat := yo S (L + 1) &&& (2 ^ D - 1)
def fs (lk : Nat → Int32) (so : Int32) : Nat → Nat
  | 0 => 0
  | d + 1 => if lk d < so then fs lk so d else fs lk so d ||| 2 ^ d
def clr (F d : Nat) : Nat := F &&& (63 - 2 ^ d)
def fnd (D L S F : Nat) : Nat := yl D L S &&& F
/-- best -/
def isb (fo S lf be : Nat) : Bool := decide (fo < lf) || (decide (fo = lf) && decide (pc S < pc be))
def bsF (D L : Nat) (nd : Int32) (F : Nat) : Nat → Option (Nat × Nat)
  | 0 => none
  | S + 1 => if nI (pc S) < nd then bsF D L nd F S else match bsF D L nd F S with
    | none => some (S, pc (fnd D L S F))
    | some (b, m) => if isb (pc (fnd D L S F)) S m b then some (S, pc (fnd D L S F)) else some (b, m)
def obI (o : Option (Nat × Nat)) : Int32 := match o with
  | none => -9
  | some (b, _) => nI b
def olI (o : Option (Nat × Nat)) : Int32 := match o with
  | none => nI 0
  | some (_, m) => nI m
def onI (o : Option Nat) : Int32 := match o with
  | none => -9
  | some p => nI p
def bst (D L : Nat) (nd : Int32) (F : Nat) : Option (Nat × Nat) := bsF D L nd F (2 ^ D)
/-- what the first n eaters pay -/
def vil (D : Nat) (kd st sp nd : Nat → Int32) (F : Nat) : Nat → Option Nat
  | 0 => some 0
  | a + 1 => match vil D kd st sp nd F a, bst D (Lf kd st a) (nd a) F with
    | some p, some (b, _) => some (p + pc (fnd D (Lf kd st a) b F) * tn (sp a))
    | _, _ => none
def vS (sp : Nat → Int32) (E : Nat) : Prop := ∀ a, a < E → sp a = nI (tn (sp a)) ∧ tn (sp a) ≤ 9 ∧ 1 ≤ tn (sp a)
def smF (D E : Nat) (kd st sp nd : Nat → Int32) (F : Nat) : Nat → Option (Nat × Nat)
  | 0 => none
  | d + 1 => match (if zbt F d then vil D kd st sp nd (clr F d) E else none) with
    | none => smF D E kd st sp nd F d
    | some p => match smF D E kd st sp nd F d with
      | none => some (d, p)
      | some (s, m) => if p < m then some (d, p) else some (s, m)
/-- readings: whether all are so -/
def so1 (D : Nat) (lk : Nat → Int32) (so : Int32) (kd st rO rB rD rW : Nat → Int32) (r : Nat) : Bool := (zbt (yl D (Lf kd st (tn (rO r))) (tn (rB r))) (tn (rD r)) && !decide (lk (tn (rD r)) < so)) == decide (rW r = 1)
def ar (D : Nat) (lk : Nat → Int32) (so : Int32) (kd st rO rB rD rW : Nat → Int32) : Nat → Bool
  | 0 => true
  | r + 1 => ar D lk so kd st rO rB rD rW r && so1 D lk so kd st rO rB rD rW r
/-- the same, one eater's tongue staying yellow for lo days -/
def sx1 (D : Nat) (lk : Nat → Int32) (so : Int32) (kd st rO rB rD rW : Nat → Int32) (one : Int32) (lo : Nat) (r : Nat) : Bool := (zbt (yl D (if rO r = one then lo else Lf kd st (tn (rO r))) (tn (rB r))) (tn (rD r)) && !decide (lk (tn (rD r)) < so)) == decide (rW r = 1)
def ax (D : Nat) (lk : Nat → Int32) (so : Int32) (kd st rO rB rD rW : Nat → Int32) (one : Int32) (lo : Nat) : Nat → Bool
  | 0 => true
  | r + 1 => ax D lk so kd st rO rB rD rW one lo r && sx1 D lk so kd st rO rB rD rW one lo r
def vR (D E C : Nat) (rO rB rD rW : Nat → Int32) : Prop := ∀ r, r < C → (rO r = nI (tn (rO r)) ∧ tn (rO r) < E) ∧ (rB r = nI (tn (rB r)) ∧ tn (rB r) < 2 ^ D) ∧ (rD r = nI (tn (rD r)) ∧ tn (rD r) < D) ∧ rW r = bI (decide (rW r = 1))
def sets (p : Nat → Bool) : Nat → Nat
  | 0 => 0
  | v + 1 => if p v then sets p v ||| 2 ^ v else sets p v
/-- plans -/
def alp (f : Nat → Int32) (i D : Nat) : Nat → Bool
  | 0 => true
  | a + 1 => alp f i D a && zin (f (i + a)) (2 ^ D)
def fpl (D : Nat) (kd st sp : Nat → Int32) (F : Nat) (f : Nat → Int32) (i : Nat) : Nat → Nat
  | 0 => 0
  | a + 1 => fpl D kd st sp F f i a + pc (fnd D (Lf kd st a) (tn (f (i + a))) F) * tn (sp a)
def opl (D : Nat) (kd st : Nat → Int32) (F : Nat) (f : Nat → Int32) (i : Nat) : Nat → Nat
  | 0 => 0
  | a + 1 => opl D kd st F f i a ||| fnd D (Lf kd st a) (tn (f (i + a))) F
def wpl (D : Nat) (kd st : Nat → Int32) (F : Nat) (f : Nat → Int32) (i : Nat) : Nat → Nat
  | 0 => 0
  | a + 1 => if fnd D (Lf kd st a) (tn (f (i + a))) F = 0 then wpl D kd st F f i a else wpl D kd st F f i a ||| 2 ^ a
def hpl (nd : Nat → Int32) (f : Nat → Int32) (i : Nat) : Nat → Nat
  | 0 => 0
  | a + 1 => if nI (pc (tn (f (i + a)))) < nd a then hpl nd f i a ||| 2 ^ a else hpl nd f i a
def dpl (D : Nat) (kd st : Nat → Int32) (F : Nat) (f : Nat → Int32) (i d : Nat) : Nat → Nat
  | 0 => 0
  | a + 1 => dpl D kd st F f i d a + fnd D (Lf kd st a) (tn (f (i + a))) F / 2 ^ d % 2
/-- the first day of a set -/
def fdx (F : Nat) : Nat → Nat → Int32
  | 0, _ => -9
  | r + 1, d => if zbt F d then nI d else fdx F r (d + 1)
/-- a text: how it goes on; a step is named by what stands last -/
def zdg (c : Int32) (lo hi : Nat) : Bool := decide (nI (48 + lo) ≤ c ∧ c ≤ nI (48 + hi))
def kbl (c : Int32) : Int32 := if c = nI 101 then nI 0 else if c = nI 115 then nI 1 else if c = nI 108 then nI 2 else -9
def sto (s : Nat) (c : Int32) (dy ea : Nat) : Option Nat := match s with
  | 0 => if c = nI 100 then some 1 else none
  | 1 => if zdg c 0 9 then some 2 else none
  | 2 => if c = nI 44 then some 3 else none
  | 3 => if zdg c 0 9 then some 4 else none
  | 4 => if c = nI 59 then some 5 else if zdg c 0 9 && decide (dy < 6) then some 4 else none
  | 5 => if kbl c = -9 then none else some 6
  | 6 => if zdg c 0 5 then some 7 else none
  | 7 => if zdg c 1 9 then some 8 else none
  | 8 => if zdg c 0 6 then some 9 else none
  | 9 => if c = nI 59 && decide (ea < 4) then some 5 else none
  | _ => none
/-- the class's run over a text's codes, r of them left, from place p on -/
def frun (t : Nat → Int32) : Nat → Nat → Nat → Nat → Nat → Int32
  | 0, p, s, _, _ => if s = 9 then -1 else nI p
  | r + 1, p, s, dy, ea => match sto s (t p) dy ea with
    | none => nI p
    | some s' => frun t r (p + 1) s' (dy + if s' = 4 then 1 else 0) (ea + if s' = 5 then 1 else 0)
