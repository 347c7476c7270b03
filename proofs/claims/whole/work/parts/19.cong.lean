/-! the class's sheets and the reference's one row of cells: what they tell is the same -/
theorem frun_cg {f g : Nat → Int32} {b b' : Nat} : ∀ r p s dy ea, (∀ q, p ≤ q → q < p + r → f (b + q) = g (b' + q)) → frun f b r p s dy ea = frun g b' r p s dy ea
  | 0, _, _, _, _, _ => rfl
  | r + 1, p, s, dy, ea, H => by
    unfold frun
    rw [H p (Nat.le_refl _) (by omega)]
    cases sto s (g (b' + p)) dy ea with
    | none => rfl
    | some s' => exact frun_cg r (p + 1) s' _ _ (fun q h1 h2 => H q (by omega) (by omega))
theorem fr0_cg {f g : Nat → Int32} {b b' n : Nat} (H : ∀ q, q < n → f (b + q) = g (b' + q)) : fr0 f b n = fr0 g b' n := frun_cg n 0 0 0 0 (fun q _ h => H q (by omega))
theorem tdc_cg {f g : Nat → Int32} {b b' n : Nat} (H : ∀ q, q < n → f (b + q) = g (b' + q)) : ∀ r d, tdc f b n r d = tdc g b' n r d
  | 0, _ => rfl
  | r + 1, d => by
    unfold tdc
    by_cases q : 3 + d < n
    · rw [H _ q, tdc_cg H r (d + 1)]
    · rw [if_neg (fun z => q z.1), if_neg (fun z => q z.1)]
theorem tdy_cg {f g : Nat → Int32} {b b' n : Nat} (H : ∀ q, q < n → f (b + q) = g (b' + q)) : tdy f b n = tdy g b' n := tdc_cg H 6 0
theorem tlk_cg {f g : Nat → Int32} {b b' n : Nat} {lk : Nat → Int32} (H : ∀ q, q < n → f (b + q) = g (b' + q)) : ∀ T, T ≤ tdy f b n → tlk f b lk T = tlk g b' lk T
  | 0, _ => rfl
  | d + 1, h => by
    unfold tlk
    have l := (tdc_all (f := f) (b := b) (n := n) 6 0 d (Nat.zero_le _) (show d < tdy f b n by omega)).1
    rw [H _ l, tlk_cg H d (by omega)]
theorem tec_all {n pl : Nat} : ∀ r e j, e ≤ j → j < tec n pl r e → pl + 5 * j + 4 < n
  | 0, e, j, h1, h2 => by
    unfold tec at h2; omega
  | r + 1, e, j, h1, h2 => by
    unfold tec at h2
    by_cases q : pl + 5 * e + 4 < n
    · rw [if_pos q] at h2
      by_cases z : e = j
      · subst z; exact q
      · exact tec_all r (e + 1) j (by omega) h2
    · rw [if_neg q] at h2; omega
theorem tkd_cg {f g : Nat → Int32} {b b' n pl : Nat} {kd : Nat → Int32} (H : ∀ q, q < n → f (b + q) = g (b' + q)) : ∀ e, (∀ j, j < e → pl + 5 * j + 4 < n) → tkd f b pl kd e = tkd g b' pl kd e
  | 0, _ => rfl
  | e + 1, h => by
    unfold tkd
    have l := h e (by omega)
    have h1 : f (b + (pl + 5 * e) + 1) = g (b' + (pl + 5 * e) + 1) := H (pl + 5 * e + 1) (by omega)
    rw [h1, tkd_cg H e (fun j hj => h j (by omega))]
theorem tst_cg {f g : Nat → Int32} {b b' n pl o : Nat} {st : Nat → Int32} (ho : o ≤ 4) (H : ∀ q, q < n → f (b + q) = g (b' + q)) : ∀ e, (∀ j, j < e → pl + 5 * j + 4 < n) → tst f b pl o st e = tst g b' pl o st e
  | 0, _ => rfl
  | e + 1, h => by
    unfold tst
    have l := h e (by omega)
    have h1 : f (b + (pl + 5 * e) + o) = g (b' + (pl + 5 * e) + o) := (congrArg f (Nat.add_assoc b (pl + 5 * e) o)).trans ((H _ (by omega)).trans (congrArg g (Nat.add_assoc b' (pl + 5 * e) o).symm))
    rw [h1, tst_cg ho H e (fun j hj => h j (by omega))]
theorem alp_cg {f g : Nat → Int32} {b b' D : Nat} : ∀ {E : Nat}, (∀ q, q < E → f (b + q) = g (b' + q)) → alp f b D E = alp g b' D E
  | 0, _ => rfl
  | E + 1, H => by
    unfold alp
    rw [H E (by omega), alp_cg (fun q h => H q (by omega))]
theorem fpl_cg {f g : Nat → Int32} {b b' D : Nat} {kd st sp : Nat → Int32} {F : Nat} : ∀ {E : Nat}, (∀ q, q < E → f (b + q) = g (b' + q)) → fpl D kd st sp F f b E = fpl D kd st sp F g b' E
  | 0, _ => rfl
  | E + 1, H => by
    unfold fpl
    rw [H E (by omega), fpl_cg (fun q h => H q (by omega))]
theorem opl_cg {f g : Nat → Int32} {b b' D : Nat} {kd st : Nat → Int32} {F : Nat} : ∀ {E : Nat}, (∀ q, q < E → f (b + q) = g (b' + q)) → opl D kd st F f b E = opl D kd st F g b' E
  | 0, _ => rfl
  | E + 1, H => by
    unfold opl
    rw [H E (by omega), opl_cg (fun q h => H q (by omega))]
theorem wpl_cg {f g : Nat → Int32} {b b' D : Nat} {kd st : Nat → Int32} {F : Nat} : ∀ {E : Nat}, (∀ q, q < E → f (b + q) = g (b' + q)) → wpl D kd st F f b E = wpl D kd st F g b' E
  | 0, _ => rfl
  | E + 1, H => by
    unfold wpl
    rw [H E (by omega), wpl_cg (fun q h => H q (by omega))]
theorem hpl_cg {f g : Nat → Int32} {b b' : Nat} {nd : Nat → Int32} : ∀ {E : Nat}, (∀ q, q < E → f (b + q) = g (b' + q)) → hpl nd f b E = hpl nd g b' E
  | 0, _ => rfl
  | E + 1, H => by
    unfold hpl
    rw [H E (by omega), hpl_cg (fun q h => H q (by omega))]
theorem dpl_cg {f g : Nat → Int32} {b b' D d : Nat} {kd st : Nat → Int32} {F : Nat} : ∀ {E : Nat}, (∀ q, q < E → f (b + q) = g (b' + q)) → dpl D kd st F f b d E = dpl D kd st F g b' d E
  | 0, _ => rfl
  | E + 1, H => by
    unfold dpl
    rw [H E (by omega), dpl_cg (fun q h => H q (by omega))]
theorem ofp_cg {D E : Nat} {lk : Nat → Int32} {so : Int32} {kd st sp nd f g : Nat → Int32} {b b' : Nat} {w : Int32} (H : ∀ q, q < E → f (b + q) = g (b' + q)) : ofp D E lk so kd st sp nd f b w = ofp D E lk so kd st sp nd g b' w := by
  unfold ofp
  rw [fpl_cg H, opl_cg H, wpl_cg H, hpl_cg H, dpl_cg H]
theorem plr_g {lane w fo r r' : Int32} {E : Nat} {hp hp' : Bool} (h : fo = 0 → hp = hp' ∧ (hp = true → r = r')) : plr lane w E fo hp r = plr lane w E fo hp' r' := by
  unfold plr
  by_cases h1 : fo = 0
  · obtain ⟨h2, h3⟩ := h h1
    subst h2
    cases hp with
    | false => simp
    | true => rw [h3 rfl]
  · simp only [if_neg h1]
theorem plr_cg {D E : Nat} {lk : Nat → Int32} {so : Int32} {kd st sp nd f g : Nat → Int32} {b b' n : Nat} {lane w fo : Int32} (H : fo = 0 → ∀ q, q < n → f (b + q) = g (b' + q)) : plr lane w E fo (decide (n = E) && alp f b D E) (ofp D E lk so kd st sp nd f b w) = plr lane w E fo (decide (n = E) && alp g b' D E) (ofp D E lk so kd st sp nd g b' w) := by
  refine plr_g (fun h1 => ?_)
  by_cases h2 : n = E
  · have H' : ∀ q, q < E → f (b + q) = g (b' + q) := fun q hq => H h1 q (by omega)
    rw [alp_cg H', ofp_cg H']
    exact ⟨rfl, fun _ => rfl⟩
  · rw [decide_eq_false h2, Bool.false_and, Bool.false_and]
    exact ⟨rfl, fun z => Bool.noConfusion z⟩
theorem dur_cg {lane fo : Int32} {f g : Nat → Int32} {b b' n : Nat} (H : fo = 0 → ∀ q, q < n → f (b + q) = g (b' + q)) : dur lane fo (fr0 f b n) (tea n (tdy f b n)) = dur lane fo (fr0 g b' n) (tea n (tdy g b' n)) := by
  unfold dur
  by_cases h1 : fo = 0
  · rw [fr0_cg (H h1), tdy_cg (H h1)]
  · rw [if_neg h1, if_neg h1]
theorem duk_cg {lane fo : Int32} {f g : Nat → Int32} {b b' n : Nat} (H : fo = 0 → ∀ q, q < n → f (b + q) = g (b' + q)) : duk lane fo (fr0 f b n) = duk lane fo (fr0 g b' n) := by
  unfold duk
  by_cases h1 : fo = 0
  · rw [fr0_cg (H h1)]
  · rw [decide_eq_false h1, Bool.and_false]; rfl
theorem duk_fo {lane fo fr : Int32} (h : duk lane fo fr = true) : fo = 0 ∧ fr = (-1) := by
  unfold duk at h
  simp only [Bool.and_eq_true, decide_eq_true_eq] at h
  exact ⟨h.1.2, h.2⟩
theorem if_cg {α : Type} {c c' : Bool} {x y d : α} (h : c = c') (h2 : c = true → x = y) : (if c = true then x else d) = (if c' = true then y else d) := by
  subst h
  by_cases q : c = true
  · rw [if_pos q, if_pos q, h2 q]
  · rw [if_neg q, if_neg q]
/-- the cells below a sheet's length are those of the one row -/
def sR (sz : Nat → Int32) (ceF : Nat → Nat → Int32) (sc : Nat → Int32) : Prop := ∀ k, k < 4 → ∀ m, m ≤ 60 → sz k = nI m → ∀ j, j < m → ceF k j = sc (60 * k + j)
theorem sR_H {sz : Nat → Int32} {ceF : Nat → Nat → Int32} {sc : Nat → Int32} {k : Nat} {ln al i n : Int32} (hR : sR sz ceF sc) (hk : k < 4) (hv : vle (sz k)) (hf : foc ln (sz k) al i n = 0) : ∀ q, q < tn n → ceF k (tn i + q) = sc (60 * k + tn i + q) := by
  obtain ⟨-, -, hh⟩ := foc_hcl hf
  obtain ⟨i', n', rfl, rfl, m, hm, hl, him⟩ := hcl_t hv hh
  rw [tn_nI (by omega), tn_nI (by omega)]
  intro q hq
  rw [hR k hk m hm hl (i' + q) (by omega), Nat.add_assoc]
theorem sR_1 {sz : Nat → Int32} {ceF : Nat → Nat → Int32} {sc : Nat → Int32} {k : Nat} {ln al i : Int32} (hR : sR sz ceF sc) (hk : k < 4) (hv : vle (sz k)) (hf : foc ln (sz k) al i (nI 1) = 0) : ceF k (tn i) = sc (60 * k + tn i) := sR_H hR hk hv hf 0 (by rw [tn_nI (by omega)]; omega)
def upc (ceF : Nat → Nat → Int32) (k : Nat) (x : Nat → Int32) : Nat → Nat → Int32 := fun j => if j = k then x else ceF j
theorem upc_s (ceF : Nat → Nat → Int32) (k : Nat) (x : Nat → Int32) : upc ceF k x k = x := if_pos rfl
theorem upc_n {ceF : Nat → Nat → Int32} {k j : Nat} {x : Nat → Int32} (h : j ≠ k) : upc ceF k x j = ceF j := if_neg h
theorem upc_id (ceF : Nat → Nat → Int32) (k : Nat) : upc ceF k (ceF k) = ceF := by
  funext j
  by_cases h : j = k
  · subst h; exact upc_s _ _ _
  · exact upc_n h
theorem nI_inj60 {a b : Nat} (ha : a ≤ 60) (hb : b ≤ 60) (h : nI a = nI b) : a = b := (nI_eq (by omega) (by omega)).mp h
theorem sR_sheet {sz : Nat → Int32} {ceF : Nat → Nat → Int32} {sc : Nat → Int32} {k : Nat} {n : Int32} (hR : sR sz ceF sc) (hk : k < 4) (hn : vle n) : sR (upd sz k n) (upc ceF k (fil (ceF k) (nI 0) 60)) (fzr sc (60 * k) (tn n)) := by
  intro k' hk' m hm hz j hj
  by_cases e : k' = k
  · subst e
    rw [upd_at] at hz
    subst hz
    rw [upc_s, tn_nI (by omega)]
    unfold fil fzr
    rw [if_pos (by omega), if_pos (by omega)]
  · rw [upd_ne e] at hz
    rw [upc_n e, hR k' hk' m hm hz j hj]
    have h60 : tn n ≤ 60 := by
      rcases hn with hn | ⟨q, hq, hn⟩
      · rw [hn]; decide +kernel
      · rw [hn, tn_nI (by omega)]; exact hq
    unfold fzr
    rw [if_neg (by omega)]
theorem sR_lose {sz : Nat → Int32} {ceF : Nat → Nat → Int32} {sc : Nat → Int32} {k : Nat} (hR : sR sz ceF sc) : sR (upd sz k (-1)) ceF sc := by
  intro k' hk' m hm hz j hj
  by_cases e : k' = k
  · subst e
    rw [upd_at] at hz
    exact absurd hz.symm (nI_nm1 (by omega))
  · rw [upd_ne e] at hz
    exact hR k' hk' m hm hz j hj
theorem sR_put {sz : Nat → Int32} {ceF : Nat → Nat → Int32} {sc : Nat → Int32} {k i : Nat} {x : Int32} (hR : sR sz ceF sc) (hk : k < 4) (hi : i < 60) : sR sz (upc ceF k (upd (ceF k) i x)) (upd sc (60 * k + i) x) := by
  intro k' hk' m hm hz j hj
  by_cases e : k' = k
  · subst e
    rw [upc_s]
    by_cases e2 : j = i
    · subst e2; rw [upd_at, upd_at]
    · rw [upd_ne e2, upd_ne (by omega)]
      exact hR k' hk' m hm hz j hj
  · rw [upc_n e, upd_ne (by omega)]
    exact hR k' hk' m hm hz j hj
theorem sR_copy {sz : Nat → Int32} {ceF : Nat → Nat → Int32} {sc hn : Nat → Int32} {k o i j n m m2 : Nat} (hR : sR sz ceF sc) (hk : k < 4) (ho : o < 4) (hm : m ≤ 60) (hm2 : m2 ≤ 60) (hz1 : sz k = nI m) (hz2 : sz o = nI m2) (h1 : i + n ≤ m) (h2 : j + n ≤ m2) : sR sz (upc ceF o (va_cpy (ceF k) (ceF o) i j n)) (cpf sc (hnd hn sc (60 * k + i) n) (60 * o + j) n) := by
  intro k' hk' q hq hz c hc
  by_cases e : k' = o
  · subst e
    rw [upc_s]
    unfold va_cpy cpf
    by_cases e2 : j ≤ c ∧ c < j + n
    · rw [if_pos e2, if_pos (by omega), show 60 * k' + c - (60 * k' + j) = c - j by omega]
      unfold hnd
      rw [if_pos (by omega), hR k hk m hm hz1 (i + (c - j)) (by omega), Nat.add_assoc]
    · rw [if_neg e2, if_neg (by omega)]
      exact hR k' hk' q hq hz c hc
  · rw [upc_n e]
    unfold cpf
    rw [if_neg (by omega)]
    exact hR k' hk' q hq hz c hc
/-- a text without a fault: all its eaters can be read -/
theorem ok_hd {f : Nat → Int32} {b n : Nat} (h : fr0 f b n = (-1)) : cA f b n 0 = nI 100 ∧ zdg (cA f b n 1) 0 9 = true ∧ cA f b n 2 = nI 44 ∧ 0 < tdy f b n := by
  have n0 : ∀ q, q < 1000 → ¬ nI q = (-1) := fun q hq => nI_nm1 (by omega)
  by_cases h0 : cA f b n 0 = nI 100
  · rcases bTF (zdg (cA f b n 1) 0 9) with h1 | h1
    · by_cases h2 : cA f b n 2 = nI 44
      · by_cases h3 : tdy f b n = 0
        · exact absurd ((frun_f3 h0 h1 h2 h3).symm.trans h) (n0 3 (by omega))
        · exact ⟨h0, h1, h2, by omega⟩
      · exact absurd ((frun_f2 h0 h1 h2).symm.trans h) (n0 2 (by omega))
    · exact absurd ((frun_f1 h0 h1).symm.trans h) (n0 1 (by omega))
  · exact absurd ((frun_f0 h0).symm.trans h) (n0 0 (by omega))
theorem ok_all {f : Nat → Int32} {b n : Nat} (hn : n ≤ 240) (h : fr0 f b n = (-1)) : ∀ e, e ≤ tea n (tdy f b n) → frun f b n 0 0 0 0 = frun f b (n - (3 + tdy f b n + 5 * e)) (3 + tdy f b n + 5 * e) (if e = 0 then 4 else 9) (tdy f b n) e ∧ ∀ j, j < e → ∃ q, eaF f b n (3 + tdy f b n + 5 * j) j = (true, q)
  | 0, _ => by
    obtain ⟨h0, h1, h2, h3⟩ := ok_hd h
    exact ⟨frun_days h0 h1 h2 h3, fun j hj => absurd hj (Nat.not_lt_zero j)⟩
  | e + 1, he => by
    obtain ⟨i1, i2⟩ := ok_all hn h e (by omega)
    have l := tec_all (n := n) (pl := 3 + tdy f b n) 4 0 e (Nat.zero_le _) (show e < tea n (tdy f b n) by omega)
    have h4 := tea_le (n := n) (D := tdy f b n)
    rcases pr_tf (eaF f b n (3 + tdy f b n + 5 * e) e) with ⟨q, hq⟩ | ⟨q, hq⟩
    · have z := i1.trans (frun_nx (by omega) (by omega) (Or.inr (by omega)) hq)
      have hq2 := (eaF_le (by omega) hq).1
      exact absurd (z.symm.trans h) (nI_nm1 (by omega))
    · refine ⟨i1.trans (frun_nxt (by omega) hq), fun j hj => ?_⟩
      by_cases z : j = e
      · subst z; exact ⟨q, hq⟩
      · exact i2 j (by omega)
theorem kbl_3 {c : Int32} (h : ¬ kbl c = -9) : kbl c = nI (tn (kbl c)) ∧ tn (kbl c) ≤ 2 := by
  unfold kbl at h ⊢
  split
  · exact ⟨by decide +kernel, by decide +kernel⟩
  · rename_i a0
    rw [if_neg a0] at h
    split
    · exact ⟨by decide +kernel, by decide +kernel⟩
    · rename_i a1
      rw [if_neg a1] at h
      split
      · exact ⟨by decide +kernel, by decide +kernel⟩
      · rename_i a2
        rw [if_neg a2] at h
        exact absurd rfl h
theorem zdg_r {c : Int32} {lo hi : Nat} (h1 : lo ≤ 9) (h2 : hi ≤ 9) (h : zdg c lo hi = true) : c - nI 48 = nI (tn (c - nI 48)) ∧ lo ≤ tn (c - nI 48) ∧ tn (c - nI 48) ≤ hi := by
  unfold zdg at h
  simp only [Bool.and_eq_true, Bool.not_eq_true', decide_eq_false_iff_not] at h
  have e1 : ¬ c.toInt < (nI (48 + lo)).toInt := fun z => h.1 ((fa_lt _ _).mpr z)
  have e2 : ¬ (nI (48 + hi)).toInt < c.toInt := fun z => h.2 ((fa_lt _ _).mpr z)
  rw [nI_toInt (by omega)] at e1 e2
  obtain ⟨j, hj, ej⟩ := nI_of_toInt (x := c) (by omega)
  rw [hj, pk_sub (by omega), tn_nI (by omega)]
  exact ⟨rfl, by omega, by omega⟩
theorem ok_eat {f : Nat → Int32} {b n a : Nat} (hn : n ≤ 240) (h : fr0 f b n = (-1)) (ha : a < tea n (tdy f b n)) : ¬ kbl (f (b + (3 + tdy f b n + 5 * a) + 1)) = -9 ∧ zdg (f (b + (3 + tdy f b n + 5 * a) + 2)) 0 5 = true ∧ zdg (f (b + (3 + tdy f b n + 5 * a) + 3)) 1 9 = true := by
  obtain ⟨q, hq⟩ := (ok_all hn h (a + 1) (by omega)).2 a (by omega)
  obtain ⟨-, -, h2, h3, h4, h5, -⟩ := eaF_t hq
  have l := zdg_lt (by omega) (by omega) h5
  rw [cA_in (by omega)] at h2 h3 h4
  exact ⟨h2, h3, h4⟩
theorem ok_vK {f : Nat → Int32} {b n : Nat} {kd st : Nat → Int32} (hn : n ≤ 240) (h : fr0 f b n = (-1)) : vK (tkd f b (3 + tdy f b n) kd (tea n (tdy f b n))) (tst f b (3 + tdy f b n) 2 st (tea n (tdy f b n))) (tea n (tdy f b n)) := by
  intro a ha
  obtain ⟨h1, h2, -⟩ := ok_eat hn h ha
  rw [tkd_at, tst_at, if_pos ha, if_pos ha]
  have e := zdg_r (by omega) (by omega) h2
  exact ⟨kbl_3 h1, e.1, e.2.2⟩
theorem ok_vS {f : Nat → Int32} {b n : Nat} {sp : Nat → Int32} (hn : n ≤ 240) (h : fr0 f b n = (-1)) : vS (tst f b (3 + tdy f b n) 3 sp (tea n (tdy f b n))) (tea n (tdy f b n)) := by
  intro a ha
  obtain ⟨-, -, h3⟩ := ok_eat hn h ha
  rw [tst_at, if_pos ha]
  have e := zdg_r (by omega) (by omega) h3
  exact ⟨e.1, e.2.2, e.2.1⟩
theorem foc_n60 {le ln al i n : Int32} (hv : vle le) (h : foc ln le al i n = 0) : tn n ≤ 60 := by
  obtain ⟨i', n', rfl, rfl, h1, -⟩ := foc0 hv h
  rw [tn_nI (by omega)]; omega
/-- what holds between two calls of the law -/
def INV (D E C : Nat) (kd st sp rO rB rD rW sz : Nat → Int32) (ceF : Nat → Nat → Int32) (sc : Nat → Int32) (sm : Int32) : Prop :=
  D ≤ 6 ∧ E ≤ 4 ∧ C ≤ 8 ∧ vK kd st E ∧ vS sp E ∧ vR D E C rO rB rD rW ∧ (∀ k_, k_ < 4 → vle (sz k_)) ∧ sR sz ceF sc ∧ sm = (-9)
theorem vle_upd {sz : Nat → Int32} {k : Nat} {n : Int32} (h : ∀ k_, k_ < 4 → vle (sz k_)) (hn : vle n) : ∀ k_, k_ < 4 → vle (upd sz k n k_) := fun j hj => by
  by_cases e : j = k
  · rw [e, upd_at]; exact hn
  · rw [upd_ne e]; exact h j hj
theorem shk_v {lane n : Int32} (h : shk lane n = true) : vle n := by
  unfold shk at h
  simp only [Bool.and_eq_true, Bool.not_eq_true', decide_eq_false_iff_not, decide_eq_true_eq] at h
  obtain ⟨j, hj, h60⟩ := n60 h.1.2 h.2
  exact Or.inr ⟨j, h60, hj⟩
theorem vR_0 {D E : Nat} {rO rB rD rW : Nat → Int32} : vR D E 0 rO rB rD rW := fun r hr => absurd hr (Nat.not_lt_zero r)
theorem vR_less {D E C C' : Nat} {rO rB rD rW : Nat → Int32} (h : vR D E C rO rB rD rW) (hc : C' ≤ C) : vR D E C' rO rB rD rW := fun r hr => h r (by omega)
theorem vR_more {D E C x s d : Nat} {b : Bool} {rO rB rD rW : Nat → Int32} (h : vR D E C rO rB rD rW) (hx : x < E) (hs : s < 2 ^ D) (hd : d < D) (hE : E ≤ 4) (hD : D ≤ 6) : vR D E (C + 1) (upd rO C (nI x)) (upd rB C (nI s)) (upd rD C (nI d)) (upd rW C (bI b)) := fun r hr => by
  have hp : 2 ^ D ≤ 2 ^ 6 := Nat.pow_le_pow_right (by omega) hD
  by_cases e : r = C
  · subst e
    simp only [upd_at]
    rw [tn_nI (by omega), tn_nI (by omega), tn_nI (by omega)]
    refine ⟨⟨rfl, hx⟩, ⟨rfl, hs⟩, ⟨rfl, hd⟩, ?_⟩
    cases b <;> decide +kernel
  · simp only [upd_ne e]
    exact h r (by omega)
theorem tlkA {f g : Nat → Int32} {b b' n : Nat} {lk : Nat → Int32} (H : ∀ q, q < n → f (b + q) = g (b' + q)) : tlk g b' lk (tdy g b' n) = tlk f b lk (tdy f b n) := by
  rw [← tdy_cg H]; exact (tlk_cg H _ (Nat.le_refl _)).symm
theorem tkdA {f g : Nat → Int32} {b b' n : Nat} {kd : Nat → Int32} (H : ∀ q, q < n → f (b + q) = g (b' + q)) : tkd g b' (3 + tdy g b' n) kd (tea n (tdy g b' n)) = tkd f b (3 + tdy f b n) kd (tea n (tdy f b n)) := by
  rw [← tdy_cg H]; exact (tkd_cg H _ (fun j hj => tec_all 4 0 j (Nat.zero_le _) hj)).symm
theorem tstA {f g : Nat → Int32} {b b' n o : Nat} {st : Nat → Int32} (ho : o ≤ 4) (H : ∀ q, q < n → f (b + q) = g (b' + q)) : tst g b' (3 + tdy g b' n) o st (tea n (tdy g b' n)) = tst f b (3 + tdy f b n) o st (tea n (tdy f b n)) := by
  rw [← tdy_cg H]; exact (tst_cg ho H _ (fun j hj => tec_all 4 0 j (Nat.zero_le _) hj)).symm
theorem soA {f g : Nat → Int32} {b b' n : Nat} (H : ∀ q, q < n → f (b + q) = g (b' + q)) (h : fr0 g b' n = (-1)) : g (b' + 1) - nI 48 = f (b + 1) - nI 48 := by rw [H 1 (by have := frun_2 h; omega)]
theorem INV_back {D E C C' : Nat} {kd st sp rO rB rD rW sz : Nat → Int32} {ceF : Nat → Nat → Int32} {sc : Nat → Int32} {sm : Int32} (h : INV D E C kd st sp rO rB rD rW sz ceF sc sm) (hc : C' ≤ C) : INV D E C' kd st sp rO rB rD rW sz ceF sc sm := by
  obtain ⟨h1, h2, h3, h4, h5, h6, h7⟩ := h
  exact ⟨h1, h2, by omega, h4, h5, vR_less h6 hc, h7⟩
theorem INV_read {D E C : Nat} {kd st sp rO rB rD rW sz : Nat → Int32} {ceF : Nat → Nat → Int32} {sc : Nat → Int32} {sm x s d : Int32} {b : Bool} (h : INV D E C kd st sp rO rB rD rW sz ceF sc sm) : INV D E (if rok D E C x s d = true then C + 1 else C) kd st sp (if rok D E C x s d = true then upd rO C x else rO) (if rok D E C x s d = true then upd rB C s else rB) (if rok D E C x s d = true then upd rD C d else rD) (if rok D E C x s d = true then upd rW C (bI b) else rW) sz ceF sc sm := by
  by_cases q : rok D E C x s d = true
  · simp only [if_pos q]
    obtain ⟨h1, h2, h3, h4, h5, h6, h7⟩ := h
    unfold rok at q
    simp only [Bool.and_eq_true, decide_eq_true_eq] at q
    have hp : 2 ^ D ≤ 2 ^ 6 := Nat.pow_le_pow_right (by omega) h1
    obtain ⟨jx, hx, rfl⟩ := zin_t (by omega) q.1.1.1
    obtain ⟨js, hs, rfl⟩ := zin_t (by omega) q.1.1.2
    obtain ⟨jd, hd, rfl⟩ := zin_t (by omega) q.1.2
    exact ⟨h1, h2, by omega, h4, h5, vR_more h6 hx hs hd h2 h1, h7⟩
  · simp only [if_neg q]
    exact h
theorem INV_sm {D E C : Nat} {kd st sp rO rB rD rW sz : Nat → Int32} {ceF : Nat → Nat → Int32} {sc : Nat → Int32} {sm : Int32} (h : INV D E C kd st sp rO rB rD rW sz ceF sc sm) : INV D E C kd st sp rO rB rD rW sz ceF sc (-9) := by
  obtain ⟨h1, h2, h3, h4, h5, h6, h7, h8, h9⟩ := h
  exact ⟨h1, h2, h3, h4, h5, h6, h7, h8, rfl⟩
theorem INV_sh {D E C : Nat} {kd st sp rO rB rD rW sz sz' : Nat → Int32} {ceF ceF' : Nat → Nat → Int32} {sc sc' : Nat → Int32} {sm : Int32} (h : INV D E C kd st sp rO rB rD rW sz ceF sc sm) (h1 : ∀ k_, k_ < 4 → vle (sz' k_)) (h2 : sR sz' ceF' sc') : INV D E C kd st sp rO rB rD rW sz' ceF' sc' sm := by
  obtain ⟨a1, a2, a3, a4, a5, a6, a7, a8, a9⟩ := h
  exact ⟨a1, a2, a3, a4, a5, a6, h1, h2, a9⟩
theorem INV_du {D E C : Nat} {kd st sp rO rB rD rW sz : Nat → Int32} {ceF : Nat → Nat → Int32} {sc : Nat → Int32} {sm : Int32} {f : Nat → Int32} {b n : Nat} (h : INV D E C kd st sp rO rB rD rW sz ceF sc sm) (hn : n ≤ 240) (hf : fr0 f b n = (-1)) : INV (tdy f b n) (tea n (tdy f b n)) 0 (tkd f b (3 + tdy f b n) kd (tea n (tdy f b n))) (tst f b (3 + tdy f b n) 2 st (tea n (tdy f b n))) (tst f b (3 + tdy f b n) 3 sp (tea n (tdy f b n))) rO rB rD rW sz ceF sc sm := by
  obtain ⟨a1, a2, a3, a4, a5, a6, a7, a8, a9⟩ := h
  exact ⟨tdy_le6, tea_le, by omega, ok_vK hn hf, ok_vS hn hf, vR_0, a7, a8, a9⟩
theorem cok_t {ln le ln2 le2 i j n : Int32} (h1 : vle le) (h2 : vle le2) (h : cok ln le ln2 le2 i j n = true) : ∃ m m2, m ≤ 60 ∧ m2 ≤ 60 ∧ le = nI m ∧ le2 = nI m2 ∧ tn i + tn n ≤ m ∧ tn j + tn n ≤ m2 := by
  unfold cok at h
  simp only [Bool.and_eq_true] at h
  obtain ⟨i', n', rfl, rfl, m, hm, hl, him⟩ := hcl_t h1 h.1.2
  obtain ⟨j', rfl, m2, hm2, hl2, hjm⟩ := hcl_t2 (by omega) h2 h.2
  refine ⟨m, m2, hm, hm2, hl, hl2, ?_, ?_⟩ <;> rw [tn_nI (by omega), tn_nI (by omega)] <;> omega
theorem put_i {le ln al i : Int32} (hv : vle le) (h : foc ln le al i (nI 1) = 0) : tn i < 60 := by
  obtain ⟨i', rfl, h1, -⟩ := foc1 hv h
  rw [tn_nI (by omega)]; omega
