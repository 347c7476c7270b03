-- ===== PART A: goes FIRST, ahead of the names: the tables' words, and 'selects' of the private methods out of them =====
/-- a private method of a class that the tables say can be made, by its rows of tables_1 -/
def lw_okq (q : MethodName × Nat) : Prop := (q.1.cls ≠ "java/lang/invoke/MethodHandle" ∧ q.1.cls ≠ "java/lang/invoke/VarHandle") ∧ Cond.instantiable q.1.cls q.2 ∈ tables_1 ∧ Cond.privateMethod q.1 ∈ tables_1 ∧ Cond.instanceMethod q.1 ∈ tables_1
theorem lw_p0 : lw_okq (⟨"MustardFast", "sheetAt", "(I)LMustardFast$Sheet;"⟩, 5) := ⟨⟨by decide +kernel, by decide +kernel⟩, List.mem_of_getElem? (i := 11) (by decide +kernel), List.mem_of_getElem? (i := 111) (by decide +kernel), List.mem_of_getElem? (i := 112) (by decide +kernel)⟩
theorem lw_p1 : lw_okq (⟨"MustardFast", "faulted", "(I)I"⟩, 5) := ⟨⟨by decide +kernel, by decide +kernel⟩, List.mem_of_getElem? (i := 11) (by decide +kernel), List.mem_of_getElem? (i := 130) (by decide +kernel), List.mem_of_getElem? (i := 131) (by decide +kernel)⟩
theorem lw_p2 : lw_okq (⟨"MustardFast", "ofPlan", "(LMustardFast$Sheet;II)I"⟩, 5) := ⟨⟨by decide +kernel, by decide +kernel⟩, List.mem_of_getElem? (i := 11) (by decide +kernel), List.mem_of_getElem? (i := 317) (by decide +kernel), List.mem_of_getElem? (i := 318) (by decide +kernel)⟩
theorem lw_p3 : lw_okq (⟨"MustardFast$Sheet", "cutToLane", "(I)I"⟩, 3) := ⟨⟨by decide +kernel, by decide +kernel⟩, List.mem_of_getElem? (i := 75) (by decide +kernel), List.mem_of_getElem? (i := 464) (by decide +kernel), List.mem_of_getElem? (i := 465) (by decide +kernel)⟩
theorem lw_p4 : lw_okq (⟨"MustardFast", "strangerTelling", "(I)I"⟩, 5) := ⟨⟨by decide +kernel, by decide +kernel⟩, List.mem_of_getElem? (i := 11) (by decide +kernel), List.mem_of_getElem? (i := 490) (by decide +kernel), List.mem_of_getElem? (i := 491) (by decide +kernel)⟩
theorem lw_p5 : lw_okq (⟨"MustardFast", "leaveInTrace", "(I)V"⟩, 5) := ⟨⟨by decide +kernel, by decide +kernel⟩, List.mem_of_getElem? (i := 11) (by decide +kernel), List.mem_of_getElem? (i := 494) (by decide +kernel), List.mem_of_getElem? (i := 495) (by decide +kernel)⟩
theorem lw_p6 : lw_okq (⟨"MustardFast", "slyTelling", "(I)I"⟩, 5) := ⟨⟨by decide +kernel, by decide +kernel⟩, List.mem_of_getElem? (i := 11) (by decide +kernel), List.mem_of_getElem? (i := 498) (by decide +kernel), List.mem_of_getElem? (i := 499) (by decide +kernel)⟩
theorem lw_p7 : lw_okq (⟨"MustardFast", "eaterTelling", "(I)I"⟩, 5) := ⟨⟨by decide +kernel, by decide +kernel⟩, List.mem_of_getElem? (i := 11) (by decide +kernel), List.mem_of_getElem? (i := 502) (by decide +kernel), List.mem_of_getElem? (i := 503) (by decide +kernel)⟩
theorem lw_p8 : lw_okq (⟨"MustardFast", "strangerSniffing", "()I"⟩, 5) := ⟨⟨by decide +kernel, by decide +kernel⟩, List.mem_of_getElem? (i := 11) (by decide +kernel), List.mem_of_getElem? (i := 510) (by decide +kernel), List.mem_of_getElem? (i := 511) (by decide +kernel)⟩
theorem lw_p9 : lw_okq (⟨"MustardFast", "lentSniffing", "(I)I"⟩, 5) := ⟨⟨by decide +kernel, by decide +kernel⟩, List.mem_of_getElem? (i := 11) (by decide +kernel), List.mem_of_getElem? (i := 514) (by decide +kernel), List.mem_of_getElem? (i := 515) (by decide +kernel)⟩
theorem lw_p10 : lw_okq (⟨"MustardFastModel", "refused", "(I)I"⟩, 29) := ⟨⟨by decide +kernel, by decide +kernel⟩, List.mem_of_getElem? (i := 538) (by decide +kernel), List.mem_of_getElem? (i := 643) (by decide +kernel), List.mem_of_getElem? (i := 644) (by decide +kernel)⟩
theorem lw_p11 : lw_okq (⟨"MustardFastModel", "cellsBarred", "(IIIJ)I"⟩, 29) := ⟨⟨by decide +kernel, by decide +kernel⟩, List.mem_of_getElem? (i := 538) (by decide +kernel), List.mem_of_getElem? (i := 648) (by decide +kernel), List.mem_of_getElem? (i := 649) (by decide +kernel)⟩
theorem lw_p12 : lw_okq (⟨"MustardFastModel", "failed", "(I)I"⟩, 29) := ⟨⟨by decide +kernel, by decide +kernel⟩, List.mem_of_getElem? (i := 538) (by decide +kernel), List.mem_of_getElem? (i := 652) (by decide +kernel), List.mem_of_getElem? (i := 653) (by decide +kernel)⟩
theorem lw_p13 : lw_okq (⟨"MustardFastModel", "readsDuchy", "(II)Z"⟩, 29) := ⟨⟨by decide +kernel, by decide +kernel⟩, List.mem_of_getElem? (i := 538) (by decide +kernel), List.mem_of_getElem? (i := 659) (by decide +kernel), List.mem_of_getElem? (i := 660) (by decide +kernel)⟩
theorem lw_p14 : lw_okq (⟨"MustardFastModel", "codeAt", "(II)I"⟩, 29) := ⟨⟨by decide +kernel, by decide +kernel⟩, List.mem_of_getElem? (i := 538) (by decide +kernel), List.mem_of_getElem? (i := 663) (by decide +kernel), List.mem_of_getElem? (i := 664) (by decide +kernel)⟩
theorem lw_p15 : lw_okq (⟨"MustardFastModel", "figure", "(IIII)I"⟩, 29) := ⟨⟨by decide +kernel, by decide +kernel⟩, List.mem_of_getElem? (i := 538) (by decide +kernel), List.mem_of_getElem? (i := 667) (by decide +kernel), List.mem_of_getElem? (i := 668) (by decide +kernel)⟩
def lw_privs_1 : List (MethodName × Nat) := [(⟨"MustardFast", "sheetAt", "(I)LMustardFast$Sheet;"⟩, 5), (⟨"MustardFast", "faulted", "(I)I"⟩, 5), (⟨"MustardFast", "ofPlan", "(LMustardFast$Sheet;II)I"⟩, 5), (⟨"MustardFast$Sheet", "cutToLane", "(I)I"⟩, 3), (⟨"MustardFast", "strangerTelling", "(I)I"⟩, 5), (⟨"MustardFast", "leaveInTrace", "(I)V"⟩, 5), (⟨"MustardFast", "slyTelling", "(I)I"⟩, 5), (⟨"MustardFast", "eaterTelling", "(I)I"⟩, 5), (⟨"MustardFast", "strangerSniffing", "()I"⟩, 5), (⟨"MustardFast", "lentSniffing", "(I)I"⟩, 5), (⟨"MustardFastModel", "refused", "(I)I"⟩, 29), (⟨"MustardFastModel", "cellsBarred", "(IIIJ)I"⟩, 29), (⟨"MustardFastModel", "failed", "(I)I"⟩, 29), (⟨"MustardFastModel", "readsDuchy", "(II)Z"⟩, 29), (⟨"MustardFastModel", "codeAt", "(II)I"⟩, 29), (⟨"MustardFastModel", "figure", "(IIII)I"⟩, 29)]
theorem lw_r1 : ∀ q ∈ lw_privs_1, lw_okq q := List.forall_mem_cons.mpr ⟨lw_p0, List.forall_mem_cons.mpr ⟨lw_p1, List.forall_mem_cons.mpr ⟨lw_p2, List.forall_mem_cons.mpr ⟨lw_p3, List.forall_mem_cons.mpr ⟨lw_p4, List.forall_mem_cons.mpr ⟨lw_p5, List.forall_mem_cons.mpr ⟨lw_p6, List.forall_mem_cons.mpr ⟨lw_p7, List.forall_mem_cons.mpr ⟨lw_p8, List.forall_mem_cons.mpr ⟨lw_p9, List.forall_mem_cons.mpr ⟨lw_p10, List.forall_mem_cons.mpr ⟨lw_p11, List.forall_mem_cons.mpr ⟨lw_p12, List.forall_mem_cons.mpr ⟨lw_p13, List.forall_mem_cons.mpr ⟨lw_p14, List.forall_mem_cons.mpr ⟨lw_p15, fun _ h => absurd h List.not_mem_nil⟩⟩⟩⟩⟩⟩⟩⟩⟩⟩⟩⟩⟩⟩⟩⟩
theorem lw_p16 : lw_okq (⟨"MustardFastModel", "readsDays", "(II)Z"⟩, 29) := ⟨⟨by decide +kernel, by decide +kernel⟩, List.mem_of_getElem? (i := 538) (by decide +kernel), List.mem_of_getElem? (i := 671) (by decide +kernel), List.mem_of_getElem? (i := 672) (by decide +kernel)⟩
theorem lw_p17 : lw_okq (⟨"MustardFastModel", "readsEater", "(II)Z"⟩, 29) := ⟨⟨by decide +kernel, by decide +kernel⟩, List.mem_of_getElem? (i := 538) (by decide +kernel), List.mem_of_getElem? (i := 675) (by decide +kernel), List.mem_of_getElem? (i := 676) (by decide +kernel)⟩
theorem lw_p18 : lw_okq (⟨"MustardFastModel", "noEater", "(I)Z"⟩, 29) := ⟨⟨by decide +kernel, by decide +kernel⟩, List.mem_of_getElem? (i := 538) (by decide +kernel), List.mem_of_getElem? (i := 683) (by decide +kernel), List.mem_of_getElem? (i := 684) (by decide +kernel)⟩
theorem lw_p19 : lw_okq (⟨"MustardFastModel", "lastsOf", "(I)I"⟩, 29) := ⟨⟨by decide +kernel, by decide +kernel⟩, List.mem_of_getElem? (i := 538) (by decide +kernel), List.mem_of_getElem? (i := 687) (by decide +kernel), List.mem_of_getElem? (i := 688) (by decide +kernel)⟩
theorem lw_p20 : lw_okq (⟨"MustardFastModel", "noDay", "(I)Z"⟩, 29) := ⟨⟨by decide +kernel, by decide +kernel⟩, List.mem_of_getElem? (i := 538) (by decide +kernel), List.mem_of_getElem? (i := 695) (by decide +kernel), List.mem_of_getElem? (i := 696) (by decide +kernel)⟩
theorem lw_p21 : lw_okq (⟨"MustardFastModel", "fastsNow", "()I"⟩, 29) := ⟨⟨by decide +kernel, by decide +kernel⟩, List.mem_of_getElem? (i := 538) (by decide +kernel), List.mem_of_getElem? (i := 717) (by decide +kernel), List.mem_of_getElem? (i := 718) (by decide +kernel)⟩
theorem lw_p22 : lw_okq (⟨"MustardFastModel", "noSet", "(I)Z"⟩, 29) := ⟨⟨by decide +kernel, by decide +kernel⟩, List.mem_of_getElem? (i := 538) (by decide +kernel), List.mem_of_getElem? (i := 725) (by decide +kernel), List.mem_of_getElem? (i := 726) (by decide +kernel)⟩
theorem lw_p23 : lw_okq (⟨"MustardFastModel", "yellowBy", "(II)I"⟩, 29) := ⟨⟨by decide +kernel, by decide +kernel⟩, List.mem_of_getElem? (i := 538) (by decide +kernel), List.mem_of_getElem? (i := 729) (by decide +kernel), List.mem_of_getElem? (i := 730) (by decide +kernel)⟩
theorem lw_p24 : lw_okq (⟨"MustardFastModel", "foundBy", "(II)I"⟩, 29) := ⟨⟨by decide +kernel, by decide +kernel⟩, List.mem_of_getElem? (i := 538) (by decide +kernel), List.mem_of_getElem? (i := 740) (by decide +kernel), List.mem_of_getElem? (i := 741) (by decide +kernel)⟩
theorem lw_p25 : lw_okq (⟨"MustardFastModel", "fineOf", "(II)I"⟩, 29) := ⟨⟨by decide +kernel, by decide +kernel⟩, List.mem_of_getElem? (i := 538) (by decide +kernel), List.mem_of_getElem? (i := 744) (by decide +kernel), List.mem_of_getElem? (i := 745) (by decide +kernel)⟩
theorem lw_p26 : lw_okq (⟨"MustardFastModel", "planBy", "(II)I"⟩, 29) := ⟨⟨by decide +kernel, by decide +kernel⟩, List.mem_of_getElem? (i := 538) (by decide +kernel), List.mem_of_getElem? (i := 757) (by decide +kernel), List.mem_of_getElem? (i := 758) (by decide +kernel)⟩
theorem lw_p27 : lw_okq (⟨"MustardFastModel", "bestOf", "(I)I"⟩, 29) := ⟨⟨by decide +kernel, by decide +kernel⟩, List.mem_of_getElem? (i := 538) (by decide +kernel), List.mem_of_getElem? (i := 765) (by decide +kernel), List.mem_of_getElem? (i := 766) (by decide +kernel)⟩
theorem lw_p28 : lw_okq (⟨"MustardFastModel", "villageNow", "()I"⟩, 29) := ⟨⟨by decide +kernel, by decide +kernel⟩, List.mem_of_getElem? (i := 538) (by decide +kernel), List.mem_of_getElem? (i := 773) (by decide +kernel), List.mem_of_getElem? (i := 774) (by decide +kernel)⟩
theorem lw_p29 : lw_okq (⟨"MustardFastModel", "areSo", "()Z"⟩, 29) := ⟨⟨by decide +kernel, by decide +kernel⟩, List.mem_of_getElem? (i := 538) (by decide +kernel), List.mem_of_getElem? (i := 793) (by decide +kernel), List.mem_of_getElem? (i := 794) (by decide +kernel)⟩
theorem lw_p30 : lw_okq (⟨"MustardFastModel", "noCell", "(II)I"⟩, 29) := ⟨⟨by decide +kernel, by decide +kernel⟩, List.mem_of_getElem? (i := 538) (by decide +kernel), List.mem_of_getElem? (i := 828) (by decide +kernel), List.mem_of_getElem? (i := 829) (by decide +kernel)⟩
theorem lw_p31 : lw_okq (⟨"MustardFastModel", "failedLong", "(I)J"⟩, 29) := ⟨⟨by decide +kernel, by decide +kernel⟩, List.mem_of_getElem? (i := 538) (by decide +kernel), List.mem_of_getElem? (i := 836) (by decide +kernel), List.mem_of_getElem? (i := 837) (by decide +kernel)⟩
def lw_privs_2 : List (MethodName × Nat) := [(⟨"MustardFastModel", "readsDays", "(II)Z"⟩, 29), (⟨"MustardFastModel", "readsEater", "(II)Z"⟩, 29), (⟨"MustardFastModel", "noEater", "(I)Z"⟩, 29), (⟨"MustardFastModel", "lastsOf", "(I)I"⟩, 29), (⟨"MustardFastModel", "noDay", "(I)Z"⟩, 29), (⟨"MustardFastModel", "fastsNow", "()I"⟩, 29), (⟨"MustardFastModel", "noSet", "(I)Z"⟩, 29), (⟨"MustardFastModel", "yellowBy", "(II)I"⟩, 29), (⟨"MustardFastModel", "foundBy", "(II)I"⟩, 29), (⟨"MustardFastModel", "fineOf", "(II)I"⟩, 29), (⟨"MustardFastModel", "planBy", "(II)I"⟩, 29), (⟨"MustardFastModel", "bestOf", "(I)I"⟩, 29), (⟨"MustardFastModel", "villageNow", "()I"⟩, 29), (⟨"MustardFastModel", "areSo", "()Z"⟩, 29), (⟨"MustardFastModel", "noCell", "(II)I"⟩, 29), (⟨"MustardFastModel", "failedLong", "(I)J"⟩, 29)]
theorem lw_r2 : ∀ q ∈ lw_privs_2, lw_okq q := List.forall_mem_cons.mpr ⟨lw_p16, List.forall_mem_cons.mpr ⟨lw_p17, List.forall_mem_cons.mpr ⟨lw_p18, List.forall_mem_cons.mpr ⟨lw_p19, List.forall_mem_cons.mpr ⟨lw_p20, List.forall_mem_cons.mpr ⟨lw_p21, List.forall_mem_cons.mpr ⟨lw_p22, List.forall_mem_cons.mpr ⟨lw_p23, List.forall_mem_cons.mpr ⟨lw_p24, List.forall_mem_cons.mpr ⟨lw_p25, List.forall_mem_cons.mpr ⟨lw_p26, List.forall_mem_cons.mpr ⟨lw_p27, List.forall_mem_cons.mpr ⟨lw_p28, List.forall_mem_cons.mpr ⟨lw_p29, List.forall_mem_cons.mpr ⟨lw_p30, List.forall_mem_cons.mpr ⟨lw_p31, fun _ h => absurd h List.not_mem_nil⟩⟩⟩⟩⟩⟩⟩⟩⟩⟩⟩⟩⟩⟩⟩⟩
theorem lw_p32 : lw_okq (⟨"MustardFastModel", "traced", "(I)V"⟩, 29) := ⟨⟨by decide +kernel, by decide +kernel⟩, List.mem_of_getElem? (i := 538) (by decide +kernel), List.mem_of_getElem? (i := 848) (by decide +kernel), List.mem_of_getElem? (i := 849) (by decide +kernel)⟩
def lw_privs_3 : List (MethodName × Nat) := [(⟨"MustardFastModel", "traced", "(I)V"⟩, 29)]
theorem lw_r3 : ∀ q ∈ lw_privs_3, lw_okq q := List.forall_mem_cons.mpr ⟨lw_p32, fun _ h => absurd h List.not_mem_nil⟩
def lw_privs : List (MethodName × Nat) := lw_privs_1 ++ (lw_privs_2 ++ (lw_privs_3))
def lw_tbl : List Cond := k2_sels lw_privs ++ tables_1
theorem lw_privs_ok : ∀ q ∈ lw_privs, lw_okq q := by
  show ∀ q ∈ lw_privs_1 ++ (lw_privs_2 ++ (lw_privs_3)), lw_okq q
  exact List.forall_mem_append.mpr ⟨lw_r1, List.forall_mem_append.mpr ⟨lw_r2, lw_r3⟩⟩
/-! ===== BEGIN words of one list among another's, by their places ===== -/
theorem goodIn_r {big : List Cond} (ws : List Cond) (ps : List Nat) (hp : ws = ps.filterMap (fun i => big[i]?)) (h : ws.all goodWord = true) : GoodIn big ws := by
  intro w hw
  have h1 := List.all_eq_true.mp h w hw
  rw [hp] at hw
  obtain ⟨i, -, hi⟩ := List.mem_filterMap.mp hw
  have hm : w ∈ big := by first | exact List.mem_of_getElem? hi | exact List.getElem?_mem hi
  exact ⟨hm, good_of_word h1⟩
theorem goodIn_app {big a b : List Cond} (ha : GoodIn big a) (hb : GoodIn big b) : GoodIn big (a ++ b) := fun w h => (List.mem_append.mp h).elim (ha w) (hb w)
theorem goodIn_ca {big a b : List Cond} {c : Cond} (ha : GoodIn big (c :: a)) (hb : GoodIn big b) : GoodIn big (c :: (a ++ b)) := fun w h => (List.mem_cons.mp h).elim (fun e => ha w (List.mem_cons.mpr (Or.inl e))) (fun h => (List.mem_append.mp h).elim (fun h => ha w (List.mem_cons.mpr (Or.inr h))) (hb w))
theorem goodIn_sub {big ws : List Cond} (hm : ∀ w ∈ ws, w ∈ big) (h : ws.all goodWord = true) : GoodIn big ws := fun w hw => ⟨hm w hw, good_of_word (List.all_eq_true.mp h w hw)⟩
/-! ===== END ===== -/

/-! ===== BEGIN printed: names, fields, word lists, decode rows ===== -/
def RX0 : String := "MustardFast$Duchy"
def TX0 : u_T := fun k => match k with
  | 0 => ("MustardFast$Duchy", "looks", "[I", true)
  | 1 => ("MustardFast$Duchy", "eaterKinds", "[I", true)
  | 2 => ("MustardFast$Duchy", "eaterStays", "[I", true)
  | 3 => ("MustardFast$Duchy", "eaterSpoons", "[I", true)
  | 4 => ("MustardFast$Duchy", "eaterNeeds", "[I", true)
  | 5 => ("MustardFast$Duchy", "days", "I", false)
  | 6 => ("MustardFast$Duchy", "eaters", "I", false)
  | _ => ("MustardFast$Duchy", "sourFrom", "I", false)
def tyX0 : Nat → FieldType := fun k => match k with
  | 0 => .array .int
  | 1 => .array .int
  | 2 => .array .int
  | 3 => .array .int
  | 4 => .array .int
  | 5 => .int
  | 6 => .int
  | _ => .int
abbrev wsX00 : List Cond := u_ws RX0 TX0 8
theorem nmX0 : ∀ a, a < 8 → ∀ b, b < 8 → a ≠ b → (TX0 a).2.1 ≠ (TX0 b).2.1 := by decide +kernel
theorem tyX0_ok : ∀ k, k < 8 → parseFieldDescriptor (TX0 k).2.2.1 = some (tyX0 k) := by decide +kernel
abbrev cX0_init : ByteArray := prog_2_method_1_code
def yX0_init : MethodName := ⟨RX0, "<init>", "()V"⟩
abbrev cX0_takeText : ByteArray := prog_2_method_2_code
def yX0_takeText : MethodName := ⟨RX0, "takeText", "(LMustardFast$Sheet;II)V"⟩
abbrev cX0_isTold : ByteArray := prog_2_method_3_code
def yX0_isTold : MethodName := ⟨RX0, "isTold", "()Z"⟩
abbrev cX0_eaterCount : ByteArray := prog_2_method_4_code
def yX0_eaterCount : MethodName := ⟨RX0, "eaterCount", "()I"⟩
abbrev cX0_dayCount : ByteArray := prog_2_method_5_code
def yX0_dayCount : MethodName := ⟨RX0, "dayCount", "()I"⟩
abbrev cX0_hasEater : ByteArray := prog_2_method_6_code
def yX0_hasEater : MethodName := ⟨RX0, "hasEater", "(I)Z"⟩
abbrev cX0_hasDay : ByteArray := prog_2_method_7_code
def yX0_hasDay : MethodName := ⟨RX0, "hasDay", "(I)Z"⟩
abbrev cX0_hasDays : ByteArray := prog_2_method_8_code
def yX0_hasDays : MethodName := ⟨RX0, "hasDays", "(I)Z"⟩
abbrev cX0_allDays : ByteArray := prog_2_method_9_code
def yX0_allDays : MethodName := ⟨RX0, "allDays", "()I"⟩
abbrev cX0_kindOf : ByteArray := prog_2_method_10_code
def yX0_kindOf : MethodName := ⟨RX0, "kindOf", "(I)I"⟩
abbrev cX0_stayOf : ByteArray := prog_2_method_11_code
def yX0_stayOf : MethodName := ⟨RX0, "stayOf", "(I)I"⟩
abbrev cX0_spoonsOf : ByteArray := prog_2_method_12_code
def yX0_spoonsOf : MethodName := ⟨RX0, "spoonsOf", "(I)I"⟩
abbrev cX0_needOf : ByteArray := prog_2_method_13_code
def yX0_needOf : MethodName := ⟨RX0, "needOf", "(I)I"⟩
abbrev cX0_changeNeed : ByteArray := prog_2_method_14_code
def yX0_changeNeed : MethodName := ⟨RX0, "changeNeed", "(II)V"⟩
abbrev cX0_lastsOf : ByteArray := prog_2_method_15_code
def yX0_lastsOf : MethodName := ⟨RX0, "lastsOf", "(I)I"⟩
abbrev cX0_lastsBy : ByteArray := prog_2_method_16_code
def yX0_lastsBy : MethodName := ⟨RX0, "lastsBy", "(II)I"⟩
abbrev cX0_lookOf : ByteArray := prog_2_method_17_code
def yX0_lookOf : MethodName := ⟨RX0, "lookOf", "(I)I"⟩
abbrev cX0_changeLook : ByteArray := prog_2_method_18_code
def yX0_changeLook : MethodName := ⟨RX0, "changeLook", "(II)V"⟩
abbrev cX0_sourLook : ByteArray := prog_2_method_19_code
def yX0_sourLook : MethodName := ⟨RX0, "sourLook", "()I"⟩
abbrev cX0_changeSour : ByteArray := prog_2_method_20_code
def yX0_changeSour : MethodName := ⟨RX0, "changeSour", "(I)V"⟩
abbrev cX0_fastDays : ByteArray := prog_2_method_21_code
def yX0_fastDays : MethodName := ⟨RX0, "fastDays", "()I"⟩
abbrev cX0_fastDaysBut : ByteArray := prog_2_method_22_code
def yX0_fastDaysBut : MethodName := ⟨RX0, "fastDaysBut", "(I)I"⟩
abbrev cX0_yellowDays : ByteArray := prog_2_method_23_code
def yX0_yellowDays : MethodName := ⟨RX0, "yellowDays", "(II)I"⟩
abbrev cX0_foundDays : ByteArray := prog_2_method_24_code
def yX0_foundDays : MethodName := ⟨RX0, "foundDays", "(II)I"⟩
abbrev cX0_fineOf : ByteArray := prog_2_method_25_code
def yX0_fineOf : MethodName := ⟨RX0, "fineOf", "(II)I"⟩
abbrev cX0_isFoundOn : ByteArray := prog_2_method_26_code
def yX0_isFoundOn : MethodName := ⟨RX0, "isFoundOn", "(IIII)Z"⟩
abbrev cX0_hasPlan : ByteArray := prog_2_method_27_code
def yX0_hasPlan : MethodName := ⟨RX0, "hasPlan", "(LMustardFast$Sheet;II)Z"⟩
abbrev cX0_finesOfPlan : ByteArray := prog_2_method_28_code
def yX0_finesOfPlan : MethodName := ⟨RX0, "finesOfPlan", "(LMustardFast$Sheet;I)I"⟩
abbrev cX0_firstDayOfPlan : ByteArray := prog_2_method_29_code
def yX0_firstDayOfPlan : MethodName := ⟨RX0, "firstDayOfPlan", "(LMustardFast$Sheet;I)I"⟩
abbrev cX0_foundEatersOfPlan : ByteArray := prog_2_method_30_code
def yX0_foundEatersOfPlan : MethodName := ⟨RX0, "foundEatersOfPlan", "(LMustardFast$Sheet;I)I"⟩
abbrev cX0_starvedEatersOfPlan : ByteArray := prog_2_method_31_code
def yX0_starvedEatersOfPlan : MethodName := ⟨RX0, "starvedEatersOfPlan", "(LMustardFast$Sheet;I)I"⟩
abbrev cX0_foundOnDayOfPlan : ByteArray := prog_2_method_32_code
def yX0_foundOnDayOfPlan : MethodName := ⟨RX0, "foundOnDayOfPlan", "(LMustardFast$Sheet;II)I"⟩
abbrev cX0_bestSet : ByteArray := prog_2_method_33_code
def yX0_bestSet : MethodName := ⟨RX0, "bestSet", "(II)I"⟩
abbrev cX0_isBetter : ByteArray := prog_2_method_34_code
def yX0_isBetter : MethodName := ⟨RX0, "isBetter", "(IIII)Z"⟩
abbrev cX0_villagePays : ByteArray := prog_2_method_35_code
def yX0_villagePays : MethodName := ⟨RX0, "villagePays", "(I)I"⟩
abbrev cX0_smileDay : ByteArray := prog_2_method_36_code
def yX0_smileDay : MethodName := ⟨RX0, "smileDay", "()I"⟩
def RX1 : String := "MustardFast$Readings"
def TX1 : u_T := fun k => match k with
  | 0 => ("MustardFast$Readings", "ofEaters", "[I", true)
  | 1 => ("MustardFast$Readings", "eatenSets", "[I", true)
  | 2 => ("MustardFast$Readings", "onDays", "[I", true)
  | 3 => ("MustardFast$Readings", "wereFound", "[Z", true)
  | _ => ("MustardFast$Readings", "count", "I", false)
def tyX1 : Nat → FieldType := fun k => match k with
  | 0 => .array .int
  | 1 => .array .int
  | 2 => .array .int
  | 3 => .array .boolean
  | _ => .int
abbrev wsX10 : List Cond := u_ws RX1 TX1 5
theorem nmX1 : ∀ a, a < 5 → ∀ b, b < 5 → a ≠ b → (TX1 a).2.1 ≠ (TX1 b).2.1 := by decide +kernel
theorem tyX1_ok : ∀ k, k < 5 → parseFieldDescriptor (TX1 k).2.2.1 = some (tyX1 k) := by decide +kernel
abbrev cX1_init : ByteArray := prog_3_method_1_code
def yX1_init : MethodName := ⟨RX1, "<init>", "()V"⟩
abbrev cX1_keptCount : ByteArray := prog_3_method_2_code
def yX1_keptCount : MethodName := ⟨RX1, "keptCount", "()I"⟩
abbrev cX1_isFull : ByteArray := prog_3_method_3_code
def yX1_isFull : MethodName := ⟨RX1, "isFull", "()Z"⟩
abbrev cX1_keep : ByteArray := prog_3_method_4_code
def yX1_keep : MethodName := ⟨RX1, "keep", "(IIIZ)V"⟩
abbrev cX1_dropLast : ByteArray := prog_3_method_5_code
def yX1_dropLast : MethodName := ⟨RX1, "dropLast", "(I)V"⟩
abbrev cX1_dropAll : ByteArray := prog_3_method_6_code
def yX1_dropAll : MethodName := ⟨RX1, "dropAll", "()V"⟩
abbrev cX1_allAreSo : ByteArray := prog_3_method_7_code
def yX1_allAreSo : MethodName := ⟨RX1, "allAreSo", "(LMustardFast$Duchy;III)Z"⟩
def RX2 : String := "MustardFast$Sheet"
def TX2 : u_T := fun k => match k with
  | 0 => ("MustardFast$Sheet", "cells", "[I", true)
  | 1 => ("MustardFast$Sheet", "lane", "I", false)
  | _ => ("MustardFast$Sheet", "length", "I", false)
def tyX2 : Nat → FieldType := fun k => match k with
  | 0 => .array .int
  | 1 => .int
  | _ => .int
abbrev wsX20 : List Cond := u_ws RX2 TX2 3
theorem nmX2 : ∀ a, a < 3 → ∀ b, b < 3 → a ≠ b → (TX2 a).2.1 ≠ (TX2 b).2.1 := by decide +kernel
theorem tyX2_ok : ∀ k, k < 3 → parseFieldDescriptor (TX2 k).2.2.1 = some (tyX2 k) := by decide +kernel
abbrev cX2_init : ByteArray := prog_4_method_1_code
def yX2_init : MethodName := ⟨RX2, "<init>", "()V"⟩
abbrev cX2_hasRow : ByteArray := prog_4_method_2_code
def yX2_hasRow : MethodName := ⟨RX2, "hasRow", "()Z"⟩
abbrev cX2_rowLane : ByteArray := prog_4_method_3_code
def yX2_rowLane : MethodName := ⟨RX2, "rowLane", "()I"⟩
abbrev cX2_makeRow : ByteArray := prog_4_method_4_code
def yX2_makeRow : MethodName := ⟨RX2, "makeRow", "(II)V"⟩
abbrev cX2_dropRow : ByteArray := prog_4_method_5_code
def yX2_dropRow : MethodName := ⟨RX2, "dropRow", "()V"⟩
abbrev cX2_faultOfCells : ByteArray := prog_4_method_6_code
def yX2_faultOfCells : MethodName := ⟨RX2, "faultOfCells", "(III)I"⟩
abbrev cX2_hasCells : ByteArray := prog_4_method_7_code
def yX2_hasCells : MethodName := ⟨RX2, "hasCells", "(II)Z"⟩
abbrev cX2_numberAt : ByteArray := prog_4_method_8_code
def yX2_numberAt : MethodName := ⟨RX2, "numberAt", "(I)I"⟩
abbrev cX2_write : ByteArray := prog_4_method_9_code
def yX2_write : MethodName := ⟨RX2, "write", "(II)V"⟩
abbrev cX2_cutToLane : ByteArray := prog_4_method_10_code
def yX2_cutToLane : MethodName := ⟨RX2, "cutToLane", "(I)I"⟩
abbrev cX2_copyTo : ByteArray := prog_4_method_11_code
def yX2_copyTo : MethodName := ⟨RX2, "copyTo", "(ILMustardFast$Sheet;II)V"⟩
def RX3 : String := "MustardFast$Text"
def TX3 : u_T := fun k => match k with
  | _ => ("", "", "", false)
def tyX3 : Nat → FieldType := fun k => match k with
  | _ => .int
abbrev wsX30 : List Cond := u_ws RX3 TX3 0
theorem nmX3 : ∀ a, a < 0 → ∀ b, b < 0 → a ≠ b → (TX3 a).2.1 ≠ (TX3 b).2.1 := by decide +kernel
theorem tyX3_ok : ∀ k, k < 0 → parseFieldDescriptor (TX3 k).2.2.1 = some (tyX3 k) := by decide +kernel
abbrev cX3_firstFault : ByteArray := prog_5_method_2_code
def yX3_firstFault : MethodName := ⟨RX3, "firstFault", "(LMustardFast$Sheet;II)I"⟩
abbrev cX3_stepAfter : ByteArray := prog_5_method_3_code
def yX3_stepAfter : MethodName := ⟨RX3, "stepAfter", "(IIII)I"⟩
abbrev cX3_stepAfterDay : ByteArray := prog_5_method_4_code
def yX3_stepAfterDay : MethodName := ⟨RX3, "stepAfterDay", "(II)I"⟩
abbrev cX3_kindByLetter : ByteArray := prog_5_method_5_code
def yX3_kindByLetter : MethodName := ⟨RX3, "kindByLetter", "(I)I"⟩
abbrev cX3_isDigit : ByteArray := prog_5_method_6_code
def yX3_isDigit : MethodName := ⟨RX3, "isDigit", "(III)Z"⟩
abbrev cX3_isDigitAt : ByteArray := prog_5_method_7_code
def yX3_isDigitAt : MethodName := ⟨RX3, "isDigitAt", "(LMustardFast$Sheet;I)Z"⟩
abbrev cX3_digitAt : ByteArray := prog_5_method_8_code
def yX3_digitAt : MethodName := ⟨RX3, "digitAt", "(LMustardFast$Sheet;I)I"⟩
def RX4 : String := "MustardFast"
def TX4 : u_T := fun k => match k with
  | 0 => ("MustardFast", "duchy", "LMustardFast$Duchy;", true)
  | 1 => ("MustardFast", "readings", "LMustardFast$Readings;", true)
  | 2 => ("MustardFast", "sheets", "[LMustardFast$Sheet;", true)
  | 3 => ("MustardFast", "latestFault", "I", false)
  | _ => ("MustardFast", "traced", "I", false)
def tyX4 : Nat → FieldType := fun k => match k with
  | 0 => .object "MustardFast$Duchy"
  | 1 => .object "MustardFast$Readings"
  | 2 => .array (.object "MustardFast$Sheet")
  | 3 => .int
  | _ => .int
abbrev wsX40 : List Cond := u_ws RX4 TX4 5
theorem nmX4 : ∀ a, a < 5 → ∀ b, b < 5 → a ≠ b → (TX4 a).2.1 ≠ (TX4 b).2.1 := by decide +kernel
theorem tyX4_ok : ∀ k, k < 5 → parseFieldDescriptor (TX4 k).2.2.1 = some (tyX4 k) := by decide +kernel
abbrev cX4_init : ByteArray := prog_1_method_1_code
def yX4_init : MethodName := ⟨RX4, "<init>", "()V"⟩
abbrev cX4_duchy : ByteArray := prog_1_method_2_code
def yX4_duchy : MethodName := ⟨RX4, "duchy", "(IIII)I"⟩
abbrev cX4_ofEater : ByteArray := prog_1_method_3_code
def yX4_ofEater : MethodName := ⟨RX4, "ofEater", "(II)I"⟩
abbrev cX4_look : ByteArray := prog_1_method_4_code
def yX4_look : MethodName := ⟨RX4, "look", "(I)I"⟩
abbrev cX4_pull : ByteArray := prog_1_method_5_code
def yX4_pull : MethodName := ⟨RX4, "pull", "(II)I"⟩
abbrev cX4_sour : ByteArray := prog_1_method_6_code
def yX4_sour : MethodName := ⟨RX4, "sour", "(I)I"⟩
abbrev cX4_crave : ByteArray := prog_1_method_7_code
def yX4_crave : MethodName := ⟨RX4, "crave", "(II)I"⟩
abbrev cX4_fasts : ByteArray := prog_1_method_8_code
def yX4_fasts : MethodName := ⟨RX4, "fasts", "()I"⟩
abbrev cX4_yellow : ByteArray := prog_1_method_9_code
def yX4_yellow : MethodName := ⟨RX4, "yellow", "(II)I"⟩
abbrev cX4_found : ByteArray := prog_1_method_10_code
def yX4_found : MethodName := ⟨RX4, "found", "(III)I"⟩
abbrev cX4_plan : ByteArray := prog_1_method_11_code
def yX4_plan : MethodName := ⟨RX4, "plan", "(IIIII)I"⟩
abbrev cX4_isAskedOfPlans : ByteArray := prog_1_method_12_code
def yX4_isAskedOfPlans : MethodName := ⟨RX4, "isAskedOfPlans", "(I)Z"⟩
abbrev cX4_ofPlan : ByteArray := prog_1_method_13_code
def yX4_ofPlan : MethodName := ⟨RX4, "ofPlan", "(LMustardFast$Sheet;II)I"⟩
abbrev cX4_best : ByteArray := prog_1_method_14_code
def yX4_best : MethodName := ⟨RX4, "best", "(II)I"⟩
abbrev cX4_village : ByteArray := prog_1_method_15_code
def yX4_village : MethodName := ⟨RX4, "village", "()I"⟩
abbrev cX4_smile : ByteArray := prog_1_method_16_code
def yX4_smile : MethodName := ⟨RX4, "smile", "(I)I"⟩
abbrev cX4_reading : ByteArray := prog_1_method_17_code
def yX4_reading : MethodName := ⟨RX4, "reading", "(IIIZ)I"⟩
abbrev cX4_back : ByteArray := prog_1_method_18_code
def yX4_back : MethodName := ⟨RX4, "back", "(I)I"⟩
abbrev cX4_stays : ByteArray := prog_1_method_19_code
def yX4_stays : MethodName := ⟨RX4, "stays", "(I)I"⟩
abbrev cX4_kinds : ByteArray := prog_1_method_20_code
def yX4_kinds : MethodName := ⟨RX4, "kinds", "(I)I"⟩
abbrev cX4_sours : ByteArray := prog_1_method_21_code
def yX4_sours : MethodName := ⟨RX4, "sours", "()I"⟩
abbrev cX4_odds : ByteArray := prog_1_method_22_code
def yX4_odds : MethodName := ⟨RX4, "odds", "(III)J"⟩
abbrev cX4_sheet : ByteArray := prog_1_method_23_code
def yX4_sheet : MethodName := ⟨RX4, "sheet", "(III)I"⟩
abbrev cX4_lose : ByteArray := prog_1_method_24_code
def yX4_lose : MethodName := ⟨RX4, "lose", "(I)I"⟩
abbrev cX4_put : ByteArray := prog_1_method_25_code
def yX4_put : MethodName := ⟨RX4, "put", "(III)I"⟩
abbrev cX4_cell : ByteArray := prog_1_method_26_code
def yX4_cell : MethodName := ⟨RX4, "cell", "(III)J"⟩
abbrev cX4_copy : ByteArray := prog_1_method_27_code
def yX4_copy : MethodName := ⟨RX4, "copy", "(IIIII)I"⟩
abbrev cX4_tell : ByteArray := prog_1_method_28_code
def yX4_tell : MethodName := ⟨RX4, "tell", "(I)I"⟩
abbrev cX4_eaterTelling : ByteArray := prog_1_method_29_code
def yX4_eaterTelling : MethodName := ⟨RX4, "eaterTelling", "(I)I"⟩
abbrev cX4_slyTelling : ByteArray := prog_1_method_30_code
def yX4_slyTelling : MethodName := ⟨RX4, "slyTelling", "(I)I"⟩
abbrev cX4_strangerTelling : ByteArray := prog_1_method_31_code
def yX4_strangerTelling : MethodName := ⟨RX4, "strangerTelling", "(I)I"⟩
abbrev cX4_sniff : ByteArray := prog_1_method_32_code
def yX4_sniff : MethodName := ⟨RX4, "sniff", "(I)I"⟩
abbrev cX4_lentSniffing : ByteArray := prog_1_method_33_code
def yX4_lentSniffing : MethodName := ⟨RX4, "lentSniffing", "(I)I"⟩
abbrev cX4_strangerSniffing : ByteArray := prog_1_method_34_code
def yX4_strangerSniffing : MethodName := ⟨RX4, "strangerSniffing", "()I"⟩
abbrev cX4_leaveInTrace : ByteArray := prog_1_method_35_code
def yX4_leaveInTrace : MethodName := ⟨RX4, "leaveInTrace", "(I)V"⟩
abbrev cX4_as : ByteArray := prog_1_method_36_code
def yX4_as : MethodName := ⟨RX4, "as", "(II)I"⟩
abbrev cX4_trace : ByteArray := prog_1_method_37_code
def yX4_trace : MethodName := ⟨RX4, "trace", "()I"⟩
abbrev cX4_fault : ByteArray := prog_1_method_38_code
def yX4_fault : MethodName := ⟨RX4, "fault", "()I"⟩
abbrev cX4_many : ByteArray := prog_1_method_39_code
def yX4_many : MethodName := ⟨RX4, "many", "(I)I"⟩
abbrev cX4_sheetAt : ByteArray := prog_1_method_40_code
def yX4_sheetAt : MethodName := ⟨RX4, "sheetAt", "(I)LMustardFast$Sheet;"⟩
abbrev cX4_faulted : ByteArray := prog_1_method_41_code
def yX4_faulted : MethodName := ⟨RX4, "faulted", "(I)I"⟩
abbrev cX4_isLane : ByteArray := prog_1_method_42_code
def yX4_isLane : MethodName := ⟨RX4, "isLane", "(I)Z"⟩
abbrev cX4_isFrom0To : ByteArray := prog_1_method_43_code
def yX4_isFrom0To : MethodName := ⟨RX4, "isFrom0To", "(II)Z"⟩
abbrev cX4_numberIn : ByteArray := prog_1_method_44_code
def yX4_numberIn : MethodName := ⟨RX4, "numberIn", "([II)I"⟩
abbrev cX4_changeIn : ByteArray := prog_1_method_45_code
def yX4_changeIn : MethodName := ⟨RX4, "changeIn", "([III)V"⟩
def RX5 : String := "MustardFastModel"
def TX5 : u_T := fun k => match k with
  | 0 => ("MustardFastModel", "fault", "I", false)
  | 1 => ("MustardFastModel", "sourNow", "I", false)
  | 2 => ("MustardFastModel", "days", "I", false)
  | 3 => ("MustardFastModel", "lookOf", "[I", true)
  | 4 => ("MustardFastModel", "eaters", "I", false)
  | 5 => ("MustardFastModel", "kindOf", "[I", true)
  | 6 => ("MustardFastModel", "stayOf", "[I", true)
  | 7 => ("MustardFastModel", "spoonsOf", "[I", true)
  | 8 => ("MustardFastModel", "needOf", "[I", true)
  | 9 => ("MustardFastModel", "smiled", "I", false)
  | 10 => ("MustardFastModel", "readAt", "I", false)
  | 11 => ("MustardFastModel", "readSour", "I", false)
  | 12 => ("MustardFastModel", "readDays", "I", false)
  | 13 => ("MustardFastModel", "readEaters", "I", false)
  | 14 => ("MustardFastModel", "readLook", "[I", true)
  | 15 => ("MustardFastModel", "readKind", "[I", true)
  | 16 => ("MustardFastModel", "readStay", "[I", true)
  | 17 => ("MustardFastModel", "readSpoons", "[I", true)
  | 18 => ("MustardFastModel", "readNeed", "[I", true)
  | 19 => ("MustardFastModel", "readings", "I", false)
  | 20 => ("MustardFastModel", "readingOf", "[I", true)
  | 21 => ("MustardFastModel", "readingBy", "[I", true)
  | 22 => ("MustardFastModel", "readingOn", "[I", true)
  | 23 => ("MustardFastModel", "readingWas", "[Z", true)
  | 24 => ("MustardFastModel", "sheetSize", "[I", true)
  | 25 => ("MustardFastModel", "sheetLane", "[I", true)
  | 26 => ("MustardFastModel", "sheet", "[I", true)
  | 27 => ("MustardFastModel", "hands", "[I", true)
  | _ => ("MustardFastModel", "traceNow", "I", false)
def tyX5 : Nat → FieldType := fun k => match k with
  | 0 => .int
  | 1 => .int
  | 2 => .int
  | 3 => .array .int
  | 4 => .int
  | 5 => .array .int
  | 6 => .array .int
  | 7 => .array .int
  | 8 => .array .int
  | 9 => .int
  | 10 => .int
  | 11 => .int
  | 12 => .int
  | 13 => .int
  | 14 => .array .int
  | 15 => .array .int
  | 16 => .array .int
  | 17 => .array .int
  | 18 => .array .int
  | 19 => .int
  | 20 => .array .int
  | 21 => .array .int
  | 22 => .array .int
  | 23 => .array .boolean
  | 24 => .array .int
  | 25 => .array .int
  | 26 => .array .int
  | 27 => .array .int
  | _ => .int
abbrev wsX50 : List Cond := u_ws RX5 TX5 29
theorem nmX5 : ∀ a, a < 29 → ∀ b, b < 29 → a ≠ b → (TX5 a).2.1 ≠ (TX5 b).2.1 := by decide +kernel
theorem tyX5_ok : ∀ k, k < 29 → parseFieldDescriptor (TX5 k).2.2.1 = some (tyX5 k) := by decide +kernel
abbrev cX5_init : ByteArray := prog_7_method_1_code
def yX5_init : MethodName := ⟨RX5, "<init>", "()V"⟩
abbrev cX5_in : ByteArray := prog_7_method_2_code
def yX5_in : MethodName := ⟨RX5, "in", "(JJJ)Z"⟩
abbrev cX5_lost : ByteArray := prog_7_method_3_code
def yX5_lost : MethodName := ⟨RX5, "lost", "()J"⟩
abbrev cX5_isIn : ByteArray := prog_7_method_4_code
def yX5_isIn : MethodName := ⟨RX5, "isIn", "(II)Z"⟩
abbrev cX5_bits : ByteArray := prog_7_method_5_code
def yX5_bits : MethodName := ⟨RX5, "bits", "(I)I"⟩
abbrev cX5_share : ByteArray := prog_7_method_6_code
def yX5_share : MethodName := ⟨RX5, "share", "(JJI)J"⟩
abbrev cX5_refused : ByteArray := prog_7_method_7_code
def yX5_refused : MethodName := ⟨RX5, "refused", "(I)I"⟩
abbrev cX5_failed : ByteArray := prog_7_method_8_code
def yX5_failed : MethodName := ⟨RX5, "failed", "(I)I"⟩
abbrev cX5_failedLong : ByteArray := prog_7_method_9_code
def yX5_failedLong : MethodName := ⟨RX5, "failedLong", "(I)J"⟩
abbrev cX5_noDay : ByteArray := prog_7_method_10_code
def yX5_noDay : MethodName := ⟨RX5, "noDay", "(I)Z"⟩
abbrev cX5_noEater : ByteArray := prog_7_method_11_code
def yX5_noEater : MethodName := ⟨RX5, "noEater", "(I)Z"⟩
abbrev cX5_noSet : ByteArray := prog_7_method_12_code
def yX5_noSet : MethodName := ⟨RX5, "noSet", "(I)Z"⟩
abbrev cX5_codeAt : ByteArray := prog_7_method_13_code
def yX5_codeAt : MethodName := ⟨RX5, "codeAt", "(II)I"⟩
abbrev cX5_figure : ByteArray := prog_7_method_14_code
def yX5_figure : MethodName := ⟨RX5, "figure", "(IIII)I"⟩
abbrev cX5_readsDays : ByteArray := prog_7_method_15_code
def yX5_readsDays : MethodName := ⟨RX5, "readsDays", "(II)Z"⟩
abbrev cX5_readsEater : ByteArray := prog_7_method_16_code
def yX5_readsEater : MethodName := ⟨RX5, "readsEater", "(II)Z"⟩
abbrev cX5_readsDuchy : ByteArray := prog_7_method_17_code
def yX5_readsDuchy : MethodName := ⟨RX5, "readsDuchy", "(II)Z"⟩
abbrev cX5_cellsBarred : ByteArray := prog_7_method_18_code
def yX5_cellsBarred : MethodName := ⟨RX5, "cellsBarred", "(IIIJ)I"⟩
abbrev cX5_duchy : ByteArray := prog_7_method_19_code
def yX5_duchy : MethodName := ⟨RX5, "duchy", "(IIII)I"⟩
abbrev cX5_lastsOf : ByteArray := prog_7_method_20_code
def yX5_lastsOf : MethodName := ⟨RX5, "lastsOf", "(I)I"⟩
abbrev cX5_ofEater : ByteArray := prog_7_method_21_code
def yX5_ofEater : MethodName := ⟨RX5, "ofEater", "(II)I"⟩
abbrev cX5_look : ByteArray := prog_7_method_22_code
def yX5_look : MethodName := ⟨RX5, "look", "(I)I"⟩
abbrev cX5_pull : ByteArray := prog_7_method_23_code
def yX5_pull : MethodName := ⟨RX5, "pull", "(II)I"⟩
abbrev cX5_sour : ByteArray := prog_7_method_24_code
def yX5_sour : MethodName := ⟨RX5, "sour", "(I)I"⟩
abbrev cX5_crave : ByteArray := prog_7_method_25_code
def yX5_crave : MethodName := ⟨RX5, "crave", "(II)I"⟩
abbrev cX5_fastsNow : ByteArray := prog_7_method_26_code
def yX5_fastsNow : MethodName := ⟨RX5, "fastsNow", "()I"⟩
abbrev cX5_yellowBy : ByteArray := prog_7_method_27_code
def yX5_yellowBy : MethodName := ⟨RX5, "yellowBy", "(II)I"⟩
abbrev cX5_foundBy : ByteArray := prog_7_method_28_code
def yX5_foundBy : MethodName := ⟨RX5, "foundBy", "(II)I"⟩
abbrev cX5_fineOf : ByteArray := prog_7_method_29_code
def yX5_fineOf : MethodName := ⟨RX5, "fineOf", "(II)I"⟩
abbrev cX5_fasts : ByteArray := prog_7_method_30_code
def yX5_fasts : MethodName := ⟨RX5, "fasts", "()I"⟩
abbrev cX5_yellow : ByteArray := prog_7_method_31_code
def yX5_yellow : MethodName := ⟨RX5, "yellow", "(II)I"⟩
abbrev cX5_found : ByteArray := prog_7_method_32_code
def yX5_found : MethodName := ⟨RX5, "found", "(III)I"⟩
abbrev cX5_planBy : ByteArray := prog_7_method_33_code
def yX5_planBy : MethodName := ⟨RX5, "planBy", "(II)I"⟩
abbrev cX5_plan : ByteArray := prog_7_method_34_code
def yX5_plan : MethodName := ⟨RX5, "plan", "(IIIII)I"⟩
abbrev cX5_bestOf : ByteArray := prog_7_method_35_code
def yX5_bestOf : MethodName := ⟨RX5, "bestOf", "(I)I"⟩
abbrev cX5_best : ByteArray := prog_7_method_36_code
def yX5_best : MethodName := ⟨RX5, "best", "(II)I"⟩
abbrev cX5_villageNow : ByteArray := prog_7_method_37_code
def yX5_villageNow : MethodName := ⟨RX5, "villageNow", "()I"⟩
abbrev cX5_village : ByteArray := prog_7_method_38_code
def yX5_village : MethodName := ⟨RX5, "village", "()I"⟩
abbrev cX5_smile : ByteArray := prog_7_method_39_code
def yX5_smile : MethodName := ⟨RX5, "smile", "(I)I"⟩
abbrev cX5_reading : ByteArray := prog_7_method_40_code
def yX5_reading : MethodName := ⟨RX5, "reading", "(IIIZ)I"⟩
abbrev cX5_back : ByteArray := prog_7_method_41_code
def yX5_back : MethodName := ⟨RX5, "back", "(I)I"⟩
abbrev cX5_areSo : ByteArray := prog_7_method_42_code
def yX5_areSo : MethodName := ⟨RX5, "areSo", "()Z"⟩
abbrev cX5_stays : ByteArray := prog_7_method_43_code
def yX5_stays : MethodName := ⟨RX5, "stays", "(I)I"⟩
abbrev cX5_kinds : ByteArray := prog_7_method_44_code
def yX5_kinds : MethodName := ⟨RX5, "kinds", "(I)I"⟩
abbrev cX5_sours : ByteArray := prog_7_method_45_code
def yX5_sours : MethodName := ⟨RX5, "sours", "()I"⟩
abbrev cX5_odds : ByteArray := prog_7_method_46_code
def yX5_odds : MethodName := ⟨RX5, "odds", "(III)J"⟩
abbrev cX5_noSheet : ByteArray := prog_7_method_47_code
def yX5_noSheet : MethodName := ⟨RX5, "noSheet", "(I)Z"⟩
abbrev cX5_sheet : ByteArray := prog_7_method_48_code
def yX5_sheet : MethodName := ⟨RX5, "sheet", "(III)I"⟩
abbrev cX5_lose : ByteArray := prog_7_method_49_code
def yX5_lose : MethodName := ⟨RX5, "lose", "(I)I"⟩
abbrev cX5_noCell : ByteArray := prog_7_method_50_code
def yX5_noCell : MethodName := ⟨RX5, "noCell", "(II)I"⟩
abbrev cX5_put : ByteArray := prog_7_method_51_code
def yX5_put : MethodName := ⟨RX5, "put", "(III)I"⟩
abbrev cX5_cell : ByteArray := prog_7_method_52_code
def yX5_cell : MethodName := ⟨RX5, "cell", "(III)J"⟩
abbrev cX5_isBeyond : ByteArray := prog_7_method_53_code
def yX5_isBeyond : MethodName := ⟨RX5, "isBeyond", "(IJI)Z"⟩
abbrev cX5_copy : ByteArray := prog_7_method_54_code
def yX5_copy : MethodName := ⟨RX5, "copy", "(IIIII)I"⟩
abbrev cX5_traced : ByteArray := prog_7_method_55_code
def yX5_traced : MethodName := ⟨RX5, "traced", "(I)V"⟩
abbrev cX5_tell : ByteArray := prog_7_method_56_code
def yX5_tell : MethodName := ⟨RX5, "tell", "(I)I"⟩
abbrev cX5_sniff : ByteArray := prog_7_method_57_code
def yX5_sniff : MethodName := ⟨RX5, "sniff", "(I)I"⟩
abbrev cX5_as : ByteArray := prog_7_method_58_code
def yX5_as : MethodName := ⟨RX5, "as", "(II)I"⟩
abbrev cX5_trace : ByteArray := prog_7_method_59_code
def yX5_trace : MethodName := ⟨RX5, "trace", "()I"⟩
abbrev cX5_fault : ByteArray := prog_7_method_60_code
def yX5_fault : MethodName := ⟨RX5, "fault", "()I"⟩
abbrev cX5_many : ByteArray := prog_7_method_61_code
def yX5_many : MethodName := ⟨RX5, "many", "(I)I"⟩
def RJ6 : String := "java/lang/Integer"
def TJ6 : u_T := fun k => match k with
  | _ => ("", "", "", false)
def tyJ6 : Nat → FieldType := fun k => match k with
  | _ => .int
abbrev wsJ60 : List Cond := u_ws RJ6 TJ6 0
theorem nmJ6 : ∀ a, a < 0 → ∀ b, b < 0 → a ≠ b → (TJ6 a).2.1 ≠ (TJ6 b).2.1 := by decide +kernel
theorem tyJ6_ok : ∀ k, k < 0 → parseFieldDescriptor (TJ6 k).2.2.1 = some (tyJ6 k) := by decide +kernel
abbrev cJ6_bitCount_0f7a4 : ByteArray := prog_8_method_49_code
def yJ6_bitCount_0f7a4 : MethodName := ⟨RJ6, "bitCount", "(I)I"⟩
def RJ10 : String := "java/lang/System"
def TJ10 : u_T := fun k => match k with
  | _ => ("", "", "", false)
def tyJ10 : Nat → FieldType := fun k => match k with
  | _ => .int
abbrev wsJ100 : List Cond := u_ws RJ10 TJ10 0
theorem nmJ10 : ∀ a, a < 0 → ∀ b, b < 0 → a ≠ b → (TJ10 a).2.1 ≠ (TJ10 b).2.1 := by decide +kernel
theorem tyJ10_ok : ∀ k, k < 0 → parseFieldDescriptor (TJ10 k).2.2.1 = some (tyJ10 k) := by decide +kernel
def RJ7 : String := "java/util/Arrays"
def TJ7 : u_T := fun k => match k with
  | _ => ("", "", "", false)
def tyJ7 : Nat → FieldType := fun k => match k with
  | _ => .int
abbrev wsJ70 : List Cond := u_ws RJ7 TJ7 0
theorem nmJ7 : ∀ a, a < 0 → ∀ b, b < 0 → a ≠ b → (TJ7 a).2.1 ≠ (TJ7 b).2.1 := by decide +kernel
theorem tyJ7_ok : ∀ k, k < 0 → parseFieldDescriptor (TJ7 k).2.2.1 = some (tyJ7 k) := by decide +kernel
abbrev cJ7_fill_53178 : ByteArray := prog_10_method_103_code
def yJ7_fill_53178 : MethodName := ⟨RJ7, "fill", "([II)V"⟩
def RL : String := "MustardFastLaw"
abbrev cL_law : ByteArray := code
def yL_law : MethodName := ⟨RL, "law", "([I)Z"⟩
def wsX0_init : List Cond := .code yX0_init cX0_init 1 none :: ([.methodLink RX0 3 objectInit, .instanceMethod objectInit, .code objectInit ⟨#[0xb1]⟩ 1 none, .arrayClass .int, .fieldLink RX0 9 "MustardFast$Duchy" "looks" "[I", .fieldLink RX0 15 "MustardFast$Duchy" "eaterKinds" "[I", .fieldLink RX0 18 "MustardFast$Duchy" "eaterStays" "[I", .fieldLink RX0 21 "MustardFast$Duchy" "eaterSpoons" "[I", .fieldLink RX0 24 "MustardFast$Duchy" "eaterNeeds" "[I"] ++ wsX00)
def wsX4_numberIn : List Cond := .code yX4_numberIn cX4_numberIn 2 (some .int) :: ([])
def wsX2_numberAt : List Cond := .code yX2_numberAt cX2_numberAt 2 (some .int) :: ([.fieldLink RX2 9 "MustardFast$Sheet" "cells" "[I", .static yX4_numberIn, .initialized RX4, .code yX4_numberIn cX4_numberIn 2 (some .int)] ++ wsX20)
def wsX3_digitAt : List Cond := .code yX3_digitAt cX3_digitAt 2 (some .int) :: ([.methodLink RX3 11 yX2_numberAt, .instanceMethod yX2_numberAt, .selects RX2 yX2_numberAt yX2_numberAt, .initialized RX2, .code yX2_numberAt cX2_numberAt 2 (some .int), .fieldLink RX2 9 "MustardFast$Sheet" "cells" "[I", .static yX4_numberIn, .initialized RX4, .code yX4_numberIn cX4_numberIn 2 (some .int)] ++ wsX20)
def wsX3_isDigit : List Cond := .code yX3_isDigit cX3_isDigit 3 (some .boolean) :: ([])
def wsX3_isDigitAt : List Cond := .code yX3_isDigitAt cX3_isDigitAt 2 (some .boolean) :: ([.methodLink RX3 11 yX2_numberAt, .instanceMethod yX2_numberAt, .selects RX2 yX2_numberAt yX2_numberAt, .initialized RX2, .code yX2_numberAt cX2_numberAt 2 (some .int), .fieldLink RX2 9 "MustardFast$Sheet" "cells" "[I", .static yX4_numberIn, .initialized RX4, .code yX4_numberIn cX4_numberIn 2 (some .int), .methodLink RX3 21 yX3_isDigit, .static yX3_isDigit, .initialized RX3, .code yX3_isDigit cX3_isDigit 3 (some .boolean)] ++ wsX20)
def wsX4_changeIn : List Cond := .code yX4_changeIn cX4_changeIn 3 none :: ([])
def wsX3_kindByLetter : List Cond := .code yX3_kindByLetter cX3_kindByLetter 1 (some .int) :: ([])
def wsX0_takeText_r1 : List Cond := [Cond.fieldLink RX0 33 "MustardFast$Duchy" "sourFrom" "I", Cond.fieldLink RX0 37 "MustardFast$Duchy" "days" "I", Cond.fieldLink RX0 40 "MustardFast$Duchy" "eaters" "I", Cond.fieldLink RX0 9 "MustardFast$Duchy" "looks" "[I", Cond.fieldLink RX0 15 "MustardFast$Duchy" "eaterKinds" "[I", Cond.fieldLink RX0 18 "MustardFast$Duchy" "eaterStays" "[I", Cond.fieldLink RX0 21 "MustardFast$Duchy" "eaterSpoons" "[I", Cond.fieldLink RX0 24 "MustardFast$Duchy" "eaterNeeds" "[I", Cond.methodLink RX0 27 yX3_digitAt, Cond.static yX3_digitAt, Cond.initialized RX3, Cond.code yX3_digitAt cX3_digitAt 2 (some .int), Cond.methodLink RX3 11 yX2_numberAt, Cond.instanceMethod yX2_numberAt, Cond.selects RX2 yX2_numberAt yX2_numberAt, Cond.initialized RX2, Cond.code yX2_numberAt cX2_numberAt 2 (some .int), Cond.fieldLink RX2 9 "MustardFast$Sheet" "cells" "[I", Cond.static yX4_numberIn, Cond.initialized RX4, Cond.code yX4_numberIn cX4_numberIn 2 (some .int), Cond.methodLink RX0 43 yX3_isDigitAt, Cond.static yX3_isDigitAt, Cond.code yX3_isDigitAt cX3_isDigitAt 2 (some .boolean)]
def wsX0_takeText_r2 : List Cond := [Cond.methodLink RX3 21 yX3_isDigit, Cond.static yX3_isDigit, Cond.code yX3_isDigit cX3_isDigit 3 (some .boolean), Cond.static yX4_changeIn, Cond.code yX4_changeIn cX4_changeIn 3 none, Cond.methodLink RX0 51 yX2_numberAt, Cond.methodLink RX0 57 yX3_kindByLetter, Cond.static yX3_kindByLetter, Cond.code yX3_kindByLetter cX3_kindByLetter 1 (some .int)]
def wsX0_takeText : List Cond := .code yX0_takeText cX0_takeText 5 none :: ((wsX0_takeText_r1 ++ wsX0_takeText_r2) ++ wsX00 ++ wsX20)
def wsX0_isTold : List Cond := .code yX0_isTold cX0_isTold 1 (some .boolean) :: ([.fieldLink RX0 40 "MustardFast$Duchy" "eaters" "I"] ++ wsX00)
def wsX0_eaterCount : List Cond := .code yX0_eaterCount cX0_eaterCount 1 (some .int) :: ([.fieldLink RX0 40 "MustardFast$Duchy" "eaters" "I"] ++ wsX00)
def wsX0_dayCount : List Cond := .code yX0_dayCount cX0_dayCount 1 (some .int) :: ([.fieldLink RX0 37 "MustardFast$Duchy" "days" "I"] ++ wsX00)
def wsX0_hasEater : List Cond := .code yX0_hasEater cX0_hasEater 2 (some .boolean) :: ([.fieldLink RX0 40 "MustardFast$Duchy" "eaters" "I"] ++ wsX00)
def wsX0_hasDay : List Cond := .code yX0_hasDay cX0_hasDay 2 (some .boolean) :: ([.fieldLink RX0 37 "MustardFast$Duchy" "days" "I"] ++ wsX00)
def wsX0_allDays : List Cond := .code yX0_allDays cX0_allDays 1 (some .int) :: ([.fieldLink RX0 37 "MustardFast$Duchy" "days" "I"] ++ wsX00)
def wsX0_hasDays : List Cond := .code yX0_hasDays cX0_hasDays 2 (some .boolean) :: ([.methodLink RX0 60 yX0_allDays, .instanceMethod yX0_allDays, .selects RX0 yX0_allDays yX0_allDays, .initialized RX0, .code yX0_allDays cX0_allDays 1 (some .int), .fieldLink RX0 37 "MustardFast$Duchy" "days" "I"] ++ wsX00)
def wsX0_kindOf : List Cond := .code yX0_kindOf cX0_kindOf 2 (some .int) :: ([.fieldLink RX0 15 "MustardFast$Duchy" "eaterKinds" "[I", .static yX4_numberIn, .initialized RX4, .code yX4_numberIn cX4_numberIn 2 (some .int)] ++ wsX00)
def wsX0_stayOf : List Cond := .code yX0_stayOf cX0_stayOf 2 (some .int) :: ([.fieldLink RX0 18 "MustardFast$Duchy" "eaterStays" "[I", .static yX4_numberIn, .initialized RX4, .code yX4_numberIn cX4_numberIn 2 (some .int)] ++ wsX00)
def wsX0_spoonsOf : List Cond := .code yX0_spoonsOf cX0_spoonsOf 2 (some .int) :: ([.fieldLink RX0 21 "MustardFast$Duchy" "eaterSpoons" "[I", .static yX4_numberIn, .initialized RX4, .code yX4_numberIn cX4_numberIn 2 (some .int)] ++ wsX00)
def wsX0_needOf : List Cond := .code yX0_needOf cX0_needOf 2 (some .int) :: ([.fieldLink RX0 24 "MustardFast$Duchy" "eaterNeeds" "[I", .static yX4_numberIn, .initialized RX4, .code yX4_numberIn cX4_numberIn 2 (some .int)] ++ wsX00)
def wsX0_changeNeed : List Cond := .code yX0_changeNeed cX0_changeNeed 3 none :: ([.fieldLink RX0 24 "MustardFast$Duchy" "eaterNeeds" "[I", .static yX4_changeIn, .initialized RX4, .code yX4_changeIn cX4_changeIn 3 none] ++ wsX00)
def wsX0_lastsBy : List Cond := .code yX0_lastsBy cX0_lastsBy 3 (some .int) :: ([])
def wsX0_lastsOf : List Cond := .code yX0_lastsOf cX0_lastsOf 2 (some .int) :: ([.fieldLink RX0 15 "MustardFast$Duchy" "eaterKinds" "[I", .fieldLink RX0 18 "MustardFast$Duchy" "eaterStays" "[I", .static yX4_numberIn, .initialized RX4, .code yX4_numberIn cX4_numberIn 2 (some .int), .methodLink RX0 68 yX0_lastsBy, .static yX0_lastsBy, .initialized RX0, .code yX0_lastsBy cX0_lastsBy 3 (some .int)] ++ wsX00)
def wsX0_lookOf : List Cond := .code yX0_lookOf cX0_lookOf 2 (some .int) :: ([.fieldLink RX0 9 "MustardFast$Duchy" "looks" "[I", .static yX4_numberIn, .initialized RX4, .code yX4_numberIn cX4_numberIn 2 (some .int)] ++ wsX00)
def wsX0_changeLook : List Cond := .code yX0_changeLook cX0_changeLook 3 none :: ([.fieldLink RX0 9 "MustardFast$Duchy" "looks" "[I", .static yX4_changeIn, .initialized RX4, .code yX4_changeIn cX4_changeIn 3 none] ++ wsX00)
def wsX0_sourLook : List Cond := .code yX0_sourLook cX0_sourLook 1 (some .int) :: ([.fieldLink RX0 33 "MustardFast$Duchy" "sourFrom" "I"] ++ wsX00)
def wsX0_changeSour : List Cond := .code yX0_changeSour cX0_changeSour 2 none :: ([.fieldLink RX0 33 "MustardFast$Duchy" "sourFrom" "I"] ++ wsX00)
def wsX0_fastDays : List Cond := .code yX0_fastDays cX0_fastDays 3 (some .int) :: ([.fieldLink RX0 37 "MustardFast$Duchy" "days" "I", .fieldLink RX0 9 "MustardFast$Duchy" "looks" "[I", .fieldLink RX0 33 "MustardFast$Duchy" "sourFrom" "I", .static yX4_numberIn, .initialized RX4, .code yX4_numberIn cX4_numberIn 2 (some .int)] ++ wsX00)
def wsX0_fastDaysBut : List Cond := .code yX0_fastDaysBut cX0_fastDaysBut 2 (some .int) :: ([.methodLink RX0 72 yX0_fastDays, .instanceMethod yX0_fastDays, .selects RX0 yX0_fastDays yX0_fastDays, .initialized RX0, .code yX0_fastDays cX0_fastDays 3 (some .int), .fieldLink RX0 37 "MustardFast$Duchy" "days" "I", .fieldLink RX0 9 "MustardFast$Duchy" "looks" "[I", .fieldLink RX0 33 "MustardFast$Duchy" "sourFrom" "I", .static yX4_numberIn, .initialized RX4, .code yX4_numberIn cX4_numberIn 2 (some .int)] ++ wsX00)
def wsX0_yellowDays : List Cond := .code yX0_yellowDays cX0_yellowDays 5 (some .int) :: ([.methodLink RX0 60 yX0_allDays, .instanceMethod yX0_allDays, .selects RX0 yX0_allDays yX0_allDays, .initialized RX0, .code yX0_allDays cX0_allDays 1 (some .int), .fieldLink RX0 37 "MustardFast$Duchy" "days" "I"] ++ wsX00)
def wsX0_foundDays_r1 : List Cond := [Cond.methodLink RX0 75 yX0_lastsOf, Cond.instanceMethod yX0_lastsOf, Cond.selects RX0 yX0_lastsOf yX0_lastsOf, Cond.initialized RX0, Cond.code yX0_lastsOf cX0_lastsOf 2 (some .int), Cond.fieldLink RX0 15 "MustardFast$Duchy" "eaterKinds" "[I", Cond.fieldLink RX0 18 "MustardFast$Duchy" "eaterStays" "[I", Cond.static yX4_numberIn, Cond.initialized RX4, Cond.code yX4_numberIn cX4_numberIn 2 (some .int), Cond.methodLink RX0 68 yX0_lastsBy, Cond.static yX0_lastsBy, Cond.code yX0_lastsBy cX0_lastsBy 3 (some .int), Cond.methodLink RX0 78 yX0_yellowDays, Cond.instanceMethod yX0_yellowDays, Cond.selects RX0 yX0_yellowDays yX0_yellowDays, Cond.code yX0_yellowDays cX0_yellowDays 5 (some .int), Cond.methodLink RX0 60 yX0_allDays, Cond.instanceMethod yX0_allDays, Cond.selects RX0 yX0_allDays yX0_allDays, Cond.code yX0_allDays cX0_allDays 1 (some .int), Cond.fieldLink RX0 37 "MustardFast$Duchy" "days" "I", Cond.methodLink RX0 72 yX0_fastDays, Cond.instanceMethod yX0_fastDays]
def wsX0_foundDays_r2 : List Cond := [Cond.selects RX0 yX0_fastDays yX0_fastDays, Cond.code yX0_fastDays cX0_fastDays 3 (some .int), Cond.fieldLink RX0 9 "MustardFast$Duchy" "looks" "[I", Cond.fieldLink RX0 33 "MustardFast$Duchy" "sourFrom" "I"]
def wsX0_foundDays : List Cond := .code yX0_foundDays cX0_foundDays 3 (some .int) :: ((wsX0_foundDays_r1 ++ wsX0_foundDays_r2) ++ wsX00)
def wsJ6_bitCount_0f7a4 : List Cond := .code yJ6_bitCount_0f7a4 cJ6_bitCount_0f7a4 1 (some .int) :: ([.constant RJ6 265 (1431655765), .constant RJ6 266 (858993459), .constant RJ6 267 (252645135)])
def wsX0_fineOf_r1 : List Cond := [Cond.methodLink RX0 81 yX0_foundDays, Cond.instanceMethod yX0_foundDays, Cond.selects RX0 yX0_foundDays yX0_foundDays, Cond.initialized RX0, Cond.code yX0_foundDays cX0_foundDays 3 (some .int), Cond.methodLink RX0 75 yX0_lastsOf, Cond.instanceMethod yX0_lastsOf, Cond.selects RX0 yX0_lastsOf yX0_lastsOf, Cond.code yX0_lastsOf cX0_lastsOf 2 (some .int), Cond.fieldLink RX0 15 "MustardFast$Duchy" "eaterKinds" "[I", Cond.fieldLink RX0 18 "MustardFast$Duchy" "eaterStays" "[I", Cond.static yX4_numberIn, Cond.initialized RX4, Cond.code yX4_numberIn cX4_numberIn 2 (some .int), Cond.methodLink RX0 68 yX0_lastsBy, Cond.static yX0_lastsBy, Cond.code yX0_lastsBy cX0_lastsBy 3 (some .int), Cond.methodLink RX0 78 yX0_yellowDays, Cond.instanceMethod yX0_yellowDays, Cond.selects RX0 yX0_yellowDays yX0_yellowDays, Cond.code yX0_yellowDays cX0_yellowDays 5 (some .int), Cond.methodLink RX0 60 yX0_allDays, Cond.instanceMethod yX0_allDays, Cond.selects RX0 yX0_allDays yX0_allDays]
def wsX0_fineOf_r2 : List Cond := [Cond.code yX0_allDays cX0_allDays 1 (some .int), Cond.fieldLink RX0 37 "MustardFast$Duchy" "days" "I", Cond.methodLink RX0 72 yX0_fastDays, Cond.instanceMethod yX0_fastDays, Cond.selects RX0 yX0_fastDays yX0_fastDays, Cond.code yX0_fastDays cX0_fastDays 3 (some .int), Cond.fieldLink RX0 9 "MustardFast$Duchy" "looks" "[I", Cond.fieldLink RX0 33 "MustardFast$Duchy" "sourFrom" "I", Cond.methodLink RX0 84 yJ6_bitCount_0f7a4, Cond.static yJ6_bitCount_0f7a4, Cond.initialized RJ6, Cond.code yJ6_bitCount_0f7a4 cJ6_bitCount_0f7a4 1 (some .int), Cond.constant RJ6 265 (1431655765), Cond.constant RJ6 266 (858993459), Cond.constant RJ6 267 (252645135), Cond.methodLink RX0 89 yX0_spoonsOf, Cond.instanceMethod yX0_spoonsOf, Cond.selects RX0 yX0_spoonsOf yX0_spoonsOf, Cond.code yX0_spoonsOf cX0_spoonsOf 2 (some .int), Cond.fieldLink RX0 21 "MustardFast$Duchy" "eaterSpoons" "[I"]
def wsX0_fineOf : List Cond := .code yX0_fineOf cX0_fineOf 3 (some .int) :: ((wsX0_fineOf_r1 ++ wsX0_fineOf_r2) ++ wsX00)
def wsX0_isFoundOn : List Cond := .code yX0_isFoundOn cX0_isFoundOn 5 (some .boolean) :: ([.methodLink RX0 78 yX0_yellowDays, .instanceMethod yX0_yellowDays, .selects RX0 yX0_yellowDays yX0_yellowDays, .initialized RX0, .code yX0_yellowDays cX0_yellowDays 5 (some .int), .methodLink RX0 60 yX0_allDays, .instanceMethod yX0_allDays, .selects RX0 yX0_allDays yX0_allDays, .code yX0_allDays cX0_allDays 1 (some .int), .fieldLink RX0 37 "MustardFast$Duchy" "days" "I", .methodLink RX0 92 yX0_lookOf, .instanceMethod yX0_lookOf, .selects RX0 yX0_lookOf yX0_lookOf, .code yX0_lookOf cX0_lookOf 2 (some .int), .fieldLink RX0 9 "MustardFast$Duchy" "looks" "[I", .static yX4_numberIn, .initialized RX4, .code yX4_numberIn cX4_numberIn 2 (some .int)] ++ wsX00)
def wsX0_hasPlan : List Cond := .code yX0_hasPlan cX0_hasPlan 5 (some .boolean) :: ([.fieldLink RX0 40 "MustardFast$Duchy" "eaters" "I", .methodLink RX0 51 yX2_numberAt, .instanceMethod yX2_numberAt, .selects RX2 yX2_numberAt yX2_numberAt, .initialized RX2, .code yX2_numberAt cX2_numberAt 2 (some .int), .fieldLink RX2 9 "MustardFast$Sheet" "cells" "[I", .static yX4_numberIn, .initialized RX4, .code yX4_numberIn cX4_numberIn 2 (some .int), .methodLink RX0 95 yX0_hasDays, .instanceMethod yX0_hasDays, .selects RX0 yX0_hasDays yX0_hasDays, .initialized RX0, .code yX0_hasDays cX0_hasDays 2 (some .boolean), .methodLink RX0 60 yX0_allDays, .instanceMethod yX0_allDays, .selects RX0 yX0_allDays yX0_allDays, .code yX0_allDays cX0_allDays 1 (some .int), .fieldLink RX0 37 "MustardFast$Duchy" "days" "I"] ++ wsX00 ++ wsX20)
def wsX0_finesOfPlan_r1 : List Cond := [Cond.fieldLink RX0 40 "MustardFast$Duchy" "eaters" "I", Cond.methodLink RX0 51 yX2_numberAt, Cond.instanceMethod yX2_numberAt, Cond.selects RX2 yX2_numberAt yX2_numberAt, Cond.initialized RX2, Cond.code yX2_numberAt cX2_numberAt 2 (some .int), Cond.fieldLink RX2 9 "MustardFast$Sheet" "cells" "[I", Cond.static yX4_numberIn, Cond.initialized RX4, Cond.code yX4_numberIn cX4_numberIn 2 (some .int), Cond.methodLink RX0 99 yX0_fineOf, Cond.instanceMethod yX0_fineOf, Cond.selects RX0 yX0_fineOf yX0_fineOf, Cond.initialized RX0, Cond.code yX0_fineOf cX0_fineOf 3 (some .int), Cond.methodLink RX0 81 yX0_foundDays, Cond.instanceMethod yX0_foundDays, Cond.selects RX0 yX0_foundDays yX0_foundDays, Cond.code yX0_foundDays cX0_foundDays 3 (some .int), Cond.methodLink RX0 75 yX0_lastsOf, Cond.instanceMethod yX0_lastsOf, Cond.selects RX0 yX0_lastsOf yX0_lastsOf, Cond.code yX0_lastsOf cX0_lastsOf 2 (some .int), Cond.fieldLink RX0 15 "MustardFast$Duchy" "eaterKinds" "[I"]
def wsX0_finesOfPlan_r2 : List Cond := [Cond.fieldLink RX0 18 "MustardFast$Duchy" "eaterStays" "[I", Cond.methodLink RX0 68 yX0_lastsBy, Cond.static yX0_lastsBy, Cond.code yX0_lastsBy cX0_lastsBy 3 (some .int), Cond.methodLink RX0 78 yX0_yellowDays, Cond.instanceMethod yX0_yellowDays, Cond.selects RX0 yX0_yellowDays yX0_yellowDays, Cond.code yX0_yellowDays cX0_yellowDays 5 (some .int), Cond.methodLink RX0 60 yX0_allDays, Cond.instanceMethod yX0_allDays, Cond.selects RX0 yX0_allDays yX0_allDays, Cond.code yX0_allDays cX0_allDays 1 (some .int), Cond.fieldLink RX0 37 "MustardFast$Duchy" "days" "I", Cond.methodLink RX0 72 yX0_fastDays, Cond.instanceMethod yX0_fastDays, Cond.selects RX0 yX0_fastDays yX0_fastDays, Cond.code yX0_fastDays cX0_fastDays 3 (some .int), Cond.fieldLink RX0 9 "MustardFast$Duchy" "looks" "[I", Cond.fieldLink RX0 33 "MustardFast$Duchy" "sourFrom" "I", Cond.methodLink RX0 84 yJ6_bitCount_0f7a4, Cond.static yJ6_bitCount_0f7a4, Cond.initialized RJ6, Cond.code yJ6_bitCount_0f7a4 cJ6_bitCount_0f7a4 1 (some .int), Cond.constant RJ6 265 (1431655765)]
def wsX0_finesOfPlan_r3 : List Cond := [Cond.constant RJ6 266 (858993459), Cond.constant RJ6 267 (252645135), Cond.methodLink RX0 89 yX0_spoonsOf, Cond.instanceMethod yX0_spoonsOf, Cond.selects RX0 yX0_spoonsOf yX0_spoonsOf, Cond.code yX0_spoonsOf cX0_spoonsOf 2 (some .int), Cond.fieldLink RX0 21 "MustardFast$Duchy" "eaterSpoons" "[I"]
def wsX0_finesOfPlan : List Cond := .code yX0_finesOfPlan cX0_finesOfPlan 5 (some .int) :: ((wsX0_finesOfPlan_r1 ++ (wsX0_finesOfPlan_r2 ++ wsX0_finesOfPlan_r3)) ++ wsX00 ++ wsX20)
def wsX0_firstDayOfPlan_r1 : List Cond := [Cond.fieldLink RX0 40 "MustardFast$Duchy" "eaters" "I", Cond.fieldLink RX0 37 "MustardFast$Duchy" "days" "I", Cond.methodLink RX0 51 yX2_numberAt, Cond.instanceMethod yX2_numberAt, Cond.selects RX2 yX2_numberAt yX2_numberAt, Cond.initialized RX2, Cond.code yX2_numberAt cX2_numberAt 2 (some .int), Cond.fieldLink RX2 9 "MustardFast$Sheet" "cells" "[I", Cond.static yX4_numberIn, Cond.initialized RX4, Cond.code yX4_numberIn cX4_numberIn 2 (some .int), Cond.methodLink RX0 81 yX0_foundDays, Cond.instanceMethod yX0_foundDays, Cond.selects RX0 yX0_foundDays yX0_foundDays, Cond.initialized RX0, Cond.code yX0_foundDays cX0_foundDays 3 (some .int), Cond.methodLink RX0 75 yX0_lastsOf, Cond.instanceMethod yX0_lastsOf, Cond.selects RX0 yX0_lastsOf yX0_lastsOf, Cond.code yX0_lastsOf cX0_lastsOf 2 (some .int), Cond.fieldLink RX0 15 "MustardFast$Duchy" "eaterKinds" "[I", Cond.fieldLink RX0 18 "MustardFast$Duchy" "eaterStays" "[I", Cond.methodLink RX0 68 yX0_lastsBy, Cond.static yX0_lastsBy]
def wsX0_firstDayOfPlan_r2 : List Cond := [Cond.code yX0_lastsBy cX0_lastsBy 3 (some .int), Cond.methodLink RX0 78 yX0_yellowDays, Cond.instanceMethod yX0_yellowDays, Cond.selects RX0 yX0_yellowDays yX0_yellowDays, Cond.code yX0_yellowDays cX0_yellowDays 5 (some .int), Cond.methodLink RX0 60 yX0_allDays, Cond.instanceMethod yX0_allDays, Cond.selects RX0 yX0_allDays yX0_allDays, Cond.code yX0_allDays cX0_allDays 1 (some .int), Cond.methodLink RX0 72 yX0_fastDays, Cond.instanceMethod yX0_fastDays, Cond.selects RX0 yX0_fastDays yX0_fastDays, Cond.code yX0_fastDays cX0_fastDays 3 (some .int), Cond.fieldLink RX0 9 "MustardFast$Duchy" "looks" "[I", Cond.fieldLink RX0 33 "MustardFast$Duchy" "sourFrom" "I"]
def wsX0_firstDayOfPlan : List Cond := .code yX0_firstDayOfPlan cX0_firstDayOfPlan 5 (some .int) :: ((wsX0_firstDayOfPlan_r1 ++ wsX0_firstDayOfPlan_r2) ++ wsX00 ++ wsX20)
def wsX0_foundEatersOfPlan_r1 : List Cond := [Cond.fieldLink RX0 40 "MustardFast$Duchy" "eaters" "I", Cond.methodLink RX0 51 yX2_numberAt, Cond.instanceMethod yX2_numberAt, Cond.selects RX2 yX2_numberAt yX2_numberAt, Cond.initialized RX2, Cond.code yX2_numberAt cX2_numberAt 2 (some .int), Cond.fieldLink RX2 9 "MustardFast$Sheet" "cells" "[I", Cond.static yX4_numberIn, Cond.initialized RX4, Cond.code yX4_numberIn cX4_numberIn 2 (some .int), Cond.methodLink RX0 81 yX0_foundDays, Cond.instanceMethod yX0_foundDays, Cond.selects RX0 yX0_foundDays yX0_foundDays, Cond.initialized RX0, Cond.code yX0_foundDays cX0_foundDays 3 (some .int), Cond.methodLink RX0 75 yX0_lastsOf, Cond.instanceMethod yX0_lastsOf, Cond.selects RX0 yX0_lastsOf yX0_lastsOf, Cond.code yX0_lastsOf cX0_lastsOf 2 (some .int), Cond.fieldLink RX0 15 "MustardFast$Duchy" "eaterKinds" "[I", Cond.fieldLink RX0 18 "MustardFast$Duchy" "eaterStays" "[I", Cond.methodLink RX0 68 yX0_lastsBy, Cond.static yX0_lastsBy, Cond.code yX0_lastsBy cX0_lastsBy 3 (some .int)]
def wsX0_foundEatersOfPlan_r2 : List Cond := [Cond.methodLink RX0 78 yX0_yellowDays, Cond.instanceMethod yX0_yellowDays, Cond.selects RX0 yX0_yellowDays yX0_yellowDays, Cond.code yX0_yellowDays cX0_yellowDays 5 (some .int), Cond.methodLink RX0 60 yX0_allDays, Cond.instanceMethod yX0_allDays, Cond.selects RX0 yX0_allDays yX0_allDays, Cond.code yX0_allDays cX0_allDays 1 (some .int), Cond.fieldLink RX0 37 "MustardFast$Duchy" "days" "I", Cond.methodLink RX0 72 yX0_fastDays, Cond.instanceMethod yX0_fastDays, Cond.selects RX0 yX0_fastDays yX0_fastDays, Cond.code yX0_fastDays cX0_fastDays 3 (some .int), Cond.fieldLink RX0 9 "MustardFast$Duchy" "looks" "[I", Cond.fieldLink RX0 33 "MustardFast$Duchy" "sourFrom" "I"]
def wsX0_foundEatersOfPlan : List Cond := .code yX0_foundEatersOfPlan cX0_foundEatersOfPlan 5 (some .int) :: ((wsX0_foundEatersOfPlan_r1 ++ wsX0_foundEatersOfPlan_r2) ++ wsX00 ++ wsX20)
def wsX0_starvedEatersOfPlan : List Cond := .code yX0_starvedEatersOfPlan cX0_starvedEatersOfPlan 5 (some .int) :: ([.fieldLink RX0 40 "MustardFast$Duchy" "eaters" "I", .methodLink RX0 51 yX2_numberAt, .instanceMethod yX2_numberAt, .selects RX2 yX2_numberAt yX2_numberAt, .initialized RX2, .code yX2_numberAt cX2_numberAt 2 (some .int), .fieldLink RX2 9 "MustardFast$Sheet" "cells" "[I", .static yX4_numberIn, .initialized RX4, .code yX4_numberIn cX4_numberIn 2 (some .int), .methodLink RX0 84 yJ6_bitCount_0f7a4, .static yJ6_bitCount_0f7a4, .initialized RJ6, .code yJ6_bitCount_0f7a4 cJ6_bitCount_0f7a4 1 (some .int), .constant RJ6 265 (1431655765), .constant RJ6 266 (858993459), .constant RJ6 267 (252645135), .methodLink RX0 102 yX0_needOf, .instanceMethod yX0_needOf, .selects RX0 yX0_needOf yX0_needOf, .initialized RX0, .code yX0_needOf cX0_needOf 2 (some .int), .fieldLink RX0 24 "MustardFast$Duchy" "eaterNeeds" "[I"] ++ wsX00 ++ wsX20)
def wsX0_foundOnDayOfPlan_r1 : List Cond := [Cond.fieldLink RX0 40 "MustardFast$Duchy" "eaters" "I", Cond.methodLink RX0 51 yX2_numberAt, Cond.instanceMethod yX2_numberAt, Cond.selects RX2 yX2_numberAt yX2_numberAt, Cond.initialized RX2, Cond.code yX2_numberAt cX2_numberAt 2 (some .int), Cond.fieldLink RX2 9 "MustardFast$Sheet" "cells" "[I", Cond.static yX4_numberIn, Cond.initialized RX4, Cond.code yX4_numberIn cX4_numberIn 2 (some .int), Cond.methodLink RX0 81 yX0_foundDays, Cond.instanceMethod yX0_foundDays, Cond.selects RX0 yX0_foundDays yX0_foundDays, Cond.initialized RX0, Cond.code yX0_foundDays cX0_foundDays 3 (some .int), Cond.methodLink RX0 75 yX0_lastsOf, Cond.instanceMethod yX0_lastsOf, Cond.selects RX0 yX0_lastsOf yX0_lastsOf, Cond.code yX0_lastsOf cX0_lastsOf 2 (some .int), Cond.fieldLink RX0 15 "MustardFast$Duchy" "eaterKinds" "[I", Cond.fieldLink RX0 18 "MustardFast$Duchy" "eaterStays" "[I", Cond.methodLink RX0 68 yX0_lastsBy, Cond.static yX0_lastsBy, Cond.code yX0_lastsBy cX0_lastsBy 3 (some .int)]
def wsX0_foundOnDayOfPlan_r2 : List Cond := [Cond.methodLink RX0 78 yX0_yellowDays, Cond.instanceMethod yX0_yellowDays, Cond.selects RX0 yX0_yellowDays yX0_yellowDays, Cond.code yX0_yellowDays cX0_yellowDays 5 (some .int), Cond.methodLink RX0 60 yX0_allDays, Cond.instanceMethod yX0_allDays, Cond.selects RX0 yX0_allDays yX0_allDays, Cond.code yX0_allDays cX0_allDays 1 (some .int), Cond.fieldLink RX0 37 "MustardFast$Duchy" "days" "I", Cond.methodLink RX0 72 yX0_fastDays, Cond.instanceMethod yX0_fastDays, Cond.selects RX0 yX0_fastDays yX0_fastDays, Cond.code yX0_fastDays cX0_fastDays 3 (some .int), Cond.fieldLink RX0 9 "MustardFast$Duchy" "looks" "[I", Cond.fieldLink RX0 33 "MustardFast$Duchy" "sourFrom" "I"]
def wsX0_foundOnDayOfPlan : List Cond := .code yX0_foundOnDayOfPlan cX0_foundOnDayOfPlan 6 (some .int) :: ((wsX0_foundOnDayOfPlan_r1 ++ wsX0_foundOnDayOfPlan_r2) ++ wsX00 ++ wsX20)
def wsX0_isBetter : List Cond := .code yX0_isBetter cX0_isBetter 4 (some .boolean) :: ([.methodLink RX0 84 yJ6_bitCount_0f7a4, .static yJ6_bitCount_0f7a4, .initialized RJ6, .code yJ6_bitCount_0f7a4 cJ6_bitCount_0f7a4 1 (some .int), .constant RJ6 265 (1431655765), .constant RJ6 266 (858993459), .constant RJ6 267 (252645135)])
def wsX0_bestSet_r1 : List Cond := [Cond.methodLink RX0 75 yX0_lastsOf, Cond.instanceMethod yX0_lastsOf, Cond.selects RX0 yX0_lastsOf yX0_lastsOf, Cond.initialized RX0, Cond.code yX0_lastsOf cX0_lastsOf 2 (some .int), Cond.fieldLink RX0 15 "MustardFast$Duchy" "eaterKinds" "[I", Cond.fieldLink RX0 18 "MustardFast$Duchy" "eaterStays" "[I", Cond.static yX4_numberIn, Cond.initialized RX4, Cond.code yX4_numberIn cX4_numberIn 2 (some .int), Cond.methodLink RX0 68 yX0_lastsBy, Cond.static yX0_lastsBy, Cond.code yX0_lastsBy cX0_lastsBy 3 (some .int), Cond.methodLink RX0 60 yX0_allDays, Cond.instanceMethod yX0_allDays, Cond.selects RX0 yX0_allDays yX0_allDays, Cond.code yX0_allDays cX0_allDays 1 (some .int), Cond.fieldLink RX0 37 "MustardFast$Duchy" "days" "I", Cond.methodLink RX0 78 yX0_yellowDays, Cond.instanceMethod yX0_yellowDays, Cond.selects RX0 yX0_yellowDays yX0_yellowDays, Cond.code yX0_yellowDays cX0_yellowDays 5 (some .int), Cond.methodLink RX0 84 yJ6_bitCount_0f7a4, Cond.static yJ6_bitCount_0f7a4]
def wsX0_bestSet_r2 : List Cond := [Cond.initialized RJ6, Cond.code yJ6_bitCount_0f7a4 cJ6_bitCount_0f7a4 1 (some .int), Cond.constant RJ6 265 (1431655765), Cond.constant RJ6 266 (858993459), Cond.constant RJ6 267 (252645135), Cond.methodLink RX0 102 yX0_needOf, Cond.instanceMethod yX0_needOf, Cond.selects RX0 yX0_needOf yX0_needOf, Cond.code yX0_needOf cX0_needOf 2 (some .int), Cond.fieldLink RX0 24 "MustardFast$Duchy" "eaterNeeds" "[I", Cond.methodLink RX0 105 yX0_isBetter, Cond.static yX0_isBetter, Cond.code yX0_isBetter cX0_isBetter 4 (some .boolean)]
def wsX0_bestSet : List Cond := .code yX0_bestSet cX0_bestSet 9 (some .int) :: ((wsX0_bestSet_r1 ++ wsX0_bestSet_r2) ++ wsX00)
def wsX0_villagePays_r1 : List Cond := [Cond.fieldLink RX0 40 "MustardFast$Duchy" "eaters" "I", Cond.methodLink RX0 109 yX0_bestSet, Cond.instanceMethod yX0_bestSet, Cond.selects RX0 yX0_bestSet yX0_bestSet, Cond.initialized RX0, Cond.code yX0_bestSet cX0_bestSet 9 (some .int), Cond.methodLink RX0 75 yX0_lastsOf, Cond.instanceMethod yX0_lastsOf, Cond.selects RX0 yX0_lastsOf yX0_lastsOf, Cond.code yX0_lastsOf cX0_lastsOf 2 (some .int), Cond.fieldLink RX0 15 "MustardFast$Duchy" "eaterKinds" "[I", Cond.fieldLink RX0 18 "MustardFast$Duchy" "eaterStays" "[I", Cond.static yX4_numberIn, Cond.initialized RX4, Cond.code yX4_numberIn cX4_numberIn 2 (some .int), Cond.methodLink RX0 68 yX0_lastsBy, Cond.static yX0_lastsBy, Cond.code yX0_lastsBy cX0_lastsBy 3 (some .int), Cond.methodLink RX0 60 yX0_allDays, Cond.instanceMethod yX0_allDays, Cond.selects RX0 yX0_allDays yX0_allDays, Cond.code yX0_allDays cX0_allDays 1 (some .int), Cond.fieldLink RX0 37 "MustardFast$Duchy" "days" "I", Cond.methodLink RX0 78 yX0_yellowDays]
def wsX0_villagePays_r2 : List Cond := [Cond.instanceMethod yX0_yellowDays, Cond.selects RX0 yX0_yellowDays yX0_yellowDays, Cond.code yX0_yellowDays cX0_yellowDays 5 (some .int), Cond.methodLink RX0 84 yJ6_bitCount_0f7a4, Cond.static yJ6_bitCount_0f7a4, Cond.initialized RJ6, Cond.code yJ6_bitCount_0f7a4 cJ6_bitCount_0f7a4 1 (some .int), Cond.constant RJ6 265 (1431655765), Cond.constant RJ6 266 (858993459), Cond.constant RJ6 267 (252645135), Cond.methodLink RX0 102 yX0_needOf, Cond.instanceMethod yX0_needOf, Cond.selects RX0 yX0_needOf yX0_needOf, Cond.code yX0_needOf cX0_needOf 2 (some .int), Cond.fieldLink RX0 24 "MustardFast$Duchy" "eaterNeeds" "[I", Cond.methodLink RX0 105 yX0_isBetter, Cond.static yX0_isBetter, Cond.code yX0_isBetter cX0_isBetter 4 (some .boolean), Cond.methodLink RX0 89 yX0_spoonsOf, Cond.instanceMethod yX0_spoonsOf, Cond.selects RX0 yX0_spoonsOf yX0_spoonsOf, Cond.code yX0_spoonsOf cX0_spoonsOf 2 (some .int), Cond.fieldLink RX0 21 "MustardFast$Duchy" "eaterSpoons" "[I"]
def wsX0_villagePays : List Cond := .code yX0_villagePays cX0_villagePays 5 (some .int) :: ((wsX0_villagePays_r1 ++ wsX0_villagePays_r2) ++ wsX00)
def wsX0_smileDay_r1 : List Cond := [Cond.fieldLink RX0 37 "MustardFast$Duchy" "days" "I", Cond.methodLink RX0 72 yX0_fastDays, Cond.instanceMethod yX0_fastDays, Cond.selects RX0 yX0_fastDays yX0_fastDays, Cond.initialized RX0, Cond.code yX0_fastDays cX0_fastDays 3 (some .int), Cond.fieldLink RX0 9 "MustardFast$Duchy" "looks" "[I", Cond.fieldLink RX0 33 "MustardFast$Duchy" "sourFrom" "I", Cond.static yX4_numberIn, Cond.initialized RX4, Cond.code yX4_numberIn cX4_numberIn 2 (some .int), Cond.methodLink RX0 112 yX0_fastDaysBut, Cond.instanceMethod yX0_fastDaysBut, Cond.selects RX0 yX0_fastDaysBut yX0_fastDaysBut, Cond.code yX0_fastDaysBut cX0_fastDaysBut 2 (some .int), Cond.methodLink RX0 115 yX0_villagePays, Cond.instanceMethod yX0_villagePays, Cond.selects RX0 yX0_villagePays yX0_villagePays, Cond.code yX0_villagePays cX0_villagePays 5 (some .int), Cond.fieldLink RX0 40 "MustardFast$Duchy" "eaters" "I", Cond.methodLink RX0 109 yX0_bestSet, Cond.instanceMethod yX0_bestSet, Cond.selects RX0 yX0_bestSet yX0_bestSet, Cond.code yX0_bestSet cX0_bestSet 9 (some .int)]
def wsX0_smileDay_r2 : List Cond := [Cond.methodLink RX0 75 yX0_lastsOf, Cond.instanceMethod yX0_lastsOf, Cond.selects RX0 yX0_lastsOf yX0_lastsOf, Cond.code yX0_lastsOf cX0_lastsOf 2 (some .int), Cond.fieldLink RX0 15 "MustardFast$Duchy" "eaterKinds" "[I", Cond.fieldLink RX0 18 "MustardFast$Duchy" "eaterStays" "[I", Cond.methodLink RX0 68 yX0_lastsBy, Cond.static yX0_lastsBy, Cond.code yX0_lastsBy cX0_lastsBy 3 (some .int), Cond.methodLink RX0 60 yX0_allDays, Cond.instanceMethod yX0_allDays, Cond.selects RX0 yX0_allDays yX0_allDays, Cond.code yX0_allDays cX0_allDays 1 (some .int), Cond.methodLink RX0 78 yX0_yellowDays, Cond.instanceMethod yX0_yellowDays, Cond.selects RX0 yX0_yellowDays yX0_yellowDays, Cond.code yX0_yellowDays cX0_yellowDays 5 (some .int), Cond.methodLink RX0 84 yJ6_bitCount_0f7a4, Cond.static yJ6_bitCount_0f7a4, Cond.initialized RJ6, Cond.code yJ6_bitCount_0f7a4 cJ6_bitCount_0f7a4 1 (some .int), Cond.constant RJ6 265 (1431655765), Cond.constant RJ6 266 (858993459), Cond.constant RJ6 267 (252645135)]
def wsX0_smileDay_r3 : List Cond := [Cond.methodLink RX0 102 yX0_needOf, Cond.instanceMethod yX0_needOf, Cond.selects RX0 yX0_needOf yX0_needOf, Cond.code yX0_needOf cX0_needOf 2 (some .int), Cond.fieldLink RX0 24 "MustardFast$Duchy" "eaterNeeds" "[I", Cond.methodLink RX0 105 yX0_isBetter, Cond.static yX0_isBetter, Cond.code yX0_isBetter cX0_isBetter 4 (some .boolean), Cond.methodLink RX0 89 yX0_spoonsOf, Cond.instanceMethod yX0_spoonsOf, Cond.selects RX0 yX0_spoonsOf yX0_spoonsOf, Cond.code yX0_spoonsOf cX0_spoonsOf 2 (some .int), Cond.fieldLink RX0 21 "MustardFast$Duchy" "eaterSpoons" "[I"]
def wsX0_smileDay : List Cond := .code yX0_smileDay cX0_smileDay 6 (some .int) :: ((wsX0_smileDay_r1 ++ (wsX0_smileDay_r2 ++ wsX0_smileDay_r3)) ++ wsX00)
def wsX1_init : List Cond := .code yX1_init cX1_init 1 none :: ([.methodLink RX1 3 objectInit, .instanceMethod objectInit, .code objectInit ⟨#[0xb1]⟩ 1 none, .arrayClass .int, .fieldLink RX1 9 "MustardFast$Readings" "ofEaters" "[I", .fieldLink RX1 15 "MustardFast$Readings" "eatenSets" "[I", .fieldLink RX1 18 "MustardFast$Readings" "onDays" "[I", .arrayClass .boolean, .fieldLink RX1 21 "MustardFast$Readings" "wereFound" "[Z"] ++ wsX10)
def wsX1_keptCount : List Cond := .code yX1_keptCount cX1_keptCount 1 (some .int) :: ([.fieldLink RX1 25 "MustardFast$Readings" "count" "I"] ++ wsX10)
def wsX1_isFull : List Cond := .code yX1_isFull cX1_isFull 1 (some .boolean) :: ([.fieldLink RX1 25 "MustardFast$Readings" "count" "I"] ++ wsX10)
def wsX1_keep : List Cond := .code yX1_keep cX1_keep 5 none :: ([.fieldLink RX1 25 "MustardFast$Readings" "count" "I", .fieldLink RX1 21 "MustardFast$Readings" "wereFound" "[Z", .fieldLink RX1 9 "MustardFast$Readings" "ofEaters" "[I", .fieldLink RX1 15 "MustardFast$Readings" "eatenSets" "[I", .fieldLink RX1 18 "MustardFast$Readings" "onDays" "[I", .static yX4_changeIn, .initialized RX4, .code yX4_changeIn cX4_changeIn 3 none] ++ wsX10)
def wsX1_dropLast : List Cond := .code yX1_dropLast cX1_dropLast 2 none :: ([.fieldLink RX1 25 "MustardFast$Readings" "count" "I"] ++ wsX10)
def wsX1_dropAll : List Cond := .code yX1_dropAll cX1_dropAll 1 none :: ([.fieldLink RX1 25 "MustardFast$Readings" "count" "I"] ++ wsX10)
def wsX1_allAreSo_r1 : List Cond := [Cond.fieldLink RX1 25 "MustardFast$Readings" "count" "I", Cond.fieldLink RX1 21 "MustardFast$Readings" "wereFound" "[Z", Cond.fieldLink RX1 9 "MustardFast$Readings" "ofEaters" "[I", Cond.fieldLink RX1 18 "MustardFast$Readings" "onDays" "[I", Cond.fieldLink RX1 15 "MustardFast$Readings" "eatenSets" "[I", Cond.static yX4_numberIn, Cond.initialized RX4, Cond.code yX4_numberIn cX4_numberIn 2 (some .int), Cond.methodLink RX1 37 yX0_lastsOf, Cond.instanceMethod yX0_lastsOf, Cond.selects RX0 yX0_lastsOf yX0_lastsOf, Cond.initialized RX0, Cond.code yX0_lastsOf cX0_lastsOf 2 (some .int), Cond.fieldLink RX0 15 "MustardFast$Duchy" "eaterKinds" "[I", Cond.fieldLink RX0 18 "MustardFast$Duchy" "eaterStays" "[I", Cond.methodLink RX0 68 yX0_lastsBy, Cond.static yX0_lastsBy, Cond.code yX0_lastsBy cX0_lastsBy 3 (some .int), Cond.methodLink RX1 43 yX0_isFoundOn, Cond.instanceMethod yX0_isFoundOn, Cond.selects RX0 yX0_isFoundOn yX0_isFoundOn, Cond.code yX0_isFoundOn cX0_isFoundOn 5 (some .boolean), Cond.methodLink RX0 78 yX0_yellowDays, Cond.instanceMethod yX0_yellowDays]
def wsX1_allAreSo_r2 : List Cond := [Cond.selects RX0 yX0_yellowDays yX0_yellowDays, Cond.code yX0_yellowDays cX0_yellowDays 5 (some .int), Cond.methodLink RX0 60 yX0_allDays, Cond.instanceMethod yX0_allDays, Cond.selects RX0 yX0_allDays yX0_allDays, Cond.code yX0_allDays cX0_allDays 1 (some .int), Cond.fieldLink RX0 37 "MustardFast$Duchy" "days" "I", Cond.methodLink RX0 92 yX0_lookOf, Cond.instanceMethod yX0_lookOf, Cond.selects RX0 yX0_lookOf yX0_lookOf, Cond.code yX0_lookOf cX0_lookOf 2 (some .int), Cond.fieldLink RX0 9 "MustardFast$Duchy" "looks" "[I"]
def wsX1_allAreSo : List Cond := .code yX1_allAreSo cX1_allAreSo 9 (some .boolean) :: ((wsX1_allAreSo_r1 ++ wsX1_allAreSo_r2) ++ wsX10 ++ wsX00)
def wsX2_init : List Cond := .code yX2_init cX2_init 1 none :: ([.methodLink RX2 3 objectInit, .instanceMethod objectInit, .code objectInit ⟨#[0xb1]⟩ 1 none, .arrayClass .int, .fieldLink RX2 9 "MustardFast$Sheet" "cells" "[I", .fieldLink RX2 15 "MustardFast$Sheet" "length" "I"] ++ wsX20)
def wsX2_hasRow : List Cond := .code yX2_hasRow cX2_hasRow 1 (some .boolean) :: ([.fieldLink RX2 15 "MustardFast$Sheet" "length" "I"] ++ wsX20)
def wsX2_rowLane : List Cond := .code yX2_rowLane cX2_rowLane 1 (some .int) :: ([.fieldLink RX2 19 "MustardFast$Sheet" "lane" "I"] ++ wsX20)
def wsJ7_fill_53178 : List Cond := .code yJ7_fill_53178 cJ7_fill_53178 4 none :: ([])
def wsX2_makeRow : List Cond := .code yX2_makeRow cX2_makeRow 3 none :: ([.fieldLink RX2 9 "MustardFast$Sheet" "cells" "[I", .fieldLink RX2 19 "MustardFast$Sheet" "lane" "I", .fieldLink RX2 15 "MustardFast$Sheet" "length" "I", .methodLink RX2 22 yJ7_fill_53178, .static yJ7_fill_53178, .initialized RJ7, .code yJ7_fill_53178 cJ7_fill_53178 4 none] ++ wsX20)
def wsX2_dropRow : List Cond := .code yX2_dropRow cX2_dropRow 1 none :: ([.fieldLink RX2 15 "MustardFast$Sheet" "length" "I"] ++ wsX20)
def wsX2_hasCells : List Cond := .code yX2_hasCells cX2_hasCells 3 (some .boolean) :: ([.fieldLink RX2 15 "MustardFast$Sheet" "length" "I"] ++ wsX20)
def wsX2_faultOfCells : List Cond := .code yX2_faultOfCells cX2_faultOfCells 4 (some .int) :: ([.fieldLink RX2 19 "MustardFast$Sheet" "lane" "I", .methodLink RX2 28 yX2_hasRow, .instanceMethod yX2_hasRow, .selects RX2 yX2_hasRow yX2_hasRow, .initialized RX2, .code yX2_hasRow cX2_hasRow 1 (some .boolean), .fieldLink RX2 15 "MustardFast$Sheet" "length" "I", .methodLink RX2 32 yX2_hasCells, .instanceMethod yX2_hasCells, .selects RX2 yX2_hasCells yX2_hasCells, .code yX2_hasCells cX2_hasCells 3 (some .boolean)] ++ wsX20)
def wsX2_cutToLane : List Cond := .code yX2_cutToLane cX2_cutToLane 2 (some .int) :: ([.fieldLink RX2 19 "MustardFast$Sheet" "lane" "I"] ++ wsX20)
def wsX2_write : List Cond := .code yX2_write cX2_write 3 none :: ([.fieldLink RX2 9 "MustardFast$Sheet" "cells" "[I", .methodLink RX2 40 yX2_cutToLane, .instanceMethod yX2_cutToLane, .selects RX2 yX2_cutToLane yX2_cutToLane, .initialized RX2, .code yX2_cutToLane cX2_cutToLane 2 (some .int), .fieldLink RX2 19 "MustardFast$Sheet" "lane" "I", .static yX4_changeIn, .initialized RX4, .code yX4_changeIn cX4_changeIn 3 none] ++ wsX20)
def wsX2_copyTo : List Cond := .code yX2_copyTo cX2_copyTo 5 none :: ([.fieldLink RX2 9 "MustardFast$Sheet" "cells" "[I", .methodLink RX2 48 arraycopyName, .native arraycopyName, .static arraycopyName, .initialized "java/lang/System", .methodLink RX2 32 yX2_hasCells, .instanceMethod yX2_hasCells, .selects RX2 yX2_hasCells yX2_hasCells, .initialized RX2, .code yX2_hasCells cX2_hasCells 3 (some .boolean), .fieldLink RX2 15 "MustardFast$Sheet" "length" "I"] ++ wsX20)
def wsX3_stepAfterDay : List Cond := .code yX3_stepAfterDay cX3_stepAfterDay 2 (some .int) :: ([.methodLink RX3 21 yX3_isDigit, .static yX3_isDigit, .initialized RX3, .code yX3_isDigit cX3_isDigit 3 (some .boolean)])
def wsX3_stepAfter : List Cond := .code yX3_stepAfter cX3_stepAfter 4 (some .int) :: ([.methodLink RX3 21 yX3_isDigit, .static yX3_isDigit, .initialized RX3, .code yX3_isDigit cX3_isDigit 3 (some .boolean), .methodLink RX3 25 yX3_stepAfterDay, .static yX3_stepAfterDay, .code yX3_stepAfterDay cX3_stepAfterDay 2 (some .int), .methodLink RX3 29 yX3_kindByLetter, .static yX3_kindByLetter, .code yX3_kindByLetter cX3_kindByLetter 1 (some .int)])
def wsX3_firstFault : List Cond := .code yX3_firstFault cX3_firstFault 7 (some .int) :: ([.methodLink RX3 11 yX2_numberAt, .instanceMethod yX2_numberAt, .selects RX2 yX2_numberAt yX2_numberAt, .initialized RX2, .code yX2_numberAt cX2_numberAt 2 (some .int), .fieldLink RX2 9 "MustardFast$Sheet" "cells" "[I", .static yX4_numberIn, .initialized RX4, .code yX4_numberIn cX4_numberIn 2 (some .int), .methodLink RX3 17 yX3_stepAfter, .static yX3_stepAfter, .initialized RX3, .code yX3_stepAfter cX3_stepAfter 4 (some .int), .methodLink RX3 21 yX3_isDigit, .static yX3_isDigit, .code yX3_isDigit cX3_isDigit 3 (some .boolean), .methodLink RX3 25 yX3_stepAfterDay, .static yX3_stepAfterDay, .code yX3_stepAfterDay cX3_stepAfterDay 2 (some .int), .methodLink RX3 29 yX3_kindByLetter, .static yX3_kindByLetter, .code yX3_kindByLetter cX3_kindByLetter 1 (some .int)] ++ wsX20)
def wsX4_init_r1 : List Cond := [Cond.methodLink RX4 3 objectInit, Cond.instanceMethod objectInit, Cond.code objectInit ⟨#[0xb1]⟩ 1 none, Cond.classLink RX4 9 RX0, Cond.instantiable RX0 8, Cond.initialized RX0, Cond.fieldLink RX4 12 "MustardFast" "duchy" "LMustardFast$Duchy;", Cond.classLink RX4 18 RX1, Cond.instantiable RX1 5, Cond.initialized RX1, Cond.fieldLink RX4 21 "MustardFast" "readings" "LMustardFast$Readings;", Cond.classLink RX4 25 RX2, Cond.fieldLink RX4 27 "MustardFast" "sheets" "[LMustardFast$Sheet;", Cond.instantiable RX2 3, Cond.initialized RX2, Cond.instanceMethod yX0_init, Cond.code yX0_init cX0_init 1 none, Cond.methodLink RX0 3 objectInit, Cond.arrayClass .int, Cond.fieldLink RX0 9 "MustardFast$Duchy" "looks" "[I", Cond.fieldLink RX0 15 "MustardFast$Duchy" "eaterKinds" "[I", Cond.fieldLink RX0 18 "MustardFast$Duchy" "eaterStays" "[I", Cond.fieldLink RX0 21 "MustardFast$Duchy" "eaterSpoons" "[I", Cond.fieldLink RX0 24 "MustardFast$Duchy" "eaterNeeds" "[I"]
def wsX4_init_r2 : List Cond := [Cond.instanceMethod yX1_init, Cond.code yX1_init cX1_init 1 none, Cond.methodLink RX1 3 objectInit, Cond.fieldLink RX1 9 "MustardFast$Readings" "ofEaters" "[I", Cond.fieldLink RX1 15 "MustardFast$Readings" "eatenSets" "[I", Cond.fieldLink RX1 18 "MustardFast$Readings" "onDays" "[I", Cond.arrayClass .boolean, Cond.fieldLink RX1 21 "MustardFast$Readings" "wereFound" "[Z", Cond.instanceMethod yX2_init, Cond.code yX2_init cX2_init 1 none, Cond.methodLink RX2 3 objectInit, Cond.fieldLink RX2 9 "MustardFast$Sheet" "cells" "[I", Cond.fieldLink RX2 15 "MustardFast$Sheet" "length" "I"]
def wsX4_init : List Cond := .code yX4_init cX4_init 2 none :: ((wsX4_init_r1 ++ wsX4_init_r2) ++ wsX00 ++ wsX40 ++ wsX10 ++ wsX20)
def wsX4_sheetAt : List Cond := .code yX4_sheetAt cX4_sheetAt 2 (some (.object "MustardFast$Sheet")) :: ([.fieldLink RX4 27 "MustardFast" "sheets" "[LMustardFast$Sheet;"] ++ wsX40)
def wsX4_isLane : List Cond := .code yX4_isLane cX4_isLane 1 (some .boolean) :: ([])
def wsX4_faulted : List Cond := .code yX4_faulted cX4_faulted 2 (some .int) :: ([.fieldLink RX4 32 "MustardFast" "latestFault" "I"] ++ wsX40)
def wsX4_duchy_r1 : List Cond := [Cond.fieldLink RX4 32 "MustardFast" "latestFault" "I", Cond.fieldLink RX4 12 "MustardFast" "duchy" "LMustardFast$Duchy;", Cond.fieldLink RX4 21 "MustardFast" "readings" "LMustardFast$Readings;", Cond.methodLink RX4 36 yX4_sheetAt, Cond.instanceMethod yX4_sheetAt, Cond.selects RX4 yX4_sheetAt yX4_sheetAt, Cond.initialized RX4, Cond.code yX4_sheetAt cX4_sheetAt 2 (some (.object "MustardFast$Sheet")), Cond.fieldLink RX4 27 "MustardFast" "sheets" "[LMustardFast$Sheet;", Cond.methodLink RX4 40 yX4_isLane, Cond.static yX4_isLane, Cond.code yX4_isLane cX4_isLane 1 (some .boolean), Cond.methodLink RX4 44 yX2_faultOfCells, Cond.instanceMethod yX2_faultOfCells, Cond.selects RX2 yX2_faultOfCells yX2_faultOfCells, Cond.initialized RX2, Cond.code yX2_faultOfCells cX2_faultOfCells 4 (some .int), Cond.fieldLink RX2 19 "MustardFast$Sheet" "lane" "I", Cond.methodLink RX2 28 yX2_hasRow, Cond.instanceMethod yX2_hasRow, Cond.selects RX2 yX2_hasRow yX2_hasRow, Cond.code yX2_hasRow cX2_hasRow 1 (some .boolean), Cond.fieldLink RX2 15 "MustardFast$Sheet" "length" "I", Cond.methodLink RX2 32 yX2_hasCells]
def wsX4_duchy_r2 : List Cond := [Cond.instanceMethod yX2_hasCells, Cond.selects RX2 yX2_hasCells yX2_hasCells, Cond.code yX2_hasCells cX2_hasCells 3 (some .boolean), Cond.methodLink RX4 48 yX4_faulted, Cond.instanceMethod yX4_faulted, Cond.selects RX4 yX4_faulted yX4_faulted, Cond.code yX4_faulted cX4_faulted 2 (some .int), Cond.methodLink RX4 52 yX3_firstFault, Cond.static yX3_firstFault, Cond.initialized RX3, Cond.code yX3_firstFault cX3_firstFault 7 (some .int), Cond.methodLink RX3 11 yX2_numberAt, Cond.instanceMethod yX2_numberAt, Cond.selects RX2 yX2_numberAt yX2_numberAt, Cond.code yX2_numberAt cX2_numberAt 2 (some .int), Cond.fieldLink RX2 9 "MustardFast$Sheet" "cells" "[I", Cond.static yX4_numberIn, Cond.code yX4_numberIn cX4_numberIn 2 (some .int), Cond.methodLink RX3 17 yX3_stepAfter, Cond.static yX3_stepAfter, Cond.code yX3_stepAfter cX3_stepAfter 4 (some .int), Cond.methodLink RX3 21 yX3_isDigit, Cond.static yX3_isDigit, Cond.code yX3_isDigit cX3_isDigit 3 (some .boolean)]
def wsX4_duchy_r3 : List Cond := [Cond.methodLink RX3 25 yX3_stepAfterDay, Cond.static yX3_stepAfterDay, Cond.code yX3_stepAfterDay cX3_stepAfterDay 2 (some .int), Cond.methodLink RX3 29 yX3_kindByLetter, Cond.static yX3_kindByLetter, Cond.code yX3_kindByLetter cX3_kindByLetter 1 (some .int), Cond.methodLink RX4 58 yX0_takeText, Cond.instanceMethod yX0_takeText, Cond.selects RX0 yX0_takeText yX0_takeText, Cond.initialized RX0, Cond.code yX0_takeText cX0_takeText 5 none, Cond.fieldLink RX0 33 "MustardFast$Duchy" "sourFrom" "I", Cond.fieldLink RX0 37 "MustardFast$Duchy" "days" "I", Cond.fieldLink RX0 40 "MustardFast$Duchy" "eaters" "I", Cond.fieldLink RX0 9 "MustardFast$Duchy" "looks" "[I", Cond.fieldLink RX0 15 "MustardFast$Duchy" "eaterKinds" "[I", Cond.fieldLink RX0 18 "MustardFast$Duchy" "eaterStays" "[I", Cond.fieldLink RX0 21 "MustardFast$Duchy" "eaterSpoons" "[I", Cond.fieldLink RX0 24 "MustardFast$Duchy" "eaterNeeds" "[I", Cond.methodLink RX0 27 yX3_digitAt, Cond.static yX3_digitAt, Cond.code yX3_digitAt cX3_digitAt 2 (some .int), Cond.methodLink RX0 43 yX3_isDigitAt, Cond.static yX3_isDigitAt]
def wsX4_duchy_r4 : List Cond := [Cond.code yX3_isDigitAt cX3_isDigitAt 2 (some .boolean), Cond.static yX4_changeIn, Cond.code yX4_changeIn cX4_changeIn 3 none, Cond.methodLink RX0 51 yX2_numberAt, Cond.methodLink RX0 57 yX3_kindByLetter, Cond.methodLink RX4 62 yX1_dropAll, Cond.instanceMethod yX1_dropAll, Cond.selects RX1 yX1_dropAll yX1_dropAll, Cond.initialized RX1, Cond.code yX1_dropAll cX1_dropAll 1 none, Cond.fieldLink RX1 25 "MustardFast$Readings" "count" "I", Cond.methodLink RX4 65 yX0_eaterCount, Cond.instanceMethod yX0_eaterCount, Cond.selects RX0 yX0_eaterCount yX0_eaterCount, Cond.code yX0_eaterCount cX0_eaterCount 1 (some .int)]
def wsX4_duchy : List Cond := .code yX4_duchy cX4_duchy 8 (some .int) :: ((wsX4_duchy_r1 ++ (wsX4_duchy_r2 ++ (wsX4_duchy_r3 ++ wsX4_duchy_r4))) ++ wsX40 ++ wsX20 ++ wsX00 ++ wsX10)
def wsX4_ofEater_r1 : List Cond := [Cond.fieldLink RX4 12 "MustardFast" "duchy" "LMustardFast$Duchy;", Cond.methodLink RX4 69 yX0_hasEater, Cond.instanceMethod yX0_hasEater, Cond.selects RX0 yX0_hasEater yX0_hasEater, Cond.initialized RX0, Cond.code yX0_hasEater cX0_hasEater 2 (some .boolean), Cond.fieldLink RX0 40 "MustardFast$Duchy" "eaters" "I", Cond.methodLink RX4 72 yX0_kindOf, Cond.instanceMethod yX0_kindOf, Cond.selects RX0 yX0_kindOf yX0_kindOf, Cond.code yX0_kindOf cX0_kindOf 2 (some .int), Cond.fieldLink RX0 15 "MustardFast$Duchy" "eaterKinds" "[I", Cond.static yX4_numberIn, Cond.initialized RX4, Cond.code yX4_numberIn cX4_numberIn 2 (some .int), Cond.methodLink RX4 75 yX0_stayOf, Cond.instanceMethod yX0_stayOf, Cond.selects RX0 yX0_stayOf yX0_stayOf, Cond.code yX0_stayOf cX0_stayOf 2 (some .int), Cond.fieldLink RX0 18 "MustardFast$Duchy" "eaterStays" "[I", Cond.methodLink RX4 78 yX0_spoonsOf, Cond.instanceMethod yX0_spoonsOf, Cond.selects RX0 yX0_spoonsOf yX0_spoonsOf, Cond.code yX0_spoonsOf cX0_spoonsOf 2 (some .int)]
def wsX4_ofEater_r2 : List Cond := [Cond.fieldLink RX0 21 "MustardFast$Duchy" "eaterSpoons" "[I", Cond.methodLink RX4 81 yX0_needOf, Cond.instanceMethod yX0_needOf, Cond.selects RX0 yX0_needOf yX0_needOf, Cond.code yX0_needOf cX0_needOf 2 (some .int), Cond.fieldLink RX0 24 "MustardFast$Duchy" "eaterNeeds" "[I", Cond.methodLink RX4 84 yX0_lastsOf, Cond.instanceMethod yX0_lastsOf, Cond.selects RX0 yX0_lastsOf yX0_lastsOf, Cond.code yX0_lastsOf cX0_lastsOf 2 (some .int), Cond.methodLink RX0 68 yX0_lastsBy, Cond.static yX0_lastsBy, Cond.code yX0_lastsBy cX0_lastsBy 3 (some .int)]
def wsX4_ofEater : List Cond := .code yX4_ofEater cX4_ofEater 3 (some .int) :: ((wsX4_ofEater_r1 ++ wsX4_ofEater_r2) ++ wsX40 ++ wsX00)
def wsX4_look : List Cond := .code yX4_look cX4_look 2 (some .int) :: ([.fieldLink RX4 12 "MustardFast" "duchy" "LMustardFast$Duchy;", .methodLink RX4 87 yX0_hasDay, .instanceMethod yX0_hasDay, .selects RX0 yX0_hasDay yX0_hasDay, .initialized RX0, .code yX0_hasDay cX0_hasDay 2 (some .boolean), .fieldLink RX0 37 "MustardFast$Duchy" "days" "I", .methodLink RX4 90 yX0_lookOf, .instanceMethod yX0_lookOf, .selects RX0 yX0_lookOf yX0_lookOf, .code yX0_lookOf cX0_lookOf 2 (some .int), .fieldLink RX0 9 "MustardFast$Duchy" "looks" "[I", .static yX4_numberIn, .initialized RX4, .code yX4_numberIn cX4_numberIn 2 (some .int)] ++ wsX40 ++ wsX00)
def wsX4_isFrom0To : List Cond := .code yX4_isFrom0To cX4_isFrom0To 2 (some .boolean) :: ([])
def wsX4_pull : List Cond := .code yX4_pull cX4_pull 4 (some .int) :: ([.fieldLink RX4 12 "MustardFast" "duchy" "LMustardFast$Duchy;", .methodLink RX4 87 yX0_hasDay, .instanceMethod yX0_hasDay, .selects RX0 yX0_hasDay yX0_hasDay, .initialized RX0, .code yX0_hasDay cX0_hasDay 2 (some .boolean), .fieldLink RX0 37 "MustardFast$Duchy" "days" "I", .methodLink RX4 93 yX4_isFrom0To, .static yX4_isFrom0To, .initialized RX4, .code yX4_isFrom0To cX4_isFrom0To 2 (some .boolean), .methodLink RX4 90 yX0_lookOf, .instanceMethod yX0_lookOf, .selects RX0 yX0_lookOf yX0_lookOf, .code yX0_lookOf cX0_lookOf 2 (some .int), .fieldLink RX0 9 "MustardFast$Duchy" "looks" "[I", .static yX4_numberIn, .code yX4_numberIn cX4_numberIn 2 (some .int), .methodLink RX4 97 yX0_changeLook, .instanceMethod yX0_changeLook, .selects RX0 yX0_changeLook yX0_changeLook, .code yX0_changeLook cX0_changeLook 3 none, .static yX4_changeIn, .code yX4_changeIn cX4_changeIn 3 none] ++ wsX40 ++ wsX00)
def wsX4_sour : List Cond := .code yX4_sour cX4_sour 3 (some .int) :: ([.fieldLink RX4 12 "MustardFast" "duchy" "LMustardFast$Duchy;", .methodLink RX4 93 yX4_isFrom0To, .static yX4_isFrom0To, .initialized RX4, .code yX4_isFrom0To cX4_isFrom0To 2 (some .boolean), .methodLink RX4 101 yX0_isTold, .instanceMethod yX0_isTold, .selects RX0 yX0_isTold yX0_isTold, .initialized RX0, .code yX0_isTold cX0_isTold 1 (some .boolean), .fieldLink RX0 40 "MustardFast$Duchy" "eaters" "I", .methodLink RX4 105 yX0_sourLook, .instanceMethod yX0_sourLook, .selects RX0 yX0_sourLook yX0_sourLook, .code yX0_sourLook cX0_sourLook 1 (some .int), .fieldLink RX0 33 "MustardFast$Duchy" "sourFrom" "I", .methodLink RX4 108 yX0_changeSour, .instanceMethod yX0_changeSour, .selects RX0 yX0_changeSour yX0_changeSour, .code yX0_changeSour cX0_changeSour 2 none] ++ wsX40 ++ wsX00)
def wsX4_crave : List Cond := .code yX4_crave cX4_crave 4 (some .int) :: ([.fieldLink RX4 12 "MustardFast" "duchy" "LMustardFast$Duchy;", .methodLink RX4 69 yX0_hasEater, .instanceMethod yX0_hasEater, .selects RX0 yX0_hasEater yX0_hasEater, .initialized RX0, .code yX0_hasEater cX0_hasEater 2 (some .boolean), .fieldLink RX0 40 "MustardFast$Duchy" "eaters" "I", .methodLink RX4 93 yX4_isFrom0To, .static yX4_isFrom0To, .initialized RX4, .code yX4_isFrom0To cX4_isFrom0To 2 (some .boolean), .methodLink RX4 81 yX0_needOf, .instanceMethod yX0_needOf, .selects RX0 yX0_needOf yX0_needOf, .code yX0_needOf cX0_needOf 2 (some .int), .fieldLink RX0 24 "MustardFast$Duchy" "eaterNeeds" "[I", .static yX4_numberIn, .code yX4_numberIn cX4_numberIn 2 (some .int), .methodLink RX4 112 yX0_changeNeed, .instanceMethod yX0_changeNeed, .selects RX0 yX0_changeNeed yX0_changeNeed, .code yX0_changeNeed cX0_changeNeed 3 none, .static yX4_changeIn, .code yX4_changeIn cX4_changeIn 3 none] ++ wsX40 ++ wsX00)
def wsX4_fasts : List Cond := .code yX4_fasts cX4_fasts 1 (some .int) :: ([.fieldLink RX4 12 "MustardFast" "duchy" "LMustardFast$Duchy;", .methodLink RX4 101 yX0_isTold, .instanceMethod yX0_isTold, .selects RX0 yX0_isTold yX0_isTold, .initialized RX0, .code yX0_isTold cX0_isTold 1 (some .boolean), .fieldLink RX0 40 "MustardFast$Duchy" "eaters" "I", .methodLink RX4 115 yX0_fastDays, .instanceMethod yX0_fastDays, .selects RX0 yX0_fastDays yX0_fastDays, .code yX0_fastDays cX0_fastDays 3 (some .int), .fieldLink RX0 37 "MustardFast$Duchy" "days" "I", .fieldLink RX0 9 "MustardFast$Duchy" "looks" "[I", .fieldLink RX0 33 "MustardFast$Duchy" "sourFrom" "I", .static yX4_numberIn, .initialized RX4, .code yX4_numberIn cX4_numberIn 2 (some .int)] ++ wsX40 ++ wsX00)
def wsX4_yellow_r1 : List Cond := [Cond.fieldLink RX4 12 "MustardFast" "duchy" "LMustardFast$Duchy;", Cond.methodLink RX4 69 yX0_hasEater, Cond.instanceMethod yX0_hasEater, Cond.selects RX0 yX0_hasEater yX0_hasEater, Cond.initialized RX0, Cond.code yX0_hasEater cX0_hasEater 2 (some .boolean), Cond.fieldLink RX0 40 "MustardFast$Duchy" "eaters" "I", Cond.methodLink RX4 118 yX0_hasDays, Cond.instanceMethod yX0_hasDays, Cond.selects RX0 yX0_hasDays yX0_hasDays, Cond.code yX0_hasDays cX0_hasDays 2 (some .boolean), Cond.methodLink RX0 60 yX0_allDays, Cond.instanceMethod yX0_allDays, Cond.selects RX0 yX0_allDays yX0_allDays, Cond.code yX0_allDays cX0_allDays 1 (some .int), Cond.fieldLink RX0 37 "MustardFast$Duchy" "days" "I", Cond.methodLink RX4 84 yX0_lastsOf, Cond.instanceMethod yX0_lastsOf, Cond.selects RX0 yX0_lastsOf yX0_lastsOf, Cond.code yX0_lastsOf cX0_lastsOf 2 (some .int), Cond.fieldLink RX0 15 "MustardFast$Duchy" "eaterKinds" "[I", Cond.fieldLink RX0 18 "MustardFast$Duchy" "eaterStays" "[I", Cond.static yX4_numberIn, Cond.initialized RX4]
def wsX4_yellow_r2 : List Cond := [Cond.code yX4_numberIn cX4_numberIn 2 (some .int), Cond.methodLink RX0 68 yX0_lastsBy, Cond.static yX0_lastsBy, Cond.code yX0_lastsBy cX0_lastsBy 3 (some .int), Cond.methodLink RX4 121 yX0_yellowDays, Cond.instanceMethod yX0_yellowDays, Cond.selects RX0 yX0_yellowDays yX0_yellowDays, Cond.code yX0_yellowDays cX0_yellowDays 5 (some .int)]
def wsX4_yellow : List Cond := .code yX4_yellow cX4_yellow 3 (some .int) :: ((wsX4_yellow_r1 ++ wsX4_yellow_r2) ++ wsX40 ++ wsX00)
def wsX4_found_r1 : List Cond := [Cond.fieldLink RX4 12 "MustardFast" "duchy" "LMustardFast$Duchy;", Cond.methodLink RX4 69 yX0_hasEater, Cond.instanceMethod yX0_hasEater, Cond.selects RX0 yX0_hasEater yX0_hasEater, Cond.initialized RX0, Cond.code yX0_hasEater cX0_hasEater 2 (some .boolean), Cond.fieldLink RX0 40 "MustardFast$Duchy" "eaters" "I", Cond.methodLink RX4 118 yX0_hasDays, Cond.instanceMethod yX0_hasDays, Cond.selects RX0 yX0_hasDays yX0_hasDays, Cond.code yX0_hasDays cX0_hasDays 2 (some .boolean), Cond.methodLink RX0 60 yX0_allDays, Cond.instanceMethod yX0_allDays, Cond.selects RX0 yX0_allDays yX0_allDays, Cond.code yX0_allDays cX0_allDays 1 (some .int), Cond.fieldLink RX0 37 "MustardFast$Duchy" "days" "I", Cond.methodLink RX4 93 yX4_isFrom0To, Cond.static yX4_isFrom0To, Cond.initialized RX4, Cond.code yX4_isFrom0To cX4_isFrom0To 2 (some .boolean), Cond.methodLink RX4 125 yX0_foundDays, Cond.instanceMethod yX0_foundDays, Cond.selects RX0 yX0_foundDays yX0_foundDays, Cond.code yX0_foundDays cX0_foundDays 3 (some .int)]
def wsX4_found_r2 : List Cond := [Cond.methodLink RX0 75 yX0_lastsOf, Cond.instanceMethod yX0_lastsOf, Cond.selects RX0 yX0_lastsOf yX0_lastsOf, Cond.code yX0_lastsOf cX0_lastsOf 2 (some .int), Cond.fieldLink RX0 15 "MustardFast$Duchy" "eaterKinds" "[I", Cond.fieldLink RX0 18 "MustardFast$Duchy" "eaterStays" "[I", Cond.static yX4_numberIn, Cond.code yX4_numberIn cX4_numberIn 2 (some .int), Cond.methodLink RX0 68 yX0_lastsBy, Cond.static yX0_lastsBy, Cond.code yX0_lastsBy cX0_lastsBy 3 (some .int), Cond.methodLink RX0 78 yX0_yellowDays, Cond.instanceMethod yX0_yellowDays, Cond.selects RX0 yX0_yellowDays yX0_yellowDays, Cond.code yX0_yellowDays cX0_yellowDays 5 (some .int), Cond.methodLink RX0 72 yX0_fastDays, Cond.instanceMethod yX0_fastDays, Cond.selects RX0 yX0_fastDays yX0_fastDays, Cond.code yX0_fastDays cX0_fastDays 3 (some .int), Cond.fieldLink RX0 9 "MustardFast$Duchy" "looks" "[I", Cond.fieldLink RX0 33 "MustardFast$Duchy" "sourFrom" "I", Cond.methodLink RX4 128 yX0_fineOf, Cond.instanceMethod yX0_fineOf, Cond.selects RX0 yX0_fineOf yX0_fineOf]
def wsX4_found_r3 : List Cond := [Cond.code yX0_fineOf cX0_fineOf 3 (some .int), Cond.methodLink RX0 81 yX0_foundDays, Cond.methodLink RX0 84 yJ6_bitCount_0f7a4, Cond.static yJ6_bitCount_0f7a4, Cond.initialized RJ6, Cond.code yJ6_bitCount_0f7a4 cJ6_bitCount_0f7a4 1 (some .int), Cond.constant RJ6 265 (1431655765), Cond.constant RJ6 266 (858993459), Cond.constant RJ6 267 (252645135), Cond.methodLink RX0 89 yX0_spoonsOf, Cond.instanceMethod yX0_spoonsOf, Cond.selects RX0 yX0_spoonsOf yX0_spoonsOf, Cond.code yX0_spoonsOf cX0_spoonsOf 2 (some .int), Cond.fieldLink RX0 21 "MustardFast$Duchy" "eaterSpoons" "[I"]
def wsX4_found : List Cond := .code yX4_found cX4_found 4 (some .int) :: ((wsX4_found_r1 ++ (wsX4_found_r2 ++ wsX4_found_r3)) ++ wsX40 ++ wsX00)
def wsX4_isAskedOfPlans : List Cond := .code yX4_isAskedOfPlans cX4_isAskedOfPlans 1 (some .boolean) :: ([.methodLink RX4 93 yX4_isFrom0To, .static yX4_isFrom0To, .initialized RX4, .code yX4_isFrom0To cX4_isFrom0To 2 (some .boolean)])
def wsX4_ofPlan_r1 : List Cond := [Cond.fieldLink RX4 12 "MustardFast" "duchy" "LMustardFast$Duchy;", Cond.methodLink RX4 141 yX0_finesOfPlan, Cond.instanceMethod yX0_finesOfPlan, Cond.selects RX0 yX0_finesOfPlan yX0_finesOfPlan, Cond.initialized RX0, Cond.code yX0_finesOfPlan cX0_finesOfPlan 5 (some .int), Cond.fieldLink RX0 40 "MustardFast$Duchy" "eaters" "I", Cond.methodLink RX0 51 yX2_numberAt, Cond.instanceMethod yX2_numberAt, Cond.selects RX2 yX2_numberAt yX2_numberAt, Cond.initialized RX2, Cond.code yX2_numberAt cX2_numberAt 2 (some .int), Cond.fieldLink RX2 9 "MustardFast$Sheet" "cells" "[I", Cond.static yX4_numberIn, Cond.initialized RX4, Cond.code yX4_numberIn cX4_numberIn 2 (some .int), Cond.methodLink RX0 99 yX0_fineOf, Cond.instanceMethod yX0_fineOf, Cond.selects RX0 yX0_fineOf yX0_fineOf, Cond.code yX0_fineOf cX0_fineOf 3 (some .int), Cond.methodLink RX0 81 yX0_foundDays, Cond.instanceMethod yX0_foundDays, Cond.selects RX0 yX0_foundDays yX0_foundDays, Cond.code yX0_foundDays cX0_foundDays 3 (some .int)]
def wsX4_ofPlan_r2 : List Cond := [Cond.methodLink RX0 75 yX0_lastsOf, Cond.instanceMethod yX0_lastsOf, Cond.selects RX0 yX0_lastsOf yX0_lastsOf, Cond.code yX0_lastsOf cX0_lastsOf 2 (some .int), Cond.fieldLink RX0 15 "MustardFast$Duchy" "eaterKinds" "[I", Cond.fieldLink RX0 18 "MustardFast$Duchy" "eaterStays" "[I", Cond.methodLink RX0 68 yX0_lastsBy, Cond.static yX0_lastsBy, Cond.code yX0_lastsBy cX0_lastsBy 3 (some .int), Cond.methodLink RX0 78 yX0_yellowDays, Cond.instanceMethod yX0_yellowDays, Cond.selects RX0 yX0_yellowDays yX0_yellowDays, Cond.code yX0_yellowDays cX0_yellowDays 5 (some .int), Cond.methodLink RX0 60 yX0_allDays, Cond.instanceMethod yX0_allDays, Cond.selects RX0 yX0_allDays yX0_allDays, Cond.code yX0_allDays cX0_allDays 1 (some .int), Cond.fieldLink RX0 37 "MustardFast$Duchy" "days" "I", Cond.methodLink RX0 72 yX0_fastDays, Cond.instanceMethod yX0_fastDays, Cond.selects RX0 yX0_fastDays yX0_fastDays, Cond.code yX0_fastDays cX0_fastDays 3 (some .int), Cond.fieldLink RX0 9 "MustardFast$Duchy" "looks" "[I", Cond.fieldLink RX0 33 "MustardFast$Duchy" "sourFrom" "I"]
def wsX4_ofPlan_r3 : List Cond := [Cond.methodLink RX0 84 yJ6_bitCount_0f7a4, Cond.static yJ6_bitCount_0f7a4, Cond.initialized RJ6, Cond.code yJ6_bitCount_0f7a4 cJ6_bitCount_0f7a4 1 (some .int), Cond.constant RJ6 265 (1431655765), Cond.constant RJ6 266 (858993459), Cond.constant RJ6 267 (252645135), Cond.methodLink RX0 89 yX0_spoonsOf, Cond.instanceMethod yX0_spoonsOf, Cond.selects RX0 yX0_spoonsOf yX0_spoonsOf, Cond.code yX0_spoonsOf cX0_spoonsOf 2 (some .int), Cond.fieldLink RX0 21 "MustardFast$Duchy" "eaterSpoons" "[I", Cond.methodLink RX4 145 yX0_firstDayOfPlan, Cond.instanceMethod yX0_firstDayOfPlan, Cond.selects RX0 yX0_firstDayOfPlan yX0_firstDayOfPlan, Cond.code yX0_firstDayOfPlan cX0_firstDayOfPlan 5 (some .int), Cond.methodLink RX4 148 yX0_foundEatersOfPlan, Cond.instanceMethod yX0_foundEatersOfPlan, Cond.selects RX0 yX0_foundEatersOfPlan yX0_foundEatersOfPlan, Cond.code yX0_foundEatersOfPlan cX0_foundEatersOfPlan 5 (some .int), Cond.methodLink RX4 151 yX0_starvedEatersOfPlan, Cond.instanceMethod yX0_starvedEatersOfPlan, Cond.selects RX0 yX0_starvedEatersOfPlan yX0_starvedEatersOfPlan, Cond.code yX0_starvedEatersOfPlan cX0_starvedEatersOfPlan 5 (some .int)]
def wsX4_ofPlan_r4 : List Cond := [Cond.methodLink RX0 102 yX0_needOf, Cond.instanceMethod yX0_needOf, Cond.selects RX0 yX0_needOf yX0_needOf, Cond.code yX0_needOf cX0_needOf 2 (some .int), Cond.fieldLink RX0 24 "MustardFast$Duchy" "eaterNeeds" "[I", Cond.methodLink RX4 87 yX0_hasDay, Cond.instanceMethod yX0_hasDay, Cond.selects RX0 yX0_hasDay yX0_hasDay, Cond.code yX0_hasDay cX0_hasDay 2 (some .boolean), Cond.methodLink RX4 154 yX0_foundOnDayOfPlan, Cond.instanceMethod yX0_foundOnDayOfPlan, Cond.selects RX0 yX0_foundOnDayOfPlan yX0_foundOnDayOfPlan, Cond.code yX0_foundOnDayOfPlan cX0_foundOnDayOfPlan 6 (some .int)]
def wsX4_ofPlan : List Cond := .code yX4_ofPlan cX4_ofPlan 4 (some .int) :: ((wsX4_ofPlan_r1 ++ (wsX4_ofPlan_r2 ++ (wsX4_ofPlan_r3 ++ wsX4_ofPlan_r4))) ++ wsX40 ++ wsX00 ++ wsX20)
def wsX4_plan_r1 : List Cond := [Cond.fieldLink RX4 32 "MustardFast" "latestFault" "I", Cond.fieldLink RX4 12 "MustardFast" "duchy" "LMustardFast$Duchy;", Cond.methodLink RX4 36 yX4_sheetAt, Cond.instanceMethod yX4_sheetAt, Cond.selects RX4 yX4_sheetAt yX4_sheetAt, Cond.initialized RX4, Cond.code yX4_sheetAt cX4_sheetAt 2 (some (.object "MustardFast$Sheet")), Cond.fieldLink RX4 27 "MustardFast" "sheets" "[LMustardFast$Sheet;", Cond.methodLink RX4 40 yX4_isLane, Cond.static yX4_isLane, Cond.code yX4_isLane cX4_isLane 1 (some .boolean), Cond.methodLink RX4 131 yX4_isAskedOfPlans, Cond.static yX4_isAskedOfPlans, Cond.code yX4_isAskedOfPlans cX4_isAskedOfPlans 1 (some .boolean), Cond.methodLink RX4 93 yX4_isFrom0To, Cond.static yX4_isFrom0To, Cond.code yX4_isFrom0To cX4_isFrom0To 2 (some .boolean), Cond.methodLink RX4 101 yX0_isTold, Cond.instanceMethod yX0_isTold, Cond.selects RX0 yX0_isTold yX0_isTold, Cond.initialized RX0, Cond.code yX0_isTold cX0_isTold 1 (some .boolean), Cond.fieldLink RX0 40 "MustardFast$Duchy" "eaters" "I", Cond.methodLink RX4 44 yX2_faultOfCells]
def wsX4_plan_r2 : List Cond := [Cond.instanceMethod yX2_faultOfCells, Cond.selects RX2 yX2_faultOfCells yX2_faultOfCells, Cond.initialized RX2, Cond.code yX2_faultOfCells cX2_faultOfCells 4 (some .int), Cond.fieldLink RX2 19 "MustardFast$Sheet" "lane" "I", Cond.methodLink RX2 28 yX2_hasRow, Cond.instanceMethod yX2_hasRow, Cond.selects RX2 yX2_hasRow yX2_hasRow, Cond.code yX2_hasRow cX2_hasRow 1 (some .boolean), Cond.fieldLink RX2 15 "MustardFast$Sheet" "length" "I", Cond.methodLink RX2 32 yX2_hasCells, Cond.instanceMethod yX2_hasCells, Cond.selects RX2 yX2_hasCells yX2_hasCells, Cond.code yX2_hasCells cX2_hasCells 3 (some .boolean), Cond.methodLink RX4 48 yX4_faulted, Cond.instanceMethod yX4_faulted, Cond.selects RX4 yX4_faulted yX4_faulted, Cond.code yX4_faulted cX4_faulted 2 (some .int), Cond.methodLink RX4 134 yX0_hasPlan, Cond.instanceMethod yX0_hasPlan, Cond.selects RX0 yX0_hasPlan yX0_hasPlan, Cond.code yX0_hasPlan cX0_hasPlan 5 (some .boolean), Cond.methodLink RX0 51 yX2_numberAt, Cond.instanceMethod yX2_numberAt]
def wsX4_plan_r3 : List Cond := [Cond.selects RX2 yX2_numberAt yX2_numberAt, Cond.code yX2_numberAt cX2_numberAt 2 (some .int), Cond.fieldLink RX2 9 "MustardFast$Sheet" "cells" "[I", Cond.static yX4_numberIn, Cond.code yX4_numberIn cX4_numberIn 2 (some .int), Cond.methodLink RX0 95 yX0_hasDays, Cond.instanceMethod yX0_hasDays, Cond.selects RX0 yX0_hasDays yX0_hasDays, Cond.code yX0_hasDays cX0_hasDays 2 (some .boolean), Cond.methodLink RX0 60 yX0_allDays, Cond.instanceMethod yX0_allDays, Cond.selects RX0 yX0_allDays yX0_allDays, Cond.code yX0_allDays cX0_allDays 1 (some .int), Cond.fieldLink RX0 37 "MustardFast$Duchy" "days" "I", Cond.methodLink RX4 138 yX4_ofPlan, Cond.instanceMethod yX4_ofPlan, Cond.selects RX4 yX4_ofPlan yX4_ofPlan, Cond.code yX4_ofPlan cX4_ofPlan 4 (some .int), Cond.methodLink RX4 141 yX0_finesOfPlan, Cond.instanceMethod yX0_finesOfPlan, Cond.selects RX0 yX0_finesOfPlan yX0_finesOfPlan, Cond.code yX0_finesOfPlan cX0_finesOfPlan 5 (some .int), Cond.methodLink RX0 99 yX0_fineOf, Cond.instanceMethod yX0_fineOf]
def wsX4_plan_r4 : List Cond := [Cond.selects RX0 yX0_fineOf yX0_fineOf, Cond.code yX0_fineOf cX0_fineOf 3 (some .int), Cond.methodLink RX0 81 yX0_foundDays, Cond.instanceMethod yX0_foundDays, Cond.selects RX0 yX0_foundDays yX0_foundDays, Cond.code yX0_foundDays cX0_foundDays 3 (some .int), Cond.methodLink RX0 75 yX0_lastsOf, Cond.instanceMethod yX0_lastsOf, Cond.selects RX0 yX0_lastsOf yX0_lastsOf, Cond.code yX0_lastsOf cX0_lastsOf 2 (some .int), Cond.fieldLink RX0 15 "MustardFast$Duchy" "eaterKinds" "[I", Cond.fieldLink RX0 18 "MustardFast$Duchy" "eaterStays" "[I", Cond.methodLink RX0 68 yX0_lastsBy, Cond.static yX0_lastsBy, Cond.code yX0_lastsBy cX0_lastsBy 3 (some .int), Cond.methodLink RX0 78 yX0_yellowDays, Cond.instanceMethod yX0_yellowDays, Cond.selects RX0 yX0_yellowDays yX0_yellowDays, Cond.code yX0_yellowDays cX0_yellowDays 5 (some .int), Cond.methodLink RX0 72 yX0_fastDays, Cond.instanceMethod yX0_fastDays, Cond.selects RX0 yX0_fastDays yX0_fastDays, Cond.code yX0_fastDays cX0_fastDays 3 (some .int), Cond.fieldLink RX0 9 "MustardFast$Duchy" "looks" "[I"]
def wsX4_plan_r5 : List Cond := [Cond.fieldLink RX0 33 "MustardFast$Duchy" "sourFrom" "I", Cond.methodLink RX0 84 yJ6_bitCount_0f7a4, Cond.static yJ6_bitCount_0f7a4, Cond.initialized RJ6, Cond.code yJ6_bitCount_0f7a4 cJ6_bitCount_0f7a4 1 (some .int), Cond.constant RJ6 265 (1431655765), Cond.constant RJ6 266 (858993459), Cond.constant RJ6 267 (252645135), Cond.methodLink RX0 89 yX0_spoonsOf, Cond.instanceMethod yX0_spoonsOf, Cond.selects RX0 yX0_spoonsOf yX0_spoonsOf, Cond.code yX0_spoonsOf cX0_spoonsOf 2 (some .int), Cond.fieldLink RX0 21 "MustardFast$Duchy" "eaterSpoons" "[I", Cond.methodLink RX4 145 yX0_firstDayOfPlan, Cond.instanceMethod yX0_firstDayOfPlan, Cond.selects RX0 yX0_firstDayOfPlan yX0_firstDayOfPlan, Cond.code yX0_firstDayOfPlan cX0_firstDayOfPlan 5 (some .int), Cond.methodLink RX4 148 yX0_foundEatersOfPlan, Cond.instanceMethod yX0_foundEatersOfPlan, Cond.selects RX0 yX0_foundEatersOfPlan yX0_foundEatersOfPlan, Cond.code yX0_foundEatersOfPlan cX0_foundEatersOfPlan 5 (some .int), Cond.methodLink RX4 151 yX0_starvedEatersOfPlan, Cond.instanceMethod yX0_starvedEatersOfPlan, Cond.selects RX0 yX0_starvedEatersOfPlan yX0_starvedEatersOfPlan]
def wsX4_plan_r6 : List Cond := [Cond.code yX0_starvedEatersOfPlan cX0_starvedEatersOfPlan 5 (some .int), Cond.methodLink RX0 102 yX0_needOf, Cond.instanceMethod yX0_needOf, Cond.selects RX0 yX0_needOf yX0_needOf, Cond.code yX0_needOf cX0_needOf 2 (some .int), Cond.fieldLink RX0 24 "MustardFast$Duchy" "eaterNeeds" "[I", Cond.methodLink RX4 87 yX0_hasDay, Cond.instanceMethod yX0_hasDay, Cond.selects RX0 yX0_hasDay yX0_hasDay, Cond.code yX0_hasDay cX0_hasDay 2 (some .boolean), Cond.methodLink RX4 154 yX0_foundOnDayOfPlan, Cond.instanceMethod yX0_foundOnDayOfPlan, Cond.selects RX0 yX0_foundOnDayOfPlan yX0_foundOnDayOfPlan, Cond.code yX0_foundOnDayOfPlan cX0_foundOnDayOfPlan 6 (some .int)]
def wsX4_plan : List Cond := .code yX4_plan cX4_plan 8 (some .int) :: ((wsX4_plan_r1 ++ (wsX4_plan_r2 ++ (wsX4_plan_r3 ++ (wsX4_plan_r4 ++ (wsX4_plan_r5 ++ wsX4_plan_r6))))) ++ wsX40 ++ wsX00 ++ wsX20)
def wsX4_best_r1 : List Cond := [Cond.fieldLink RX4 12 "MustardFast" "duchy" "LMustardFast$Duchy;", Cond.methodLink RX4 69 yX0_hasEater, Cond.instanceMethod yX0_hasEater, Cond.selects RX0 yX0_hasEater yX0_hasEater, Cond.initialized RX0, Cond.code yX0_hasEater cX0_hasEater 2 (some .boolean), Cond.fieldLink RX0 40 "MustardFast$Duchy" "eaters" "I", Cond.methodLink RX4 93 yX4_isFrom0To, Cond.static yX4_isFrom0To, Cond.initialized RX4, Cond.code yX4_isFrom0To cX4_isFrom0To 2 (some .boolean), Cond.methodLink RX4 115 yX0_fastDays, Cond.instanceMethod yX0_fastDays, Cond.selects RX0 yX0_fastDays yX0_fastDays, Cond.code yX0_fastDays cX0_fastDays 3 (some .int), Cond.fieldLink RX0 37 "MustardFast$Duchy" "days" "I", Cond.fieldLink RX0 9 "MustardFast$Duchy" "looks" "[I", Cond.fieldLink RX0 33 "MustardFast$Duchy" "sourFrom" "I", Cond.static yX4_numberIn, Cond.code yX4_numberIn cX4_numberIn 2 (some .int), Cond.methodLink RX4 157 yX0_bestSet, Cond.instanceMethod yX0_bestSet, Cond.selects RX0 yX0_bestSet yX0_bestSet, Cond.code yX0_bestSet cX0_bestSet 9 (some .int)]
def wsX4_best_r2 : List Cond := [Cond.methodLink RX0 75 yX0_lastsOf, Cond.instanceMethod yX0_lastsOf, Cond.selects RX0 yX0_lastsOf yX0_lastsOf, Cond.code yX0_lastsOf cX0_lastsOf 2 (some .int), Cond.fieldLink RX0 15 "MustardFast$Duchy" "eaterKinds" "[I", Cond.fieldLink RX0 18 "MustardFast$Duchy" "eaterStays" "[I", Cond.methodLink RX0 68 yX0_lastsBy, Cond.static yX0_lastsBy, Cond.code yX0_lastsBy cX0_lastsBy 3 (some .int), Cond.methodLink RX0 60 yX0_allDays, Cond.instanceMethod yX0_allDays, Cond.selects RX0 yX0_allDays yX0_allDays, Cond.code yX0_allDays cX0_allDays 1 (some .int), Cond.methodLink RX0 78 yX0_yellowDays, Cond.instanceMethod yX0_yellowDays, Cond.selects RX0 yX0_yellowDays yX0_yellowDays, Cond.code yX0_yellowDays cX0_yellowDays 5 (some .int), Cond.methodLink RX0 84 yJ6_bitCount_0f7a4, Cond.static yJ6_bitCount_0f7a4, Cond.initialized RJ6, Cond.code yJ6_bitCount_0f7a4 cJ6_bitCount_0f7a4 1 (some .int), Cond.constant RJ6 265 (1431655765), Cond.constant RJ6 266 (858993459), Cond.constant RJ6 267 (252645135)]
def wsX4_best_r3 : List Cond := [Cond.methodLink RX0 102 yX0_needOf, Cond.instanceMethod yX0_needOf, Cond.selects RX0 yX0_needOf yX0_needOf, Cond.code yX0_needOf cX0_needOf 2 (some .int), Cond.fieldLink RX0 24 "MustardFast$Duchy" "eaterNeeds" "[I", Cond.methodLink RX0 105 yX0_isBetter, Cond.static yX0_isBetter, Cond.code yX0_isBetter cX0_isBetter 4 (some .boolean), Cond.methodLink RX4 128 yX0_fineOf, Cond.instanceMethod yX0_fineOf, Cond.selects RX0 yX0_fineOf yX0_fineOf, Cond.code yX0_fineOf cX0_fineOf 3 (some .int), Cond.methodLink RX0 81 yX0_foundDays, Cond.instanceMethod yX0_foundDays, Cond.selects RX0 yX0_foundDays yX0_foundDays, Cond.code yX0_foundDays cX0_foundDays 3 (some .int), Cond.methodLink RX0 72 yX0_fastDays, Cond.methodLink RX0 89 yX0_spoonsOf, Cond.instanceMethod yX0_spoonsOf, Cond.selects RX0 yX0_spoonsOf yX0_spoonsOf, Cond.code yX0_spoonsOf cX0_spoonsOf 2 (some .int), Cond.fieldLink RX0 21 "MustardFast$Duchy" "eaterSpoons" "[I"]
def wsX4_best : List Cond := .code yX4_best cX4_best 4 (some .int) :: ((wsX4_best_r1 ++ (wsX4_best_r2 ++ wsX4_best_r3)) ++ wsX40 ++ wsX00)
def wsX4_village_r1 : List Cond := [Cond.fieldLink RX4 12 "MustardFast" "duchy" "LMustardFast$Duchy;", Cond.methodLink RX4 101 yX0_isTold, Cond.instanceMethod yX0_isTold, Cond.selects RX0 yX0_isTold yX0_isTold, Cond.initialized RX0, Cond.code yX0_isTold cX0_isTold 1 (some .boolean), Cond.fieldLink RX0 40 "MustardFast$Duchy" "eaters" "I", Cond.methodLink RX4 115 yX0_fastDays, Cond.instanceMethod yX0_fastDays, Cond.selects RX0 yX0_fastDays yX0_fastDays, Cond.code yX0_fastDays cX0_fastDays 3 (some .int), Cond.fieldLink RX0 37 "MustardFast$Duchy" "days" "I", Cond.fieldLink RX0 9 "MustardFast$Duchy" "looks" "[I", Cond.fieldLink RX0 33 "MustardFast$Duchy" "sourFrom" "I", Cond.static yX4_numberIn, Cond.initialized RX4, Cond.code yX4_numberIn cX4_numberIn 2 (some .int), Cond.methodLink RX4 160 yX0_villagePays, Cond.instanceMethod yX0_villagePays, Cond.selects RX0 yX0_villagePays yX0_villagePays, Cond.code yX0_villagePays cX0_villagePays 5 (some .int), Cond.methodLink RX0 109 yX0_bestSet, Cond.instanceMethod yX0_bestSet, Cond.selects RX0 yX0_bestSet yX0_bestSet]
def wsX4_village_r2 : List Cond := [Cond.code yX0_bestSet cX0_bestSet 9 (some .int), Cond.methodLink RX0 75 yX0_lastsOf, Cond.instanceMethod yX0_lastsOf, Cond.selects RX0 yX0_lastsOf yX0_lastsOf, Cond.code yX0_lastsOf cX0_lastsOf 2 (some .int), Cond.fieldLink RX0 15 "MustardFast$Duchy" "eaterKinds" "[I", Cond.fieldLink RX0 18 "MustardFast$Duchy" "eaterStays" "[I", Cond.methodLink RX0 68 yX0_lastsBy, Cond.static yX0_lastsBy, Cond.code yX0_lastsBy cX0_lastsBy 3 (some .int), Cond.methodLink RX0 60 yX0_allDays, Cond.instanceMethod yX0_allDays, Cond.selects RX0 yX0_allDays yX0_allDays, Cond.code yX0_allDays cX0_allDays 1 (some .int), Cond.methodLink RX0 78 yX0_yellowDays, Cond.instanceMethod yX0_yellowDays, Cond.selects RX0 yX0_yellowDays yX0_yellowDays, Cond.code yX0_yellowDays cX0_yellowDays 5 (some .int), Cond.methodLink RX0 84 yJ6_bitCount_0f7a4, Cond.static yJ6_bitCount_0f7a4, Cond.initialized RJ6, Cond.code yJ6_bitCount_0f7a4 cJ6_bitCount_0f7a4 1 (some .int), Cond.constant RJ6 265 (1431655765), Cond.constant RJ6 266 (858993459)]
def wsX4_village_r3 : List Cond := [Cond.constant RJ6 267 (252645135), Cond.methodLink RX0 102 yX0_needOf, Cond.instanceMethod yX0_needOf, Cond.selects RX0 yX0_needOf yX0_needOf, Cond.code yX0_needOf cX0_needOf 2 (some .int), Cond.fieldLink RX0 24 "MustardFast$Duchy" "eaterNeeds" "[I", Cond.methodLink RX0 105 yX0_isBetter, Cond.static yX0_isBetter, Cond.code yX0_isBetter cX0_isBetter 4 (some .boolean), Cond.methodLink RX0 89 yX0_spoonsOf, Cond.instanceMethod yX0_spoonsOf, Cond.selects RX0 yX0_spoonsOf yX0_spoonsOf, Cond.code yX0_spoonsOf cX0_spoonsOf 2 (some .int), Cond.fieldLink RX0 21 "MustardFast$Duchy" "eaterSpoons" "[I"]
def wsX4_village : List Cond := .code yX4_village cX4_village 1 (some .int) :: ((wsX4_village_r1 ++ (wsX4_village_r2 ++ wsX4_village_r3)) ++ wsX40 ++ wsX00)
def wsX4_smile_r1 : List Cond := [Cond.fieldLink RX4 12 "MustardFast" "duchy" "LMustardFast$Duchy;", Cond.methodLink RX4 93 yX4_isFrom0To, Cond.static yX4_isFrom0To, Cond.initialized RX4, Cond.code yX4_isFrom0To cX4_isFrom0To 2 (some .boolean), Cond.methodLink RX4 101 yX0_isTold, Cond.instanceMethod yX0_isTold, Cond.selects RX0 yX0_isTold yX0_isTold, Cond.initialized RX0, Cond.code yX0_isTold cX0_isTold 1 (some .boolean), Cond.fieldLink RX0 40 "MustardFast$Duchy" "eaters" "I", Cond.methodLink RX4 163 yX0_smileDay, Cond.instanceMethod yX0_smileDay, Cond.selects RX0 yX0_smileDay yX0_smileDay, Cond.code yX0_smileDay cX0_smileDay 6 (some .int), Cond.fieldLink RX0 37 "MustardFast$Duchy" "days" "I", Cond.methodLink RX0 72 yX0_fastDays, Cond.instanceMethod yX0_fastDays, Cond.selects RX0 yX0_fastDays yX0_fastDays, Cond.code yX0_fastDays cX0_fastDays 3 (some .int), Cond.fieldLink RX0 9 "MustardFast$Duchy" "looks" "[I", Cond.fieldLink RX0 33 "MustardFast$Duchy" "sourFrom" "I", Cond.static yX4_numberIn, Cond.code yX4_numberIn cX4_numberIn 2 (some .int)]
def wsX4_smile_r2 : List Cond := [Cond.methodLink RX0 112 yX0_fastDaysBut, Cond.instanceMethod yX0_fastDaysBut, Cond.selects RX0 yX0_fastDaysBut yX0_fastDaysBut, Cond.code yX0_fastDaysBut cX0_fastDaysBut 2 (some .int), Cond.methodLink RX0 115 yX0_villagePays, Cond.instanceMethod yX0_villagePays, Cond.selects RX0 yX0_villagePays yX0_villagePays, Cond.code yX0_villagePays cX0_villagePays 5 (some .int), Cond.methodLink RX0 109 yX0_bestSet, Cond.instanceMethod yX0_bestSet, Cond.selects RX0 yX0_bestSet yX0_bestSet, Cond.code yX0_bestSet cX0_bestSet 9 (some .int), Cond.methodLink RX0 75 yX0_lastsOf, Cond.instanceMethod yX0_lastsOf, Cond.selects RX0 yX0_lastsOf yX0_lastsOf, Cond.code yX0_lastsOf cX0_lastsOf 2 (some .int), Cond.fieldLink RX0 15 "MustardFast$Duchy" "eaterKinds" "[I", Cond.fieldLink RX0 18 "MustardFast$Duchy" "eaterStays" "[I", Cond.methodLink RX0 68 yX0_lastsBy, Cond.static yX0_lastsBy, Cond.code yX0_lastsBy cX0_lastsBy 3 (some .int), Cond.methodLink RX0 60 yX0_allDays, Cond.instanceMethod yX0_allDays, Cond.selects RX0 yX0_allDays yX0_allDays]
def wsX4_smile_r3 : List Cond := [Cond.code yX0_allDays cX0_allDays 1 (some .int), Cond.methodLink RX0 78 yX0_yellowDays, Cond.instanceMethod yX0_yellowDays, Cond.selects RX0 yX0_yellowDays yX0_yellowDays, Cond.code yX0_yellowDays cX0_yellowDays 5 (some .int), Cond.methodLink RX0 84 yJ6_bitCount_0f7a4, Cond.static yJ6_bitCount_0f7a4, Cond.initialized RJ6, Cond.code yJ6_bitCount_0f7a4 cJ6_bitCount_0f7a4 1 (some .int), Cond.constant RJ6 265 (1431655765), Cond.constant RJ6 266 (858993459), Cond.constant RJ6 267 (252645135), Cond.methodLink RX0 102 yX0_needOf, Cond.instanceMethod yX0_needOf, Cond.selects RX0 yX0_needOf yX0_needOf, Cond.code yX0_needOf cX0_needOf 2 (some .int), Cond.fieldLink RX0 24 "MustardFast$Duchy" "eaterNeeds" "[I", Cond.methodLink RX0 105 yX0_isBetter, Cond.static yX0_isBetter, Cond.code yX0_isBetter cX0_isBetter 4 (some .boolean), Cond.methodLink RX0 89 yX0_spoonsOf, Cond.instanceMethod yX0_spoonsOf, Cond.selects RX0 yX0_spoonsOf yX0_spoonsOf, Cond.code yX0_spoonsOf cX0_spoonsOf 2 (some .int)]
def wsX4_smile_r4 : List Cond := [Cond.fieldLink RX0 21 "MustardFast$Duchy" "eaterSpoons" "[I", Cond.methodLink RX4 166 yX0_fastDaysBut, Cond.methodLink RX4 160 yX0_villagePays]
def wsX4_smile : List Cond := .code yX4_smile cX4_smile 3 (some .int) :: ((wsX4_smile_r1 ++ (wsX4_smile_r2 ++ (wsX4_smile_r3 ++ wsX4_smile_r4))) ++ wsX40 ++ wsX00)
def wsX4_reading_r1 : List Cond := [Cond.fieldLink RX4 12 "MustardFast" "duchy" "LMustardFast$Duchy;", Cond.fieldLink RX4 21 "MustardFast" "readings" "LMustardFast$Readings;", Cond.methodLink RX4 69 yX0_hasEater, Cond.instanceMethod yX0_hasEater, Cond.selects RX0 yX0_hasEater yX0_hasEater, Cond.initialized RX0, Cond.code yX0_hasEater cX0_hasEater 2 (some .boolean), Cond.fieldLink RX0 40 "MustardFast$Duchy" "eaters" "I", Cond.methodLink RX4 118 yX0_hasDays, Cond.instanceMethod yX0_hasDays, Cond.selects RX0 yX0_hasDays yX0_hasDays, Cond.code yX0_hasDays cX0_hasDays 2 (some .boolean), Cond.methodLink RX0 60 yX0_allDays, Cond.instanceMethod yX0_allDays, Cond.selects RX0 yX0_allDays yX0_allDays, Cond.code yX0_allDays cX0_allDays 1 (some .int), Cond.fieldLink RX0 37 "MustardFast$Duchy" "days" "I", Cond.methodLink RX4 87 yX0_hasDay, Cond.instanceMethod yX0_hasDay, Cond.selects RX0 yX0_hasDay yX0_hasDay, Cond.code yX0_hasDay cX0_hasDay 2 (some .boolean), Cond.methodLink RX4 169 yX1_isFull, Cond.instanceMethod yX1_isFull, Cond.selects RX1 yX1_isFull yX1_isFull]
def wsX4_reading_r2 : List Cond := [Cond.initialized RX1, Cond.code yX1_isFull cX1_isFull 1 (some .boolean), Cond.fieldLink RX1 25 "MustardFast$Readings" "count" "I", Cond.methodLink RX4 172 yX1_keep, Cond.instanceMethod yX1_keep, Cond.selects RX1 yX1_keep yX1_keep, Cond.code yX1_keep cX1_keep 5 none, Cond.fieldLink RX1 21 "MustardFast$Readings" "wereFound" "[Z", Cond.fieldLink RX1 9 "MustardFast$Readings" "ofEaters" "[I", Cond.fieldLink RX1 15 "MustardFast$Readings" "eatenSets" "[I", Cond.fieldLink RX1 18 "MustardFast$Readings" "onDays" "[I", Cond.static yX4_changeIn, Cond.initialized RX4, Cond.code yX4_changeIn cX4_changeIn 3 none, Cond.methodLink RX4 176 yX1_keptCount, Cond.instanceMethod yX1_keptCount, Cond.selects RX1 yX1_keptCount yX1_keptCount, Cond.code yX1_keptCount cX1_keptCount 1 (some .int)]
def wsX4_reading : List Cond := .code yX4_reading cX4_reading 5 (some .int) :: ((wsX4_reading_r1 ++ wsX4_reading_r2) ++ wsX40 ++ wsX00 ++ wsX10)
def wsX4_back : List Cond := .code yX4_back cX4_back 2 (some .int) :: ([.fieldLink RX4 21 "MustardFast" "readings" "LMustardFast$Readings;", .methodLink RX4 176 yX1_keptCount, .instanceMethod yX1_keptCount, .selects RX1 yX1_keptCount yX1_keptCount, .initialized RX1, .code yX1_keptCount cX1_keptCount 1 (some .int), .fieldLink RX1 25 "MustardFast$Readings" "count" "I", .methodLink RX4 93 yX4_isFrom0To, .static yX4_isFrom0To, .initialized RX4, .code yX4_isFrom0To cX4_isFrom0To 2 (some .boolean), .methodLink RX4 179 yX1_dropLast, .instanceMethod yX1_dropLast, .selects RX1 yX1_dropLast yX1_dropLast, .code yX1_dropLast cX1_dropLast 2 none] ++ wsX40 ++ wsX10)
def wsX4_stays_r1 : List Cond := [Cond.fieldLink RX4 12 "MustardFast" "duchy" "LMustardFast$Duchy;", Cond.fieldLink RX4 21 "MustardFast" "readings" "LMustardFast$Readings;", Cond.methodLink RX4 69 yX0_hasEater, Cond.instanceMethod yX0_hasEater, Cond.selects RX0 yX0_hasEater yX0_hasEater, Cond.initialized RX0, Cond.code yX0_hasEater cX0_hasEater 2 (some .boolean), Cond.fieldLink RX0 40 "MustardFast$Duchy" "eaters" "I", Cond.methodLink RX4 72 yX0_kindOf, Cond.instanceMethod yX0_kindOf, Cond.selects RX0 yX0_kindOf yX0_kindOf, Cond.code yX0_kindOf cX0_kindOf 2 (some .int), Cond.fieldLink RX0 15 "MustardFast$Duchy" "eaterKinds" "[I", Cond.static yX4_numberIn, Cond.initialized RX4, Cond.code yX4_numberIn cX4_numberIn 2 (some .int), Cond.methodLink RX4 182 yX0_lastsBy, Cond.static yX0_lastsBy, Cond.code yX0_lastsBy cX0_lastsBy 3 (some .int), Cond.methodLink RX4 105 yX0_sourLook, Cond.instanceMethod yX0_sourLook, Cond.selects RX0 yX0_sourLook yX0_sourLook, Cond.code yX0_sourLook cX0_sourLook 1 (some .int), Cond.fieldLink RX0 33 "MustardFast$Duchy" "sourFrom" "I"]
def wsX4_stays_r2 : List Cond := [Cond.methodLink RX4 185 yX1_allAreSo, Cond.instanceMethod yX1_allAreSo, Cond.selects RX1 yX1_allAreSo yX1_allAreSo, Cond.initialized RX1, Cond.code yX1_allAreSo cX1_allAreSo 9 (some .boolean), Cond.fieldLink RX1 25 "MustardFast$Readings" "count" "I", Cond.fieldLink RX1 21 "MustardFast$Readings" "wereFound" "[Z", Cond.fieldLink RX1 9 "MustardFast$Readings" "ofEaters" "[I", Cond.fieldLink RX1 18 "MustardFast$Readings" "onDays" "[I", Cond.fieldLink RX1 15 "MustardFast$Readings" "eatenSets" "[I", Cond.methodLink RX1 37 yX0_lastsOf, Cond.instanceMethod yX0_lastsOf, Cond.selects RX0 yX0_lastsOf yX0_lastsOf, Cond.code yX0_lastsOf cX0_lastsOf 2 (some .int), Cond.fieldLink RX0 18 "MustardFast$Duchy" "eaterStays" "[I", Cond.methodLink RX0 68 yX0_lastsBy, Cond.methodLink RX1 43 yX0_isFoundOn, Cond.instanceMethod yX0_isFoundOn, Cond.selects RX0 yX0_isFoundOn yX0_isFoundOn, Cond.code yX0_isFoundOn cX0_isFoundOn 5 (some .boolean), Cond.methodLink RX0 78 yX0_yellowDays, Cond.instanceMethod yX0_yellowDays, Cond.selects RX0 yX0_yellowDays yX0_yellowDays, Cond.code yX0_yellowDays cX0_yellowDays 5 (some .int)]
def wsX4_stays_r3 : List Cond := [Cond.methodLink RX0 60 yX0_allDays, Cond.instanceMethod yX0_allDays, Cond.selects RX0 yX0_allDays yX0_allDays, Cond.code yX0_allDays cX0_allDays 1 (some .int), Cond.fieldLink RX0 37 "MustardFast$Duchy" "days" "I", Cond.methodLink RX0 92 yX0_lookOf, Cond.instanceMethod yX0_lookOf, Cond.selects RX0 yX0_lookOf yX0_lookOf, Cond.code yX0_lookOf cX0_lookOf 2 (some .int), Cond.fieldLink RX0 9 "MustardFast$Duchy" "looks" "[I"]
def wsX4_stays : List Cond := .code yX4_stays cX4_stays 5 (some .int) :: ((wsX4_stays_r1 ++ (wsX4_stays_r2 ++ wsX4_stays_r3)) ++ wsX40 ++ wsX00 ++ wsX10)
def wsX4_kinds_r1 : List Cond := [Cond.fieldLink RX4 12 "MustardFast" "duchy" "LMustardFast$Duchy;", Cond.fieldLink RX4 21 "MustardFast" "readings" "LMustardFast$Readings;", Cond.methodLink RX4 69 yX0_hasEater, Cond.instanceMethod yX0_hasEater, Cond.selects RX0 yX0_hasEater yX0_hasEater, Cond.initialized RX0, Cond.code yX0_hasEater cX0_hasEater 2 (some .boolean), Cond.fieldLink RX0 40 "MustardFast$Duchy" "eaters" "I", Cond.methodLink RX4 75 yX0_stayOf, Cond.instanceMethod yX0_stayOf, Cond.selects RX0 yX0_stayOf yX0_stayOf, Cond.code yX0_stayOf cX0_stayOf 2 (some .int), Cond.fieldLink RX0 18 "MustardFast$Duchy" "eaterStays" "[I", Cond.static yX4_numberIn, Cond.initialized RX4, Cond.code yX4_numberIn cX4_numberIn 2 (some .int), Cond.methodLink RX4 182 yX0_lastsBy, Cond.static yX0_lastsBy, Cond.code yX0_lastsBy cX0_lastsBy 3 (some .int), Cond.methodLink RX4 105 yX0_sourLook, Cond.instanceMethod yX0_sourLook, Cond.selects RX0 yX0_sourLook yX0_sourLook, Cond.code yX0_sourLook cX0_sourLook 1 (some .int), Cond.fieldLink RX0 33 "MustardFast$Duchy" "sourFrom" "I"]
def wsX4_kinds_r2 : List Cond := [Cond.methodLink RX4 185 yX1_allAreSo, Cond.instanceMethod yX1_allAreSo, Cond.selects RX1 yX1_allAreSo yX1_allAreSo, Cond.initialized RX1, Cond.code yX1_allAreSo cX1_allAreSo 9 (some .boolean), Cond.fieldLink RX1 25 "MustardFast$Readings" "count" "I", Cond.fieldLink RX1 21 "MustardFast$Readings" "wereFound" "[Z", Cond.fieldLink RX1 9 "MustardFast$Readings" "ofEaters" "[I", Cond.fieldLink RX1 18 "MustardFast$Readings" "onDays" "[I", Cond.fieldLink RX1 15 "MustardFast$Readings" "eatenSets" "[I", Cond.methodLink RX1 37 yX0_lastsOf, Cond.instanceMethod yX0_lastsOf, Cond.selects RX0 yX0_lastsOf yX0_lastsOf, Cond.code yX0_lastsOf cX0_lastsOf 2 (some .int), Cond.fieldLink RX0 15 "MustardFast$Duchy" "eaterKinds" "[I", Cond.methodLink RX0 68 yX0_lastsBy, Cond.methodLink RX1 43 yX0_isFoundOn, Cond.instanceMethod yX0_isFoundOn, Cond.selects RX0 yX0_isFoundOn yX0_isFoundOn, Cond.code yX0_isFoundOn cX0_isFoundOn 5 (some .boolean), Cond.methodLink RX0 78 yX0_yellowDays, Cond.instanceMethod yX0_yellowDays, Cond.selects RX0 yX0_yellowDays yX0_yellowDays, Cond.code yX0_yellowDays cX0_yellowDays 5 (some .int)]
def wsX4_kinds_r3 : List Cond := [Cond.methodLink RX0 60 yX0_allDays, Cond.instanceMethod yX0_allDays, Cond.selects RX0 yX0_allDays yX0_allDays, Cond.code yX0_allDays cX0_allDays 1 (some .int), Cond.fieldLink RX0 37 "MustardFast$Duchy" "days" "I", Cond.methodLink RX0 92 yX0_lookOf, Cond.instanceMethod yX0_lookOf, Cond.selects RX0 yX0_lookOf yX0_lookOf, Cond.code yX0_lookOf cX0_lookOf 2 (some .int), Cond.fieldLink RX0 9 "MustardFast$Duchy" "looks" "[I"]
def wsX4_kinds : List Cond := .code yX4_kinds cX4_kinds 5 (some .int) :: ((wsX4_kinds_r1 ++ (wsX4_kinds_r2 ++ wsX4_kinds_r3)) ++ wsX40 ++ wsX00 ++ wsX10)
def wsX4_sours_r1 : List Cond := [Cond.fieldLink RX4 12 "MustardFast" "duchy" "LMustardFast$Duchy;", Cond.fieldLink RX4 21 "MustardFast" "readings" "LMustardFast$Readings;", Cond.methodLink RX4 101 yX0_isTold, Cond.instanceMethod yX0_isTold, Cond.selects RX0 yX0_isTold yX0_isTold, Cond.initialized RX0, Cond.code yX0_isTold cX0_isTold 1 (some .boolean), Cond.fieldLink RX0 40 "MustardFast$Duchy" "eaters" "I", Cond.methodLink RX4 185 yX1_allAreSo, Cond.instanceMethod yX1_allAreSo, Cond.selects RX1 yX1_allAreSo yX1_allAreSo, Cond.initialized RX1, Cond.code yX1_allAreSo cX1_allAreSo 9 (some .boolean), Cond.fieldLink RX1 25 "MustardFast$Readings" "count" "I", Cond.fieldLink RX1 21 "MustardFast$Readings" "wereFound" "[Z", Cond.fieldLink RX1 9 "MustardFast$Readings" "ofEaters" "[I", Cond.fieldLink RX1 18 "MustardFast$Readings" "onDays" "[I", Cond.fieldLink RX1 15 "MustardFast$Readings" "eatenSets" "[I", Cond.static yX4_numberIn, Cond.initialized RX4, Cond.code yX4_numberIn cX4_numberIn 2 (some .int), Cond.methodLink RX1 37 yX0_lastsOf, Cond.instanceMethod yX0_lastsOf, Cond.selects RX0 yX0_lastsOf yX0_lastsOf]
def wsX4_sours_r2 : List Cond := [Cond.code yX0_lastsOf cX0_lastsOf 2 (some .int), Cond.fieldLink RX0 15 "MustardFast$Duchy" "eaterKinds" "[I", Cond.fieldLink RX0 18 "MustardFast$Duchy" "eaterStays" "[I", Cond.methodLink RX0 68 yX0_lastsBy, Cond.static yX0_lastsBy, Cond.code yX0_lastsBy cX0_lastsBy 3 (some .int), Cond.methodLink RX1 43 yX0_isFoundOn, Cond.instanceMethod yX0_isFoundOn, Cond.selects RX0 yX0_isFoundOn yX0_isFoundOn, Cond.code yX0_isFoundOn cX0_isFoundOn 5 (some .boolean), Cond.methodLink RX0 78 yX0_yellowDays, Cond.instanceMethod yX0_yellowDays, Cond.selects RX0 yX0_yellowDays yX0_yellowDays, Cond.code yX0_yellowDays cX0_yellowDays 5 (some .int), Cond.methodLink RX0 60 yX0_allDays, Cond.instanceMethod yX0_allDays, Cond.selects RX0 yX0_allDays yX0_allDays, Cond.code yX0_allDays cX0_allDays 1 (some .int), Cond.fieldLink RX0 37 "MustardFast$Duchy" "days" "I", Cond.methodLink RX0 92 yX0_lookOf, Cond.instanceMethod yX0_lookOf, Cond.selects RX0 yX0_lookOf yX0_lookOf, Cond.code yX0_lookOf cX0_lookOf 2 (some .int), Cond.fieldLink RX0 9 "MustardFast$Duchy" "looks" "[I"]
def wsX4_sours : List Cond := .code yX4_sours cX4_sours 3 (some .int) :: ((wsX4_sours_r1 ++ wsX4_sours_r2) ++ wsX40 ++ wsX00 ++ wsX10)
def wsX4_odds_r1 : List Cond := [Cond.fieldLink RX4 12 "MustardFast" "duchy" "LMustardFast$Duchy;", Cond.constantLong RX4 189 (-9223372036854775808), Cond.methodLink RX4 69 yX0_hasEater, Cond.instanceMethod yX0_hasEater, Cond.selects RX0 yX0_hasEater yX0_hasEater, Cond.initialized RX0, Cond.code yX0_hasEater cX0_hasEater 2 (some .boolean), Cond.fieldLink RX0 40 "MustardFast$Duchy" "eaters" "I", Cond.methodLink RX4 118 yX0_hasDays, Cond.instanceMethod yX0_hasDays, Cond.selects RX0 yX0_hasDays yX0_hasDays, Cond.code yX0_hasDays cX0_hasDays 2 (some .boolean), Cond.methodLink RX0 60 yX0_allDays, Cond.instanceMethod yX0_allDays, Cond.selects RX0 yX0_allDays yX0_allDays, Cond.code yX0_allDays cX0_allDays 1 (some .int), Cond.fieldLink RX0 37 "MustardFast$Duchy" "days" "I", Cond.methodLink RX4 93 yX4_isFrom0To, Cond.static yX4_isFrom0To, Cond.initialized RX4, Cond.code yX4_isFrom0To cX4_isFrom0To 2 (some .boolean), Cond.methodLink RX4 84 yX0_lastsOf, Cond.instanceMethod yX0_lastsOf, Cond.selects RX0 yX0_lastsOf yX0_lastsOf]
def wsX4_odds_r2 : List Cond := [Cond.code yX0_lastsOf cX0_lastsOf 2 (some .int), Cond.fieldLink RX0 15 "MustardFast$Duchy" "eaterKinds" "[I", Cond.fieldLink RX0 18 "MustardFast$Duchy" "eaterStays" "[I", Cond.static yX4_numberIn, Cond.code yX4_numberIn cX4_numberIn 2 (some .int), Cond.methodLink RX0 68 yX0_lastsBy, Cond.static yX0_lastsBy, Cond.code yX0_lastsBy cX0_lastsBy 3 (some .int), Cond.methodLink RX4 121 yX0_yellowDays, Cond.instanceMethod yX0_yellowDays, Cond.selects RX0 yX0_yellowDays yX0_yellowDays, Cond.code yX0_yellowDays cX0_yellowDays 5 (some .int), Cond.methodLink RX4 191 yJ6_bitCount_0f7a4, Cond.static yJ6_bitCount_0f7a4, Cond.initialized RJ6, Cond.code yJ6_bitCount_0f7a4 cJ6_bitCount_0f7a4 1 (some .int), Cond.constant RJ6 265 (1431655765), Cond.constant RJ6 266 (858993459), Cond.constant RJ6 267 (252645135)]
def wsX4_odds : List Cond := .code yX4_odds cX4_odds 4 (some .long) :: ((wsX4_odds_r1 ++ wsX4_odds_r2) ++ wsX40 ++ wsX00)
def wsX4_sheet_r1 : List Cond := [Cond.fieldLink RX4 32 "MustardFast" "latestFault" "I", Cond.methodLink RX4 36 yX4_sheetAt, Cond.instanceMethod yX4_sheetAt, Cond.selects RX4 yX4_sheetAt yX4_sheetAt, Cond.initialized RX4, Cond.code yX4_sheetAt cX4_sheetAt 2 (some (.object "MustardFast$Sheet")), Cond.fieldLink RX4 27 "MustardFast" "sheets" "[LMustardFast$Sheet;", Cond.methodLink RX4 40 yX4_isLane, Cond.static yX4_isLane, Cond.code yX4_isLane cX4_isLane 1 (some .boolean), Cond.methodLink RX4 48 yX4_faulted, Cond.instanceMethod yX4_faulted, Cond.selects RX4 yX4_faulted yX4_faulted, Cond.code yX4_faulted cX4_faulted 2 (some .int), Cond.methodLink RX4 196 yX2_makeRow, Cond.instanceMethod yX2_makeRow, Cond.selects RX2 yX2_makeRow yX2_makeRow, Cond.initialized RX2, Cond.code yX2_makeRow cX2_makeRow 3 none, Cond.fieldLink RX2 9 "MustardFast$Sheet" "cells" "[I", Cond.fieldLink RX2 19 "MustardFast$Sheet" "lane" "I", Cond.fieldLink RX2 15 "MustardFast$Sheet" "length" "I", Cond.methodLink RX2 22 yJ7_fill_53178, Cond.static yJ7_fill_53178]
def wsX4_sheet_r2 : List Cond := [Cond.initialized RJ7, Cond.code yJ7_fill_53178 cJ7_fill_53178 4 none]
def wsX4_sheet : List Cond := .code yX4_sheet cX4_sheet 5 (some .int) :: ((wsX4_sheet_r1 ++ wsX4_sheet_r2) ++ wsX40 ++ wsX20)
def wsX4_lose : List Cond := .code yX4_lose cX4_lose 3 (some .int) :: ([.methodLink RX4 36 yX4_sheetAt, .instanceMethod yX4_sheetAt, .selects RX4 yX4_sheetAt yX4_sheetAt, .initialized RX4, .code yX4_sheetAt cX4_sheetAt 2 (some (.object "MustardFast$Sheet")), .fieldLink RX4 27 "MustardFast" "sheets" "[LMustardFast$Sheet;", .methodLink RX4 199 yX2_hasRow, .instanceMethod yX2_hasRow, .selects RX2 yX2_hasRow yX2_hasRow, .initialized RX2, .code yX2_hasRow cX2_hasRow 1 (some .boolean), .fieldLink RX2 15 "MustardFast$Sheet" "length" "I", .methodLink RX4 202 yX2_dropRow, .instanceMethod yX2_dropRow, .selects RX2 yX2_dropRow yX2_dropRow, .code yX2_dropRow cX2_dropRow 1 none] ++ wsX40 ++ wsX20)
def wsX4_put_r1 : List Cond := [Cond.fieldLink RX4 32 "MustardFast" "latestFault" "I", Cond.methodLink RX4 36 yX4_sheetAt, Cond.instanceMethod yX4_sheetAt, Cond.selects RX4 yX4_sheetAt yX4_sheetAt, Cond.initialized RX4, Cond.code yX4_sheetAt cX4_sheetAt 2 (some (.object "MustardFast$Sheet")), Cond.fieldLink RX4 27 "MustardFast" "sheets" "[LMustardFast$Sheet;", Cond.methodLink RX4 205 yX2_rowLane, Cond.instanceMethod yX2_rowLane, Cond.selects RX2 yX2_rowLane yX2_rowLane, Cond.initialized RX2, Cond.code yX2_rowLane cX2_rowLane 1 (some .int), Cond.fieldLink RX2 19 "MustardFast$Sheet" "lane" "I", Cond.methodLink RX4 44 yX2_faultOfCells, Cond.instanceMethod yX2_faultOfCells, Cond.selects RX2 yX2_faultOfCells yX2_faultOfCells, Cond.code yX2_faultOfCells cX2_faultOfCells 4 (some .int), Cond.methodLink RX2 28 yX2_hasRow, Cond.instanceMethod yX2_hasRow, Cond.selects RX2 yX2_hasRow yX2_hasRow, Cond.code yX2_hasRow cX2_hasRow 1 (some .boolean), Cond.fieldLink RX2 15 "MustardFast$Sheet" "length" "I", Cond.methodLink RX2 32 yX2_hasCells, Cond.instanceMethod yX2_hasCells]
def wsX4_put_r2 : List Cond := [Cond.selects RX2 yX2_hasCells yX2_hasCells, Cond.code yX2_hasCells cX2_hasCells 3 (some .boolean), Cond.methodLink RX4 48 yX4_faulted, Cond.instanceMethod yX4_faulted, Cond.selects RX4 yX4_faulted yX4_faulted, Cond.code yX4_faulted cX4_faulted 2 (some .int), Cond.methodLink RX4 208 yX2_write, Cond.instanceMethod yX2_write, Cond.selects RX2 yX2_write yX2_write, Cond.code yX2_write cX2_write 3 none, Cond.fieldLink RX2 9 "MustardFast$Sheet" "cells" "[I", Cond.methodLink RX2 40 yX2_cutToLane, Cond.instanceMethod yX2_cutToLane, Cond.selects RX2 yX2_cutToLane yX2_cutToLane, Cond.code yX2_cutToLane cX2_cutToLane 2 (some .int), Cond.static yX4_changeIn, Cond.code yX4_changeIn cX4_changeIn 3 none]
def wsX4_put : List Cond := .code yX4_put cX4_put 6 (some .int) :: ((wsX4_put_r1 ++ wsX4_put_r2) ++ wsX40 ++ wsX20)
def wsX4_cell_r1 : List Cond := [Cond.fieldLink RX4 32 "MustardFast" "latestFault" "I", Cond.constantLong RX4 189 (-9223372036854775808), Cond.methodLink RX4 36 yX4_sheetAt, Cond.instanceMethod yX4_sheetAt, Cond.selects RX4 yX4_sheetAt yX4_sheetAt, Cond.initialized RX4, Cond.code yX4_sheetAt cX4_sheetAt 2 (some (.object "MustardFast$Sheet")), Cond.fieldLink RX4 27 "MustardFast" "sheets" "[LMustardFast$Sheet;", Cond.methodLink RX4 40 yX4_isLane, Cond.static yX4_isLane, Cond.code yX4_isLane cX4_isLane 1 (some .boolean), Cond.methodLink RX4 44 yX2_faultOfCells, Cond.instanceMethod yX2_faultOfCells, Cond.selects RX2 yX2_faultOfCells yX2_faultOfCells, Cond.initialized RX2, Cond.code yX2_faultOfCells cX2_faultOfCells 4 (some .int), Cond.fieldLink RX2 19 "MustardFast$Sheet" "lane" "I", Cond.methodLink RX2 28 yX2_hasRow, Cond.instanceMethod yX2_hasRow, Cond.selects RX2 yX2_hasRow yX2_hasRow, Cond.code yX2_hasRow cX2_hasRow 1 (some .boolean), Cond.fieldLink RX2 15 "MustardFast$Sheet" "length" "I", Cond.methodLink RX2 32 yX2_hasCells, Cond.instanceMethod yX2_hasCells]
def wsX4_cell_r2 : List Cond := [Cond.selects RX2 yX2_hasCells yX2_hasCells, Cond.code yX2_hasCells cX2_hasCells 3 (some .boolean), Cond.methodLink RX4 211 yX2_numberAt, Cond.instanceMethod yX2_numberAt, Cond.selects RX2 yX2_numberAt yX2_numberAt, Cond.code yX2_numberAt cX2_numberAt 2 (some .int), Cond.fieldLink RX2 9 "MustardFast$Sheet" "cells" "[I", Cond.static yX4_numberIn, Cond.code yX4_numberIn cX4_numberIn 2 (some .int)]
def wsX4_cell : List Cond := .code yX4_cell cX4_cell 6 (some .long) :: ((wsX4_cell_r1 ++ wsX4_cell_r2) ++ wsX40 ++ wsX20)
def wsX4_copy_r1 : List Cond := [Cond.fieldLink RX4 32 "MustardFast" "latestFault" "I", Cond.methodLink RX4 36 yX4_sheetAt, Cond.instanceMethod yX4_sheetAt, Cond.selects RX4 yX4_sheetAt yX4_sheetAt, Cond.initialized RX4, Cond.code yX4_sheetAt cX4_sheetAt 2 (some (.object "MustardFast$Sheet")), Cond.fieldLink RX4 27 "MustardFast" "sheets" "[LMustardFast$Sheet;", Cond.methodLink RX4 199 yX2_hasRow, Cond.instanceMethod yX2_hasRow, Cond.selects RX2 yX2_hasRow yX2_hasRow, Cond.initialized RX2, Cond.code yX2_hasRow cX2_hasRow 1 (some .boolean), Cond.fieldLink RX2 15 "MustardFast$Sheet" "length" "I", Cond.methodLink RX4 48 yX4_faulted, Cond.instanceMethod yX4_faulted, Cond.selects RX4 yX4_faulted yX4_faulted, Cond.code yX4_faulted cX4_faulted 2 (some .int), Cond.methodLink RX4 205 yX2_rowLane, Cond.instanceMethod yX2_rowLane, Cond.selects RX2 yX2_rowLane yX2_rowLane, Cond.code yX2_rowLane cX2_rowLane 1 (some .int), Cond.fieldLink RX2 19 "MustardFast$Sheet" "lane" "I", Cond.methodLink RX4 214 yX2_hasCells, Cond.instanceMethod yX2_hasCells]
def wsX4_copy_r2 : List Cond := [Cond.selects RX2 yX2_hasCells yX2_hasCells, Cond.code yX2_hasCells cX2_hasCells 3 (some .boolean), Cond.methodLink RX4 217 yX2_copyTo, Cond.instanceMethod yX2_copyTo, Cond.selects RX2 yX2_copyTo yX2_copyTo, Cond.code yX2_copyTo cX2_copyTo 5 none, Cond.fieldLink RX2 9 "MustardFast$Sheet" "cells" "[I", Cond.methodLink RX2 48 arraycopyName, Cond.native arraycopyName, Cond.static arraycopyName, Cond.initialized "java/lang/System", Cond.methodLink RX2 32 yX2_hasCells]
def wsX4_copy : List Cond := .code yX4_copy cX4_copy 8 (some .int) :: ((wsX4_copy_r1 ++ wsX4_copy_r2) ++ wsX40 ++ wsX20)
def wsX4_leaveInTrace : List Cond := .code yX4_leaveInTrace cX4_leaveInTrace 2 none :: ([.fieldLink RX4 239 "MustardFast" "traced" "I"] ++ wsX40)
def wsX4_eaterTelling : List Cond := .code yX4_eaterTelling cX4_eaterTelling 2 (some .int) :: ([.fieldLink RX4 12 "MustardFast" "duchy" "LMustardFast$Duchy;", .methodLink RX4 230 yX4_leaveInTrace, .instanceMethod yX4_leaveInTrace, .selects RX4 yX4_leaveInTrace yX4_leaveInTrace, .initialized RX4, .code yX4_leaveInTrace cX4_leaveInTrace 2 none, .fieldLink RX4 239 "MustardFast" "traced" "I", .methodLink RX4 78 yX0_spoonsOf, .instanceMethod yX0_spoonsOf, .selects RX0 yX0_spoonsOf yX0_spoonsOf, .initialized RX0, .code yX0_spoonsOf cX0_spoonsOf 2 (some .int), .fieldLink RX0 21 "MustardFast$Duchy" "eaterSpoons" "[I", .static yX4_numberIn, .code yX4_numberIn cX4_numberIn 2 (some .int)] ++ wsX40 ++ wsX00)
def wsX4_slyTelling : List Cond := .code yX4_slyTelling cX4_slyTelling 2 (some .int) :: ([.methodLink RX4 230 yX4_leaveInTrace, .instanceMethod yX4_leaveInTrace, .selects RX4 yX4_leaveInTrace yX4_leaveInTrace, .initialized RX4, .code yX4_leaveInTrace cX4_leaveInTrace 2 none, .fieldLink RX4 239 "MustardFast" "traced" "I", .methodLink RX4 227 yX4_eaterTelling, .instanceMethod yX4_eaterTelling, .selects RX4 yX4_eaterTelling yX4_eaterTelling, .code yX4_eaterTelling cX4_eaterTelling 2 (some .int), .fieldLink RX4 12 "MustardFast" "duchy" "LMustardFast$Duchy;", .methodLink RX4 78 yX0_spoonsOf, .instanceMethod yX0_spoonsOf, .selects RX0 yX0_spoonsOf yX0_spoonsOf, .initialized RX0, .code yX0_spoonsOf cX0_spoonsOf 2 (some .int), .fieldLink RX0 21 "MustardFast$Duchy" "eaterSpoons" "[I", .static yX4_numberIn, .code yX4_numberIn cX4_numberIn 2 (some .int)] ++ wsX40 ++ wsX00)
def wsX4_strangerTelling : List Cond := .code yX4_strangerTelling cX4_strangerTelling 3 (some .int) :: ([.methodLink RX4 230 yX4_leaveInTrace, .instanceMethod yX4_leaveInTrace, .selects RX4 yX4_leaveInTrace yX4_leaveInTrace, .initialized RX4, .code yX4_leaveInTrace cX4_leaveInTrace 2 none, .fieldLink RX4 239 "MustardFast" "traced" "I", .methodLink RX4 224 yX4_slyTelling, .instanceMethod yX4_slyTelling, .selects RX4 yX4_slyTelling yX4_slyTelling, .code yX4_slyTelling cX4_slyTelling 2 (some .int), .methodLink RX4 227 yX4_eaterTelling, .instanceMethod yX4_eaterTelling, .selects RX4 yX4_eaterTelling yX4_eaterTelling, .code yX4_eaterTelling cX4_eaterTelling 2 (some .int), .fieldLink RX4 12 "MustardFast" "duchy" "LMustardFast$Duchy;", .methodLink RX4 78 yX0_spoonsOf, .instanceMethod yX0_spoonsOf, .selects RX0 yX0_spoonsOf yX0_spoonsOf, .initialized RX0, .code yX0_spoonsOf cX0_spoonsOf 2 (some .int), .fieldLink RX0 21 "MustardFast$Duchy" "eaterSpoons" "[I", .static yX4_numberIn, .code yX4_numberIn cX4_numberIn 2 (some .int)] ++ wsX40 ++ wsX00)
def wsX4_tell_r1 : List Cond := [Cond.fieldLink RX4 12 "MustardFast" "duchy" "LMustardFast$Duchy;", Cond.methodLink RX4 69 yX0_hasEater, Cond.instanceMethod yX0_hasEater, Cond.selects RX0 yX0_hasEater yX0_hasEater, Cond.initialized RX0, Cond.code yX0_hasEater cX0_hasEater 2 (some .boolean), Cond.fieldLink RX0 40 "MustardFast$Duchy" "eaters" "I", Cond.methodLink RX4 72 yX0_kindOf, Cond.instanceMethod yX0_kindOf, Cond.selects RX0 yX0_kindOf yX0_kindOf, Cond.code yX0_kindOf cX0_kindOf 2 (some .int), Cond.fieldLink RX0 15 "MustardFast$Duchy" "eaterKinds" "[I", Cond.static yX4_numberIn, Cond.initialized RX4, Cond.code yX4_numberIn cX4_numberIn 2 (some .int), Cond.methodLink RX4 221 yX4_strangerTelling, Cond.instanceMethod yX4_strangerTelling, Cond.selects RX4 yX4_strangerTelling yX4_strangerTelling, Cond.code yX4_strangerTelling cX4_strangerTelling 3 (some .int), Cond.methodLink RX4 230 yX4_leaveInTrace, Cond.instanceMethod yX4_leaveInTrace, Cond.selects RX4 yX4_leaveInTrace yX4_leaveInTrace, Cond.code yX4_leaveInTrace cX4_leaveInTrace 2 none, Cond.fieldLink RX4 239 "MustardFast" "traced" "I"]
def wsX4_tell_r2 : List Cond := [Cond.methodLink RX4 224 yX4_slyTelling, Cond.instanceMethod yX4_slyTelling, Cond.selects RX4 yX4_slyTelling yX4_slyTelling, Cond.code yX4_slyTelling cX4_slyTelling 2 (some .int), Cond.methodLink RX4 227 yX4_eaterTelling, Cond.instanceMethod yX4_eaterTelling, Cond.selects RX4 yX4_eaterTelling yX4_eaterTelling, Cond.code yX4_eaterTelling cX4_eaterTelling 2 (some .int), Cond.methodLink RX4 78 yX0_spoonsOf, Cond.instanceMethod yX0_spoonsOf, Cond.selects RX0 yX0_spoonsOf yX0_spoonsOf, Cond.code yX0_spoonsOf cX0_spoonsOf 2 (some .int), Cond.fieldLink RX0 21 "MustardFast$Duchy" "eaterSpoons" "[I"]
def wsX4_tell : List Cond := .code yX4_tell cX4_tell 2 (some .int) :: ((wsX4_tell_r1 ++ wsX4_tell_r2) ++ wsX40 ++ wsX00)
def wsX4_strangerSniffing : List Cond := .code yX4_strangerSniffing cX4_strangerSniffing 1 (some .int) :: ([.methodLink RX4 230 yX4_leaveInTrace, .instanceMethod yX4_leaveInTrace, .selects RX4 yX4_leaveInTrace yX4_leaveInTrace, .initialized RX4, .code yX4_leaveInTrace cX4_leaveInTrace 2 none, .fieldLink RX4 239 "MustardFast" "traced" "I"] ++ wsX40)
def wsX4_lentSniffing : List Cond := .code yX4_lentSniffing cX4_lentSniffing 2 (some .int) :: ([.methodLink RX4 230 yX4_leaveInTrace, .instanceMethod yX4_leaveInTrace, .selects RX4 yX4_leaveInTrace yX4_leaveInTrace, .initialized RX4, .code yX4_leaveInTrace cX4_leaveInTrace 2 none, .fieldLink RX4 239 "MustardFast" "traced" "I"] ++ wsX40)
def wsX4_sniff_r1 : List Cond := [Cond.fieldLink RX4 12 "MustardFast" "duchy" "LMustardFast$Duchy;", Cond.methodLink RX4 69 yX0_hasEater, Cond.instanceMethod yX0_hasEater, Cond.selects RX0 yX0_hasEater yX0_hasEater, Cond.initialized RX0, Cond.code yX0_hasEater cX0_hasEater 2 (some .boolean), Cond.fieldLink RX0 40 "MustardFast$Duchy" "eaters" "I", Cond.methodLink RX4 72 yX0_kindOf, Cond.instanceMethod yX0_kindOf, Cond.selects RX0 yX0_kindOf yX0_kindOf, Cond.code yX0_kindOf cX0_kindOf 2 (some .int), Cond.fieldLink RX0 15 "MustardFast$Duchy" "eaterKinds" "[I", Cond.static yX4_numberIn, Cond.initialized RX4, Cond.code yX4_numberIn cX4_numberIn 2 (some .int), Cond.methodLink RX4 233 yX4_strangerSniffing, Cond.instanceMethod yX4_strangerSniffing, Cond.selects RX4 yX4_strangerSniffing yX4_strangerSniffing, Cond.code yX4_strangerSniffing cX4_strangerSniffing 1 (some .int), Cond.methodLink RX4 230 yX4_leaveInTrace, Cond.instanceMethod yX4_leaveInTrace, Cond.selects RX4 yX4_leaveInTrace yX4_leaveInTrace, Cond.code yX4_leaveInTrace cX4_leaveInTrace 2 none, Cond.fieldLink RX4 239 "MustardFast" "traced" "I"]
def wsX4_sniff_r2 : List Cond := [Cond.methodLink RX4 236 yX4_lentSniffing, Cond.instanceMethod yX4_lentSniffing, Cond.selects RX4 yX4_lentSniffing yX4_lentSniffing, Cond.code yX4_lentSniffing cX4_lentSniffing 2 (some .int)]
def wsX4_sniff : List Cond := .code yX4_sniff cX4_sniff 2 (some .int) :: ((wsX4_sniff_r1 ++ wsX4_sniff_r2) ++ wsX40 ++ wsX00)
def wsX4_as : List Cond := .code yX4_as cX4_as 3 (some .int) :: ([.fieldLink RX4 32 "MustardFast" "latestFault" "I", .fieldLink RX4 12 "MustardFast" "duchy" "LMustardFast$Duchy;", .methodLink RX4 69 yX0_hasEater, .instanceMethod yX0_hasEater, .selects RX0 yX0_hasEater yX0_hasEater, .initialized RX0, .code yX0_hasEater cX0_hasEater 2 (some .boolean), .fieldLink RX0 40 "MustardFast$Duchy" "eaters" "I", .methodLink RX4 93 yX4_isFrom0To, .static yX4_isFrom0To, .initialized RX4, .code yX4_isFrom0To cX4_isFrom0To 2 (some .boolean), .methodLink RX4 72 yX0_kindOf, .instanceMethod yX0_kindOf, .selects RX0 yX0_kindOf yX0_kindOf, .code yX0_kindOf cX0_kindOf 2 (some .int), .fieldLink RX0 15 "MustardFast$Duchy" "eaterKinds" "[I", .static yX4_numberIn, .code yX4_numberIn cX4_numberIn 2 (some .int), .methodLink RX4 48 yX4_faulted, .instanceMethod yX4_faulted, .selects RX4 yX4_faulted yX4_faulted, .code yX4_faulted cX4_faulted 2 (some .int)] ++ wsX40 ++ wsX00)
def wsX4_trace : List Cond := .code yX4_trace cX4_trace 1 (some .int) :: ([.fieldLink RX4 239 "MustardFast" "traced" "I"] ++ wsX40)
def wsX4_fault : List Cond := .code yX4_fault cX4_fault 1 (some .int) :: ([.fieldLink RX4 32 "MustardFast" "latestFault" "I"] ++ wsX40)
def wsX4_many : List Cond := .code yX4_many cX4_many 2 (some .int) :: ([.fieldLink RX4 12 "MustardFast" "duchy" "LMustardFast$Duchy;", .fieldLink RX4 21 "MustardFast" "readings" "LMustardFast$Readings;", .methodLink RX4 65 yX0_eaterCount, .instanceMethod yX0_eaterCount, .selects RX0 yX0_eaterCount yX0_eaterCount, .initialized RX0, .code yX0_eaterCount cX0_eaterCount 1 (some .int), .fieldLink RX0 40 "MustardFast$Duchy" "eaters" "I", .methodLink RX4 242 yX0_dayCount, .instanceMethod yX0_dayCount, .selects RX0 yX0_dayCount yX0_dayCount, .code yX0_dayCount cX0_dayCount 1 (some .int), .fieldLink RX0 37 "MustardFast$Duchy" "days" "I", .methodLink RX4 105 yX0_sourLook, .instanceMethod yX0_sourLook, .selects RX0 yX0_sourLook yX0_sourLook, .code yX0_sourLook cX0_sourLook 1 (some .int), .fieldLink RX0 33 "MustardFast$Duchy" "sourFrom" "I", .methodLink RX4 176 yX1_keptCount, .instanceMethod yX1_keptCount, .selects RX1 yX1_keptCount yX1_keptCount, .initialized RX1, .code yX1_keptCount cX1_keptCount 1 (some .int), .fieldLink RX1 25 "MustardFast$Readings" "count" "I"] ++ wsX40 ++ wsX00 ++ wsX10)
def wsX5_init : List Cond := .code yX5_init cX5_init 2 none :: ([.methodLink RX5 1 objectInit, .instanceMethod objectInit, .code objectInit ⟨#[0xb1]⟩ 1 none, .arrayClass .int, .fieldLink RX5 7 "MustardFastModel" "lookOf" "[I", .fieldLink RX5 13 "MustardFastModel" "kindOf" "[I", .fieldLink RX5 16 "MustardFastModel" "stayOf" "[I", .fieldLink RX5 19 "MustardFastModel" "spoonsOf" "[I", .fieldLink RX5 22 "MustardFastModel" "needOf" "[I", .fieldLink RX5 25 "MustardFastModel" "smiled" "I", .fieldLink RX5 29 "MustardFastModel" "readLook" "[I", .fieldLink RX5 32 "MustardFastModel" "readKind" "[I", .fieldLink RX5 35 "MustardFastModel" "readStay" "[I", .fieldLink RX5 38 "MustardFastModel" "readSpoons" "[I", .fieldLink RX5 41 "MustardFastModel" "readNeed" "[I", .fieldLink RX5 44 "MustardFastModel" "readingOf" "[I", .fieldLink RX5 47 "MustardFastModel" "readingBy" "[I", .fieldLink RX5 50 "MustardFastModel" "readingOn" "[I", .arrayClass .boolean, .fieldLink RX5 53 "MustardFastModel" "readingWas" "[Z", .fieldLink RX5 57 "MustardFastModel" "sheetSize" "[I", .fieldLink RX5 60 "MustardFastModel" "sheetLane" "[I", .fieldLink RX5 63 "MustardFastModel" "sheet" "[I", .fieldLink RX5 66 "MustardFastModel" "hands" "[I"] ++ wsX50)
def wsX5_in : List Cond := .code yX5_in cX5_in 6 (some .boolean) :: ([])
def wsX5_lost : List Cond := .code yX5_lost cX5_lost 0 (some .long) :: ([.constantLong RX5 69 (-9223372036854775808)])
def wsX5_isIn : List Cond := .code yX5_isIn cX5_isIn 2 (some .boolean) :: ([])
def wsX5_bits : List Cond := .code yX5_bits cX5_bits 3 (some .int) :: ([])
def wsX5_share : List Cond := .code yX5_share cX5_share 11 (some .long) :: ([])
def wsX5_refused : List Cond := .code yX5_refused cX5_refused 2 (some .int) :: ([.fieldLink RX5 71 "MustardFastModel" "fault" "I"] ++ wsX50)
def wsX5_failed : List Cond := .code yX5_failed cX5_failed 2 (some .int) :: ([.fieldLink RX5 71 "MustardFastModel" "fault" "I"] ++ wsX50)
def wsX5_failedLong : List Cond := .code yX5_failedLong cX5_failedLong 2 (some .long) :: ([.fieldLink RX5 71 "MustardFastModel" "fault" "I", .methodLink RX5 74 yX5_lost, .static yX5_lost, .initialized RX5, .code yX5_lost cX5_lost 0 (some .long), .constantLong RX5 69 (-9223372036854775808)] ++ wsX50)
def wsX5_noDay : List Cond := .code yX5_noDay cX5_noDay 2 (some .boolean) :: ([.fieldLink RX5 78 "MustardFastModel" "days" "I", .methodLink RX5 81 yX5_in, .static yX5_in, .initialized RX5, .code yX5_in cX5_in 6 (some .boolean)] ++ wsX50)
def wsX5_noEater : List Cond := .code yX5_noEater cX5_noEater 2 (some .boolean) :: ([.fieldLink RX5 85 "MustardFastModel" "eaters" "I", .methodLink RX5 81 yX5_in, .static yX5_in, .initialized RX5, .code yX5_in cX5_in 6 (some .boolean)] ++ wsX50)
def wsX5_noSet : List Cond := .code yX5_noSet cX5_noSet 2 (some .boolean) :: ([.fieldLink RX5 78 "MustardFastModel" "days" "I", .methodLink RX5 81 yX5_in, .static yX5_in, .initialized RX5, .code yX5_in cX5_in 6 (some .boolean)] ++ wsX50)
def wsX5_codeAt : List Cond := .code yX5_codeAt cX5_codeAt 3 (some .int) :: ([.fieldLink RX5 88 "MustardFastModel" "readAt" "I", .fieldLink RX5 63 "MustardFastModel" "sheet" "[I"] ++ wsX50)
def wsX5_figure : List Cond := .code yX5_figure cX5_figure 7 (some .int) :: ([.fieldLink RX5 88 "MustardFastModel" "readAt" "I", .methodLink RX5 91 yX5_codeAt, .instanceMethod yX5_codeAt, .selects RX5 yX5_codeAt yX5_codeAt, .initialized RX5, .code yX5_codeAt cX5_codeAt 3 (some .int), .fieldLink RX5 63 "MustardFastModel" "sheet" "[I", .methodLink RX5 81 yX5_in, .static yX5_in, .code yX5_in cX5_in 6 (some .boolean)] ++ wsX50)
def wsX5_readsDays : List Cond := .code yX5_readsDays cX5_readsDays 5 (some .boolean) :: ([.fieldLink RX5 95 "MustardFastModel" "readDays" "I", .fieldLink RX5 29 "MustardFastModel" "readLook" "[I", .methodLink RX5 98 yX5_figure, .instanceMethod yX5_figure, .selects RX5 yX5_figure yX5_figure, .initialized RX5, .code yX5_figure cX5_figure 7 (some .int), .fieldLink RX5 88 "MustardFastModel" "readAt" "I", .methodLink RX5 91 yX5_codeAt, .instanceMethod yX5_codeAt, .selects RX5 yX5_codeAt yX5_codeAt, .code yX5_codeAt cX5_codeAt 3 (some .int), .fieldLink RX5 63 "MustardFastModel" "sheet" "[I", .methodLink RX5 81 yX5_in, .static yX5_in, .code yX5_in cX5_in 6 (some .boolean)] ++ wsX50)
def wsX5_readsEater : List Cond := .code yX5_readsEater cX5_readsEater 7 (some .boolean) :: ([.fieldLink RX5 102 "MustardFastModel" "readEaters" "I", .fieldLink RX5 88 "MustardFastModel" "readAt" "I", .fieldLink RX5 32 "MustardFastModel" "readKind" "[I", .fieldLink RX5 35 "MustardFastModel" "readStay" "[I", .fieldLink RX5 38 "MustardFastModel" "readSpoons" "[I", .fieldLink RX5 41 "MustardFastModel" "readNeed" "[I", .methodLink RX5 91 yX5_codeAt, .instanceMethod yX5_codeAt, .selects RX5 yX5_codeAt yX5_codeAt, .initialized RX5, .code yX5_codeAt cX5_codeAt 3 (some .int), .fieldLink RX5 63 "MustardFastModel" "sheet" "[I", .methodLink RX5 98 yX5_figure, .instanceMethod yX5_figure, .selects RX5 yX5_figure yX5_figure, .code yX5_figure cX5_figure 7 (some .int), .methodLink RX5 81 yX5_in, .static yX5_in, .code yX5_in cX5_in 6 (some .boolean)] ++ wsX50)
def wsX5_readsDuchy_r1 : List Cond := [Cond.fieldLink RX5 88 "MustardFastModel" "readAt" "I", Cond.fieldLink RX5 95 "MustardFastModel" "readDays" "I", Cond.fieldLink RX5 102 "MustardFastModel" "readEaters" "I", Cond.fieldLink RX5 105 "MustardFastModel" "readSour" "I", Cond.methodLink RX5 91 yX5_codeAt, Cond.instanceMethod yX5_codeAt, Cond.selects RX5 yX5_codeAt yX5_codeAt, Cond.initialized RX5, Cond.code yX5_codeAt cX5_codeAt 3 (some .int), Cond.fieldLink RX5 63 "MustardFastModel" "sheet" "[I", Cond.methodLink RX5 98 yX5_figure, Cond.instanceMethod yX5_figure, Cond.selects RX5 yX5_figure yX5_figure, Cond.code yX5_figure cX5_figure 7 (some .int), Cond.methodLink RX5 81 yX5_in, Cond.static yX5_in, Cond.code yX5_in cX5_in 6 (some .boolean), Cond.methodLink RX5 108 yX5_readsDays, Cond.instanceMethod yX5_readsDays, Cond.selects RX5 yX5_readsDays yX5_readsDays, Cond.code yX5_readsDays cX5_readsDays 5 (some .boolean), Cond.fieldLink RX5 29 "MustardFastModel" "readLook" "[I", Cond.methodLink RX5 112 yX5_readsEater, Cond.instanceMethod yX5_readsEater]
def wsX5_readsDuchy_r2 : List Cond := [Cond.selects RX5 yX5_readsEater yX5_readsEater, Cond.code yX5_readsEater cX5_readsEater 7 (some .boolean), Cond.fieldLink RX5 32 "MustardFastModel" "readKind" "[I", Cond.fieldLink RX5 35 "MustardFastModel" "readStay" "[I", Cond.fieldLink RX5 38 "MustardFastModel" "readSpoons" "[I", Cond.fieldLink RX5 41 "MustardFastModel" "readNeed" "[I"]
def wsX5_readsDuchy : List Cond := .code yX5_readsDuchy cX5_readsDuchy 4 (some .boolean) :: ((wsX5_readsDuchy_r1 ++ wsX5_readsDuchy_r2) ++ wsX50)
def wsX5_isBeyond : List Cond := .code yX5_isBeyond cX5_isBeyond 4 (some .boolean) :: ([])
def wsX5_cellsBarred : List Cond := .code yX5_cellsBarred cX5_cellsBarred 6 (some .int) :: ([.fieldLink RX5 57 "MustardFastModel" "sheetSize" "[I", .fieldLink RX5 60 "MustardFastModel" "sheetLane" "[I", .methodLink RX5 115 yX5_failed, .instanceMethod yX5_failed, .selects RX5 yX5_failed yX5_failed, .initialized RX5, .code yX5_failed cX5_failed 2 (some .int), .fieldLink RX5 71 "MustardFastModel" "fault" "I", .methodLink RX5 119 yX5_isBeyond, .static yX5_isBeyond, .code yX5_isBeyond cX5_isBeyond 4 (some .boolean)] ++ wsX50)
def wsX5_noSheet : List Cond := .code yX5_noSheet cX5_noSheet 1 (some .boolean) :: ([.constantLong RX5 180 (3), .methodLink RX5 81 yX5_in, .static yX5_in, .initialized RX5, .code yX5_in cX5_in 6 (some .boolean)])
def wsX5_duchy_r1 : List Cond := [Cond.constantLong RX5 130 (2), Cond.fieldLink RX5 88 "MustardFastModel" "readAt" "I", Cond.fieldLink RX5 105 "MustardFastModel" "readSour" "I", Cond.fieldLink RX5 139 "MustardFastModel" "sourNow" "I", Cond.fieldLink RX5 95 "MustardFastModel" "readDays" "I", Cond.fieldLink RX5 78 "MustardFastModel" "days" "I", Cond.fieldLink RX5 102 "MustardFastModel" "readEaters" "I", Cond.fieldLink RX5 85 "MustardFastModel" "eaters" "I", Cond.fieldLink RX5 7 "MustardFastModel" "lookOf" "[I", Cond.fieldLink RX5 29 "MustardFastModel" "readLook" "[I", Cond.fieldLink RX5 13 "MustardFastModel" "kindOf" "[I", Cond.fieldLink RX5 32 "MustardFastModel" "readKind" "[I", Cond.fieldLink RX5 16 "MustardFastModel" "stayOf" "[I", Cond.fieldLink RX5 35 "MustardFastModel" "readStay" "[I", Cond.fieldLink RX5 19 "MustardFastModel" "spoonsOf" "[I", Cond.fieldLink RX5 38 "MustardFastModel" "readSpoons" "[I", Cond.fieldLink RX5 22 "MustardFastModel" "needOf" "[I", Cond.fieldLink RX5 41 "MustardFastModel" "readNeed" "[I", Cond.fieldLink RX5 142 "MustardFastModel" "readings" "I", Cond.methodLink RX5 123 yX5_noSheet, Cond.static yX5_noSheet, Cond.initialized RX5, Cond.code yX5_noSheet cX5_noSheet 1 (some .boolean), Cond.constantLong RX5 180 (3)]
def wsX5_duchy_r2 : List Cond := [Cond.methodLink RX5 81 yX5_in, Cond.static yX5_in, Cond.code yX5_in cX5_in 6 (some .boolean), Cond.methodLink RX5 127 yX5_refused, Cond.instanceMethod yX5_refused, Cond.selects RX5 yX5_refused yX5_refused, Cond.code yX5_refused cX5_refused 2 (some .int), Cond.fieldLink RX5 71 "MustardFastModel" "fault" "I", Cond.methodLink RX5 132 yX5_cellsBarred, Cond.instanceMethod yX5_cellsBarred, Cond.selects RX5 yX5_cellsBarred yX5_cellsBarred, Cond.code yX5_cellsBarred cX5_cellsBarred 6 (some .int), Cond.fieldLink RX5 57 "MustardFastModel" "sheetSize" "[I", Cond.fieldLink RX5 60 "MustardFastModel" "sheetLane" "[I", Cond.methodLink RX5 115 yX5_failed, Cond.instanceMethod yX5_failed, Cond.selects RX5 yX5_failed yX5_failed, Cond.code yX5_failed cX5_failed 2 (some .int), Cond.methodLink RX5 119 yX5_isBeyond, Cond.static yX5_isBeyond, Cond.code yX5_isBeyond cX5_isBeyond 4 (some .boolean), Cond.methodLink RX5 136 yX5_readsDuchy, Cond.instanceMethod yX5_readsDuchy, Cond.selects RX5 yX5_readsDuchy yX5_readsDuchy]
def wsX5_duchy_r3 : List Cond := [Cond.code yX5_readsDuchy cX5_readsDuchy 4 (some .boolean), Cond.methodLink RX5 91 yX5_codeAt, Cond.instanceMethod yX5_codeAt, Cond.selects RX5 yX5_codeAt yX5_codeAt, Cond.code yX5_codeAt cX5_codeAt 3 (some .int), Cond.fieldLink RX5 63 "MustardFastModel" "sheet" "[I", Cond.methodLink RX5 98 yX5_figure, Cond.instanceMethod yX5_figure, Cond.selects RX5 yX5_figure yX5_figure, Cond.code yX5_figure cX5_figure 7 (some .int), Cond.methodLink RX5 108 yX5_readsDays, Cond.instanceMethod yX5_readsDays, Cond.selects RX5 yX5_readsDays yX5_readsDays, Cond.code yX5_readsDays cX5_readsDays 5 (some .boolean), Cond.methodLink RX5 112 yX5_readsEater, Cond.instanceMethod yX5_readsEater, Cond.selects RX5 yX5_readsEater yX5_readsEater, Cond.code yX5_readsEater cX5_readsEater 7 (some .boolean)]
def wsX5_duchy : List Cond := .code yX5_duchy cX5_duchy 7 (some .int) :: ((wsX5_duchy_r1 ++ (wsX5_duchy_r2 ++ wsX5_duchy_r3)) ++ wsX50)
def wsX5_lastsOf : List Cond := .code yX5_lastsOf cX5_lastsOf 3 (some .int) :: ([.fieldLink RX5 16 "MustardFastModel" "stayOf" "[I", .fieldLink RX5 13 "MustardFastModel" "kindOf" "[I"] ++ wsX50)
def wsX5_ofEater : List Cond := .code yX5_ofEater cX5_ofEater 3 (some .int) :: ([.fieldLink RX5 13 "MustardFastModel" "kindOf" "[I", .fieldLink RX5 16 "MustardFastModel" "stayOf" "[I", .fieldLink RX5 19 "MustardFastModel" "spoonsOf" "[I", .fieldLink RX5 22 "MustardFastModel" "needOf" "[I", .methodLink RX5 145 yX5_noEater, .instanceMethod yX5_noEater, .selects RX5 yX5_noEater yX5_noEater, .initialized RX5, .code yX5_noEater cX5_noEater 2 (some .boolean), .fieldLink RX5 85 "MustardFastModel" "eaters" "I", .methodLink RX5 81 yX5_in, .static yX5_in, .code yX5_in cX5_in 6 (some .boolean), .methodLink RX5 148 yX5_lastsOf, .instanceMethod yX5_lastsOf, .selects RX5 yX5_lastsOf yX5_lastsOf, .code yX5_lastsOf cX5_lastsOf 3 (some .int)] ++ wsX50)
def wsX5_look : List Cond := .code yX5_look cX5_look 2 (some .int) :: ([.fieldLink RX5 7 "MustardFastModel" "lookOf" "[I", .methodLink RX5 151 yX5_noDay, .instanceMethod yX5_noDay, .selects RX5 yX5_noDay yX5_noDay, .initialized RX5, .code yX5_noDay cX5_noDay 2 (some .boolean), .fieldLink RX5 78 "MustardFastModel" "days" "I", .methodLink RX5 81 yX5_in, .static yX5_in, .code yX5_in cX5_in 6 (some .boolean)] ++ wsX50)
def wsX5_pull : List Cond := .code yX5_pull cX5_pull 4 (some .int) :: ([.constantLong RX5 154 (9), .fieldLink RX5 7 "MustardFastModel" "lookOf" "[I", .methodLink RX5 151 yX5_noDay, .instanceMethod yX5_noDay, .selects RX5 yX5_noDay yX5_noDay, .initialized RX5, .code yX5_noDay cX5_noDay 2 (some .boolean), .fieldLink RX5 78 "MustardFastModel" "days" "I", .methodLink RX5 81 yX5_in, .static yX5_in, .code yX5_in cX5_in 6 (some .boolean)] ++ wsX50)
def wsX5_sour : List Cond := .code yX5_sour cX5_sour 3 (some .int) :: ([.constantLong RX5 154 (9), .fieldLink RX5 85 "MustardFastModel" "eaters" "I", .fieldLink RX5 139 "MustardFastModel" "sourNow" "I", .methodLink RX5 81 yX5_in, .static yX5_in, .initialized RX5, .code yX5_in cX5_in 6 (some .boolean)] ++ wsX50)
def wsX5_crave : List Cond := .code yX5_crave cX5_crave 4 (some .int) :: ([.constantLong RX5 156 (6), .fieldLink RX5 22 "MustardFastModel" "needOf" "[I", .methodLink RX5 145 yX5_noEater, .instanceMethod yX5_noEater, .selects RX5 yX5_noEater yX5_noEater, .initialized RX5, .code yX5_noEater cX5_noEater 2 (some .boolean), .fieldLink RX5 85 "MustardFastModel" "eaters" "I", .methodLink RX5 81 yX5_in, .static yX5_in, .code yX5_in cX5_in 6 (some .boolean)] ++ wsX50)
def wsX5_fastsNow : List Cond := .code yX5_fastsNow cX5_fastsNow 3 (some .int) :: ([.fieldLink RX5 78 "MustardFastModel" "days" "I", .fieldLink RX5 7 "MustardFastModel" "lookOf" "[I", .fieldLink RX5 139 "MustardFastModel" "sourNow" "I", .fieldLink RX5 25 "MustardFastModel" "smiled" "I"] ++ wsX50)
def wsX5_yellowBy : List Cond := .code yX5_yellowBy cX5_yellowBy 7 (some .int) :: ([.fieldLink RX5 78 "MustardFastModel" "days" "I", .methodLink RX5 148 yX5_lastsOf, .instanceMethod yX5_lastsOf, .selects RX5 yX5_lastsOf yX5_lastsOf, .initialized RX5, .code yX5_lastsOf cX5_lastsOf 3 (some .int), .fieldLink RX5 16 "MustardFastModel" "stayOf" "[I", .fieldLink RX5 13 "MustardFastModel" "kindOf" "[I", .methodLink RX5 158 yX5_isIn, .static yX5_isIn, .code yX5_isIn cX5_isIn 2 (some .boolean)] ++ wsX50)
def wsX5_foundBy : List Cond := .code yX5_foundBy cX5_foundBy 3 (some .int) :: ([.methodLink RX5 161 yX5_yellowBy, .instanceMethod yX5_yellowBy, .selects RX5 yX5_yellowBy yX5_yellowBy, .initialized RX5, .code yX5_yellowBy cX5_yellowBy 7 (some .int), .fieldLink RX5 78 "MustardFastModel" "days" "I", .methodLink RX5 148 yX5_lastsOf, .instanceMethod yX5_lastsOf, .selects RX5 yX5_lastsOf yX5_lastsOf, .code yX5_lastsOf cX5_lastsOf 3 (some .int), .fieldLink RX5 16 "MustardFastModel" "stayOf" "[I", .fieldLink RX5 13 "MustardFastModel" "kindOf" "[I", .methodLink RX5 158 yX5_isIn, .static yX5_isIn, .code yX5_isIn cX5_isIn 2 (some .boolean), .methodLink RX5 164 yX5_fastsNow, .instanceMethod yX5_fastsNow, .selects RX5 yX5_fastsNow yX5_fastsNow, .code yX5_fastsNow cX5_fastsNow 3 (some .int), .fieldLink RX5 7 "MustardFastModel" "lookOf" "[I", .fieldLink RX5 139 "MustardFastModel" "sourNow" "I", .fieldLink RX5 25 "MustardFastModel" "smiled" "I"] ++ wsX50)
def wsX5_fineOf_r1 : List Cond := [Cond.fieldLink RX5 19 "MustardFastModel" "spoonsOf" "[I", Cond.methodLink RX5 168 yX5_foundBy, Cond.instanceMethod yX5_foundBy, Cond.selects RX5 yX5_foundBy yX5_foundBy, Cond.initialized RX5, Cond.code yX5_foundBy cX5_foundBy 3 (some .int), Cond.methodLink RX5 161 yX5_yellowBy, Cond.instanceMethod yX5_yellowBy, Cond.selects RX5 yX5_yellowBy yX5_yellowBy, Cond.code yX5_yellowBy cX5_yellowBy 7 (some .int), Cond.fieldLink RX5 78 "MustardFastModel" "days" "I", Cond.methodLink RX5 148 yX5_lastsOf, Cond.instanceMethod yX5_lastsOf, Cond.selects RX5 yX5_lastsOf yX5_lastsOf, Cond.code yX5_lastsOf cX5_lastsOf 3 (some .int), Cond.fieldLink RX5 16 "MustardFastModel" "stayOf" "[I", Cond.fieldLink RX5 13 "MustardFastModel" "kindOf" "[I", Cond.methodLink RX5 158 yX5_isIn, Cond.static yX5_isIn, Cond.code yX5_isIn cX5_isIn 2 (some .boolean), Cond.methodLink RX5 164 yX5_fastsNow, Cond.instanceMethod yX5_fastsNow, Cond.selects RX5 yX5_fastsNow yX5_fastsNow, Cond.code yX5_fastsNow cX5_fastsNow 3 (some .int)]
def wsX5_fineOf_r2 : List Cond := [Cond.fieldLink RX5 7 "MustardFastModel" "lookOf" "[I", Cond.fieldLink RX5 139 "MustardFastModel" "sourNow" "I", Cond.fieldLink RX5 25 "MustardFastModel" "smiled" "I", Cond.methodLink RX5 171 yX5_bits, Cond.static yX5_bits, Cond.code yX5_bits cX5_bits 3 (some .int)]
def wsX5_fineOf : List Cond := .code yX5_fineOf cX5_fineOf 3 (some .int) :: ((wsX5_fineOf_r1 ++ wsX5_fineOf_r2) ++ wsX50)
def wsX5_fasts : List Cond := .code yX5_fasts cX5_fasts 1 (some .int) :: ([.fieldLink RX5 85 "MustardFastModel" "eaters" "I", .methodLink RX5 164 yX5_fastsNow, .instanceMethod yX5_fastsNow, .selects RX5 yX5_fastsNow yX5_fastsNow, .initialized RX5, .code yX5_fastsNow cX5_fastsNow 3 (some .int), .fieldLink RX5 78 "MustardFastModel" "days" "I", .fieldLink RX5 7 "MustardFastModel" "lookOf" "[I", .fieldLink RX5 139 "MustardFastModel" "sourNow" "I", .fieldLink RX5 25 "MustardFastModel" "smiled" "I"] ++ wsX50)
def wsX5_yellow_r1 : List Cond := [Cond.methodLink RX5 145 yX5_noEater, Cond.instanceMethod yX5_noEater, Cond.selects RX5 yX5_noEater yX5_noEater, Cond.initialized RX5, Cond.code yX5_noEater cX5_noEater 2 (some .boolean), Cond.fieldLink RX5 85 "MustardFastModel" "eaters" "I", Cond.methodLink RX5 81 yX5_in, Cond.static yX5_in, Cond.code yX5_in cX5_in 6 (some .boolean), Cond.methodLink RX5 174 yX5_noSet, Cond.instanceMethod yX5_noSet, Cond.selects RX5 yX5_noSet yX5_noSet, Cond.code yX5_noSet cX5_noSet 2 (some .boolean), Cond.fieldLink RX5 78 "MustardFastModel" "days" "I", Cond.methodLink RX5 161 yX5_yellowBy, Cond.instanceMethod yX5_yellowBy, Cond.selects RX5 yX5_yellowBy yX5_yellowBy, Cond.code yX5_yellowBy cX5_yellowBy 7 (some .int), Cond.methodLink RX5 148 yX5_lastsOf, Cond.instanceMethod yX5_lastsOf, Cond.selects RX5 yX5_lastsOf yX5_lastsOf, Cond.code yX5_lastsOf cX5_lastsOf 3 (some .int), Cond.fieldLink RX5 16 "MustardFastModel" "stayOf" "[I", Cond.fieldLink RX5 13 "MustardFastModel" "kindOf" "[I"]
def wsX5_yellow_r2 : List Cond := [Cond.methodLink RX5 158 yX5_isIn, Cond.static yX5_isIn, Cond.code yX5_isIn cX5_isIn 2 (some .boolean)]
def wsX5_yellow : List Cond := .code yX5_yellow cX5_yellow 3 (some .int) :: ((wsX5_yellow_r1 ++ wsX5_yellow_r2) ++ wsX50)
def wsX5_found_r1 : List Cond := [Cond.methodLink RX5 145 yX5_noEater, Cond.instanceMethod yX5_noEater, Cond.selects RX5 yX5_noEater yX5_noEater, Cond.initialized RX5, Cond.code yX5_noEater cX5_noEater 2 (some .boolean), Cond.fieldLink RX5 85 "MustardFastModel" "eaters" "I", Cond.methodLink RX5 81 yX5_in, Cond.static yX5_in, Cond.code yX5_in cX5_in 6 (some .boolean), Cond.methodLink RX5 174 yX5_noSet, Cond.instanceMethod yX5_noSet, Cond.selects RX5 yX5_noSet yX5_noSet, Cond.code yX5_noSet cX5_noSet 2 (some .boolean), Cond.fieldLink RX5 78 "MustardFastModel" "days" "I", Cond.methodLink RX5 168 yX5_foundBy, Cond.instanceMethod yX5_foundBy, Cond.selects RX5 yX5_foundBy yX5_foundBy, Cond.code yX5_foundBy cX5_foundBy 3 (some .int), Cond.methodLink RX5 161 yX5_yellowBy, Cond.instanceMethod yX5_yellowBy, Cond.selects RX5 yX5_yellowBy yX5_yellowBy, Cond.code yX5_yellowBy cX5_yellowBy 7 (some .int), Cond.methodLink RX5 148 yX5_lastsOf, Cond.instanceMethod yX5_lastsOf]
def wsX5_found_r2 : List Cond := [Cond.selects RX5 yX5_lastsOf yX5_lastsOf, Cond.code yX5_lastsOf cX5_lastsOf 3 (some .int), Cond.fieldLink RX5 16 "MustardFastModel" "stayOf" "[I", Cond.fieldLink RX5 13 "MustardFastModel" "kindOf" "[I", Cond.methodLink RX5 158 yX5_isIn, Cond.static yX5_isIn, Cond.code yX5_isIn cX5_isIn 2 (some .boolean), Cond.methodLink RX5 164 yX5_fastsNow, Cond.instanceMethod yX5_fastsNow, Cond.selects RX5 yX5_fastsNow yX5_fastsNow, Cond.code yX5_fastsNow cX5_fastsNow 3 (some .int), Cond.fieldLink RX5 7 "MustardFastModel" "lookOf" "[I", Cond.fieldLink RX5 139 "MustardFastModel" "sourNow" "I", Cond.fieldLink RX5 25 "MustardFastModel" "smiled" "I", Cond.methodLink RX5 177 yX5_fineOf, Cond.instanceMethod yX5_fineOf, Cond.selects RX5 yX5_fineOf yX5_fineOf, Cond.code yX5_fineOf cX5_fineOf 3 (some .int), Cond.fieldLink RX5 19 "MustardFastModel" "spoonsOf" "[I", Cond.methodLink RX5 171 yX5_bits, Cond.static yX5_bits, Cond.code yX5_bits cX5_bits 3 (some .int)]
def wsX5_found : List Cond := .code yX5_found cX5_found 4 (some .int) :: ((wsX5_found_r1 ++ wsX5_found_r2) ++ wsX50)
def wsX5_planBy_r1 : List Cond := [Cond.fieldLink RX5 85 "MustardFastModel" "eaters" "I", Cond.fieldLink RX5 63 "MustardFastModel" "sheet" "[I", Cond.fieldLink RX5 22 "MustardFastModel" "needOf" "[I", Cond.fieldLink RX5 78 "MustardFastModel" "days" "I", Cond.methodLink RX5 168 yX5_foundBy, Cond.instanceMethod yX5_foundBy, Cond.selects RX5 yX5_foundBy yX5_foundBy, Cond.initialized RX5, Cond.code yX5_foundBy cX5_foundBy 3 (some .int), Cond.methodLink RX5 161 yX5_yellowBy, Cond.instanceMethod yX5_yellowBy, Cond.selects RX5 yX5_yellowBy yX5_yellowBy, Cond.code yX5_yellowBy cX5_yellowBy 7 (some .int), Cond.methodLink RX5 148 yX5_lastsOf, Cond.instanceMethod yX5_lastsOf, Cond.selects RX5 yX5_lastsOf yX5_lastsOf, Cond.code yX5_lastsOf cX5_lastsOf 3 (some .int), Cond.fieldLink RX5 16 "MustardFastModel" "stayOf" "[I", Cond.fieldLink RX5 13 "MustardFastModel" "kindOf" "[I", Cond.methodLink RX5 158 yX5_isIn, Cond.static yX5_isIn, Cond.code yX5_isIn cX5_isIn 2 (some .boolean), Cond.methodLink RX5 164 yX5_fastsNow, Cond.instanceMethod yX5_fastsNow]
def wsX5_planBy_r2 : List Cond := [Cond.selects RX5 yX5_fastsNow yX5_fastsNow, Cond.code yX5_fastsNow cX5_fastsNow 3 (some .int), Cond.fieldLink RX5 7 "MustardFastModel" "lookOf" "[I", Cond.fieldLink RX5 139 "MustardFastModel" "sourNow" "I", Cond.fieldLink RX5 25 "MustardFastModel" "smiled" "I", Cond.methodLink RX5 177 yX5_fineOf, Cond.instanceMethod yX5_fineOf, Cond.selects RX5 yX5_fineOf yX5_fineOf, Cond.code yX5_fineOf cX5_fineOf 3 (some .int), Cond.fieldLink RX5 19 "MustardFastModel" "spoonsOf" "[I", Cond.methodLink RX5 171 yX5_bits, Cond.static yX5_bits, Cond.code yX5_bits cX5_bits 3 (some .int), Cond.methodLink RX5 151 yX5_noDay, Cond.instanceMethod yX5_noDay, Cond.selects RX5 yX5_noDay yX5_noDay, Cond.code yX5_noDay cX5_noDay 2 (some .boolean), Cond.methodLink RX5 81 yX5_in, Cond.static yX5_in, Cond.code yX5_in cX5_in 6 (some .boolean)]
def wsX5_planBy : List Cond := .code yX5_planBy cX5_planBy 12 (some .int) :: ((wsX5_planBy_r1 ++ wsX5_planBy_r2) ++ wsX50)
def wsX5_plan_r1 : List Cond := [Cond.constantLong RX5 180 (3), Cond.constantLong RX5 182 (10), Cond.constantLong RX5 184 (15), Cond.constantLong RX5 130 (2), Cond.fieldLink RX5 85 "MustardFastModel" "eaters" "I", Cond.fieldLink RX5 63 "MustardFastModel" "sheet" "[I", Cond.methodLink RX5 123 yX5_noSheet, Cond.static yX5_noSheet, Cond.initialized RX5, Cond.code yX5_noSheet cX5_noSheet 1 (some .boolean), Cond.methodLink RX5 81 yX5_in, Cond.static yX5_in, Cond.code yX5_in cX5_in 6 (some .boolean), Cond.methodLink RX5 127 yX5_refused, Cond.instanceMethod yX5_refused, Cond.selects RX5 yX5_refused yX5_refused, Cond.code yX5_refused cX5_refused 2 (some .int), Cond.fieldLink RX5 71 "MustardFastModel" "fault" "I", Cond.methodLink RX5 132 yX5_cellsBarred, Cond.instanceMethod yX5_cellsBarred, Cond.selects RX5 yX5_cellsBarred yX5_cellsBarred, Cond.code yX5_cellsBarred cX5_cellsBarred 6 (some .int), Cond.fieldLink RX5 57 "MustardFastModel" "sheetSize" "[I", Cond.fieldLink RX5 60 "MustardFastModel" "sheetLane" "[I"]
def wsX5_plan_r2 : List Cond := [Cond.methodLink RX5 115 yX5_failed, Cond.instanceMethod yX5_failed, Cond.selects RX5 yX5_failed yX5_failed, Cond.code yX5_failed cX5_failed 2 (some .int), Cond.methodLink RX5 119 yX5_isBeyond, Cond.static yX5_isBeyond, Cond.code yX5_isBeyond cX5_isBeyond 4 (some .boolean), Cond.methodLink RX5 174 yX5_noSet, Cond.instanceMethod yX5_noSet, Cond.selects RX5 yX5_noSet yX5_noSet, Cond.code yX5_noSet cX5_noSet 2 (some .boolean), Cond.fieldLink RX5 78 "MustardFastModel" "days" "I", Cond.methodLink RX5 186 yX5_planBy, Cond.instanceMethod yX5_planBy, Cond.selects RX5 yX5_planBy yX5_planBy, Cond.code yX5_planBy cX5_planBy 12 (some .int), Cond.fieldLink RX5 22 "MustardFastModel" "needOf" "[I", Cond.methodLink RX5 168 yX5_foundBy, Cond.instanceMethod yX5_foundBy, Cond.selects RX5 yX5_foundBy yX5_foundBy, Cond.code yX5_foundBy cX5_foundBy 3 (some .int), Cond.methodLink RX5 161 yX5_yellowBy, Cond.instanceMethod yX5_yellowBy, Cond.selects RX5 yX5_yellowBy yX5_yellowBy]
def wsX5_plan_r3 : List Cond := [Cond.code yX5_yellowBy cX5_yellowBy 7 (some .int), Cond.methodLink RX5 148 yX5_lastsOf, Cond.instanceMethod yX5_lastsOf, Cond.selects RX5 yX5_lastsOf yX5_lastsOf, Cond.code yX5_lastsOf cX5_lastsOf 3 (some .int), Cond.fieldLink RX5 16 "MustardFastModel" "stayOf" "[I", Cond.fieldLink RX5 13 "MustardFastModel" "kindOf" "[I", Cond.methodLink RX5 158 yX5_isIn, Cond.static yX5_isIn, Cond.code yX5_isIn cX5_isIn 2 (some .boolean), Cond.methodLink RX5 164 yX5_fastsNow, Cond.instanceMethod yX5_fastsNow, Cond.selects RX5 yX5_fastsNow yX5_fastsNow, Cond.code yX5_fastsNow cX5_fastsNow 3 (some .int), Cond.fieldLink RX5 7 "MustardFastModel" "lookOf" "[I", Cond.fieldLink RX5 139 "MustardFastModel" "sourNow" "I", Cond.fieldLink RX5 25 "MustardFastModel" "smiled" "I", Cond.methodLink RX5 177 yX5_fineOf, Cond.instanceMethod yX5_fineOf, Cond.selects RX5 yX5_fineOf yX5_fineOf, Cond.code yX5_fineOf cX5_fineOf 3 (some .int), Cond.fieldLink RX5 19 "MustardFastModel" "spoonsOf" "[I", Cond.methodLink RX5 171 yX5_bits, Cond.static yX5_bits]
def wsX5_plan_r4 : List Cond := [Cond.code yX5_bits cX5_bits 3 (some .int), Cond.methodLink RX5 151 yX5_noDay, Cond.instanceMethod yX5_noDay, Cond.selects RX5 yX5_noDay yX5_noDay, Cond.code yX5_noDay cX5_noDay 2 (some .boolean)]
def wsX5_plan : List Cond := .code yX5_plan cX5_plan 9 (some .int) :: ((wsX5_plan_r1 ++ (wsX5_plan_r2 ++ (wsX5_plan_r3 ++ wsX5_plan_r4))) ++ wsX50)
def wsX5_bestOf_r1 : List Cond := [Cond.fieldLink RX5 78 "MustardFastModel" "days" "I", Cond.fieldLink RX5 22 "MustardFastModel" "needOf" "[I", Cond.methodLink RX5 171 yX5_bits, Cond.static yX5_bits, Cond.initialized RX5, Cond.code yX5_bits cX5_bits 3 (some .int), Cond.methodLink RX5 177 yX5_fineOf, Cond.instanceMethod yX5_fineOf, Cond.selects RX5 yX5_fineOf yX5_fineOf, Cond.code yX5_fineOf cX5_fineOf 3 (some .int), Cond.fieldLink RX5 19 "MustardFastModel" "spoonsOf" "[I", Cond.methodLink RX5 168 yX5_foundBy, Cond.instanceMethod yX5_foundBy, Cond.selects RX5 yX5_foundBy yX5_foundBy, Cond.code yX5_foundBy cX5_foundBy 3 (some .int), Cond.methodLink RX5 161 yX5_yellowBy, Cond.instanceMethod yX5_yellowBy, Cond.selects RX5 yX5_yellowBy yX5_yellowBy, Cond.code yX5_yellowBy cX5_yellowBy 7 (some .int), Cond.methodLink RX5 148 yX5_lastsOf, Cond.instanceMethod yX5_lastsOf, Cond.selects RX5 yX5_lastsOf yX5_lastsOf, Cond.code yX5_lastsOf cX5_lastsOf 3 (some .int), Cond.fieldLink RX5 16 "MustardFastModel" "stayOf" "[I"]
def wsX5_bestOf_r2 : List Cond := [Cond.fieldLink RX5 13 "MustardFastModel" "kindOf" "[I", Cond.methodLink RX5 158 yX5_isIn, Cond.static yX5_isIn, Cond.code yX5_isIn cX5_isIn 2 (some .boolean), Cond.methodLink RX5 164 yX5_fastsNow, Cond.instanceMethod yX5_fastsNow, Cond.selects RX5 yX5_fastsNow yX5_fastsNow, Cond.code yX5_fastsNow cX5_fastsNow 3 (some .int), Cond.fieldLink RX5 7 "MustardFastModel" "lookOf" "[I", Cond.fieldLink RX5 139 "MustardFastModel" "sourNow" "I", Cond.fieldLink RX5 25 "MustardFastModel" "smiled" "I"]
def wsX5_bestOf : List Cond := .code yX5_bestOf cX5_bestOf 6 (some .int) :: ((wsX5_bestOf_r1 ++ wsX5_bestOf_r2) ++ wsX50)
def wsX5_best_r1 : List Cond := [Cond.methodLink RX5 145 yX5_noEater, Cond.instanceMethod yX5_noEater, Cond.selects RX5 yX5_noEater yX5_noEater, Cond.initialized RX5, Cond.code yX5_noEater cX5_noEater 2 (some .boolean), Cond.fieldLink RX5 85 "MustardFastModel" "eaters" "I", Cond.methodLink RX5 81 yX5_in, Cond.static yX5_in, Cond.code yX5_in cX5_in 6 (some .boolean), Cond.methodLink RX5 189 yX5_bestOf, Cond.instanceMethod yX5_bestOf, Cond.selects RX5 yX5_bestOf yX5_bestOf, Cond.code yX5_bestOf cX5_bestOf 6 (some .int), Cond.fieldLink RX5 78 "MustardFastModel" "days" "I", Cond.fieldLink RX5 22 "MustardFastModel" "needOf" "[I", Cond.methodLink RX5 171 yX5_bits, Cond.static yX5_bits, Cond.code yX5_bits cX5_bits 3 (some .int), Cond.methodLink RX5 177 yX5_fineOf, Cond.instanceMethod yX5_fineOf, Cond.selects RX5 yX5_fineOf yX5_fineOf, Cond.code yX5_fineOf cX5_fineOf 3 (some .int), Cond.fieldLink RX5 19 "MustardFastModel" "spoonsOf" "[I", Cond.methodLink RX5 168 yX5_foundBy]
def wsX5_best_r2 : List Cond := [Cond.instanceMethod yX5_foundBy, Cond.selects RX5 yX5_foundBy yX5_foundBy, Cond.code yX5_foundBy cX5_foundBy 3 (some .int), Cond.methodLink RX5 161 yX5_yellowBy, Cond.instanceMethod yX5_yellowBy, Cond.selects RX5 yX5_yellowBy yX5_yellowBy, Cond.code yX5_yellowBy cX5_yellowBy 7 (some .int), Cond.methodLink RX5 148 yX5_lastsOf, Cond.instanceMethod yX5_lastsOf, Cond.selects RX5 yX5_lastsOf yX5_lastsOf, Cond.code yX5_lastsOf cX5_lastsOf 3 (some .int), Cond.fieldLink RX5 16 "MustardFastModel" "stayOf" "[I", Cond.fieldLink RX5 13 "MustardFastModel" "kindOf" "[I", Cond.methodLink RX5 158 yX5_isIn, Cond.static yX5_isIn, Cond.code yX5_isIn cX5_isIn 2 (some .boolean), Cond.methodLink RX5 164 yX5_fastsNow, Cond.instanceMethod yX5_fastsNow, Cond.selects RX5 yX5_fastsNow yX5_fastsNow, Cond.code yX5_fastsNow cX5_fastsNow 3 (some .int), Cond.fieldLink RX5 7 "MustardFastModel" "lookOf" "[I", Cond.fieldLink RX5 139 "MustardFastModel" "sourNow" "I", Cond.fieldLink RX5 25 "MustardFastModel" "smiled" "I"]
def wsX5_best : List Cond := .code yX5_best cX5_best 4 (some .int) :: ((wsX5_best_r1 ++ wsX5_best_r2) ++ wsX50)
def wsX5_villageNow_r1 : List Cond := [Cond.fieldLink RX5 85 "MustardFastModel" "eaters" "I", Cond.methodLink RX5 189 yX5_bestOf, Cond.instanceMethod yX5_bestOf, Cond.selects RX5 yX5_bestOf yX5_bestOf, Cond.initialized RX5, Cond.code yX5_bestOf cX5_bestOf 6 (some .int), Cond.fieldLink RX5 78 "MustardFastModel" "days" "I", Cond.fieldLink RX5 22 "MustardFastModel" "needOf" "[I", Cond.methodLink RX5 171 yX5_bits, Cond.static yX5_bits, Cond.code yX5_bits cX5_bits 3 (some .int), Cond.methodLink RX5 177 yX5_fineOf, Cond.instanceMethod yX5_fineOf, Cond.selects RX5 yX5_fineOf yX5_fineOf, Cond.code yX5_fineOf cX5_fineOf 3 (some .int), Cond.fieldLink RX5 19 "MustardFastModel" "spoonsOf" "[I", Cond.methodLink RX5 168 yX5_foundBy, Cond.instanceMethod yX5_foundBy, Cond.selects RX5 yX5_foundBy yX5_foundBy, Cond.code yX5_foundBy cX5_foundBy 3 (some .int), Cond.methodLink RX5 161 yX5_yellowBy, Cond.instanceMethod yX5_yellowBy, Cond.selects RX5 yX5_yellowBy yX5_yellowBy, Cond.code yX5_yellowBy cX5_yellowBy 7 (some .int)]
def wsX5_villageNow_r2 : List Cond := [Cond.methodLink RX5 148 yX5_lastsOf, Cond.instanceMethod yX5_lastsOf, Cond.selects RX5 yX5_lastsOf yX5_lastsOf, Cond.code yX5_lastsOf cX5_lastsOf 3 (some .int), Cond.fieldLink RX5 16 "MustardFastModel" "stayOf" "[I", Cond.fieldLink RX5 13 "MustardFastModel" "kindOf" "[I", Cond.methodLink RX5 158 yX5_isIn, Cond.static yX5_isIn, Cond.code yX5_isIn cX5_isIn 2 (some .boolean), Cond.methodLink RX5 164 yX5_fastsNow, Cond.instanceMethod yX5_fastsNow, Cond.selects RX5 yX5_fastsNow yX5_fastsNow, Cond.code yX5_fastsNow cX5_fastsNow 3 (some .int), Cond.fieldLink RX5 7 "MustardFastModel" "lookOf" "[I", Cond.fieldLink RX5 139 "MustardFastModel" "sourNow" "I", Cond.fieldLink RX5 25 "MustardFastModel" "smiled" "I"]
def wsX5_villageNow : List Cond := .code yX5_villageNow cX5_villageNow 5 (some .int) :: ((wsX5_villageNow_r1 ++ wsX5_villageNow_r2) ++ wsX50)
def wsX5_village_r1 : List Cond := [Cond.fieldLink RX5 85 "MustardFastModel" "eaters" "I", Cond.methodLink RX5 192 yX5_villageNow, Cond.instanceMethod yX5_villageNow, Cond.selects RX5 yX5_villageNow yX5_villageNow, Cond.initialized RX5, Cond.code yX5_villageNow cX5_villageNow 5 (some .int), Cond.methodLink RX5 189 yX5_bestOf, Cond.instanceMethod yX5_bestOf, Cond.selects RX5 yX5_bestOf yX5_bestOf, Cond.code yX5_bestOf cX5_bestOf 6 (some .int), Cond.fieldLink RX5 78 "MustardFastModel" "days" "I", Cond.fieldLink RX5 22 "MustardFastModel" "needOf" "[I", Cond.methodLink RX5 171 yX5_bits, Cond.static yX5_bits, Cond.code yX5_bits cX5_bits 3 (some .int), Cond.methodLink RX5 177 yX5_fineOf, Cond.instanceMethod yX5_fineOf, Cond.selects RX5 yX5_fineOf yX5_fineOf, Cond.code yX5_fineOf cX5_fineOf 3 (some .int), Cond.fieldLink RX5 19 "MustardFastModel" "spoonsOf" "[I", Cond.methodLink RX5 168 yX5_foundBy, Cond.instanceMethod yX5_foundBy, Cond.selects RX5 yX5_foundBy yX5_foundBy, Cond.code yX5_foundBy cX5_foundBy 3 (some .int)]
def wsX5_village_r2 : List Cond := [Cond.methodLink RX5 161 yX5_yellowBy, Cond.instanceMethod yX5_yellowBy, Cond.selects RX5 yX5_yellowBy yX5_yellowBy, Cond.code yX5_yellowBy cX5_yellowBy 7 (some .int), Cond.methodLink RX5 148 yX5_lastsOf, Cond.instanceMethod yX5_lastsOf, Cond.selects RX5 yX5_lastsOf yX5_lastsOf, Cond.code yX5_lastsOf cX5_lastsOf 3 (some .int), Cond.fieldLink RX5 16 "MustardFastModel" "stayOf" "[I", Cond.fieldLink RX5 13 "MustardFastModel" "kindOf" "[I", Cond.methodLink RX5 158 yX5_isIn, Cond.static yX5_isIn, Cond.code yX5_isIn cX5_isIn 2 (some .boolean), Cond.methodLink RX5 164 yX5_fastsNow, Cond.instanceMethod yX5_fastsNow, Cond.selects RX5 yX5_fastsNow yX5_fastsNow, Cond.code yX5_fastsNow cX5_fastsNow 3 (some .int), Cond.fieldLink RX5 7 "MustardFastModel" "lookOf" "[I", Cond.fieldLink RX5 139 "MustardFastModel" "sourNow" "I", Cond.fieldLink RX5 25 "MustardFastModel" "smiled" "I"]
def wsX5_village : List Cond := .code yX5_village cX5_village 1 (some .int) :: ((wsX5_village_r1 ++ wsX5_village_r2) ++ wsX50)
def wsX5_smile_r1 : List Cond := [Cond.fieldLink RX5 85 "MustardFastModel" "eaters" "I", Cond.fieldLink RX5 78 "MustardFastModel" "days" "I", Cond.fieldLink RX5 25 "MustardFastModel" "smiled" "I", Cond.methodLink RX5 81 yX5_in, Cond.static yX5_in, Cond.initialized RX5, Cond.code yX5_in cX5_in 6 (some .boolean), Cond.methodLink RX5 164 yX5_fastsNow, Cond.instanceMethod yX5_fastsNow, Cond.selects RX5 yX5_fastsNow yX5_fastsNow, Cond.code yX5_fastsNow cX5_fastsNow 3 (some .int), Cond.fieldLink RX5 7 "MustardFastModel" "lookOf" "[I", Cond.fieldLink RX5 139 "MustardFastModel" "sourNow" "I", Cond.methodLink RX5 158 yX5_isIn, Cond.static yX5_isIn, Cond.code yX5_isIn cX5_isIn 2 (some .boolean), Cond.methodLink RX5 192 yX5_villageNow, Cond.instanceMethod yX5_villageNow, Cond.selects RX5 yX5_villageNow yX5_villageNow, Cond.code yX5_villageNow cX5_villageNow 5 (some .int), Cond.methodLink RX5 189 yX5_bestOf, Cond.instanceMethod yX5_bestOf, Cond.selects RX5 yX5_bestOf yX5_bestOf, Cond.code yX5_bestOf cX5_bestOf 6 (some .int)]
def wsX5_smile_r2 : List Cond := [Cond.fieldLink RX5 22 "MustardFastModel" "needOf" "[I", Cond.methodLink RX5 171 yX5_bits, Cond.static yX5_bits, Cond.code yX5_bits cX5_bits 3 (some .int), Cond.methodLink RX5 177 yX5_fineOf, Cond.instanceMethod yX5_fineOf, Cond.selects RX5 yX5_fineOf yX5_fineOf, Cond.code yX5_fineOf cX5_fineOf 3 (some .int), Cond.fieldLink RX5 19 "MustardFastModel" "spoonsOf" "[I", Cond.methodLink RX5 168 yX5_foundBy, Cond.instanceMethod yX5_foundBy, Cond.selects RX5 yX5_foundBy yX5_foundBy, Cond.code yX5_foundBy cX5_foundBy 3 (some .int), Cond.methodLink RX5 161 yX5_yellowBy, Cond.instanceMethod yX5_yellowBy, Cond.selects RX5 yX5_yellowBy yX5_yellowBy, Cond.code yX5_yellowBy cX5_yellowBy 7 (some .int), Cond.methodLink RX5 148 yX5_lastsOf, Cond.instanceMethod yX5_lastsOf, Cond.selects RX5 yX5_lastsOf yX5_lastsOf, Cond.code yX5_lastsOf cX5_lastsOf 3 (some .int), Cond.fieldLink RX5 16 "MustardFastModel" "stayOf" "[I", Cond.fieldLink RX5 13 "MustardFastModel" "kindOf" "[I"]
def wsX5_smile : List Cond := .code yX5_smile cX5_smile 8 (some .int) :: ((wsX5_smile_r1 ++ wsX5_smile_r2) ++ wsX50)
def wsX5_reading : List Cond := .code yX5_reading cX5_reading 5 (some .int) :: ([.fieldLink RX5 142 "MustardFastModel" "readings" "I", .fieldLink RX5 44 "MustardFastModel" "readingOf" "[I", .fieldLink RX5 47 "MustardFastModel" "readingBy" "[I", .fieldLink RX5 50 "MustardFastModel" "readingOn" "[I", .fieldLink RX5 53 "MustardFastModel" "readingWas" "[Z", .methodLink RX5 145 yX5_noEater, .instanceMethod yX5_noEater, .selects RX5 yX5_noEater yX5_noEater, .initialized RX5, .code yX5_noEater cX5_noEater 2 (some .boolean), .fieldLink RX5 85 "MustardFastModel" "eaters" "I", .methodLink RX5 81 yX5_in, .static yX5_in, .code yX5_in cX5_in 6 (some .boolean), .methodLink RX5 174 yX5_noSet, .instanceMethod yX5_noSet, .selects RX5 yX5_noSet yX5_noSet, .code yX5_noSet cX5_noSet 2 (some .boolean), .fieldLink RX5 78 "MustardFastModel" "days" "I", .methodLink RX5 151 yX5_noDay, .instanceMethod yX5_noDay, .selects RX5 yX5_noDay yX5_noDay, .code yX5_noDay cX5_noDay 2 (some .boolean)] ++ wsX50)
def wsX5_back : List Cond := .code yX5_back cX5_back 2 (some .int) :: ([.fieldLink RX5 142 "MustardFastModel" "readings" "I", .methodLink RX5 81 yX5_in, .static yX5_in, .initialized RX5, .code yX5_in cX5_in 6 (some .boolean)] ++ wsX50)
def wsX5_areSo_r1 : List Cond := [Cond.fieldLink RX5 142 "MustardFastModel" "readings" "I", Cond.fieldLink RX5 44 "MustardFastModel" "readingOf" "[I", Cond.fieldLink RX5 47 "MustardFastModel" "readingBy" "[I", Cond.fieldLink RX5 50 "MustardFastModel" "readingOn" "[I", Cond.fieldLink RX5 53 "MustardFastModel" "readingWas" "[Z", Cond.methodLink RX5 168 yX5_foundBy, Cond.instanceMethod yX5_foundBy, Cond.selects RX5 yX5_foundBy yX5_foundBy, Cond.initialized RX5, Cond.code yX5_foundBy cX5_foundBy 3 (some .int), Cond.methodLink RX5 161 yX5_yellowBy, Cond.instanceMethod yX5_yellowBy, Cond.selects RX5 yX5_yellowBy yX5_yellowBy, Cond.code yX5_yellowBy cX5_yellowBy 7 (some .int), Cond.fieldLink RX5 78 "MustardFastModel" "days" "I", Cond.methodLink RX5 148 yX5_lastsOf, Cond.instanceMethod yX5_lastsOf, Cond.selects RX5 yX5_lastsOf yX5_lastsOf, Cond.code yX5_lastsOf cX5_lastsOf 3 (some .int), Cond.fieldLink RX5 16 "MustardFastModel" "stayOf" "[I", Cond.fieldLink RX5 13 "MustardFastModel" "kindOf" "[I", Cond.methodLink RX5 158 yX5_isIn, Cond.static yX5_isIn, Cond.code yX5_isIn cX5_isIn 2 (some .boolean)]
def wsX5_areSo_r2 : List Cond := [Cond.methodLink RX5 164 yX5_fastsNow, Cond.instanceMethod yX5_fastsNow, Cond.selects RX5 yX5_fastsNow yX5_fastsNow, Cond.code yX5_fastsNow cX5_fastsNow 3 (some .int), Cond.fieldLink RX5 7 "MustardFastModel" "lookOf" "[I", Cond.fieldLink RX5 139 "MustardFastModel" "sourNow" "I", Cond.fieldLink RX5 25 "MustardFastModel" "smiled" "I"]
def wsX5_areSo : List Cond := .code yX5_areSo cX5_areSo 3 (some .boolean) :: ((wsX5_areSo_r1 ++ wsX5_areSo_r2) ++ wsX50)
def wsX5_stays_r1 : List Cond := [Cond.fieldLink RX5 16 "MustardFastModel" "stayOf" "[I", Cond.methodLink RX5 145 yX5_noEater, Cond.instanceMethod yX5_noEater, Cond.selects RX5 yX5_noEater yX5_noEater, Cond.initialized RX5, Cond.code yX5_noEater cX5_noEater 2 (some .boolean), Cond.fieldLink RX5 85 "MustardFastModel" "eaters" "I", Cond.methodLink RX5 81 yX5_in, Cond.static yX5_in, Cond.code yX5_in cX5_in 6 (some .boolean), Cond.methodLink RX5 195 yX5_areSo, Cond.instanceMethod yX5_areSo, Cond.selects RX5 yX5_areSo yX5_areSo, Cond.code yX5_areSo cX5_areSo 3 (some .boolean), Cond.fieldLink RX5 142 "MustardFastModel" "readings" "I", Cond.fieldLink RX5 44 "MustardFastModel" "readingOf" "[I", Cond.fieldLink RX5 47 "MustardFastModel" "readingBy" "[I", Cond.fieldLink RX5 50 "MustardFastModel" "readingOn" "[I", Cond.fieldLink RX5 53 "MustardFastModel" "readingWas" "[Z", Cond.methodLink RX5 168 yX5_foundBy, Cond.instanceMethod yX5_foundBy, Cond.selects RX5 yX5_foundBy yX5_foundBy, Cond.code yX5_foundBy cX5_foundBy 3 (some .int), Cond.methodLink RX5 161 yX5_yellowBy]
def wsX5_stays_r2 : List Cond := [Cond.instanceMethod yX5_yellowBy, Cond.selects RX5 yX5_yellowBy yX5_yellowBy, Cond.code yX5_yellowBy cX5_yellowBy 7 (some .int), Cond.fieldLink RX5 78 "MustardFastModel" "days" "I", Cond.methodLink RX5 148 yX5_lastsOf, Cond.instanceMethod yX5_lastsOf, Cond.selects RX5 yX5_lastsOf yX5_lastsOf, Cond.code yX5_lastsOf cX5_lastsOf 3 (some .int), Cond.fieldLink RX5 13 "MustardFastModel" "kindOf" "[I", Cond.methodLink RX5 158 yX5_isIn, Cond.static yX5_isIn, Cond.code yX5_isIn cX5_isIn 2 (some .boolean), Cond.methodLink RX5 164 yX5_fastsNow, Cond.instanceMethod yX5_fastsNow, Cond.selects RX5 yX5_fastsNow yX5_fastsNow, Cond.code yX5_fastsNow cX5_fastsNow 3 (some .int), Cond.fieldLink RX5 7 "MustardFastModel" "lookOf" "[I", Cond.fieldLink RX5 139 "MustardFastModel" "sourNow" "I", Cond.fieldLink RX5 25 "MustardFastModel" "smiled" "I"]
def wsX5_stays : List Cond := .code yX5_stays cX5_stays 5 (some .int) :: ((wsX5_stays_r1 ++ wsX5_stays_r2) ++ wsX50)
def wsX5_kinds_r1 : List Cond := [Cond.fieldLink RX5 13 "MustardFastModel" "kindOf" "[I", Cond.methodLink RX5 145 yX5_noEater, Cond.instanceMethod yX5_noEater, Cond.selects RX5 yX5_noEater yX5_noEater, Cond.initialized RX5, Cond.code yX5_noEater cX5_noEater 2 (some .boolean), Cond.fieldLink RX5 85 "MustardFastModel" "eaters" "I", Cond.methodLink RX5 81 yX5_in, Cond.static yX5_in, Cond.code yX5_in cX5_in 6 (some .boolean), Cond.methodLink RX5 195 yX5_areSo, Cond.instanceMethod yX5_areSo, Cond.selects RX5 yX5_areSo yX5_areSo, Cond.code yX5_areSo cX5_areSo 3 (some .boolean), Cond.fieldLink RX5 142 "MustardFastModel" "readings" "I", Cond.fieldLink RX5 44 "MustardFastModel" "readingOf" "[I", Cond.fieldLink RX5 47 "MustardFastModel" "readingBy" "[I", Cond.fieldLink RX5 50 "MustardFastModel" "readingOn" "[I", Cond.fieldLink RX5 53 "MustardFastModel" "readingWas" "[Z", Cond.methodLink RX5 168 yX5_foundBy, Cond.instanceMethod yX5_foundBy, Cond.selects RX5 yX5_foundBy yX5_foundBy, Cond.code yX5_foundBy cX5_foundBy 3 (some .int), Cond.methodLink RX5 161 yX5_yellowBy]
def wsX5_kinds_r2 : List Cond := [Cond.instanceMethod yX5_yellowBy, Cond.selects RX5 yX5_yellowBy yX5_yellowBy, Cond.code yX5_yellowBy cX5_yellowBy 7 (some .int), Cond.fieldLink RX5 78 "MustardFastModel" "days" "I", Cond.methodLink RX5 148 yX5_lastsOf, Cond.instanceMethod yX5_lastsOf, Cond.selects RX5 yX5_lastsOf yX5_lastsOf, Cond.code yX5_lastsOf cX5_lastsOf 3 (some .int), Cond.fieldLink RX5 16 "MustardFastModel" "stayOf" "[I", Cond.methodLink RX5 158 yX5_isIn, Cond.static yX5_isIn, Cond.code yX5_isIn cX5_isIn 2 (some .boolean), Cond.methodLink RX5 164 yX5_fastsNow, Cond.instanceMethod yX5_fastsNow, Cond.selects RX5 yX5_fastsNow yX5_fastsNow, Cond.code yX5_fastsNow cX5_fastsNow 3 (some .int), Cond.fieldLink RX5 7 "MustardFastModel" "lookOf" "[I", Cond.fieldLink RX5 139 "MustardFastModel" "sourNow" "I", Cond.fieldLink RX5 25 "MustardFastModel" "smiled" "I"]
def wsX5_kinds : List Cond := .code yX5_kinds cX5_kinds 5 (some .int) :: ((wsX5_kinds_r1 ++ wsX5_kinds_r2) ++ wsX50)
def wsX5_sours_r1 : List Cond := [Cond.fieldLink RX5 85 "MustardFastModel" "eaters" "I", Cond.fieldLink RX5 139 "MustardFastModel" "sourNow" "I", Cond.methodLink RX5 195 yX5_areSo, Cond.instanceMethod yX5_areSo, Cond.selects RX5 yX5_areSo yX5_areSo, Cond.initialized RX5, Cond.code yX5_areSo cX5_areSo 3 (some .boolean), Cond.fieldLink RX5 142 "MustardFastModel" "readings" "I", Cond.fieldLink RX5 44 "MustardFastModel" "readingOf" "[I", Cond.fieldLink RX5 47 "MustardFastModel" "readingBy" "[I", Cond.fieldLink RX5 50 "MustardFastModel" "readingOn" "[I", Cond.fieldLink RX5 53 "MustardFastModel" "readingWas" "[Z", Cond.methodLink RX5 168 yX5_foundBy, Cond.instanceMethod yX5_foundBy, Cond.selects RX5 yX5_foundBy yX5_foundBy, Cond.code yX5_foundBy cX5_foundBy 3 (some .int), Cond.methodLink RX5 161 yX5_yellowBy, Cond.instanceMethod yX5_yellowBy, Cond.selects RX5 yX5_yellowBy yX5_yellowBy, Cond.code yX5_yellowBy cX5_yellowBy 7 (some .int), Cond.fieldLink RX5 78 "MustardFastModel" "days" "I", Cond.methodLink RX5 148 yX5_lastsOf, Cond.instanceMethod yX5_lastsOf, Cond.selects RX5 yX5_lastsOf yX5_lastsOf]
def wsX5_sours_r2 : List Cond := [Cond.code yX5_lastsOf cX5_lastsOf 3 (some .int), Cond.fieldLink RX5 16 "MustardFastModel" "stayOf" "[I", Cond.fieldLink RX5 13 "MustardFastModel" "kindOf" "[I", Cond.methodLink RX5 158 yX5_isIn, Cond.static yX5_isIn, Cond.code yX5_isIn cX5_isIn 2 (some .boolean), Cond.methodLink RX5 164 yX5_fastsNow, Cond.instanceMethod yX5_fastsNow, Cond.selects RX5 yX5_fastsNow yX5_fastsNow, Cond.code yX5_fastsNow cX5_fastsNow 3 (some .int), Cond.fieldLink RX5 7 "MustardFastModel" "lookOf" "[I", Cond.fieldLink RX5 25 "MustardFastModel" "smiled" "I"]
def wsX5_sours : List Cond := .code yX5_sours cX5_sours 4 (some .int) :: ((wsX5_sours_r1 ++ wsX5_sours_r2) ++ wsX50)
def wsX5_odds_r1 : List Cond := [Cond.fieldLink RX5 78 "MustardFastModel" "days" "I", Cond.methodLink RX5 145 yX5_noEater, Cond.instanceMethod yX5_noEater, Cond.selects RX5 yX5_noEater yX5_noEater, Cond.initialized RX5, Cond.code yX5_noEater cX5_noEater 2 (some .boolean), Cond.fieldLink RX5 85 "MustardFastModel" "eaters" "I", Cond.methodLink RX5 81 yX5_in, Cond.static yX5_in, Cond.code yX5_in cX5_in 6 (some .boolean), Cond.methodLink RX5 174 yX5_noSet, Cond.instanceMethod yX5_noSet, Cond.selects RX5 yX5_noSet yX5_noSet, Cond.code yX5_noSet cX5_noSet 2 (some .boolean), Cond.methodLink RX5 74 yX5_lost, Cond.static yX5_lost, Cond.code yX5_lost cX5_lost 0 (some .long), Cond.constantLong RX5 69 (-9223372036854775808), Cond.methodLink RX5 161 yX5_yellowBy, Cond.instanceMethod yX5_yellowBy, Cond.selects RX5 yX5_yellowBy yX5_yellowBy, Cond.code yX5_yellowBy cX5_yellowBy 7 (some .int), Cond.methodLink RX5 148 yX5_lastsOf, Cond.instanceMethod yX5_lastsOf]
def wsX5_odds_r2 : List Cond := [Cond.selects RX5 yX5_lastsOf yX5_lastsOf, Cond.code yX5_lastsOf cX5_lastsOf 3 (some .int), Cond.fieldLink RX5 16 "MustardFastModel" "stayOf" "[I", Cond.fieldLink RX5 13 "MustardFastModel" "kindOf" "[I", Cond.methodLink RX5 158 yX5_isIn, Cond.static yX5_isIn, Cond.code yX5_isIn cX5_isIn 2 (some .boolean), Cond.methodLink RX5 199 yX5_share, Cond.static yX5_share, Cond.code yX5_share cX5_share 11 (some .long)]
def wsX5_odds : List Cond := .code yX5_odds cX5_odds 8 (some .long) :: ((wsX5_odds_r1 ++ wsX5_odds_r2) ++ wsX50)
def wsX5_sheet : List Cond := .code yX5_sheet cX5_sheet 5 (some .int) :: ([.constantLong RX5 130 (2), .fieldLink RX5 57 "MustardFastModel" "sheetSize" "[I", .fieldLink RX5 60 "MustardFastModel" "sheetLane" "[I", .fieldLink RX5 63 "MustardFastModel" "sheet" "[I", .methodLink RX5 123 yX5_noSheet, .static yX5_noSheet, .initialized RX5, .code yX5_noSheet cX5_noSheet 1 (some .boolean), .constantLong RX5 180 (3), .methodLink RX5 81 yX5_in, .static yX5_in, .code yX5_in cX5_in 6 (some .boolean), .methodLink RX5 127 yX5_refused, .instanceMethod yX5_refused, .selects RX5 yX5_refused yX5_refused, .code yX5_refused cX5_refused 2 (some .int), .fieldLink RX5 71 "MustardFastModel" "fault" "I", .methodLink RX5 115 yX5_failed, .instanceMethod yX5_failed, .selects RX5 yX5_failed yX5_failed, .code yX5_failed cX5_failed 2 (some .int)] ++ wsX50)
def wsX5_lose : List Cond := .code yX5_lose cX5_lose 3 (some .int) :: ([.fieldLink RX5 57 "MustardFastModel" "sheetSize" "[I", .methodLink RX5 123 yX5_noSheet, .static yX5_noSheet, .initialized RX5, .code yX5_noSheet cX5_noSheet 1 (some .boolean), .constantLong RX5 180 (3), .methodLink RX5 81 yX5_in, .static yX5_in, .code yX5_in cX5_in 6 (some .boolean)] ++ wsX50)
def wsX5_noCell : List Cond := .code yX5_noCell cX5_noCell 3 (some .int) :: ([.fieldLink RX5 57 "MustardFastModel" "sheetSize" "[I", .methodLink RX5 81 yX5_in, .static yX5_in, .initialized RX5, .code yX5_in cX5_in 6 (some .boolean)] ++ wsX50)
def wsX5_put : List Cond := .code yX5_put cX5_put 4 (some .int) :: ([.fieldLink RX5 63 "MustardFastModel" "sheet" "[I", .fieldLink RX5 60 "MustardFastModel" "sheetLane" "[I", .methodLink RX5 123 yX5_noSheet, .static yX5_noSheet, .initialized RX5, .code yX5_noSheet cX5_noSheet 1 (some .boolean), .constantLong RX5 180 (3), .methodLink RX5 81 yX5_in, .static yX5_in, .code yX5_in cX5_in 6 (some .boolean), .methodLink RX5 127 yX5_refused, .instanceMethod yX5_refused, .selects RX5 yX5_refused yX5_refused, .code yX5_refused cX5_refused 2 (some .int), .fieldLink RX5 71 "MustardFastModel" "fault" "I", .methodLink RX5 203 yX5_noCell, .instanceMethod yX5_noCell, .selects RX5 yX5_noCell yX5_noCell, .code yX5_noCell cX5_noCell 3 (some .int), .fieldLink RX5 57 "MustardFastModel" "sheetSize" "[I", .methodLink RX5 115 yX5_failed, .instanceMethod yX5_failed, .selects RX5 yX5_failed yX5_failed, .code yX5_failed cX5_failed 2 (some .int)] ++ wsX50)
def wsX5_cell_r1 : List Cond := [Cond.fieldLink RX5 71 "MustardFastModel" "fault" "I", Cond.constantLong RX5 130 (2), Cond.fieldLink RX5 57 "MustardFastModel" "sheetSize" "[I", Cond.fieldLink RX5 60 "MustardFastModel" "sheetLane" "[I", Cond.fieldLink RX5 63 "MustardFastModel" "sheet" "[I", Cond.methodLink RX5 123 yX5_noSheet, Cond.static yX5_noSheet, Cond.initialized RX5, Cond.code yX5_noSheet cX5_noSheet 1 (some .boolean), Cond.constantLong RX5 180 (3), Cond.methodLink RX5 81 yX5_in, Cond.static yX5_in, Cond.code yX5_in cX5_in 6 (some .boolean), Cond.methodLink RX5 74 yX5_lost, Cond.static yX5_lost, Cond.code yX5_lost cX5_lost 0 (some .long), Cond.constantLong RX5 69 (-9223372036854775808), Cond.methodLink RX5 206 yX5_failedLong, Cond.instanceMethod yX5_failedLong, Cond.selects RX5 yX5_failedLong yX5_failedLong, Cond.code yX5_failedLong cX5_failedLong 2 (some .long), Cond.methodLink RX5 203 yX5_noCell, Cond.instanceMethod yX5_noCell, Cond.selects RX5 yX5_noCell yX5_noCell]
def wsX5_cell_r2 : List Cond := [Cond.code yX5_noCell cX5_noCell 3 (some .int)]
def wsX5_cell : List Cond := .code yX5_cell cX5_cell 4 (some .long) :: ((wsX5_cell_r1 ++ wsX5_cell_r2) ++ wsX50)
def wsX5_copy : List Cond := .code yX5_copy cX5_copy 7 (some .int) :: ([.fieldLink RX5 57 "MustardFastModel" "sheetSize" "[I", .fieldLink RX5 60 "MustardFastModel" "sheetLane" "[I", .fieldLink RX5 66 "MustardFastModel" "hands" "[I", .fieldLink RX5 63 "MustardFastModel" "sheet" "[I", .methodLink RX5 123 yX5_noSheet, .static yX5_noSheet, .initialized RX5, .code yX5_noSheet cX5_noSheet 1 (some .boolean), .constantLong RX5 180 (3), .methodLink RX5 81 yX5_in, .static yX5_in, .code yX5_in cX5_in 6 (some .boolean), .methodLink RX5 127 yX5_refused, .instanceMethod yX5_refused, .selects RX5 yX5_refused yX5_refused, .code yX5_refused cX5_refused 2 (some .int), .fieldLink RX5 71 "MustardFastModel" "fault" "I", .methodLink RX5 115 yX5_failed, .instanceMethod yX5_failed, .selects RX5 yX5_failed yX5_failed, .code yX5_failed cX5_failed 2 (some .int), .methodLink RX5 119 yX5_isBeyond, .static yX5_isBeyond, .code yX5_isBeyond cX5_isBeyond 4 (some .boolean)] ++ wsX50)
def wsX5_traced : List Cond := .code yX5_traced cX5_traced 2 none :: ([.fieldLink RX5 210 "MustardFastModel" "traceNow" "I"] ++ wsX50)
def wsX5_tell : List Cond := .code yX5_tell cX5_tell 4 (some .int) :: ([.fieldLink RX5 13 "MustardFastModel" "kindOf" "[I", .fieldLink RX5 19 "MustardFastModel" "spoonsOf" "[I", .methodLink RX5 145 yX5_noEater, .instanceMethod yX5_noEater, .selects RX5 yX5_noEater yX5_noEater, .initialized RX5, .code yX5_noEater cX5_noEater 2 (some .boolean), .fieldLink RX5 85 "MustardFastModel" "eaters" "I", .methodLink RX5 81 yX5_in, .static yX5_in, .code yX5_in cX5_in 6 (some .boolean), .methodLink RX5 213 yX5_traced, .instanceMethod yX5_traced, .selects RX5 yX5_traced yX5_traced, .code yX5_traced cX5_traced 2 none, .fieldLink RX5 210 "MustardFastModel" "traceNow" "I"] ++ wsX50)
def wsX5_sniff : List Cond := .code yX5_sniff cX5_sniff 2 (some .int) :: ([.fieldLink RX5 13 "MustardFastModel" "kindOf" "[I", .methodLink RX5 145 yX5_noEater, .instanceMethod yX5_noEater, .selects RX5 yX5_noEater yX5_noEater, .initialized RX5, .code yX5_noEater cX5_noEater 2 (some .boolean), .fieldLink RX5 85 "MustardFastModel" "eaters" "I", .methodLink RX5 81 yX5_in, .static yX5_in, .code yX5_in cX5_in 6 (some .boolean), .methodLink RX5 213 yX5_traced, .instanceMethod yX5_traced, .selects RX5 yX5_traced yX5_traced, .code yX5_traced cX5_traced 2 none, .fieldLink RX5 210 "MustardFastModel" "traceNow" "I"] ++ wsX50)
def wsX5_as : List Cond := .code yX5_as cX5_as 3 (some .int) :: ([.constantLong RX5 130 (2), .fieldLink RX5 13 "MustardFastModel" "kindOf" "[I", .methodLink RX5 145 yX5_noEater, .instanceMethod yX5_noEater, .selects RX5 yX5_noEater yX5_noEater, .initialized RX5, .code yX5_noEater cX5_noEater 2 (some .boolean), .fieldLink RX5 85 "MustardFastModel" "eaters" "I", .methodLink RX5 81 yX5_in, .static yX5_in, .code yX5_in cX5_in 6 (some .boolean), .methodLink RX5 127 yX5_refused, .instanceMethod yX5_refused, .selects RX5 yX5_refused yX5_refused, .code yX5_refused cX5_refused 2 (some .int), .fieldLink RX5 71 "MustardFastModel" "fault" "I", .methodLink RX5 115 yX5_failed, .instanceMethod yX5_failed, .selects RX5 yX5_failed yX5_failed, .code yX5_failed cX5_failed 2 (some .int)] ++ wsX50)
def wsX5_trace : List Cond := .code yX5_trace cX5_trace 1 (some .int) :: ([.fieldLink RX5 210 "MustardFastModel" "traceNow" "I"] ++ wsX50)
def wsX5_fault : List Cond := .code yX5_fault cX5_fault 1 (some .int) :: ([.fieldLink RX5 71 "MustardFastModel" "fault" "I"] ++ wsX50)
def wsX5_many : List Cond := .code yX5_many cX5_many 2 (some .int) :: ([.fieldLink RX5 85 "MustardFastModel" "eaters" "I", .fieldLink RX5 78 "MustardFastModel" "days" "I", .fieldLink RX5 139 "MustardFastModel" "sourNow" "I", .fieldLink RX5 142 "MustardFastModel" "readings" "I"] ++ wsX50)
def wsL_law_r1 : List Cond := [Cond.classLink RL 7 RX4, Cond.instantiable RX4 5, Cond.initialized RX4, Cond.classLink RL 10 RX5, Cond.instantiable RX5 29, Cond.initialized RX5, Cond.methodLink RL 9 yX4_init, Cond.instanceMethod yX4_init, Cond.code yX4_init cX4_init 2 none, Cond.methodLink RX4 3 objectInit, Cond.instanceMethod objectInit, Cond.code objectInit ⟨#[0xb1]⟩ 1 none, Cond.classLink RX4 9 RX0, Cond.instantiable RX0 8, Cond.initialized RX0, Cond.fieldLink RX4 12 "MustardFast" "duchy" "LMustardFast$Duchy;", Cond.classLink RX4 18 RX1, Cond.instantiable RX1 5, Cond.initialized RX1, Cond.fieldLink RX4 21 "MustardFast" "readings" "LMustardFast$Readings;", Cond.classLink RX4 25 RX2, Cond.fieldLink RX4 27 "MustardFast" "sheets" "[LMustardFast$Sheet;", Cond.instantiable RX2 3, Cond.initialized RX2]
def wsL_law_r2 : List Cond := [Cond.instanceMethod yX0_init, Cond.code yX0_init cX0_init 1 none, Cond.methodLink RX0 3 objectInit, Cond.arrayClass .int, Cond.fieldLink RX0 9 "MustardFast$Duchy" "looks" "[I", Cond.fieldLink RX0 15 "MustardFast$Duchy" "eaterKinds" "[I", Cond.fieldLink RX0 18 "MustardFast$Duchy" "eaterStays" "[I", Cond.fieldLink RX0 21 "MustardFast$Duchy" "eaterSpoons" "[I", Cond.fieldLink RX0 24 "MustardFast$Duchy" "eaterNeeds" "[I", Cond.instanceMethod yX1_init, Cond.code yX1_init cX1_init 1 none, Cond.methodLink RX1 3 objectInit, Cond.fieldLink RX1 9 "MustardFast$Readings" "ofEaters" "[I", Cond.fieldLink RX1 15 "MustardFast$Readings" "eatenSets" "[I", Cond.fieldLink RX1 18 "MustardFast$Readings" "onDays" "[I", Cond.arrayClass .boolean, Cond.fieldLink RX1 21 "MustardFast$Readings" "wereFound" "[Z", Cond.instanceMethod yX2_init, Cond.code yX2_init cX2_init 1 none, Cond.methodLink RX2 3 objectInit, Cond.fieldLink RX2 9 "MustardFast$Sheet" "cells" "[I", Cond.fieldLink RX2 15 "MustardFast$Sheet" "length" "I", Cond.methodLink RL 12 yX5_init, Cond.instanceMethod yX5_init]
def wsL_law_r3 : List Cond := [Cond.code yX5_init cX5_init 2 none, Cond.methodLink RX5 1 objectInit, Cond.fieldLink RX5 7 "MustardFastModel" "lookOf" "[I", Cond.fieldLink RX5 13 "MustardFastModel" "kindOf" "[I", Cond.fieldLink RX5 16 "MustardFastModel" "stayOf" "[I", Cond.fieldLink RX5 19 "MustardFastModel" "spoonsOf" "[I", Cond.fieldLink RX5 22 "MustardFastModel" "needOf" "[I", Cond.fieldLink RX5 25 "MustardFastModel" "smiled" "I", Cond.fieldLink RX5 29 "MustardFastModel" "readLook" "[I", Cond.fieldLink RX5 32 "MustardFastModel" "readKind" "[I", Cond.fieldLink RX5 35 "MustardFastModel" "readStay" "[I", Cond.fieldLink RX5 38 "MustardFastModel" "readSpoons" "[I", Cond.fieldLink RX5 41 "MustardFastModel" "readNeed" "[I", Cond.fieldLink RX5 44 "MustardFastModel" "readingOf" "[I", Cond.fieldLink RX5 47 "MustardFastModel" "readingBy" "[I", Cond.fieldLink RX5 50 "MustardFastModel" "readingOn" "[I", Cond.fieldLink RX5 53 "MustardFastModel" "readingWas" "[Z", Cond.fieldLink RX5 57 "MustardFastModel" "sheetSize" "[I", Cond.fieldLink RX5 60 "MustardFastModel" "sheetLane" "[I", Cond.fieldLink RX5 63 "MustardFastModel" "sheet" "[I", Cond.fieldLink RX5 66 "MustardFastModel" "hands" "[I", Cond.methodLink RL 13 yX4_duchy, Cond.instanceMethod yX4_duchy, Cond.selects RX4 yX4_duchy yX4_duchy]
def wsL_law_r4 : List Cond := [Cond.code yX4_duchy cX4_duchy 8 (some .int), Cond.fieldLink RX4 32 "MustardFast" "latestFault" "I", Cond.methodLink RX4 36 yX4_sheetAt, Cond.instanceMethod yX4_sheetAt, Cond.selects RX4 yX4_sheetAt yX4_sheetAt, Cond.code yX4_sheetAt cX4_sheetAt 2 (some (.object "MustardFast$Sheet")), Cond.methodLink RX4 40 yX4_isLane, Cond.static yX4_isLane, Cond.code yX4_isLane cX4_isLane 1 (some .boolean), Cond.methodLink RX4 44 yX2_faultOfCells, Cond.instanceMethod yX2_faultOfCells, Cond.selects RX2 yX2_faultOfCells yX2_faultOfCells, Cond.code yX2_faultOfCells cX2_faultOfCells 4 (some .int), Cond.fieldLink RX2 19 "MustardFast$Sheet" "lane" "I", Cond.methodLink RX2 28 yX2_hasRow, Cond.instanceMethod yX2_hasRow, Cond.selects RX2 yX2_hasRow yX2_hasRow, Cond.code yX2_hasRow cX2_hasRow 1 (some .boolean), Cond.methodLink RX2 32 yX2_hasCells, Cond.instanceMethod yX2_hasCells, Cond.selects RX2 yX2_hasCells yX2_hasCells, Cond.code yX2_hasCells cX2_hasCells 3 (some .boolean), Cond.methodLink RX4 48 yX4_faulted, Cond.instanceMethod yX4_faulted]
def wsL_law_r5 : List Cond := [Cond.selects RX4 yX4_faulted yX4_faulted, Cond.code yX4_faulted cX4_faulted 2 (some .int), Cond.methodLink RX4 52 yX3_firstFault, Cond.static yX3_firstFault, Cond.initialized RX3, Cond.code yX3_firstFault cX3_firstFault 7 (some .int), Cond.methodLink RX3 11 yX2_numberAt, Cond.instanceMethod yX2_numberAt, Cond.selects RX2 yX2_numberAt yX2_numberAt, Cond.code yX2_numberAt cX2_numberAt 2 (some .int), Cond.static yX4_numberIn, Cond.code yX4_numberIn cX4_numberIn 2 (some .int), Cond.methodLink RX3 17 yX3_stepAfter, Cond.static yX3_stepAfter, Cond.code yX3_stepAfter cX3_stepAfter 4 (some .int), Cond.methodLink RX3 21 yX3_isDigit, Cond.static yX3_isDigit, Cond.code yX3_isDigit cX3_isDigit 3 (some .boolean), Cond.methodLink RX3 25 yX3_stepAfterDay, Cond.static yX3_stepAfterDay, Cond.code yX3_stepAfterDay cX3_stepAfterDay 2 (some .int), Cond.methodLink RX3 29 yX3_kindByLetter, Cond.static yX3_kindByLetter, Cond.code yX3_kindByLetter cX3_kindByLetter 1 (some .int)]
def wsL_law_r6 : List Cond := [Cond.methodLink RX4 58 yX0_takeText, Cond.instanceMethod yX0_takeText, Cond.selects RX0 yX0_takeText yX0_takeText, Cond.code yX0_takeText cX0_takeText 5 none, Cond.fieldLink RX0 33 "MustardFast$Duchy" "sourFrom" "I", Cond.fieldLink RX0 37 "MustardFast$Duchy" "days" "I", Cond.fieldLink RX0 40 "MustardFast$Duchy" "eaters" "I", Cond.methodLink RX0 27 yX3_digitAt, Cond.static yX3_digitAt, Cond.code yX3_digitAt cX3_digitAt 2 (some .int), Cond.methodLink RX0 43 yX3_isDigitAt, Cond.static yX3_isDigitAt, Cond.code yX3_isDigitAt cX3_isDigitAt 2 (some .boolean), Cond.static yX4_changeIn, Cond.code yX4_changeIn cX4_changeIn 3 none, Cond.methodLink RX0 51 yX2_numberAt, Cond.methodLink RX0 57 yX3_kindByLetter, Cond.methodLink RX4 62 yX1_dropAll, Cond.instanceMethod yX1_dropAll, Cond.selects RX1 yX1_dropAll yX1_dropAll, Cond.code yX1_dropAll cX1_dropAll 1 none, Cond.fieldLink RX1 25 "MustardFast$Readings" "count" "I", Cond.methodLink RX4 65 yX0_eaterCount, Cond.instanceMethod yX0_eaterCount]
def wsL_law_r7 : List Cond := [Cond.selects RX0 yX0_eaterCount yX0_eaterCount, Cond.code yX0_eaterCount cX0_eaterCount 1 (some .int), Cond.methodLink RL 17 yX5_duchy, Cond.instanceMethod yX5_duchy, Cond.selects RX5 yX5_duchy yX5_duchy, Cond.code yX5_duchy cX5_duchy 7 (some .int), Cond.constantLong RX5 130 (2), Cond.fieldLink RX5 88 "MustardFastModel" "readAt" "I", Cond.fieldLink RX5 105 "MustardFastModel" "readSour" "I", Cond.fieldLink RX5 139 "MustardFastModel" "sourNow" "I", Cond.fieldLink RX5 95 "MustardFastModel" "readDays" "I", Cond.fieldLink RX5 78 "MustardFastModel" "days" "I", Cond.fieldLink RX5 102 "MustardFastModel" "readEaters" "I", Cond.fieldLink RX5 85 "MustardFastModel" "eaters" "I", Cond.fieldLink RX5 142 "MustardFastModel" "readings" "I", Cond.methodLink RX5 123 yX5_noSheet, Cond.static yX5_noSheet, Cond.code yX5_noSheet cX5_noSheet 1 (some .boolean), Cond.constantLong RX5 180 (3), Cond.methodLink RX5 81 yX5_in, Cond.static yX5_in, Cond.code yX5_in cX5_in 6 (some .boolean), Cond.methodLink RX5 127 yX5_refused, Cond.instanceMethod yX5_refused]
def wsL_law_r8 : List Cond := [Cond.selects RX5 yX5_refused yX5_refused, Cond.code yX5_refused cX5_refused 2 (some .int), Cond.fieldLink RX5 71 "MustardFastModel" "fault" "I", Cond.methodLink RX5 132 yX5_cellsBarred, Cond.instanceMethod yX5_cellsBarred, Cond.selects RX5 yX5_cellsBarred yX5_cellsBarred, Cond.code yX5_cellsBarred cX5_cellsBarred 6 (some .int), Cond.methodLink RX5 115 yX5_failed, Cond.instanceMethod yX5_failed, Cond.selects RX5 yX5_failed yX5_failed, Cond.code yX5_failed cX5_failed 2 (some .int), Cond.methodLink RX5 119 yX5_isBeyond, Cond.static yX5_isBeyond, Cond.code yX5_isBeyond cX5_isBeyond 4 (some .boolean), Cond.methodLink RX5 136 yX5_readsDuchy, Cond.instanceMethod yX5_readsDuchy, Cond.selects RX5 yX5_readsDuchy yX5_readsDuchy, Cond.code yX5_readsDuchy cX5_readsDuchy 4 (some .boolean), Cond.methodLink RX5 91 yX5_codeAt, Cond.instanceMethod yX5_codeAt, Cond.selects RX5 yX5_codeAt yX5_codeAt, Cond.code yX5_codeAt cX5_codeAt 3 (some .int), Cond.methodLink RX5 98 yX5_figure, Cond.instanceMethod yX5_figure]
def wsL_law_r9 : List Cond := [Cond.selects RX5 yX5_figure yX5_figure, Cond.code yX5_figure cX5_figure 7 (some .int), Cond.methodLink RX5 108 yX5_readsDays, Cond.instanceMethod yX5_readsDays, Cond.selects RX5 yX5_readsDays yX5_readsDays, Cond.code yX5_readsDays cX5_readsDays 5 (some .boolean), Cond.methodLink RX5 112 yX5_readsEater, Cond.instanceMethod yX5_readsEater, Cond.selects RX5 yX5_readsEater yX5_readsEater, Cond.code yX5_readsEater cX5_readsEater 7 (some .boolean), Cond.methodLink RL 18 yX4_ofEater, Cond.instanceMethod yX4_ofEater, Cond.selects RX4 yX4_ofEater yX4_ofEater, Cond.code yX4_ofEater cX4_ofEater 3 (some .int), Cond.methodLink RX4 69 yX0_hasEater, Cond.instanceMethod yX0_hasEater, Cond.selects RX0 yX0_hasEater yX0_hasEater, Cond.code yX0_hasEater cX0_hasEater 2 (some .boolean), Cond.methodLink RX4 72 yX0_kindOf, Cond.instanceMethod yX0_kindOf, Cond.selects RX0 yX0_kindOf yX0_kindOf, Cond.code yX0_kindOf cX0_kindOf 2 (some .int), Cond.methodLink RX4 75 yX0_stayOf, Cond.instanceMethod yX0_stayOf]
def wsL_law_r10 : List Cond := [Cond.selects RX0 yX0_stayOf yX0_stayOf, Cond.code yX0_stayOf cX0_stayOf 2 (some .int), Cond.methodLink RX4 78 yX0_spoonsOf, Cond.instanceMethod yX0_spoonsOf, Cond.selects RX0 yX0_spoonsOf yX0_spoonsOf, Cond.code yX0_spoonsOf cX0_spoonsOf 2 (some .int), Cond.methodLink RX4 81 yX0_needOf, Cond.instanceMethod yX0_needOf, Cond.selects RX0 yX0_needOf yX0_needOf, Cond.code yX0_needOf cX0_needOf 2 (some .int), Cond.methodLink RX4 84 yX0_lastsOf, Cond.instanceMethod yX0_lastsOf, Cond.selects RX0 yX0_lastsOf yX0_lastsOf, Cond.code yX0_lastsOf cX0_lastsOf 2 (some .int), Cond.methodLink RX0 68 yX0_lastsBy, Cond.static yX0_lastsBy, Cond.code yX0_lastsBy cX0_lastsBy 3 (some .int), Cond.methodLink RL 22 yX5_ofEater, Cond.instanceMethod yX5_ofEater, Cond.selects RX5 yX5_ofEater yX5_ofEater, Cond.code yX5_ofEater cX5_ofEater 3 (some .int), Cond.methodLink RX5 145 yX5_noEater, Cond.instanceMethod yX5_noEater, Cond.selects RX5 yX5_noEater yX5_noEater]
def wsL_law_r11 : List Cond := [Cond.code yX5_noEater cX5_noEater 2 (some .boolean), Cond.methodLink RX5 148 yX5_lastsOf, Cond.instanceMethod yX5_lastsOf, Cond.selects RX5 yX5_lastsOf yX5_lastsOf, Cond.code yX5_lastsOf cX5_lastsOf 3 (some .int), Cond.methodLink RL 23 yX4_look, Cond.instanceMethod yX4_look, Cond.selects RX4 yX4_look yX4_look, Cond.code yX4_look cX4_look 2 (some .int), Cond.methodLink RX4 87 yX0_hasDay, Cond.instanceMethod yX0_hasDay, Cond.selects RX0 yX0_hasDay yX0_hasDay, Cond.code yX0_hasDay cX0_hasDay 2 (some .boolean), Cond.methodLink RX4 90 yX0_lookOf, Cond.instanceMethod yX0_lookOf, Cond.selects RX0 yX0_lookOf yX0_lookOf, Cond.code yX0_lookOf cX0_lookOf 2 (some .int), Cond.methodLink RL 27 yX5_look, Cond.instanceMethod yX5_look, Cond.selects RX5 yX5_look yX5_look, Cond.code yX5_look cX5_look 2 (some .int), Cond.methodLink RX5 151 yX5_noDay, Cond.instanceMethod yX5_noDay, Cond.selects RX5 yX5_noDay yX5_noDay]
def wsL_law_r12 : List Cond := [Cond.code yX5_noDay cX5_noDay 2 (some .boolean), Cond.methodLink RL 28 yX4_pull, Cond.instanceMethod yX4_pull, Cond.selects RX4 yX4_pull yX4_pull, Cond.code yX4_pull cX4_pull 4 (some .int), Cond.methodLink RX4 93 yX4_isFrom0To, Cond.static yX4_isFrom0To, Cond.code yX4_isFrom0To cX4_isFrom0To 2 (some .boolean), Cond.methodLink RX4 97 yX0_changeLook, Cond.instanceMethod yX0_changeLook, Cond.selects RX0 yX0_changeLook yX0_changeLook, Cond.code yX0_changeLook cX0_changeLook 3 none, Cond.methodLink RL 31 yX5_pull, Cond.instanceMethod yX5_pull, Cond.selects RX5 yX5_pull yX5_pull, Cond.code yX5_pull cX5_pull 4 (some .int), Cond.constantLong RX5 154 (9), Cond.methodLink RL 32 yX4_sour, Cond.instanceMethod yX4_sour, Cond.selects RX4 yX4_sour yX4_sour, Cond.code yX4_sour cX4_sour 3 (some .int), Cond.methodLink RX4 101 yX0_isTold, Cond.instanceMethod yX0_isTold, Cond.selects RX0 yX0_isTold yX0_isTold]
def wsL_law_r13 : List Cond := [Cond.code yX0_isTold cX0_isTold 1 (some .boolean), Cond.methodLink RX4 105 yX0_sourLook, Cond.instanceMethod yX0_sourLook, Cond.selects RX0 yX0_sourLook yX0_sourLook, Cond.code yX0_sourLook cX0_sourLook 1 (some .int), Cond.methodLink RX4 108 yX0_changeSour, Cond.instanceMethod yX0_changeSour, Cond.selects RX0 yX0_changeSour yX0_changeSour, Cond.code yX0_changeSour cX0_changeSour 2 none, Cond.methodLink RL 35 yX5_sour, Cond.instanceMethod yX5_sour, Cond.selects RX5 yX5_sour yX5_sour, Cond.code yX5_sour cX5_sour 3 (some .int), Cond.methodLink RL 36 yX4_crave, Cond.instanceMethod yX4_crave, Cond.selects RX4 yX4_crave yX4_crave, Cond.code yX4_crave cX4_crave 4 (some .int), Cond.methodLink RX4 112 yX0_changeNeed, Cond.instanceMethod yX0_changeNeed, Cond.selects RX0 yX0_changeNeed yX0_changeNeed, Cond.code yX0_changeNeed cX0_changeNeed 3 none, Cond.methodLink RL 39 yX5_crave, Cond.instanceMethod yX5_crave, Cond.selects RX5 yX5_crave yX5_crave]
def wsL_law_r14 : List Cond := [Cond.code yX5_crave cX5_crave 4 (some .int), Cond.constantLong RX5 156 (6), Cond.methodLink RL 40 yX4_fasts, Cond.instanceMethod yX4_fasts, Cond.selects RX4 yX4_fasts yX4_fasts, Cond.code yX4_fasts cX4_fasts 1 (some .int), Cond.methodLink RX4 115 yX0_fastDays, Cond.instanceMethod yX0_fastDays, Cond.selects RX0 yX0_fastDays yX0_fastDays, Cond.code yX0_fastDays cX0_fastDays 3 (some .int), Cond.methodLink RL 44 yX5_fasts, Cond.instanceMethod yX5_fasts, Cond.selects RX5 yX5_fasts yX5_fasts, Cond.code yX5_fasts cX5_fasts 1 (some .int), Cond.methodLink RX5 164 yX5_fastsNow, Cond.instanceMethod yX5_fastsNow, Cond.selects RX5 yX5_fastsNow yX5_fastsNow, Cond.code yX5_fastsNow cX5_fastsNow 3 (some .int), Cond.methodLink RL 45 yX4_yellow, Cond.instanceMethod yX4_yellow, Cond.selects RX4 yX4_yellow yX4_yellow, Cond.code yX4_yellow cX4_yellow 3 (some .int), Cond.methodLink RX4 118 yX0_hasDays, Cond.instanceMethod yX0_hasDays]
def wsL_law_r15 : List Cond := [Cond.selects RX0 yX0_hasDays yX0_hasDays, Cond.code yX0_hasDays cX0_hasDays 2 (some .boolean), Cond.methodLink RX0 60 yX0_allDays, Cond.instanceMethod yX0_allDays, Cond.selects RX0 yX0_allDays yX0_allDays, Cond.code yX0_allDays cX0_allDays 1 (some .int), Cond.methodLink RX4 121 yX0_yellowDays, Cond.instanceMethod yX0_yellowDays, Cond.selects RX0 yX0_yellowDays yX0_yellowDays, Cond.code yX0_yellowDays cX0_yellowDays 5 (some .int), Cond.methodLink RL 48 yX5_yellow, Cond.instanceMethod yX5_yellow, Cond.selects RX5 yX5_yellow yX5_yellow, Cond.code yX5_yellow cX5_yellow 3 (some .int), Cond.methodLink RX5 174 yX5_noSet, Cond.instanceMethod yX5_noSet, Cond.selects RX5 yX5_noSet yX5_noSet, Cond.code yX5_noSet cX5_noSet 2 (some .boolean), Cond.methodLink RX5 161 yX5_yellowBy, Cond.instanceMethod yX5_yellowBy, Cond.selects RX5 yX5_yellowBy yX5_yellowBy, Cond.code yX5_yellowBy cX5_yellowBy 7 (some .int), Cond.methodLink RX5 158 yX5_isIn, Cond.static yX5_isIn]
def wsL_law_r16 : List Cond := [Cond.code yX5_isIn cX5_isIn 2 (some .boolean), Cond.methodLink RL 49 yX4_found, Cond.instanceMethod yX4_found, Cond.selects RX4 yX4_found yX4_found, Cond.code yX4_found cX4_found 4 (some .int), Cond.methodLink RX4 125 yX0_foundDays, Cond.instanceMethod yX0_foundDays, Cond.selects RX0 yX0_foundDays yX0_foundDays, Cond.code yX0_foundDays cX0_foundDays 3 (some .int), Cond.methodLink RX0 75 yX0_lastsOf, Cond.methodLink RX0 78 yX0_yellowDays, Cond.methodLink RX0 72 yX0_fastDays, Cond.methodLink RX4 128 yX0_fineOf, Cond.instanceMethod yX0_fineOf, Cond.selects RX0 yX0_fineOf yX0_fineOf, Cond.code yX0_fineOf cX0_fineOf 3 (some .int), Cond.methodLink RX0 81 yX0_foundDays, Cond.methodLink RX0 84 yJ6_bitCount_0f7a4, Cond.static yJ6_bitCount_0f7a4, Cond.initialized RJ6, Cond.code yJ6_bitCount_0f7a4 cJ6_bitCount_0f7a4 1 (some .int), Cond.constant RJ6 265 (1431655765), Cond.constant RJ6 266 (858993459), Cond.constant RJ6 267 (252645135)]
def wsL_law_r17 : List Cond := [Cond.methodLink RX0 89 yX0_spoonsOf, Cond.methodLink RL 53 yX5_found, Cond.instanceMethod yX5_found, Cond.selects RX5 yX5_found yX5_found, Cond.code yX5_found cX5_found 4 (some .int), Cond.methodLink RX5 168 yX5_foundBy, Cond.instanceMethod yX5_foundBy, Cond.selects RX5 yX5_foundBy yX5_foundBy, Cond.code yX5_foundBy cX5_foundBy 3 (some .int), Cond.methodLink RX5 177 yX5_fineOf, Cond.instanceMethod yX5_fineOf, Cond.selects RX5 yX5_fineOf yX5_fineOf, Cond.code yX5_fineOf cX5_fineOf 3 (some .int), Cond.methodLink RX5 171 yX5_bits, Cond.static yX5_bits, Cond.code yX5_bits cX5_bits 3 (some .int), Cond.methodLink RL 54 yX4_plan, Cond.instanceMethod yX4_plan, Cond.selects RX4 yX4_plan yX4_plan, Cond.code yX4_plan cX4_plan 8 (some .int), Cond.methodLink RX4 131 yX4_isAskedOfPlans, Cond.static yX4_isAskedOfPlans, Cond.code yX4_isAskedOfPlans cX4_isAskedOfPlans 1 (some .boolean), Cond.methodLink RX4 134 yX0_hasPlan]
def wsL_law_r18 : List Cond := [Cond.instanceMethod yX0_hasPlan, Cond.selects RX0 yX0_hasPlan yX0_hasPlan, Cond.code yX0_hasPlan cX0_hasPlan 5 (some .boolean), Cond.methodLink RX0 95 yX0_hasDays, Cond.methodLink RX4 138 yX4_ofPlan, Cond.instanceMethod yX4_ofPlan, Cond.selects RX4 yX4_ofPlan yX4_ofPlan, Cond.code yX4_ofPlan cX4_ofPlan 4 (some .int), Cond.methodLink RX4 141 yX0_finesOfPlan, Cond.instanceMethod yX0_finesOfPlan, Cond.selects RX0 yX0_finesOfPlan yX0_finesOfPlan, Cond.code yX0_finesOfPlan cX0_finesOfPlan 5 (some .int), Cond.methodLink RX0 99 yX0_fineOf, Cond.methodLink RX4 145 yX0_firstDayOfPlan, Cond.instanceMethod yX0_firstDayOfPlan, Cond.selects RX0 yX0_firstDayOfPlan yX0_firstDayOfPlan, Cond.code yX0_firstDayOfPlan cX0_firstDayOfPlan 5 (some .int), Cond.methodLink RX4 148 yX0_foundEatersOfPlan, Cond.instanceMethod yX0_foundEatersOfPlan, Cond.selects RX0 yX0_foundEatersOfPlan yX0_foundEatersOfPlan, Cond.code yX0_foundEatersOfPlan cX0_foundEatersOfPlan 5 (some .int), Cond.methodLink RX4 151 yX0_starvedEatersOfPlan, Cond.instanceMethod yX0_starvedEatersOfPlan, Cond.selects RX0 yX0_starvedEatersOfPlan yX0_starvedEatersOfPlan]
def wsL_law_r19 : List Cond := [Cond.code yX0_starvedEatersOfPlan cX0_starvedEatersOfPlan 5 (some .int), Cond.methodLink RX0 102 yX0_needOf, Cond.methodLink RX4 154 yX0_foundOnDayOfPlan, Cond.instanceMethod yX0_foundOnDayOfPlan, Cond.selects RX0 yX0_foundOnDayOfPlan yX0_foundOnDayOfPlan, Cond.code yX0_foundOnDayOfPlan cX0_foundOnDayOfPlan 6 (some .int), Cond.methodLink RL 58 yX5_plan, Cond.instanceMethod yX5_plan, Cond.selects RX5 yX5_plan yX5_plan, Cond.code yX5_plan cX5_plan 9 (some .int), Cond.constantLong RX5 182 (10), Cond.constantLong RX5 184 (15), Cond.methodLink RX5 186 yX5_planBy, Cond.instanceMethod yX5_planBy, Cond.selects RX5 yX5_planBy yX5_planBy, Cond.code yX5_planBy cX5_planBy 12 (some .int), Cond.methodLink RL 59 yX4_best, Cond.instanceMethod yX4_best, Cond.selects RX4 yX4_best yX4_best, Cond.code yX4_best cX4_best 4 (some .int), Cond.methodLink RX4 157 yX0_bestSet, Cond.instanceMethod yX0_bestSet, Cond.selects RX0 yX0_bestSet yX0_bestSet, Cond.code yX0_bestSet cX0_bestSet 9 (some .int)]
def wsL_law_r20 : List Cond := [Cond.methodLink RX0 105 yX0_isBetter, Cond.static yX0_isBetter, Cond.code yX0_isBetter cX0_isBetter 4 (some .boolean), Cond.methodLink RL 62 yX5_best, Cond.instanceMethod yX5_best, Cond.selects RX5 yX5_best yX5_best, Cond.code yX5_best cX5_best 4 (some .int), Cond.methodLink RX5 189 yX5_bestOf, Cond.instanceMethod yX5_bestOf, Cond.selects RX5 yX5_bestOf yX5_bestOf, Cond.code yX5_bestOf cX5_bestOf 6 (some .int), Cond.methodLink RL 63 yX4_village, Cond.instanceMethod yX4_village, Cond.selects RX4 yX4_village yX4_village, Cond.code yX4_village cX4_village 1 (some .int), Cond.methodLink RX4 160 yX0_villagePays, Cond.instanceMethod yX0_villagePays, Cond.selects RX0 yX0_villagePays yX0_villagePays, Cond.code yX0_villagePays cX0_villagePays 5 (some .int), Cond.methodLink RX0 109 yX0_bestSet, Cond.methodLink RL 66 yX5_village, Cond.instanceMethod yX5_village, Cond.selects RX5 yX5_village yX5_village, Cond.code yX5_village cX5_village 1 (some .int)]
def wsL_law_r21 : List Cond := [Cond.methodLink RX5 192 yX5_villageNow, Cond.instanceMethod yX5_villageNow, Cond.selects RX5 yX5_villageNow yX5_villageNow, Cond.code yX5_villageNow cX5_villageNow 5 (some .int), Cond.methodLink RL 67 yX4_smile, Cond.instanceMethod yX4_smile, Cond.selects RX4 yX4_smile yX4_smile, Cond.code yX4_smile cX4_smile 3 (some .int), Cond.methodLink RX4 163 yX0_smileDay, Cond.instanceMethod yX0_smileDay, Cond.selects RX0 yX0_smileDay yX0_smileDay, Cond.code yX0_smileDay cX0_smileDay 6 (some .int), Cond.methodLink RX0 112 yX0_fastDaysBut, Cond.instanceMethod yX0_fastDaysBut, Cond.selects RX0 yX0_fastDaysBut yX0_fastDaysBut, Cond.code yX0_fastDaysBut cX0_fastDaysBut 2 (some .int), Cond.methodLink RX0 115 yX0_villagePays, Cond.methodLink RX4 166 yX0_fastDaysBut, Cond.methodLink RL 70 yX5_smile, Cond.instanceMethod yX5_smile, Cond.selects RX5 yX5_smile yX5_smile, Cond.code yX5_smile cX5_smile 8 (some .int), Cond.methodLink RL 71 yX4_reading, Cond.instanceMethod yX4_reading]
def wsL_law_r22 : List Cond := [Cond.selects RX4 yX4_reading yX4_reading, Cond.code yX4_reading cX4_reading 5 (some .int), Cond.methodLink RX4 169 yX1_isFull, Cond.instanceMethod yX1_isFull, Cond.selects RX1 yX1_isFull yX1_isFull, Cond.code yX1_isFull cX1_isFull 1 (some .boolean), Cond.methodLink RX4 172 yX1_keep, Cond.instanceMethod yX1_keep, Cond.selects RX1 yX1_keep yX1_keep, Cond.code yX1_keep cX1_keep 5 none, Cond.methodLink RX4 176 yX1_keptCount, Cond.instanceMethod yX1_keptCount, Cond.selects RX1 yX1_keptCount yX1_keptCount, Cond.code yX1_keptCount cX1_keptCount 1 (some .int), Cond.methodLink RL 75 yX5_reading, Cond.instanceMethod yX5_reading, Cond.selects RX5 yX5_reading yX5_reading, Cond.code yX5_reading cX5_reading 5 (some .int), Cond.methodLink RL 76 yX4_back, Cond.instanceMethod yX4_back, Cond.selects RX4 yX4_back yX4_back, Cond.code yX4_back cX4_back 2 (some .int), Cond.methodLink RX4 179 yX1_dropLast, Cond.instanceMethod yX1_dropLast]
def wsL_law_r23 : List Cond := [Cond.selects RX1 yX1_dropLast yX1_dropLast, Cond.code yX1_dropLast cX1_dropLast 2 none, Cond.methodLink RL 79 yX5_back, Cond.instanceMethod yX5_back, Cond.selects RX5 yX5_back yX5_back, Cond.code yX5_back cX5_back 2 (some .int), Cond.methodLink RL 80 yX4_stays, Cond.instanceMethod yX4_stays, Cond.selects RX4 yX4_stays yX4_stays, Cond.code yX4_stays cX4_stays 5 (some .int), Cond.methodLink RX4 182 yX0_lastsBy, Cond.methodLink RX4 185 yX1_allAreSo, Cond.instanceMethod yX1_allAreSo, Cond.selects RX1 yX1_allAreSo yX1_allAreSo, Cond.code yX1_allAreSo cX1_allAreSo 9 (some .boolean), Cond.methodLink RX1 37 yX0_lastsOf, Cond.methodLink RX1 43 yX0_isFoundOn, Cond.instanceMethod yX0_isFoundOn, Cond.selects RX0 yX0_isFoundOn yX0_isFoundOn, Cond.code yX0_isFoundOn cX0_isFoundOn 5 (some .boolean), Cond.methodLink RX0 92 yX0_lookOf, Cond.methodLink RL 83 yX5_stays, Cond.instanceMethod yX5_stays, Cond.selects RX5 yX5_stays yX5_stays]
def wsL_law_r24 : List Cond := [Cond.code yX5_stays cX5_stays 5 (some .int), Cond.methodLink RX5 195 yX5_areSo, Cond.instanceMethod yX5_areSo, Cond.selects RX5 yX5_areSo yX5_areSo, Cond.code yX5_areSo cX5_areSo 3 (some .boolean), Cond.methodLink RL 84 yX4_kinds, Cond.instanceMethod yX4_kinds, Cond.selects RX4 yX4_kinds yX4_kinds, Cond.code yX4_kinds cX4_kinds 5 (some .int), Cond.methodLink RL 87 yX5_kinds, Cond.instanceMethod yX5_kinds, Cond.selects RX5 yX5_kinds yX5_kinds, Cond.code yX5_kinds cX5_kinds 5 (some .int), Cond.methodLink RL 88 yX4_sours, Cond.instanceMethod yX4_sours, Cond.selects RX4 yX4_sours yX4_sours, Cond.code yX4_sours cX4_sours 3 (some .int), Cond.methodLink RL 91 yX5_sours, Cond.instanceMethod yX5_sours, Cond.selects RX5 yX5_sours yX5_sours, Cond.code yX5_sours cX5_sours 4 (some .int), Cond.methodLink RL 92 yX4_odds, Cond.instanceMethod yX4_odds, Cond.selects RX4 yX4_odds yX4_odds]
def wsL_law_r25 : List Cond := [Cond.code yX4_odds cX4_odds 4 (some .long), Cond.constantLong RX4 189 (-9223372036854775808), Cond.methodLink RX4 191 yJ6_bitCount_0f7a4, Cond.methodLink RL 96 yX5_odds, Cond.instanceMethod yX5_odds, Cond.selects RX5 yX5_odds yX5_odds, Cond.code yX5_odds cX5_odds 8 (some .long), Cond.methodLink RX5 74 yX5_lost, Cond.static yX5_lost, Cond.code yX5_lost cX5_lost 0 (some .long), Cond.constantLong RX5 69 (-9223372036854775808), Cond.methodLink RX5 199 yX5_share, Cond.static yX5_share, Cond.code yX5_share cX5_share 11 (some .long), Cond.methodLink RL 97 yX4_sheet, Cond.instanceMethod yX4_sheet, Cond.selects RX4 yX4_sheet yX4_sheet, Cond.code yX4_sheet cX4_sheet 5 (some .int), Cond.methodLink RX4 196 yX2_makeRow, Cond.instanceMethod yX2_makeRow, Cond.selects RX2 yX2_makeRow yX2_makeRow, Cond.code yX2_makeRow cX2_makeRow 3 none, Cond.methodLink RX2 22 yJ7_fill_53178, Cond.static yJ7_fill_53178]
def wsL_law_r26 : List Cond := [Cond.initialized RJ7, Cond.code yJ7_fill_53178 cJ7_fill_53178 4 none, Cond.methodLink RL 100 yX5_sheet, Cond.instanceMethod yX5_sheet, Cond.selects RX5 yX5_sheet yX5_sheet, Cond.code yX5_sheet cX5_sheet 5 (some .int), Cond.methodLink RL 101 yX4_lose, Cond.instanceMethod yX4_lose, Cond.selects RX4 yX4_lose yX4_lose, Cond.code yX4_lose cX4_lose 3 (some .int), Cond.methodLink RX4 199 yX2_hasRow, Cond.methodLink RX4 202 yX2_dropRow, Cond.instanceMethod yX2_dropRow, Cond.selects RX2 yX2_dropRow yX2_dropRow, Cond.code yX2_dropRow cX2_dropRow 1 none, Cond.methodLink RL 104 yX5_lose, Cond.instanceMethod yX5_lose, Cond.selects RX5 yX5_lose yX5_lose, Cond.code yX5_lose cX5_lose 3 (some .int), Cond.methodLink RL 105 yX4_put, Cond.instanceMethod yX4_put, Cond.selects RX4 yX4_put yX4_put, Cond.code yX4_put cX4_put 6 (some .int), Cond.methodLink RX4 205 yX2_rowLane]
def wsL_law_r27 : List Cond := [Cond.instanceMethod yX2_rowLane, Cond.selects RX2 yX2_rowLane yX2_rowLane, Cond.code yX2_rowLane cX2_rowLane 1 (some .int), Cond.methodLink RX4 208 yX2_write, Cond.instanceMethod yX2_write, Cond.selects RX2 yX2_write yX2_write, Cond.code yX2_write cX2_write 3 none, Cond.methodLink RX2 40 yX2_cutToLane, Cond.instanceMethod yX2_cutToLane, Cond.selects RX2 yX2_cutToLane yX2_cutToLane, Cond.code yX2_cutToLane cX2_cutToLane 2 (some .int), Cond.methodLink RL 108 yX5_put, Cond.instanceMethod yX5_put, Cond.selects RX5 yX5_put yX5_put, Cond.code yX5_put cX5_put 4 (some .int), Cond.methodLink RX5 203 yX5_noCell, Cond.instanceMethod yX5_noCell, Cond.selects RX5 yX5_noCell yX5_noCell, Cond.code yX5_noCell cX5_noCell 3 (some .int), Cond.methodLink RL 109 yX4_cell, Cond.instanceMethod yX4_cell, Cond.selects RX4 yX4_cell yX4_cell, Cond.code yX4_cell cX4_cell 6 (some .long), Cond.methodLink RX4 211 yX2_numberAt]
def wsL_law_r28 : List Cond := [Cond.methodLink RL 112 yX5_cell, Cond.instanceMethod yX5_cell, Cond.selects RX5 yX5_cell yX5_cell, Cond.code yX5_cell cX5_cell 4 (some .long), Cond.methodLink RX5 206 yX5_failedLong, Cond.instanceMethod yX5_failedLong, Cond.selects RX5 yX5_failedLong yX5_failedLong, Cond.code yX5_failedLong cX5_failedLong 2 (some .long), Cond.methodLink RL 113 yX4_copy, Cond.instanceMethod yX4_copy, Cond.selects RX4 yX4_copy yX4_copy, Cond.code yX4_copy cX4_copy 8 (some .int), Cond.methodLink RX4 214 yX2_hasCells, Cond.methodLink RX4 217 yX2_copyTo, Cond.instanceMethod yX2_copyTo, Cond.selects RX2 yX2_copyTo yX2_copyTo, Cond.code yX2_copyTo cX2_copyTo 5 none, Cond.methodLink RX2 48 arraycopyName, Cond.native arraycopyName, Cond.static arraycopyName, Cond.initialized "java/lang/System", Cond.methodLink RL 116 yX5_copy, Cond.instanceMethod yX5_copy, Cond.selects RX5 yX5_copy yX5_copy]
def wsL_law_r29 : List Cond := [Cond.code yX5_copy cX5_copy 7 (some .int), Cond.methodLink RL 117 yX4_tell, Cond.instanceMethod yX4_tell, Cond.selects RX4 yX4_tell yX4_tell, Cond.code yX4_tell cX4_tell 2 (some .int), Cond.methodLink RX4 221 yX4_strangerTelling, Cond.instanceMethod yX4_strangerTelling, Cond.selects RX4 yX4_strangerTelling yX4_strangerTelling, Cond.code yX4_strangerTelling cX4_strangerTelling 3 (some .int), Cond.methodLink RX4 230 yX4_leaveInTrace, Cond.instanceMethod yX4_leaveInTrace, Cond.selects RX4 yX4_leaveInTrace yX4_leaveInTrace, Cond.code yX4_leaveInTrace cX4_leaveInTrace 2 none, Cond.fieldLink RX4 239 "MustardFast" "traced" "I", Cond.methodLink RX4 224 yX4_slyTelling, Cond.instanceMethod yX4_slyTelling, Cond.selects RX4 yX4_slyTelling yX4_slyTelling, Cond.code yX4_slyTelling cX4_slyTelling 2 (some .int), Cond.methodLink RX4 227 yX4_eaterTelling, Cond.instanceMethod yX4_eaterTelling, Cond.selects RX4 yX4_eaterTelling yX4_eaterTelling, Cond.code yX4_eaterTelling cX4_eaterTelling 2 (some .int), Cond.methodLink RL 120 yX5_tell, Cond.instanceMethod yX5_tell]
def wsL_law_r30 : List Cond := [Cond.selects RX5 yX5_tell yX5_tell, Cond.code yX5_tell cX5_tell 4 (some .int), Cond.methodLink RX5 213 yX5_traced, Cond.instanceMethod yX5_traced, Cond.selects RX5 yX5_traced yX5_traced, Cond.code yX5_traced cX5_traced 2 none, Cond.fieldLink RX5 210 "MustardFastModel" "traceNow" "I", Cond.methodLink RL 121 yX4_sniff, Cond.instanceMethod yX4_sniff, Cond.selects RX4 yX4_sniff yX4_sniff, Cond.code yX4_sniff cX4_sniff 2 (some .int), Cond.methodLink RX4 233 yX4_strangerSniffing, Cond.instanceMethod yX4_strangerSniffing, Cond.selects RX4 yX4_strangerSniffing yX4_strangerSniffing, Cond.code yX4_strangerSniffing cX4_strangerSniffing 1 (some .int), Cond.methodLink RX4 236 yX4_lentSniffing, Cond.instanceMethod yX4_lentSniffing, Cond.selects RX4 yX4_lentSniffing yX4_lentSniffing, Cond.code yX4_lentSniffing cX4_lentSniffing 2 (some .int), Cond.methodLink RL 124 yX5_sniff, Cond.instanceMethod yX5_sniff, Cond.selects RX5 yX5_sniff yX5_sniff, Cond.code yX5_sniff cX5_sniff 2 (some .int), Cond.methodLink RL 125 yX4_as]
def wsL_law_r31 : List Cond := [Cond.instanceMethod yX4_as, Cond.selects RX4 yX4_as yX4_as, Cond.code yX4_as cX4_as 3 (some .int), Cond.methodLink RL 128 yX5_as, Cond.instanceMethod yX5_as, Cond.selects RX5 yX5_as yX5_as, Cond.code yX5_as cX5_as 3 (some .int), Cond.methodLink RL 129 yX4_trace, Cond.instanceMethod yX4_trace, Cond.selects RX4 yX4_trace yX4_trace, Cond.code yX4_trace cX4_trace 1 (some .int), Cond.methodLink RL 132 yX5_trace, Cond.instanceMethod yX5_trace, Cond.selects RX5 yX5_trace yX5_trace, Cond.code yX5_trace cX5_trace 1 (some .int), Cond.methodLink RL 133 yX4_fault, Cond.instanceMethod yX4_fault, Cond.selects RX4 yX4_fault yX4_fault, Cond.code yX4_fault cX4_fault 1 (some .int), Cond.methodLink RL 136 yX5_fault, Cond.instanceMethod yX5_fault, Cond.selects RX5 yX5_fault yX5_fault, Cond.code yX5_fault cX5_fault 1 (some .int), Cond.methodLink RL 137 yX4_many]
def wsL_law_r32 : List Cond := [Cond.instanceMethod yX4_many, Cond.selects RX4 yX4_many yX4_many, Cond.code yX4_many cX4_many 2 (some .int), Cond.methodLink RX4 242 yX0_dayCount, Cond.instanceMethod yX0_dayCount, Cond.selects RX0 yX0_dayCount yX0_dayCount, Cond.code yX0_dayCount cX0_dayCount 1 (some .int), Cond.methodLink RL 140 yX5_many, Cond.instanceMethod yX5_many, Cond.selects RX5 yX5_many yX5_many, Cond.code yX5_many cX5_many 2 (some .int)]
def wsL_law : List Cond := (wsL_law_r1 ++ (wsL_law_r2 ++ (wsL_law_r3 ++ (wsL_law_r4 ++ (wsL_law_r5 ++ (wsL_law_r6 ++ (wsL_law_r7 ++ (wsL_law_r8 ++ (wsL_law_r9 ++ (wsL_law_r10 ++ (wsL_law_r11 ++ (wsL_law_r12 ++ (wsL_law_r13 ++ (wsL_law_r14 ++ (wsL_law_r15 ++ (wsL_law_r16 ++ (wsL_law_r17 ++ (wsL_law_r18 ++ (wsL_law_r19 ++ (wsL_law_r20 ++ (wsL_law_r21 ++ (wsL_law_r22 ++ (wsL_law_r23 ++ (wsL_law_r24 ++ (wsL_law_r25 ++ (wsL_law_r26 ++ (wsL_law_r27 ++ (wsL_law_r28 ++ (wsL_law_r29 ++ (wsL_law_r30 ++ (wsL_law_r31 ++ wsL_law_r32))))))))))))))))))))))))))))))) ++ wsX40 ++ wsX50 ++ wsX00 ++ wsX10 ++ wsX20 ++ ([] : List Cond)
set_option maxRecDepth 20000 in
theorem wsL_law_in : ∀ w ∈ wsL_law, w ∈ lw_tbl := fun w h => (goodIn_p wsL_law [47, 50, 55, 87, 111, 574, 142, 146, 149, 153, 157, 161, 165, 168, 172, 175, 178, 181, 184, 187, 191, 194, 197, 200, 206, 210, 667, 670, 674, 678, 683, 687, 690, 694, 698, 702, 706, 710, 214, 218, 222, 227, 231, 235, 239, 242, 714, 718, 722, 246, 250, 254, 726, 730, 258, 261, 265, 734, 269, 273, 277, 281, 739, 285, 289, 743, 293, 297, 748, 752, 301, 305, 309, 313, 756, 760, 764, 767, 317, 321, 328, 332, 771, 775, 779, 782, 340, 343, 347, 352, 356, 361, 365, 369, 374, 786, 792, 378, 382, 385, 796, 800, 389, 393, 804, 808, 398, 402, 406, 812, 412, 416, 420, 425, 816, 429, 433, 820, 437, 442, 448, 824, 828, 453, 832, 457, 836, 461, 840, 843, 847, 467, 471, 474, 851, 478, 483, 855, 487, 491, 495, 499, 859, 863, 504, 867, 871, 509, 514, 875, 521, 525, 529, 533, 537, 879, 883, 541, 545, 549, 887, 553, 891, 557, 895, 561, 899, 565, 569, 903] (by decide +kernel) (by decide +kernel) w h).1
theorem inlX0 : ∀ w ∈ wsX00, w ∈ wsL_law := fun _ h => List.mem_append_left _ (List.mem_append_left _ (List.mem_append_left _ (List.mem_append_right _ h)))
theorem inX0 : ∀ w ∈ wsX00, w ∈ lw_tbl := fun w h => wsL_law_in w (inlX0 w h)
theorem inlX1 : ∀ w ∈ wsX10, w ∈ wsL_law := fun _ h => List.mem_append_left _ (List.mem_append_left _ (List.mem_append_right _ h))
theorem inX1 : ∀ w ∈ wsX10, w ∈ lw_tbl := fun w h => wsL_law_in w (inlX1 w h)
theorem inlX2 : ∀ w ∈ wsX20, w ∈ wsL_law := fun _ h => List.mem_append_left _ (List.mem_append_right _ h)
theorem inX2 : ∀ w ∈ wsX20, w ∈ lw_tbl := fun w h => wsL_law_in w (inlX2 w h)
theorem inX3 : ∀ w ∈ wsX30, w ∈ lw_tbl := by decide +kernel
theorem inlX4 : ∀ w ∈ wsX40, w ∈ wsL_law := fun _ h => List.mem_append_left _ (List.mem_append_left _ (List.mem_append_left _ (List.mem_append_left _ (List.mem_append_left _ (List.mem_append_right _ h)))))
theorem inX4 : ∀ w ∈ wsX40, w ∈ lw_tbl := fun w h => wsL_law_in w (inlX4 w h)
theorem inlX5 : ∀ w ∈ wsX50, w ∈ wsL_law := fun _ h => List.mem_append_left _ (List.mem_append_left _ (List.mem_append_left _ (List.mem_append_left _ (List.mem_append_right _ h))))
theorem inX5 : ∀ w ∈ wsX50, w ∈ lw_tbl := fun w h => wsL_law_in w (inlX5 w h)
theorem inJ6 : ∀ w ∈ wsJ60, w ∈ lw_tbl := by decide +kernel
theorem inJ10 : ∀ w ∈ wsJ100, w ∈ lw_tbl := by decide +kernel
theorem inJ7 : ∀ w ∈ wsJ70, w ∈ lw_tbl := by decide +kernel
theorem dX0_init_0 : decode cX0_init 0 = .ok (.aload_n 0, 1) := by decide +kernel
theorem dX0_init_1 : decode cX0_init 1 = .ok (.invokespecial 3, 3) := by decide +kernel
theorem dX0_init_4 : decode cX0_init 4 = .ok (.aload_n 0, 1) := by decide +kernel
theorem dX0_init_5 : decode cX0_init 5 = .ok (.bipush 6, 2) := by decide +kernel
theorem dX0_init_7 : decode cX0_init 7 = .ok (.newarray .int, 2) := by decide +kernel
theorem dX0_init_9 : decode cX0_init 9 = .ok (.putfield 9, 3) := by decide +kernel
theorem dX0_init_12 : decode cX0_init 12 = .ok (.aload_n 0, 1) := by decide +kernel
theorem dX0_init_13 : decode cX0_init 13 = .ok (.iconst 4, 1) := by decide +kernel
theorem dX0_init_14 : decode cX0_init 14 = .ok (.newarray .int, 2) := by decide +kernel
theorem dX0_init_16 : decode cX0_init 16 = .ok (.putfield 15, 3) := by decide +kernel
theorem dX0_init_19 : decode cX0_init 19 = .ok (.aload_n 0, 1) := by decide +kernel
theorem dX0_init_20 : decode cX0_init 20 = .ok (.iconst 4, 1) := by decide +kernel
theorem dX0_init_21 : decode cX0_init 21 = .ok (.newarray .int, 2) := by decide +kernel
theorem dX0_init_23 : decode cX0_init 23 = .ok (.putfield 18, 3) := by decide +kernel
theorem dX0_init_26 : decode cX0_init 26 = .ok (.aload_n 0, 1) := by decide +kernel
theorem dX0_init_27 : decode cX0_init 27 = .ok (.iconst 4, 1) := by decide +kernel
theorem dX0_init_28 : decode cX0_init 28 = .ok (.newarray .int, 2) := by decide +kernel
theorem dX0_init_30 : decode cX0_init 30 = .ok (.putfield 21, 3) := by decide +kernel
theorem dX0_init_33 : decode cX0_init 33 = .ok (.aload_n 0, 1) := by decide +kernel
theorem dX0_init_34 : decode cX0_init 34 = .ok (.iconst 4, 1) := by decide +kernel
theorem dX0_init_35 : decode cX0_init 35 = .ok (.newarray .int, 2) := by decide +kernel
theorem dX0_init_37 : decode cX0_init 37 = .ok (.putfield 24, 3) := by decide +kernel
theorem dX0_init_40 : decode cX0_init 40 = .ok (.return_, 1) := by decide +kernel
set_option maxRecDepth 20000 in
theorem ggX0_takeText_X3_digitAt : GoodIn wsX0_takeText wsX3_digitAt := goodIn_r _ [12, 13, 14, 15, 16, 17, 18, 19, 20, 21, 42, 43, 44] (by decide +kernel) (by decide +kernel)
set_option maxRecDepth 20000 in
theorem gX0_takeText_X3_digitAt : GoodIn wsX0_takeText (va_wsS RX0 27 yX3_digitAt wsX3_digitAt) := goodIn_app (goodIn_of _ (by decide +kernel)) ggX0_takeText_X3_digitAt
set_option maxRecDepth 20000 in
theorem ggX0_takeText_X3_isDigitAt : GoodIn wsX0_takeText wsX3_isDigitAt := goodIn_r _ [24, 13, 14, 15, 16, 17, 18, 19, 20, 21, 25, 26, 11, 27, 42, 43, 44] (by decide +kernel) (by decide +kernel)
set_option maxRecDepth 20000 in
theorem gX0_takeText_X3_isDigitAt : GoodIn wsX0_takeText (va_wsS RX0 43 yX3_isDigitAt wsX3_isDigitAt) := goodIn_app (goodIn_of _ (by decide +kernel)) ggX0_takeText_X3_isDigitAt
set_option maxRecDepth 20000 in
theorem ggX0_takeText_X4_changeIn : GoodIn wsX0_takeText wsX4_changeIn := goodIn_r _ [29] (by decide +kernel) (by decide +kernel)
set_option maxRecDepth 20000 in
theorem gX0_takeText_X4_changeIn_n47 : GoodIn wsX0_takeText (wsX4_changeIn) := ggX0_takeText_X4_changeIn
set_option maxRecDepth 20000 in
theorem ggX0_takeText_X2_numberAt : GoodIn wsX0_takeText wsX2_numberAt := goodIn_r _ [17, 18, 19, 20, 21, 42, 43, 44] (by decide +kernel) (by decide +kernel)
set_option maxRecDepth 20000 in
theorem gX0_takeText_X2_numberAt : GoodIn wsX0_takeText (wsV RX0 51 RX2 yX2_numberAt wsX2_numberAt) := goodIn_app (goodIn_of _ (by decide +kernel)) ggX0_takeText_X2_numberAt
set_option maxRecDepth 20000 in
theorem ggX0_takeText_X3_kindByLetter : GoodIn wsX0_takeText wsX3_kindByLetter := goodIn_r _ [33] (by decide +kernel) (by decide +kernel)
set_option maxRecDepth 20000 in
theorem gX0_takeText_X3_kindByLetter : GoodIn wsX0_takeText (va_wsS RX0 57 yX3_kindByLetter wsX3_kindByLetter) := goodIn_app (goodIn_of _ (by decide +kernel)) ggX0_takeText_X3_kindByLetter
theorem dX0_takeText_0 : decode cX0_takeText 0 = .ok (.aload_n 0, 1) := by decide +kernel
theorem dX0_takeText_1 : decode cX0_takeText 1 = .ok (.aload_n 1, 1) := by decide +kernel
theorem dX0_takeText_2 : decode cX0_takeText 2 = .ok (.iload_n 2, 1) := by decide +kernel
theorem dX0_takeText_3 : decode cX0_takeText 3 = .ok (.iconst 1, 1) := by decide +kernel
theorem dX0_takeText_4 : decode cX0_takeText 4 = .ok (.iadd, 1) := by decide +kernel
theorem dX0_takeText_5 : decode cX0_takeText 5 = .ok (.invokestatic 27, 3) := by decide +kernel
theorem dX0_takeText_8 : decode cX0_takeText 8 = .ok (.putfield 33, 3) := by decide +kernel
theorem dX0_takeText_11 : decode cX0_takeText 11 = .ok (.aload_n 0, 1) := by decide +kernel
theorem dX0_takeText_12 : decode cX0_takeText 12 = .ok (.iconst 0, 1) := by decide +kernel
theorem dX0_takeText_13 : decode cX0_takeText 13 = .ok (.putfield 37, 3) := by decide +kernel
theorem dX0_takeText_16 : decode cX0_takeText 16 = .ok (.aload_n 0, 1) := by decide +kernel
theorem dX0_takeText_17 : decode cX0_takeText 17 = .ok (.iconst 0, 1) := by decide +kernel
theorem dX0_takeText_18 : decode cX0_takeText 18 = .ok (.putfield 40, 3) := by decide +kernel
theorem dX0_takeText_21 : decode cX0_takeText 21 = .ok (.iconst 3, 1) := by decide +kernel
theorem dX0_takeText_22 : decode cX0_takeText 22 = .ok (.istore 4, 2) := by decide +kernel
theorem dX0_takeText_24 : decode cX0_takeText 24 = .ok (.iload 4, 2) := by decide +kernel
theorem dX0_takeText_26 : decode cX0_takeText 26 = .ok (.iload_n 3, 1) := by decide +kernel
theorem dX0_takeText_27 : decode cX0_takeText 27 = .ok (.if_icmp .ge 58, 3) := by decide +kernel
theorem dX0_takeText_30 : decode cX0_takeText 30 = .ok (.aload_n 0, 1) := by decide +kernel
theorem dX0_takeText_31 : decode cX0_takeText 31 = .ok (.getfield 37, 3) := by decide +kernel
theorem dX0_takeText_34 : decode cX0_takeText 34 = .ok (.bipush 6, 2) := by decide +kernel
theorem dX0_takeText_36 : decode cX0_takeText 36 = .ok (.if_icmp .ge 49, 3) := by decide +kernel
theorem dX0_takeText_39 : decode cX0_takeText 39 = .ok (.aload_n 1, 1) := by decide +kernel
theorem dX0_takeText_40 : decode cX0_takeText 40 = .ok (.iload_n 2, 1) := by decide +kernel
theorem dX0_takeText_41 : decode cX0_takeText 41 = .ok (.iload 4, 2) := by decide +kernel
theorem dX0_takeText_43 : decode cX0_takeText 43 = .ok (.iadd, 1) := by decide +kernel
theorem dX0_takeText_44 : decode cX0_takeText 44 = .ok (.invokestatic 43, 3) := by decide +kernel
theorem dX0_takeText_47 : decode cX0_takeText 47 = .ok (.ifCond .eq 38, 3) := by decide +kernel
theorem dX0_takeText_50 : decode cX0_takeText 50 = .ok (.aload_n 0, 1) := by decide +kernel
theorem dX0_takeText_51 : decode cX0_takeText 51 = .ok (.getfield 9, 3) := by decide +kernel
theorem dX0_takeText_54 : decode cX0_takeText 54 = .ok (.aload_n 0, 1) := by decide +kernel
theorem dX0_takeText_55 : decode cX0_takeText 55 = .ok (.getfield 37, 3) := by decide +kernel
theorem dX0_takeText_58 : decode cX0_takeText 58 = .ok (.aload_n 1, 1) := by decide +kernel
theorem dX0_takeText_59 : decode cX0_takeText 59 = .ok (.iload_n 2, 1) := by decide +kernel
theorem dX0_takeText_60 : decode cX0_takeText 60 = .ok (.iload 4, 2) := by decide +kernel
theorem dX0_takeText_62 : decode cX0_takeText 62 = .ok (.iadd, 1) := by decide +kernel
theorem dX0_takeText_63 : decode cX0_takeText 63 = .ok (.invokestatic 27, 3) := by decide +kernel
theorem dX0_takeText_66 : decode cX0_takeText 66 = .ok (.invokestatic 47, 3) := by decide +kernel
theorem dX0_takeText_69 : decode cX0_takeText 69 = .ok (.aload_n 0, 1) := by decide +kernel
theorem dX0_takeText_70 : decode cX0_takeText 70 = .ok (.dup, 1) := by decide +kernel
theorem dX0_takeText_71 : decode cX0_takeText 71 = .ok (.getfield 37, 3) := by decide +kernel
theorem dX0_takeText_74 : decode cX0_takeText 74 = .ok (.iconst 1, 1) := by decide +kernel
theorem dX0_takeText_75 : decode cX0_takeText 75 = .ok (.iadd, 1) := by decide +kernel
theorem dX0_takeText_76 : decode cX0_takeText 76 = .ok (.putfield 37, 3) := by decide +kernel
theorem dX0_takeText_79 : decode cX0_takeText 79 = .ok (.iinc 4 1, 3) := by decide +kernel
theorem dX0_takeText_82 : decode cX0_takeText 82 = .ok (.goto (-58), 3) := by decide +kernel
theorem dX0_takeText_85 : decode cX0_takeText 85 = .ok (.iload 4, 2) := by decide +kernel
theorem dX0_takeText_87 : decode cX0_takeText 87 = .ok (.iconst 4, 1) := by decide +kernel
theorem dX0_takeText_88 : decode cX0_takeText 88 = .ok (.iadd, 1) := by decide +kernel
theorem dX0_takeText_89 : decode cX0_takeText 89 = .ok (.iload_n 3, 1) := by decide +kernel
theorem dX0_takeText_90 : decode cX0_takeText 90 = .ok (.if_icmp .ge 114, 3) := by decide +kernel
theorem dX0_takeText_93 : decode cX0_takeText 93 = .ok (.aload_n 0, 1) := by decide +kernel
theorem dX0_takeText_94 : decode cX0_takeText 94 = .ok (.getfield 40, 3) := by decide +kernel
theorem dX0_takeText_97 : decode cX0_takeText 97 = .ok (.iconst 4, 1) := by decide +kernel
theorem dX0_takeText_98 : decode cX0_takeText 98 = .ok (.if_icmp .ge 106, 3) := by decide +kernel
theorem dX0_takeText_101 : decode cX0_takeText 101 = .ok (.aload_n 0, 1) := by decide +kernel
theorem dX0_takeText_102 : decode cX0_takeText 102 = .ok (.getfield 15, 3) := by decide +kernel
theorem dX0_takeText_105 : decode cX0_takeText 105 = .ok (.aload_n 0, 1) := by decide +kernel
theorem dX0_takeText_106 : decode cX0_takeText 106 = .ok (.getfield 40, 3) := by decide +kernel
theorem dX0_takeText_109 : decode cX0_takeText 109 = .ok (.aload_n 1, 1) := by decide +kernel
theorem dX0_takeText_110 : decode cX0_takeText 110 = .ok (.iload_n 2, 1) := by decide +kernel
theorem dX0_takeText_111 : decode cX0_takeText 111 = .ok (.iload 4, 2) := by decide +kernel
theorem dX0_takeText_113 : decode cX0_takeText 113 = .ok (.iadd, 1) := by decide +kernel
theorem dX0_takeText_114 : decode cX0_takeText 114 = .ok (.iconst 1, 1) := by decide +kernel
theorem dX0_takeText_115 : decode cX0_takeText 115 = .ok (.iadd, 1) := by decide +kernel
theorem dX0_takeText_116 : decode cX0_takeText 116 = .ok (.invokevirtual 51, 3) := by decide +kernel
theorem dX0_takeText_119 : decode cX0_takeText 119 = .ok (.invokestatic 57, 3) := by decide +kernel
theorem dX0_takeText_122 : decode cX0_takeText 122 = .ok (.invokestatic 47, 3) := by decide +kernel
theorem dX0_takeText_125 : decode cX0_takeText 125 = .ok (.aload_n 0, 1) := by decide +kernel
theorem dX0_takeText_126 : decode cX0_takeText 126 = .ok (.getfield 18, 3) := by decide +kernel
theorem dX0_takeText_129 : decode cX0_takeText 129 = .ok (.aload_n 0, 1) := by decide +kernel
theorem dX0_takeText_130 : decode cX0_takeText 130 = .ok (.getfield 40, 3) := by decide +kernel
theorem dX0_takeText_133 : decode cX0_takeText 133 = .ok (.aload_n 1, 1) := by decide +kernel
theorem dX0_takeText_134 : decode cX0_takeText 134 = .ok (.iload_n 2, 1) := by decide +kernel
theorem dX0_takeText_135 : decode cX0_takeText 135 = .ok (.iload 4, 2) := by decide +kernel
theorem dX0_takeText_137 : decode cX0_takeText 137 = .ok (.iadd, 1) := by decide +kernel
theorem dX0_takeText_138 : decode cX0_takeText 138 = .ok (.iconst 2, 1) := by decide +kernel
theorem dX0_takeText_139 : decode cX0_takeText 139 = .ok (.iadd, 1) := by decide +kernel
theorem dX0_takeText_140 : decode cX0_takeText 140 = .ok (.invokestatic 27, 3) := by decide +kernel
theorem dX0_takeText_143 : decode cX0_takeText 143 = .ok (.invokestatic 47, 3) := by decide +kernel
theorem dX0_takeText_146 : decode cX0_takeText 146 = .ok (.aload_n 0, 1) := by decide +kernel
theorem dX0_takeText_147 : decode cX0_takeText 147 = .ok (.getfield 21, 3) := by decide +kernel
theorem dX0_takeText_150 : decode cX0_takeText 150 = .ok (.aload_n 0, 1) := by decide +kernel
theorem dX0_takeText_151 : decode cX0_takeText 151 = .ok (.getfield 40, 3) := by decide +kernel
theorem dX0_takeText_154 : decode cX0_takeText 154 = .ok (.aload_n 1, 1) := by decide +kernel
theorem dX0_takeText_155 : decode cX0_takeText 155 = .ok (.iload_n 2, 1) := by decide +kernel
theorem dX0_takeText_156 : decode cX0_takeText 156 = .ok (.iload 4, 2) := by decide +kernel
theorem dX0_takeText_158 : decode cX0_takeText 158 = .ok (.iadd, 1) := by decide +kernel
theorem dX0_takeText_159 : decode cX0_takeText 159 = .ok (.iconst 3, 1) := by decide +kernel
theorem dX0_takeText_160 : decode cX0_takeText 160 = .ok (.iadd, 1) := by decide +kernel
theorem dX0_takeText_161 : decode cX0_takeText 161 = .ok (.invokestatic 27, 3) := by decide +kernel
theorem dX0_takeText_164 : decode cX0_takeText 164 = .ok (.invokestatic 47, 3) := by decide +kernel
theorem dX0_takeText_167 : decode cX0_takeText 167 = .ok (.aload_n 0, 1) := by decide +kernel
theorem dX0_takeText_168 : decode cX0_takeText 168 = .ok (.getfield 24, 3) := by decide +kernel
theorem dX0_takeText_171 : decode cX0_takeText 171 = .ok (.aload_n 0, 1) := by decide +kernel
theorem dX0_takeText_172 : decode cX0_takeText 172 = .ok (.getfield 40, 3) := by decide +kernel
theorem dX0_takeText_175 : decode cX0_takeText 175 = .ok (.aload_n 1, 1) := by decide +kernel
theorem dX0_takeText_176 : decode cX0_takeText 176 = .ok (.iload_n 2, 1) := by decide +kernel
theorem dX0_takeText_177 : decode cX0_takeText 177 = .ok (.iload 4, 2) := by decide +kernel
theorem dX0_takeText_179 : decode cX0_takeText 179 = .ok (.iadd, 1) := by decide +kernel
theorem dX0_takeText_180 : decode cX0_takeText 180 = .ok (.iconst 4, 1) := by decide +kernel
theorem dX0_takeText_181 : decode cX0_takeText 181 = .ok (.iadd, 1) := by decide +kernel
theorem dX0_takeText_182 : decode cX0_takeText 182 = .ok (.invokestatic 27, 3) := by decide +kernel
theorem dX0_takeText_185 : decode cX0_takeText 185 = .ok (.invokestatic 47, 3) := by decide +kernel
theorem dX0_takeText_188 : decode cX0_takeText 188 = .ok (.aload_n 0, 1) := by decide +kernel
theorem dX0_takeText_189 : decode cX0_takeText 189 = .ok (.dup, 1) := by decide +kernel
theorem dX0_takeText_190 : decode cX0_takeText 190 = .ok (.getfield 40, 3) := by decide +kernel
theorem dX0_takeText_193 : decode cX0_takeText 193 = .ok (.iconst 1, 1) := by decide +kernel
theorem dX0_takeText_194 : decode cX0_takeText 194 = .ok (.iadd, 1) := by decide +kernel
theorem dX0_takeText_195 : decode cX0_takeText 195 = .ok (.putfield 40, 3) := by decide +kernel
theorem dX0_takeText_198 : decode cX0_takeText 198 = .ok (.iinc 4 5, 3) := by decide +kernel
theorem dX0_takeText_201 : decode cX0_takeText 201 = .ok (.goto (-116), 3) := by decide +kernel
theorem dX0_takeText_204 : decode cX0_takeText 204 = .ok (.return_, 1) := by decide +kernel
theorem dX0_isTold_0 : decode cX0_isTold 0 = .ok (.aload_n 0, 1) := by decide +kernel
theorem dX0_isTold_1 : decode cX0_isTold 1 = .ok (.getfield 40, 3) := by decide +kernel
theorem dX0_isTold_4 : decode cX0_isTold 4 = .ok (.ifCond .le 7, 3) := by decide +kernel
theorem dX0_isTold_7 : decode cX0_isTold 7 = .ok (.iconst 1, 1) := by decide +kernel
theorem dX0_isTold_8 : decode cX0_isTold 8 = .ok (.goto 4, 3) := by decide +kernel
theorem dX0_isTold_11 : decode cX0_isTold 11 = .ok (.iconst 0, 1) := by decide +kernel
theorem dX0_isTold_12 : decode cX0_isTold 12 = .ok (.ireturn, 1) := by decide +kernel
theorem dX0_eaterCount_0 : decode cX0_eaterCount 0 = .ok (.aload_n 0, 1) := by decide +kernel
theorem dX0_eaterCount_1 : decode cX0_eaterCount 1 = .ok (.getfield 40, 3) := by decide +kernel
theorem dX0_eaterCount_4 : decode cX0_eaterCount 4 = .ok (.ireturn, 1) := by decide +kernel
theorem dX0_dayCount_0 : decode cX0_dayCount 0 = .ok (.aload_n 0, 1) := by decide +kernel
theorem dX0_dayCount_1 : decode cX0_dayCount 1 = .ok (.getfield 37, 3) := by decide +kernel
theorem dX0_dayCount_4 : decode cX0_dayCount 4 = .ok (.ireturn, 1) := by decide +kernel
theorem dX0_hasEater_0 : decode cX0_hasEater 0 = .ok (.iload_n 1, 1) := by decide +kernel
theorem dX0_hasEater_1 : decode cX0_hasEater 1 = .ok (.ifCond .lt 15, 3) := by decide +kernel
theorem dX0_hasEater_4 : decode cX0_hasEater 4 = .ok (.iload_n 1, 1) := by decide +kernel
theorem dX0_hasEater_5 : decode cX0_hasEater 5 = .ok (.aload_n 0, 1) := by decide +kernel
theorem dX0_hasEater_6 : decode cX0_hasEater 6 = .ok (.getfield 40, 3) := by decide +kernel
theorem dX0_hasEater_9 : decode cX0_hasEater 9 = .ok (.if_icmp .ge 7, 3) := by decide +kernel
theorem dX0_hasEater_12 : decode cX0_hasEater 12 = .ok (.iconst 1, 1) := by decide +kernel
theorem dX0_hasEater_13 : decode cX0_hasEater 13 = .ok (.goto 4, 3) := by decide +kernel
theorem dX0_hasEater_16 : decode cX0_hasEater 16 = .ok (.iconst 0, 1) := by decide +kernel
theorem dX0_hasEater_17 : decode cX0_hasEater 17 = .ok (.ireturn, 1) := by decide +kernel
theorem dX0_hasDay_0 : decode cX0_hasDay 0 = .ok (.iload_n 1, 1) := by decide +kernel
theorem dX0_hasDay_1 : decode cX0_hasDay 1 = .ok (.ifCond .lt 15, 3) := by decide +kernel
theorem dX0_hasDay_4 : decode cX0_hasDay 4 = .ok (.iload_n 1, 1) := by decide +kernel
theorem dX0_hasDay_5 : decode cX0_hasDay 5 = .ok (.aload_n 0, 1) := by decide +kernel
theorem dX0_hasDay_6 : decode cX0_hasDay 6 = .ok (.getfield 37, 3) := by decide +kernel
theorem dX0_hasDay_9 : decode cX0_hasDay 9 = .ok (.if_icmp .ge 7, 3) := by decide +kernel
theorem dX0_hasDay_12 : decode cX0_hasDay 12 = .ok (.iconst 1, 1) := by decide +kernel
theorem dX0_hasDay_13 : decode cX0_hasDay 13 = .ok (.goto 4, 3) := by decide +kernel
theorem dX0_hasDay_16 : decode cX0_hasDay 16 = .ok (.iconst 0, 1) := by decide +kernel
theorem dX0_hasDay_17 : decode cX0_hasDay 17 = .ok (.ireturn, 1) := by decide +kernel
set_option maxRecDepth 20000 in
theorem ggX0_hasDays_X0_allDays : GoodIn wsX0_hasDays wsX0_allDays := goodIn_r _ [5, 6, 7, 8, 9, 10, 11, 12, 13, 14] (by decide +kernel) (by decide +kernel)
set_option maxRecDepth 20000 in
theorem gX0_hasDays_X0_allDays : GoodIn wsX0_hasDays (wsV RX0 60 RX0 yX0_allDays wsX0_allDays) := goodIn_app (goodIn_of _ (by decide +kernel)) ggX0_hasDays_X0_allDays
theorem dX0_hasDays_0 : decode cX0_hasDays 0 = .ok (.iload_n 1, 1) := by decide +kernel
theorem dX0_hasDays_1 : decode cX0_hasDays 1 = .ok (.ifCond .lt 15, 3) := by decide +kernel
theorem dX0_hasDays_4 : decode cX0_hasDays 4 = .ok (.iload_n 1, 1) := by decide +kernel
theorem dX0_hasDays_5 : decode cX0_hasDays 5 = .ok (.aload_n 0, 1) := by decide +kernel
theorem dX0_hasDays_6 : decode cX0_hasDays 6 = .ok (.invokevirtual 60, 3) := by decide +kernel
theorem dX0_hasDays_9 : decode cX0_hasDays 9 = .ok (.if_icmp .gt 7, 3) := by decide +kernel
theorem dX0_hasDays_12 : decode cX0_hasDays 12 = .ok (.iconst 1, 1) := by decide +kernel
theorem dX0_hasDays_13 : decode cX0_hasDays 13 = .ok (.goto 4, 3) := by decide +kernel
theorem dX0_hasDays_16 : decode cX0_hasDays 16 = .ok (.iconst 0, 1) := by decide +kernel
theorem dX0_hasDays_17 : decode cX0_hasDays 17 = .ok (.ireturn, 1) := by decide +kernel
theorem dX0_allDays_0 : decode cX0_allDays 0 = .ok (.iconst 1, 1) := by decide +kernel
theorem dX0_allDays_1 : decode cX0_allDays 1 = .ok (.aload_n 0, 1) := by decide +kernel
theorem dX0_allDays_2 : decode cX0_allDays 2 = .ok (.getfield 37, 3) := by decide +kernel
theorem dX0_allDays_5 : decode cX0_allDays 5 = .ok (.ishl, 1) := by decide +kernel
theorem dX0_allDays_6 : decode cX0_allDays 6 = .ok (.iconst 1, 1) := by decide +kernel
theorem dX0_allDays_7 : decode cX0_allDays 7 = .ok (.isub, 1) := by decide +kernel
theorem dX0_allDays_8 : decode cX0_allDays 8 = .ok (.ireturn, 1) := by decide +kernel
set_option maxRecDepth 20000 in
theorem ggX0_kindOf_X4_numberIn : GoodIn wsX0_kindOf wsX4_numberIn := goodIn_r _ [4] (by decide +kernel) (by decide +kernel)
set_option maxRecDepth 20000 in
theorem gX0_kindOf_X4_numberIn_n64 : GoodIn wsX0_kindOf (wsX4_numberIn) := ggX0_kindOf_X4_numberIn
theorem dX0_kindOf_0 : decode cX0_kindOf 0 = .ok (.aload_n 0, 1) := by decide +kernel
theorem dX0_kindOf_1 : decode cX0_kindOf 1 = .ok (.getfield 15, 3) := by decide +kernel
theorem dX0_kindOf_4 : decode cX0_kindOf 4 = .ok (.iload_n 1, 1) := by decide +kernel
theorem dX0_kindOf_5 : decode cX0_kindOf 5 = .ok (.invokestatic 64, 3) := by decide +kernel
theorem dX0_kindOf_8 : decode cX0_kindOf 8 = .ok (.ireturn, 1) := by decide +kernel
set_option maxRecDepth 20000 in
theorem ggX0_stayOf_X4_numberIn : GoodIn wsX0_stayOf wsX4_numberIn := goodIn_r _ [4] (by decide +kernel) (by decide +kernel)
set_option maxRecDepth 20000 in
theorem gX0_stayOf_X4_numberIn_n64 : GoodIn wsX0_stayOf (wsX4_numberIn) := ggX0_stayOf_X4_numberIn
theorem dX0_stayOf_0 : decode cX0_stayOf 0 = .ok (.aload_n 0, 1) := by decide +kernel
theorem dX0_stayOf_1 : decode cX0_stayOf 1 = .ok (.getfield 18, 3) := by decide +kernel
theorem dX0_stayOf_4 : decode cX0_stayOf 4 = .ok (.iload_n 1, 1) := by decide +kernel
theorem dX0_stayOf_5 : decode cX0_stayOf 5 = .ok (.invokestatic 64, 3) := by decide +kernel
theorem dX0_stayOf_8 : decode cX0_stayOf 8 = .ok (.ireturn, 1) := by decide +kernel
set_option maxRecDepth 20000 in
theorem ggX0_spoonsOf_X4_numberIn : GoodIn wsX0_spoonsOf wsX4_numberIn := goodIn_r _ [4] (by decide +kernel) (by decide +kernel)
set_option maxRecDepth 20000 in
theorem gX0_spoonsOf_X4_numberIn_n64 : GoodIn wsX0_spoonsOf (wsX4_numberIn) := ggX0_spoonsOf_X4_numberIn
theorem dX0_spoonsOf_0 : decode cX0_spoonsOf 0 = .ok (.aload_n 0, 1) := by decide +kernel
theorem dX0_spoonsOf_1 : decode cX0_spoonsOf 1 = .ok (.getfield 21, 3) := by decide +kernel
theorem dX0_spoonsOf_4 : decode cX0_spoonsOf 4 = .ok (.iload_n 1, 1) := by decide +kernel
theorem dX0_spoonsOf_5 : decode cX0_spoonsOf 5 = .ok (.invokestatic 64, 3) := by decide +kernel
theorem dX0_spoonsOf_8 : decode cX0_spoonsOf 8 = .ok (.ireturn, 1) := by decide +kernel
set_option maxRecDepth 20000 in
theorem ggX0_needOf_X4_numberIn : GoodIn wsX0_needOf wsX4_numberIn := goodIn_r _ [4] (by decide +kernel) (by decide +kernel)
set_option maxRecDepth 20000 in
theorem gX0_needOf_X4_numberIn_n64 : GoodIn wsX0_needOf (wsX4_numberIn) := ggX0_needOf_X4_numberIn
theorem dX0_needOf_0 : decode cX0_needOf 0 = .ok (.aload_n 0, 1) := by decide +kernel
theorem dX0_needOf_1 : decode cX0_needOf 1 = .ok (.getfield 24, 3) := by decide +kernel
theorem dX0_needOf_4 : decode cX0_needOf 4 = .ok (.iload_n 1, 1) := by decide +kernel
theorem dX0_needOf_5 : decode cX0_needOf 5 = .ok (.invokestatic 64, 3) := by decide +kernel
theorem dX0_needOf_8 : decode cX0_needOf 8 = .ok (.ireturn, 1) := by decide +kernel
set_option maxRecDepth 20000 in
theorem ggX0_changeNeed_X4_changeIn : GoodIn wsX0_changeNeed wsX4_changeIn := goodIn_r _ [4] (by decide +kernel) (by decide +kernel)
set_option maxRecDepth 20000 in
theorem gX0_changeNeed_X4_changeIn_n47 : GoodIn wsX0_changeNeed (wsX4_changeIn) := ggX0_changeNeed_X4_changeIn
theorem dX0_changeNeed_0 : decode cX0_changeNeed 0 = .ok (.aload_n 0, 1) := by decide +kernel
theorem dX0_changeNeed_1 : decode cX0_changeNeed 1 = .ok (.getfield 24, 3) := by decide +kernel
theorem dX0_changeNeed_4 : decode cX0_changeNeed 4 = .ok (.iload_n 1, 1) := by decide +kernel
theorem dX0_changeNeed_5 : decode cX0_changeNeed 5 = .ok (.iload_n 2, 1) := by decide +kernel
theorem dX0_changeNeed_6 : decode cX0_changeNeed 6 = .ok (.invokestatic 47, 3) := by decide +kernel
theorem dX0_changeNeed_9 : decode cX0_changeNeed 9 = .ok (.return_, 1) := by decide +kernel
set_option maxRecDepth 20000 in
theorem ggX0_lastsOf_X4_numberIn : GoodIn wsX0_lastsOf wsX4_numberIn := goodIn_r _ [5] (by decide +kernel) (by decide +kernel)
set_option maxRecDepth 20000 in
theorem gX0_lastsOf_X4_numberIn_n64 : GoodIn wsX0_lastsOf (wsX4_numberIn) := ggX0_lastsOf_X4_numberIn
set_option maxRecDepth 20000 in
theorem ggX0_lastsOf_X0_lastsBy : GoodIn wsX0_lastsOf wsX0_lastsBy := goodIn_r _ [9] (by decide +kernel) (by decide +kernel)
set_option maxRecDepth 20000 in
theorem gX0_lastsOf_X0_lastsBy : GoodIn wsX0_lastsOf (va_wsS RX0 68 yX0_lastsBy wsX0_lastsBy) := goodIn_app (goodIn_of _ (by decide +kernel)) ggX0_lastsOf_X0_lastsBy
theorem dX0_lastsOf_0 : decode cX0_lastsOf 0 = .ok (.aload_n 0, 1) := by decide +kernel
theorem dX0_lastsOf_1 : decode cX0_lastsOf 1 = .ok (.getfield 15, 3) := by decide +kernel
theorem dX0_lastsOf_4 : decode cX0_lastsOf 4 = .ok (.iload_n 1, 1) := by decide +kernel
theorem dX0_lastsOf_5 : decode cX0_lastsOf 5 = .ok (.invokestatic 64, 3) := by decide +kernel
theorem dX0_lastsOf_8 : decode cX0_lastsOf 8 = .ok (.aload_n 0, 1) := by decide +kernel
theorem dX0_lastsOf_9 : decode cX0_lastsOf 9 = .ok (.getfield 18, 3) := by decide +kernel
theorem dX0_lastsOf_12 : decode cX0_lastsOf 12 = .ok (.iload_n 1, 1) := by decide +kernel
theorem dX0_lastsOf_13 : decode cX0_lastsOf 13 = .ok (.invokestatic 64, 3) := by decide +kernel
theorem dX0_lastsOf_16 : decode cX0_lastsOf 16 = .ok (.invokestatic 68, 3) := by decide +kernel
theorem dX0_lastsOf_19 : decode cX0_lastsOf 19 = .ok (.ireturn, 1) := by decide +kernel
theorem dX0_lastsBy_0 : decode cX0_lastsBy 0 = .ok (.iload_n 0, 1) := by decide +kernel
theorem dX0_lastsBy_1 : decode cX0_lastsBy 1 = .ok (.ifCond .ne 5, 3) := by decide +kernel
theorem dX0_lastsBy_4 : decode cX0_lastsBy 4 = .ok (.iload_n 1, 1) := by decide +kernel
theorem dX0_lastsBy_5 : decode cX0_lastsBy 5 = .ok (.ireturn, 1) := by decide +kernel
theorem dX0_lastsBy_6 : decode cX0_lastsBy 6 = .ok (.iload_n 1, 1) := by decide +kernel
theorem dX0_lastsBy_7 : decode cX0_lastsBy 7 = .ok (.ifCond .le 9, 3) := by decide +kernel
theorem dX0_lastsBy_10 : decode cX0_lastsBy 10 = .ok (.iload_n 1, 1) := by decide +kernel
theorem dX0_lastsBy_11 : decode cX0_lastsBy 11 = .ok (.iconst 1, 1) := by decide +kernel
theorem dX0_lastsBy_12 : decode cX0_lastsBy 12 = .ok (.isub, 1) := by decide +kernel
theorem dX0_lastsBy_13 : decode cX0_lastsBy 13 = .ok (.goto 4, 3) := by decide +kernel
theorem dX0_lastsBy_16 : decode cX0_lastsBy 16 = .ok (.iconst 0, 1) := by decide +kernel
theorem dX0_lastsBy_17 : decode cX0_lastsBy 17 = .ok (.istore_n 2, 1) := by decide +kernel
theorem dX0_lastsBy_18 : decode cX0_lastsBy 18 = .ok (.iload_n 0, 1) := by decide +kernel
theorem dX0_lastsBy_19 : decode cX0_lastsBy 19 = .ok (.iconst 1, 1) := by decide +kernel
theorem dX0_lastsBy_20 : decode cX0_lastsBy 20 = .ok (.if_icmp .ne 7, 3) := by decide +kernel
theorem dX0_lastsBy_23 : decode cX0_lastsBy 23 = .ok (.iload_n 2, 1) := by decide +kernel
theorem dX0_lastsBy_24 : decode cX0_lastsBy 24 = .ok (.goto 6, 3) := by decide +kernel
theorem dX0_lastsBy_27 : decode cX0_lastsBy 27 = .ok (.iload_n 2, 1) := by decide +kernel
theorem dX0_lastsBy_28 : decode cX0_lastsBy 28 = .ok (.iconst 2, 1) := by decide +kernel
theorem dX0_lastsBy_29 : decode cX0_lastsBy 29 = .ok (.idiv, 1) := by decide +kernel
theorem dX0_lastsBy_30 : decode cX0_lastsBy 30 = .ok (.ireturn, 1) := by decide +kernel
set_option maxRecDepth 20000 in
theorem ggX0_lookOf_X4_numberIn : GoodIn wsX0_lookOf wsX4_numberIn := goodIn_r _ [4] (by decide +kernel) (by decide +kernel)
set_option maxRecDepth 20000 in
theorem gX0_lookOf_X4_numberIn_n64 : GoodIn wsX0_lookOf (wsX4_numberIn) := ggX0_lookOf_X4_numberIn
theorem dX0_lookOf_0 : decode cX0_lookOf 0 = .ok (.aload_n 0, 1) := by decide +kernel
theorem dX0_lookOf_1 : decode cX0_lookOf 1 = .ok (.getfield 9, 3) := by decide +kernel
theorem dX0_lookOf_4 : decode cX0_lookOf 4 = .ok (.iload_n 1, 1) := by decide +kernel
theorem dX0_lookOf_5 : decode cX0_lookOf 5 = .ok (.invokestatic 64, 3) := by decide +kernel
theorem dX0_lookOf_8 : decode cX0_lookOf 8 = .ok (.ireturn, 1) := by decide +kernel
set_option maxRecDepth 20000 in
theorem ggX0_changeLook_X4_changeIn : GoodIn wsX0_changeLook wsX4_changeIn := goodIn_r _ [4] (by decide +kernel) (by decide +kernel)
set_option maxRecDepth 20000 in
theorem gX0_changeLook_X4_changeIn_n47 : GoodIn wsX0_changeLook (wsX4_changeIn) := ggX0_changeLook_X4_changeIn
theorem dX0_changeLook_0 : decode cX0_changeLook 0 = .ok (.aload_n 0, 1) := by decide +kernel
theorem dX0_changeLook_1 : decode cX0_changeLook 1 = .ok (.getfield 9, 3) := by decide +kernel
theorem dX0_changeLook_4 : decode cX0_changeLook 4 = .ok (.iload_n 1, 1) := by decide +kernel
theorem dX0_changeLook_5 : decode cX0_changeLook 5 = .ok (.iload_n 2, 1) := by decide +kernel
theorem dX0_changeLook_6 : decode cX0_changeLook 6 = .ok (.invokestatic 47, 3) := by decide +kernel
theorem dX0_changeLook_9 : decode cX0_changeLook 9 = .ok (.return_, 1) := by decide +kernel
theorem dX0_sourLook_0 : decode cX0_sourLook 0 = .ok (.aload_n 0, 1) := by decide +kernel
theorem dX0_sourLook_1 : decode cX0_sourLook 1 = .ok (.getfield 33, 3) := by decide +kernel
theorem dX0_sourLook_4 : decode cX0_sourLook 4 = .ok (.ireturn, 1) := by decide +kernel
theorem dX0_changeSour_0 : decode cX0_changeSour 0 = .ok (.aload_n 0, 1) := by decide +kernel
theorem dX0_changeSour_1 : decode cX0_changeSour 1 = .ok (.iload_n 1, 1) := by decide +kernel
theorem dX0_changeSour_2 : decode cX0_changeSour 2 = .ok (.putfield 33, 3) := by decide +kernel
theorem dX0_changeSour_5 : decode cX0_changeSour 5 = .ok (.return_, 1) := by decide +kernel
set_option maxRecDepth 20000 in
theorem ggX0_fastDays_X4_numberIn : GoodIn wsX0_fastDays wsX4_numberIn := goodIn_r _ [6] (by decide +kernel) (by decide +kernel)
set_option maxRecDepth 20000 in
theorem gX0_fastDays_X4_numberIn_n64 : GoodIn wsX0_fastDays (wsX4_numberIn) := ggX0_fastDays_X4_numberIn
theorem dX0_fastDays_0 : decode cX0_fastDays 0 = .ok (.iconst 0, 1) := by decide +kernel
theorem dX0_fastDays_1 : decode cX0_fastDays 1 = .ok (.istore_n 1, 1) := by decide +kernel
theorem dX0_fastDays_2 : decode cX0_fastDays 2 = .ok (.iconst 0, 1) := by decide +kernel
theorem dX0_fastDays_3 : decode cX0_fastDays 3 = .ok (.istore_n 2, 1) := by decide +kernel
theorem dX0_fastDays_4 : decode cX0_fastDays 4 = .ok (.iload_n 2, 1) := by decide +kernel
theorem dX0_fastDays_5 : decode cX0_fastDays 5 = .ok (.aload_n 0, 1) := by decide +kernel
theorem dX0_fastDays_6 : decode cX0_fastDays 6 = .ok (.getfield 37, 3) := by decide +kernel
theorem dX0_fastDays_9 : decode cX0_fastDays 9 = .ok (.if_icmp .ge 30, 3) := by decide +kernel
theorem dX0_fastDays_12 : decode cX0_fastDays 12 = .ok (.aload_n 0, 1) := by decide +kernel
theorem dX0_fastDays_13 : decode cX0_fastDays 13 = .ok (.getfield 9, 3) := by decide +kernel
theorem dX0_fastDays_16 : decode cX0_fastDays 16 = .ok (.iload_n 2, 1) := by decide +kernel
theorem dX0_fastDays_17 : decode cX0_fastDays 17 = .ok (.invokestatic 64, 3) := by decide +kernel
theorem dX0_fastDays_20 : decode cX0_fastDays 20 = .ok (.aload_n 0, 1) := by decide +kernel
theorem dX0_fastDays_21 : decode cX0_fastDays 21 = .ok (.getfield 33, 3) := by decide +kernel
theorem dX0_fastDays_24 : decode cX0_fastDays 24 = .ok (.if_icmp .lt 9, 3) := by decide +kernel
theorem dX0_fastDays_27 : decode cX0_fastDays 27 = .ok (.iload_n 1, 1) := by decide +kernel
theorem dX0_fastDays_28 : decode cX0_fastDays 28 = .ok (.iconst 1, 1) := by decide +kernel
theorem dX0_fastDays_29 : decode cX0_fastDays 29 = .ok (.iload_n 2, 1) := by decide +kernel
theorem dX0_fastDays_30 : decode cX0_fastDays 30 = .ok (.ishl, 1) := by decide +kernel
theorem dX0_fastDays_31 : decode cX0_fastDays 31 = .ok (.ior, 1) := by decide +kernel
theorem dX0_fastDays_32 : decode cX0_fastDays 32 = .ok (.istore_n 1, 1) := by decide +kernel
theorem dX0_fastDays_33 : decode cX0_fastDays 33 = .ok (.iinc 2 1, 3) := by decide +kernel
theorem dX0_fastDays_36 : decode cX0_fastDays 36 = .ok (.goto (-32), 3) := by decide +kernel
theorem dX0_fastDays_39 : decode cX0_fastDays 39 = .ok (.iload_n 1, 1) := by decide +kernel
theorem dX0_fastDays_40 : decode cX0_fastDays 40 = .ok (.ireturn, 1) := by decide +kernel
set_option maxRecDepth 20000 in
theorem ggX0_fastDaysBut_X0_fastDays : GoodIn wsX0_fastDaysBut wsX0_fastDays := goodIn_r _ [5, 6, 7, 8, 9, 10, 11, 12, 13, 14, 15, 16, 17, 18, 19] (by decide +kernel) (by decide +kernel)
set_option maxRecDepth 20000 in
theorem gX0_fastDaysBut_X0_fastDays : GoodIn wsX0_fastDaysBut (wsV RX0 72 RX0 yX0_fastDays wsX0_fastDays) := goodIn_app (goodIn_of _ (by decide +kernel)) ggX0_fastDaysBut_X0_fastDays
theorem dX0_fastDaysBut_0 : decode cX0_fastDaysBut 0 = .ok (.aload_n 0, 1) := by decide +kernel
theorem dX0_fastDaysBut_1 : decode cX0_fastDaysBut 1 = .ok (.invokevirtual 72, 3) := by decide +kernel
theorem dX0_fastDaysBut_4 : decode cX0_fastDaysBut 4 = .ok (.iconst 1, 1) := by decide +kernel
theorem dX0_fastDaysBut_5 : decode cX0_fastDaysBut 5 = .ok (.iload_n 1, 1) := by decide +kernel
theorem dX0_fastDaysBut_6 : decode cX0_fastDaysBut 6 = .ok (.ishl, 1) := by decide +kernel
theorem dX0_fastDaysBut_7 : decode cX0_fastDaysBut 7 = .ok (.iconst (-1), 1) := by decide +kernel
theorem dX0_fastDaysBut_8 : decode cX0_fastDaysBut 8 = .ok (.ixor, 1) := by decide +kernel
theorem dX0_fastDaysBut_9 : decode cX0_fastDaysBut 9 = .ok (.iand, 1) := by decide +kernel
theorem dX0_fastDaysBut_10 : decode cX0_fastDaysBut 10 = .ok (.ireturn, 1) := by decide +kernel
set_option maxRecDepth 20000 in
theorem ggX0_yellowDays_X0_allDays : GoodIn wsX0_yellowDays wsX0_allDays := goodIn_r _ [5, 6, 7, 8, 9, 10, 11, 12, 13, 14] (by decide +kernel) (by decide +kernel)
set_option maxRecDepth 20000 in
theorem gX0_yellowDays_X0_allDays : GoodIn wsX0_yellowDays (wsV RX0 60 RX0 yX0_allDays wsX0_allDays) := goodIn_app (goodIn_of _ (by decide +kernel)) ggX0_yellowDays_X0_allDays
theorem dX0_yellowDays_0 : decode cX0_yellowDays 0 = .ok (.iconst 0, 1) := by decide +kernel
theorem dX0_yellowDays_1 : decode cX0_yellowDays 1 = .ok (.istore_n 3, 1) := by decide +kernel
theorem dX0_yellowDays_2 : decode cX0_yellowDays 2 = .ok (.iconst 0, 1) := by decide +kernel
theorem dX0_yellowDays_3 : decode cX0_yellowDays 3 = .ok (.istore 4, 2) := by decide +kernel
theorem dX0_yellowDays_5 : decode cX0_yellowDays 5 = .ok (.iload 4, 2) := by decide +kernel
theorem dX0_yellowDays_7 : decode cX0_yellowDays 7 = .ok (.iload_n 1, 1) := by decide +kernel
theorem dX0_yellowDays_8 : decode cX0_yellowDays 8 = .ok (.if_icmp .gt 22, 3) := by decide +kernel
theorem dX0_yellowDays_11 : decode cX0_yellowDays 11 = .ok (.iload 4, 2) := by decide +kernel
theorem dX0_yellowDays_13 : decode cX0_yellowDays 13 = .ok (.iconst 5, 1) := by decide +kernel
theorem dX0_yellowDays_14 : decode cX0_yellowDays 14 = .ok (.if_icmp .gt 16, 3) := by decide +kernel
theorem dX0_yellowDays_17 : decode cX0_yellowDays 17 = .ok (.iload_n 3, 1) := by decide +kernel
theorem dX0_yellowDays_18 : decode cX0_yellowDays 18 = .ok (.iload_n 2, 1) := by decide +kernel
theorem dX0_yellowDays_19 : decode cX0_yellowDays 19 = .ok (.iload 4, 2) := by decide +kernel
theorem dX0_yellowDays_21 : decode cX0_yellowDays 21 = .ok (.ishl, 1) := by decide +kernel
theorem dX0_yellowDays_22 : decode cX0_yellowDays 22 = .ok (.ior, 1) := by decide +kernel
theorem dX0_yellowDays_23 : decode cX0_yellowDays 23 = .ok (.istore_n 3, 1) := by decide +kernel
theorem dX0_yellowDays_24 : decode cX0_yellowDays 24 = .ok (.iinc 4 1, 3) := by decide +kernel
theorem dX0_yellowDays_27 : decode cX0_yellowDays 27 = .ok (.goto (-22), 3) := by decide +kernel
theorem dX0_yellowDays_30 : decode cX0_yellowDays 30 = .ok (.iload_n 3, 1) := by decide +kernel
theorem dX0_yellowDays_31 : decode cX0_yellowDays 31 = .ok (.aload_n 0, 1) := by decide +kernel
theorem dX0_yellowDays_32 : decode cX0_yellowDays 32 = .ok (.invokevirtual 60, 3) := by decide +kernel
theorem dX0_yellowDays_35 : decode cX0_yellowDays 35 = .ok (.iand, 1) := by decide +kernel
theorem dX0_yellowDays_36 : decode cX0_yellowDays 36 = .ok (.ireturn, 1) := by decide +kernel
set_option maxRecDepth 20000 in
theorem ggX0_foundDays_X0_lastsOf : GoodIn wsX0_foundDays wsX0_lastsOf := goodIn_r _ [5, 6, 7, 8, 9, 10, 11, 12, 4, 13, 29, 30, 31, 32, 33, 34, 35, 36] (by decide +kernel) (by decide +kernel)
set_option maxRecDepth 20000 in
theorem gX0_foundDays_X0_lastsOf : GoodIn wsX0_foundDays (wsV RX0 75 RX0 yX0_lastsOf wsX0_lastsOf) := goodIn_app (goodIn_of _ (by decide +kernel)) ggX0_foundDays_X0_lastsOf
set_option maxRecDepth 20000 in
theorem ggX0_foundDays_X0_yellowDays : GoodIn wsX0_foundDays wsX0_yellowDays := goodIn_r _ [17, 18, 19, 20, 4, 21, 22, 29, 30, 31, 32, 33, 34, 35, 36] (by decide +kernel) (by decide +kernel)
set_option maxRecDepth 20000 in
theorem gX0_foundDays_X0_yellowDays : GoodIn wsX0_foundDays (wsV RX0 78 RX0 yX0_yellowDays wsX0_yellowDays) := goodIn_app (goodIn_of _ (by decide +kernel)) ggX0_foundDays_X0_yellowDays
set_option maxRecDepth 20000 in
theorem ggX0_foundDays_X0_fastDays : GoodIn wsX0_foundDays wsX0_fastDays := goodIn_r _ [26, 22, 27, 28, 8, 9, 10, 29, 30, 31, 32, 33, 34, 35, 36] (by decide +kernel) (by decide +kernel)
set_option maxRecDepth 20000 in
theorem gX0_foundDays_X0_fastDays : GoodIn wsX0_foundDays (wsV RX0 72 RX0 yX0_fastDays wsX0_fastDays) := goodIn_app (goodIn_of _ (by decide +kernel)) ggX0_foundDays_X0_fastDays
theorem dX0_foundDays_0 : decode cX0_foundDays 0 = .ok (.aload_n 0, 1) := by decide +kernel
theorem dX0_foundDays_1 : decode cX0_foundDays 1 = .ok (.aload_n 0, 1) := by decide +kernel
theorem dX0_foundDays_2 : decode cX0_foundDays 2 = .ok (.iload_n 1, 1) := by decide +kernel
theorem dX0_foundDays_3 : decode cX0_foundDays 3 = .ok (.invokevirtual 75, 3) := by decide +kernel
theorem dX0_foundDays_6 : decode cX0_foundDays 6 = .ok (.iload_n 2, 1) := by decide +kernel
theorem dX0_foundDays_7 : decode cX0_foundDays 7 = .ok (.invokevirtual 78, 3) := by decide +kernel
theorem dX0_foundDays_10 : decode cX0_foundDays 10 = .ok (.aload_n 0, 1) := by decide +kernel
theorem dX0_foundDays_11 : decode cX0_foundDays 11 = .ok (.invokevirtual 72, 3) := by decide +kernel
theorem dX0_foundDays_14 : decode cX0_foundDays 14 = .ok (.iand, 1) := by decide +kernel
theorem dX0_foundDays_15 : decode cX0_foundDays 15 = .ok (.ireturn, 1) := by decide +kernel
set_option maxRecDepth 20000 in
theorem ggX0_fineOf_X0_foundDays : GoodIn wsX0_fineOf wsX0_foundDays := goodIn_r _ [5, 6, 7, 8, 4, 9, 10, 11, 12, 13, 14, 15, 16, 17, 18, 19, 20, 21, 22, 23, 24, 25, 26, 27, 28, 29, 30, 31, 32, 45, 46, 47, 48, 49, 50, 51, 52] (by decide +kernel) (by decide +kernel)
set_option maxRecDepth 20000 in
theorem gX0_fineOf_X0_foundDays : GoodIn wsX0_fineOf (wsV RX0 81 RX0 yX0_foundDays wsX0_foundDays) := goodIn_app (goodIn_of _ (by decide +kernel)) ggX0_fineOf_X0_foundDays
set_option maxRecDepth 20000 in
theorem ggX0_fineOf_J6_bitCount_0f7a4 : GoodIn wsX0_fineOf wsJ6_bitCount_0f7a4 := goodIn_r _ [36, 37, 38, 39] (by decide +kernel) (by decide +kernel)
set_option maxRecDepth 20000 in
theorem gX0_fineOf_J6_bitCount_0f7a4 : GoodIn wsX0_fineOf (va_wsS RX0 84 yJ6_bitCount_0f7a4 wsJ6_bitCount_0f7a4) := goodIn_app (goodIn_of _ (by decide +kernel)) ggX0_fineOf_J6_bitCount_0f7a4
set_option maxRecDepth 20000 in
theorem ggX0_fineOf_X0_spoonsOf : GoodIn wsX0_fineOf wsX0_spoonsOf := goodIn_r _ [43, 44, 12, 13, 14, 45, 46, 47, 48, 49, 50, 51, 52] (by decide +kernel) (by decide +kernel)
set_option maxRecDepth 20000 in
theorem gX0_fineOf_X0_spoonsOf : GoodIn wsX0_fineOf (wsV RX0 89 RX0 yX0_spoonsOf wsX0_spoonsOf) := goodIn_app (goodIn_of _ (by decide +kernel)) ggX0_fineOf_X0_spoonsOf
theorem dX0_fineOf_0 : decode cX0_fineOf 0 = .ok (.aload_n 0, 1) := by decide +kernel
theorem dX0_fineOf_1 : decode cX0_fineOf 1 = .ok (.iload_n 1, 1) := by decide +kernel
theorem dX0_fineOf_2 : decode cX0_fineOf 2 = .ok (.iload_n 2, 1) := by decide +kernel
theorem dX0_fineOf_3 : decode cX0_fineOf 3 = .ok (.invokevirtual 81, 3) := by decide +kernel
theorem dX0_fineOf_6 : decode cX0_fineOf 6 = .ok (.invokestatic 84, 3) := by decide +kernel
theorem dX0_fineOf_9 : decode cX0_fineOf 9 = .ok (.aload_n 0, 1) := by decide +kernel
theorem dX0_fineOf_10 : decode cX0_fineOf 10 = .ok (.iload_n 1, 1) := by decide +kernel
theorem dX0_fineOf_11 : decode cX0_fineOf 11 = .ok (.invokevirtual 89, 3) := by decide +kernel
theorem dX0_fineOf_14 : decode cX0_fineOf 14 = .ok (.imul, 1) := by decide +kernel
theorem dX0_fineOf_15 : decode cX0_fineOf 15 = .ok (.ireturn, 1) := by decide +kernel
set_option maxRecDepth 20000 in
theorem ggX0_isFoundOn_X0_yellowDays : GoodIn wsX0_isFoundOn wsX0_yellowDays := goodIn_r _ [5, 6, 7, 8, 4, 9, 10, 19, 20, 21, 22, 23, 24, 25, 26] (by decide +kernel) (by decide +kernel)
set_option maxRecDepth 20000 in
theorem gX0_isFoundOn_X0_yellowDays : GoodIn wsX0_isFoundOn (wsV RX0 78 RX0 yX0_yellowDays wsX0_yellowDays) := goodIn_app (goodIn_of _ (by decide +kernel)) ggX0_isFoundOn_X0_yellowDays
set_option maxRecDepth 20000 in
theorem ggX0_isFoundOn_X0_lookOf : GoodIn wsX0_isFoundOn wsX0_lookOf := goodIn_r _ [14, 15, 16, 17, 18, 19, 20, 21, 22, 23, 24, 25, 26] (by decide +kernel) (by decide +kernel)
set_option maxRecDepth 20000 in
theorem gX0_isFoundOn_X0_lookOf : GoodIn wsX0_isFoundOn (wsV RX0 92 RX0 yX0_lookOf wsX0_lookOf) := goodIn_app (goodIn_of _ (by decide +kernel)) ggX0_isFoundOn_X0_lookOf
theorem dX0_isFoundOn_0 : decode cX0_isFoundOn 0 = .ok (.aload_n 0, 1) := by decide +kernel
theorem dX0_isFoundOn_1 : decode cX0_isFoundOn 1 = .ok (.iload_n 3, 1) := by decide +kernel
theorem dX0_isFoundOn_2 : decode cX0_isFoundOn 2 = .ok (.iload_n 2, 1) := by decide +kernel
theorem dX0_isFoundOn_3 : decode cX0_isFoundOn 3 = .ok (.invokevirtual 78, 3) := by decide +kernel
theorem dX0_isFoundOn_6 : decode cX0_isFoundOn 6 = .ok (.iload_n 1, 1) := by decide +kernel
theorem dX0_isFoundOn_7 : decode cX0_isFoundOn 7 = .ok (.ishr, 1) := by decide +kernel
theorem dX0_isFoundOn_8 : decode cX0_isFoundOn 8 = .ok (.iconst 1, 1) := by decide +kernel
theorem dX0_isFoundOn_9 : decode cX0_isFoundOn 9 = .ok (.iand, 1) := by decide +kernel
theorem dX0_isFoundOn_10 : decode cX0_isFoundOn 10 = .ok (.ifCond .eq 17, 3) := by decide +kernel
theorem dX0_isFoundOn_13 : decode cX0_isFoundOn 13 = .ok (.aload_n 0, 1) := by decide +kernel
theorem dX0_isFoundOn_14 : decode cX0_isFoundOn 14 = .ok (.iload_n 1, 1) := by decide +kernel
theorem dX0_isFoundOn_15 : decode cX0_isFoundOn 15 = .ok (.invokevirtual 92, 3) := by decide +kernel
theorem dX0_isFoundOn_18 : decode cX0_isFoundOn 18 = .ok (.iload 4, 2) := by decide +kernel
theorem dX0_isFoundOn_20 : decode cX0_isFoundOn 20 = .ok (.if_icmp .lt 7, 3) := by decide +kernel
theorem dX0_isFoundOn_23 : decode cX0_isFoundOn 23 = .ok (.iconst 1, 1) := by decide +kernel
theorem dX0_isFoundOn_24 : decode cX0_isFoundOn 24 = .ok (.goto 4, 3) := by decide +kernel
theorem dX0_isFoundOn_27 : decode cX0_isFoundOn 27 = .ok (.iconst 0, 1) := by decide +kernel
theorem dX0_isFoundOn_28 : decode cX0_isFoundOn 28 = .ok (.ireturn, 1) := by decide +kernel
set_option maxRecDepth 20000 in
theorem ggX0_hasPlan_X2_numberAt : GoodIn wsX0_hasPlan wsX2_numberAt := goodIn_r _ [6, 7, 8, 9, 10, 29, 30, 31] (by decide +kernel) (by decide +kernel)
set_option maxRecDepth 20000 in
theorem gX0_hasPlan_X2_numberAt : GoodIn wsX0_hasPlan (wsV RX0 51 RX2 yX2_numberAt wsX2_numberAt) := goodIn_app (goodIn_of _ (by decide +kernel)) ggX0_hasPlan_X2_numberAt
set_option maxRecDepth 20000 in
theorem ggX0_hasPlan_X0_hasDays : GoodIn wsX0_hasPlan wsX0_hasDays := goodIn_r _ [15, 16, 17, 18, 14, 19, 20, 21, 22, 23, 24, 25, 26, 27, 28] (by decide +kernel) (by decide +kernel)
set_option maxRecDepth 20000 in
theorem gX0_hasPlan_X0_hasDays : GoodIn wsX0_hasPlan (wsV RX0 95 RX0 yX0_hasDays wsX0_hasDays) := goodIn_app (goodIn_of _ (by decide +kernel)) ggX0_hasPlan_X0_hasDays
theorem dX0_hasPlan_0 : decode cX0_hasPlan 0 = .ok (.iload_n 3, 1) := by decide +kernel
theorem dX0_hasPlan_1 : decode cX0_hasPlan 1 = .ok (.aload_n 0, 1) := by decide +kernel
theorem dX0_hasPlan_2 : decode cX0_hasPlan 2 = .ok (.getfield 40, 3) := by decide +kernel
theorem dX0_hasPlan_5 : decode cX0_hasPlan 5 = .ok (.if_icmp .eq 5, 3) := by decide +kernel
theorem dX0_hasPlan_8 : decode cX0_hasPlan 8 = .ok (.iconst 0, 1) := by decide +kernel
theorem dX0_hasPlan_9 : decode cX0_hasPlan 9 = .ok (.ireturn, 1) := by decide +kernel
theorem dX0_hasPlan_10 : decode cX0_hasPlan 10 = .ok (.iconst 0, 1) := by decide +kernel
theorem dX0_hasPlan_11 : decode cX0_hasPlan 11 = .ok (.istore 4, 2) := by decide +kernel
theorem dX0_hasPlan_13 : decode cX0_hasPlan 13 = .ok (.iload 4, 2) := by decide +kernel
theorem dX0_hasPlan_15 : decode cX0_hasPlan 15 = .ok (.aload_n 0, 1) := by decide +kernel
theorem dX0_hasPlan_16 : decode cX0_hasPlan 16 = .ok (.getfield 40, 3) := by decide +kernel
theorem dX0_hasPlan_19 : decode cX0_hasPlan 19 = .ok (.if_icmp .ge 26, 3) := by decide +kernel
theorem dX0_hasPlan_22 : decode cX0_hasPlan 22 = .ok (.aload_n 0, 1) := by decide +kernel
theorem dX0_hasPlan_23 : decode cX0_hasPlan 23 = .ok (.aload_n 1, 1) := by decide +kernel
theorem dX0_hasPlan_24 : decode cX0_hasPlan 24 = .ok (.iload_n 2, 1) := by decide +kernel
theorem dX0_hasPlan_25 : decode cX0_hasPlan 25 = .ok (.iload 4, 2) := by decide +kernel
theorem dX0_hasPlan_27 : decode cX0_hasPlan 27 = .ok (.iadd, 1) := by decide +kernel
theorem dX0_hasPlan_28 : decode cX0_hasPlan 28 = .ok (.invokevirtual 51, 3) := by decide +kernel
theorem dX0_hasPlan_31 : decode cX0_hasPlan 31 = .ok (.invokevirtual 95, 3) := by decide +kernel
theorem dX0_hasPlan_34 : decode cX0_hasPlan 34 = .ok (.ifCond .ne 5, 3) := by decide +kernel
theorem dX0_hasPlan_37 : decode cX0_hasPlan 37 = .ok (.iconst 0, 1) := by decide +kernel
theorem dX0_hasPlan_38 : decode cX0_hasPlan 38 = .ok (.ireturn, 1) := by decide +kernel
theorem dX0_hasPlan_39 : decode cX0_hasPlan 39 = .ok (.iinc 4 1, 3) := by decide +kernel
theorem dX0_hasPlan_42 : decode cX0_hasPlan 42 = .ok (.goto (-29), 3) := by decide +kernel
theorem dX0_hasPlan_45 : decode cX0_hasPlan 45 = .ok (.iconst 1, 1) := by decide +kernel
theorem dX0_hasPlan_46 : decode cX0_hasPlan 46 = .ok (.ireturn, 1) := by decide +kernel
set_option maxRecDepth 20000 in
theorem ggX0_finesOfPlan_X2_numberAt : GoodIn wsX0_finesOfPlan wsX2_numberAt := goodIn_r _ [6, 7, 8, 9, 10, 64, 65, 66] (by decide +kernel) (by decide +kernel)
set_option maxRecDepth 20000 in
theorem gX0_finesOfPlan_X2_numberAt : GoodIn wsX0_finesOfPlan (wsV RX0 51 RX2 yX2_numberAt wsX2_numberAt) := goodIn_app (goodIn_of _ (by decide +kernel)) ggX0_finesOfPlan_X2_numberAt
set_option maxRecDepth 20000 in
theorem ggX0_finesOfPlan_X0_fineOf : GoodIn wsX0_finesOfPlan wsX0_fineOf := goodIn_r _ [15, 16, 17, 18, 14, 19, 20, 21, 22, 23, 24, 25, 8, 9, 10, 26, 27, 28, 29, 30, 31, 32, 33, 34, 35, 36, 37, 38, 39, 40, 41, 42, 43, 44, 45, 46, 47, 48, 49, 50, 51, 52, 53, 54, 55, 56, 57, 58, 59, 60, 61, 62, 63] (by decide +kernel) (by decide +kernel)
set_option maxRecDepth 20000 in
theorem gX0_finesOfPlan_X0_fineOf : GoodIn wsX0_finesOfPlan (wsV RX0 99 RX0 yX0_fineOf wsX0_fineOf) := goodIn_app (goodIn_of _ (by decide +kernel)) ggX0_finesOfPlan_X0_fineOf
theorem dX0_finesOfPlan_0 : decode cX0_finesOfPlan 0 = .ok (.iconst 0, 1) := by decide +kernel
theorem dX0_finesOfPlan_1 : decode cX0_finesOfPlan 1 = .ok (.istore_n 3, 1) := by decide +kernel
theorem dX0_finesOfPlan_2 : decode cX0_finesOfPlan 2 = .ok (.iconst 0, 1) := by decide +kernel
theorem dX0_finesOfPlan_3 : decode cX0_finesOfPlan 3 = .ok (.istore 4, 2) := by decide +kernel
theorem dX0_finesOfPlan_5 : decode cX0_finesOfPlan 5 = .ok (.iload 4, 2) := by decide +kernel
theorem dX0_finesOfPlan_7 : decode cX0_finesOfPlan 7 = .ok (.aload_n 0, 1) := by decide +kernel
theorem dX0_finesOfPlan_8 : decode cX0_finesOfPlan 8 = .ok (.getfield 40, 3) := by decide +kernel
theorem dX0_finesOfPlan_11 : decode cX0_finesOfPlan 11 = .ok (.if_icmp .ge 26, 3) := by decide +kernel
theorem dX0_finesOfPlan_14 : decode cX0_finesOfPlan 14 = .ok (.iload_n 3, 1) := by decide +kernel
theorem dX0_finesOfPlan_15 : decode cX0_finesOfPlan 15 = .ok (.aload_n 0, 1) := by decide +kernel
theorem dX0_finesOfPlan_16 : decode cX0_finesOfPlan 16 = .ok (.iload 4, 2) := by decide +kernel
theorem dX0_finesOfPlan_18 : decode cX0_finesOfPlan 18 = .ok (.aload_n 1, 1) := by decide +kernel
theorem dX0_finesOfPlan_19 : decode cX0_finesOfPlan 19 = .ok (.iload_n 2, 1) := by decide +kernel
theorem dX0_finesOfPlan_20 : decode cX0_finesOfPlan 20 = .ok (.iload 4, 2) := by decide +kernel
theorem dX0_finesOfPlan_22 : decode cX0_finesOfPlan 22 = .ok (.iadd, 1) := by decide +kernel
theorem dX0_finesOfPlan_23 : decode cX0_finesOfPlan 23 = .ok (.invokevirtual 51, 3) := by decide +kernel
theorem dX0_finesOfPlan_26 : decode cX0_finesOfPlan 26 = .ok (.invokevirtual 99, 3) := by decide +kernel
theorem dX0_finesOfPlan_29 : decode cX0_finesOfPlan 29 = .ok (.iadd, 1) := by decide +kernel
theorem dX0_finesOfPlan_30 : decode cX0_finesOfPlan 30 = .ok (.istore_n 3, 1) := by decide +kernel
theorem dX0_finesOfPlan_31 : decode cX0_finesOfPlan 31 = .ok (.iinc 4 1, 3) := by decide +kernel
theorem dX0_finesOfPlan_34 : decode cX0_finesOfPlan 34 = .ok (.goto (-29), 3) := by decide +kernel
theorem dX0_finesOfPlan_37 : decode cX0_finesOfPlan 37 = .ok (.iload_n 3, 1) := by decide +kernel
theorem dX0_finesOfPlan_38 : decode cX0_finesOfPlan 38 = .ok (.ireturn, 1) := by decide +kernel
set_option maxRecDepth 20000 in
theorem ggX0_firstDayOfPlan_X2_numberAt : GoodIn wsX0_firstDayOfPlan wsX2_numberAt := goodIn_r _ [7, 8, 9, 10, 11, 48, 49, 50] (by decide +kernel) (by decide +kernel)
set_option maxRecDepth 20000 in
theorem gX0_firstDayOfPlan_X2_numberAt : GoodIn wsX0_firstDayOfPlan (wsV RX0 51 RX2 yX2_numberAt wsX2_numberAt) := goodIn_app (goodIn_of _ (by decide +kernel)) ggX0_firstDayOfPlan_X2_numberAt
set_option maxRecDepth 20000 in
theorem ggX0_firstDayOfPlan_X0_foundDays : GoodIn wsX0_firstDayOfPlan wsX0_foundDays := goodIn_r _ [16, 17, 18, 19, 15, 20, 21, 22, 9, 10, 11, 23, 24, 25, 26, 27, 28, 29, 30, 31, 32, 33, 2, 34, 35, 36, 37, 38, 39, 40, 41, 42, 43, 44, 45, 46, 47] (by decide +kernel) (by decide +kernel)
set_option maxRecDepth 20000 in
theorem gX0_firstDayOfPlan_X0_foundDays : GoodIn wsX0_firstDayOfPlan (wsV RX0 81 RX0 yX0_foundDays wsX0_foundDays) := goodIn_app (goodIn_of _ (by decide +kernel)) ggX0_firstDayOfPlan_X0_foundDays
theorem dX0_firstDayOfPlan_0 : decode cX0_firstDayOfPlan 0 = .ok (.iconst 0, 1) := by decide +kernel
theorem dX0_firstDayOfPlan_1 : decode cX0_firstDayOfPlan 1 = .ok (.istore_n 3, 1) := by decide +kernel
theorem dX0_firstDayOfPlan_2 : decode cX0_firstDayOfPlan 2 = .ok (.iconst 0, 1) := by decide +kernel
theorem dX0_firstDayOfPlan_3 : decode cX0_firstDayOfPlan 3 = .ok (.istore 4, 2) := by decide +kernel
theorem dX0_firstDayOfPlan_5 : decode cX0_firstDayOfPlan 5 = .ok (.iload 4, 2) := by decide +kernel
theorem dX0_firstDayOfPlan_7 : decode cX0_firstDayOfPlan 7 = .ok (.aload_n 0, 1) := by decide +kernel
theorem dX0_firstDayOfPlan_8 : decode cX0_firstDayOfPlan 8 = .ok (.getfield 40, 3) := by decide +kernel
theorem dX0_firstDayOfPlan_11 : decode cX0_firstDayOfPlan 11 = .ok (.if_icmp .ge 26, 3) := by decide +kernel
theorem dX0_firstDayOfPlan_14 : decode cX0_firstDayOfPlan 14 = .ok (.iload_n 3, 1) := by decide +kernel
theorem dX0_firstDayOfPlan_15 : decode cX0_firstDayOfPlan 15 = .ok (.aload_n 0, 1) := by decide +kernel
theorem dX0_firstDayOfPlan_16 : decode cX0_firstDayOfPlan 16 = .ok (.iload 4, 2) := by decide +kernel
theorem dX0_firstDayOfPlan_18 : decode cX0_firstDayOfPlan 18 = .ok (.aload_n 1, 1) := by decide +kernel
theorem dX0_firstDayOfPlan_19 : decode cX0_firstDayOfPlan 19 = .ok (.iload_n 2, 1) := by decide +kernel
theorem dX0_firstDayOfPlan_20 : decode cX0_firstDayOfPlan 20 = .ok (.iload 4, 2) := by decide +kernel
theorem dX0_firstDayOfPlan_22 : decode cX0_firstDayOfPlan 22 = .ok (.iadd, 1) := by decide +kernel
theorem dX0_firstDayOfPlan_23 : decode cX0_firstDayOfPlan 23 = .ok (.invokevirtual 51, 3) := by decide +kernel
theorem dX0_firstDayOfPlan_26 : decode cX0_firstDayOfPlan 26 = .ok (.invokevirtual 81, 3) := by decide +kernel
theorem dX0_firstDayOfPlan_29 : decode cX0_firstDayOfPlan 29 = .ok (.ior, 1) := by decide +kernel
theorem dX0_firstDayOfPlan_30 : decode cX0_firstDayOfPlan 30 = .ok (.istore_n 3, 1) := by decide +kernel
theorem dX0_firstDayOfPlan_31 : decode cX0_firstDayOfPlan 31 = .ok (.iinc 4 1, 3) := by decide +kernel
theorem dX0_firstDayOfPlan_34 : decode cX0_firstDayOfPlan 34 = .ok (.goto (-29), 3) := by decide +kernel
theorem dX0_firstDayOfPlan_37 : decode cX0_firstDayOfPlan 37 = .ok (.iconst 0, 1) := by decide +kernel
theorem dX0_firstDayOfPlan_38 : decode cX0_firstDayOfPlan 38 = .ok (.istore 4, 2) := by decide +kernel
theorem dX0_firstDayOfPlan_40 : decode cX0_firstDayOfPlan 40 = .ok (.iload 4, 2) := by decide +kernel
theorem dX0_firstDayOfPlan_42 : decode cX0_firstDayOfPlan 42 = .ok (.aload_n 0, 1) := by decide +kernel
theorem dX0_firstDayOfPlan_43 : decode cX0_firstDayOfPlan 43 = .ok (.getfield 37, 3) := by decide +kernel
theorem dX0_firstDayOfPlan_46 : decode cX0_firstDayOfPlan 46 = .ok (.if_icmp .ge 21, 3) := by decide +kernel
theorem dX0_firstDayOfPlan_49 : decode cX0_firstDayOfPlan 49 = .ok (.iload_n 3, 1) := by decide +kernel
theorem dX0_firstDayOfPlan_50 : decode cX0_firstDayOfPlan 50 = .ok (.iload 4, 2) := by decide +kernel
theorem dX0_firstDayOfPlan_52 : decode cX0_firstDayOfPlan 52 = .ok (.ishr, 1) := by decide +kernel
theorem dX0_firstDayOfPlan_53 : decode cX0_firstDayOfPlan 53 = .ok (.iconst 1, 1) := by decide +kernel
theorem dX0_firstDayOfPlan_54 : decode cX0_firstDayOfPlan 54 = .ok (.iand, 1) := by decide +kernel
theorem dX0_firstDayOfPlan_55 : decode cX0_firstDayOfPlan 55 = .ok (.ifCond .eq 6, 3) := by decide +kernel
theorem dX0_firstDayOfPlan_58 : decode cX0_firstDayOfPlan 58 = .ok (.iload 4, 2) := by decide +kernel
theorem dX0_firstDayOfPlan_60 : decode cX0_firstDayOfPlan 60 = .ok (.ireturn, 1) := by decide +kernel
theorem dX0_firstDayOfPlan_61 : decode cX0_firstDayOfPlan 61 = .ok (.iinc 4 1, 3) := by decide +kernel
theorem dX0_firstDayOfPlan_64 : decode cX0_firstDayOfPlan 64 = .ok (.goto (-24), 3) := by decide +kernel
theorem dX0_firstDayOfPlan_67 : decode cX0_firstDayOfPlan 67 = .ok (.bipush (-9), 2) := by decide +kernel
theorem dX0_firstDayOfPlan_69 : decode cX0_firstDayOfPlan 69 = .ok (.ireturn, 1) := by decide +kernel
set_option maxRecDepth 20000 in
theorem ggX0_foundEatersOfPlan_X2_numberAt : GoodIn wsX0_foundEatersOfPlan wsX2_numberAt := goodIn_r _ [6, 7, 8, 9, 10, 48, 49, 50] (by decide +kernel) (by decide +kernel)
set_option maxRecDepth 20000 in
theorem gX0_foundEatersOfPlan_X2_numberAt : GoodIn wsX0_foundEatersOfPlan (wsV RX0 51 RX2 yX2_numberAt wsX2_numberAt) := goodIn_app (goodIn_of _ (by decide +kernel)) ggX0_foundEatersOfPlan_X2_numberAt
set_option maxRecDepth 20000 in
theorem ggX0_foundEatersOfPlan_X0_foundDays : GoodIn wsX0_foundEatersOfPlan wsX0_foundDays := goodIn_r _ [15, 16, 17, 18, 14, 19, 20, 21, 8, 9, 10, 22, 23, 24, 25, 26, 27, 28, 29, 30, 31, 32, 33, 34, 35, 36, 37, 38, 39, 40, 41, 42, 43, 44, 45, 46, 47] (by decide +kernel) (by decide +kernel)
set_option maxRecDepth 20000 in
theorem gX0_foundEatersOfPlan_X0_foundDays : GoodIn wsX0_foundEatersOfPlan (wsV RX0 81 RX0 yX0_foundDays wsX0_foundDays) := goodIn_app (goodIn_of _ (by decide +kernel)) ggX0_foundEatersOfPlan_X0_foundDays
theorem dX0_foundEatersOfPlan_0 : decode cX0_foundEatersOfPlan 0 = .ok (.iconst 0, 1) := by decide +kernel
theorem dX0_foundEatersOfPlan_1 : decode cX0_foundEatersOfPlan 1 = .ok (.istore_n 3, 1) := by decide +kernel
theorem dX0_foundEatersOfPlan_2 : decode cX0_foundEatersOfPlan 2 = .ok (.iconst 0, 1) := by decide +kernel
theorem dX0_foundEatersOfPlan_3 : decode cX0_foundEatersOfPlan 3 = .ok (.istore 4, 2) := by decide +kernel
theorem dX0_foundEatersOfPlan_5 : decode cX0_foundEatersOfPlan 5 = .ok (.iload 4, 2) := by decide +kernel
theorem dX0_foundEatersOfPlan_7 : decode cX0_foundEatersOfPlan 7 = .ok (.aload_n 0, 1) := by decide +kernel
theorem dX0_foundEatersOfPlan_8 : decode cX0_foundEatersOfPlan 8 = .ok (.getfield 40, 3) := by decide +kernel
theorem dX0_foundEatersOfPlan_11 : decode cX0_foundEatersOfPlan 11 = .ok (.if_icmp .ge 33, 3) := by decide +kernel
theorem dX0_foundEatersOfPlan_14 : decode cX0_foundEatersOfPlan 14 = .ok (.aload_n 0, 1) := by decide +kernel
theorem dX0_foundEatersOfPlan_15 : decode cX0_foundEatersOfPlan 15 = .ok (.iload 4, 2) := by decide +kernel
theorem dX0_foundEatersOfPlan_17 : decode cX0_foundEatersOfPlan 17 = .ok (.aload_n 1, 1) := by decide +kernel
theorem dX0_foundEatersOfPlan_18 : decode cX0_foundEatersOfPlan 18 = .ok (.iload_n 2, 1) := by decide +kernel
theorem dX0_foundEatersOfPlan_19 : decode cX0_foundEatersOfPlan 19 = .ok (.iload 4, 2) := by decide +kernel
theorem dX0_foundEatersOfPlan_21 : decode cX0_foundEatersOfPlan 21 = .ok (.iadd, 1) := by decide +kernel
theorem dX0_foundEatersOfPlan_22 : decode cX0_foundEatersOfPlan 22 = .ok (.invokevirtual 51, 3) := by decide +kernel
theorem dX0_foundEatersOfPlan_25 : decode cX0_foundEatersOfPlan 25 = .ok (.invokevirtual 81, 3) := by decide +kernel
theorem dX0_foundEatersOfPlan_28 : decode cX0_foundEatersOfPlan 28 = .ok (.ifCond .eq 10, 3) := by decide +kernel
theorem dX0_foundEatersOfPlan_31 : decode cX0_foundEatersOfPlan 31 = .ok (.iload_n 3, 1) := by decide +kernel
theorem dX0_foundEatersOfPlan_32 : decode cX0_foundEatersOfPlan 32 = .ok (.iconst 1, 1) := by decide +kernel
theorem dX0_foundEatersOfPlan_33 : decode cX0_foundEatersOfPlan 33 = .ok (.iload 4, 2) := by decide +kernel
theorem dX0_foundEatersOfPlan_35 : decode cX0_foundEatersOfPlan 35 = .ok (.ishl, 1) := by decide +kernel
theorem dX0_foundEatersOfPlan_36 : decode cX0_foundEatersOfPlan 36 = .ok (.ior, 1) := by decide +kernel
theorem dX0_foundEatersOfPlan_37 : decode cX0_foundEatersOfPlan 37 = .ok (.istore_n 3, 1) := by decide +kernel
theorem dX0_foundEatersOfPlan_38 : decode cX0_foundEatersOfPlan 38 = .ok (.iinc 4 1, 3) := by decide +kernel
theorem dX0_foundEatersOfPlan_41 : decode cX0_foundEatersOfPlan 41 = .ok (.goto (-36), 3) := by decide +kernel
theorem dX0_foundEatersOfPlan_44 : decode cX0_foundEatersOfPlan 44 = .ok (.iload_n 3, 1) := by decide +kernel
theorem dX0_foundEatersOfPlan_45 : decode cX0_foundEatersOfPlan 45 = .ok (.ireturn, 1) := by decide +kernel
set_option maxRecDepth 20000 in
theorem ggX0_starvedEatersOfPlan_X2_numberAt : GoodIn wsX0_starvedEatersOfPlan wsX2_numberAt := goodIn_r _ [6, 7, 8, 9, 10, 32, 33, 34] (by decide +kernel) (by decide +kernel)
set_option maxRecDepth 20000 in
theorem gX0_starvedEatersOfPlan_X2_numberAt : GoodIn wsX0_starvedEatersOfPlan (wsV RX0 51 RX2 yX2_numberAt wsX2_numberAt) := goodIn_app (goodIn_of _ (by decide +kernel)) ggX0_starvedEatersOfPlan_X2_numberAt
set_option maxRecDepth 20000 in
theorem ggX0_starvedEatersOfPlan_J6_bitCount_0f7a4 : GoodIn wsX0_starvedEatersOfPlan wsJ6_bitCount_0f7a4 := goodIn_r _ [14, 15, 16, 17] (by decide +kernel) (by decide +kernel)
set_option maxRecDepth 20000 in
theorem gX0_starvedEatersOfPlan_J6_bitCount_0f7a4 : GoodIn wsX0_starvedEatersOfPlan (va_wsS RX0 84 yJ6_bitCount_0f7a4 wsJ6_bitCount_0f7a4) := goodIn_app (goodIn_of _ (by decide +kernel)) ggX0_starvedEatersOfPlan_J6_bitCount_0f7a4
set_option maxRecDepth 20000 in
theorem ggX0_starvedEatersOfPlan_X0_needOf : GoodIn wsX0_starvedEatersOfPlan wsX0_needOf := goodIn_r _ [22, 23, 8, 9, 10, 24, 25, 26, 27, 28, 29, 30, 31] (by decide +kernel) (by decide +kernel)
set_option maxRecDepth 20000 in
theorem gX0_starvedEatersOfPlan_X0_needOf : GoodIn wsX0_starvedEatersOfPlan (wsV RX0 102 RX0 yX0_needOf wsX0_needOf) := goodIn_app (goodIn_of _ (by decide +kernel)) ggX0_starvedEatersOfPlan_X0_needOf
theorem dX0_starvedEatersOfPlan_0 : decode cX0_starvedEatersOfPlan 0 = .ok (.iconst 0, 1) := by decide +kernel
theorem dX0_starvedEatersOfPlan_1 : decode cX0_starvedEatersOfPlan 1 = .ok (.istore_n 3, 1) := by decide +kernel
theorem dX0_starvedEatersOfPlan_2 : decode cX0_starvedEatersOfPlan 2 = .ok (.iconst 0, 1) := by decide +kernel
theorem dX0_starvedEatersOfPlan_3 : decode cX0_starvedEatersOfPlan 3 = .ok (.istore 4, 2) := by decide +kernel
theorem dX0_starvedEatersOfPlan_5 : decode cX0_starvedEatersOfPlan 5 = .ok (.iload 4, 2) := by decide +kernel
theorem dX0_starvedEatersOfPlan_7 : decode cX0_starvedEatersOfPlan 7 = .ok (.aload_n 0, 1) := by decide +kernel
theorem dX0_starvedEatersOfPlan_8 : decode cX0_starvedEatersOfPlan 8 = .ok (.getfield 40, 3) := by decide +kernel
theorem dX0_starvedEatersOfPlan_11 : decode cX0_starvedEatersOfPlan 11 = .ok (.if_icmp .ge 36, 3) := by decide +kernel
theorem dX0_starvedEatersOfPlan_14 : decode cX0_starvedEatersOfPlan 14 = .ok (.aload_n 1, 1) := by decide +kernel
theorem dX0_starvedEatersOfPlan_15 : decode cX0_starvedEatersOfPlan 15 = .ok (.iload_n 2, 1) := by decide +kernel
theorem dX0_starvedEatersOfPlan_16 : decode cX0_starvedEatersOfPlan 16 = .ok (.iload 4, 2) := by decide +kernel
theorem dX0_starvedEatersOfPlan_18 : decode cX0_starvedEatersOfPlan 18 = .ok (.iadd, 1) := by decide +kernel
theorem dX0_starvedEatersOfPlan_19 : decode cX0_starvedEatersOfPlan 19 = .ok (.invokevirtual 51, 3) := by decide +kernel
theorem dX0_starvedEatersOfPlan_22 : decode cX0_starvedEatersOfPlan 22 = .ok (.invokestatic 84, 3) := by decide +kernel
theorem dX0_starvedEatersOfPlan_25 : decode cX0_starvedEatersOfPlan 25 = .ok (.aload_n 0, 1) := by decide +kernel
theorem dX0_starvedEatersOfPlan_26 : decode cX0_starvedEatersOfPlan 26 = .ok (.iload 4, 2) := by decide +kernel
theorem dX0_starvedEatersOfPlan_28 : decode cX0_starvedEatersOfPlan 28 = .ok (.invokevirtual 102, 3) := by decide +kernel
theorem dX0_starvedEatersOfPlan_31 : decode cX0_starvedEatersOfPlan 31 = .ok (.if_icmp .ge 10, 3) := by decide +kernel
theorem dX0_starvedEatersOfPlan_34 : decode cX0_starvedEatersOfPlan 34 = .ok (.iload_n 3, 1) := by decide +kernel
theorem dX0_starvedEatersOfPlan_35 : decode cX0_starvedEatersOfPlan 35 = .ok (.iconst 1, 1) := by decide +kernel
theorem dX0_starvedEatersOfPlan_36 : decode cX0_starvedEatersOfPlan 36 = .ok (.iload 4, 2) := by decide +kernel
theorem dX0_starvedEatersOfPlan_38 : decode cX0_starvedEatersOfPlan 38 = .ok (.ishl, 1) := by decide +kernel
theorem dX0_starvedEatersOfPlan_39 : decode cX0_starvedEatersOfPlan 39 = .ok (.ior, 1) := by decide +kernel
theorem dX0_starvedEatersOfPlan_40 : decode cX0_starvedEatersOfPlan 40 = .ok (.istore_n 3, 1) := by decide +kernel
theorem dX0_starvedEatersOfPlan_41 : decode cX0_starvedEatersOfPlan 41 = .ok (.iinc 4 1, 3) := by decide +kernel
theorem dX0_starvedEatersOfPlan_44 : decode cX0_starvedEatersOfPlan 44 = .ok (.goto (-39), 3) := by decide +kernel
theorem dX0_starvedEatersOfPlan_47 : decode cX0_starvedEatersOfPlan 47 = .ok (.iload_n 3, 1) := by decide +kernel
theorem dX0_starvedEatersOfPlan_48 : decode cX0_starvedEatersOfPlan 48 = .ok (.ireturn, 1) := by decide +kernel
set_option maxRecDepth 20000 in
theorem ggX0_foundOnDayOfPlan_X2_numberAt : GoodIn wsX0_foundOnDayOfPlan wsX2_numberAt := goodIn_r _ [6, 7, 8, 9, 10, 48, 49, 50] (by decide +kernel) (by decide +kernel)
set_option maxRecDepth 20000 in
theorem gX0_foundOnDayOfPlan_X2_numberAt : GoodIn wsX0_foundOnDayOfPlan (wsV RX0 51 RX2 yX2_numberAt wsX2_numberAt) := goodIn_app (goodIn_of _ (by decide +kernel)) ggX0_foundOnDayOfPlan_X2_numberAt
set_option maxRecDepth 20000 in
theorem ggX0_foundOnDayOfPlan_X0_foundDays : GoodIn wsX0_foundOnDayOfPlan wsX0_foundDays := goodIn_r _ [15, 16, 17, 18, 14, 19, 20, 21, 8, 9, 10, 22, 23, 24, 25, 26, 27, 28, 29, 30, 31, 32, 33, 34, 35, 36, 37, 38, 39, 40, 41, 42, 43, 44, 45, 46, 47] (by decide +kernel) (by decide +kernel)
set_option maxRecDepth 20000 in
theorem gX0_foundOnDayOfPlan_X0_foundDays : GoodIn wsX0_foundOnDayOfPlan (wsV RX0 81 RX0 yX0_foundDays wsX0_foundDays) := goodIn_app (goodIn_of _ (by decide +kernel)) ggX0_foundOnDayOfPlan_X0_foundDays
theorem dX0_foundOnDayOfPlan_0 : decode cX0_foundOnDayOfPlan 0 = .ok (.iconst 0, 1) := by decide +kernel
theorem dX0_foundOnDayOfPlan_1 : decode cX0_foundOnDayOfPlan 1 = .ok (.istore 4, 2) := by decide +kernel
theorem dX0_foundOnDayOfPlan_3 : decode cX0_foundOnDayOfPlan 3 = .ok (.iconst 0, 1) := by decide +kernel
theorem dX0_foundOnDayOfPlan_4 : decode cX0_foundOnDayOfPlan 4 = .ok (.istore 5, 2) := by decide +kernel
theorem dX0_foundOnDayOfPlan_6 : decode cX0_foundOnDayOfPlan 6 = .ok (.iload 5, 2) := by decide +kernel
theorem dX0_foundOnDayOfPlan_8 : decode cX0_foundOnDayOfPlan 8 = .ok (.aload_n 0, 1) := by decide +kernel
theorem dX0_foundOnDayOfPlan_9 : decode cX0_foundOnDayOfPlan 9 = .ok (.getfield 40, 3) := by decide +kernel
theorem dX0_foundOnDayOfPlan_12 : decode cX0_foundOnDayOfPlan 12 = .ok (.if_icmp .ge 32, 3) := by decide +kernel
theorem dX0_foundOnDayOfPlan_15 : decode cX0_foundOnDayOfPlan 15 = .ok (.iload 4, 2) := by decide +kernel
theorem dX0_foundOnDayOfPlan_17 : decode cX0_foundOnDayOfPlan 17 = .ok (.aload_n 0, 1) := by decide +kernel
theorem dX0_foundOnDayOfPlan_18 : decode cX0_foundOnDayOfPlan 18 = .ok (.iload 5, 2) := by decide +kernel
theorem dX0_foundOnDayOfPlan_20 : decode cX0_foundOnDayOfPlan 20 = .ok (.aload_n 1, 1) := by decide +kernel
theorem dX0_foundOnDayOfPlan_21 : decode cX0_foundOnDayOfPlan 21 = .ok (.iload_n 2, 1) := by decide +kernel
theorem dX0_foundOnDayOfPlan_22 : decode cX0_foundOnDayOfPlan 22 = .ok (.iload 5, 2) := by decide +kernel
theorem dX0_foundOnDayOfPlan_24 : decode cX0_foundOnDayOfPlan 24 = .ok (.iadd, 1) := by decide +kernel
theorem dX0_foundOnDayOfPlan_25 : decode cX0_foundOnDayOfPlan 25 = .ok (.invokevirtual 51, 3) := by decide +kernel
theorem dX0_foundOnDayOfPlan_28 : decode cX0_foundOnDayOfPlan 28 = .ok (.invokevirtual 81, 3) := by decide +kernel
theorem dX0_foundOnDayOfPlan_31 : decode cX0_foundOnDayOfPlan 31 = .ok (.iload_n 3, 1) := by decide +kernel
theorem dX0_foundOnDayOfPlan_32 : decode cX0_foundOnDayOfPlan 32 = .ok (.ishr, 1) := by decide +kernel
theorem dX0_foundOnDayOfPlan_33 : decode cX0_foundOnDayOfPlan 33 = .ok (.iconst 1, 1) := by decide +kernel
theorem dX0_foundOnDayOfPlan_34 : decode cX0_foundOnDayOfPlan 34 = .ok (.iand, 1) := by decide +kernel
theorem dX0_foundOnDayOfPlan_35 : decode cX0_foundOnDayOfPlan 35 = .ok (.iadd, 1) := by decide +kernel
theorem dX0_foundOnDayOfPlan_36 : decode cX0_foundOnDayOfPlan 36 = .ok (.istore 4, 2) := by decide +kernel
theorem dX0_foundOnDayOfPlan_38 : decode cX0_foundOnDayOfPlan 38 = .ok (.iinc 5 1, 3) := by decide +kernel
theorem dX0_foundOnDayOfPlan_41 : decode cX0_foundOnDayOfPlan 41 = .ok (.goto (-35), 3) := by decide +kernel
theorem dX0_foundOnDayOfPlan_44 : decode cX0_foundOnDayOfPlan 44 = .ok (.iload 4, 2) := by decide +kernel
theorem dX0_foundOnDayOfPlan_46 : decode cX0_foundOnDayOfPlan 46 = .ok (.ireturn, 1) := by decide +kernel
set_option maxRecDepth 20000 in
theorem ggX0_bestSet_X0_lastsOf : GoodIn wsX0_bestSet wsX0_lastsOf := goodIn_r _ [5, 6, 7, 8, 9, 10, 11, 12, 4, 13, 38, 39, 40, 41, 42, 43, 44, 45] (by decide +kernel) (by decide +kernel)
set_option maxRecDepth 20000 in
theorem gX0_bestSet_X0_lastsOf : GoodIn wsX0_bestSet (wsV RX0 75 RX0 yX0_lastsOf wsX0_lastsOf) := goodIn_app (goodIn_of _ (by decide +kernel)) ggX0_bestSet_X0_lastsOf
set_option maxRecDepth 20000 in
theorem ggX0_bestSet_X0_allDays : GoodIn wsX0_bestSet wsX0_allDays := goodIn_r _ [17, 18, 38, 39, 40, 41, 42, 43, 44, 45] (by decide +kernel) (by decide +kernel)
set_option maxRecDepth 20000 in
theorem gX0_bestSet_X0_allDays : GoodIn wsX0_bestSet (wsV RX0 60 RX0 yX0_allDays wsX0_allDays) := goodIn_app (goodIn_of _ (by decide +kernel)) ggX0_bestSet_X0_allDays
set_option maxRecDepth 20000 in
theorem ggX0_bestSet_X0_yellowDays : GoodIn wsX0_bestSet wsX0_yellowDays := goodIn_r _ [22, 14, 15, 16, 4, 17, 18, 38, 39, 40, 41, 42, 43, 44, 45] (by decide +kernel) (by decide +kernel)
set_option maxRecDepth 20000 in
theorem gX0_bestSet_X0_yellowDays : GoodIn wsX0_bestSet (wsV RX0 78 RX0 yX0_yellowDays wsX0_yellowDays) := goodIn_app (goodIn_of _ (by decide +kernel)) ggX0_bestSet_X0_yellowDays
set_option maxRecDepth 20000 in
theorem ggX0_bestSet_J6_bitCount_0f7a4 : GoodIn wsX0_bestSet wsJ6_bitCount_0f7a4 := goodIn_r _ [26, 27, 28, 29] (by decide +kernel) (by decide +kernel)
set_option maxRecDepth 20000 in
theorem gX0_bestSet_J6_bitCount_0f7a4 : GoodIn wsX0_bestSet (va_wsS RX0 84 yJ6_bitCount_0f7a4 wsJ6_bitCount_0f7a4) := goodIn_app (goodIn_of _ (by decide +kernel)) ggX0_bestSet_J6_bitCount_0f7a4
set_option maxRecDepth 20000 in
theorem ggX0_bestSet_X0_needOf : GoodIn wsX0_bestSet wsX0_needOf := goodIn_r _ [33, 34, 8, 9, 10, 38, 39, 40, 41, 42, 43, 44, 45] (by decide +kernel) (by decide +kernel)
set_option maxRecDepth 20000 in
theorem gX0_bestSet_X0_needOf : GoodIn wsX0_bestSet (wsV RX0 102 RX0 yX0_needOf wsX0_needOf) := goodIn_app (goodIn_of _ (by decide +kernel)) ggX0_bestSet_X0_needOf
set_option maxRecDepth 20000 in
theorem ggX0_bestSet_X0_isBetter : GoodIn wsX0_bestSet wsX0_isBetter := goodIn_r _ [37, 23, 24, 25, 26, 27, 28, 29] (by decide +kernel) (by decide +kernel)
set_option maxRecDepth 20000 in
theorem gX0_bestSet_X0_isBetter : GoodIn wsX0_bestSet (va_wsS RX0 105 yX0_isBetter wsX0_isBetter) := goodIn_app (goodIn_of _ (by decide +kernel)) ggX0_bestSet_X0_isBetter
theorem dX0_bestSet_0 : decode cX0_bestSet 0 = .ok (.aload_n 0, 1) := by decide +kernel
theorem dX0_bestSet_1 : decode cX0_bestSet 1 = .ok (.iload_n 1, 1) := by decide +kernel
theorem dX0_bestSet_2 : decode cX0_bestSet 2 = .ok (.invokevirtual 75, 3) := by decide +kernel
theorem dX0_bestSet_5 : decode cX0_bestSet 5 = .ok (.istore_n 3, 1) := by decide +kernel
theorem dX0_bestSet_6 : decode cX0_bestSet 6 = .ok (.bipush (-9), 2) := by decide +kernel
theorem dX0_bestSet_8 : decode cX0_bestSet 8 = .ok (.istore 4, 2) := by decide +kernel
theorem dX0_bestSet_10 : decode cX0_bestSet 10 = .ok (.iconst 0, 1) := by decide +kernel
theorem dX0_bestSet_11 : decode cX0_bestSet 11 = .ok (.istore 5, 2) := by decide +kernel
theorem dX0_bestSet_13 : decode cX0_bestSet 13 = .ok (.iconst 0, 1) := by decide +kernel
theorem dX0_bestSet_14 : decode cX0_bestSet 14 = .ok (.istore 6, 2) := by decide +kernel
theorem dX0_bestSet_16 : decode cX0_bestSet 16 = .ok (.iload 6, 2) := by decide +kernel
theorem dX0_bestSet_18 : decode cX0_bestSet 18 = .ok (.aload_n 0, 1) := by decide +kernel
theorem dX0_bestSet_19 : decode cX0_bestSet 19 = .ok (.invokevirtual 60, 3) := by decide +kernel
theorem dX0_bestSet_22 : decode cX0_bestSet 22 = .ok (.if_icmp .gt 77, 3) := by decide +kernel
theorem dX0_bestSet_25 : decode cX0_bestSet 25 = .ok (.aload_n 0, 1) := by decide +kernel
theorem dX0_bestSet_26 : decode cX0_bestSet 26 = .ok (.iload_n 3, 1) := by decide +kernel
theorem dX0_bestSet_27 : decode cX0_bestSet 27 = .ok (.iload 6, 2) := by decide +kernel
theorem dX0_bestSet_29 : decode cX0_bestSet 29 = .ok (.invokevirtual 78, 3) := by decide +kernel
theorem dX0_bestSet_32 : decode cX0_bestSet 32 = .ok (.iload_n 2, 1) := by decide +kernel
theorem dX0_bestSet_33 : decode cX0_bestSet 33 = .ok (.iand, 1) := by decide +kernel
theorem dX0_bestSet_34 : decode cX0_bestSet 34 = .ok (.invokestatic 84, 3) := by decide +kernel
theorem dX0_bestSet_37 : decode cX0_bestSet 37 = .ok (.istore 7, 2) := by decide +kernel
theorem dX0_bestSet_39 : decode cX0_bestSet 39 = .ok (.iload 6, 2) := by decide +kernel
theorem dX0_bestSet_41 : decode cX0_bestSet 41 = .ok (.invokestatic 84, 3) := by decide +kernel
theorem dX0_bestSet_44 : decode cX0_bestSet 44 = .ok (.aload_n 0, 1) := by decide +kernel
theorem dX0_bestSet_45 : decode cX0_bestSet 45 = .ok (.iload_n 1, 1) := by decide +kernel
theorem dX0_bestSet_46 : decode cX0_bestSet 46 = .ok (.invokevirtual 102, 3) := by decide +kernel
theorem dX0_bestSet_49 : decode cX0_bestSet 49 = .ok (.if_icmp .lt 7, 3) := by decide +kernel
theorem dX0_bestSet_52 : decode cX0_bestSet 52 = .ok (.iconst 1, 1) := by decide +kernel
theorem dX0_bestSet_53 : decode cX0_bestSet 53 = .ok (.goto 4, 3) := by decide +kernel
theorem dX0_bestSet_56 : decode cX0_bestSet 56 = .ok (.iconst 0, 1) := by decide +kernel
theorem dX0_bestSet_57 : decode cX0_bestSet 57 = .ok (.istore 8, 2) := by decide +kernel
theorem dX0_bestSet_59 : decode cX0_bestSet 59 = .ok (.iload 8, 2) := by decide +kernel
theorem dX0_bestSet_61 : decode cX0_bestSet 61 = .ok (.ifCond .eq 32, 3) := by decide +kernel
theorem dX0_bestSet_64 : decode cX0_bestSet 64 = .ok (.iload 4, 2) := by decide +kernel
theorem dX0_bestSet_66 : decode cX0_bestSet 66 = .ok (.bipush (-9), 2) := by decide +kernel
theorem dX0_bestSet_68 : decode cX0_bestSet 68 = .ok (.if_icmp .eq 17, 3) := by decide +kernel
theorem dX0_bestSet_71 : decode cX0_bestSet 71 = .ok (.iload 7, 2) := by decide +kernel
theorem dX0_bestSet_73 : decode cX0_bestSet 73 = .ok (.iload 6, 2) := by decide +kernel
theorem dX0_bestSet_75 : decode cX0_bestSet 75 = .ok (.iload 5, 2) := by decide +kernel
theorem dX0_bestSet_77 : decode cX0_bestSet 77 = .ok (.iload 4, 2) := by decide +kernel
theorem dX0_bestSet_79 : decode cX0_bestSet 79 = .ok (.invokestatic 105, 3) := by decide +kernel
theorem dX0_bestSet_82 : decode cX0_bestSet 82 = .ok (.ifCond .eq 11, 3) := by decide +kernel
theorem dX0_bestSet_85 : decode cX0_bestSet 85 = .ok (.iload 6, 2) := by decide +kernel
theorem dX0_bestSet_87 : decode cX0_bestSet 87 = .ok (.istore 4, 2) := by decide +kernel
theorem dX0_bestSet_89 : decode cX0_bestSet 89 = .ok (.iload 7, 2) := by decide +kernel
theorem dX0_bestSet_91 : decode cX0_bestSet 91 = .ok (.istore 5, 2) := by decide +kernel
theorem dX0_bestSet_93 : decode cX0_bestSet 93 = .ok (.iinc 6 1, 3) := by decide +kernel
theorem dX0_bestSet_96 : decode cX0_bestSet 96 = .ok (.goto (-80), 3) := by decide +kernel
theorem dX0_bestSet_99 : decode cX0_bestSet 99 = .ok (.iload 4, 2) := by decide +kernel
theorem dX0_bestSet_101 : decode cX0_bestSet 101 = .ok (.ireturn, 1) := by decide +kernel
set_option maxRecDepth 20000 in
theorem ggX0_isBetter_J6_bitCount_0f7a4 : GoodIn wsX0_isBetter wsJ6_bitCount_0f7a4 := goodIn_r _ [4, 5, 6, 7] (by decide +kernel) (by decide +kernel)
set_option maxRecDepth 20000 in
theorem gX0_isBetter_J6_bitCount_0f7a4 : GoodIn wsX0_isBetter (va_wsS RX0 84 yJ6_bitCount_0f7a4 wsJ6_bitCount_0f7a4) := goodIn_app (goodIn_of _ (by decide +kernel)) ggX0_isBetter_J6_bitCount_0f7a4
theorem dX0_isBetter_0 : decode cX0_isBetter 0 = .ok (.iload_n 0, 1) := by decide +kernel
theorem dX0_isBetter_1 : decode cX0_isBetter 1 = .ok (.iload_n 2, 1) := by decide +kernel
theorem dX0_isBetter_2 : decode cX0_isBetter 2 = .ok (.if_icmp .lt 19, 3) := by decide +kernel
theorem dX0_isBetter_5 : decode cX0_isBetter 5 = .ok (.iload_n 0, 1) := by decide +kernel
theorem dX0_isBetter_6 : decode cX0_isBetter 6 = .ok (.iload_n 2, 1) := by decide +kernel
theorem dX0_isBetter_7 : decode cX0_isBetter 7 = .ok (.if_icmp .ne 18, 3) := by decide +kernel
theorem dX0_isBetter_10 : decode cX0_isBetter 10 = .ok (.iload_n 1, 1) := by decide +kernel
theorem dX0_isBetter_11 : decode cX0_isBetter 11 = .ok (.invokestatic 84, 3) := by decide +kernel
theorem dX0_isBetter_14 : decode cX0_isBetter 14 = .ok (.iload_n 3, 1) := by decide +kernel
theorem dX0_isBetter_15 : decode cX0_isBetter 15 = .ok (.invokestatic 84, 3) := by decide +kernel
theorem dX0_isBetter_18 : decode cX0_isBetter 18 = .ok (.if_icmp .ge 7, 3) := by decide +kernel
theorem dX0_isBetter_21 : decode cX0_isBetter 21 = .ok (.iconst 1, 1) := by decide +kernel
theorem dX0_isBetter_22 : decode cX0_isBetter 22 = .ok (.goto 4, 3) := by decide +kernel
theorem dX0_isBetter_25 : decode cX0_isBetter 25 = .ok (.iconst 0, 1) := by decide +kernel
theorem dX0_isBetter_26 : decode cX0_isBetter 26 = .ok (.ireturn, 1) := by decide +kernel
set_option maxRecDepth 20000 in
theorem ggX0_villagePays_X0_bestSet : GoodIn wsX0_villagePays wsX0_bestSet := goodIn_r _ [6, 7, 8, 9, 5, 10, 11, 12, 13, 14, 15, 16, 17, 18, 19, 20, 21, 22, 23, 24, 25, 26, 27, 28, 29, 30, 31, 32, 33, 34, 35, 36, 37, 38, 39, 40, 41, 42, 48, 49, 50, 51, 52, 53, 54, 55] (by decide +kernel) (by decide +kernel)
set_option maxRecDepth 20000 in
theorem gX0_villagePays_X0_bestSet : GoodIn wsX0_villagePays (wsV RX0 109 RX0 yX0_bestSet wsX0_bestSet) := goodIn_app (goodIn_of _ (by decide +kernel)) ggX0_villagePays_X0_bestSet
set_option maxRecDepth 20000 in
theorem ggX0_villagePays_X0_lastsOf : GoodIn wsX0_villagePays wsX0_lastsOf := goodIn_r _ [10, 11, 12, 13, 14, 15, 16, 17, 5, 18, 48, 49, 50, 51, 52, 53, 54, 55] (by decide +kernel) (by decide +kernel)
set_option maxRecDepth 20000 in
theorem gX0_villagePays_X0_lastsOf : GoodIn wsX0_villagePays (wsV RX0 75 RX0 yX0_lastsOf wsX0_lastsOf) := goodIn_app (goodIn_of _ (by decide +kernel)) ggX0_villagePays_X0_lastsOf
set_option maxRecDepth 20000 in
theorem ggX0_villagePays_X0_yellowDays : GoodIn wsX0_villagePays wsX0_yellowDays := goodIn_r _ [27, 19, 20, 21, 5, 22, 23, 48, 49, 50, 51, 52, 53, 54, 55] (by decide +kernel) (by decide +kernel)
set_option maxRecDepth 20000 in
theorem gX0_villagePays_X0_yellowDays : GoodIn wsX0_villagePays (wsV RX0 78 RX0 yX0_yellowDays wsX0_yellowDays) := goodIn_app (goodIn_of _ (by decide +kernel)) ggX0_villagePays_X0_yellowDays
set_option maxRecDepth 20000 in
theorem ggX0_villagePays_J6_bitCount_0f7a4 : GoodIn wsX0_villagePays wsJ6_bitCount_0f7a4 := goodIn_r _ [31, 32, 33, 34] (by decide +kernel) (by decide +kernel)
set_option maxRecDepth 20000 in
theorem gX0_villagePays_J6_bitCount_0f7a4 : GoodIn wsX0_villagePays (va_wsS RX0 84 yJ6_bitCount_0f7a4 wsJ6_bitCount_0f7a4) := goodIn_app (goodIn_of _ (by decide +kernel)) ggX0_villagePays_J6_bitCount_0f7a4
set_option maxRecDepth 20000 in
theorem ggX0_villagePays_X0_spoonsOf : GoodIn wsX0_villagePays wsX0_spoonsOf := goodIn_r _ [46, 47, 13, 14, 15, 48, 49, 50, 51, 52, 53, 54, 55] (by decide +kernel) (by decide +kernel)
set_option maxRecDepth 20000 in
theorem gX0_villagePays_X0_spoonsOf : GoodIn wsX0_villagePays (wsV RX0 89 RX0 yX0_spoonsOf wsX0_spoonsOf) := goodIn_app (goodIn_of _ (by decide +kernel)) ggX0_villagePays_X0_spoonsOf
theorem dX0_villagePays_0 : decode cX0_villagePays 0 = .ok (.iconst 0, 1) := by decide +kernel
theorem dX0_villagePays_1 : decode cX0_villagePays 1 = .ok (.istore_n 2, 1) := by decide +kernel
theorem dX0_villagePays_2 : decode cX0_villagePays 2 = .ok (.iconst 0, 1) := by decide +kernel
theorem dX0_villagePays_3 : decode cX0_villagePays 3 = .ok (.istore_n 3, 1) := by decide +kernel
theorem dX0_villagePays_4 : decode cX0_villagePays 4 = .ok (.iload_n 3, 1) := by decide +kernel
theorem dX0_villagePays_5 : decode cX0_villagePays 5 = .ok (.aload_n 0, 1) := by decide +kernel
theorem dX0_villagePays_6 : decode cX0_villagePays 6 = .ok (.getfield 40, 3) := by decide +kernel
theorem dX0_villagePays_9 : decode cX0_villagePays 9 = .ok (.if_icmp .ge 52, 3) := by decide +kernel
theorem dX0_villagePays_12 : decode cX0_villagePays 12 = .ok (.aload_n 0, 1) := by decide +kernel
theorem dX0_villagePays_13 : decode cX0_villagePays 13 = .ok (.iload_n 3, 1) := by decide +kernel
theorem dX0_villagePays_14 : decode cX0_villagePays 14 = .ok (.iload_n 1, 1) := by decide +kernel
theorem dX0_villagePays_15 : decode cX0_villagePays 15 = .ok (.invokevirtual 109, 3) := by decide +kernel
theorem dX0_villagePays_18 : decode cX0_villagePays 18 = .ok (.istore 4, 2) := by decide +kernel
theorem dX0_villagePays_20 : decode cX0_villagePays 20 = .ok (.iload 4, 2) := by decide +kernel
theorem dX0_villagePays_22 : decode cX0_villagePays 22 = .ok (.bipush (-9), 2) := by decide +kernel
theorem dX0_villagePays_24 : decode cX0_villagePays 24 = .ok (.if_icmp .ne 6, 3) := by decide +kernel
theorem dX0_villagePays_27 : decode cX0_villagePays 27 = .ok (.bipush (-9), 2) := by decide +kernel
theorem dX0_villagePays_29 : decode cX0_villagePays 29 = .ok (.ireturn, 1) := by decide +kernel
theorem dX0_villagePays_30 : decode cX0_villagePays 30 = .ok (.iload_n 2, 1) := by decide +kernel
theorem dX0_villagePays_31 : decode cX0_villagePays 31 = .ok (.aload_n 0, 1) := by decide +kernel
theorem dX0_villagePays_32 : decode cX0_villagePays 32 = .ok (.aload_n 0, 1) := by decide +kernel
theorem dX0_villagePays_33 : decode cX0_villagePays 33 = .ok (.iload_n 3, 1) := by decide +kernel
theorem dX0_villagePays_34 : decode cX0_villagePays 34 = .ok (.invokevirtual 75, 3) := by decide +kernel
theorem dX0_villagePays_37 : decode cX0_villagePays 37 = .ok (.iload 4, 2) := by decide +kernel
theorem dX0_villagePays_39 : decode cX0_villagePays 39 = .ok (.invokevirtual 78, 3) := by decide +kernel
theorem dX0_villagePays_42 : decode cX0_villagePays 42 = .ok (.iload_n 1, 1) := by decide +kernel
theorem dX0_villagePays_43 : decode cX0_villagePays 43 = .ok (.iand, 1) := by decide +kernel
theorem dX0_villagePays_44 : decode cX0_villagePays 44 = .ok (.invokestatic 84, 3) := by decide +kernel
theorem dX0_villagePays_47 : decode cX0_villagePays 47 = .ok (.aload_n 0, 1) := by decide +kernel
theorem dX0_villagePays_48 : decode cX0_villagePays 48 = .ok (.iload_n 3, 1) := by decide +kernel
theorem dX0_villagePays_49 : decode cX0_villagePays 49 = .ok (.invokevirtual 89, 3) := by decide +kernel
theorem dX0_villagePays_52 : decode cX0_villagePays 52 = .ok (.imul, 1) := by decide +kernel
theorem dX0_villagePays_53 : decode cX0_villagePays 53 = .ok (.iadd, 1) := by decide +kernel
theorem dX0_villagePays_54 : decode cX0_villagePays 54 = .ok (.istore_n 2, 1) := by decide +kernel
theorem dX0_villagePays_55 : decode cX0_villagePays 55 = .ok (.iinc 3 1, 3) := by decide +kernel
theorem dX0_villagePays_58 : decode cX0_villagePays 58 = .ok (.goto (-54), 3) := by decide +kernel
theorem dX0_villagePays_61 : decode cX0_villagePays 61 = .ok (.iload_n 2, 1) := by decide +kernel
theorem dX0_villagePays_62 : decode cX0_villagePays 62 = .ok (.ireturn, 1) := by decide +kernel
set_option maxRecDepth 20000 in
theorem ggX0_smileDay_X0_fastDays : GoodIn wsX0_smileDay wsX0_fastDays := goodIn_r _ [6, 1, 7, 8, 9, 10, 11, 62, 63, 64, 65, 66, 67, 68, 69] (by decide +kernel) (by decide +kernel)
set_option maxRecDepth 20000 in
theorem gX0_smileDay_X0_fastDays : GoodIn wsX0_smileDay (wsV RX0 72 RX0 yX0_fastDays wsX0_fastDays) := goodIn_app (goodIn_of _ (by decide +kernel)) ggX0_smileDay_X0_fastDays
set_option maxRecDepth 20000 in
theorem ggX0_smileDay_X0_fastDaysBut : GoodIn wsX0_smileDay wsX0_fastDaysBut := goodIn_r _ [15, 2, 3, 4, 5, 6, 1, 7, 8, 9, 10, 11, 62, 63, 64, 65, 66, 67, 68, 69] (by decide +kernel) (by decide +kernel)
set_option maxRecDepth 20000 in
theorem gX0_smileDay_X0_fastDaysBut : GoodIn wsX0_smileDay (wsV RX0 112 RX0 yX0_fastDaysBut wsX0_fastDaysBut) := goodIn_app (goodIn_of _ (by decide +kernel)) ggX0_smileDay_X0_fastDaysBut
set_option maxRecDepth 20000 in
theorem ggX0_smileDay_X0_villagePays : GoodIn wsX0_smileDay wsX0_villagePays := goodIn_r _ [19, 20, 21, 22, 23, 5, 24, 25, 26, 27, 28, 29, 30, 9, 10, 11, 31, 32, 33, 34, 35, 36, 37, 1, 38, 39, 40, 41, 42, 43, 44, 45, 46, 47, 48, 49, 50, 51, 52, 53, 54, 55, 56, 57, 58, 59, 60, 61, 62, 63, 64, 65, 66, 67, 68, 69] (by decide +kernel) (by decide +kernel)
set_option maxRecDepth 20000 in
theorem gX0_smileDay_X0_villagePays : GoodIn wsX0_smileDay (wsV RX0 115 RX0 yX0_villagePays wsX0_villagePays) := goodIn_app (goodIn_of _ (by decide +kernel)) ggX0_smileDay_X0_villagePays
theorem dX0_smileDay_0 : decode cX0_smileDay 0 = .ok (.aload_n 0, 1) := by decide +kernel
theorem dX0_smileDay_1 : decode cX0_smileDay 1 = .ok (.invokevirtual 72, 3) := by decide +kernel
theorem dX0_smileDay_4 : decode cX0_smileDay 4 = .ok (.istore_n 1, 1) := by decide +kernel
theorem dX0_smileDay_5 : decode cX0_smileDay 5 = .ok (.bipush (-9), 2) := by decide +kernel
theorem dX0_smileDay_7 : decode cX0_smileDay 7 = .ok (.istore_n 2, 1) := by decide +kernel
theorem dX0_smileDay_8 : decode cX0_smileDay 8 = .ok (.iconst 0, 1) := by decide +kernel
theorem dX0_smileDay_9 : decode cX0_smileDay 9 = .ok (.istore_n 3, 1) := by decide +kernel
theorem dX0_smileDay_10 : decode cX0_smileDay 10 = .ok (.iconst 0, 1) := by decide +kernel
theorem dX0_smileDay_11 : decode cX0_smileDay 11 = .ok (.istore 4, 2) := by decide +kernel
theorem dX0_smileDay_13 : decode cX0_smileDay 13 = .ok (.iload 4, 2) := by decide +kernel
theorem dX0_smileDay_15 : decode cX0_smileDay 15 = .ok (.aload_n 0, 1) := by decide +kernel
theorem dX0_smileDay_16 : decode cX0_smileDay 16 = .ok (.getfield 37, 3) := by decide +kernel
theorem dX0_smileDay_19 : decode cX0_smileDay 19 = .ok (.if_icmp .ge 60, 3) := by decide +kernel
theorem dX0_smileDay_22 : decode cX0_smileDay 22 = .ok (.iload_n 1, 1) := by decide +kernel
theorem dX0_smileDay_23 : decode cX0_smileDay 23 = .ok (.iload 4, 2) := by decide +kernel
theorem dX0_smileDay_25 : decode cX0_smileDay 25 = .ok (.ishr, 1) := by decide +kernel
theorem dX0_smileDay_26 : decode cX0_smileDay 26 = .ok (.iconst 1, 1) := by decide +kernel
theorem dX0_smileDay_27 : decode cX0_smileDay 27 = .ok (.iand, 1) := by decide +kernel
theorem dX0_smileDay_28 : decode cX0_smileDay 28 = .ok (.ifCond .ne 8, 3) := by decide +kernel
theorem dX0_smileDay_31 : decode cX0_smileDay 31 = .ok (.bipush (-9), 2) := by decide +kernel
theorem dX0_smileDay_33 : decode cX0_smileDay 33 = .ok (.goto 13, 3) := by decide +kernel
theorem dX0_smileDay_36 : decode cX0_smileDay 36 = .ok (.aload_n 0, 1) := by decide +kernel
theorem dX0_smileDay_37 : decode cX0_smileDay 37 = .ok (.aload_n 0, 1) := by decide +kernel
theorem dX0_smileDay_38 : decode cX0_smileDay 38 = .ok (.iload 4, 2) := by decide +kernel
theorem dX0_smileDay_40 : decode cX0_smileDay 40 = .ok (.invokevirtual 112, 3) := by decide +kernel
theorem dX0_smileDay_43 : decode cX0_smileDay 43 = .ok (.invokevirtual 115, 3) := by decide +kernel
theorem dX0_smileDay_46 : decode cX0_smileDay 46 = .ok (.istore 5, 2) := by decide +kernel
theorem dX0_smileDay_48 : decode cX0_smileDay 48 = .ok (.iload 5, 2) := by decide +kernel
theorem dX0_smileDay_50 : decode cX0_smileDay 50 = .ok (.bipush (-9), 2) := by decide +kernel
theorem dX0_smileDay_52 : decode cX0_smileDay 52 = .ok (.if_icmp .eq 21, 3) := by decide +kernel
theorem dX0_smileDay_55 : decode cX0_smileDay 55 = .ok (.iload_n 2, 1) := by decide +kernel
theorem dX0_smileDay_56 : decode cX0_smileDay 56 = .ok (.bipush (-9), 2) := by decide +kernel
theorem dX0_smileDay_58 : decode cX0_smileDay 58 = .ok (.if_icmp .eq 9, 3) := by decide +kernel
theorem dX0_smileDay_61 : decode cX0_smileDay 61 = .ok (.iload 5, 2) := by decide +kernel
theorem dX0_smileDay_63 : decode cX0_smileDay 63 = .ok (.iload_n 3, 1) := by decide +kernel
theorem dX0_smileDay_64 : decode cX0_smileDay 64 = .ok (.if_icmp .ge 9, 3) := by decide +kernel
theorem dX0_smileDay_67 : decode cX0_smileDay 67 = .ok (.iload 4, 2) := by decide +kernel
theorem dX0_smileDay_69 : decode cX0_smileDay 69 = .ok (.istore_n 2, 1) := by decide +kernel
theorem dX0_smileDay_70 : decode cX0_smileDay 70 = .ok (.iload 5, 2) := by decide +kernel
theorem dX0_smileDay_72 : decode cX0_smileDay 72 = .ok (.istore_n 3, 1) := by decide +kernel
theorem dX0_smileDay_73 : decode cX0_smileDay 73 = .ok (.iinc 4 1, 3) := by decide +kernel
theorem dX0_smileDay_76 : decode cX0_smileDay 76 = .ok (.goto (-63), 3) := by decide +kernel
theorem dX0_smileDay_79 : decode cX0_smileDay 79 = .ok (.iload_n 2, 1) := by decide +kernel
theorem dX0_smileDay_80 : decode cX0_smileDay 80 = .ok (.ireturn, 1) := by decide +kernel
theorem dX1_init_0 : decode cX1_init 0 = .ok (.aload_n 0, 1) := by decide +kernel
theorem dX1_init_1 : decode cX1_init 1 = .ok (.invokespecial 3, 3) := by decide +kernel
theorem dX1_init_4 : decode cX1_init 4 = .ok (.aload_n 0, 1) := by decide +kernel
theorem dX1_init_5 : decode cX1_init 5 = .ok (.bipush 8, 2) := by decide +kernel
theorem dX1_init_7 : decode cX1_init 7 = .ok (.newarray .int, 2) := by decide +kernel
theorem dX1_init_9 : decode cX1_init 9 = .ok (.putfield 9, 3) := by decide +kernel
theorem dX1_init_12 : decode cX1_init 12 = .ok (.aload_n 0, 1) := by decide +kernel
theorem dX1_init_13 : decode cX1_init 13 = .ok (.bipush 8, 2) := by decide +kernel
theorem dX1_init_15 : decode cX1_init 15 = .ok (.newarray .int, 2) := by decide +kernel
theorem dX1_init_17 : decode cX1_init 17 = .ok (.putfield 15, 3) := by decide +kernel
theorem dX1_init_20 : decode cX1_init 20 = .ok (.aload_n 0, 1) := by decide +kernel
theorem dX1_init_21 : decode cX1_init 21 = .ok (.bipush 8, 2) := by decide +kernel
theorem dX1_init_23 : decode cX1_init 23 = .ok (.newarray .int, 2) := by decide +kernel
theorem dX1_init_25 : decode cX1_init 25 = .ok (.putfield 18, 3) := by decide +kernel
theorem dX1_init_28 : decode cX1_init 28 = .ok (.aload_n 0, 1) := by decide +kernel
theorem dX1_init_29 : decode cX1_init 29 = .ok (.bipush 8, 2) := by decide +kernel
theorem dX1_init_31 : decode cX1_init 31 = .ok (.newarray .boolean, 2) := by decide +kernel
theorem dX1_init_33 : decode cX1_init 33 = .ok (.putfield 21, 3) := by decide +kernel
theorem dX1_init_36 : decode cX1_init 36 = .ok (.return_, 1) := by decide +kernel
theorem dX1_keptCount_0 : decode cX1_keptCount 0 = .ok (.aload_n 0, 1) := by decide +kernel
theorem dX1_keptCount_1 : decode cX1_keptCount 1 = .ok (.getfield 25, 3) := by decide +kernel
theorem dX1_keptCount_4 : decode cX1_keptCount 4 = .ok (.ireturn, 1) := by decide +kernel
theorem dX1_isFull_0 : decode cX1_isFull 0 = .ok (.aload_n 0, 1) := by decide +kernel
theorem dX1_isFull_1 : decode cX1_isFull 1 = .ok (.getfield 25, 3) := by decide +kernel
theorem dX1_isFull_4 : decode cX1_isFull 4 = .ok (.bipush 8, 2) := by decide +kernel
theorem dX1_isFull_6 : decode cX1_isFull 6 = .ok (.if_icmp .lt 7, 3) := by decide +kernel
theorem dX1_isFull_9 : decode cX1_isFull 9 = .ok (.iconst 1, 1) := by decide +kernel
theorem dX1_isFull_10 : decode cX1_isFull 10 = .ok (.goto 4, 3) := by decide +kernel
theorem dX1_isFull_13 : decode cX1_isFull 13 = .ok (.iconst 0, 1) := by decide +kernel
theorem dX1_isFull_14 : decode cX1_isFull 14 = .ok (.ireturn, 1) := by decide +kernel
set_option maxRecDepth 20000 in
theorem ggX1_keep_X4_changeIn : GoodIn wsX1_keep wsX4_changeIn := goodIn_r _ [8] (by decide +kernel) (by decide +kernel)
set_option maxRecDepth 20000 in
theorem gX1_keep_X4_changeIn_n29 : GoodIn wsX1_keep (wsX4_changeIn) := ggX1_keep_X4_changeIn
theorem dX1_keep_0 : decode cX1_keep 0 = .ok (.aload_n 0, 1) := by decide +kernel
theorem dX1_keep_1 : decode cX1_keep 1 = .ok (.getfield 25, 3) := by decide +kernel
theorem dX1_keep_4 : decode cX1_keep 4 = .ok (.ifCond .lt 15, 3) := by decide +kernel
theorem dX1_keep_7 : decode cX1_keep 7 = .ok (.aload_n 0, 1) := by decide +kernel
theorem dX1_keep_8 : decode cX1_keep 8 = .ok (.getfield 25, 3) := by decide +kernel
theorem dX1_keep_11 : decode cX1_keep 11 = .ok (.aload_n 0, 1) := by decide +kernel
theorem dX1_keep_12 : decode cX1_keep 12 = .ok (.getfield 21, 3) := by decide +kernel
theorem dX1_keep_15 : decode cX1_keep 15 = .ok (.arraylength, 1) := by decide +kernel
theorem dX1_keep_16 : decode cX1_keep 16 = .ok (.if_icmp .lt 4, 3) := by decide +kernel
theorem dX1_keep_19 : decode cX1_keep 19 = .ok (.return_, 1) := by decide +kernel
theorem dX1_keep_20 : decode cX1_keep 20 = .ok (.aload_n 0, 1) := by decide +kernel
theorem dX1_keep_21 : decode cX1_keep 21 = .ok (.getfield 9, 3) := by decide +kernel
theorem dX1_keep_24 : decode cX1_keep 24 = .ok (.aload_n 0, 1) := by decide +kernel
theorem dX1_keep_25 : decode cX1_keep 25 = .ok (.getfield 25, 3) := by decide +kernel
theorem dX1_keep_28 : decode cX1_keep 28 = .ok (.iload_n 1, 1) := by decide +kernel
theorem dX1_keep_29 : decode cX1_keep 29 = .ok (.invokestatic 29, 3) := by decide +kernel
theorem dX1_keep_32 : decode cX1_keep 32 = .ok (.aload_n 0, 1) := by decide +kernel
theorem dX1_keep_33 : decode cX1_keep 33 = .ok (.getfield 15, 3) := by decide +kernel
theorem dX1_keep_36 : decode cX1_keep 36 = .ok (.aload_n 0, 1) := by decide +kernel
theorem dX1_keep_37 : decode cX1_keep 37 = .ok (.getfield 25, 3) := by decide +kernel
theorem dX1_keep_40 : decode cX1_keep 40 = .ok (.iload_n 2, 1) := by decide +kernel
theorem dX1_keep_41 : decode cX1_keep 41 = .ok (.invokestatic 29, 3) := by decide +kernel
theorem dX1_keep_44 : decode cX1_keep 44 = .ok (.aload_n 0, 1) := by decide +kernel
theorem dX1_keep_45 : decode cX1_keep 45 = .ok (.getfield 18, 3) := by decide +kernel
theorem dX1_keep_48 : decode cX1_keep 48 = .ok (.aload_n 0, 1) := by decide +kernel
theorem dX1_keep_49 : decode cX1_keep 49 = .ok (.getfield 25, 3) := by decide +kernel
theorem dX1_keep_52 : decode cX1_keep 52 = .ok (.iload_n 3, 1) := by decide +kernel
theorem dX1_keep_53 : decode cX1_keep 53 = .ok (.invokestatic 29, 3) := by decide +kernel
theorem dX1_keep_56 : decode cX1_keep 56 = .ok (.aload_n 0, 1) := by decide +kernel
theorem dX1_keep_57 : decode cX1_keep 57 = .ok (.getfield 21, 3) := by decide +kernel
theorem dX1_keep_60 : decode cX1_keep 60 = .ok (.aload_n 0, 1) := by decide +kernel
theorem dX1_keep_61 : decode cX1_keep 61 = .ok (.getfield 25, 3) := by decide +kernel
theorem dX1_keep_64 : decode cX1_keep 64 = .ok (.iload 4, 2) := by decide +kernel
theorem dX1_keep_66 : decode cX1_keep 66 = .ok (.bastore, 1) := by decide +kernel
theorem dX1_keep_67 : decode cX1_keep 67 = .ok (.aload_n 0, 1) := by decide +kernel
theorem dX1_keep_68 : decode cX1_keep 68 = .ok (.dup, 1) := by decide +kernel
theorem dX1_keep_69 : decode cX1_keep 69 = .ok (.getfield 25, 3) := by decide +kernel
theorem dX1_keep_72 : decode cX1_keep 72 = .ok (.iconst 1, 1) := by decide +kernel
theorem dX1_keep_73 : decode cX1_keep 73 = .ok (.iadd, 1) := by decide +kernel
theorem dX1_keep_74 : decode cX1_keep 74 = .ok (.putfield 25, 3) := by decide +kernel
theorem dX1_keep_77 : decode cX1_keep 77 = .ok (.return_, 1) := by decide +kernel
theorem dX1_dropLast_0 : decode cX1_dropLast 0 = .ok (.aload_n 0, 1) := by decide +kernel
theorem dX1_dropLast_1 : decode cX1_dropLast 1 = .ok (.dup, 1) := by decide +kernel
theorem dX1_dropLast_2 : decode cX1_dropLast 2 = .ok (.getfield 25, 3) := by decide +kernel
theorem dX1_dropLast_5 : decode cX1_dropLast 5 = .ok (.iload_n 1, 1) := by decide +kernel
theorem dX1_dropLast_6 : decode cX1_dropLast 6 = .ok (.isub, 1) := by decide +kernel
theorem dX1_dropLast_7 : decode cX1_dropLast 7 = .ok (.putfield 25, 3) := by decide +kernel
theorem dX1_dropLast_10 : decode cX1_dropLast 10 = .ok (.return_, 1) := by decide +kernel
theorem dX1_dropAll_0 : decode cX1_dropAll 0 = .ok (.aload_n 0, 1) := by decide +kernel
theorem dX1_dropAll_1 : decode cX1_dropAll 1 = .ok (.iconst 0, 1) := by decide +kernel
theorem dX1_dropAll_2 : decode cX1_dropAll 2 = .ok (.putfield 25, 3) := by decide +kernel
theorem dX1_dropAll_5 : decode cX1_dropAll 5 = .ok (.return_, 1) := by decide +kernel
set_option maxRecDepth 20000 in
theorem ggX1_allAreSo_X4_numberIn : GoodIn wsX1_allAreSo wsX4_numberIn := goodIn_r _ [8] (by decide +kernel) (by decide +kernel)
set_option maxRecDepth 20000 in
theorem gX1_allAreSo_X4_numberIn_n33 : GoodIn wsX1_allAreSo (wsX4_numberIn) := ggX1_allAreSo_X4_numberIn
set_option maxRecDepth 20000 in
theorem ggX1_allAreSo_X0_lastsOf : GoodIn wsX1_allAreSo wsX0_lastsOf := goodIn_r _ [13, 14, 15, 6, 7, 8, 16, 17, 12, 18, 42, 43, 44, 45, 46, 47, 48, 49] (by decide +kernel) (by decide +kernel)
set_option maxRecDepth 20000 in
theorem gX1_allAreSo_X0_lastsOf : GoodIn wsX1_allAreSo (wsV RX1 37 RX0 yX0_lastsOf wsX0_lastsOf) := goodIn_app (goodIn_of _ (by decide +kernel)) ggX1_allAreSo_X0_lastsOf
set_option maxRecDepth 20000 in
theorem ggX1_allAreSo_X0_isFoundOn : GoodIn wsX1_allAreSo wsX0_isFoundOn := goodIn_r _ [22, 23, 24, 25, 12, 26, 27, 28, 29, 30, 31, 32, 33, 34, 35, 36, 6, 7, 8, 42, 43, 44, 45, 46, 47, 48, 49] (by decide +kernel) (by decide +kernel)
set_option maxRecDepth 20000 in
theorem gX1_allAreSo_X0_isFoundOn : GoodIn wsX1_allAreSo (wsV RX1 43 RX0 yX0_isFoundOn wsX0_isFoundOn) := goodIn_app (goodIn_of _ (by decide +kernel)) ggX1_allAreSo_X0_isFoundOn
theorem dX1_allAreSo_0 : decode cX1_allAreSo 0 = .ok (.iconst 0, 1) := by decide +kernel
theorem dX1_allAreSo_1 : decode cX1_allAreSo 1 = .ok (.istore 5, 2) := by decide +kernel
theorem dX1_allAreSo_3 : decode cX1_allAreSo 3 = .ok (.iload 5, 2) := by decide +kernel
theorem dX1_allAreSo_5 : decode cX1_allAreSo 5 = .ok (.aload_n 0, 1) := by decide +kernel
theorem dX1_allAreSo_6 : decode cX1_allAreSo 6 = .ok (.getfield 25, 3) := by decide +kernel
theorem dX1_allAreSo_9 : decode cX1_allAreSo 9 = .ok (.if_icmp .ge 90, 3) := by decide +kernel
theorem dX1_allAreSo_12 : decode cX1_allAreSo 12 = .ok (.iload 5, 2) := by decide +kernel
theorem dX1_allAreSo_14 : decode cX1_allAreSo 14 = .ok (.aload_n 0, 1) := by decide +kernel
theorem dX1_allAreSo_15 : decode cX1_allAreSo 15 = .ok (.getfield 21, 3) := by decide +kernel
theorem dX1_allAreSo_18 : decode cX1_allAreSo 18 = .ok (.arraylength, 1) := by decide +kernel
theorem dX1_allAreSo_19 : decode cX1_allAreSo 19 = .ok (.if_icmp .ge 80, 3) := by decide +kernel
theorem dX1_allAreSo_22 : decode cX1_allAreSo 22 = .ok (.aload_n 0, 1) := by decide +kernel
theorem dX1_allAreSo_23 : decode cX1_allAreSo 23 = .ok (.getfield 9, 3) := by decide +kernel
theorem dX1_allAreSo_26 : decode cX1_allAreSo 26 = .ok (.iload 5, 2) := by decide +kernel
theorem dX1_allAreSo_28 : decode cX1_allAreSo 28 = .ok (.invokestatic 33, 3) := by decide +kernel
theorem dX1_allAreSo_31 : decode cX1_allAreSo 31 = .ok (.istore 6, 2) := by decide +kernel
theorem dX1_allAreSo_33 : decode cX1_allAreSo 33 = .ok (.iload 6, 2) := by decide +kernel
theorem dX1_allAreSo_35 : decode cX1_allAreSo 35 = .ok (.iload_n 2, 1) := by decide +kernel
theorem dX1_allAreSo_36 : decode cX1_allAreSo 36 = .ok (.if_icmp .ne 7, 3) := by decide +kernel
theorem dX1_allAreSo_39 : decode cX1_allAreSo 39 = .ok (.iload_n 3, 1) := by decide +kernel
theorem dX1_allAreSo_40 : decode cX1_allAreSo 40 = .ok (.goto 9, 3) := by decide +kernel
theorem dX1_allAreSo_43 : decode cX1_allAreSo 43 = .ok (.aload_n 1, 1) := by decide +kernel
theorem dX1_allAreSo_44 : decode cX1_allAreSo 44 = .ok (.iload 6, 2) := by decide +kernel
theorem dX1_allAreSo_46 : decode cX1_allAreSo 46 = .ok (.invokevirtual 37, 3) := by decide +kernel
theorem dX1_allAreSo_49 : decode cX1_allAreSo 49 = .ok (.istore 7, 2) := by decide +kernel
theorem dX1_allAreSo_51 : decode cX1_allAreSo 51 = .ok (.aload_n 1, 1) := by decide +kernel
theorem dX1_allAreSo_52 : decode cX1_allAreSo 52 = .ok (.aload_n 0, 1) := by decide +kernel
theorem dX1_allAreSo_53 : decode cX1_allAreSo 53 = .ok (.getfield 18, 3) := by decide +kernel
theorem dX1_allAreSo_56 : decode cX1_allAreSo 56 = .ok (.iload 5, 2) := by decide +kernel
theorem dX1_allAreSo_58 : decode cX1_allAreSo 58 = .ok (.invokestatic 33, 3) := by decide +kernel
theorem dX1_allAreSo_61 : decode cX1_allAreSo 61 = .ok (.aload_n 0, 1) := by decide +kernel
theorem dX1_allAreSo_62 : decode cX1_allAreSo 62 = .ok (.getfield 15, 3) := by decide +kernel
theorem dX1_allAreSo_65 : decode cX1_allAreSo 65 = .ok (.iload 5, 2) := by decide +kernel
theorem dX1_allAreSo_67 : decode cX1_allAreSo 67 = .ok (.invokestatic 33, 3) := by decide +kernel
theorem dX1_allAreSo_70 : decode cX1_allAreSo 70 = .ok (.iload 7, 2) := by decide +kernel
theorem dX1_allAreSo_72 : decode cX1_allAreSo 72 = .ok (.iload 4, 2) := by decide +kernel
theorem dX1_allAreSo_74 : decode cX1_allAreSo 74 = .ok (.invokevirtual 43, 3) := by decide +kernel
theorem dX1_allAreSo_77 : decode cX1_allAreSo 77 = .ok (.istore 8, 2) := by decide +kernel
theorem dX1_allAreSo_79 : decode cX1_allAreSo 79 = .ok (.iload 8, 2) := by decide +kernel
theorem dX1_allAreSo_81 : decode cX1_allAreSo 81 = .ok (.aload_n 0, 1) := by decide +kernel
theorem dX1_allAreSo_82 : decode cX1_allAreSo 82 = .ok (.getfield 21, 3) := by decide +kernel
theorem dX1_allAreSo_85 : decode cX1_allAreSo 85 = .ok (.iload 5, 2) := by decide +kernel
theorem dX1_allAreSo_87 : decode cX1_allAreSo 87 = .ok (.baload, 1) := by decide +kernel
theorem dX1_allAreSo_88 : decode cX1_allAreSo 88 = .ok (.if_icmp .eq 5, 3) := by decide +kernel
theorem dX1_allAreSo_91 : decode cX1_allAreSo 91 = .ok (.iconst 0, 1) := by decide +kernel
theorem dX1_allAreSo_92 : decode cX1_allAreSo 92 = .ok (.ireturn, 1) := by decide +kernel
theorem dX1_allAreSo_93 : decode cX1_allAreSo 93 = .ok (.iinc 5 1, 3) := by decide +kernel
theorem dX1_allAreSo_96 : decode cX1_allAreSo 96 = .ok (.goto (-93), 3) := by decide +kernel
theorem dX1_allAreSo_99 : decode cX1_allAreSo 99 = .ok (.iconst 1, 1) := by decide +kernel
theorem dX1_allAreSo_100 : decode cX1_allAreSo 100 = .ok (.ireturn, 1) := by decide +kernel
theorem dX2_init_0 : decode cX2_init 0 = .ok (.aload_n 0, 1) := by decide +kernel
theorem dX2_init_1 : decode cX2_init 1 = .ok (.invokespecial 3, 3) := by decide +kernel
theorem dX2_init_4 : decode cX2_init 4 = .ok (.aload_n 0, 1) := by decide +kernel
theorem dX2_init_5 : decode cX2_init 5 = .ok (.bipush 60, 2) := by decide +kernel
theorem dX2_init_7 : decode cX2_init 7 = .ok (.newarray .int, 2) := by decide +kernel
theorem dX2_init_9 : decode cX2_init 9 = .ok (.putfield 9, 3) := by decide +kernel
theorem dX2_init_12 : decode cX2_init 12 = .ok (.aload_n 0, 1) := by decide +kernel
theorem dX2_init_13 : decode cX2_init 13 = .ok (.iconst (-1), 1) := by decide +kernel
theorem dX2_init_14 : decode cX2_init 14 = .ok (.putfield 15, 3) := by decide +kernel
theorem dX2_init_17 : decode cX2_init 17 = .ok (.return_, 1) := by decide +kernel
theorem dX2_hasRow_0 : decode cX2_hasRow 0 = .ok (.aload_n 0, 1) := by decide +kernel
theorem dX2_hasRow_1 : decode cX2_hasRow 1 = .ok (.getfield 15, 3) := by decide +kernel
theorem dX2_hasRow_4 : decode cX2_hasRow 4 = .ok (.iconst (-1), 1) := by decide +kernel
theorem dX2_hasRow_5 : decode cX2_hasRow 5 = .ok (.if_icmp .eq 7, 3) := by decide +kernel
theorem dX2_hasRow_8 : decode cX2_hasRow 8 = .ok (.iconst 1, 1) := by decide +kernel
theorem dX2_hasRow_9 : decode cX2_hasRow 9 = .ok (.goto 4, 3) := by decide +kernel
theorem dX2_hasRow_12 : decode cX2_hasRow 12 = .ok (.iconst 0, 1) := by decide +kernel
theorem dX2_hasRow_13 : decode cX2_hasRow 13 = .ok (.ireturn, 1) := by decide +kernel
theorem dX2_rowLane_0 : decode cX2_rowLane 0 = .ok (.aload_n 0, 1) := by decide +kernel
theorem dX2_rowLane_1 : decode cX2_rowLane 1 = .ok (.getfield 19, 3) := by decide +kernel
theorem dX2_rowLane_4 : decode cX2_rowLane 4 = .ok (.ireturn, 1) := by decide +kernel
set_option maxRecDepth 20000 in
theorem ggX2_makeRow_J7_fill_53178 : GoodIn wsX2_makeRow wsJ7_fill_53178 := goodIn_r _ [7] (by decide +kernel) (by decide +kernel)
set_option maxRecDepth 20000 in
theorem gX2_makeRow_J7_fill_53178 : GoodIn wsX2_makeRow (va_wsS RX2 22 yJ7_fill_53178 wsJ7_fill_53178) := goodIn_app (goodIn_of _ (by decide +kernel)) ggX2_makeRow_J7_fill_53178
theorem dX2_makeRow_0 : decode cX2_makeRow 0 = .ok (.aload_n 0, 1) := by decide +kernel
theorem dX2_makeRow_1 : decode cX2_makeRow 1 = .ok (.getfield 9, 3) := by decide +kernel
theorem dX2_makeRow_4 : decode cX2_makeRow 4 = .ok (.iconst 0, 1) := by decide +kernel
theorem dX2_makeRow_5 : decode cX2_makeRow 5 = .ok (.invokestatic 22, 3) := by decide +kernel
theorem dX2_makeRow_8 : decode cX2_makeRow 8 = .ok (.aload_n 0, 1) := by decide +kernel
theorem dX2_makeRow_9 : decode cX2_makeRow 9 = .ok (.iload_n 1, 1) := by decide +kernel
theorem dX2_makeRow_10 : decode cX2_makeRow 10 = .ok (.putfield 19, 3) := by decide +kernel
theorem dX2_makeRow_13 : decode cX2_makeRow 13 = .ok (.aload_n 0, 1) := by decide +kernel
theorem dX2_makeRow_14 : decode cX2_makeRow 14 = .ok (.iload_n 2, 1) := by decide +kernel
theorem dX2_makeRow_15 : decode cX2_makeRow 15 = .ok (.putfield 15, 3) := by decide +kernel
theorem dX2_makeRow_18 : decode cX2_makeRow 18 = .ok (.return_, 1) := by decide +kernel
theorem dX2_dropRow_0 : decode cX2_dropRow 0 = .ok (.aload_n 0, 1) := by decide +kernel
theorem dX2_dropRow_1 : decode cX2_dropRow 1 = .ok (.iconst (-1), 1) := by decide +kernel
theorem dX2_dropRow_2 : decode cX2_dropRow 2 = .ok (.putfield 15, 3) := by decide +kernel
theorem dX2_dropRow_5 : decode cX2_dropRow 5 = .ok (.return_, 1) := by decide +kernel
set_option maxRecDepth 20000 in
theorem ggX2_faultOfCells_X2_hasRow : GoodIn wsX2_faultOfCells wsX2_hasRow := goodIn_r _ [6, 7, 12, 13, 14] (by decide +kernel) (by decide +kernel)
set_option maxRecDepth 20000 in
theorem gX2_faultOfCells_X2_hasRow : GoodIn wsX2_faultOfCells (wsV RX2 28 RX2 yX2_hasRow wsX2_hasRow) := goodIn_app (goodIn_of _ (by decide +kernel)) ggX2_faultOfCells_X2_hasRow
set_option maxRecDepth 20000 in
theorem ggX2_faultOfCells_X2_hasCells : GoodIn wsX2_faultOfCells wsX2_hasCells := goodIn_r _ [11, 7, 12, 13, 14] (by decide +kernel) (by decide +kernel)
set_option maxRecDepth 20000 in
theorem gX2_faultOfCells_X2_hasCells : GoodIn wsX2_faultOfCells (wsV RX2 32 RX2 yX2_hasCells wsX2_hasCells) := goodIn_app (goodIn_of _ (by decide +kernel)) ggX2_faultOfCells_X2_hasCells
theorem dX2_faultOfCells_0 : decode cX2_faultOfCells 0 = .ok (.aload_n 0, 1) := by decide +kernel
theorem dX2_faultOfCells_1 : decode cX2_faultOfCells 1 = .ok (.invokevirtual 28, 3) := by decide +kernel
theorem dX2_faultOfCells_4 : decode cX2_faultOfCells 4 = .ok (.ifCond .eq 13, 3) := by decide +kernel
theorem dX2_faultOfCells_7 : decode cX2_faultOfCells 7 = .ok (.aload_n 0, 1) := by decide +kernel
theorem dX2_faultOfCells_8 : decode cX2_faultOfCells 8 = .ok (.getfield 19, 3) := by decide +kernel
theorem dX2_faultOfCells_11 : decode cX2_faultOfCells 11 = .ok (.iload_n 1, 1) := by decide +kernel
theorem dX2_faultOfCells_12 : decode cX2_faultOfCells 12 = .ok (.if_icmp .eq 5, 3) := by decide +kernel
theorem dX2_faultOfCells_15 : decode cX2_faultOfCells 15 = .ok (.iconst 2, 1) := by decide +kernel
theorem dX2_faultOfCells_16 : decode cX2_faultOfCells 16 = .ok (.ireturn, 1) := by decide +kernel
theorem dX2_faultOfCells_17 : decode cX2_faultOfCells 17 = .ok (.aload_n 0, 1) := by decide +kernel
theorem dX2_faultOfCells_18 : decode cX2_faultOfCells 18 = .ok (.invokevirtual 28, 3) := by decide +kernel
theorem dX2_faultOfCells_21 : decode cX2_faultOfCells 21 = .ok (.ifCond .ne 5, 3) := by decide +kernel
theorem dX2_faultOfCells_24 : decode cX2_faultOfCells 24 = .ok (.iconst 1, 1) := by decide +kernel
theorem dX2_faultOfCells_25 : decode cX2_faultOfCells 25 = .ok (.ireturn, 1) := by decide +kernel
theorem dX2_faultOfCells_26 : decode cX2_faultOfCells 26 = .ok (.iload_n 3, 1) := by decide +kernel
theorem dX2_faultOfCells_27 : decode cX2_faultOfCells 27 = .ok (.ifCond .ge 5, 3) := by decide +kernel
theorem dX2_faultOfCells_30 : decode cX2_faultOfCells 30 = .ok (.iconst 4, 1) := by decide +kernel
theorem dX2_faultOfCells_31 : decode cX2_faultOfCells 31 = .ok (.ireturn, 1) := by decide +kernel
theorem dX2_faultOfCells_32 : decode cX2_faultOfCells 32 = .ok (.aload_n 0, 1) := by decide +kernel
theorem dX2_faultOfCells_33 : decode cX2_faultOfCells 33 = .ok (.iload_n 2, 1) := by decide +kernel
theorem dX2_faultOfCells_34 : decode cX2_faultOfCells 34 = .ok (.iload_n 3, 1) := by decide +kernel
theorem dX2_faultOfCells_35 : decode cX2_faultOfCells 35 = .ok (.invokevirtual 32, 3) := by decide +kernel
theorem dX2_faultOfCells_38 : decode cX2_faultOfCells 38 = .ok (.ifCond .eq 7, 3) := by decide +kernel
theorem dX2_faultOfCells_41 : decode cX2_faultOfCells 41 = .ok (.iconst 0, 1) := by decide +kernel
theorem dX2_faultOfCells_42 : decode cX2_faultOfCells 42 = .ok (.goto 4, 3) := by decide +kernel
theorem dX2_faultOfCells_45 : decode cX2_faultOfCells 45 = .ok (.iconst 3, 1) := by decide +kernel
theorem dX2_faultOfCells_46 : decode cX2_faultOfCells 46 = .ok (.ireturn, 1) := by decide +kernel
theorem dX2_hasCells_0 : decode cX2_hasCells 0 = .ok (.iload_n 1, 1) := by decide +kernel
theorem dX2_hasCells_1 : decode cX2_hasCells 1 = .ok (.ifCond .lt 29, 3) := by decide +kernel
theorem dX2_hasCells_4 : decode cX2_hasCells 4 = .ok (.iload_n 1, 1) := by decide +kernel
theorem dX2_hasCells_5 : decode cX2_hasCells 5 = .ok (.aload_n 0, 1) := by decide +kernel
theorem dX2_hasCells_6 : decode cX2_hasCells 6 = .ok (.getfield 15, 3) := by decide +kernel
theorem dX2_hasCells_9 : decode cX2_hasCells 9 = .ok (.if_icmp .gt 21, 3) := by decide +kernel
theorem dX2_hasCells_12 : decode cX2_hasCells 12 = .ok (.iload_n 2, 1) := by decide +kernel
theorem dX2_hasCells_13 : decode cX2_hasCells 13 = .ok (.ifCond .lt 17, 3) := by decide +kernel
theorem dX2_hasCells_16 : decode cX2_hasCells 16 = .ok (.iload_n 2, 1) := by decide +kernel
theorem dX2_hasCells_17 : decode cX2_hasCells 17 = .ok (.aload_n 0, 1) := by decide +kernel
theorem dX2_hasCells_18 : decode cX2_hasCells 18 = .ok (.getfield 15, 3) := by decide +kernel
theorem dX2_hasCells_21 : decode cX2_hasCells 21 = .ok (.iload_n 1, 1) := by decide +kernel
theorem dX2_hasCells_22 : decode cX2_hasCells 22 = .ok (.isub, 1) := by decide +kernel
theorem dX2_hasCells_23 : decode cX2_hasCells 23 = .ok (.if_icmp .gt 7, 3) := by decide +kernel
theorem dX2_hasCells_26 : decode cX2_hasCells 26 = .ok (.iconst 1, 1) := by decide +kernel
theorem dX2_hasCells_27 : decode cX2_hasCells 27 = .ok (.goto 4, 3) := by decide +kernel
theorem dX2_hasCells_30 : decode cX2_hasCells 30 = .ok (.iconst 0, 1) := by decide +kernel
theorem dX2_hasCells_31 : decode cX2_hasCells 31 = .ok (.ireturn, 1) := by decide +kernel
set_option maxRecDepth 20000 in
theorem ggX2_numberAt_X4_numberIn : GoodIn wsX2_numberAt wsX4_numberIn := goodIn_r _ [4] (by decide +kernel) (by decide +kernel)
set_option maxRecDepth 20000 in
theorem gX2_numberAt_X4_numberIn_n36 : GoodIn wsX2_numberAt (wsX4_numberIn) := ggX2_numberAt_X4_numberIn
theorem dX2_numberAt_0 : decode cX2_numberAt 0 = .ok (.aload_n 0, 1) := by decide +kernel
theorem dX2_numberAt_1 : decode cX2_numberAt 1 = .ok (.getfield 9, 3) := by decide +kernel
theorem dX2_numberAt_4 : decode cX2_numberAt 4 = .ok (.iload_n 1, 1) := by decide +kernel
theorem dX2_numberAt_5 : decode cX2_numberAt 5 = .ok (.invokestatic 36, 3) := by decide +kernel
theorem dX2_numberAt_8 : decode cX2_numberAt 8 = .ok (.ireturn, 1) := by decide +kernel
set_option maxRecDepth 20000 in
theorem ggX2_write_X2_cutToLane : GoodIn wsX2_write wsX2_cutToLane := goodIn_r _ [6, 7, 11, 12, 13] (by decide +kernel) (by decide +kernel)
set_option maxRecDepth 20000 in
theorem gX2_write_X2_cutToLane : GoodIn wsX2_write (wsV RX2 40 RX2 yX2_cutToLane wsX2_cutToLane) := goodIn_app (goodIn_of _ (by decide +kernel)) ggX2_write_X2_cutToLane
set_option maxRecDepth 20000 in
theorem ggX2_write_X4_changeIn : GoodIn wsX2_write wsX4_changeIn := goodIn_r _ [10] (by decide +kernel) (by decide +kernel)
set_option maxRecDepth 20000 in
theorem gX2_write_X4_changeIn_n44 : GoodIn wsX2_write (wsX4_changeIn) := ggX2_write_X4_changeIn
theorem dX2_write_0 : decode cX2_write 0 = .ok (.aload_n 0, 1) := by decide +kernel
theorem dX2_write_1 : decode cX2_write 1 = .ok (.getfield 9, 3) := by decide +kernel
theorem dX2_write_4 : decode cX2_write 4 = .ok (.iload_n 1, 1) := by decide +kernel
theorem dX2_write_5 : decode cX2_write 5 = .ok (.aload_n 0, 1) := by decide +kernel
theorem dX2_write_6 : decode cX2_write 6 = .ok (.iload_n 2, 1) := by decide +kernel
theorem dX2_write_7 : decode cX2_write 7 = .ok (.invokevirtual 40, 3) := by decide +kernel
theorem dX2_write_10 : decode cX2_write 10 = .ok (.invokestatic 44, 3) := by decide +kernel
theorem dX2_write_13 : decode cX2_write 13 = .ok (.return_, 1) := by decide +kernel
theorem dX2_cutToLane_0 : decode cX2_cutToLane 0 = .ok (.aload_n 0, 1) := by decide +kernel
theorem dX2_cutToLane_1 : decode cX2_cutToLane 1 = .ok (.getfield 19, 3) := by decide +kernel
theorem dX2_cutToLane_4 : decode cX2_cutToLane 4 = .ok (.lookupswitch 34 #[(0, 28), (1, 31)], 28) := by decide +kernel
theorem dX2_cutToLane_32 : decode cX2_cutToLane 32 = .ok (.iload_n 1, 1) := by decide +kernel
theorem dX2_cutToLane_33 : decode cX2_cutToLane 33 = .ok (.i2b, 1) := by decide +kernel
theorem dX2_cutToLane_34 : decode cX2_cutToLane 34 = .ok (.ireturn, 1) := by decide +kernel
theorem dX2_cutToLane_35 : decode cX2_cutToLane 35 = .ok (.iload_n 1, 1) := by decide +kernel
theorem dX2_cutToLane_36 : decode cX2_cutToLane 36 = .ok (.i2s, 1) := by decide +kernel
theorem dX2_cutToLane_37 : decode cX2_cutToLane 37 = .ok (.ireturn, 1) := by decide +kernel
theorem dX2_cutToLane_38 : decode cX2_cutToLane 38 = .ok (.iload_n 1, 1) := by decide +kernel
theorem dX2_cutToLane_39 : decode cX2_cutToLane 39 = .ok (.ireturn, 1) := by decide +kernel
set_option maxRecDepth 20000 in
theorem ggX2_copyTo_X2_hasCells : GoodIn wsX2_copyTo wsX2_hasCells := goodIn_r _ [10, 11, 12, 13, 14] (by decide +kernel) (by decide +kernel)
set_option maxRecDepth 20000 in
theorem gX2_copyTo_X2_hasCells : GoodIn wsX2_copyTo (wsV RX2 32 RX2 yX2_hasCells wsX2_hasCells) := goodIn_app (goodIn_of _ (by decide +kernel)) ggX2_copyTo_X2_hasCells
theorem dX2_copyTo_0 : decode cX2_copyTo 0 = .ok (.aload_n 0, 1) := by decide +kernel
theorem dX2_copyTo_1 : decode cX2_copyTo 1 = .ok (.iload_n 1, 1) := by decide +kernel
theorem dX2_copyTo_2 : decode cX2_copyTo 2 = .ok (.iload 4, 2) := by decide +kernel
theorem dX2_copyTo_4 : decode cX2_copyTo 4 = .ok (.invokevirtual 32, 3) := by decide +kernel
theorem dX2_copyTo_7 : decode cX2_copyTo 7 = .ok (.ifCond .eq 28, 3) := by decide +kernel
theorem dX2_copyTo_10 : decode cX2_copyTo 10 = .ok (.aload_n 2, 1) := by decide +kernel
theorem dX2_copyTo_11 : decode cX2_copyTo 11 = .ok (.iload_n 3, 1) := by decide +kernel
theorem dX2_copyTo_12 : decode cX2_copyTo 12 = .ok (.iload 4, 2) := by decide +kernel
theorem dX2_copyTo_14 : decode cX2_copyTo 14 = .ok (.invokevirtual 32, 3) := by decide +kernel
theorem dX2_copyTo_17 : decode cX2_copyTo 17 = .ok (.ifCond .eq 18, 3) := by decide +kernel
theorem dX2_copyTo_20 : decode cX2_copyTo 20 = .ok (.aload_n 0, 1) := by decide +kernel
theorem dX2_copyTo_21 : decode cX2_copyTo 21 = .ok (.getfield 9, 3) := by decide +kernel
theorem dX2_copyTo_24 : decode cX2_copyTo 24 = .ok (.iload_n 1, 1) := by decide +kernel
theorem dX2_copyTo_25 : decode cX2_copyTo 25 = .ok (.aload_n 2, 1) := by decide +kernel
theorem dX2_copyTo_26 : decode cX2_copyTo 26 = .ok (.getfield 9, 3) := by decide +kernel
theorem dX2_copyTo_29 : decode cX2_copyTo 29 = .ok (.iload_n 3, 1) := by decide +kernel
theorem dX2_copyTo_30 : decode cX2_copyTo 30 = .ok (.iload 4, 2) := by decide +kernel
theorem dX2_copyTo_32 : decode cX2_copyTo 32 = .ok (.invokestatic 48, 3) := by decide +kernel
theorem dX2_copyTo_35 : decode cX2_copyTo 35 = .ok (.return_, 1) := by decide +kernel
set_option maxRecDepth 20000 in
theorem ggX3_firstFault_X2_numberAt : GoodIn wsX3_firstFault wsX2_numberAt := goodIn_r _ [5, 6, 7, 8, 9, 23, 24, 25] (by decide +kernel) (by decide +kernel)
set_option maxRecDepth 20000 in
theorem gX3_firstFault_X2_numberAt : GoodIn wsX3_firstFault (wsV RX3 11 RX2 yX2_numberAt wsX2_numberAt) := goodIn_app (goodIn_of _ (by decide +kernel)) ggX3_firstFault_X2_numberAt
set_option maxRecDepth 20000 in
theorem ggX3_firstFault_X3_stepAfter : GoodIn wsX3_firstFault wsX3_stepAfter := goodIn_r _ [13, 14, 15, 12, 16, 17, 18, 19, 20, 21, 22] (by decide +kernel) (by decide +kernel)
set_option maxRecDepth 20000 in
theorem gX3_firstFault_X3_stepAfter : GoodIn wsX3_firstFault (va_wsS RX3 17 yX3_stepAfter wsX3_stepAfter) := goodIn_app (goodIn_of _ (by decide +kernel)) ggX3_firstFault_X3_stepAfter
theorem dX3_firstFault_0 : decode cX3_firstFault 0 = .ok (.iconst 0, 1) := by decide +kernel
theorem dX3_firstFault_1 : decode cX3_firstFault 1 = .ok (.istore_n 3, 1) := by decide +kernel
theorem dX3_firstFault_2 : decode cX3_firstFault 2 = .ok (.iconst 0, 1) := by decide +kernel
theorem dX3_firstFault_3 : decode cX3_firstFault 3 = .ok (.istore 4, 2) := by decide +kernel
theorem dX3_firstFault_5 : decode cX3_firstFault 5 = .ok (.iconst 0, 1) := by decide +kernel
theorem dX3_firstFault_6 : decode cX3_firstFault 6 = .ok (.istore 5, 2) := by decide +kernel
theorem dX3_firstFault_8 : decode cX3_firstFault 8 = .ok (.iconst 0, 1) := by decide +kernel
theorem dX3_firstFault_9 : decode cX3_firstFault 9 = .ok (.istore 6, 2) := by decide +kernel
theorem dX3_firstFault_11 : decode cX3_firstFault 11 = .ok (.iload 6, 2) := by decide +kernel
theorem dX3_firstFault_13 : decode cX3_firstFault 13 = .ok (.iload_n 2, 1) := by decide +kernel
theorem dX3_firstFault_14 : decode cX3_firstFault 14 = .ok (.if_icmp .ge 64, 3) := by decide +kernel
theorem dX3_firstFault_17 : decode cX3_firstFault 17 = .ok (.iload_n 3, 1) := by decide +kernel
theorem dX3_firstFault_18 : decode cX3_firstFault 18 = .ok (.aload_n 0, 1) := by decide +kernel
theorem dX3_firstFault_19 : decode cX3_firstFault 19 = .ok (.iload_n 1, 1) := by decide +kernel
theorem dX3_firstFault_20 : decode cX3_firstFault 20 = .ok (.iload 6, 2) := by decide +kernel
theorem dX3_firstFault_22 : decode cX3_firstFault 22 = .ok (.iadd, 1) := by decide +kernel
theorem dX3_firstFault_23 : decode cX3_firstFault 23 = .ok (.invokevirtual 11, 3) := by decide +kernel
theorem dX3_firstFault_26 : decode cX3_firstFault 26 = .ok (.iload 4, 2) := by decide +kernel
theorem dX3_firstFault_28 : decode cX3_firstFault 28 = .ok (.iload 5, 2) := by decide +kernel
theorem dX3_firstFault_30 : decode cX3_firstFault 30 = .ok (.invokestatic 17, 3) := by decide +kernel
theorem dX3_firstFault_33 : decode cX3_firstFault 33 = .ok (.istore_n 3, 1) := by decide +kernel
theorem dX3_firstFault_34 : decode cX3_firstFault 34 = .ok (.iload_n 3, 1) := by decide +kernel
theorem dX3_firstFault_35 : decode cX3_firstFault 35 = .ok (.iconst (-1), 1) := by decide +kernel
theorem dX3_firstFault_36 : decode cX3_firstFault 36 = .ok (.if_icmp .ne 6, 3) := by decide +kernel
theorem dX3_firstFault_39 : decode cX3_firstFault 39 = .ok (.iload 6, 2) := by decide +kernel
theorem dX3_firstFault_41 : decode cX3_firstFault 41 = .ok (.ireturn, 1) := by decide +kernel
theorem dX3_firstFault_42 : decode cX3_firstFault 42 = .ok (.iload 4, 2) := by decide +kernel
theorem dX3_firstFault_44 : decode cX3_firstFault 44 = .ok (.iload_n 3, 1) := by decide +kernel
theorem dX3_firstFault_45 : decode cX3_firstFault 45 = .ok (.iconst 4, 1) := by decide +kernel
theorem dX3_firstFault_46 : decode cX3_firstFault 46 = .ok (.if_icmp .ne 7, 3) := by decide +kernel
theorem dX3_firstFault_49 : decode cX3_firstFault 49 = .ok (.iconst 1, 1) := by decide +kernel
theorem dX3_firstFault_50 : decode cX3_firstFault 50 = .ok (.goto 4, 3) := by decide +kernel
theorem dX3_firstFault_53 : decode cX3_firstFault 53 = .ok (.iconst 0, 1) := by decide +kernel
theorem dX3_firstFault_54 : decode cX3_firstFault 54 = .ok (.iadd, 1) := by decide +kernel
theorem dX3_firstFault_55 : decode cX3_firstFault 55 = .ok (.istore 4, 2) := by decide +kernel
theorem dX3_firstFault_57 : decode cX3_firstFault 57 = .ok (.iload 5, 2) := by decide +kernel
theorem dX3_firstFault_59 : decode cX3_firstFault 59 = .ok (.iload_n 3, 1) := by decide +kernel
theorem dX3_firstFault_60 : decode cX3_firstFault 60 = .ok (.iconst 5, 1) := by decide +kernel
theorem dX3_firstFault_61 : decode cX3_firstFault 61 = .ok (.if_icmp .ne 7, 3) := by decide +kernel
theorem dX3_firstFault_64 : decode cX3_firstFault 64 = .ok (.iconst 1, 1) := by decide +kernel
theorem dX3_firstFault_65 : decode cX3_firstFault 65 = .ok (.goto 4, 3) := by decide +kernel
theorem dX3_firstFault_68 : decode cX3_firstFault 68 = .ok (.iconst 0, 1) := by decide +kernel
theorem dX3_firstFault_69 : decode cX3_firstFault 69 = .ok (.iadd, 1) := by decide +kernel
theorem dX3_firstFault_70 : decode cX3_firstFault 70 = .ok (.istore 5, 2) := by decide +kernel
theorem dX3_firstFault_72 : decode cX3_firstFault 72 = .ok (.iinc 6 1, 3) := by decide +kernel
theorem dX3_firstFault_75 : decode cX3_firstFault 75 = .ok (.goto (-64), 3) := by decide +kernel
theorem dX3_firstFault_78 : decode cX3_firstFault 78 = .ok (.iload_n 3, 1) := by decide +kernel
theorem dX3_firstFault_79 : decode cX3_firstFault 79 = .ok (.bipush 9, 2) := by decide +kernel
theorem dX3_firstFault_81 : decode cX3_firstFault 81 = .ok (.if_icmp .ne 7, 3) := by decide +kernel
theorem dX3_firstFault_84 : decode cX3_firstFault 84 = .ok (.iconst (-1), 1) := by decide +kernel
theorem dX3_firstFault_85 : decode cX3_firstFault 85 = .ok (.goto 4, 3) := by decide +kernel
theorem dX3_firstFault_88 : decode cX3_firstFault 88 = .ok (.iload_n 2, 1) := by decide +kernel
theorem dX3_firstFault_89 : decode cX3_firstFault 89 = .ok (.ireturn, 1) := by decide +kernel
set_option maxRecDepth 20000 in
theorem ggX3_stepAfter_X3_isDigit : GoodIn wsX3_stepAfter wsX3_isDigit := goodIn_r _ [4] (by decide +kernel) (by decide +kernel)
set_option maxRecDepth 20000 in
theorem gX3_stepAfter_X3_isDigit : GoodIn wsX3_stepAfter (va_wsS RX3 21 yX3_isDigit wsX3_isDigit) := goodIn_app (goodIn_of _ (by decide +kernel)) ggX3_stepAfter_X3_isDigit
set_option maxRecDepth 20000 in
theorem ggX3_stepAfter_X3_stepAfterDay : GoodIn wsX3_stepAfter wsX3_stepAfterDay := goodIn_r _ [7, 1, 2, 3, 4] (by decide +kernel) (by decide +kernel)
set_option maxRecDepth 20000 in
theorem gX3_stepAfter_X3_stepAfterDay : GoodIn wsX3_stepAfter (va_wsS RX3 25 yX3_stepAfterDay wsX3_stepAfterDay) := goodIn_app (goodIn_of _ (by decide +kernel)) ggX3_stepAfter_X3_stepAfterDay
set_option maxRecDepth 20000 in
theorem ggX3_stepAfter_X3_kindByLetter : GoodIn wsX3_stepAfter wsX3_kindByLetter := goodIn_r _ [10] (by decide +kernel) (by decide +kernel)
set_option maxRecDepth 20000 in
theorem gX3_stepAfter_X3_kindByLetter : GoodIn wsX3_stepAfter (va_wsS RX3 29 yX3_kindByLetter wsX3_kindByLetter) := goodIn_app (goodIn_of _ (by decide +kernel)) ggX3_stepAfter_X3_kindByLetter
theorem dX3_stepAfter_0 : decode cX3_stepAfter 0 = .ok (.iload_n 0, 1) := by decide +kernel
theorem dX3_stepAfter_1 : decode cX3_stepAfter 1 = .ok (.tableswitch 200 0 9 #[55, 67, 83, 95, 111, 117, 133, 149, 166, 183], 55) := by decide +kernel
theorem dX3_stepAfter_56 : decode cX3_stepAfter 56 = .ok (.iload_n 1, 1) := by decide +kernel
theorem dX3_stepAfter_57 : decode cX3_stepAfter 57 = .ok (.bipush 100, 2) := by decide +kernel
theorem dX3_stepAfter_59 : decode cX3_stepAfter 59 = .ok (.if_icmp .ne 7, 3) := by decide +kernel
theorem dX3_stepAfter_62 : decode cX3_stepAfter 62 = .ok (.iconst 1, 1) := by decide +kernel
theorem dX3_stepAfter_63 : decode cX3_stepAfter 63 = .ok (.goto 4, 3) := by decide +kernel
theorem dX3_stepAfter_66 : decode cX3_stepAfter 66 = .ok (.iconst (-1), 1) := by decide +kernel
theorem dX3_stepAfter_67 : decode cX3_stepAfter 67 = .ok (.ireturn, 1) := by decide +kernel
theorem dX3_stepAfter_68 : decode cX3_stepAfter 68 = .ok (.iload_n 1, 1) := by decide +kernel
theorem dX3_stepAfter_69 : decode cX3_stepAfter 69 = .ok (.iconst 0, 1) := by decide +kernel
theorem dX3_stepAfter_70 : decode cX3_stepAfter 70 = .ok (.bipush 9, 2) := by decide +kernel
theorem dX3_stepAfter_72 : decode cX3_stepAfter 72 = .ok (.invokestatic 21, 3) := by decide +kernel
theorem dX3_stepAfter_75 : decode cX3_stepAfter 75 = .ok (.ifCond .eq 7, 3) := by decide +kernel
theorem dX3_stepAfter_78 : decode cX3_stepAfter 78 = .ok (.iconst 2, 1) := by decide +kernel
theorem dX3_stepAfter_79 : decode cX3_stepAfter 79 = .ok (.goto 4, 3) := by decide +kernel
theorem dX3_stepAfter_82 : decode cX3_stepAfter 82 = .ok (.iconst (-1), 1) := by decide +kernel
theorem dX3_stepAfter_83 : decode cX3_stepAfter 83 = .ok (.ireturn, 1) := by decide +kernel
theorem dX3_stepAfter_84 : decode cX3_stepAfter 84 = .ok (.iload_n 1, 1) := by decide +kernel
theorem dX3_stepAfter_85 : decode cX3_stepAfter 85 = .ok (.bipush 44, 2) := by decide +kernel
theorem dX3_stepAfter_87 : decode cX3_stepAfter 87 = .ok (.if_icmp .ne 7, 3) := by decide +kernel
theorem dX3_stepAfter_90 : decode cX3_stepAfter 90 = .ok (.iconst 3, 1) := by decide +kernel
theorem dX3_stepAfter_91 : decode cX3_stepAfter 91 = .ok (.goto 4, 3) := by decide +kernel
theorem dX3_stepAfter_94 : decode cX3_stepAfter 94 = .ok (.iconst (-1), 1) := by decide +kernel
theorem dX3_stepAfter_95 : decode cX3_stepAfter 95 = .ok (.ireturn, 1) := by decide +kernel
theorem dX3_stepAfter_96 : decode cX3_stepAfter 96 = .ok (.iload_n 1, 1) := by decide +kernel
theorem dX3_stepAfter_97 : decode cX3_stepAfter 97 = .ok (.iconst 0, 1) := by decide +kernel
theorem dX3_stepAfter_98 : decode cX3_stepAfter 98 = .ok (.bipush 9, 2) := by decide +kernel
theorem dX3_stepAfter_100 : decode cX3_stepAfter 100 = .ok (.invokestatic 21, 3) := by decide +kernel
theorem dX3_stepAfter_103 : decode cX3_stepAfter 103 = .ok (.ifCond .eq 7, 3) := by decide +kernel
theorem dX3_stepAfter_106 : decode cX3_stepAfter 106 = .ok (.iconst 4, 1) := by decide +kernel
theorem dX3_stepAfter_107 : decode cX3_stepAfter 107 = .ok (.goto 4, 3) := by decide +kernel
theorem dX3_stepAfter_110 : decode cX3_stepAfter 110 = .ok (.iconst (-1), 1) := by decide +kernel
theorem dX3_stepAfter_111 : decode cX3_stepAfter 111 = .ok (.ireturn, 1) := by decide +kernel
theorem dX3_stepAfter_112 : decode cX3_stepAfter 112 = .ok (.iload_n 1, 1) := by decide +kernel
theorem dX3_stepAfter_113 : decode cX3_stepAfter 113 = .ok (.iload_n 2, 1) := by decide +kernel
theorem dX3_stepAfter_114 : decode cX3_stepAfter 114 = .ok (.invokestatic 25, 3) := by decide +kernel
theorem dX3_stepAfter_117 : decode cX3_stepAfter 117 = .ok (.ireturn, 1) := by decide +kernel
theorem dX3_stepAfter_118 : decode cX3_stepAfter 118 = .ok (.iload_n 1, 1) := by decide +kernel
theorem dX3_stepAfter_119 : decode cX3_stepAfter 119 = .ok (.invokestatic 29, 3) := by decide +kernel
theorem dX3_stepAfter_122 : decode cX3_stepAfter 122 = .ok (.bipush (-9), 2) := by decide +kernel
theorem dX3_stepAfter_124 : decode cX3_stepAfter 124 = .ok (.if_icmp .ne 7, 3) := by decide +kernel
theorem dX3_stepAfter_127 : decode cX3_stepAfter 127 = .ok (.iconst (-1), 1) := by decide +kernel
theorem dX3_stepAfter_128 : decode cX3_stepAfter 128 = .ok (.goto 5, 3) := by decide +kernel
theorem dX3_stepAfter_131 : decode cX3_stepAfter 131 = .ok (.bipush 6, 2) := by decide +kernel
theorem dX3_stepAfter_133 : decode cX3_stepAfter 133 = .ok (.ireturn, 1) := by decide +kernel
theorem dX3_stepAfter_134 : decode cX3_stepAfter 134 = .ok (.iload_n 1, 1) := by decide +kernel
theorem dX3_stepAfter_135 : decode cX3_stepAfter 135 = .ok (.iconst 0, 1) := by decide +kernel
theorem dX3_stepAfter_136 : decode cX3_stepAfter 136 = .ok (.iconst 5, 1) := by decide +kernel
theorem dX3_stepAfter_137 : decode cX3_stepAfter 137 = .ok (.invokestatic 21, 3) := by decide +kernel
theorem dX3_stepAfter_140 : decode cX3_stepAfter 140 = .ok (.ifCond .eq 8, 3) := by decide +kernel
theorem dX3_stepAfter_143 : decode cX3_stepAfter 143 = .ok (.bipush 7, 2) := by decide +kernel
theorem dX3_stepAfter_145 : decode cX3_stepAfter 145 = .ok (.goto 4, 3) := by decide +kernel
theorem dX3_stepAfter_148 : decode cX3_stepAfter 148 = .ok (.iconst (-1), 1) := by decide +kernel
theorem dX3_stepAfter_149 : decode cX3_stepAfter 149 = .ok (.ireturn, 1) := by decide +kernel
theorem dX3_stepAfter_150 : decode cX3_stepAfter 150 = .ok (.iload_n 1, 1) := by decide +kernel
theorem dX3_stepAfter_151 : decode cX3_stepAfter 151 = .ok (.iconst 1, 1) := by decide +kernel
theorem dX3_stepAfter_152 : decode cX3_stepAfter 152 = .ok (.bipush 9, 2) := by decide +kernel
theorem dX3_stepAfter_154 : decode cX3_stepAfter 154 = .ok (.invokestatic 21, 3) := by decide +kernel
theorem dX3_stepAfter_157 : decode cX3_stepAfter 157 = .ok (.ifCond .eq 8, 3) := by decide +kernel
theorem dX3_stepAfter_160 : decode cX3_stepAfter 160 = .ok (.bipush 8, 2) := by decide +kernel
theorem dX3_stepAfter_162 : decode cX3_stepAfter 162 = .ok (.goto 4, 3) := by decide +kernel
theorem dX3_stepAfter_165 : decode cX3_stepAfter 165 = .ok (.iconst (-1), 1) := by decide +kernel
theorem dX3_stepAfter_166 : decode cX3_stepAfter 166 = .ok (.ireturn, 1) := by decide +kernel
theorem dX3_stepAfter_167 : decode cX3_stepAfter 167 = .ok (.iload_n 1, 1) := by decide +kernel
theorem dX3_stepAfter_168 : decode cX3_stepAfter 168 = .ok (.iconst 0, 1) := by decide +kernel
theorem dX3_stepAfter_169 : decode cX3_stepAfter 169 = .ok (.bipush 6, 2) := by decide +kernel
theorem dX3_stepAfter_171 : decode cX3_stepAfter 171 = .ok (.invokestatic 21, 3) := by decide +kernel
theorem dX3_stepAfter_174 : decode cX3_stepAfter 174 = .ok (.ifCond .eq 8, 3) := by decide +kernel
theorem dX3_stepAfter_177 : decode cX3_stepAfter 177 = .ok (.bipush 9, 2) := by decide +kernel
theorem dX3_stepAfter_179 : decode cX3_stepAfter 179 = .ok (.goto 4, 3) := by decide +kernel
theorem dX3_stepAfter_182 : decode cX3_stepAfter 182 = .ok (.iconst (-1), 1) := by decide +kernel
theorem dX3_stepAfter_183 : decode cX3_stepAfter 183 = .ok (.ireturn, 1) := by decide +kernel
theorem dX3_stepAfter_184 : decode cX3_stepAfter 184 = .ok (.iload_n 1, 1) := by decide +kernel
theorem dX3_stepAfter_185 : decode cX3_stepAfter 185 = .ok (.bipush 59, 2) := by decide +kernel
theorem dX3_stepAfter_187 : decode cX3_stepAfter 187 = .ok (.if_icmp .ne 12, 3) := by decide +kernel
theorem dX3_stepAfter_190 : decode cX3_stepAfter 190 = .ok (.iload_n 3, 1) := by decide +kernel
theorem dX3_stepAfter_191 : decode cX3_stepAfter 191 = .ok (.iconst 4, 1) := by decide +kernel
theorem dX3_stepAfter_192 : decode cX3_stepAfter 192 = .ok (.if_icmp .ge 7, 3) := by decide +kernel
theorem dX3_stepAfter_195 : decode cX3_stepAfter 195 = .ok (.iconst 5, 1) := by decide +kernel
theorem dX3_stepAfter_196 : decode cX3_stepAfter 196 = .ok (.goto 4, 3) := by decide +kernel
theorem dX3_stepAfter_199 : decode cX3_stepAfter 199 = .ok (.iconst (-1), 1) := by decide +kernel
theorem dX3_stepAfter_200 : decode cX3_stepAfter 200 = .ok (.ireturn, 1) := by decide +kernel
theorem dX3_stepAfter_201 : decode cX3_stepAfter 201 = .ok (.iconst (-1), 1) := by decide +kernel
theorem dX3_stepAfter_202 : decode cX3_stepAfter 202 = .ok (.ireturn, 1) := by decide +kernel
set_option maxRecDepth 20000 in
theorem ggX3_stepAfterDay_X3_isDigit : GoodIn wsX3_stepAfterDay wsX3_isDigit := goodIn_r _ [4] (by decide +kernel) (by decide +kernel)
set_option maxRecDepth 20000 in
theorem gX3_stepAfterDay_X3_isDigit : GoodIn wsX3_stepAfterDay (va_wsS RX3 21 yX3_isDigit wsX3_isDigit) := goodIn_app (goodIn_of _ (by decide +kernel)) ggX3_stepAfterDay_X3_isDigit
theorem dX3_stepAfterDay_0 : decode cX3_stepAfterDay 0 = .ok (.iload_n 0, 1) := by decide +kernel
theorem dX3_stepAfterDay_1 : decode cX3_stepAfterDay 1 = .ok (.bipush 59, 2) := by decide +kernel
theorem dX3_stepAfterDay_3 : decode cX3_stepAfterDay 3 = .ok (.if_icmp .ne 5, 3) := by decide +kernel
theorem dX3_stepAfterDay_6 : decode cX3_stepAfterDay 6 = .ok (.iconst 5, 1) := by decide +kernel
theorem dX3_stepAfterDay_7 : decode cX3_stepAfterDay 7 = .ok (.ireturn, 1) := by decide +kernel
theorem dX3_stepAfterDay_8 : decode cX3_stepAfterDay 8 = .ok (.iload_n 0, 1) := by decide +kernel
theorem dX3_stepAfterDay_9 : decode cX3_stepAfterDay 9 = .ok (.iconst 0, 1) := by decide +kernel
theorem dX3_stepAfterDay_10 : decode cX3_stepAfterDay 10 = .ok (.bipush 9, 2) := by decide +kernel
theorem dX3_stepAfterDay_12 : decode cX3_stepAfterDay 12 = .ok (.invokestatic 21, 3) := by decide +kernel
theorem dX3_stepAfterDay_15 : decode cX3_stepAfterDay 15 = .ok (.ifCond .eq 13, 3) := by decide +kernel
theorem dX3_stepAfterDay_18 : decode cX3_stepAfterDay 18 = .ok (.iload_n 1, 1) := by decide +kernel
theorem dX3_stepAfterDay_19 : decode cX3_stepAfterDay 19 = .ok (.bipush 6, 2) := by decide +kernel
theorem dX3_stepAfterDay_21 : decode cX3_stepAfterDay 21 = .ok (.if_icmp .ge 7, 3) := by decide +kernel
theorem dX3_stepAfterDay_24 : decode cX3_stepAfterDay 24 = .ok (.iconst 4, 1) := by decide +kernel
theorem dX3_stepAfterDay_25 : decode cX3_stepAfterDay 25 = .ok (.goto 4, 3) := by decide +kernel
theorem dX3_stepAfterDay_28 : decode cX3_stepAfterDay 28 = .ok (.iconst (-1), 1) := by decide +kernel
theorem dX3_stepAfterDay_29 : decode cX3_stepAfterDay 29 = .ok (.ireturn, 1) := by decide +kernel
theorem dX3_kindByLetter_0 : decode cX3_kindByLetter 0 = .ok (.iload_n 0, 1) := by decide +kernel
theorem dX3_kindByLetter_1 : decode cX3_kindByLetter 1 = .ok (.lookupswitch 41 #[(101, 35), (108, 39), (115, 37)], 35) := by decide +kernel
theorem dX3_kindByLetter_36 : decode cX3_kindByLetter 36 = .ok (.iconst 0, 1) := by decide +kernel
theorem dX3_kindByLetter_37 : decode cX3_kindByLetter 37 = .ok (.ireturn, 1) := by decide +kernel
theorem dX3_kindByLetter_38 : decode cX3_kindByLetter 38 = .ok (.iconst 1, 1) := by decide +kernel
theorem dX3_kindByLetter_39 : decode cX3_kindByLetter 39 = .ok (.ireturn, 1) := by decide +kernel
theorem dX3_kindByLetter_40 : decode cX3_kindByLetter 40 = .ok (.iconst 2, 1) := by decide +kernel
theorem dX3_kindByLetter_41 : decode cX3_kindByLetter 41 = .ok (.ireturn, 1) := by decide +kernel
theorem dX3_kindByLetter_42 : decode cX3_kindByLetter 42 = .ok (.bipush (-9), 2) := by decide +kernel
theorem dX3_kindByLetter_44 : decode cX3_kindByLetter 44 = .ok (.ireturn, 1) := by decide +kernel
theorem dX3_isDigit_0 : decode cX3_isDigit 0 = .ok (.iload_n 0, 1) := by decide +kernel
theorem dX3_isDigit_1 : decode cX3_isDigit 1 = .ok (.bipush 48, 2) := by decide +kernel
theorem dX3_isDigit_3 : decode cX3_isDigit 3 = .ok (.iload_n 1, 1) := by decide +kernel
theorem dX3_isDigit_4 : decode cX3_isDigit 4 = .ok (.iadd, 1) := by decide +kernel
theorem dX3_isDigit_5 : decode cX3_isDigit 5 = .ok (.if_icmp .lt 15, 3) := by decide +kernel
theorem dX3_isDigit_8 : decode cX3_isDigit 8 = .ok (.iload_n 0, 1) := by decide +kernel
theorem dX3_isDigit_9 : decode cX3_isDigit 9 = .ok (.bipush 48, 2) := by decide +kernel
theorem dX3_isDigit_11 : decode cX3_isDigit 11 = .ok (.iload_n 2, 1) := by decide +kernel
theorem dX3_isDigit_12 : decode cX3_isDigit 12 = .ok (.iadd, 1) := by decide +kernel
theorem dX3_isDigit_13 : decode cX3_isDigit 13 = .ok (.if_icmp .gt 7, 3) := by decide +kernel
theorem dX3_isDigit_16 : decode cX3_isDigit 16 = .ok (.iconst 1, 1) := by decide +kernel
theorem dX3_isDigit_17 : decode cX3_isDigit 17 = .ok (.goto 4, 3) := by decide +kernel
theorem dX3_isDigit_20 : decode cX3_isDigit 20 = .ok (.iconst 0, 1) := by decide +kernel
theorem dX3_isDigit_21 : decode cX3_isDigit 21 = .ok (.ireturn, 1) := by decide +kernel
set_option maxRecDepth 20000 in
theorem ggX3_isDigitAt_X2_numberAt : GoodIn wsX3_isDigitAt wsX2_numberAt := goodIn_r _ [5, 6, 7, 8, 9, 14, 15, 16] (by decide +kernel) (by decide +kernel)
set_option maxRecDepth 20000 in
theorem gX3_isDigitAt_X2_numberAt : GoodIn wsX3_isDigitAt (wsV RX3 11 RX2 yX2_numberAt wsX2_numberAt) := goodIn_app (goodIn_of _ (by decide +kernel)) ggX3_isDigitAt_X2_numberAt
set_option maxRecDepth 20000 in
theorem ggX3_isDigitAt_X3_isDigit : GoodIn wsX3_isDigitAt wsX3_isDigit := goodIn_r _ [13] (by decide +kernel) (by decide +kernel)
set_option maxRecDepth 20000 in
theorem gX3_isDigitAt_X3_isDigit : GoodIn wsX3_isDigitAt (va_wsS RX3 21 yX3_isDigit wsX3_isDigit) := goodIn_app (goodIn_of _ (by decide +kernel)) ggX3_isDigitAt_X3_isDigit
theorem dX3_isDigitAt_0 : decode cX3_isDigitAt 0 = .ok (.aload_n 0, 1) := by decide +kernel
theorem dX3_isDigitAt_1 : decode cX3_isDigitAt 1 = .ok (.iload_n 1, 1) := by decide +kernel
theorem dX3_isDigitAt_2 : decode cX3_isDigitAt 2 = .ok (.invokevirtual 11, 3) := by decide +kernel
theorem dX3_isDigitAt_5 : decode cX3_isDigitAt 5 = .ok (.iconst 0, 1) := by decide +kernel
theorem dX3_isDigitAt_6 : decode cX3_isDigitAt 6 = .ok (.bipush 9, 2) := by decide +kernel
theorem dX3_isDigitAt_8 : decode cX3_isDigitAt 8 = .ok (.invokestatic 21, 3) := by decide +kernel
theorem dX3_isDigitAt_11 : decode cX3_isDigitAt 11 = .ok (.ireturn, 1) := by decide +kernel
set_option maxRecDepth 20000 in
theorem ggX3_digitAt_X2_numberAt : GoodIn wsX3_digitAt wsX2_numberAt := goodIn_r _ [5, 6, 7, 8, 9, 10, 11, 12] (by decide +kernel) (by decide +kernel)
set_option maxRecDepth 20000 in
theorem gX3_digitAt_X2_numberAt : GoodIn wsX3_digitAt (wsV RX3 11 RX2 yX2_numberAt wsX2_numberAt) := goodIn_app (goodIn_of _ (by decide +kernel)) ggX3_digitAt_X2_numberAt
theorem dX3_digitAt_0 : decode cX3_digitAt 0 = .ok (.aload_n 0, 1) := by decide +kernel
theorem dX3_digitAt_1 : decode cX3_digitAt 1 = .ok (.iload_n 1, 1) := by decide +kernel
theorem dX3_digitAt_2 : decode cX3_digitAt 2 = .ok (.invokevirtual 11, 3) := by decide +kernel
theorem dX3_digitAt_5 : decode cX3_digitAt 5 = .ok (.bipush 48, 2) := by decide +kernel
theorem dX3_digitAt_7 : decode cX3_digitAt 7 = .ok (.isub, 1) := by decide +kernel
theorem dX3_digitAt_8 : decode cX3_digitAt 8 = .ok (.ireturn, 1) := by decide +kernel
set_option maxRecDepth 20000 in
theorem ggX4_init_X0_init : GoodIn wsX4_init wsX0_init := goodIn_r _ [17, 18, 2, 3, 19, 20, 21, 22, 23, 24, 38, 39, 40, 41, 42, 43, 44, 45] (by decide +kernel) (by decide +kernel)
set_option maxRecDepth 20000 in
theorem gX4_init_X0_init_n11 : GoodIn wsX4_init (wsX0_init) := ggX4_init_X0_init
set_option maxRecDepth 20000 in
theorem ggX4_init_X1_init : GoodIn wsX4_init wsX1_init := goodIn_r _ [26, 27, 2, 3, 19, 28, 29, 30, 31, 32, 51, 52, 53, 54, 55] (by decide +kernel) (by decide +kernel)
set_option maxRecDepth 20000 in
theorem gX4_init_X1_init_n20 : GoodIn wsX4_init (wsX1_init) := ggX4_init_X1_init
set_option maxRecDepth 20000 in
theorem ggX4_init_X2_init : GoodIn wsX4_init wsX2_init := goodIn_r _ [34, 35, 2, 3, 19, 36, 37, 56, 57, 58] (by decide +kernel) (by decide +kernel)
set_option maxRecDepth 20000 in
theorem gX4_init_X2_init_n31 : GoodIn wsX4_init (wsX2_init) := ggX4_init_X2_init
theorem dX4_init_0 : decode cX4_init 0 = .ok (.aload_n 0, 1) := by decide +kernel
theorem dX4_init_1 : decode cX4_init 1 = .ok (.invokespecial 3, 3) := by decide +kernel
theorem dX4_init_4 : decode cX4_init 4 = .ok (.aload_n 0, 1) := by decide +kernel
theorem dX4_init_5 : decode cX4_init 5 = .ok (.new 9, 3) := by decide +kernel
theorem dX4_init_8 : decode cX4_init 8 = .ok (.dup, 1) := by decide +kernel
theorem dX4_init_9 : decode cX4_init 9 = .ok (.invokespecial 11, 3) := by decide +kernel
theorem dX4_init_12 : decode cX4_init 12 = .ok (.putfield 12, 3) := by decide +kernel
theorem dX4_init_15 : decode cX4_init 15 = .ok (.aload_n 0, 1) := by decide +kernel
theorem dX4_init_16 : decode cX4_init 16 = .ok (.new 18, 3) := by decide +kernel
theorem dX4_init_19 : decode cX4_init 19 = .ok (.dup, 1) := by decide +kernel
theorem dX4_init_20 : decode cX4_init 20 = .ok (.invokespecial 20, 3) := by decide +kernel
theorem dX4_init_23 : decode cX4_init 23 = .ok (.putfield 21, 3) := by decide +kernel
theorem dX4_init_26 : decode cX4_init 26 = .ok (.aload_n 0, 1) := by decide +kernel
theorem dX4_init_27 : decode cX4_init 27 = .ok (.iconst 4, 1) := by decide +kernel
theorem dX4_init_28 : decode cX4_init 28 = .ok (.anewarray 25, 3) := by decide +kernel
theorem dX4_init_31 : decode cX4_init 31 = .ok (.putfield 27, 3) := by decide +kernel
theorem dX4_init_34 : decode cX4_init 34 = .ok (.iconst 0, 1) := by decide +kernel
theorem dX4_init_35 : decode cX4_init 35 = .ok (.istore_n 1, 1) := by decide +kernel
theorem dX4_init_36 : decode cX4_init 36 = .ok (.iload_n 1, 1) := by decide +kernel
theorem dX4_init_37 : decode cX4_init 37 = .ok (.aload_n 0, 1) := by decide +kernel
theorem dX4_init_38 : decode cX4_init 38 = .ok (.getfield 27, 3) := by decide +kernel
theorem dX4_init_41 : decode cX4_init 41 = .ok (.arraylength, 1) := by decide +kernel
theorem dX4_init_42 : decode cX4_init 42 = .ok (.if_icmp .ge 22, 3) := by decide +kernel
theorem dX4_init_45 : decode cX4_init 45 = .ok (.aload_n 0, 1) := by decide +kernel
theorem dX4_init_46 : decode cX4_init 46 = .ok (.getfield 27, 3) := by decide +kernel
theorem dX4_init_49 : decode cX4_init 49 = .ok (.iload_n 1, 1) := by decide +kernel
theorem dX4_init_50 : decode cX4_init 50 = .ok (.new 25, 3) := by decide +kernel
theorem dX4_init_53 : decode cX4_init 53 = .ok (.dup, 1) := by decide +kernel
theorem dX4_init_54 : decode cX4_init 54 = .ok (.invokespecial 31, 3) := by decide +kernel
theorem dX4_init_57 : decode cX4_init 57 = .ok (.aastore, 1) := by decide +kernel
theorem dX4_init_58 : decode cX4_init 58 = .ok (.iinc 1 1, 3) := by decide +kernel
theorem dX4_init_61 : decode cX4_init 61 = .ok (.goto (-25), 3) := by decide +kernel
theorem dX4_init_64 : decode cX4_init 64 = .ok (.return_, 1) := by decide +kernel
set_option maxRecDepth 20000 in
theorem ggX4_duchy_X4_sheetAt : GoodIn wsX4_duchy wsX4_sheetAt := goodIn_r _ [8, 9, 88, 89, 90, 91, 92] (by decide +kernel) (by decide +kernel)
set_option maxRecDepth 20000 in
theorem gX4_duchy_X4_sheetAt : GoodIn wsX4_duchy (wsV RX4 36 RX4 yX4_sheetAt wsX4_sheetAt) := goodIn_app (goodIn_of _ (by decide +kernel)) ggX4_duchy_X4_sheetAt
set_option maxRecDepth 20000 in
theorem ggX4_duchy_X4_isLane : GoodIn wsX4_duchy wsX4_isLane := goodIn_r _ [12] (by decide +kernel) (by decide +kernel)
set_option maxRecDepth 20000 in
theorem gX4_duchy_X4_isLane : GoodIn wsX4_duchy (va_wsS RX4 40 yX4_isLane wsX4_isLane) := goodIn_app (goodIn_of _ (by decide +kernel)) ggX4_duchy_X4_isLane
set_option maxRecDepth 20000 in
theorem ggX4_duchy_X2_faultOfCells : GoodIn wsX4_duchy wsX2_faultOfCells := goodIn_r _ [17, 18, 19, 20, 21, 16, 22, 23, 24, 25, 26, 27, 93, 94, 95] (by decide +kernel) (by decide +kernel)
set_option maxRecDepth 20000 in
theorem gX4_duchy_X2_faultOfCells : GoodIn wsX4_duchy (wsV RX4 44 RX2 yX2_faultOfCells wsX2_faultOfCells) := goodIn_app (goodIn_of _ (by decide +kernel)) ggX4_duchy_X2_faultOfCells
set_option maxRecDepth 20000 in
theorem ggX4_duchy_X4_faulted : GoodIn wsX4_duchy wsX4_faulted := goodIn_r _ [31, 1, 88, 89, 90, 91, 92] (by decide +kernel) (by decide +kernel)
set_option maxRecDepth 20000 in
theorem gX4_duchy_X4_faulted : GoodIn wsX4_duchy (wsV RX4 48 RX4 yX4_faulted wsX4_faulted) := goodIn_app (goodIn_of _ (by decide +kernel)) ggX4_duchy_X4_faulted
set_option maxRecDepth 20000 in
theorem ggX4_duchy_X3_firstFault : GoodIn wsX4_duchy wsX3_firstFault := goodIn_r _ [35, 36, 37, 38, 16, 39, 40, 41, 7, 42, 43, 44, 34, 45, 46, 47, 48, 49, 50, 51, 52, 53, 54, 93, 94, 95] (by decide +kernel) (by decide +kernel)
set_option maxRecDepth 20000 in
theorem gX4_duchy_X3_firstFault : GoodIn wsX4_duchy (va_wsS RX4 52 yX3_firstFault wsX3_firstFault) := goodIn_app (goodIn_of _ (by decide +kernel)) ggX4_duchy_X3_firstFault
set_option maxRecDepth 20000 in
theorem ggX4_duchy_X0_takeText : GoodIn wsX4_duchy wsX0_takeText := goodIn_r _ [59, 60, 61, 62, 63, 64, 65, 66, 67, 68, 69, 34, 70, 36, 37, 38, 16, 39, 40, 41, 7, 42, 71, 72, 73, 46, 47, 48, 74, 75, 76, 77, 53, 54, 96, 97, 98, 99, 100, 101, 102, 103, 93, 94, 95] (by decide +kernel) (by decide +kernel)
set_option maxRecDepth 20000 in
theorem gX4_duchy_X0_takeText : GoodIn wsX4_duchy (wsV RX4 58 RX0 yX0_takeText wsX0_takeText) := goodIn_app (goodIn_of _ (by decide +kernel)) ggX4_duchy_X0_takeText
set_option maxRecDepth 20000 in
theorem ggX4_duchy_X1_dropAll : GoodIn wsX4_duchy wsX1_dropAll := goodIn_r _ [82, 83, 104, 105, 106, 107, 108] (by decide +kernel) (by decide +kernel)
set_option maxRecDepth 20000 in
theorem gX4_duchy_X1_dropAll : GoodIn wsX4_duchy (wsV RX4 62 RX1 yX1_dropAll wsX1_dropAll) := goodIn_app (goodIn_of _ (by decide +kernel)) ggX4_duchy_X1_dropAll
set_option maxRecDepth 20000 in
theorem ggX4_duchy_X0_eaterCount : GoodIn wsX4_duchy wsX0_eaterCount := goodIn_r _ [87, 62, 96, 97, 98, 99, 100, 101, 102, 103] (by decide +kernel) (by decide +kernel)
set_option maxRecDepth 20000 in
theorem gX4_duchy_X0_eaterCount : GoodIn wsX4_duchy (wsV RX4 65 RX0 yX0_eaterCount wsX0_eaterCount) := goodIn_app (goodIn_of _ (by decide +kernel)) ggX4_duchy_X0_eaterCount
theorem dX4_duchy_0 : decode cX4_duchy 0 = .ok (.aload_n 0, 1) := by decide +kernel
theorem dX4_duchy_1 : decode cX4_duchy 1 = .ok (.iconst 0, 1) := by decide +kernel
theorem dX4_duchy_2 : decode cX4_duchy 2 = .ok (.putfield 32, 3) := by decide +kernel
theorem dX4_duchy_5 : decode cX4_duchy 5 = .ok (.aload_n 0, 1) := by decide +kernel
theorem dX4_duchy_6 : decode cX4_duchy 6 = .ok (.iload_n 1, 1) := by decide +kernel
theorem dX4_duchy_7 : decode cX4_duchy 7 = .ok (.invokevirtual 36, 3) := by decide +kernel
theorem dX4_duchy_10 : decode cX4_duchy 10 = .ok (.astore 5, 2) := by decide +kernel
theorem dX4_duchy_12 : decode cX4_duchy 12 = .ok (.aload 5, 2) := by decide +kernel
theorem dX4_duchy_14 : decode cX4_duchy 14 = .ok (.ifnonnull 5, 3) := by decide +kernel
theorem dX4_duchy_17 : decode cX4_duchy 17 = .ok (.iconst (-1), 1) := by decide +kernel
theorem dX4_duchy_18 : decode cX4_duchy 18 = .ok (.ireturn, 1) := by decide +kernel
theorem dX4_duchy_19 : decode cX4_duchy 19 = .ok (.iload_n 2, 1) := by decide +kernel
theorem dX4_duchy_20 : decode cX4_duchy 20 = .ok (.invokestatic 40, 3) := by decide +kernel
theorem dX4_duchy_23 : decode cX4_duchy 23 = .ok (.ifCond .ne 6, 3) := by decide +kernel
theorem dX4_duchy_26 : decode cX4_duchy 26 = .ok (.bipush (-2), 2) := by decide +kernel
theorem dX4_duchy_28 : decode cX4_duchy 28 = .ok (.ireturn, 1) := by decide +kernel
theorem dX4_duchy_29 : decode cX4_duchy 29 = .ok (.aload 5, 2) := by decide +kernel
theorem dX4_duchy_31 : decode cX4_duchy 31 = .ok (.iload_n 2, 1) := by decide +kernel
theorem dX4_duchy_32 : decode cX4_duchy 32 = .ok (.iload_n 3, 1) := by decide +kernel
theorem dX4_duchy_33 : decode cX4_duchy 33 = .ok (.iload 4, 2) := by decide +kernel
theorem dX4_duchy_35 : decode cX4_duchy 35 = .ok (.invokevirtual 44, 3) := by decide +kernel
theorem dX4_duchy_38 : decode cX4_duchy 38 = .ok (.istore 6, 2) := by decide +kernel
theorem dX4_duchy_40 : decode cX4_duchy 40 = .ok (.iload 6, 2) := by decide +kernel
theorem dX4_duchy_42 : decode cX4_duchy 42 = .ok (.ifCond .eq 10, 3) := by decide +kernel
theorem dX4_duchy_45 : decode cX4_duchy 45 = .ok (.aload_n 0, 1) := by decide +kernel
theorem dX4_duchy_46 : decode cX4_duchy 46 = .ok (.iload 6, 2) := by decide +kernel
theorem dX4_duchy_48 : decode cX4_duchy 48 = .ok (.invokevirtual 48, 3) := by decide +kernel
theorem dX4_duchy_51 : decode cX4_duchy 51 = .ok (.ireturn, 1) := by decide +kernel
theorem dX4_duchy_52 : decode cX4_duchy 52 = .ok (.aload 5, 2) := by decide +kernel
theorem dX4_duchy_54 : decode cX4_duchy 54 = .ok (.iload_n 3, 1) := by decide +kernel
theorem dX4_duchy_55 : decode cX4_duchy 55 = .ok (.iload 4, 2) := by decide +kernel
theorem dX4_duchy_57 : decode cX4_duchy 57 = .ok (.invokestatic 52, 3) := by decide +kernel
theorem dX4_duchy_60 : decode cX4_duchy 60 = .ok (.istore 7, 2) := by decide +kernel
theorem dX4_duchy_62 : decode cX4_duchy 62 = .ok (.iload 7, 2) := by decide +kernel
theorem dX4_duchy_64 : decode cX4_duchy 64 = .ok (.iconst (-1), 1) := by decide +kernel
theorem dX4_duchy_65 : decode cX4_duchy 65 = .ok (.if_icmp .eq 9, 3) := by decide +kernel
theorem dX4_duchy_68 : decode cX4_duchy 68 = .ok (.bipush (-100), 2) := by decide +kernel
theorem dX4_duchy_70 : decode cX4_duchy 70 = .ok (.iload 7, 2) := by decide +kernel
theorem dX4_duchy_72 : decode cX4_duchy 72 = .ok (.isub, 1) := by decide +kernel
theorem dX4_duchy_73 : decode cX4_duchy 73 = .ok (.ireturn, 1) := by decide +kernel
theorem dX4_duchy_74 : decode cX4_duchy 74 = .ok (.aload_n 0, 1) := by decide +kernel
theorem dX4_duchy_75 : decode cX4_duchy 75 = .ok (.getfield 12, 3) := by decide +kernel
theorem dX4_duchy_78 : decode cX4_duchy 78 = .ok (.aload 5, 2) := by decide +kernel
theorem dX4_duchy_80 : decode cX4_duchy 80 = .ok (.iload_n 3, 1) := by decide +kernel
theorem dX4_duchy_81 : decode cX4_duchy 81 = .ok (.iload 4, 2) := by decide +kernel
theorem dX4_duchy_83 : decode cX4_duchy 83 = .ok (.invokevirtual 58, 3) := by decide +kernel
theorem dX4_duchy_86 : decode cX4_duchy 86 = .ok (.aload_n 0, 1) := by decide +kernel
theorem dX4_duchy_87 : decode cX4_duchy 87 = .ok (.getfield 21, 3) := by decide +kernel
theorem dX4_duchy_90 : decode cX4_duchy 90 = .ok (.invokevirtual 62, 3) := by decide +kernel
theorem dX4_duchy_93 : decode cX4_duchy 93 = .ok (.aload_n 0, 1) := by decide +kernel
theorem dX4_duchy_94 : decode cX4_duchy 94 = .ok (.getfield 12, 3) := by decide +kernel
theorem dX4_duchy_97 : decode cX4_duchy 97 = .ok (.invokevirtual 65, 3) := by decide +kernel
theorem dX4_duchy_100 : decode cX4_duchy 100 = .ok (.ireturn, 1) := by decide +kernel
set_option maxRecDepth 20000 in
theorem ggX4_ofEater_X0_hasEater : GoodIn wsX4_ofEater wsX0_hasEater := goodIn_r _ [6, 7, 43, 44, 45, 46, 47, 48, 49, 50] (by decide +kernel) (by decide +kernel)
set_option maxRecDepth 20000 in
theorem gX4_ofEater_X0_hasEater : GoodIn wsX4_ofEater (wsV RX4 69 RX0 yX0_hasEater wsX0_hasEater) := goodIn_app (goodIn_of _ (by decide +kernel)) ggX4_ofEater_X0_hasEater
set_option maxRecDepth 20000 in
theorem ggX4_ofEater_X0_kindOf : GoodIn wsX4_ofEater wsX0_kindOf := goodIn_r _ [11, 12, 13, 14, 15, 43, 44, 45, 46, 47, 48, 49, 50] (by decide +kernel) (by decide +kernel)
set_option maxRecDepth 20000 in
theorem gX4_ofEater_X0_kindOf : GoodIn wsX4_ofEater (wsV RX4 72 RX0 yX0_kindOf wsX0_kindOf) := goodIn_app (goodIn_of _ (by decide +kernel)) ggX4_ofEater_X0_kindOf
set_option maxRecDepth 20000 in
theorem ggX4_ofEater_X0_stayOf : GoodIn wsX4_ofEater wsX0_stayOf := goodIn_r _ [19, 20, 13, 14, 15, 43, 44, 45, 46, 47, 48, 49, 50] (by decide +kernel) (by decide +kernel)
set_option maxRecDepth 20000 in
theorem gX4_ofEater_X0_stayOf : GoodIn wsX4_ofEater (wsV RX4 75 RX0 yX0_stayOf wsX0_stayOf) := goodIn_app (goodIn_of _ (by decide +kernel)) ggX4_ofEater_X0_stayOf
set_option maxRecDepth 20000 in
theorem ggX4_ofEater_X0_spoonsOf : GoodIn wsX4_ofEater wsX0_spoonsOf := goodIn_r _ [24, 25, 13, 14, 15, 43, 44, 45, 46, 47, 48, 49, 50] (by decide +kernel) (by decide +kernel)
set_option maxRecDepth 20000 in
theorem gX4_ofEater_X0_spoonsOf : GoodIn wsX4_ofEater (wsV RX4 78 RX0 yX0_spoonsOf wsX0_spoonsOf) := goodIn_app (goodIn_of _ (by decide +kernel)) ggX4_ofEater_X0_spoonsOf
set_option maxRecDepth 20000 in
theorem ggX4_ofEater_X0_needOf : GoodIn wsX4_ofEater wsX0_needOf := goodIn_r _ [29, 30, 13, 14, 15, 43, 44, 45, 46, 47, 48, 49, 50] (by decide +kernel) (by decide +kernel)
set_option maxRecDepth 20000 in
theorem gX4_ofEater_X0_needOf : GoodIn wsX4_ofEater (wsV RX4 81 RX0 yX0_needOf wsX0_needOf) := goodIn_app (goodIn_of _ (by decide +kernel)) ggX4_ofEater_X0_needOf
set_option maxRecDepth 20000 in
theorem ggX4_ofEater_X0_lastsOf : GoodIn wsX4_ofEater wsX0_lastsOf := goodIn_r _ [34, 12, 20, 13, 14, 15, 35, 36, 5, 37, 43, 44, 45, 46, 47, 48, 49, 50] (by decide +kernel) (by decide +kernel)
set_option maxRecDepth 20000 in
theorem gX4_ofEater_X0_lastsOf : GoodIn wsX4_ofEater (wsV RX4 84 RX0 yX0_lastsOf wsX0_lastsOf) := goodIn_app (goodIn_of _ (by decide +kernel)) ggX4_ofEater_X0_lastsOf
theorem dX4_ofEater_0 : decode cX4_ofEater 0 = .ok (.aload_n 0, 1) := by decide +kernel
theorem dX4_ofEater_1 : decode cX4_ofEater 1 = .ok (.getfield 12, 3) := by decide +kernel
theorem dX4_ofEater_4 : decode cX4_ofEater 4 = .ok (.iload_n 1, 1) := by decide +kernel
theorem dX4_ofEater_5 : decode cX4_ofEater 5 = .ok (.invokevirtual 69, 3) := by decide +kernel
theorem dX4_ofEater_8 : decode cX4_ofEater 8 = .ok (.ifCond .ne 5, 3) := by decide +kernel
theorem dX4_ofEater_11 : decode cX4_ofEater 11 = .ok (.iconst (-1), 1) := by decide +kernel
theorem dX4_ofEater_12 : decode cX4_ofEater 12 = .ok (.ireturn, 1) := by decide +kernel
theorem dX4_ofEater_13 : decode cX4_ofEater 13 = .ok (.iload_n 2, 1) := by decide +kernel
theorem dX4_ofEater_14 : decode cX4_ofEater 14 = .ok (.tableswitch 79 0 4 #[34, 43, 52, 61, 70], 34) := by decide +kernel
theorem dX4_ofEater_48 : decode cX4_ofEater 48 = .ok (.aload_n 0, 1) := by decide +kernel
theorem dX4_ofEater_49 : decode cX4_ofEater 49 = .ok (.getfield 12, 3) := by decide +kernel
theorem dX4_ofEater_52 : decode cX4_ofEater 52 = .ok (.iload_n 1, 1) := by decide +kernel
theorem dX4_ofEater_53 : decode cX4_ofEater 53 = .ok (.invokevirtual 72, 3) := by decide +kernel
theorem dX4_ofEater_56 : decode cX4_ofEater 56 = .ok (.ireturn, 1) := by decide +kernel
theorem dX4_ofEater_57 : decode cX4_ofEater 57 = .ok (.aload_n 0, 1) := by decide +kernel
theorem dX4_ofEater_58 : decode cX4_ofEater 58 = .ok (.getfield 12, 3) := by decide +kernel
theorem dX4_ofEater_61 : decode cX4_ofEater 61 = .ok (.iload_n 1, 1) := by decide +kernel
theorem dX4_ofEater_62 : decode cX4_ofEater 62 = .ok (.invokevirtual 75, 3) := by decide +kernel
theorem dX4_ofEater_65 : decode cX4_ofEater 65 = .ok (.ireturn, 1) := by decide +kernel
theorem dX4_ofEater_66 : decode cX4_ofEater 66 = .ok (.aload_n 0, 1) := by decide +kernel
theorem dX4_ofEater_67 : decode cX4_ofEater 67 = .ok (.getfield 12, 3) := by decide +kernel
theorem dX4_ofEater_70 : decode cX4_ofEater 70 = .ok (.iload_n 1, 1) := by decide +kernel
theorem dX4_ofEater_71 : decode cX4_ofEater 71 = .ok (.invokevirtual 78, 3) := by decide +kernel
theorem dX4_ofEater_74 : decode cX4_ofEater 74 = .ok (.ireturn, 1) := by decide +kernel
theorem dX4_ofEater_75 : decode cX4_ofEater 75 = .ok (.aload_n 0, 1) := by decide +kernel
theorem dX4_ofEater_76 : decode cX4_ofEater 76 = .ok (.getfield 12, 3) := by decide +kernel
theorem dX4_ofEater_79 : decode cX4_ofEater 79 = .ok (.iload_n 1, 1) := by decide +kernel
theorem dX4_ofEater_80 : decode cX4_ofEater 80 = .ok (.invokevirtual 81, 3) := by decide +kernel
theorem dX4_ofEater_83 : decode cX4_ofEater 83 = .ok (.ireturn, 1) := by decide +kernel
theorem dX4_ofEater_84 : decode cX4_ofEater 84 = .ok (.aload_n 0, 1) := by decide +kernel
theorem dX4_ofEater_85 : decode cX4_ofEater 85 = .ok (.getfield 12, 3) := by decide +kernel
theorem dX4_ofEater_88 : decode cX4_ofEater 88 = .ok (.iload_n 1, 1) := by decide +kernel
theorem dX4_ofEater_89 : decode cX4_ofEater 89 = .ok (.invokevirtual 84, 3) := by decide +kernel
theorem dX4_ofEater_92 : decode cX4_ofEater 92 = .ok (.ireturn, 1) := by decide +kernel
theorem dX4_ofEater_93 : decode cX4_ofEater 93 = .ok (.bipush (-2), 2) := by decide +kernel
theorem dX4_ofEater_95 : decode cX4_ofEater 95 = .ok (.ireturn, 1) := by decide +kernel
set_option maxRecDepth 20000 in
theorem ggX4_look_X0_hasDay : GoodIn wsX4_look wsX0_hasDay := goodIn_r _ [6, 7, 21, 22, 23, 24, 25, 26, 27, 28] (by decide +kernel) (by decide +kernel)
set_option maxRecDepth 20000 in
theorem gX4_look_X0_hasDay : GoodIn wsX4_look (wsV RX4 87 RX0 yX0_hasDay wsX0_hasDay) := goodIn_app (goodIn_of _ (by decide +kernel)) ggX4_look_X0_hasDay
set_option maxRecDepth 20000 in
theorem ggX4_look_X0_lookOf : GoodIn wsX4_look wsX0_lookOf := goodIn_r _ [11, 12, 13, 14, 15, 21, 22, 23, 24, 25, 26, 27, 28] (by decide +kernel) (by decide +kernel)
set_option maxRecDepth 20000 in
theorem gX4_look_X0_lookOf : GoodIn wsX4_look (wsV RX4 90 RX0 yX0_lookOf wsX0_lookOf) := goodIn_app (goodIn_of _ (by decide +kernel)) ggX4_look_X0_lookOf
theorem dX4_look_0 : decode cX4_look 0 = .ok (.aload_n 0, 1) := by decide +kernel
theorem dX4_look_1 : decode cX4_look 1 = .ok (.getfield 12, 3) := by decide +kernel
theorem dX4_look_4 : decode cX4_look 4 = .ok (.iload_n 1, 1) := by decide +kernel
theorem dX4_look_5 : decode cX4_look 5 = .ok (.invokevirtual 87, 3) := by decide +kernel
theorem dX4_look_8 : decode cX4_look 8 = .ok (.ifCond .eq 14, 3) := by decide +kernel
theorem dX4_look_11 : decode cX4_look 11 = .ok (.aload_n 0, 1) := by decide +kernel
theorem dX4_look_12 : decode cX4_look 12 = .ok (.getfield 12, 3) := by decide +kernel
theorem dX4_look_15 : decode cX4_look 15 = .ok (.iload_n 1, 1) := by decide +kernel
theorem dX4_look_16 : decode cX4_look 16 = .ok (.invokevirtual 90, 3) := by decide +kernel
theorem dX4_look_19 : decode cX4_look 19 = .ok (.goto 4, 3) := by decide +kernel
theorem dX4_look_22 : decode cX4_look 22 = .ok (.iconst (-1), 1) := by decide +kernel
theorem dX4_look_23 : decode cX4_look 23 = .ok (.ireturn, 1) := by decide +kernel
set_option maxRecDepth 20000 in
theorem ggX4_pull_X0_hasDay : GoodIn wsX4_pull wsX0_hasDay := goodIn_r _ [6, 7, 30, 31, 32, 33, 34, 35, 36, 37] (by decide +kernel) (by decide +kernel)
set_option maxRecDepth 20000 in
theorem gX4_pull_X0_hasDay : GoodIn wsX4_pull (wsV RX4 87 RX0 yX0_hasDay wsX0_hasDay) := goodIn_app (goodIn_of _ (by decide +kernel)) ggX4_pull_X0_hasDay
set_option maxRecDepth 20000 in
theorem ggX4_pull_X4_isFrom0To : GoodIn wsX4_pull wsX4_isFrom0To := goodIn_r _ [11] (by decide +kernel) (by decide +kernel)
set_option maxRecDepth 20000 in
theorem gX4_pull_X4_isFrom0To : GoodIn wsX4_pull (va_wsS RX4 93 yX4_isFrom0To wsX4_isFrom0To) := goodIn_app (goodIn_of _ (by decide +kernel)) ggX4_pull_X4_isFrom0To
set_option maxRecDepth 20000 in
theorem ggX4_pull_X0_lookOf : GoodIn wsX4_pull wsX0_lookOf := goodIn_r _ [15, 16, 17, 10, 18, 30, 31, 32, 33, 34, 35, 36, 37] (by decide +kernel) (by decide +kernel)
set_option maxRecDepth 20000 in
theorem gX4_pull_X0_lookOf : GoodIn wsX4_pull (wsV RX4 90 RX0 yX0_lookOf wsX0_lookOf) := goodIn_app (goodIn_of _ (by decide +kernel)) ggX4_pull_X0_lookOf
set_option maxRecDepth 20000 in
theorem ggX4_pull_X0_changeLook : GoodIn wsX4_pull wsX0_changeLook := goodIn_r _ [22, 16, 23, 10, 24, 30, 31, 32, 33, 34, 35, 36, 37] (by decide +kernel) (by decide +kernel)
set_option maxRecDepth 20000 in
theorem gX4_pull_X0_changeLook : GoodIn wsX4_pull (wsV RX4 97 RX0 yX0_changeLook wsX0_changeLook) := goodIn_app (goodIn_of _ (by decide +kernel)) ggX4_pull_X0_changeLook
theorem dX4_pull_0 : decode cX4_pull 0 = .ok (.aload_n 0, 1) := by decide +kernel
theorem dX4_pull_1 : decode cX4_pull 1 = .ok (.getfield 12, 3) := by decide +kernel
theorem dX4_pull_4 : decode cX4_pull 4 = .ok (.iload_n 1, 1) := by decide +kernel
theorem dX4_pull_5 : decode cX4_pull 5 = .ok (.invokevirtual 87, 3) := by decide +kernel
theorem dX4_pull_8 : decode cX4_pull 8 = .ok (.ifCond .ne 5, 3) := by decide +kernel
theorem dX4_pull_11 : decode cX4_pull 11 = .ok (.iconst (-1), 1) := by decide +kernel
theorem dX4_pull_12 : decode cX4_pull 12 = .ok (.ireturn, 1) := by decide +kernel
theorem dX4_pull_13 : decode cX4_pull 13 = .ok (.iload_n 2, 1) := by decide +kernel
theorem dX4_pull_14 : decode cX4_pull 14 = .ok (.bipush 9, 2) := by decide +kernel
theorem dX4_pull_16 : decode cX4_pull 16 = .ok (.invokestatic 93, 3) := by decide +kernel
theorem dX4_pull_19 : decode cX4_pull 19 = .ok (.ifCond .ne 6, 3) := by decide +kernel
theorem dX4_pull_22 : decode cX4_pull 22 = .ok (.bipush (-2), 2) := by decide +kernel
theorem dX4_pull_24 : decode cX4_pull 24 = .ok (.ireturn, 1) := by decide +kernel
theorem dX4_pull_25 : decode cX4_pull 25 = .ok (.aload_n 0, 1) := by decide +kernel
theorem dX4_pull_26 : decode cX4_pull 26 = .ok (.getfield 12, 3) := by decide +kernel
theorem dX4_pull_29 : decode cX4_pull 29 = .ok (.iload_n 1, 1) := by decide +kernel
theorem dX4_pull_30 : decode cX4_pull 30 = .ok (.invokevirtual 90, 3) := by decide +kernel
theorem dX4_pull_33 : decode cX4_pull 33 = .ok (.istore_n 3, 1) := by decide +kernel
theorem dX4_pull_34 : decode cX4_pull 34 = .ok (.aload_n 0, 1) := by decide +kernel
theorem dX4_pull_35 : decode cX4_pull 35 = .ok (.getfield 12, 3) := by decide +kernel
theorem dX4_pull_38 : decode cX4_pull 38 = .ok (.iload_n 1, 1) := by decide +kernel
theorem dX4_pull_39 : decode cX4_pull 39 = .ok (.iload_n 2, 1) := by decide +kernel
theorem dX4_pull_40 : decode cX4_pull 40 = .ok (.invokevirtual 97, 3) := by decide +kernel
theorem dX4_pull_43 : decode cX4_pull 43 = .ok (.iload_n 3, 1) := by decide +kernel
theorem dX4_pull_44 : decode cX4_pull 44 = .ok (.ireturn, 1) := by decide +kernel
set_option maxRecDepth 20000 in
theorem ggX4_sour_X4_isFrom0To : GoodIn wsX4_sour wsX4_isFrom0To := goodIn_r _ [5] (by decide +kernel) (by decide +kernel)
set_option maxRecDepth 20000 in
theorem gX4_sour_X4_isFrom0To : GoodIn wsX4_sour (va_wsS RX4 93 yX4_isFrom0To wsX4_isFrom0To) := goodIn_app (goodIn_of _ (by decide +kernel)) ggX4_sour_X4_isFrom0To
set_option maxRecDepth 20000 in
theorem ggX4_sour_X0_isTold : GoodIn wsX4_sour wsX0_isTold := goodIn_r _ [10, 11, 26, 27, 28, 29, 30, 31, 32, 33] (by decide +kernel) (by decide +kernel)
set_option maxRecDepth 20000 in
theorem gX4_sour_X0_isTold : GoodIn wsX4_sour (wsV RX4 101 RX0 yX0_isTold wsX0_isTold) := goodIn_app (goodIn_of _ (by decide +kernel)) ggX4_sour_X0_isTold
set_option maxRecDepth 20000 in
theorem ggX4_sour_X0_sourLook : GoodIn wsX4_sour wsX0_sourLook := goodIn_r _ [15, 16, 26, 27, 28, 29, 30, 31, 32, 33] (by decide +kernel) (by decide +kernel)
set_option maxRecDepth 20000 in
theorem gX4_sour_X0_sourLook : GoodIn wsX4_sour (wsV RX4 105 RX0 yX0_sourLook wsX0_sourLook) := goodIn_app (goodIn_of _ (by decide +kernel)) ggX4_sour_X0_sourLook
set_option maxRecDepth 20000 in
theorem ggX4_sour_X0_changeSour : GoodIn wsX4_sour wsX0_changeSour := goodIn_r _ [20, 16, 26, 27, 28, 29, 30, 31, 32, 33] (by decide +kernel) (by decide +kernel)
set_option maxRecDepth 20000 in
theorem gX4_sour_X0_changeSour : GoodIn wsX4_sour (wsV RX4 108 RX0 yX0_changeSour wsX0_changeSour) := goodIn_app (goodIn_of _ (by decide +kernel)) ggX4_sour_X0_changeSour
theorem dX4_sour_0 : decode cX4_sour 0 = .ok (.iload_n 1, 1) := by decide +kernel
theorem dX4_sour_1 : decode cX4_sour 1 = .ok (.bipush 9, 2) := by decide +kernel
theorem dX4_sour_3 : decode cX4_sour 3 = .ok (.invokestatic 93, 3) := by decide +kernel
theorem dX4_sour_6 : decode cX4_sour 6 = .ok (.ifCond .ne 6, 3) := by decide +kernel
theorem dX4_sour_9 : decode cX4_sour 9 = .ok (.bipush (-2), 2) := by decide +kernel
theorem dX4_sour_11 : decode cX4_sour 11 = .ok (.ireturn, 1) := by decide +kernel
theorem dX4_sour_12 : decode cX4_sour 12 = .ok (.aload_n 0, 1) := by decide +kernel
theorem dX4_sour_13 : decode cX4_sour 13 = .ok (.getfield 12, 3) := by decide +kernel
theorem dX4_sour_16 : decode cX4_sour 16 = .ok (.invokevirtual 101, 3) := by decide +kernel
theorem dX4_sour_19 : decode cX4_sour 19 = .ok (.ifCond .ne 6, 3) := by decide +kernel
theorem dX4_sour_22 : decode cX4_sour 22 = .ok (.bipush (-3), 2) := by decide +kernel
theorem dX4_sour_24 : decode cX4_sour 24 = .ok (.ireturn, 1) := by decide +kernel
theorem dX4_sour_25 : decode cX4_sour 25 = .ok (.aload_n 0, 1) := by decide +kernel
theorem dX4_sour_26 : decode cX4_sour 26 = .ok (.getfield 12, 3) := by decide +kernel
theorem dX4_sour_29 : decode cX4_sour 29 = .ok (.invokevirtual 105, 3) := by decide +kernel
theorem dX4_sour_32 : decode cX4_sour 32 = .ok (.istore_n 2, 1) := by decide +kernel
theorem dX4_sour_33 : decode cX4_sour 33 = .ok (.aload_n 0, 1) := by decide +kernel
theorem dX4_sour_34 : decode cX4_sour 34 = .ok (.getfield 12, 3) := by decide +kernel
theorem dX4_sour_37 : decode cX4_sour 37 = .ok (.iload_n 1, 1) := by decide +kernel
theorem dX4_sour_38 : decode cX4_sour 38 = .ok (.invokevirtual 108, 3) := by decide +kernel
theorem dX4_sour_41 : decode cX4_sour 41 = .ok (.iload_n 2, 1) := by decide +kernel
theorem dX4_sour_42 : decode cX4_sour 42 = .ok (.ireturn, 1) := by decide +kernel
set_option maxRecDepth 20000 in
theorem ggX4_crave_X0_hasEater : GoodIn wsX4_crave wsX0_hasEater := goodIn_r _ [6, 7, 30, 31, 32, 33, 34, 35, 36, 37] (by decide +kernel) (by decide +kernel)
set_option maxRecDepth 20000 in
theorem gX4_crave_X0_hasEater : GoodIn wsX4_crave (wsV RX4 69 RX0 yX0_hasEater wsX0_hasEater) := goodIn_app (goodIn_of _ (by decide +kernel)) ggX4_crave_X0_hasEater
set_option maxRecDepth 20000 in
theorem ggX4_crave_X4_isFrom0To : GoodIn wsX4_crave wsX4_isFrom0To := goodIn_r _ [11] (by decide +kernel) (by decide +kernel)
set_option maxRecDepth 20000 in
theorem gX4_crave_X4_isFrom0To : GoodIn wsX4_crave (va_wsS RX4 93 yX4_isFrom0To wsX4_isFrom0To) := goodIn_app (goodIn_of _ (by decide +kernel)) ggX4_crave_X4_isFrom0To
set_option maxRecDepth 20000 in
theorem ggX4_crave_X0_needOf : GoodIn wsX4_crave wsX0_needOf := goodIn_r _ [15, 16, 17, 10, 18, 30, 31, 32, 33, 34, 35, 36, 37] (by decide +kernel) (by decide +kernel)
set_option maxRecDepth 20000 in
theorem gX4_crave_X0_needOf : GoodIn wsX4_crave (wsV RX4 81 RX0 yX0_needOf wsX0_needOf) := goodIn_app (goodIn_of _ (by decide +kernel)) ggX4_crave_X0_needOf
set_option maxRecDepth 20000 in
theorem ggX4_crave_X0_changeNeed : GoodIn wsX4_crave wsX0_changeNeed := goodIn_r _ [22, 16, 23, 10, 24, 30, 31, 32, 33, 34, 35, 36, 37] (by decide +kernel) (by decide +kernel)
set_option maxRecDepth 20000 in
theorem gX4_crave_X0_changeNeed : GoodIn wsX4_crave (wsV RX4 112 RX0 yX0_changeNeed wsX0_changeNeed) := goodIn_app (goodIn_of _ (by decide +kernel)) ggX4_crave_X0_changeNeed
theorem dX4_crave_0 : decode cX4_crave 0 = .ok (.aload_n 0, 1) := by decide +kernel
theorem dX4_crave_1 : decode cX4_crave 1 = .ok (.getfield 12, 3) := by decide +kernel
theorem dX4_crave_4 : decode cX4_crave 4 = .ok (.iload_n 1, 1) := by decide +kernel
theorem dX4_crave_5 : decode cX4_crave 5 = .ok (.invokevirtual 69, 3) := by decide +kernel
theorem dX4_crave_8 : decode cX4_crave 8 = .ok (.ifCond .ne 5, 3) := by decide +kernel
theorem dX4_crave_11 : decode cX4_crave 11 = .ok (.iconst (-1), 1) := by decide +kernel
theorem dX4_crave_12 : decode cX4_crave 12 = .ok (.ireturn, 1) := by decide +kernel
theorem dX4_crave_13 : decode cX4_crave 13 = .ok (.iload_n 2, 1) := by decide +kernel
theorem dX4_crave_14 : decode cX4_crave 14 = .ok (.bipush 6, 2) := by decide +kernel
theorem dX4_crave_16 : decode cX4_crave 16 = .ok (.invokestatic 93, 3) := by decide +kernel
theorem dX4_crave_19 : decode cX4_crave 19 = .ok (.ifCond .ne 6, 3) := by decide +kernel
theorem dX4_crave_22 : decode cX4_crave 22 = .ok (.bipush (-2), 2) := by decide +kernel
theorem dX4_crave_24 : decode cX4_crave 24 = .ok (.ireturn, 1) := by decide +kernel
theorem dX4_crave_25 : decode cX4_crave 25 = .ok (.aload_n 0, 1) := by decide +kernel
theorem dX4_crave_26 : decode cX4_crave 26 = .ok (.getfield 12, 3) := by decide +kernel
theorem dX4_crave_29 : decode cX4_crave 29 = .ok (.iload_n 1, 1) := by decide +kernel
theorem dX4_crave_30 : decode cX4_crave 30 = .ok (.invokevirtual 81, 3) := by decide +kernel
theorem dX4_crave_33 : decode cX4_crave 33 = .ok (.istore_n 3, 1) := by decide +kernel
theorem dX4_crave_34 : decode cX4_crave 34 = .ok (.aload_n 0, 1) := by decide +kernel
theorem dX4_crave_35 : decode cX4_crave 35 = .ok (.getfield 12, 3) := by decide +kernel
theorem dX4_crave_38 : decode cX4_crave 38 = .ok (.iload_n 1, 1) := by decide +kernel
theorem dX4_crave_39 : decode cX4_crave 39 = .ok (.iload_n 2, 1) := by decide +kernel
theorem dX4_crave_40 : decode cX4_crave 40 = .ok (.invokevirtual 112, 3) := by decide +kernel
theorem dX4_crave_43 : decode cX4_crave 43 = .ok (.iload_n 3, 1) := by decide +kernel
theorem dX4_crave_44 : decode cX4_crave 44 = .ok (.ireturn, 1) := by decide +kernel
set_option maxRecDepth 20000 in
theorem ggX4_fasts_X0_isTold : GoodIn wsX4_fasts wsX0_isTold := goodIn_r _ [6, 7, 23, 24, 25, 26, 27, 28, 29, 30] (by decide +kernel) (by decide +kernel)
set_option maxRecDepth 20000 in
theorem gX4_fasts_X0_isTold : GoodIn wsX4_fasts (wsV RX4 101 RX0 yX0_isTold wsX0_isTold) := goodIn_app (goodIn_of _ (by decide +kernel)) ggX4_fasts_X0_isTold
set_option maxRecDepth 20000 in
theorem ggX4_fasts_X0_fastDays : GoodIn wsX4_fasts wsX0_fastDays := goodIn_r _ [11, 12, 13, 14, 15, 16, 17, 23, 24, 25, 26, 27, 28, 29, 30] (by decide +kernel) (by decide +kernel)
set_option maxRecDepth 20000 in
theorem gX4_fasts_X0_fastDays : GoodIn wsX4_fasts (wsV RX4 115 RX0 yX0_fastDays wsX0_fastDays) := goodIn_app (goodIn_of _ (by decide +kernel)) ggX4_fasts_X0_fastDays
theorem dX4_fasts_0 : decode cX4_fasts 0 = .ok (.aload_n 0, 1) := by decide +kernel
theorem dX4_fasts_1 : decode cX4_fasts 1 = .ok (.getfield 12, 3) := by decide +kernel
theorem dX4_fasts_4 : decode cX4_fasts 4 = .ok (.invokevirtual 101, 3) := by decide +kernel
theorem dX4_fasts_7 : decode cX4_fasts 7 = .ok (.ifCond .eq 13, 3) := by decide +kernel
theorem dX4_fasts_10 : decode cX4_fasts 10 = .ok (.aload_n 0, 1) := by decide +kernel
theorem dX4_fasts_11 : decode cX4_fasts 11 = .ok (.getfield 12, 3) := by decide +kernel
theorem dX4_fasts_14 : decode cX4_fasts 14 = .ok (.invokevirtual 115, 3) := by decide +kernel
theorem dX4_fasts_17 : decode cX4_fasts 17 = .ok (.goto 5, 3) := by decide +kernel
theorem dX4_fasts_20 : decode cX4_fasts 20 = .ok (.bipush (-3), 2) := by decide +kernel
theorem dX4_fasts_22 : decode cX4_fasts 22 = .ok (.ireturn, 1) := by decide +kernel
set_option maxRecDepth 20000 in
theorem ggX4_yellow_X0_hasEater : GoodIn wsX4_yellow wsX0_hasEater := goodIn_r _ [6, 7, 38, 39, 40, 41, 42, 43, 44, 45] (by decide +kernel) (by decide +kernel)
set_option maxRecDepth 20000 in
theorem gX4_yellow_X0_hasEater : GoodIn wsX4_yellow (wsV RX4 69 RX0 yX0_hasEater wsX0_hasEater) := goodIn_app (goodIn_of _ (by decide +kernel)) ggX4_yellow_X0_hasEater
set_option maxRecDepth 20000 in
theorem ggX4_yellow_X0_hasDays : GoodIn wsX4_yellow wsX0_hasDays := goodIn_r _ [11, 12, 13, 14, 5, 15, 16, 38, 39, 40, 41, 42, 43, 44, 45] (by decide +kernel) (by decide +kernel)
set_option maxRecDepth 20000 in
theorem gX4_yellow_X0_hasDays : GoodIn wsX4_yellow (wsV RX4 118 RX0 yX0_hasDays wsX0_hasDays) := goodIn_app (goodIn_of _ (by decide +kernel)) ggX4_yellow_X0_hasDays
set_option maxRecDepth 20000 in
theorem ggX4_yellow_X0_lastsOf : GoodIn wsX4_yellow wsX0_lastsOf := goodIn_r _ [20, 21, 22, 23, 24, 25, 26, 27, 5, 28, 38, 39, 40, 41, 42, 43, 44, 45] (by decide +kernel) (by decide +kernel)
set_option maxRecDepth 20000 in
theorem gX4_yellow_X0_lastsOf : GoodIn wsX4_yellow (wsV RX4 84 RX0 yX0_lastsOf wsX0_lastsOf) := goodIn_app (goodIn_of _ (by decide +kernel)) ggX4_yellow_X0_lastsOf
set_option maxRecDepth 20000 in
theorem ggX4_yellow_X0_yellowDays : GoodIn wsX4_yellow wsX0_yellowDays := goodIn_r _ [32, 12, 13, 14, 5, 15, 16, 38, 39, 40, 41, 42, 43, 44, 45] (by decide +kernel) (by decide +kernel)
set_option maxRecDepth 20000 in
theorem gX4_yellow_X0_yellowDays : GoodIn wsX4_yellow (wsV RX4 121 RX0 yX0_yellowDays wsX0_yellowDays) := goodIn_app (goodIn_of _ (by decide +kernel)) ggX4_yellow_X0_yellowDays
theorem dX4_yellow_0 : decode cX4_yellow 0 = .ok (.aload_n 0, 1) := by decide +kernel
theorem dX4_yellow_1 : decode cX4_yellow 1 = .ok (.getfield 12, 3) := by decide +kernel
theorem dX4_yellow_4 : decode cX4_yellow 4 = .ok (.iload_n 1, 1) := by decide +kernel
theorem dX4_yellow_5 : decode cX4_yellow 5 = .ok (.invokevirtual 69, 3) := by decide +kernel
theorem dX4_yellow_8 : decode cX4_yellow 8 = .ok (.ifCond .ne 5, 3) := by decide +kernel
theorem dX4_yellow_11 : decode cX4_yellow 11 = .ok (.iconst (-1), 1) := by decide +kernel
theorem dX4_yellow_12 : decode cX4_yellow 12 = .ok (.ireturn, 1) := by decide +kernel
theorem dX4_yellow_13 : decode cX4_yellow 13 = .ok (.aload_n 0, 1) := by decide +kernel
theorem dX4_yellow_14 : decode cX4_yellow 14 = .ok (.getfield 12, 3) := by decide +kernel
theorem dX4_yellow_17 : decode cX4_yellow 17 = .ok (.iload_n 2, 1) := by decide +kernel
theorem dX4_yellow_18 : decode cX4_yellow 18 = .ok (.invokevirtual 118, 3) := by decide +kernel
theorem dX4_yellow_21 : decode cX4_yellow 21 = .ok (.ifCond .ne 6, 3) := by decide +kernel
theorem dX4_yellow_24 : decode cX4_yellow 24 = .ok (.bipush (-2), 2) := by decide +kernel
theorem dX4_yellow_26 : decode cX4_yellow 26 = .ok (.ireturn, 1) := by decide +kernel
theorem dX4_yellow_27 : decode cX4_yellow 27 = .ok (.aload_n 0, 1) := by decide +kernel
theorem dX4_yellow_28 : decode cX4_yellow 28 = .ok (.getfield 12, 3) := by decide +kernel
theorem dX4_yellow_31 : decode cX4_yellow 31 = .ok (.aload_n 0, 1) := by decide +kernel
theorem dX4_yellow_32 : decode cX4_yellow 32 = .ok (.getfield 12, 3) := by decide +kernel
theorem dX4_yellow_35 : decode cX4_yellow 35 = .ok (.iload_n 1, 1) := by decide +kernel
theorem dX4_yellow_36 : decode cX4_yellow 36 = .ok (.invokevirtual 84, 3) := by decide +kernel
theorem dX4_yellow_39 : decode cX4_yellow 39 = .ok (.iload_n 2, 1) := by decide +kernel
theorem dX4_yellow_40 : decode cX4_yellow 40 = .ok (.invokevirtual 121, 3) := by decide +kernel
theorem dX4_yellow_43 : decode cX4_yellow 43 = .ok (.ireturn, 1) := by decide +kernel
set_option maxRecDepth 20000 in
theorem ggX4_found_X0_hasEater : GoodIn wsX4_found wsX0_hasEater := goodIn_r _ [6, 7, 68, 69, 70, 71, 72, 73, 74, 75] (by decide +kernel) (by decide +kernel)
set_option maxRecDepth 20000 in
theorem gX4_found_X0_hasEater : GoodIn wsX4_found (wsV RX4 69 RX0 yX0_hasEater wsX0_hasEater) := goodIn_app (goodIn_of _ (by decide +kernel)) ggX4_found_X0_hasEater
set_option maxRecDepth 20000 in
theorem ggX4_found_X0_hasDays : GoodIn wsX4_found wsX0_hasDays := goodIn_r _ [11, 12, 13, 14, 5, 15, 16, 68, 69, 70, 71, 72, 73, 74, 75] (by decide +kernel) (by decide +kernel)
set_option maxRecDepth 20000 in
theorem gX4_found_X0_hasDays : GoodIn wsX4_found (wsV RX4 118 RX0 yX0_hasDays wsX0_hasDays) := goodIn_app (goodIn_of _ (by decide +kernel)) ggX4_found_X0_hasDays
set_option maxRecDepth 20000 in
theorem ggX4_found_X4_isFrom0To : GoodIn wsX4_found wsX4_isFrom0To := goodIn_r _ [20] (by decide +kernel) (by decide +kernel)
set_option maxRecDepth 20000 in
theorem gX4_found_X4_isFrom0To : GoodIn wsX4_found (va_wsS RX4 93 yX4_isFrom0To wsX4_isFrom0To) := goodIn_app (goodIn_of _ (by decide +kernel)) ggX4_found_X4_isFrom0To
set_option maxRecDepth 20000 in
theorem ggX4_found_X0_foundDays : GoodIn wsX4_found wsX0_foundDays := goodIn_r _ [24, 25, 26, 27, 5, 28, 29, 30, 31, 19, 32, 33, 34, 35, 36, 37, 38, 39, 12, 13, 14, 15, 16, 40, 41, 42, 43, 44, 45, 68, 69, 70, 71, 72, 73, 74, 75] (by decide +kernel) (by decide +kernel)
set_option maxRecDepth 20000 in
theorem gX4_found_X0_foundDays : GoodIn wsX4_found (wsV RX4 125 RX0 yX0_foundDays wsX0_foundDays) := goodIn_app (goodIn_of _ (by decide +kernel)) ggX4_found_X0_foundDays
set_option maxRecDepth 20000 in
theorem ggX4_found_X0_fineOf : GoodIn wsX4_found wsX0_fineOf := goodIn_r _ [49, 50, 22, 23, 5, 24, 25, 26, 27, 28, 29, 30, 31, 19, 32, 33, 34, 35, 36, 37, 38, 39, 12, 13, 14, 15, 16, 40, 41, 42, 43, 44, 45, 51, 52, 53, 54, 55, 56, 57, 58, 59, 60, 61, 62, 68, 69, 70, 71, 72, 73, 74, 75] (by decide +kernel) (by decide +kernel)
set_option maxRecDepth 20000 in
theorem gX4_found_X0_fineOf : GoodIn wsX4_found (wsV RX4 128 RX0 yX0_fineOf wsX0_fineOf) := goodIn_app (goodIn_of _ (by decide +kernel)) ggX4_found_X0_fineOf
theorem dX4_found_0 : decode cX4_found 0 = .ok (.aload_n 0, 1) := by decide +kernel
theorem dX4_found_1 : decode cX4_found 1 = .ok (.getfield 12, 3) := by decide +kernel
theorem dX4_found_4 : decode cX4_found 4 = .ok (.iload_n 1, 1) := by decide +kernel
theorem dX4_found_5 : decode cX4_found 5 = .ok (.invokevirtual 69, 3) := by decide +kernel
theorem dX4_found_8 : decode cX4_found 8 = .ok (.ifCond .ne 5, 3) := by decide +kernel
theorem dX4_found_11 : decode cX4_found 11 = .ok (.iconst (-1), 1) := by decide +kernel
theorem dX4_found_12 : decode cX4_found 12 = .ok (.ireturn, 1) := by decide +kernel
theorem dX4_found_13 : decode cX4_found 13 = .ok (.aload_n 0, 1) := by decide +kernel
theorem dX4_found_14 : decode cX4_found 14 = .ok (.getfield 12, 3) := by decide +kernel
theorem dX4_found_17 : decode cX4_found 17 = .ok (.iload_n 2, 1) := by decide +kernel
theorem dX4_found_18 : decode cX4_found 18 = .ok (.invokevirtual 118, 3) := by decide +kernel
theorem dX4_found_21 : decode cX4_found 21 = .ok (.ifCond .eq 11, 3) := by decide +kernel
theorem dX4_found_24 : decode cX4_found 24 = .ok (.iload_n 3, 1) := by decide +kernel
theorem dX4_found_25 : decode cX4_found 25 = .ok (.iconst 1, 1) := by decide +kernel
theorem dX4_found_26 : decode cX4_found 26 = .ok (.invokestatic 93, 3) := by decide +kernel
theorem dX4_found_29 : decode cX4_found 29 = .ok (.ifCond .ne 6, 3) := by decide +kernel
theorem dX4_found_32 : decode cX4_found 32 = .ok (.bipush (-2), 2) := by decide +kernel
theorem dX4_found_34 : decode cX4_found 34 = .ok (.ireturn, 1) := by decide +kernel
theorem dX4_found_35 : decode cX4_found 35 = .ok (.iload_n 3, 1) := by decide +kernel
theorem dX4_found_36 : decode cX4_found 36 = .ok (.ifCond .ne 15, 3) := by decide +kernel
theorem dX4_found_39 : decode cX4_found 39 = .ok (.aload_n 0, 1) := by decide +kernel
theorem dX4_found_40 : decode cX4_found 40 = .ok (.getfield 12, 3) := by decide +kernel
theorem dX4_found_43 : decode cX4_found 43 = .ok (.iload_n 1, 1) := by decide +kernel
theorem dX4_found_44 : decode cX4_found 44 = .ok (.iload_n 2, 1) := by decide +kernel
theorem dX4_found_45 : decode cX4_found 45 = .ok (.invokevirtual 125, 3) := by decide +kernel
theorem dX4_found_48 : decode cX4_found 48 = .ok (.goto 12, 3) := by decide +kernel
theorem dX4_found_51 : decode cX4_found 51 = .ok (.aload_n 0, 1) := by decide +kernel
theorem dX4_found_52 : decode cX4_found 52 = .ok (.getfield 12, 3) := by decide +kernel
theorem dX4_found_55 : decode cX4_found 55 = .ok (.iload_n 1, 1) := by decide +kernel
theorem dX4_found_56 : decode cX4_found 56 = .ok (.iload_n 2, 1) := by decide +kernel
theorem dX4_found_57 : decode cX4_found 57 = .ok (.invokevirtual 128, 3) := by decide +kernel
theorem dX4_found_60 : decode cX4_found 60 = .ok (.ireturn, 1) := by decide +kernel
set_option maxRecDepth 20000 in
theorem ggX4_plan_X4_sheetAt : GoodIn wsX4_plan wsX4_sheetAt := goodIn_r _ [7, 8, 135, 136, 137, 138, 139] (by decide +kernel) (by decide +kernel)
set_option maxRecDepth 20000 in
theorem gX4_plan_X4_sheetAt : GoodIn wsX4_plan (wsV RX4 36 RX4 yX4_sheetAt wsX4_sheetAt) := goodIn_app (goodIn_of _ (by decide +kernel)) ggX4_plan_X4_sheetAt
set_option maxRecDepth 20000 in
theorem ggX4_plan_X4_isLane : GoodIn wsX4_plan wsX4_isLane := goodIn_r _ [11] (by decide +kernel) (by decide +kernel)
set_option maxRecDepth 20000 in
theorem gX4_plan_X4_isLane : GoodIn wsX4_plan (va_wsS RX4 40 yX4_isLane wsX4_isLane) := goodIn_app (goodIn_of _ (by decide +kernel)) ggX4_plan_X4_isLane
set_option maxRecDepth 20000 in
theorem ggX4_plan_X4_isAskedOfPlans : GoodIn wsX4_plan wsX4_isAskedOfPlans := goodIn_r _ [14, 15, 16, 6, 17] (by decide +kernel) (by decide +kernel)
set_option maxRecDepth 20000 in
theorem gX4_plan_X4_isAskedOfPlans : GoodIn wsX4_plan (va_wsS RX4 131 yX4_isAskedOfPlans wsX4_isAskedOfPlans) := goodIn_app (goodIn_of _ (by decide +kernel)) ggX4_plan_X4_isAskedOfPlans
set_option maxRecDepth 20000 in
theorem ggX4_plan_X0_isTold : GoodIn wsX4_plan wsX0_isTold := goodIn_r _ [22, 23, 140, 141, 142, 143, 144, 145, 146, 147] (by decide +kernel) (by decide +kernel)
set_option maxRecDepth 20000 in
theorem gX4_plan_X0_isTold : GoodIn wsX4_plan (wsV RX4 101 RX0 yX0_isTold wsX0_isTold) := goodIn_app (goodIn_of _ (by decide +kernel)) ggX4_plan_X0_isTold
set_option maxRecDepth 20000 in
theorem ggX4_plan_X2_faultOfCells : GoodIn wsX4_plan wsX2_faultOfCells := goodIn_r _ [28, 29, 30, 31, 32, 27, 33, 34, 35, 36, 37, 38, 148, 149, 150] (by decide +kernel) (by decide +kernel)
set_option maxRecDepth 20000 in
theorem gX4_plan_X2_faultOfCells : GoodIn wsX4_plan (wsV RX4 44 RX2 yX2_faultOfCells wsX2_faultOfCells) := goodIn_app (goodIn_of _ (by decide +kernel)) ggX4_plan_X2_faultOfCells
set_option maxRecDepth 20000 in
theorem ggX4_plan_X4_faulted : GoodIn wsX4_plan wsX4_faulted := goodIn_r _ [42, 1, 135, 136, 137, 138, 139] (by decide +kernel) (by decide +kernel)
set_option maxRecDepth 20000 in
theorem gX4_plan_X4_faulted : GoodIn wsX4_plan (wsV RX4 48 RX4 yX4_faulted wsX4_faulted) := goodIn_app (goodIn_of _ (by decide +kernel)) ggX4_plan_X4_faulted
set_option maxRecDepth 20000 in
theorem ggX4_plan_X0_hasPlan : GoodIn wsX4_plan wsX0_hasPlan := goodIn_r _ [46, 23, 47, 48, 49, 27, 50, 51, 52, 6, 53, 54, 55, 56, 21, 57, 58, 59, 60, 61, 62, 140, 141, 142, 143, 144, 145, 146, 147, 148, 149, 150] (by decide +kernel) (by decide +kernel)
set_option maxRecDepth 20000 in
theorem gX4_plan_X0_hasPlan : GoodIn wsX4_plan (wsV RX4 134 RX0 yX0_hasPlan wsX0_hasPlan) := goodIn_app (goodIn_of _ (by decide +kernel)) ggX4_plan_X0_hasPlan
set_option maxRecDepth 20000 in
theorem ggX4_plan_X4_ofPlan : GoodIn wsX4_plan wsX4_ofPlan := goodIn_r _ [66, 2, 67, 68, 69, 21, 70, 23, 47, 48, 49, 27, 50, 51, 52, 6, 53, 71, 72, 73, 74, 75, 76, 77, 78, 79, 80, 81, 82, 83, 84, 85, 86, 87, 88, 89, 90, 91, 58, 59, 60, 61, 62, 92, 93, 94, 95, 96, 97, 98, 99, 100, 101, 102, 103, 104, 105, 106, 107, 108, 109, 110, 111, 112, 113, 114, 115, 116, 117, 118, 119, 120, 121, 122, 123, 124, 125, 126, 127, 128, 129, 130, 131, 132, 133, 134, 135, 136, 137, 138, 139, 140, 141, 142, 143, 144, 145, 146, 147, 148, 149, 150] (by decide +kernel) (by decide +kernel)
set_option maxRecDepth 20000 in
theorem gX4_plan_X4_ofPlan : GoodIn wsX4_plan (wsV RX4 138 RX4 yX4_ofPlan wsX4_ofPlan) := goodIn_app (goodIn_of _ (by decide +kernel)) ggX4_plan_X4_ofPlan
theorem dX4_plan_0 : decode cX4_plan 0 = .ok (.aload_n 0, 1) := by decide +kernel
theorem dX4_plan_1 : decode cX4_plan 1 = .ok (.iconst 0, 1) := by decide +kernel
theorem dX4_plan_2 : decode cX4_plan 2 = .ok (.putfield 32, 3) := by decide +kernel
theorem dX4_plan_5 : decode cX4_plan 5 = .ok (.aload_n 0, 1) := by decide +kernel
theorem dX4_plan_6 : decode cX4_plan 6 = .ok (.iload_n 1, 1) := by decide +kernel
theorem dX4_plan_7 : decode cX4_plan 7 = .ok (.invokevirtual 36, 3) := by decide +kernel
theorem dX4_plan_10 : decode cX4_plan 10 = .ok (.astore 6, 2) := by decide +kernel
theorem dX4_plan_12 : decode cX4_plan 12 = .ok (.aload 6, 2) := by decide +kernel
theorem dX4_plan_14 : decode cX4_plan 14 = .ok (.ifnonnull 5, 3) := by decide +kernel
theorem dX4_plan_17 : decode cX4_plan 17 = .ok (.iconst (-1), 1) := by decide +kernel
theorem dX4_plan_18 : decode cX4_plan 18 = .ok (.ireturn, 1) := by decide +kernel
theorem dX4_plan_19 : decode cX4_plan 19 = .ok (.iload_n 2, 1) := by decide +kernel
theorem dX4_plan_20 : decode cX4_plan 20 = .ok (.invokestatic 40, 3) := by decide +kernel
theorem dX4_plan_23 : decode cX4_plan 23 = .ok (.ifCond .eq 11, 3) := by decide +kernel
theorem dX4_plan_26 : decode cX4_plan 26 = .ok (.iload 5, 2) := by decide +kernel
theorem dX4_plan_28 : decode cX4_plan 28 = .ok (.invokestatic 131, 3) := by decide +kernel
theorem dX4_plan_31 : decode cX4_plan 31 = .ok (.ifCond .ne 6, 3) := by decide +kernel
theorem dX4_plan_34 : decode cX4_plan 34 = .ok (.bipush (-2), 2) := by decide +kernel
theorem dX4_plan_36 : decode cX4_plan 36 = .ok (.ireturn, 1) := by decide +kernel
theorem dX4_plan_37 : decode cX4_plan 37 = .ok (.aload_n 0, 1) := by decide +kernel
theorem dX4_plan_38 : decode cX4_plan 38 = .ok (.getfield 12, 3) := by decide +kernel
theorem dX4_plan_41 : decode cX4_plan 41 = .ok (.invokevirtual 101, 3) := by decide +kernel
theorem dX4_plan_44 : decode cX4_plan 44 = .ok (.ifCond .ne 6, 3) := by decide +kernel
theorem dX4_plan_47 : decode cX4_plan 47 = .ok (.bipush (-3), 2) := by decide +kernel
theorem dX4_plan_49 : decode cX4_plan 49 = .ok (.ireturn, 1) := by decide +kernel
theorem dX4_plan_50 : decode cX4_plan 50 = .ok (.aload 6, 2) := by decide +kernel
theorem dX4_plan_52 : decode cX4_plan 52 = .ok (.iload_n 2, 1) := by decide +kernel
theorem dX4_plan_53 : decode cX4_plan 53 = .ok (.iload_n 3, 1) := by decide +kernel
theorem dX4_plan_54 : decode cX4_plan 54 = .ok (.iload 4, 2) := by decide +kernel
theorem dX4_plan_56 : decode cX4_plan 56 = .ok (.invokevirtual 44, 3) := by decide +kernel
theorem dX4_plan_59 : decode cX4_plan 59 = .ok (.istore 7, 2) := by decide +kernel
theorem dX4_plan_61 : decode cX4_plan 61 = .ok (.iload 7, 2) := by decide +kernel
theorem dX4_plan_63 : decode cX4_plan 63 = .ok (.ifCond .eq 10, 3) := by decide +kernel
theorem dX4_plan_66 : decode cX4_plan 66 = .ok (.aload_n 0, 1) := by decide +kernel
theorem dX4_plan_67 : decode cX4_plan 67 = .ok (.iload 7, 2) := by decide +kernel
theorem dX4_plan_69 : decode cX4_plan 69 = .ok (.invokevirtual 48, 3) := by decide +kernel
theorem dX4_plan_72 : decode cX4_plan 72 = .ok (.ireturn, 1) := by decide +kernel
theorem dX4_plan_73 : decode cX4_plan 73 = .ok (.aload_n 0, 1) := by decide +kernel
theorem dX4_plan_74 : decode cX4_plan 74 = .ok (.getfield 12, 3) := by decide +kernel
theorem dX4_plan_77 : decode cX4_plan 77 = .ok (.aload 6, 2) := by decide +kernel
theorem dX4_plan_79 : decode cX4_plan 79 = .ok (.iload_n 3, 1) := by decide +kernel
theorem dX4_plan_80 : decode cX4_plan 80 = .ok (.iload 4, 2) := by decide +kernel
theorem dX4_plan_82 : decode cX4_plan 82 = .ok (.invokevirtual 134, 3) := by decide +kernel
theorem dX4_plan_85 : decode cX4_plan 85 = .ok (.ifCond .ne 6, 3) := by decide +kernel
theorem dX4_plan_88 : decode cX4_plan 88 = .ok (.bipush (-2), 2) := by decide +kernel
theorem dX4_plan_90 : decode cX4_plan 90 = .ok (.ireturn, 1) := by decide +kernel
theorem dX4_plan_91 : decode cX4_plan 91 = .ok (.aload_n 0, 1) := by decide +kernel
theorem dX4_plan_92 : decode cX4_plan 92 = .ok (.aload 6, 2) := by decide +kernel
theorem dX4_plan_94 : decode cX4_plan 94 = .ok (.iload_n 3, 1) := by decide +kernel
theorem dX4_plan_95 : decode cX4_plan 95 = .ok (.iload 5, 2) := by decide +kernel
theorem dX4_plan_97 : decode cX4_plan 97 = .ok (.invokevirtual 138, 3) := by decide +kernel
theorem dX4_plan_100 : decode cX4_plan 100 = .ok (.ireturn, 1) := by decide +kernel
set_option maxRecDepth 20000 in
theorem ggX4_isAskedOfPlans_X4_isFrom0To : GoodIn wsX4_isAskedOfPlans wsX4_isFrom0To := goodIn_r _ [4] (by decide +kernel) (by decide +kernel)
set_option maxRecDepth 20000 in
theorem gX4_isAskedOfPlans_X4_isFrom0To : GoodIn wsX4_isAskedOfPlans (va_wsS RX4 93 yX4_isFrom0To wsX4_isFrom0To) := goodIn_app (goodIn_of _ (by decide +kernel)) ggX4_isAskedOfPlans_X4_isFrom0To
theorem dX4_isAskedOfPlans_0 : decode cX4_isAskedOfPlans 0 = .ok (.iload_n 0, 1) := by decide +kernel
theorem dX4_isAskedOfPlans_1 : decode cX4_isAskedOfPlans 1 = .ok (.iconst 3, 1) := by decide +kernel
theorem dX4_isAskedOfPlans_2 : decode cX4_isAskedOfPlans 2 = .ok (.invokestatic 93, 3) := by decide +kernel
theorem dX4_isAskedOfPlans_5 : decode cX4_isAskedOfPlans 5 = .ok (.ifCond .ne 15, 3) := by decide +kernel
theorem dX4_isAskedOfPlans_8 : decode cX4_isAskedOfPlans 8 = .ok (.iload_n 0, 1) := by decide +kernel
theorem dX4_isAskedOfPlans_9 : decode cX4_isAskedOfPlans 9 = .ok (.bipush 10, 2) := by decide +kernel
theorem dX4_isAskedOfPlans_11 : decode cX4_isAskedOfPlans 11 = .ok (.if_icmp .lt 13, 3) := by decide +kernel
theorem dX4_isAskedOfPlans_14 : decode cX4_isAskedOfPlans 14 = .ok (.iload_n 0, 1) := by decide +kernel
theorem dX4_isAskedOfPlans_15 : decode cX4_isAskedOfPlans 15 = .ok (.bipush 16, 2) := by decide +kernel
theorem dX4_isAskedOfPlans_17 : decode cX4_isAskedOfPlans 17 = .ok (.if_icmp .ge 7, 3) := by decide +kernel
theorem dX4_isAskedOfPlans_20 : decode cX4_isAskedOfPlans 20 = .ok (.iconst 1, 1) := by decide +kernel
theorem dX4_isAskedOfPlans_21 : decode cX4_isAskedOfPlans 21 = .ok (.goto 4, 3) := by decide +kernel
theorem dX4_isAskedOfPlans_24 : decode cX4_isAskedOfPlans 24 = .ok (.iconst 0, 1) := by decide +kernel
theorem dX4_isAskedOfPlans_25 : decode cX4_isAskedOfPlans 25 = .ok (.ireturn, 1) := by decide +kernel
set_option maxRecDepth 20000 in
theorem ggX4_ofPlan_X0_finesOfPlan : GoodIn wsX4_ofPlan wsX0_finesOfPlan := goodIn_r _ [6, 7, 8, 9, 10, 11, 12, 13, 14, 15, 16, 17, 18, 19, 5, 20, 21, 22, 23, 24, 25, 26, 27, 28, 29, 30, 31, 32, 33, 34, 35, 36, 37, 38, 39, 40, 41, 42, 43, 44, 45, 46, 47, 48, 49, 50, 51, 52, 53, 54, 55, 56, 57, 58, 59, 60, 91, 92, 93, 94, 95, 96, 97, 98, 99, 100, 101] (by decide +kernel) (by decide +kernel)
set_option maxRecDepth 20000 in
theorem gX4_ofPlan_X0_finesOfPlan : GoodIn wsX4_ofPlan (wsV RX4 141 RX0 yX0_finesOfPlan wsX0_finesOfPlan) := goodIn_app (goodIn_of _ (by decide +kernel)) ggX4_ofPlan_X0_finesOfPlan
set_option maxRecDepth 20000 in
theorem ggX4_ofPlan_X0_firstDayOfPlan : GoodIn wsX4_ofPlan wsX0_firstDayOfPlan := goodIn_r _ [64, 7, 42, 8, 9, 10, 11, 12, 13, 14, 15, 16, 21, 22, 23, 5, 24, 25, 26, 27, 28, 29, 30, 31, 32, 33, 34, 35, 36, 37, 38, 39, 40, 41, 43, 44, 45, 46, 47, 48, 91, 92, 93, 94, 95, 96, 97, 98, 99, 100, 101] (by decide +kernel) (by decide +kernel)
set_option maxRecDepth 20000 in
theorem gX4_ofPlan_X0_firstDayOfPlan : GoodIn wsX4_ofPlan (wsV RX4 145 RX0 yX0_firstDayOfPlan wsX0_firstDayOfPlan) := goodIn_app (goodIn_of _ (by decide +kernel)) ggX4_ofPlan_X0_firstDayOfPlan
set_option maxRecDepth 20000 in
theorem ggX4_ofPlan_X0_foundEatersOfPlan : GoodIn wsX4_ofPlan wsX0_foundEatersOfPlan := goodIn_r _ [68, 7, 8, 9, 10, 11, 12, 13, 14, 15, 16, 21, 22, 23, 5, 24, 25, 26, 27, 28, 29, 30, 31, 32, 33, 34, 35, 36, 37, 38, 39, 40, 41, 42, 43, 44, 45, 46, 47, 48, 91, 92, 93, 94, 95, 96, 97, 98, 99, 100, 101] (by decide +kernel) (by decide +kernel)
set_option maxRecDepth 20000 in
theorem gX4_ofPlan_X0_foundEatersOfPlan : GoodIn wsX4_ofPlan (wsV RX4 148 RX0 yX0_foundEatersOfPlan wsX0_foundEatersOfPlan) := goodIn_app (goodIn_of _ (by decide +kernel)) ggX4_ofPlan_X0_foundEatersOfPlan
set_option maxRecDepth 20000 in
theorem ggX4_ofPlan_X0_starvedEatersOfPlan : GoodIn wsX4_ofPlan wsX0_starvedEatersOfPlan := goodIn_r _ [72, 7, 8, 9, 10, 11, 12, 13, 14, 15, 16, 49, 50, 51, 52, 53, 54, 55, 73, 74, 75, 5, 76, 77, 91, 92, 93, 94, 95, 96, 97, 98, 99, 100, 101] (by decide +kernel) (by decide +kernel)
set_option maxRecDepth 20000 in
theorem gX4_ofPlan_X0_starvedEatersOfPlan : GoodIn wsX4_ofPlan (wsV RX4 151 RX0 yX0_starvedEatersOfPlan wsX0_starvedEatersOfPlan) := goodIn_app (goodIn_of _ (by decide +kernel)) ggX4_ofPlan_X0_starvedEatersOfPlan
set_option maxRecDepth 20000 in
theorem ggX4_ofPlan_X0_hasDay : GoodIn wsX4_ofPlan wsX0_hasDay := goodIn_r _ [81, 42, 91, 92, 93, 94, 95, 96, 97, 98] (by decide +kernel) (by decide +kernel)
set_option maxRecDepth 20000 in
theorem gX4_ofPlan_X0_hasDay : GoodIn wsX4_ofPlan (wsV RX4 87 RX0 yX0_hasDay wsX0_hasDay) := goodIn_app (goodIn_of _ (by decide +kernel)) ggX4_ofPlan_X0_hasDay
set_option maxRecDepth 20000 in
theorem ggX4_ofPlan_X0_foundOnDayOfPlan : GoodIn wsX4_ofPlan wsX0_foundOnDayOfPlan := goodIn_r _ [85, 7, 8, 9, 10, 11, 12, 13, 14, 15, 16, 21, 22, 23, 5, 24, 25, 26, 27, 28, 29, 30, 31, 32, 33, 34, 35, 36, 37, 38, 39, 40, 41, 42, 43, 44, 45, 46, 47, 48, 91, 92, 93, 94, 95, 96, 97, 98, 99, 100, 101] (by decide +kernel) (by decide +kernel)
set_option maxRecDepth 20000 in
theorem gX4_ofPlan_X0_foundOnDayOfPlan : GoodIn wsX4_ofPlan (wsV RX4 154 RX0 yX0_foundOnDayOfPlan wsX0_foundOnDayOfPlan) := goodIn_app (goodIn_of _ (by decide +kernel)) ggX4_ofPlan_X0_foundOnDayOfPlan
theorem dX4_ofPlan_0 : decode cX4_ofPlan 0 = .ok (.iload_n 3, 1) := by decide +kernel
theorem dX4_ofPlan_1 : decode cX4_ofPlan 1 = .ok (.tableswitch 71 0 3 #[31, 41, 51, 61], 31) := by decide +kernel
theorem dX4_ofPlan_32 : decode cX4_ofPlan 32 = .ok (.aload_n 0, 1) := by decide +kernel
theorem dX4_ofPlan_33 : decode cX4_ofPlan 33 = .ok (.getfield 12, 3) := by decide +kernel
theorem dX4_ofPlan_36 : decode cX4_ofPlan 36 = .ok (.aload_n 1, 1) := by decide +kernel
theorem dX4_ofPlan_37 : decode cX4_ofPlan 37 = .ok (.iload_n 2, 1) := by decide +kernel
theorem dX4_ofPlan_38 : decode cX4_ofPlan 38 = .ok (.invokevirtual 141, 3) := by decide +kernel
theorem dX4_ofPlan_41 : decode cX4_ofPlan 41 = .ok (.ireturn, 1) := by decide +kernel
theorem dX4_ofPlan_42 : decode cX4_ofPlan 42 = .ok (.aload_n 0, 1) := by decide +kernel
theorem dX4_ofPlan_43 : decode cX4_ofPlan 43 = .ok (.getfield 12, 3) := by decide +kernel
theorem dX4_ofPlan_46 : decode cX4_ofPlan 46 = .ok (.aload_n 1, 1) := by decide +kernel
theorem dX4_ofPlan_47 : decode cX4_ofPlan 47 = .ok (.iload_n 2, 1) := by decide +kernel
theorem dX4_ofPlan_48 : decode cX4_ofPlan 48 = .ok (.invokevirtual 145, 3) := by decide +kernel
theorem dX4_ofPlan_51 : decode cX4_ofPlan 51 = .ok (.ireturn, 1) := by decide +kernel
theorem dX4_ofPlan_52 : decode cX4_ofPlan 52 = .ok (.aload_n 0, 1) := by decide +kernel
theorem dX4_ofPlan_53 : decode cX4_ofPlan 53 = .ok (.getfield 12, 3) := by decide +kernel
theorem dX4_ofPlan_56 : decode cX4_ofPlan 56 = .ok (.aload_n 1, 1) := by decide +kernel
theorem dX4_ofPlan_57 : decode cX4_ofPlan 57 = .ok (.iload_n 2, 1) := by decide +kernel
theorem dX4_ofPlan_58 : decode cX4_ofPlan 58 = .ok (.invokevirtual 148, 3) := by decide +kernel
theorem dX4_ofPlan_61 : decode cX4_ofPlan 61 = .ok (.ireturn, 1) := by decide +kernel
theorem dX4_ofPlan_62 : decode cX4_ofPlan 62 = .ok (.aload_n 0, 1) := by decide +kernel
theorem dX4_ofPlan_63 : decode cX4_ofPlan 63 = .ok (.getfield 12, 3) := by decide +kernel
theorem dX4_ofPlan_66 : decode cX4_ofPlan 66 = .ok (.aload_n 1, 1) := by decide +kernel
theorem dX4_ofPlan_67 : decode cX4_ofPlan 67 = .ok (.iload_n 2, 1) := by decide +kernel
theorem dX4_ofPlan_68 : decode cX4_ofPlan 68 = .ok (.invokevirtual 151, 3) := by decide +kernel
theorem dX4_ofPlan_71 : decode cX4_ofPlan 71 = .ok (.ireturn, 1) := by decide +kernel
theorem dX4_ofPlan_72 : decode cX4_ofPlan 72 = .ok (.aload_n 0, 1) := by decide +kernel
theorem dX4_ofPlan_73 : decode cX4_ofPlan 73 = .ok (.getfield 12, 3) := by decide +kernel
theorem dX4_ofPlan_76 : decode cX4_ofPlan 76 = .ok (.iload_n 3, 1) := by decide +kernel
theorem dX4_ofPlan_77 : decode cX4_ofPlan 77 = .ok (.bipush 10, 2) := by decide +kernel
theorem dX4_ofPlan_79 : decode cX4_ofPlan 79 = .ok (.isub, 1) := by decide +kernel
theorem dX4_ofPlan_80 : decode cX4_ofPlan 80 = .ok (.invokevirtual 87, 3) := by decide +kernel
theorem dX4_ofPlan_83 : decode cX4_ofPlan 83 = .ok (.ifCond .eq 19, 3) := by decide +kernel
theorem dX4_ofPlan_86 : decode cX4_ofPlan 86 = .ok (.aload_n 0, 1) := by decide +kernel
theorem dX4_ofPlan_87 : decode cX4_ofPlan 87 = .ok (.getfield 12, 3) := by decide +kernel
theorem dX4_ofPlan_90 : decode cX4_ofPlan 90 = .ok (.aload_n 1, 1) := by decide +kernel
theorem dX4_ofPlan_91 : decode cX4_ofPlan 91 = .ok (.iload_n 2, 1) := by decide +kernel
theorem dX4_ofPlan_92 : decode cX4_ofPlan 92 = .ok (.iload_n 3, 1) := by decide +kernel
theorem dX4_ofPlan_93 : decode cX4_ofPlan 93 = .ok (.bipush 10, 2) := by decide +kernel
theorem dX4_ofPlan_95 : decode cX4_ofPlan 95 = .ok (.isub, 1) := by decide +kernel
theorem dX4_ofPlan_96 : decode cX4_ofPlan 96 = .ok (.invokevirtual 154, 3) := by decide +kernel
theorem dX4_ofPlan_99 : decode cX4_ofPlan 99 = .ok (.goto 5, 3) := by decide +kernel
theorem dX4_ofPlan_102 : decode cX4_ofPlan 102 = .ok (.bipush (-9), 2) := by decide +kernel
theorem dX4_ofPlan_104 : decode cX4_ofPlan 104 = .ok (.ireturn, 1) := by decide +kernel
set_option maxRecDepth 20000 in
theorem ggX4_best_X0_hasEater : GoodIn wsX4_best wsX0_hasEater := goodIn_r _ [6, 7, 76, 77, 78, 79, 80, 81, 82, 83] (by decide +kernel) (by decide +kernel)
set_option maxRecDepth 20000 in
theorem gX4_best_X0_hasEater : GoodIn wsX4_best (wsV RX4 69 RX0 yX0_hasEater wsX0_hasEater) := goodIn_app (goodIn_of _ (by decide +kernel)) ggX4_best_X0_hasEater
set_option maxRecDepth 20000 in
theorem ggX4_best_X4_isFrom0To : GoodIn wsX4_best wsX4_isFrom0To := goodIn_r _ [11] (by decide +kernel) (by decide +kernel)
set_option maxRecDepth 20000 in
theorem gX4_best_X4_isFrom0To : GoodIn wsX4_best (va_wsS RX4 93 yX4_isFrom0To wsX4_isFrom0To) := goodIn_app (goodIn_of _ (by decide +kernel)) ggX4_best_X4_isFrom0To
set_option maxRecDepth 20000 in
theorem ggX4_best_X0_fastDays : GoodIn wsX4_best wsX0_fastDays := goodIn_r _ [15, 16, 17, 18, 19, 10, 20, 76, 77, 78, 79, 80, 81, 82, 83] (by decide +kernel) (by decide +kernel)
set_option maxRecDepth 20000 in
theorem gX4_best_X0_fastDays : GoodIn wsX4_best (wsV RX4 115 RX0 yX0_fastDays wsX0_fastDays) := goodIn_app (goodIn_of _ (by decide +kernel)) ggX4_best_X0_fastDays
set_option maxRecDepth 20000 in
theorem ggX4_best_X0_bestSet : GoodIn wsX4_best wsX0_bestSet := goodIn_r _ [24, 25, 26, 27, 5, 28, 29, 30, 19, 10, 20, 31, 32, 33, 34, 35, 36, 37, 16, 38, 39, 40, 41, 42, 43, 44, 45, 46, 47, 48, 49, 50, 51, 52, 53, 54, 55, 56, 76, 77, 78, 79, 80, 81, 82, 83] (by decide +kernel) (by decide +kernel)
set_option maxRecDepth 20000 in
theorem gX4_best_X0_bestSet : GoodIn wsX4_best (wsV RX4 157 RX0 yX0_bestSet wsX0_bestSet) := goodIn_app (goodIn_of _ (by decide +kernel)) ggX4_best_X0_bestSet
set_option maxRecDepth 20000 in
theorem ggX4_best_X0_fineOf : GoodIn wsX4_best wsX0_fineOf := goodIn_r _ [60, 61, 62, 63, 5, 64, 25, 26, 27, 28, 29, 30, 19, 10, 20, 31, 32, 33, 38, 39, 40, 41, 34, 35, 36, 37, 16, 65, 13, 14, 15, 17, 18, 42, 43, 44, 45, 46, 47, 48, 66, 67, 68, 69, 70, 76, 77, 78, 79, 80, 81, 82, 83] (by decide +kernel) (by decide +kernel)
set_option maxRecDepth 20000 in
theorem gX4_best_X0_fineOf : GoodIn wsX4_best (wsV RX4 128 RX0 yX0_fineOf wsX0_fineOf) := goodIn_app (goodIn_of _ (by decide +kernel)) ggX4_best_X0_fineOf
theorem dX4_best_0 : decode cX4_best 0 = .ok (.aload_n 0, 1) := by decide +kernel
theorem dX4_best_1 : decode cX4_best 1 = .ok (.getfield 12, 3) := by decide +kernel
theorem dX4_best_4 : decode cX4_best 4 = .ok (.iload_n 1, 1) := by decide +kernel
theorem dX4_best_5 : decode cX4_best 5 = .ok (.invokevirtual 69, 3) := by decide +kernel
theorem dX4_best_8 : decode cX4_best 8 = .ok (.ifCond .ne 5, 3) := by decide +kernel
theorem dX4_best_11 : decode cX4_best 11 = .ok (.iconst (-1), 1) := by decide +kernel
theorem dX4_best_12 : decode cX4_best 12 = .ok (.ireturn, 1) := by decide +kernel
theorem dX4_best_13 : decode cX4_best 13 = .ok (.iload_n 2, 1) := by decide +kernel
theorem dX4_best_14 : decode cX4_best 14 = .ok (.iconst 1, 1) := by decide +kernel
theorem dX4_best_15 : decode cX4_best 15 = .ok (.invokestatic 93, 3) := by decide +kernel
theorem dX4_best_18 : decode cX4_best 18 = .ok (.ifCond .ne 6, 3) := by decide +kernel
theorem dX4_best_21 : decode cX4_best 21 = .ok (.bipush (-2), 2) := by decide +kernel
theorem dX4_best_23 : decode cX4_best 23 = .ok (.ireturn, 1) := by decide +kernel
theorem dX4_best_24 : decode cX4_best 24 = .ok (.aload_n 0, 1) := by decide +kernel
theorem dX4_best_25 : decode cX4_best 25 = .ok (.getfield 12, 3) := by decide +kernel
theorem dX4_best_28 : decode cX4_best 28 = .ok (.iload_n 1, 1) := by decide +kernel
theorem dX4_best_29 : decode cX4_best 29 = .ok (.aload_n 0, 1) := by decide +kernel
theorem dX4_best_30 : decode cX4_best 30 = .ok (.getfield 12, 3) := by decide +kernel
theorem dX4_best_33 : decode cX4_best 33 = .ok (.invokevirtual 115, 3) := by decide +kernel
theorem dX4_best_36 : decode cX4_best 36 = .ok (.invokevirtual 157, 3) := by decide +kernel
theorem dX4_best_39 : decode cX4_best 39 = .ok (.istore_n 3, 1) := by decide +kernel
theorem dX4_best_40 : decode cX4_best 40 = .ok (.iload_n 3, 1) := by decide +kernel
theorem dX4_best_41 : decode cX4_best 41 = .ok (.bipush (-9), 2) := by decide +kernel
theorem dX4_best_43 : decode cX4_best 43 = .ok (.if_icmp .eq 7, 3) := by decide +kernel
theorem dX4_best_46 : decode cX4_best 46 = .ok (.iload_n 2, 1) := by decide +kernel
theorem dX4_best_47 : decode cX4_best 47 = .ok (.ifCond .ne 7, 3) := by decide +kernel
theorem dX4_best_50 : decode cX4_best 50 = .ok (.iload_n 3, 1) := by decide +kernel
theorem dX4_best_51 : decode cX4_best 51 = .ok (.goto 12, 3) := by decide +kernel
theorem dX4_best_54 : decode cX4_best 54 = .ok (.aload_n 0, 1) := by decide +kernel
theorem dX4_best_55 : decode cX4_best 55 = .ok (.getfield 12, 3) := by decide +kernel
theorem dX4_best_58 : decode cX4_best 58 = .ok (.iload_n 1, 1) := by decide +kernel
theorem dX4_best_59 : decode cX4_best 59 = .ok (.iload_n 3, 1) := by decide +kernel
theorem dX4_best_60 : decode cX4_best 60 = .ok (.invokevirtual 128, 3) := by decide +kernel
theorem dX4_best_63 : decode cX4_best 63 = .ok (.ireturn, 1) := by decide +kernel
set_option maxRecDepth 20000 in
theorem ggX4_village_X0_isTold : GoodIn wsX4_village wsX0_isTold := goodIn_r _ [6, 7, 68, 69, 70, 71, 72, 73, 74, 75] (by decide +kernel) (by decide +kernel)
set_option maxRecDepth 20000 in
theorem gX4_village_X0_isTold : GoodIn wsX4_village (wsV RX4 101 RX0 yX0_isTold wsX0_isTold) := goodIn_app (goodIn_of _ (by decide +kernel)) ggX4_village_X0_isTold
set_option maxRecDepth 20000 in
theorem ggX4_village_X0_fastDays : GoodIn wsX4_village wsX0_fastDays := goodIn_r _ [11, 12, 13, 14, 15, 16, 17, 68, 69, 70, 71, 72, 73, 74, 75] (by decide +kernel) (by decide +kernel)
set_option maxRecDepth 20000 in
theorem gX4_village_X0_fastDays : GoodIn wsX4_village (wsV RX4 115 RX0 yX0_fastDays wsX0_fastDays) := goodIn_app (goodIn_of _ (by decide +kernel)) ggX4_village_X0_fastDays
set_option maxRecDepth 20000 in
theorem ggX4_village_X0_villagePays : GoodIn wsX4_village wsX0_villagePays := goodIn_r _ [21, 7, 22, 23, 24, 5, 25, 26, 27, 28, 29, 30, 31, 15, 16, 17, 32, 33, 34, 35, 36, 37, 38, 12, 39, 40, 41, 42, 43, 44, 45, 46, 47, 48, 49, 50, 51, 52, 53, 54, 55, 56, 57, 58, 59, 60, 61, 62, 68, 69, 70, 71, 72, 73, 74, 75] (by decide +kernel) (by decide +kernel)
set_option maxRecDepth 20000 in
theorem gX4_village_X0_villagePays : GoodIn wsX4_village (wsV RX4 160 RX0 yX0_villagePays wsX0_villagePays) := goodIn_app (goodIn_of _ (by decide +kernel)) ggX4_village_X0_villagePays
theorem dX4_village_0 : decode cX4_village 0 = .ok (.aload_n 0, 1) := by decide +kernel
theorem dX4_village_1 : decode cX4_village 1 = .ok (.getfield 12, 3) := by decide +kernel
theorem dX4_village_4 : decode cX4_village 4 = .ok (.invokevirtual 101, 3) := by decide +kernel
theorem dX4_village_7 : decode cX4_village 7 = .ok (.ifCond .eq 20, 3) := by decide +kernel
theorem dX4_village_10 : decode cX4_village 10 = .ok (.aload_n 0, 1) := by decide +kernel
theorem dX4_village_11 : decode cX4_village 11 = .ok (.getfield 12, 3) := by decide +kernel
theorem dX4_village_14 : decode cX4_village 14 = .ok (.aload_n 0, 1) := by decide +kernel
theorem dX4_village_15 : decode cX4_village 15 = .ok (.getfield 12, 3) := by decide +kernel
theorem dX4_village_18 : decode cX4_village 18 = .ok (.invokevirtual 115, 3) := by decide +kernel
theorem dX4_village_21 : decode cX4_village 21 = .ok (.invokevirtual 160, 3) := by decide +kernel
theorem dX4_village_24 : decode cX4_village 24 = .ok (.goto 5, 3) := by decide +kernel
theorem dX4_village_27 : decode cX4_village 27 = .ok (.bipush (-3), 2) := by decide +kernel
theorem dX4_village_29 : decode cX4_village 29 = .ok (.ireturn, 1) := by decide +kernel
set_option maxRecDepth 20000 in
theorem ggX4_smile_X4_isFrom0To : GoodIn wsX4_smile wsX4_isFrom0To := goodIn_r _ [5] (by decide +kernel) (by decide +kernel)
set_option maxRecDepth 20000 in
theorem gX4_smile_X4_isFrom0To : GoodIn wsX4_smile (va_wsS RX4 93 yX4_isFrom0To wsX4_isFrom0To) := goodIn_app (goodIn_of _ (by decide +kernel)) ggX4_smile_X4_isFrom0To
set_option maxRecDepth 20000 in
theorem ggX4_smile_X0_isTold : GoodIn wsX4_smile wsX0_isTold := goodIn_r _ [10, 11, 81, 82, 83, 84, 85, 86, 87, 88] (by decide +kernel) (by decide +kernel)
set_option maxRecDepth 20000 in
theorem gX4_smile_X0_isTold : GoodIn wsX4_smile (wsV RX4 101 RX0 yX0_isTold wsX0_isTold) := goodIn_app (goodIn_of _ (by decide +kernel)) ggX4_smile_X0_isTold
set_option maxRecDepth 20000 in
theorem ggX4_smile_X0_smileDay : GoodIn wsX4_smile wsX0_smileDay := goodIn_r _ [15, 16, 17, 18, 19, 9, 20, 21, 22, 23, 4, 24, 25, 26, 27, 28, 29, 30, 31, 32, 11, 33, 34, 35, 36, 37, 38, 39, 40, 41, 42, 43, 44, 45, 46, 47, 48, 49, 50, 51, 52, 53, 54, 55, 56, 57, 58, 59, 60, 61, 62, 63, 64, 65, 66, 67, 68, 69, 70, 71, 72, 73, 81, 82, 83, 84, 85, 86, 87, 88] (by decide +kernel) (by decide +kernel)
set_option maxRecDepth 20000 in
theorem gX4_smile_X0_smileDay : GoodIn wsX4_smile (wsV RX4 163 RX0 yX0_smileDay wsX0_smileDay) := goodIn_app (goodIn_of _ (by decide +kernel)) ggX4_smile_X0_smileDay
set_option maxRecDepth 20000 in
theorem ggX4_smile_X0_fastDaysBut : GoodIn wsX4_smile wsX0_fastDaysBut := goodIn_r _ [28, 17, 18, 19, 9, 20, 16, 21, 22, 23, 4, 24, 81, 82, 83, 84, 85, 86, 87, 88] (by decide +kernel) (by decide +kernel)
set_option maxRecDepth 20000 in
theorem gX4_smile_X0_fastDaysBut : GoodIn wsX4_smile (wsV RX4 166 RX0 yX0_fastDaysBut wsX0_fastDaysBut) := goodIn_app (goodIn_of _ (by decide +kernel)) ggX4_smile_X0_fastDaysBut
set_option maxRecDepth 20000 in
theorem ggX4_smile_X0_villagePays : GoodIn wsX4_smile wsX0_villagePays := goodIn_r _ [32, 11, 33, 34, 35, 9, 36, 37, 38, 39, 40, 41, 42, 23, 4, 24, 43, 44, 45, 46, 47, 48, 49, 16, 50, 51, 52, 53, 54, 55, 56, 57, 58, 59, 60, 61, 62, 63, 64, 65, 66, 67, 68, 69, 70, 71, 72, 73, 81, 82, 83, 84, 85, 86, 87, 88] (by decide +kernel) (by decide +kernel)
set_option maxRecDepth 20000 in
theorem gX4_smile_X0_villagePays : GoodIn wsX4_smile (wsV RX4 160 RX0 yX0_villagePays wsX0_villagePays) := goodIn_app (goodIn_of _ (by decide +kernel)) ggX4_smile_X0_villagePays
theorem dX4_smile_0 : decode cX4_smile 0 = .ok (.iload_n 1, 1) := by decide +kernel
theorem dX4_smile_1 : decode cX4_smile 1 = .ok (.iconst 1, 1) := by decide +kernel
theorem dX4_smile_2 : decode cX4_smile 2 = .ok (.invokestatic 93, 3) := by decide +kernel
theorem dX4_smile_5 : decode cX4_smile 5 = .ok (.ifCond .ne 6, 3) := by decide +kernel
theorem dX4_smile_8 : decode cX4_smile 8 = .ok (.bipush (-2), 2) := by decide +kernel
theorem dX4_smile_10 : decode cX4_smile 10 = .ok (.ireturn, 1) := by decide +kernel
theorem dX4_smile_11 : decode cX4_smile 11 = .ok (.aload_n 0, 1) := by decide +kernel
theorem dX4_smile_12 : decode cX4_smile 12 = .ok (.getfield 12, 3) := by decide +kernel
theorem dX4_smile_15 : decode cX4_smile 15 = .ok (.invokevirtual 101, 3) := by decide +kernel
theorem dX4_smile_18 : decode cX4_smile 18 = .ok (.ifCond .ne 6, 3) := by decide +kernel
theorem dX4_smile_21 : decode cX4_smile 21 = .ok (.bipush (-3), 2) := by decide +kernel
theorem dX4_smile_23 : decode cX4_smile 23 = .ok (.ireturn, 1) := by decide +kernel
theorem dX4_smile_24 : decode cX4_smile 24 = .ok (.aload_n 0, 1) := by decide +kernel
theorem dX4_smile_25 : decode cX4_smile 25 = .ok (.getfield 12, 3) := by decide +kernel
theorem dX4_smile_28 : decode cX4_smile 28 = .ok (.invokevirtual 163, 3) := by decide +kernel
theorem dX4_smile_31 : decode cX4_smile 31 = .ok (.istore_n 2, 1) := by decide +kernel
theorem dX4_smile_32 : decode cX4_smile 32 = .ok (.iload_n 2, 1) := by decide +kernel
theorem dX4_smile_33 : decode cX4_smile 33 = .ok (.bipush (-9), 2) := by decide +kernel
theorem dX4_smile_35 : decode cX4_smile 35 = .ok (.if_icmp .eq 7, 3) := by decide +kernel
theorem dX4_smile_38 : decode cX4_smile 38 = .ok (.iload_n 1, 1) := by decide +kernel
theorem dX4_smile_39 : decode cX4_smile 39 = .ok (.ifCond .ne 7, 3) := by decide +kernel
theorem dX4_smile_42 : decode cX4_smile 42 = .ok (.iload_n 2, 1) := by decide +kernel
theorem dX4_smile_43 : decode cX4_smile 43 = .ok (.goto 18, 3) := by decide +kernel
theorem dX4_smile_46 : decode cX4_smile 46 = .ok (.aload_n 0, 1) := by decide +kernel
theorem dX4_smile_47 : decode cX4_smile 47 = .ok (.getfield 12, 3) := by decide +kernel
theorem dX4_smile_50 : decode cX4_smile 50 = .ok (.aload_n 0, 1) := by decide +kernel
theorem dX4_smile_51 : decode cX4_smile 51 = .ok (.getfield 12, 3) := by decide +kernel
theorem dX4_smile_54 : decode cX4_smile 54 = .ok (.iload_n 2, 1) := by decide +kernel
theorem dX4_smile_55 : decode cX4_smile 55 = .ok (.invokevirtual 166, 3) := by decide +kernel
theorem dX4_smile_58 : decode cX4_smile 58 = .ok (.invokevirtual 160, 3) := by decide +kernel
theorem dX4_smile_61 : decode cX4_smile 61 = .ok (.ireturn, 1) := by decide +kernel
set_option maxRecDepth 20000 in
theorem ggX4_reading_X0_hasEater : GoodIn wsX4_reading wsX0_hasEater := goodIn_r _ [7, 8, 48, 49, 50, 51, 52, 53, 54, 55] (by decide +kernel) (by decide +kernel)
set_option maxRecDepth 20000 in
theorem gX4_reading_X0_hasEater : GoodIn wsX4_reading (wsV RX4 69 RX0 yX0_hasEater wsX0_hasEater) := goodIn_app (goodIn_of _ (by decide +kernel)) ggX4_reading_X0_hasEater
set_option maxRecDepth 20000 in
theorem ggX4_reading_X0_hasDays : GoodIn wsX4_reading wsX0_hasDays := goodIn_r _ [12, 13, 14, 15, 6, 16, 17, 48, 49, 50, 51, 52, 53, 54, 55] (by decide +kernel) (by decide +kernel)
set_option maxRecDepth 20000 in
theorem gX4_reading_X0_hasDays : GoodIn wsX4_reading (wsV RX4 118 RX0 yX0_hasDays wsX0_hasDays) := goodIn_app (goodIn_of _ (by decide +kernel)) ggX4_reading_X0_hasDays
set_option maxRecDepth 20000 in
theorem ggX4_reading_X0_hasDay : GoodIn wsX4_reading wsX0_hasDay := goodIn_r _ [21, 17, 48, 49, 50, 51, 52, 53, 54, 55] (by decide +kernel) (by decide +kernel)
set_option maxRecDepth 20000 in
theorem gX4_reading_X0_hasDay : GoodIn wsX4_reading (wsV RX4 87 RX0 yX0_hasDay wsX0_hasDay) := goodIn_app (goodIn_of _ (by decide +kernel)) ggX4_reading_X0_hasDay
set_option maxRecDepth 20000 in
theorem ggX4_reading_X1_isFull : GoodIn wsX4_reading wsX1_isFull := goodIn_r _ [26, 27, 56, 57, 58, 59, 60] (by decide +kernel) (by decide +kernel)
set_option maxRecDepth 20000 in
theorem gX4_reading_X1_isFull : GoodIn wsX4_reading (wsV RX4 169 RX1 yX1_isFull wsX1_isFull) := goodIn_app (goodIn_of _ (by decide +kernel)) ggX4_reading_X1_isFull
set_option maxRecDepth 20000 in
theorem ggX4_reading_X1_keep : GoodIn wsX4_reading wsX1_keep := goodIn_r _ [31, 27, 32, 33, 34, 35, 36, 37, 38, 56, 57, 58, 59, 60] (by decide +kernel) (by decide +kernel)
set_option maxRecDepth 20000 in
theorem gX4_reading_X1_keep : GoodIn wsX4_reading (wsV RX4 172 RX1 yX1_keep wsX1_keep) := goodIn_app (goodIn_of _ (by decide +kernel)) ggX4_reading_X1_keep
set_option maxRecDepth 20000 in
theorem ggX4_reading_X1_keptCount : GoodIn wsX4_reading wsX1_keptCount := goodIn_r _ [42, 27, 56, 57, 58, 59, 60] (by decide +kernel) (by decide +kernel)
set_option maxRecDepth 20000 in
theorem gX4_reading_X1_keptCount : GoodIn wsX4_reading (wsV RX4 176 RX1 yX1_keptCount wsX1_keptCount) := goodIn_app (goodIn_of _ (by decide +kernel)) ggX4_reading_X1_keptCount
theorem dX4_reading_0 : decode cX4_reading 0 = .ok (.aload_n 0, 1) := by decide +kernel
theorem dX4_reading_1 : decode cX4_reading 1 = .ok (.getfield 12, 3) := by decide +kernel
theorem dX4_reading_4 : decode cX4_reading 4 = .ok (.iload_n 1, 1) := by decide +kernel
theorem dX4_reading_5 : decode cX4_reading 5 = .ok (.invokevirtual 69, 3) := by decide +kernel
theorem dX4_reading_8 : decode cX4_reading 8 = .ok (.ifCond .ne 5, 3) := by decide +kernel
theorem dX4_reading_11 : decode cX4_reading 11 = .ok (.iconst (-1), 1) := by decide +kernel
theorem dX4_reading_12 : decode cX4_reading 12 = .ok (.ireturn, 1) := by decide +kernel
theorem dX4_reading_13 : decode cX4_reading 13 = .ok (.aload_n 0, 1) := by decide +kernel
theorem dX4_reading_14 : decode cX4_reading 14 = .ok (.getfield 12, 3) := by decide +kernel
theorem dX4_reading_17 : decode cX4_reading 17 = .ok (.iload_n 2, 1) := by decide +kernel
theorem dX4_reading_18 : decode cX4_reading 18 = .ok (.invokevirtual 118, 3) := by decide +kernel
theorem dX4_reading_21 : decode cX4_reading 21 = .ok (.ifCond .ne 6, 3) := by decide +kernel
theorem dX4_reading_24 : decode cX4_reading 24 = .ok (.bipush (-2), 2) := by decide +kernel
theorem dX4_reading_26 : decode cX4_reading 26 = .ok (.ireturn, 1) := by decide +kernel
theorem dX4_reading_27 : decode cX4_reading 27 = .ok (.aload_n 0, 1) := by decide +kernel
theorem dX4_reading_28 : decode cX4_reading 28 = .ok (.getfield 12, 3) := by decide +kernel
theorem dX4_reading_31 : decode cX4_reading 31 = .ok (.iload_n 3, 1) := by decide +kernel
theorem dX4_reading_32 : decode cX4_reading 32 = .ok (.invokevirtual 87, 3) := by decide +kernel
theorem dX4_reading_35 : decode cX4_reading 35 = .ok (.ifCond .ne 5, 3) := by decide +kernel
theorem dX4_reading_38 : decode cX4_reading 38 = .ok (.iconst (-1), 1) := by decide +kernel
theorem dX4_reading_39 : decode cX4_reading 39 = .ok (.ireturn, 1) := by decide +kernel
theorem dX4_reading_40 : decode cX4_reading 40 = .ok (.aload_n 0, 1) := by decide +kernel
theorem dX4_reading_41 : decode cX4_reading 41 = .ok (.getfield 21, 3) := by decide +kernel
theorem dX4_reading_44 : decode cX4_reading 44 = .ok (.invokevirtual 169, 3) := by decide +kernel
theorem dX4_reading_47 : decode cX4_reading 47 = .ok (.ifCond .eq 6, 3) := by decide +kernel
theorem dX4_reading_50 : decode cX4_reading 50 = .ok (.bipush (-4), 2) := by decide +kernel
theorem dX4_reading_52 : decode cX4_reading 52 = .ok (.ireturn, 1) := by decide +kernel
theorem dX4_reading_53 : decode cX4_reading 53 = .ok (.aload_n 0, 1) := by decide +kernel
theorem dX4_reading_54 : decode cX4_reading 54 = .ok (.getfield 21, 3) := by decide +kernel
theorem dX4_reading_57 : decode cX4_reading 57 = .ok (.iload_n 1, 1) := by decide +kernel
theorem dX4_reading_58 : decode cX4_reading 58 = .ok (.iload_n 2, 1) := by decide +kernel
theorem dX4_reading_59 : decode cX4_reading 59 = .ok (.iload_n 3, 1) := by decide +kernel
theorem dX4_reading_60 : decode cX4_reading 60 = .ok (.iload 4, 2) := by decide +kernel
theorem dX4_reading_62 : decode cX4_reading 62 = .ok (.invokevirtual 172, 3) := by decide +kernel
theorem dX4_reading_65 : decode cX4_reading 65 = .ok (.aload_n 0, 1) := by decide +kernel
theorem dX4_reading_66 : decode cX4_reading 66 = .ok (.getfield 21, 3) := by decide +kernel
theorem dX4_reading_69 : decode cX4_reading 69 = .ok (.invokevirtual 176, 3) := by decide +kernel
theorem dX4_reading_72 : decode cX4_reading 72 = .ok (.iconst 1, 1) := by decide +kernel
theorem dX4_reading_73 : decode cX4_reading 73 = .ok (.isub, 1) := by decide +kernel
theorem dX4_reading_74 : decode cX4_reading 74 = .ok (.ireturn, 1) := by decide +kernel
set_option maxRecDepth 20000 in
theorem ggX4_back_X1_keptCount : GoodIn wsX4_back wsX1_keptCount := goodIn_r _ [6, 7, 21, 22, 23, 24, 25] (by decide +kernel) (by decide +kernel)
set_option maxRecDepth 20000 in
theorem gX4_back_X1_keptCount : GoodIn wsX4_back (wsV RX4 176 RX1 yX1_keptCount wsX1_keptCount) := goodIn_app (goodIn_of _ (by decide +kernel)) ggX4_back_X1_keptCount
set_option maxRecDepth 20000 in
theorem ggX4_back_X4_isFrom0To : GoodIn wsX4_back wsX4_isFrom0To := goodIn_r _ [11] (by decide +kernel) (by decide +kernel)
set_option maxRecDepth 20000 in
theorem gX4_back_X4_isFrom0To : GoodIn wsX4_back (va_wsS RX4 93 yX4_isFrom0To wsX4_isFrom0To) := goodIn_app (goodIn_of _ (by decide +kernel)) ggX4_back_X4_isFrom0To
set_option maxRecDepth 20000 in
theorem ggX4_back_X1_dropLast : GoodIn wsX4_back wsX1_dropLast := goodIn_r _ [15, 7, 21, 22, 23, 24, 25] (by decide +kernel) (by decide +kernel)
set_option maxRecDepth 20000 in
theorem gX4_back_X1_dropLast : GoodIn wsX4_back (wsV RX4 179 RX1 yX1_dropLast wsX1_dropLast) := goodIn_app (goodIn_of _ (by decide +kernel)) ggX4_back_X1_dropLast
theorem dX4_back_0 : decode cX4_back 0 = .ok (.iload_n 1, 1) := by decide +kernel
theorem dX4_back_1 : decode cX4_back 1 = .ok (.aload_n 0, 1) := by decide +kernel
theorem dX4_back_2 : decode cX4_back 2 = .ok (.getfield 21, 3) := by decide +kernel
theorem dX4_back_5 : decode cX4_back 5 = .ok (.invokevirtual 176, 3) := by decide +kernel
theorem dX4_back_8 : decode cX4_back 8 = .ok (.invokestatic 93, 3) := by decide +kernel
theorem dX4_back_11 : decode cX4_back 11 = .ok (.ifCond .ne 6, 3) := by decide +kernel
theorem dX4_back_14 : decode cX4_back 14 = .ok (.bipush (-2), 2) := by decide +kernel
theorem dX4_back_16 : decode cX4_back 16 = .ok (.ireturn, 1) := by decide +kernel
theorem dX4_back_17 : decode cX4_back 17 = .ok (.aload_n 0, 1) := by decide +kernel
theorem dX4_back_18 : decode cX4_back 18 = .ok (.getfield 21, 3) := by decide +kernel
theorem dX4_back_21 : decode cX4_back 21 = .ok (.iload_n 1, 1) := by decide +kernel
theorem dX4_back_22 : decode cX4_back 22 = .ok (.invokevirtual 179, 3) := by decide +kernel
theorem dX4_back_25 : decode cX4_back 25 = .ok (.aload_n 0, 1) := by decide +kernel
theorem dX4_back_26 : decode cX4_back 26 = .ok (.getfield 21, 3) := by decide +kernel
theorem dX4_back_29 : decode cX4_back 29 = .ok (.invokevirtual 176, 3) := by decide +kernel
theorem dX4_back_32 : decode cX4_back 32 = .ok (.ireturn, 1) := by decide +kernel
set_option maxRecDepth 20000 in
theorem ggX4_stays_X0_hasEater : GoodIn wsX4_stays wsX0_hasEater := goodIn_r _ [7, 8, 64, 65, 66, 67, 68, 69, 70, 71] (by decide +kernel) (by decide +kernel)
set_option maxRecDepth 20000 in
theorem gX4_stays_X0_hasEater : GoodIn wsX4_stays (wsV RX4 69 RX0 yX0_hasEater wsX0_hasEater) := goodIn_app (goodIn_of _ (by decide +kernel)) ggX4_stays_X0_hasEater
set_option maxRecDepth 20000 in
theorem ggX4_stays_X0_kindOf : GoodIn wsX4_stays wsX0_kindOf := goodIn_r _ [12, 13, 14, 15, 16, 64, 65, 66, 67, 68, 69, 70, 71] (by decide +kernel) (by decide +kernel)
set_option maxRecDepth 20000 in
theorem gX4_stays_X0_kindOf : GoodIn wsX4_stays (wsV RX4 72 RX0 yX0_kindOf wsX0_kindOf) := goodIn_app (goodIn_of _ (by decide +kernel)) ggX4_stays_X0_kindOf
set_option maxRecDepth 20000 in
theorem ggX4_stays_X0_lastsBy : GoodIn wsX4_stays wsX0_lastsBy := goodIn_r _ [19] (by decide +kernel) (by decide +kernel)
set_option maxRecDepth 20000 in
theorem gX4_stays_X0_lastsBy : GoodIn wsX4_stays (va_wsS RX4 182 yX0_lastsBy wsX0_lastsBy) := goodIn_app (goodIn_of _ (by decide +kernel)) ggX4_stays_X0_lastsBy
set_option maxRecDepth 20000 in
theorem ggX4_stays_X0_sourLook : GoodIn wsX4_stays wsX0_sourLook := goodIn_r _ [23, 24, 64, 65, 66, 67, 68, 69, 70, 71] (by decide +kernel) (by decide +kernel)
set_option maxRecDepth 20000 in
theorem gX4_stays_X0_sourLook : GoodIn wsX4_stays (wsV RX4 105 RX0 yX0_sourLook wsX0_sourLook) := goodIn_app (goodIn_of _ (by decide +kernel)) ggX4_stays_X0_sourLook
set_option maxRecDepth 20000 in
theorem ggX4_stays_X1_allAreSo : GoodIn wsX4_stays wsX1_allAreSo := goodIn_r _ [29, 30, 31, 32, 33, 34, 14, 15, 16, 35, 36, 37, 6, 38, 13, 39, 40, 18, 19, 41, 42, 43, 44, 45, 46, 47, 48, 49, 50, 51, 52, 53, 54, 55, 56, 57, 58, 72, 73, 74, 75, 76, 64, 65, 66, 67, 68, 69, 70, 71] (by decide +kernel) (by decide +kernel)
set_option maxRecDepth 20000 in
theorem gX4_stays_X1_allAreSo : GoodIn wsX4_stays (wsV RX4 185 RX1 yX1_allAreSo wsX1_allAreSo) := goodIn_app (goodIn_of _ (by decide +kernel)) ggX4_stays_X1_allAreSo
theorem dX4_stays_0 : decode cX4_stays 0 = .ok (.aload_n 0, 1) := by decide +kernel
theorem dX4_stays_1 : decode cX4_stays 1 = .ok (.getfield 12, 3) := by decide +kernel
theorem dX4_stays_4 : decode cX4_stays 4 = .ok (.iload_n 1, 1) := by decide +kernel
theorem dX4_stays_5 : decode cX4_stays 5 = .ok (.invokevirtual 69, 3) := by decide +kernel
theorem dX4_stays_8 : decode cX4_stays 8 = .ok (.ifCond .ne 5, 3) := by decide +kernel
theorem dX4_stays_11 : decode cX4_stays 11 = .ok (.iconst (-1), 1) := by decide +kernel
theorem dX4_stays_12 : decode cX4_stays 12 = .ok (.ireturn, 1) := by decide +kernel
theorem dX4_stays_13 : decode cX4_stays 13 = .ok (.iconst 0, 1) := by decide +kernel
theorem dX4_stays_14 : decode cX4_stays 14 = .ok (.istore_n 2, 1) := by decide +kernel
theorem dX4_stays_15 : decode cX4_stays 15 = .ok (.iconst 0, 1) := by decide +kernel
theorem dX4_stays_16 : decode cX4_stays 16 = .ok (.istore_n 3, 1) := by decide +kernel
theorem dX4_stays_17 : decode cX4_stays 17 = .ok (.iload_n 3, 1) := by decide +kernel
theorem dX4_stays_18 : decode cX4_stays 18 = .ok (.iconst 5, 1) := by decide +kernel
theorem dX4_stays_19 : decode cX4_stays 19 = .ok (.if_icmp .gt 53, 3) := by decide +kernel
theorem dX4_stays_22 : decode cX4_stays 22 = .ok (.aload_n 0, 1) := by decide +kernel
theorem dX4_stays_23 : decode cX4_stays 23 = .ok (.getfield 12, 3) := by decide +kernel
theorem dX4_stays_26 : decode cX4_stays 26 = .ok (.iload_n 1, 1) := by decide +kernel
theorem dX4_stays_27 : decode cX4_stays 27 = .ok (.invokevirtual 72, 3) := by decide +kernel
theorem dX4_stays_30 : decode cX4_stays 30 = .ok (.iload_n 3, 1) := by decide +kernel
theorem dX4_stays_31 : decode cX4_stays 31 = .ok (.invokestatic 182, 3) := by decide +kernel
theorem dX4_stays_34 : decode cX4_stays 34 = .ok (.istore 4, 2) := by decide +kernel
theorem dX4_stays_36 : decode cX4_stays 36 = .ok (.aload_n 0, 1) := by decide +kernel
theorem dX4_stays_37 : decode cX4_stays 37 = .ok (.getfield 21, 3) := by decide +kernel
theorem dX4_stays_40 : decode cX4_stays 40 = .ok (.aload_n 0, 1) := by decide +kernel
theorem dX4_stays_41 : decode cX4_stays 41 = .ok (.getfield 12, 3) := by decide +kernel
theorem dX4_stays_44 : decode cX4_stays 44 = .ok (.iload_n 1, 1) := by decide +kernel
theorem dX4_stays_45 : decode cX4_stays 45 = .ok (.iload 4, 2) := by decide +kernel
theorem dX4_stays_47 : decode cX4_stays 47 = .ok (.aload_n 0, 1) := by decide +kernel
theorem dX4_stays_48 : decode cX4_stays 48 = .ok (.getfield 12, 3) := by decide +kernel
theorem dX4_stays_51 : decode cX4_stays 51 = .ok (.invokevirtual 105, 3) := by decide +kernel
theorem dX4_stays_54 : decode cX4_stays 54 = .ok (.invokevirtual 185, 3) := by decide +kernel
theorem dX4_stays_57 : decode cX4_stays 57 = .ok (.ifCond .eq 9, 3) := by decide +kernel
theorem dX4_stays_60 : decode cX4_stays 60 = .ok (.iload_n 2, 1) := by decide +kernel
theorem dX4_stays_61 : decode cX4_stays 61 = .ok (.iconst 1, 1) := by decide +kernel
theorem dX4_stays_62 : decode cX4_stays 62 = .ok (.iload_n 3, 1) := by decide +kernel
theorem dX4_stays_63 : decode cX4_stays 63 = .ok (.ishl, 1) := by decide +kernel
theorem dX4_stays_64 : decode cX4_stays 64 = .ok (.ior, 1) := by decide +kernel
theorem dX4_stays_65 : decode cX4_stays 65 = .ok (.istore_n 2, 1) := by decide +kernel
theorem dX4_stays_66 : decode cX4_stays 66 = .ok (.iinc 3 1, 3) := by decide +kernel
theorem dX4_stays_69 : decode cX4_stays 69 = .ok (.goto (-52), 3) := by decide +kernel
theorem dX4_stays_72 : decode cX4_stays 72 = .ok (.iload_n 2, 1) := by decide +kernel
theorem dX4_stays_73 : decode cX4_stays 73 = .ok (.ireturn, 1) := by decide +kernel
set_option maxRecDepth 20000 in
theorem ggX4_kinds_X0_hasEater : GoodIn wsX4_kinds wsX0_hasEater := goodIn_r _ [7, 8, 64, 65, 66, 67, 68, 69, 70, 71] (by decide +kernel) (by decide +kernel)
set_option maxRecDepth 20000 in
theorem gX4_kinds_X0_hasEater : GoodIn wsX4_kinds (wsV RX4 69 RX0 yX0_hasEater wsX0_hasEater) := goodIn_app (goodIn_of _ (by decide +kernel)) ggX4_kinds_X0_hasEater
set_option maxRecDepth 20000 in
theorem ggX4_kinds_X0_stayOf : GoodIn wsX4_kinds wsX0_stayOf := goodIn_r _ [12, 13, 14, 15, 16, 64, 65, 66, 67, 68, 69, 70, 71] (by decide +kernel) (by decide +kernel)
set_option maxRecDepth 20000 in
theorem gX4_kinds_X0_stayOf : GoodIn wsX4_kinds (wsV RX4 75 RX0 yX0_stayOf wsX0_stayOf) := goodIn_app (goodIn_of _ (by decide +kernel)) ggX4_kinds_X0_stayOf
set_option maxRecDepth 20000 in
theorem ggX4_kinds_X0_lastsBy : GoodIn wsX4_kinds wsX0_lastsBy := goodIn_r _ [19] (by decide +kernel) (by decide +kernel)
set_option maxRecDepth 20000 in
theorem gX4_kinds_X0_lastsBy : GoodIn wsX4_kinds (va_wsS RX4 182 yX0_lastsBy wsX0_lastsBy) := goodIn_app (goodIn_of _ (by decide +kernel)) ggX4_kinds_X0_lastsBy
set_option maxRecDepth 20000 in
theorem ggX4_kinds_X0_sourLook : GoodIn wsX4_kinds wsX0_sourLook := goodIn_r _ [23, 24, 64, 65, 66, 67, 68, 69, 70, 71] (by decide +kernel) (by decide +kernel)
set_option maxRecDepth 20000 in
theorem gX4_kinds_X0_sourLook : GoodIn wsX4_kinds (wsV RX4 105 RX0 yX0_sourLook wsX0_sourLook) := goodIn_app (goodIn_of _ (by decide +kernel)) ggX4_kinds_X0_sourLook
set_option maxRecDepth 20000 in
theorem ggX4_kinds_X1_allAreSo : GoodIn wsX4_kinds wsX1_allAreSo := goodIn_r _ [29, 30, 31, 32, 33, 34, 14, 15, 16, 35, 36, 37, 6, 38, 39, 13, 40, 18, 19, 41, 42, 43, 44, 45, 46, 47, 48, 49, 50, 51, 52, 53, 54, 55, 56, 57, 58, 72, 73, 74, 75, 76, 64, 65, 66, 67, 68, 69, 70, 71] (by decide +kernel) (by decide +kernel)
set_option maxRecDepth 20000 in
theorem gX4_kinds_X1_allAreSo : GoodIn wsX4_kinds (wsV RX4 185 RX1 yX1_allAreSo wsX1_allAreSo) := goodIn_app (goodIn_of _ (by decide +kernel)) ggX4_kinds_X1_allAreSo
theorem dX4_kinds_0 : decode cX4_kinds 0 = .ok (.aload_n 0, 1) := by decide +kernel
theorem dX4_kinds_1 : decode cX4_kinds 1 = .ok (.getfield 12, 3) := by decide +kernel
theorem dX4_kinds_4 : decode cX4_kinds 4 = .ok (.iload_n 1, 1) := by decide +kernel
theorem dX4_kinds_5 : decode cX4_kinds 5 = .ok (.invokevirtual 69, 3) := by decide +kernel
theorem dX4_kinds_8 : decode cX4_kinds 8 = .ok (.ifCond .ne 5, 3) := by decide +kernel
theorem dX4_kinds_11 : decode cX4_kinds 11 = .ok (.iconst (-1), 1) := by decide +kernel
theorem dX4_kinds_12 : decode cX4_kinds 12 = .ok (.ireturn, 1) := by decide +kernel
theorem dX4_kinds_13 : decode cX4_kinds 13 = .ok (.iconst 0, 1) := by decide +kernel
theorem dX4_kinds_14 : decode cX4_kinds 14 = .ok (.istore_n 2, 1) := by decide +kernel
theorem dX4_kinds_15 : decode cX4_kinds 15 = .ok (.iconst 0, 1) := by decide +kernel
theorem dX4_kinds_16 : decode cX4_kinds 16 = .ok (.istore_n 3, 1) := by decide +kernel
theorem dX4_kinds_17 : decode cX4_kinds 17 = .ok (.iload_n 3, 1) := by decide +kernel
theorem dX4_kinds_18 : decode cX4_kinds 18 = .ok (.iconst 2, 1) := by decide +kernel
theorem dX4_kinds_19 : decode cX4_kinds 19 = .ok (.if_icmp .gt 53, 3) := by decide +kernel
theorem dX4_kinds_22 : decode cX4_kinds 22 = .ok (.iload_n 3, 1) := by decide +kernel
theorem dX4_kinds_23 : decode cX4_kinds 23 = .ok (.aload_n 0, 1) := by decide +kernel
theorem dX4_kinds_24 : decode cX4_kinds 24 = .ok (.getfield 12, 3) := by decide +kernel
theorem dX4_kinds_27 : decode cX4_kinds 27 = .ok (.iload_n 1, 1) := by decide +kernel
theorem dX4_kinds_28 : decode cX4_kinds 28 = .ok (.invokevirtual 75, 3) := by decide +kernel
theorem dX4_kinds_31 : decode cX4_kinds 31 = .ok (.invokestatic 182, 3) := by decide +kernel
theorem dX4_kinds_34 : decode cX4_kinds 34 = .ok (.istore 4, 2) := by decide +kernel
theorem dX4_kinds_36 : decode cX4_kinds 36 = .ok (.aload_n 0, 1) := by decide +kernel
theorem dX4_kinds_37 : decode cX4_kinds 37 = .ok (.getfield 21, 3) := by decide +kernel
theorem dX4_kinds_40 : decode cX4_kinds 40 = .ok (.aload_n 0, 1) := by decide +kernel
theorem dX4_kinds_41 : decode cX4_kinds 41 = .ok (.getfield 12, 3) := by decide +kernel
theorem dX4_kinds_44 : decode cX4_kinds 44 = .ok (.iload_n 1, 1) := by decide +kernel
theorem dX4_kinds_45 : decode cX4_kinds 45 = .ok (.iload 4, 2) := by decide +kernel
theorem dX4_kinds_47 : decode cX4_kinds 47 = .ok (.aload_n 0, 1) := by decide +kernel
theorem dX4_kinds_48 : decode cX4_kinds 48 = .ok (.getfield 12, 3) := by decide +kernel
theorem dX4_kinds_51 : decode cX4_kinds 51 = .ok (.invokevirtual 105, 3) := by decide +kernel
theorem dX4_kinds_54 : decode cX4_kinds 54 = .ok (.invokevirtual 185, 3) := by decide +kernel
theorem dX4_kinds_57 : decode cX4_kinds 57 = .ok (.ifCond .eq 9, 3) := by decide +kernel
theorem dX4_kinds_60 : decode cX4_kinds 60 = .ok (.iload_n 2, 1) := by decide +kernel
theorem dX4_kinds_61 : decode cX4_kinds 61 = .ok (.iconst 1, 1) := by decide +kernel
theorem dX4_kinds_62 : decode cX4_kinds 62 = .ok (.iload_n 3, 1) := by decide +kernel
theorem dX4_kinds_63 : decode cX4_kinds 63 = .ok (.ishl, 1) := by decide +kernel
theorem dX4_kinds_64 : decode cX4_kinds 64 = .ok (.ior, 1) := by decide +kernel
theorem dX4_kinds_65 : decode cX4_kinds 65 = .ok (.istore_n 2, 1) := by decide +kernel
theorem dX4_kinds_66 : decode cX4_kinds 66 = .ok (.iinc 3 1, 3) := by decide +kernel
theorem dX4_kinds_69 : decode cX4_kinds 69 = .ok (.goto (-52), 3) := by decide +kernel
theorem dX4_kinds_72 : decode cX4_kinds 72 = .ok (.iload_n 2, 1) := by decide +kernel
theorem dX4_kinds_73 : decode cX4_kinds 73 = .ok (.ireturn, 1) := by decide +kernel
set_option maxRecDepth 20000 in
theorem ggX4_sours_X0_isTold : GoodIn wsX4_sours wsX0_isTold := goodIn_r _ [7, 8, 54, 55, 56, 57, 58, 59, 60, 61] (by decide +kernel) (by decide +kernel)
set_option maxRecDepth 20000 in
theorem gX4_sours_X0_isTold : GoodIn wsX4_sours (wsV RX4 101 RX0 yX0_isTold wsX0_isTold) := goodIn_app (goodIn_of _ (by decide +kernel)) ggX4_sours_X0_isTold
set_option maxRecDepth 20000 in
theorem ggX4_sours_X1_allAreSo : GoodIn wsX4_sours wsX1_allAreSo := goodIn_r _ [13, 14, 15, 16, 17, 18, 19, 20, 21, 22, 23, 24, 6, 25, 26, 27, 28, 29, 30, 31, 32, 33, 34, 35, 36, 37, 38, 39, 40, 41, 42, 43, 44, 45, 46, 47, 48, 62, 63, 64, 65, 66, 54, 55, 56, 57, 58, 59, 60, 61] (by decide +kernel) (by decide +kernel)
set_option maxRecDepth 20000 in
theorem gX4_sours_X1_allAreSo : GoodIn wsX4_sours (wsV RX4 185 RX1 yX1_allAreSo wsX1_allAreSo) := goodIn_app (goodIn_of _ (by decide +kernel)) ggX4_sours_X1_allAreSo
theorem dX4_sours_0 : decode cX4_sours 0 = .ok (.aload_n 0, 1) := by decide +kernel
theorem dX4_sours_1 : decode cX4_sours 1 = .ok (.getfield 12, 3) := by decide +kernel
theorem dX4_sours_4 : decode cX4_sours 4 = .ok (.invokevirtual 101, 3) := by decide +kernel
theorem dX4_sours_7 : decode cX4_sours 7 = .ok (.ifCond .ne 6, 3) := by decide +kernel
theorem dX4_sours_10 : decode cX4_sours 10 = .ok (.bipush (-3), 2) := by decide +kernel
theorem dX4_sours_12 : decode cX4_sours 12 = .ok (.ireturn, 1) := by decide +kernel
theorem dX4_sours_13 : decode cX4_sours 13 = .ok (.iconst 0, 1) := by decide +kernel
theorem dX4_sours_14 : decode cX4_sours 14 = .ok (.istore_n 1, 1) := by decide +kernel
theorem dX4_sours_15 : decode cX4_sours 15 = .ok (.iconst 0, 1) := by decide +kernel
theorem dX4_sours_16 : decode cX4_sours 16 = .ok (.istore_n 2, 1) := by decide +kernel
theorem dX4_sours_17 : decode cX4_sours 17 = .ok (.iload_n 2, 1) := by decide +kernel
theorem dX4_sours_18 : decode cX4_sours 18 = .ok (.bipush 9, 2) := by decide +kernel
theorem dX4_sours_20 : decode cX4_sours 20 = .ok (.if_icmp .gt 32, 3) := by decide +kernel
theorem dX4_sours_23 : decode cX4_sours 23 = .ok (.aload_n 0, 1) := by decide +kernel
theorem dX4_sours_24 : decode cX4_sours 24 = .ok (.getfield 21, 3) := by decide +kernel
theorem dX4_sours_27 : decode cX4_sours 27 = .ok (.aload_n 0, 1) := by decide +kernel
theorem dX4_sours_28 : decode cX4_sours 28 = .ok (.getfield 12, 3) := by decide +kernel
theorem dX4_sours_31 : decode cX4_sours 31 = .ok (.iconst (-1), 1) := by decide +kernel
theorem dX4_sours_32 : decode cX4_sours 32 = .ok (.iconst 0, 1) := by decide +kernel
theorem dX4_sours_33 : decode cX4_sours 33 = .ok (.iload_n 2, 1) := by decide +kernel
theorem dX4_sours_34 : decode cX4_sours 34 = .ok (.invokevirtual 185, 3) := by decide +kernel
theorem dX4_sours_37 : decode cX4_sours 37 = .ok (.ifCond .eq 9, 3) := by decide +kernel
theorem dX4_sours_40 : decode cX4_sours 40 = .ok (.iload_n 1, 1) := by decide +kernel
theorem dX4_sours_41 : decode cX4_sours 41 = .ok (.iconst 1, 1) := by decide +kernel
theorem dX4_sours_42 : decode cX4_sours 42 = .ok (.iload_n 2, 1) := by decide +kernel
theorem dX4_sours_43 : decode cX4_sours 43 = .ok (.ishl, 1) := by decide +kernel
theorem dX4_sours_44 : decode cX4_sours 44 = .ok (.ior, 1) := by decide +kernel
theorem dX4_sours_45 : decode cX4_sours 45 = .ok (.istore_n 1, 1) := by decide +kernel
theorem dX4_sours_46 : decode cX4_sours 46 = .ok (.iinc 2 1, 3) := by decide +kernel
theorem dX4_sours_49 : decode cX4_sours 49 = .ok (.goto (-32), 3) := by decide +kernel
theorem dX4_sours_52 : decode cX4_sours 52 = .ok (.iload_n 1, 1) := by decide +kernel
theorem dX4_sours_53 : decode cX4_sours 53 = .ok (.ireturn, 1) := by decide +kernel
set_option maxRecDepth 20000 in
theorem ggX4_odds_X0_hasEater : GoodIn wsX4_odds wsX0_hasEater := goodIn_r _ [7, 8, 49, 50, 51, 52, 53, 54, 55, 56] (by decide +kernel) (by decide +kernel)
set_option maxRecDepth 20000 in
theorem gX4_odds_X0_hasEater : GoodIn wsX4_odds (wsV RX4 69 RX0 yX0_hasEater wsX0_hasEater) := goodIn_app (goodIn_of _ (by decide +kernel)) ggX4_odds_X0_hasEater
set_option maxRecDepth 20000 in
theorem ggX4_odds_X0_hasDays : GoodIn wsX4_odds wsX0_hasDays := goodIn_r _ [12, 13, 14, 15, 6, 16, 17, 49, 50, 51, 52, 53, 54, 55, 56] (by decide +kernel) (by decide +kernel)
set_option maxRecDepth 20000 in
theorem gX4_odds_X0_hasDays : GoodIn wsX4_odds (wsV RX4 118 RX0 yX0_hasDays wsX0_hasDays) := goodIn_app (goodIn_of _ (by decide +kernel)) ggX4_odds_X0_hasDays
set_option maxRecDepth 20000 in
theorem ggX4_odds_X4_isFrom0To : GoodIn wsX4_odds wsX4_isFrom0To := goodIn_r _ [21] (by decide +kernel) (by decide +kernel)
set_option maxRecDepth 20000 in
theorem gX4_odds_X4_isFrom0To : GoodIn wsX4_odds (va_wsS RX4 93 yX4_isFrom0To wsX4_isFrom0To) := goodIn_app (goodIn_of _ (by decide +kernel)) ggX4_odds_X4_isFrom0To
set_option maxRecDepth 20000 in
theorem ggX4_odds_X0_lastsOf : GoodIn wsX4_odds wsX0_lastsOf := goodIn_r _ [25, 26, 27, 28, 20, 29, 30, 31, 6, 32, 49, 50, 51, 52, 53, 54, 55, 56] (by decide +kernel) (by decide +kernel)
set_option maxRecDepth 20000 in
theorem gX4_odds_X0_lastsOf : GoodIn wsX4_odds (wsV RX4 84 RX0 yX0_lastsOf wsX0_lastsOf) := goodIn_app (goodIn_of _ (by decide +kernel)) ggX4_odds_X0_lastsOf
set_option maxRecDepth 20000 in
theorem ggX4_odds_X0_yellowDays : GoodIn wsX4_odds wsX0_yellowDays := goodIn_r _ [36, 13, 14, 15, 6, 16, 17, 49, 50, 51, 52, 53, 54, 55, 56] (by decide +kernel) (by decide +kernel)
set_option maxRecDepth 20000 in
theorem gX4_odds_X0_yellowDays : GoodIn wsX4_odds (wsV RX4 121 RX0 yX0_yellowDays wsX0_yellowDays) := goodIn_app (goodIn_of _ (by decide +kernel)) ggX4_odds_X0_yellowDays
set_option maxRecDepth 20000 in
theorem ggX4_odds_J6_bitCount_0f7a4 : GoodIn wsX4_odds wsJ6_bitCount_0f7a4 := goodIn_r _ [40, 41, 42, 43] (by decide +kernel) (by decide +kernel)
set_option maxRecDepth 20000 in
theorem gX4_odds_J6_bitCount_0f7a4 : GoodIn wsX4_odds (va_wsS RX4 191 yJ6_bitCount_0f7a4 wsJ6_bitCount_0f7a4) := goodIn_app (goodIn_of _ (by decide +kernel)) ggX4_odds_J6_bitCount_0f7a4
theorem dX4_odds_0 : decode cX4_odds 0 = .ok (.aload_n 0, 1) := by decide +kernel
theorem dX4_odds_1 : decode cX4_odds 1 = .ok (.getfield 12, 3) := by decide +kernel
theorem dX4_odds_4 : decode cX4_odds 4 = .ok (.iload_n 1, 1) := by decide +kernel
theorem dX4_odds_5 : decode cX4_odds 5 = .ok (.invokevirtual 69, 3) := by decide +kernel
theorem dX4_odds_8 : decode cX4_odds 8 = .ok (.ifCond .eq 22, 3) := by decide +kernel
theorem dX4_odds_11 : decode cX4_odds 11 = .ok (.aload_n 0, 1) := by decide +kernel
theorem dX4_odds_12 : decode cX4_odds 12 = .ok (.getfield 12, 3) := by decide +kernel
theorem dX4_odds_15 : decode cX4_odds 15 = .ok (.iload_n 2, 1) := by decide +kernel
theorem dX4_odds_16 : decode cX4_odds 16 = .ok (.invokevirtual 118, 3) := by decide +kernel
theorem dX4_odds_19 : decode cX4_odds 19 = .ok (.ifCond .eq 11, 3) := by decide +kernel
theorem dX4_odds_22 : decode cX4_odds 22 = .ok (.iload_n 3, 1) := by decide +kernel
theorem dX4_odds_23 : decode cX4_odds 23 = .ok (.iconst 1, 1) := by decide +kernel
theorem dX4_odds_24 : decode cX4_odds 24 = .ok (.invokestatic 93, 3) := by decide +kernel
theorem dX4_odds_27 : decode cX4_odds 27 = .ok (.ifCond .ne 7, 3) := by decide +kernel
theorem dX4_odds_30 : decode cX4_odds 30 = .ok (.ldc2_w 189, 3) := by decide +kernel
theorem dX4_odds_33 : decode cX4_odds 33 = .ok (.lreturn, 1) := by decide +kernel
theorem dX4_odds_34 : decode cX4_odds 34 = .ok (.iload_n 3, 1) := by decide +kernel
theorem dX4_odds_35 : decode cX4_odds 35 = .ok (.ifCond .ne 7, 3) := by decide +kernel
theorem dX4_odds_38 : decode cX4_odds 38 = .ok (.lconst 1, 1) := by decide +kernel
theorem dX4_odds_39 : decode cX4_odds 39 = .ok (.goto 24, 3) := by decide +kernel
theorem dX4_odds_42 : decode cX4_odds 42 = .ok (.lconst 1, 1) := by decide +kernel
theorem dX4_odds_43 : decode cX4_odds 43 = .ok (.aload_n 0, 1) := by decide +kernel
theorem dX4_odds_44 : decode cX4_odds 44 = .ok (.getfield 12, 3) := by decide +kernel
theorem dX4_odds_47 : decode cX4_odds 47 = .ok (.aload_n 0, 1) := by decide +kernel
theorem dX4_odds_48 : decode cX4_odds 48 = .ok (.getfield 12, 3) := by decide +kernel
theorem dX4_odds_51 : decode cX4_odds 51 = .ok (.iload_n 1, 1) := by decide +kernel
theorem dX4_odds_52 : decode cX4_odds 52 = .ok (.invokevirtual 84, 3) := by decide +kernel
theorem dX4_odds_55 : decode cX4_odds 55 = .ok (.iload_n 2, 1) := by decide +kernel
theorem dX4_odds_56 : decode cX4_odds 56 = .ok (.invokevirtual 121, 3) := by decide +kernel
theorem dX4_odds_59 : decode cX4_odds 59 = .ok (.invokestatic 191, 3) := by decide +kernel
theorem dX4_odds_62 : decode cX4_odds 62 = .ok (.lshl, 1) := by decide +kernel
theorem dX4_odds_63 : decode cX4_odds 63 = .ok (.lreturn, 1) := by decide +kernel
set_option maxRecDepth 20000 in
theorem ggX4_sheet_X4_sheetAt : GoodIn wsX4_sheet wsX4_sheetAt := goodIn_r _ [6, 7, 27, 28, 29, 30, 31] (by decide +kernel) (by decide +kernel)
set_option maxRecDepth 20000 in
theorem gX4_sheet_X4_sheetAt : GoodIn wsX4_sheet (wsV RX4 36 RX4 yX4_sheetAt wsX4_sheetAt) := goodIn_app (goodIn_of _ (by decide +kernel)) ggX4_sheet_X4_sheetAt
set_option maxRecDepth 20000 in
theorem ggX4_sheet_X4_isLane : GoodIn wsX4_sheet wsX4_isLane := goodIn_r _ [10] (by decide +kernel) (by decide +kernel)
set_option maxRecDepth 20000 in
theorem gX4_sheet_X4_isLane : GoodIn wsX4_sheet (va_wsS RX4 40 yX4_isLane wsX4_isLane) := goodIn_app (goodIn_of _ (by decide +kernel)) ggX4_sheet_X4_isLane
set_option maxRecDepth 20000 in
theorem ggX4_sheet_X4_faulted : GoodIn wsX4_sheet wsX4_faulted := goodIn_r _ [14, 1, 27, 28, 29, 30, 31] (by decide +kernel) (by decide +kernel)
set_option maxRecDepth 20000 in
theorem gX4_sheet_X4_faulted : GoodIn wsX4_sheet (wsV RX4 48 RX4 yX4_faulted wsX4_faulted) := goodIn_app (goodIn_of _ (by decide +kernel)) ggX4_sheet_X4_faulted
set_option maxRecDepth 20000 in
theorem ggX4_sheet_X2_makeRow : GoodIn wsX4_sheet wsX2_makeRow := goodIn_r _ [19, 20, 21, 22, 23, 24, 25, 26, 32, 33, 34] (by decide +kernel) (by decide +kernel)
set_option maxRecDepth 20000 in
theorem gX4_sheet_X2_makeRow : GoodIn wsX4_sheet (wsV RX4 196 RX2 yX2_makeRow wsX2_makeRow) := goodIn_app (goodIn_of _ (by decide +kernel)) ggX4_sheet_X2_makeRow
theorem dX4_sheet_0 : decode cX4_sheet 0 = .ok (.aload_n 0, 1) := by decide +kernel
theorem dX4_sheet_1 : decode cX4_sheet 1 = .ok (.iconst 0, 1) := by decide +kernel
theorem dX4_sheet_2 : decode cX4_sheet 2 = .ok (.putfield 32, 3) := by decide +kernel
theorem dX4_sheet_5 : decode cX4_sheet 5 = .ok (.aload_n 0, 1) := by decide +kernel
theorem dX4_sheet_6 : decode cX4_sheet 6 = .ok (.iload_n 1, 1) := by decide +kernel
theorem dX4_sheet_7 : decode cX4_sheet 7 = .ok (.invokevirtual 36, 3) := by decide +kernel
theorem dX4_sheet_10 : decode cX4_sheet 10 = .ok (.astore 4, 2) := by decide +kernel
theorem dX4_sheet_12 : decode cX4_sheet 12 = .ok (.aload 4, 2) := by decide +kernel
theorem dX4_sheet_14 : decode cX4_sheet 14 = .ok (.ifnonnull 5, 3) := by decide +kernel
theorem dX4_sheet_17 : decode cX4_sheet 17 = .ok (.iconst (-1), 1) := by decide +kernel
theorem dX4_sheet_18 : decode cX4_sheet 18 = .ok (.ireturn, 1) := by decide +kernel
theorem dX4_sheet_19 : decode cX4_sheet 19 = .ok (.iload_n 2, 1) := by decide +kernel
theorem dX4_sheet_20 : decode cX4_sheet 20 = .ok (.invokestatic 40, 3) := by decide +kernel
theorem dX4_sheet_23 : decode cX4_sheet 23 = .ok (.ifCond .eq 9, 3) := by decide +kernel
theorem dX4_sheet_26 : decode cX4_sheet 26 = .ok (.iload_n 3, 1) := by decide +kernel
theorem dX4_sheet_27 : decode cX4_sheet 27 = .ok (.bipush 60, 2) := by decide +kernel
theorem dX4_sheet_29 : decode cX4_sheet 29 = .ok (.if_icmp .le 6, 3) := by decide +kernel
theorem dX4_sheet_32 : decode cX4_sheet 32 = .ok (.bipush (-2), 2) := by decide +kernel
theorem dX4_sheet_34 : decode cX4_sheet 34 = .ok (.ireturn, 1) := by decide +kernel
theorem dX4_sheet_35 : decode cX4_sheet 35 = .ok (.iload_n 3, 1) := by decide +kernel
theorem dX4_sheet_36 : decode cX4_sheet 36 = .ok (.ifCond .ge 9, 3) := by decide +kernel
theorem dX4_sheet_39 : decode cX4_sheet 39 = .ok (.aload_n 0, 1) := by decide +kernel
theorem dX4_sheet_40 : decode cX4_sheet 40 = .ok (.iconst 4, 1) := by decide +kernel
theorem dX4_sheet_41 : decode cX4_sheet 41 = .ok (.invokevirtual 48, 3) := by decide +kernel
theorem dX4_sheet_44 : decode cX4_sheet 44 = .ok (.ireturn, 1) := by decide +kernel
theorem dX4_sheet_45 : decode cX4_sheet 45 = .ok (.aload 4, 2) := by decide +kernel
theorem dX4_sheet_47 : decode cX4_sheet 47 = .ok (.iload_n 2, 1) := by decide +kernel
theorem dX4_sheet_48 : decode cX4_sheet 48 = .ok (.iload_n 3, 1) := by decide +kernel
theorem dX4_sheet_49 : decode cX4_sheet 49 = .ok (.invokevirtual 196, 3) := by decide +kernel
theorem dX4_sheet_52 : decode cX4_sheet 52 = .ok (.iconst 1, 1) := by decide +kernel
theorem dX4_sheet_53 : decode cX4_sheet 53 = .ok (.ireturn, 1) := by decide +kernel
set_option maxRecDepth 20000 in
theorem ggX4_lose_X4_sheetAt : GoodIn wsX4_lose wsX4_sheetAt := goodIn_r _ [5, 6, 17, 18, 19, 20, 21] (by decide +kernel) (by decide +kernel)
set_option maxRecDepth 20000 in
theorem gX4_lose_X4_sheetAt : GoodIn wsX4_lose (wsV RX4 36 RX4 yX4_sheetAt wsX4_sheetAt) := goodIn_app (goodIn_of _ (by decide +kernel)) ggX4_lose_X4_sheetAt
set_option maxRecDepth 20000 in
theorem ggX4_lose_X2_hasRow : GoodIn wsX4_lose wsX2_hasRow := goodIn_r _ [11, 12, 22, 23, 24] (by decide +kernel) (by decide +kernel)
set_option maxRecDepth 20000 in
theorem gX4_lose_X2_hasRow : GoodIn wsX4_lose (wsV RX4 199 RX2 yX2_hasRow wsX2_hasRow) := goodIn_app (goodIn_of _ (by decide +kernel)) ggX4_lose_X2_hasRow
set_option maxRecDepth 20000 in
theorem ggX4_lose_X2_dropRow : GoodIn wsX4_lose wsX2_dropRow := goodIn_r _ [16, 12, 22, 23, 24] (by decide +kernel) (by decide +kernel)
set_option maxRecDepth 20000 in
theorem gX4_lose_X2_dropRow : GoodIn wsX4_lose (wsV RX4 202 RX2 yX2_dropRow wsX2_dropRow) := goodIn_app (goodIn_of _ (by decide +kernel)) ggX4_lose_X2_dropRow
theorem dX4_lose_0 : decode cX4_lose 0 = .ok (.aload_n 0, 1) := by decide +kernel
theorem dX4_lose_1 : decode cX4_lose 1 = .ok (.iload_n 1, 1) := by decide +kernel
theorem dX4_lose_2 : decode cX4_lose 2 = .ok (.invokevirtual 36, 3) := by decide +kernel
theorem dX4_lose_5 : decode cX4_lose 5 = .ok (.astore_n 2, 1) := by decide +kernel
theorem dX4_lose_6 : decode cX4_lose 6 = .ok (.aload_n 2, 1) := by decide +kernel
theorem dX4_lose_7 : decode cX4_lose 7 = .ok (.ifnonnull 5, 3) := by decide +kernel
theorem dX4_lose_10 : decode cX4_lose 10 = .ok (.iconst (-1), 1) := by decide +kernel
theorem dX4_lose_11 : decode cX4_lose 11 = .ok (.ireturn, 1) := by decide +kernel
theorem dX4_lose_12 : decode cX4_lose 12 = .ok (.aload_n 2, 1) := by decide +kernel
theorem dX4_lose_13 : decode cX4_lose 13 = .ok (.invokevirtual 199, 3) := by decide +kernel
theorem dX4_lose_16 : decode cX4_lose 16 = .ok (.ifCond .ne 5, 3) := by decide +kernel
theorem dX4_lose_19 : decode cX4_lose 19 = .ok (.iconst 0, 1) := by decide +kernel
theorem dX4_lose_20 : decode cX4_lose 20 = .ok (.ireturn, 1) := by decide +kernel
theorem dX4_lose_21 : decode cX4_lose 21 = .ok (.aload_n 2, 1) := by decide +kernel
theorem dX4_lose_22 : decode cX4_lose 22 = .ok (.invokevirtual 202, 3) := by decide +kernel
theorem dX4_lose_25 : decode cX4_lose 25 = .ok (.iconst 1, 1) := by decide +kernel
theorem dX4_lose_26 : decode cX4_lose 26 = .ok (.ireturn, 1) := by decide +kernel
set_option maxRecDepth 20000 in
theorem ggX4_put_X4_sheetAt : GoodIn wsX4_put wsX4_sheetAt := goodIn_r _ [6, 7, 42, 43, 44, 45, 46] (by decide +kernel) (by decide +kernel)
set_option maxRecDepth 20000 in
theorem gX4_put_X4_sheetAt : GoodIn wsX4_put (wsV RX4 36 RX4 yX4_sheetAt wsX4_sheetAt) := goodIn_app (goodIn_of _ (by decide +kernel)) ggX4_put_X4_sheetAt
set_option maxRecDepth 20000 in
theorem ggX4_put_X2_rowLane : GoodIn wsX4_put wsX2_rowLane := goodIn_r _ [12, 13, 47, 48, 49] (by decide +kernel) (by decide +kernel)
set_option maxRecDepth 20000 in
theorem gX4_put_X2_rowLane : GoodIn wsX4_put (wsV RX4 205 RX2 yX2_rowLane wsX2_rowLane) := goodIn_app (goodIn_of _ (by decide +kernel)) ggX4_put_X2_rowLane
set_option maxRecDepth 20000 in
theorem ggX4_put_X2_faultOfCells : GoodIn wsX4_put wsX2_faultOfCells := goodIn_r _ [17, 13, 18, 19, 20, 11, 21, 22, 23, 24, 25, 26, 47, 48, 49] (by decide +kernel) (by decide +kernel)
set_option maxRecDepth 20000 in
theorem gX4_put_X2_faultOfCells : GoodIn wsX4_put (wsV RX4 44 RX2 yX2_faultOfCells wsX2_faultOfCells) := goodIn_app (goodIn_of _ (by decide +kernel)) ggX4_put_X2_faultOfCells
set_option maxRecDepth 20000 in
theorem ggX4_put_X4_faulted : GoodIn wsX4_put wsX4_faulted := goodIn_r _ [30, 1, 42, 43, 44, 45, 46] (by decide +kernel) (by decide +kernel)
set_option maxRecDepth 20000 in
theorem gX4_put_X4_faulted : GoodIn wsX4_put (wsV RX4 48 RX4 yX4_faulted wsX4_faulted) := goodIn_app (goodIn_of _ (by decide +kernel)) ggX4_put_X4_faulted
set_option maxRecDepth 20000 in
theorem ggX4_put_X2_write : GoodIn wsX4_put wsX2_write := goodIn_r _ [34, 35, 36, 37, 38, 11, 39, 13, 40, 5, 41, 47, 48, 49] (by decide +kernel) (by decide +kernel)
set_option maxRecDepth 20000 in
theorem gX4_put_X2_write : GoodIn wsX4_put (wsV RX4 208 RX2 yX2_write wsX2_write) := goodIn_app (goodIn_of _ (by decide +kernel)) ggX4_put_X2_write
theorem dX4_put_0 : decode cX4_put 0 = .ok (.aload_n 0, 1) := by decide +kernel
theorem dX4_put_1 : decode cX4_put 1 = .ok (.iconst 0, 1) := by decide +kernel
theorem dX4_put_2 : decode cX4_put 2 = .ok (.putfield 32, 3) := by decide +kernel
theorem dX4_put_5 : decode cX4_put 5 = .ok (.aload_n 0, 1) := by decide +kernel
theorem dX4_put_6 : decode cX4_put 6 = .ok (.iload_n 1, 1) := by decide +kernel
theorem dX4_put_7 : decode cX4_put 7 = .ok (.invokevirtual 36, 3) := by decide +kernel
theorem dX4_put_10 : decode cX4_put 10 = .ok (.astore 4, 2) := by decide +kernel
theorem dX4_put_12 : decode cX4_put 12 = .ok (.aload 4, 2) := by decide +kernel
theorem dX4_put_14 : decode cX4_put 14 = .ok (.ifnonnull 5, 3) := by decide +kernel
theorem dX4_put_17 : decode cX4_put 17 = .ok (.iconst (-1), 1) := by decide +kernel
theorem dX4_put_18 : decode cX4_put 18 = .ok (.ireturn, 1) := by decide +kernel
theorem dX4_put_19 : decode cX4_put 19 = .ok (.aload 4, 2) := by decide +kernel
theorem dX4_put_21 : decode cX4_put 21 = .ok (.aload 4, 2) := by decide +kernel
theorem dX4_put_23 : decode cX4_put 23 = .ok (.invokevirtual 205, 3) := by decide +kernel
theorem dX4_put_26 : decode cX4_put 26 = .ok (.iload_n 2, 1) := by decide +kernel
theorem dX4_put_27 : decode cX4_put 27 = .ok (.iconst 1, 1) := by decide +kernel
theorem dX4_put_28 : decode cX4_put 28 = .ok (.invokevirtual 44, 3) := by decide +kernel
theorem dX4_put_31 : decode cX4_put 31 = .ok (.istore 5, 2) := by decide +kernel
theorem dX4_put_33 : decode cX4_put 33 = .ok (.iload 5, 2) := by decide +kernel
theorem dX4_put_35 : decode cX4_put 35 = .ok (.ifCond .eq 10, 3) := by decide +kernel
theorem dX4_put_38 : decode cX4_put 38 = .ok (.aload_n 0, 1) := by decide +kernel
theorem dX4_put_39 : decode cX4_put 39 = .ok (.iload 5, 2) := by decide +kernel
theorem dX4_put_41 : decode cX4_put 41 = .ok (.invokevirtual 48, 3) := by decide +kernel
theorem dX4_put_44 : decode cX4_put 44 = .ok (.ireturn, 1) := by decide +kernel
theorem dX4_put_45 : decode cX4_put 45 = .ok (.aload 4, 2) := by decide +kernel
theorem dX4_put_47 : decode cX4_put 47 = .ok (.iload_n 2, 1) := by decide +kernel
theorem dX4_put_48 : decode cX4_put 48 = .ok (.iload_n 3, 1) := by decide +kernel
theorem dX4_put_49 : decode cX4_put 49 = .ok (.invokevirtual 208, 3) := by decide +kernel
theorem dX4_put_52 : decode cX4_put 52 = .ok (.iconst 1, 1) := by decide +kernel
theorem dX4_put_53 : decode cX4_put 53 = .ok (.ireturn, 1) := by decide +kernel
set_option maxRecDepth 20000 in
theorem ggX4_cell_X4_sheetAt : GoodIn wsX4_cell wsX4_sheetAt := goodIn_r _ [7, 8, 34, 35, 36, 37, 38] (by decide +kernel) (by decide +kernel)
set_option maxRecDepth 20000 in
theorem gX4_cell_X4_sheetAt : GoodIn wsX4_cell (wsV RX4 36 RX4 yX4_sheetAt wsX4_sheetAt) := goodIn_app (goodIn_of _ (by decide +kernel)) ggX4_cell_X4_sheetAt
set_option maxRecDepth 20000 in
theorem ggX4_cell_X4_isLane : GoodIn wsX4_cell wsX4_isLane := goodIn_r _ [11] (by decide +kernel) (by decide +kernel)
set_option maxRecDepth 20000 in
theorem gX4_cell_X4_isLane : GoodIn wsX4_cell (va_wsS RX4 40 yX4_isLane wsX4_isLane) := goodIn_app (goodIn_of _ (by decide +kernel)) ggX4_cell_X4_isLane
set_option maxRecDepth 20000 in
theorem ggX4_cell_X2_faultOfCells : GoodIn wsX4_cell wsX2_faultOfCells := goodIn_r _ [16, 17, 18, 19, 20, 15, 21, 22, 23, 24, 25, 26, 39, 40, 41] (by decide +kernel) (by decide +kernel)
set_option maxRecDepth 20000 in
theorem gX4_cell_X2_faultOfCells : GoodIn wsX4_cell (wsV RX4 44 RX2 yX2_faultOfCells wsX2_faultOfCells) := goodIn_app (goodIn_of _ (by decide +kernel)) ggX4_cell_X2_faultOfCells
set_option maxRecDepth 20000 in
theorem ggX4_cell_X2_numberAt : GoodIn wsX4_cell wsX2_numberAt := goodIn_r _ [30, 31, 32, 6, 33, 39, 40, 41] (by decide +kernel) (by decide +kernel)
set_option maxRecDepth 20000 in
theorem gX4_cell_X2_numberAt : GoodIn wsX4_cell (wsV RX4 211 RX2 yX2_numberAt wsX2_numberAt) := goodIn_app (goodIn_of _ (by decide +kernel)) ggX4_cell_X2_numberAt
theorem dX4_cell_0 : decode cX4_cell 0 = .ok (.aload_n 0, 1) := by decide +kernel
theorem dX4_cell_1 : decode cX4_cell 1 = .ok (.iconst 0, 1) := by decide +kernel
theorem dX4_cell_2 : decode cX4_cell 2 = .ok (.putfield 32, 3) := by decide +kernel
theorem dX4_cell_5 : decode cX4_cell 5 = .ok (.aload_n 0, 1) := by decide +kernel
theorem dX4_cell_6 : decode cX4_cell 6 = .ok (.iload_n 1, 1) := by decide +kernel
theorem dX4_cell_7 : decode cX4_cell 7 = .ok (.invokevirtual 36, 3) := by decide +kernel
theorem dX4_cell_10 : decode cX4_cell 10 = .ok (.astore 4, 2) := by decide +kernel
theorem dX4_cell_12 : decode cX4_cell 12 = .ok (.aload 4, 2) := by decide +kernel
theorem dX4_cell_14 : decode cX4_cell 14 = .ok (.ifnull 10, 3) := by decide +kernel
theorem dX4_cell_17 : decode cX4_cell 17 = .ok (.iload_n 3, 1) := by decide +kernel
theorem dX4_cell_18 : decode cX4_cell 18 = .ok (.invokestatic 40, 3) := by decide +kernel
theorem dX4_cell_21 : decode cX4_cell 21 = .ok (.ifCond .ne 7, 3) := by decide +kernel
theorem dX4_cell_24 : decode cX4_cell 24 = .ok (.ldc2_w 189, 3) := by decide +kernel
theorem dX4_cell_27 : decode cX4_cell 27 = .ok (.lreturn, 1) := by decide +kernel
theorem dX4_cell_28 : decode cX4_cell 28 = .ok (.aload 4, 2) := by decide +kernel
theorem dX4_cell_30 : decode cX4_cell 30 = .ok (.iload_n 3, 1) := by decide +kernel
theorem dX4_cell_31 : decode cX4_cell 31 = .ok (.iload_n 2, 1) := by decide +kernel
theorem dX4_cell_32 : decode cX4_cell 32 = .ok (.iconst 1, 1) := by decide +kernel
theorem dX4_cell_33 : decode cX4_cell 33 = .ok (.invokevirtual 44, 3) := by decide +kernel
theorem dX4_cell_36 : decode cX4_cell 36 = .ok (.istore 5, 2) := by decide +kernel
theorem dX4_cell_38 : decode cX4_cell 38 = .ok (.iload 5, 2) := by decide +kernel
theorem dX4_cell_40 : decode cX4_cell 40 = .ok (.ifCond .eq 13, 3) := by decide +kernel
theorem dX4_cell_43 : decode cX4_cell 43 = .ok (.aload_n 0, 1) := by decide +kernel
theorem dX4_cell_44 : decode cX4_cell 44 = .ok (.iload 5, 2) := by decide +kernel
theorem dX4_cell_46 : decode cX4_cell 46 = .ok (.putfield 32, 3) := by decide +kernel
theorem dX4_cell_49 : decode cX4_cell 49 = .ok (.ldc2_w 189, 3) := by decide +kernel
theorem dX4_cell_52 : decode cX4_cell 52 = .ok (.lreturn, 1) := by decide +kernel
theorem dX4_cell_53 : decode cX4_cell 53 = .ok (.aload 4, 2) := by decide +kernel
theorem dX4_cell_55 : decode cX4_cell 55 = .ok (.iload_n 2, 1) := by decide +kernel
theorem dX4_cell_56 : decode cX4_cell 56 = .ok (.invokevirtual 211, 3) := by decide +kernel
theorem dX4_cell_59 : decode cX4_cell 59 = .ok (.i2l, 1) := by decide +kernel
theorem dX4_cell_60 : decode cX4_cell 60 = .ok (.lreturn, 1) := by decide +kernel
set_option maxRecDepth 20000 in
theorem ggX4_copy_X4_sheetAt : GoodIn wsX4_copy wsX4_sheetAt := goodIn_r _ [6, 7, 37, 38, 39, 40, 41] (by decide +kernel) (by decide +kernel)
set_option maxRecDepth 20000 in
theorem gX4_copy_X4_sheetAt : GoodIn wsX4_copy (wsV RX4 36 RX4 yX4_sheetAt wsX4_sheetAt) := goodIn_app (goodIn_of _ (by decide +kernel)) ggX4_copy_X4_sheetAt
set_option maxRecDepth 20000 in
theorem ggX4_copy_X2_hasRow : GoodIn wsX4_copy wsX2_hasRow := goodIn_r _ [12, 13, 42, 43, 44] (by decide +kernel) (by decide +kernel)
set_option maxRecDepth 20000 in
theorem gX4_copy_X2_hasRow : GoodIn wsX4_copy (wsV RX4 199 RX2 yX2_hasRow wsX2_hasRow) := goodIn_app (goodIn_of _ (by decide +kernel)) ggX4_copy_X2_hasRow
set_option maxRecDepth 20000 in
theorem ggX4_copy_X4_faulted : GoodIn wsX4_copy wsX4_faulted := goodIn_r _ [17, 1, 37, 38, 39, 40, 41] (by decide +kernel) (by decide +kernel)
set_option maxRecDepth 20000 in
theorem gX4_copy_X4_faulted : GoodIn wsX4_copy (wsV RX4 48 RX4 yX4_faulted wsX4_faulted) := goodIn_app (goodIn_of _ (by decide +kernel)) ggX4_copy_X4_faulted
set_option maxRecDepth 20000 in
theorem ggX4_copy_X2_rowLane : GoodIn wsX4_copy wsX2_rowLane := goodIn_r _ [21, 22, 42, 43, 44] (by decide +kernel) (by decide +kernel)
set_option maxRecDepth 20000 in
theorem gX4_copy_X2_rowLane : GoodIn wsX4_copy (wsV RX4 205 RX2 yX2_rowLane wsX2_rowLane) := goodIn_app (goodIn_of _ (by decide +kernel)) ggX4_copy_X2_rowLane
set_option maxRecDepth 20000 in
theorem ggX4_copy_X2_hasCells : GoodIn wsX4_copy wsX2_hasCells := goodIn_r _ [26, 13, 42, 43, 44] (by decide +kernel) (by decide +kernel)
set_option maxRecDepth 20000 in
theorem gX4_copy_X2_hasCells : GoodIn wsX4_copy (wsV RX4 214 RX2 yX2_hasCells wsX2_hasCells) := goodIn_app (goodIn_of _ (by decide +kernel)) ggX4_copy_X2_hasCells
set_option maxRecDepth 20000 in
theorem ggX4_copy_X2_copyTo : GoodIn wsX4_copy wsX2_copyTo := goodIn_r _ [30, 31, 32, 33, 34, 35, 36, 24, 25, 11, 26, 13, 42, 43, 44] (by decide +kernel) (by decide +kernel)
set_option maxRecDepth 20000 in
theorem gX4_copy_X2_copyTo : GoodIn wsX4_copy (wsV RX4 217 RX2 yX2_copyTo wsX2_copyTo) := goodIn_app (goodIn_of _ (by decide +kernel)) ggX4_copy_X2_copyTo
theorem dX4_copy_0 : decode cX4_copy 0 = .ok (.aload_n 0, 1) := by decide +kernel
theorem dX4_copy_1 : decode cX4_copy 1 = .ok (.iconst 0, 1) := by decide +kernel
theorem dX4_copy_2 : decode cX4_copy 2 = .ok (.putfield 32, 3) := by decide +kernel
theorem dX4_copy_5 : decode cX4_copy 5 = .ok (.aload_n 0, 1) := by decide +kernel
theorem dX4_copy_6 : decode cX4_copy 6 = .ok (.iload_n 1, 1) := by decide +kernel
theorem dX4_copy_7 : decode cX4_copy 7 = .ok (.invokevirtual 36, 3) := by decide +kernel
theorem dX4_copy_10 : decode cX4_copy 10 = .ok (.astore 6, 2) := by decide +kernel
theorem dX4_copy_12 : decode cX4_copy 12 = .ok (.aload_n 0, 1) := by decide +kernel
theorem dX4_copy_13 : decode cX4_copy 13 = .ok (.iload_n 3, 1) := by decide +kernel
theorem dX4_copy_14 : decode cX4_copy 14 = .ok (.invokevirtual 36, 3) := by decide +kernel
theorem dX4_copy_17 : decode cX4_copy 17 = .ok (.astore 7, 2) := by decide +kernel
theorem dX4_copy_19 : decode cX4_copy 19 = .ok (.aload 6, 2) := by decide +kernel
theorem dX4_copy_21 : decode cX4_copy 21 = .ok (.ifnull 8, 3) := by decide +kernel
theorem dX4_copy_24 : decode cX4_copy 24 = .ok (.aload 7, 2) := by decide +kernel
theorem dX4_copy_26 : decode cX4_copy 26 = .ok (.ifnonnull 5, 3) := by decide +kernel
theorem dX4_copy_29 : decode cX4_copy 29 = .ok (.iconst (-1), 1) := by decide +kernel
theorem dX4_copy_30 : decode cX4_copy 30 = .ok (.ireturn, 1) := by decide +kernel
theorem dX4_copy_31 : decode cX4_copy 31 = .ok (.aload 6, 2) := by decide +kernel
theorem dX4_copy_33 : decode cX4_copy 33 = .ok (.invokevirtual 199, 3) := by decide +kernel
theorem dX4_copy_36 : decode cX4_copy 36 = .ok (.ifCond .eq 11, 3) := by decide +kernel
theorem dX4_copy_39 : decode cX4_copy 39 = .ok (.aload 7, 2) := by decide +kernel
theorem dX4_copy_41 : decode cX4_copy 41 = .ok (.invokevirtual 199, 3) := by decide +kernel
theorem dX4_copy_44 : decode cX4_copy 44 = .ok (.ifCond .ne 9, 3) := by decide +kernel
theorem dX4_copy_47 : decode cX4_copy 47 = .ok (.aload_n 0, 1) := by decide +kernel
theorem dX4_copy_48 : decode cX4_copy 48 = .ok (.iconst 1, 1) := by decide +kernel
theorem dX4_copy_49 : decode cX4_copy 49 = .ok (.invokevirtual 48, 3) := by decide +kernel
theorem dX4_copy_52 : decode cX4_copy 52 = .ok (.ireturn, 1) := by decide +kernel
theorem dX4_copy_53 : decode cX4_copy 53 = .ok (.aload 6, 2) := by decide +kernel
theorem dX4_copy_55 : decode cX4_copy 55 = .ok (.invokevirtual 205, 3) := by decide +kernel
theorem dX4_copy_58 : decode cX4_copy 58 = .ok (.aload 7, 2) := by decide +kernel
theorem dX4_copy_60 : decode cX4_copy 60 = .ok (.invokevirtual 205, 3) := by decide +kernel
theorem dX4_copy_63 : decode cX4_copy 63 = .ok (.if_icmp .eq 9, 3) := by decide +kernel
theorem dX4_copy_66 : decode cX4_copy 66 = .ok (.aload_n 0, 1) := by decide +kernel
theorem dX4_copy_67 : decode cX4_copy 67 = .ok (.iconst 2, 1) := by decide +kernel
theorem dX4_copy_68 : decode cX4_copy 68 = .ok (.invokevirtual 48, 3) := by decide +kernel
theorem dX4_copy_71 : decode cX4_copy 71 = .ok (.ireturn, 1) := by decide +kernel
theorem dX4_copy_72 : decode cX4_copy 72 = .ok (.aload 6, 2) := by decide +kernel
theorem dX4_copy_74 : decode cX4_copy 74 = .ok (.iload_n 2, 1) := by decide +kernel
theorem dX4_copy_75 : decode cX4_copy 75 = .ok (.iload 5, 2) := by decide +kernel
theorem dX4_copy_77 : decode cX4_copy 77 = .ok (.invokevirtual 214, 3) := by decide +kernel
theorem dX4_copy_80 : decode cX4_copy 80 = .ok (.ifCond .eq 15, 3) := by decide +kernel
theorem dX4_copy_83 : decode cX4_copy 83 = .ok (.aload 7, 2) := by decide +kernel
theorem dX4_copy_85 : decode cX4_copy 85 = .ok (.iload 4, 2) := by decide +kernel
theorem dX4_copy_87 : decode cX4_copy 87 = .ok (.iload 5, 2) := by decide +kernel
theorem dX4_copy_89 : decode cX4_copy 89 = .ok (.invokevirtual 214, 3) := by decide +kernel
theorem dX4_copy_92 : decode cX4_copy 92 = .ok (.ifCond .ne 9, 3) := by decide +kernel
theorem dX4_copy_95 : decode cX4_copy 95 = .ok (.aload_n 0, 1) := by decide +kernel
theorem dX4_copy_96 : decode cX4_copy 96 = .ok (.iconst 3, 1) := by decide +kernel
theorem dX4_copy_97 : decode cX4_copy 97 = .ok (.invokevirtual 48, 3) := by decide +kernel
theorem dX4_copy_100 : decode cX4_copy 100 = .ok (.ireturn, 1) := by decide +kernel
theorem dX4_copy_101 : decode cX4_copy 101 = .ok (.aload 6, 2) := by decide +kernel
theorem dX4_copy_103 : decode cX4_copy 103 = .ok (.iload_n 2, 1) := by decide +kernel
theorem dX4_copy_104 : decode cX4_copy 104 = .ok (.aload 7, 2) := by decide +kernel
theorem dX4_copy_106 : decode cX4_copy 106 = .ok (.iload 4, 2) := by decide +kernel
theorem dX4_copy_108 : decode cX4_copy 108 = .ok (.iload 5, 2) := by decide +kernel
theorem dX4_copy_110 : decode cX4_copy 110 = .ok (.invokevirtual 217, 3) := by decide +kernel
theorem dX4_copy_113 : decode cX4_copy 113 = .ok (.iload 5, 2) := by decide +kernel
theorem dX4_copy_115 : decode cX4_copy 115 = .ok (.ireturn, 1) := by decide +kernel
set_option maxRecDepth 20000 in
theorem ggX4_tell_X0_hasEater : GoodIn wsX4_tell wsX0_hasEater := goodIn_r _ [6, 7, 43, 44, 45, 46, 47, 48, 49, 50] (by decide +kernel) (by decide +kernel)
set_option maxRecDepth 20000 in
theorem gX4_tell_X0_hasEater : GoodIn wsX4_tell (wsV RX4 69 RX0 yX0_hasEater wsX0_hasEater) := goodIn_app (goodIn_of _ (by decide +kernel)) ggX4_tell_X0_hasEater
set_option maxRecDepth 20000 in
theorem ggX4_tell_X0_kindOf : GoodIn wsX4_tell wsX0_kindOf := goodIn_r _ [11, 12, 13, 14, 15, 43, 44, 45, 46, 47, 48, 49, 50] (by decide +kernel) (by decide +kernel)
set_option maxRecDepth 20000 in
theorem gX4_tell_X0_kindOf : GoodIn wsX4_tell (wsV RX4 72 RX0 yX0_kindOf wsX0_kindOf) := goodIn_app (goodIn_of _ (by decide +kernel)) ggX4_tell_X0_kindOf
set_option maxRecDepth 20000 in
theorem ggX4_tell_X4_strangerTelling : GoodIn wsX4_tell wsX4_strangerTelling := goodIn_r _ [19, 20, 21, 22, 14, 23, 24, 25, 26, 27, 28, 29, 30, 31, 32, 1, 33, 34, 35, 5, 36, 37, 13, 15, 38, 39, 40, 41, 42, 43, 44, 45, 46, 47, 48, 49, 50] (by decide +kernel) (by decide +kernel)
set_option maxRecDepth 20000 in
theorem gX4_tell_X4_strangerTelling : GoodIn wsX4_tell (wsV RX4 221 RX4 yX4_strangerTelling wsX4_strangerTelling) := goodIn_app (goodIn_of _ (by decide +kernel)) ggX4_tell_X4_strangerTelling
set_option maxRecDepth 20000 in
theorem ggX4_tell_X4_slyTelling : GoodIn wsX4_tell wsX4_slyTelling := goodIn_r _ [28, 20, 21, 22, 14, 23, 24, 29, 30, 31, 32, 1, 33, 34, 35, 5, 36, 37, 13, 15, 38, 39, 40, 41, 42, 43, 44, 45, 46, 47, 48, 49, 50] (by decide +kernel) (by decide +kernel)
set_option maxRecDepth 20000 in
theorem gX4_tell_X4_slyTelling : GoodIn wsX4_tell (wsV RX4 224 RX4 yX4_slyTelling wsX4_slyTelling) := goodIn_app (goodIn_of _ (by decide +kernel)) ggX4_tell_X4_slyTelling
set_option maxRecDepth 20000 in
theorem ggX4_tell_X4_eaterTelling : GoodIn wsX4_tell wsX4_eaterTelling := goodIn_r _ [32, 1, 20, 21, 22, 14, 23, 24, 33, 34, 35, 5, 36, 37, 13, 15, 38, 39, 40, 41, 42, 43, 44, 45, 46, 47, 48, 49, 50] (by decide +kernel) (by decide +kernel)
set_option maxRecDepth 20000 in
theorem gX4_tell_X4_eaterTelling : GoodIn wsX4_tell (wsV RX4 227 RX4 yX4_eaterTelling wsX4_eaterTelling) := goodIn_app (goodIn_of _ (by decide +kernel)) ggX4_tell_X4_eaterTelling
theorem dX4_tell_0 : decode cX4_tell 0 = .ok (.aload_n 0, 1) := by decide +kernel
theorem dX4_tell_1 : decode cX4_tell 1 = .ok (.getfield 12, 3) := by decide +kernel
theorem dX4_tell_4 : decode cX4_tell 4 = .ok (.iload_n 1, 1) := by decide +kernel
theorem dX4_tell_5 : decode cX4_tell 5 = .ok (.invokevirtual 69, 3) := by decide +kernel
theorem dX4_tell_8 : decode cX4_tell 8 = .ok (.ifCond .ne 5, 3) := by decide +kernel
theorem dX4_tell_11 : decode cX4_tell 11 = .ok (.iconst (-1), 1) := by decide +kernel
theorem dX4_tell_12 : decode cX4_tell 12 = .ok (.ireturn, 1) := by decide +kernel
theorem dX4_tell_13 : decode cX4_tell 13 = .ok (.aload_n 0, 1) := by decide +kernel
theorem dX4_tell_14 : decode cX4_tell 14 = .ok (.getfield 12, 3) := by decide +kernel
theorem dX4_tell_17 : decode cX4_tell 17 = .ok (.iload_n 1, 1) := by decide +kernel
theorem dX4_tell_18 : decode cX4_tell 18 = .ok (.invokevirtual 72, 3) := by decide +kernel
theorem dX4_tell_21 : decode cX4_tell 21 = .ok (.lookupswitch 39 #[(1, 33), (2, 27)], 27) := by decide +kernel
theorem dX4_tell_48 : decode cX4_tell 48 = .ok (.aload_n 0, 1) := by decide +kernel
theorem dX4_tell_49 : decode cX4_tell 49 = .ok (.iload_n 1, 1) := by decide +kernel
theorem dX4_tell_50 : decode cX4_tell 50 = .ok (.invokevirtual 221, 3) := by decide +kernel
theorem dX4_tell_53 : decode cX4_tell 53 = .ok (.ireturn, 1) := by decide +kernel
theorem dX4_tell_54 : decode cX4_tell 54 = .ok (.aload_n 0, 1) := by decide +kernel
theorem dX4_tell_55 : decode cX4_tell 55 = .ok (.iload_n 1, 1) := by decide +kernel
theorem dX4_tell_56 : decode cX4_tell 56 = .ok (.invokevirtual 224, 3) := by decide +kernel
theorem dX4_tell_59 : decode cX4_tell 59 = .ok (.ireturn, 1) := by decide +kernel
theorem dX4_tell_60 : decode cX4_tell 60 = .ok (.aload_n 0, 1) := by decide +kernel
theorem dX4_tell_61 : decode cX4_tell 61 = .ok (.iload_n 1, 1) := by decide +kernel
theorem dX4_tell_62 : decode cX4_tell 62 = .ok (.invokevirtual 227, 3) := by decide +kernel
theorem dX4_tell_65 : decode cX4_tell 65 = .ok (.ireturn, 1) := by decide +kernel
set_option maxRecDepth 20000 in
theorem ggX4_eaterTelling_X4_leaveInTrace : GoodIn wsX4_eaterTelling wsX4_leaveInTrace := goodIn_r _ [6, 7, 16, 17, 18, 19, 20] (by decide +kernel) (by decide +kernel)
set_option maxRecDepth 20000 in
theorem gX4_eaterTelling_X4_leaveInTrace : GoodIn wsX4_eaterTelling (wsV RX4 230 RX4 yX4_leaveInTrace wsX4_leaveInTrace) := goodIn_app (goodIn_of _ (by decide +kernel)) ggX4_eaterTelling_X4_leaveInTrace
set_option maxRecDepth 20000 in
theorem ggX4_eaterTelling_X0_spoonsOf : GoodIn wsX4_eaterTelling wsX0_spoonsOf := goodIn_r _ [12, 13, 14, 5, 15, 21, 22, 23, 24, 25, 26, 27, 28] (by decide +kernel) (by decide +kernel)
set_option maxRecDepth 20000 in
theorem gX4_eaterTelling_X0_spoonsOf : GoodIn wsX4_eaterTelling (wsV RX4 78 RX0 yX0_spoonsOf wsX0_spoonsOf) := goodIn_app (goodIn_of _ (by decide +kernel)) ggX4_eaterTelling_X0_spoonsOf
theorem dX4_eaterTelling_0 : decode cX4_eaterTelling 0 = .ok (.aload_n 0, 1) := by decide +kernel
theorem dX4_eaterTelling_1 : decode cX4_eaterTelling 1 = .ok (.iconst 1, 1) := by decide +kernel
theorem dX4_eaterTelling_2 : decode cX4_eaterTelling 2 = .ok (.invokevirtual 230, 3) := by decide +kernel
theorem dX4_eaterTelling_5 : decode cX4_eaterTelling 5 = .ok (.aload_n 0, 1) := by decide +kernel
theorem dX4_eaterTelling_6 : decode cX4_eaterTelling 6 = .ok (.getfield 12, 3) := by decide +kernel
theorem dX4_eaterTelling_9 : decode cX4_eaterTelling 9 = .ok (.iload_n 1, 1) := by decide +kernel
theorem dX4_eaterTelling_10 : decode cX4_eaterTelling 10 = .ok (.invokevirtual 78, 3) := by decide +kernel
theorem dX4_eaterTelling_13 : decode cX4_eaterTelling 13 = .ok (.ireturn, 1) := by decide +kernel
set_option maxRecDepth 20000 in
theorem ggX4_slyTelling_X4_leaveInTrace : GoodIn wsX4_slyTelling wsX4_leaveInTrace := goodIn_r _ [5, 6, 20, 21, 22, 23, 24] (by decide +kernel) (by decide +kernel)
set_option maxRecDepth 20000 in
theorem gX4_slyTelling_X4_leaveInTrace : GoodIn wsX4_slyTelling (wsV RX4 230 RX4 yX4_leaveInTrace wsX4_leaveInTrace) := goodIn_app (goodIn_of _ (by decide +kernel)) ggX4_slyTelling_X4_leaveInTrace
set_option maxRecDepth 20000 in
theorem ggX4_slyTelling_X4_eaterTelling : GoodIn wsX4_slyTelling wsX4_eaterTelling := goodIn_r _ [10, 11, 1, 2, 3, 4, 5, 6, 12, 13, 14, 15, 16, 17, 18, 19, 20, 21, 22, 23, 24, 25, 26, 27, 28, 29, 30, 31, 32] (by decide +kernel) (by decide +kernel)
set_option maxRecDepth 20000 in
theorem gX4_slyTelling_X4_eaterTelling : GoodIn wsX4_slyTelling (wsV RX4 227 RX4 yX4_eaterTelling wsX4_eaterTelling) := goodIn_app (goodIn_of _ (by decide +kernel)) ggX4_slyTelling_X4_eaterTelling
theorem dX4_slyTelling_0 : decode cX4_slyTelling 0 = .ok (.aload_n 0, 1) := by decide +kernel
theorem dX4_slyTelling_1 : decode cX4_slyTelling 1 = .ok (.iconst 2, 1) := by decide +kernel
theorem dX4_slyTelling_2 : decode cX4_slyTelling 2 = .ok (.invokevirtual 230, 3) := by decide +kernel
theorem dX4_slyTelling_5 : decode cX4_slyTelling 5 = .ok (.aload_n 0, 1) := by decide +kernel
theorem dX4_slyTelling_6 : decode cX4_slyTelling 6 = .ok (.iload_n 1, 1) := by decide +kernel
theorem dX4_slyTelling_7 : decode cX4_slyTelling 7 = .ok (.invokevirtual 227, 3) := by decide +kernel
theorem dX4_slyTelling_10 : decode cX4_slyTelling 10 = .ok (.bipush 100, 2) := by decide +kernel
theorem dX4_slyTelling_12 : decode cX4_slyTelling 12 = .ok (.iadd, 1) := by decide +kernel
theorem dX4_slyTelling_13 : decode cX4_slyTelling 13 = .ok (.ireturn, 1) := by decide +kernel
set_option maxRecDepth 20000 in
theorem ggX4_strangerTelling_X4_leaveInTrace : GoodIn wsX4_strangerTelling wsX4_leaveInTrace := goodIn_r _ [5, 6, 24, 25, 26, 27, 28] (by decide +kernel) (by decide +kernel)
set_option maxRecDepth 20000 in
theorem gX4_strangerTelling_X4_leaveInTrace : GoodIn wsX4_strangerTelling (wsV RX4 230 RX4 yX4_leaveInTrace wsX4_leaveInTrace) := goodIn_app (goodIn_of _ (by decide +kernel)) ggX4_strangerTelling_X4_leaveInTrace
set_option maxRecDepth 20000 in
theorem ggX4_strangerTelling_X4_slyTelling : GoodIn wsX4_strangerTelling wsX4_slyTelling := goodIn_r _ [10, 1, 2, 3, 4, 5, 6, 11, 12, 13, 14, 15, 16, 17, 18, 19, 20, 21, 22, 23, 24, 25, 26, 27, 28, 29, 30, 31, 32, 33, 34, 35, 36] (by decide +kernel) (by decide +kernel)
set_option maxRecDepth 20000 in
theorem gX4_strangerTelling_X4_slyTelling : GoodIn wsX4_strangerTelling (wsV RX4 224 RX4 yX4_slyTelling wsX4_slyTelling) := goodIn_app (goodIn_of _ (by decide +kernel)) ggX4_strangerTelling_X4_slyTelling
set_option maxRecDepth 20000 in
theorem ggX4_strangerTelling_X4_eaterTelling : GoodIn wsX4_strangerTelling wsX4_eaterTelling := goodIn_r _ [14, 15, 1, 2, 3, 4, 5, 6, 16, 17, 18, 19, 20, 21, 22, 23, 24, 25, 26, 27, 28, 29, 30, 31, 32, 33, 34, 35, 36] (by decide +kernel) (by decide +kernel)
set_option maxRecDepth 20000 in
theorem gX4_strangerTelling_X4_eaterTelling : GoodIn wsX4_strangerTelling (wsV RX4 227 RX4 yX4_eaterTelling wsX4_eaterTelling) := goodIn_app (goodIn_of _ (by decide +kernel)) ggX4_strangerTelling_X4_eaterTelling
theorem dX4_strangerTelling_0 : decode cX4_strangerTelling 0 = .ok (.aload_n 0, 1) := by decide +kernel
theorem dX4_strangerTelling_1 : decode cX4_strangerTelling 1 = .ok (.iconst 3, 1) := by decide +kernel
theorem dX4_strangerTelling_2 : decode cX4_strangerTelling 2 = .ok (.invokevirtual 230, 3) := by decide +kernel
theorem dX4_strangerTelling_5 : decode cX4_strangerTelling 5 = .ok (.aload_n 0, 1) := by decide +kernel
theorem dX4_strangerTelling_6 : decode cX4_strangerTelling 6 = .ok (.iload_n 1, 1) := by decide +kernel
theorem dX4_strangerTelling_7 : decode cX4_strangerTelling 7 = .ok (.invokevirtual 224, 3) := by decide +kernel
theorem dX4_strangerTelling_10 : decode cX4_strangerTelling 10 = .ok (.istore_n 2, 1) := by decide +kernel
theorem dX4_strangerTelling_11 : decode cX4_strangerTelling 11 = .ok (.iload_n 2, 1) := by decide +kernel
theorem dX4_strangerTelling_12 : decode cX4_strangerTelling 12 = .ok (.aload_n 0, 1) := by decide +kernel
theorem dX4_strangerTelling_13 : decode cX4_strangerTelling 13 = .ok (.iload_n 1, 1) := by decide +kernel
theorem dX4_strangerTelling_14 : decode cX4_strangerTelling 14 = .ok (.invokevirtual 227, 3) := by decide +kernel
theorem dX4_strangerTelling_17 : decode cX4_strangerTelling 17 = .ok (.iadd, 1) := by decide +kernel
theorem dX4_strangerTelling_18 : decode cX4_strangerTelling 18 = .ok (.ireturn, 1) := by decide +kernel
set_option maxRecDepth 20000 in
theorem ggX4_sniff_X0_hasEater : GoodIn wsX4_sniff wsX0_hasEater := goodIn_r _ [6, 7, 34, 35, 36, 37, 38, 39, 40, 41] (by decide +kernel) (by decide +kernel)
set_option maxRecDepth 20000 in
theorem gX4_sniff_X0_hasEater : GoodIn wsX4_sniff (wsV RX4 69 RX0 yX0_hasEater wsX0_hasEater) := goodIn_app (goodIn_of _ (by decide +kernel)) ggX4_sniff_X0_hasEater
set_option maxRecDepth 20000 in
theorem ggX4_sniff_X0_kindOf : GoodIn wsX4_sniff wsX0_kindOf := goodIn_r _ [11, 12, 13, 14, 15, 34, 35, 36, 37, 38, 39, 40, 41] (by decide +kernel) (by decide +kernel)
set_option maxRecDepth 20000 in
theorem gX4_sniff_X0_kindOf : GoodIn wsX4_sniff (wsV RX4 72 RX0 yX0_kindOf wsX0_kindOf) := goodIn_app (goodIn_of _ (by decide +kernel)) ggX4_sniff_X0_kindOf
set_option maxRecDepth 20000 in
theorem ggX4_sniff_X4_strangerSniffing : GoodIn wsX4_sniff wsX4_strangerSniffing := goodIn_r _ [19, 20, 21, 22, 14, 23, 24, 29, 30, 31, 32, 33] (by decide +kernel) (by decide +kernel)
set_option maxRecDepth 20000 in
theorem gX4_sniff_X4_strangerSniffing : GoodIn wsX4_sniff (wsV RX4 233 RX4 yX4_strangerSniffing wsX4_strangerSniffing) := goodIn_app (goodIn_of _ (by decide +kernel)) ggX4_sniff_X4_strangerSniffing
set_option maxRecDepth 20000 in
theorem ggX4_sniff_X4_lentSniffing : GoodIn wsX4_sniff wsX4_lentSniffing := goodIn_r _ [28, 20, 21, 22, 14, 23, 24, 29, 30, 31, 32, 33] (by decide +kernel) (by decide +kernel)
set_option maxRecDepth 20000 in
theorem gX4_sniff_X4_lentSniffing : GoodIn wsX4_sniff (wsV RX4 236 RX4 yX4_lentSniffing wsX4_lentSniffing) := goodIn_app (goodIn_of _ (by decide +kernel)) ggX4_sniff_X4_lentSniffing
theorem dX4_sniff_0 : decode cX4_sniff 0 = .ok (.aload_n 0, 1) := by decide +kernel
theorem dX4_sniff_1 : decode cX4_sniff 1 = .ok (.getfield 12, 3) := by decide +kernel
theorem dX4_sniff_4 : decode cX4_sniff 4 = .ok (.iload_n 1, 1) := by decide +kernel
theorem dX4_sniff_5 : decode cX4_sniff 5 = .ok (.invokevirtual 69, 3) := by decide +kernel
theorem dX4_sniff_8 : decode cX4_sniff 8 = .ok (.ifCond .ne 5, 3) := by decide +kernel
theorem dX4_sniff_11 : decode cX4_sniff 11 = .ok (.iconst (-1), 1) := by decide +kernel
theorem dX4_sniff_12 : decode cX4_sniff 12 = .ok (.ireturn, 1) := by decide +kernel
theorem dX4_sniff_13 : decode cX4_sniff 13 = .ok (.aload_n 0, 1) := by decide +kernel
theorem dX4_sniff_14 : decode cX4_sniff 14 = .ok (.getfield 12, 3) := by decide +kernel
theorem dX4_sniff_17 : decode cX4_sniff 17 = .ok (.iload_n 1, 1) := by decide +kernel
theorem dX4_sniff_18 : decode cX4_sniff 18 = .ok (.invokevirtual 72, 3) := by decide +kernel
theorem dX4_sniff_21 : decode cX4_sniff 21 = .ok (.iconst 2, 1) := by decide +kernel
theorem dX4_sniff_22 : decode cX4_sniff 22 = .ok (.if_icmp .ne 10, 3) := by decide +kernel
theorem dX4_sniff_25 : decode cX4_sniff 25 = .ok (.aload_n 0, 1) := by decide +kernel
theorem dX4_sniff_26 : decode cX4_sniff 26 = .ok (.invokevirtual 233, 3) := by decide +kernel
theorem dX4_sniff_29 : decode cX4_sniff 29 = .ok (.goto 8, 3) := by decide +kernel
theorem dX4_sniff_32 : decode cX4_sniff 32 = .ok (.aload_n 0, 1) := by decide +kernel
theorem dX4_sniff_33 : decode cX4_sniff 33 = .ok (.iload_n 1, 1) := by decide +kernel
theorem dX4_sniff_34 : decode cX4_sniff 34 = .ok (.invokevirtual 236, 3) := by decide +kernel
theorem dX4_sniff_37 : decode cX4_sniff 37 = .ok (.ireturn, 1) := by decide +kernel
set_option maxRecDepth 20000 in
theorem ggX4_lentSniffing_X4_leaveInTrace : GoodIn wsX4_lentSniffing wsX4_leaveInTrace := goodIn_r _ [5, 6, 7, 8, 9, 10, 11] (by decide +kernel) (by decide +kernel)
set_option maxRecDepth 20000 in
theorem gX4_lentSniffing_X4_leaveInTrace : GoodIn wsX4_lentSniffing (wsV RX4 230 RX4 yX4_leaveInTrace wsX4_leaveInTrace) := goodIn_app (goodIn_of _ (by decide +kernel)) ggX4_lentSniffing_X4_leaveInTrace
theorem dX4_lentSniffing_0 : decode cX4_lentSniffing 0 = .ok (.aload_n 0, 1) := by decide +kernel
theorem dX4_lentSniffing_1 : decode cX4_lentSniffing 1 = .ok (.iconst 4, 1) := by decide +kernel
theorem dX4_lentSniffing_2 : decode cX4_lentSniffing 2 = .ok (.invokevirtual 230, 3) := by decide +kernel
theorem dX4_lentSniffing_5 : decode cX4_lentSniffing 5 = .ok (.iload_n 1, 1) := by decide +kernel
theorem dX4_lentSniffing_6 : decode cX4_lentSniffing 6 = .ok (.ireturn, 1) := by decide +kernel
set_option maxRecDepth 20000 in
theorem ggX4_strangerSniffing_X4_leaveInTrace : GoodIn wsX4_strangerSniffing wsX4_leaveInTrace := goodIn_r _ [5, 6, 7, 8, 9, 10, 11] (by decide +kernel) (by decide +kernel)
set_option maxRecDepth 20000 in
theorem gX4_strangerSniffing_X4_leaveInTrace : GoodIn wsX4_strangerSniffing (wsV RX4 230 RX4 yX4_leaveInTrace wsX4_leaveInTrace) := goodIn_app (goodIn_of _ (by decide +kernel)) ggX4_strangerSniffing_X4_leaveInTrace
theorem dX4_strangerSniffing_0 : decode cX4_strangerSniffing 0 = .ok (.aload_n 0, 1) := by decide +kernel
theorem dX4_strangerSniffing_1 : decode cX4_strangerSniffing 1 = .ok (.iconst 5, 1) := by decide +kernel
theorem dX4_strangerSniffing_2 : decode cX4_strangerSniffing 2 = .ok (.invokevirtual 230, 3) := by decide +kernel
theorem dX4_strangerSniffing_5 : decode cX4_strangerSniffing 5 = .ok (.bipush 40, 2) := by decide +kernel
theorem dX4_strangerSniffing_7 : decode cX4_strangerSniffing 7 = .ok (.ireturn, 1) := by decide +kernel
theorem dX4_leaveInTrace_0 : decode cX4_leaveInTrace 0 = .ok (.aload_n 0, 1) := by decide +kernel
theorem dX4_leaveInTrace_1 : decode cX4_leaveInTrace 1 = .ok (.bipush 31, 2) := by decide +kernel
theorem dX4_leaveInTrace_3 : decode cX4_leaveInTrace 3 = .ok (.aload_n 0, 1) := by decide +kernel
theorem dX4_leaveInTrace_4 : decode cX4_leaveInTrace 4 = .ok (.getfield 239, 3) := by decide +kernel
theorem dX4_leaveInTrace_7 : decode cX4_leaveInTrace 7 = .ok (.imul, 1) := by decide +kernel
theorem dX4_leaveInTrace_8 : decode cX4_leaveInTrace 8 = .ok (.iload_n 1, 1) := by decide +kernel
theorem dX4_leaveInTrace_9 : decode cX4_leaveInTrace 9 = .ok (.iadd, 1) := by decide +kernel
theorem dX4_leaveInTrace_10 : decode cX4_leaveInTrace 10 = .ok (.putfield 239, 3) := by decide +kernel
theorem dX4_leaveInTrace_13 : decode cX4_leaveInTrace 13 = .ok (.return_, 1) := by decide +kernel
set_option maxRecDepth 20000 in
theorem ggX4_as_X0_hasEater : GoodIn wsX4_as wsX0_hasEater := goodIn_r _ [7, 8, 29, 30, 31, 32, 33, 34, 35, 36] (by decide +kernel) (by decide +kernel)
set_option maxRecDepth 20000 in
theorem gX4_as_X0_hasEater : GoodIn wsX4_as (wsV RX4 69 RX0 yX0_hasEater wsX0_hasEater) := goodIn_app (goodIn_of _ (by decide +kernel)) ggX4_as_X0_hasEater
set_option maxRecDepth 20000 in
theorem ggX4_as_X4_isFrom0To : GoodIn wsX4_as wsX4_isFrom0To := goodIn_r _ [12] (by decide +kernel) (by decide +kernel)
set_option maxRecDepth 20000 in
theorem gX4_as_X4_isFrom0To : GoodIn wsX4_as (va_wsS RX4 93 yX4_isFrom0To wsX4_isFrom0To) := goodIn_app (goodIn_of _ (by decide +kernel)) ggX4_as_X4_isFrom0To
set_option maxRecDepth 20000 in
theorem ggX4_as_X0_kindOf : GoodIn wsX4_as wsX0_kindOf := goodIn_r _ [16, 17, 18, 11, 19, 29, 30, 31, 32, 33, 34, 35, 36] (by decide +kernel) (by decide +kernel)
set_option maxRecDepth 20000 in
theorem gX4_as_X0_kindOf : GoodIn wsX4_as (wsV RX4 72 RX0 yX0_kindOf wsX0_kindOf) := goodIn_app (goodIn_of _ (by decide +kernel)) ggX4_as_X0_kindOf
set_option maxRecDepth 20000 in
theorem ggX4_as_X4_faulted : GoodIn wsX4_as wsX4_faulted := goodIn_r _ [23, 1, 24, 25, 26, 27, 28] (by decide +kernel) (by decide +kernel)
set_option maxRecDepth 20000 in
theorem gX4_as_X4_faulted : GoodIn wsX4_as (wsV RX4 48 RX4 yX4_faulted wsX4_faulted) := goodIn_app (goodIn_of _ (by decide +kernel)) ggX4_as_X4_faulted
theorem dX4_as_0 : decode cX4_as 0 = .ok (.aload_n 0, 1) := by decide +kernel
theorem dX4_as_1 : decode cX4_as 1 = .ok (.iconst 0, 1) := by decide +kernel
theorem dX4_as_2 : decode cX4_as 2 = .ok (.putfield 32, 3) := by decide +kernel
theorem dX4_as_5 : decode cX4_as 5 = .ok (.aload_n 0, 1) := by decide +kernel
theorem dX4_as_6 : decode cX4_as 6 = .ok (.getfield 12, 3) := by decide +kernel
theorem dX4_as_9 : decode cX4_as 9 = .ok (.iload_n 1, 1) := by decide +kernel
theorem dX4_as_10 : decode cX4_as 10 = .ok (.invokevirtual 69, 3) := by decide +kernel
theorem dX4_as_13 : decode cX4_as 13 = .ok (.ifCond .ne 5, 3) := by decide +kernel
theorem dX4_as_16 : decode cX4_as 16 = .ok (.iconst (-1), 1) := by decide +kernel
theorem dX4_as_17 : decode cX4_as 17 = .ok (.ireturn, 1) := by decide +kernel
theorem dX4_as_18 : decode cX4_as 18 = .ok (.iload_n 2, 1) := by decide +kernel
theorem dX4_as_19 : decode cX4_as 19 = .ok (.iconst 2, 1) := by decide +kernel
theorem dX4_as_20 : decode cX4_as 20 = .ok (.invokestatic 93, 3) := by decide +kernel
theorem dX4_as_23 : decode cX4_as 23 = .ok (.ifCond .ne 6, 3) := by decide +kernel
theorem dX4_as_26 : decode cX4_as 26 = .ok (.bipush (-2), 2) := by decide +kernel
theorem dX4_as_28 : decode cX4_as 28 = .ok (.ireturn, 1) := by decide +kernel
theorem dX4_as_29 : decode cX4_as 29 = .ok (.aload_n 0, 1) := by decide +kernel
theorem dX4_as_30 : decode cX4_as 30 = .ok (.getfield 12, 3) := by decide +kernel
theorem dX4_as_33 : decode cX4_as 33 = .ok (.iload_n 1, 1) := by decide +kernel
theorem dX4_as_34 : decode cX4_as 34 = .ok (.invokevirtual 72, 3) := by decide +kernel
theorem dX4_as_37 : decode cX4_as 37 = .ok (.iload_n 2, 1) := by decide +kernel
theorem dX4_as_38 : decode cX4_as 38 = .ok (.if_icmp .lt 7, 3) := by decide +kernel
theorem dX4_as_41 : decode cX4_as 41 = .ok (.iconst 1, 1) := by decide +kernel
theorem dX4_as_42 : decode cX4_as 42 = .ok (.goto 8, 3) := by decide +kernel
theorem dX4_as_45 : decode cX4_as 45 = .ok (.aload_n 0, 1) := by decide +kernel
theorem dX4_as_46 : decode cX4_as 46 = .ok (.iconst 2, 1) := by decide +kernel
theorem dX4_as_47 : decode cX4_as 47 = .ok (.invokevirtual 48, 3) := by decide +kernel
theorem dX4_as_50 : decode cX4_as 50 = .ok (.ireturn, 1) := by decide +kernel
theorem dX4_trace_0 : decode cX4_trace 0 = .ok (.aload_n 0, 1) := by decide +kernel
theorem dX4_trace_1 : decode cX4_trace 1 = .ok (.getfield 239, 3) := by decide +kernel
theorem dX4_trace_4 : decode cX4_trace 4 = .ok (.ireturn, 1) := by decide +kernel
theorem dX4_fault_0 : decode cX4_fault 0 = .ok (.aload_n 0, 1) := by decide +kernel
theorem dX4_fault_1 : decode cX4_fault 1 = .ok (.getfield 32, 3) := by decide +kernel
theorem dX4_fault_4 : decode cX4_fault 4 = .ok (.ireturn, 1) := by decide +kernel
set_option maxRecDepth 20000 in
theorem ggX4_many_X0_eaterCount : GoodIn wsX4_many wsX0_eaterCount := goodIn_r _ [7, 8, 30, 31, 32, 33, 34, 35, 36, 37] (by decide +kernel) (by decide +kernel)
set_option maxRecDepth 20000 in
theorem gX4_many_X0_eaterCount : GoodIn wsX4_many (wsV RX4 65 RX0 yX0_eaterCount wsX0_eaterCount) := goodIn_app (goodIn_of _ (by decide +kernel)) ggX4_many_X0_eaterCount
set_option maxRecDepth 20000 in
theorem ggX4_many_X0_dayCount : GoodIn wsX4_many wsX0_dayCount := goodIn_r _ [12, 13, 30, 31, 32, 33, 34, 35, 36, 37] (by decide +kernel) (by decide +kernel)
set_option maxRecDepth 20000 in
theorem gX4_many_X0_dayCount : GoodIn wsX4_many (wsV RX4 242 RX0 yX0_dayCount wsX0_dayCount) := goodIn_app (goodIn_of _ (by decide +kernel)) ggX4_many_X0_dayCount
set_option maxRecDepth 20000 in
theorem ggX4_many_X0_sourLook : GoodIn wsX4_many wsX0_sourLook := goodIn_r _ [17, 18, 30, 31, 32, 33, 34, 35, 36, 37] (by decide +kernel) (by decide +kernel)
set_option maxRecDepth 20000 in
theorem gX4_many_X0_sourLook : GoodIn wsX4_many (wsV RX4 105 RX0 yX0_sourLook wsX0_sourLook) := goodIn_app (goodIn_of _ (by decide +kernel)) ggX4_many_X0_sourLook
set_option maxRecDepth 20000 in
theorem ggX4_many_X1_keptCount : GoodIn wsX4_many wsX1_keptCount := goodIn_r _ [23, 24, 38, 39, 40, 41, 42] (by decide +kernel) (by decide +kernel)
set_option maxRecDepth 20000 in
theorem gX4_many_X1_keptCount : GoodIn wsX4_many (wsV RX4 176 RX1 yX1_keptCount wsX1_keptCount) := goodIn_app (goodIn_of _ (by decide +kernel)) ggX4_many_X1_keptCount
theorem dX4_many_0 : decode cX4_many 0 = .ok (.iload_n 1, 1) := by decide +kernel
theorem dX4_many_1 : decode cX4_many 1 = .ok (.tableswitch 63 0 3 #[31, 39, 47, 55], 31) := by decide +kernel
theorem dX4_many_32 : decode cX4_many 32 = .ok (.aload_n 0, 1) := by decide +kernel
theorem dX4_many_33 : decode cX4_many 33 = .ok (.getfield 12, 3) := by decide +kernel
theorem dX4_many_36 : decode cX4_many 36 = .ok (.invokevirtual 65, 3) := by decide +kernel
theorem dX4_many_39 : decode cX4_many 39 = .ok (.ireturn, 1) := by decide +kernel
theorem dX4_many_40 : decode cX4_many 40 = .ok (.aload_n 0, 1) := by decide +kernel
theorem dX4_many_41 : decode cX4_many 41 = .ok (.getfield 12, 3) := by decide +kernel
theorem dX4_many_44 : decode cX4_many 44 = .ok (.invokevirtual 242, 3) := by decide +kernel
theorem dX4_many_47 : decode cX4_many 47 = .ok (.ireturn, 1) := by decide +kernel
theorem dX4_many_48 : decode cX4_many 48 = .ok (.aload_n 0, 1) := by decide +kernel
theorem dX4_many_49 : decode cX4_many 49 = .ok (.getfield 12, 3) := by decide +kernel
theorem dX4_many_52 : decode cX4_many 52 = .ok (.invokevirtual 105, 3) := by decide +kernel
theorem dX4_many_55 : decode cX4_many 55 = .ok (.ireturn, 1) := by decide +kernel
theorem dX4_many_56 : decode cX4_many 56 = .ok (.aload_n 0, 1) := by decide +kernel
theorem dX4_many_57 : decode cX4_many 57 = .ok (.getfield 21, 3) := by decide +kernel
theorem dX4_many_60 : decode cX4_many 60 = .ok (.invokevirtual 176, 3) := by decide +kernel
theorem dX4_many_63 : decode cX4_many 63 = .ok (.ireturn, 1) := by decide +kernel
theorem dX4_many_64 : decode cX4_many 64 = .ok (.bipush (-2), 2) := by decide +kernel
theorem dX4_many_66 : decode cX4_many 66 = .ok (.ireturn, 1) := by decide +kernel
theorem dX4_sheetAt_0 : decode cX4_sheetAt 0 = .ok (.iload_n 1, 1) := by decide +kernel
theorem dX4_sheetAt_1 : decode cX4_sheetAt 1 = .ok (.ifCond .lt 21, 3) := by decide +kernel
theorem dX4_sheetAt_4 : decode cX4_sheetAt 4 = .ok (.iload_n 1, 1) := by decide +kernel
theorem dX4_sheetAt_5 : decode cX4_sheetAt 5 = .ok (.aload_n 0, 1) := by decide +kernel
theorem dX4_sheetAt_6 : decode cX4_sheetAt 6 = .ok (.getfield 27, 3) := by decide +kernel
theorem dX4_sheetAt_9 : decode cX4_sheetAt 9 = .ok (.arraylength, 1) := by decide +kernel
theorem dX4_sheetAt_10 : decode cX4_sheetAt 10 = .ok (.if_icmp .ge 12, 3) := by decide +kernel
theorem dX4_sheetAt_13 : decode cX4_sheetAt 13 = .ok (.aload_n 0, 1) := by decide +kernel
theorem dX4_sheetAt_14 : decode cX4_sheetAt 14 = .ok (.getfield 27, 3) := by decide +kernel
theorem dX4_sheetAt_17 : decode cX4_sheetAt 17 = .ok (.iload_n 1, 1) := by decide +kernel
theorem dX4_sheetAt_18 : decode cX4_sheetAt 18 = .ok (.aaload, 1) := by decide +kernel
theorem dX4_sheetAt_19 : decode cX4_sheetAt 19 = .ok (.goto 4, 3) := by decide +kernel
theorem dX4_sheetAt_22 : decode cX4_sheetAt 22 = .ok (.aconst_null, 1) := by decide +kernel
theorem dX4_sheetAt_23 : decode cX4_sheetAt 23 = .ok (.areturn, 1) := by decide +kernel
theorem dX4_faulted_0 : decode cX4_faulted 0 = .ok (.aload_n 0, 1) := by decide +kernel
theorem dX4_faulted_1 : decode cX4_faulted 1 = .ok (.iload_n 1, 1) := by decide +kernel
theorem dX4_faulted_2 : decode cX4_faulted 2 = .ok (.putfield 32, 3) := by decide +kernel
theorem dX4_faulted_5 : decode cX4_faulted 5 = .ok (.bipush (-10), 2) := by decide +kernel
theorem dX4_faulted_7 : decode cX4_faulted 7 = .ok (.iload_n 1, 1) := by decide +kernel
theorem dX4_faulted_8 : decode cX4_faulted 8 = .ok (.isub, 1) := by decide +kernel
theorem dX4_faulted_9 : decode cX4_faulted 9 = .ok (.ireturn, 1) := by decide +kernel
theorem dX4_isLane_0 : decode cX4_isLane 0 = .ok (.iload_n 0, 1) := by decide +kernel
theorem dX4_isLane_1 : decode cX4_isLane 1 = .ok (.ifCond .lt 12, 3) := by decide +kernel
theorem dX4_isLane_4 : decode cX4_isLane 4 = .ok (.iload_n 0, 1) := by decide +kernel
theorem dX4_isLane_5 : decode cX4_isLane 5 = .ok (.iconst 2, 1) := by decide +kernel
theorem dX4_isLane_6 : decode cX4_isLane 6 = .ok (.if_icmp .gt 7, 3) := by decide +kernel
theorem dX4_isLane_9 : decode cX4_isLane 9 = .ok (.iconst 1, 1) := by decide +kernel
theorem dX4_isLane_10 : decode cX4_isLane 10 = .ok (.goto 4, 3) := by decide +kernel
theorem dX4_isLane_13 : decode cX4_isLane 13 = .ok (.iconst 0, 1) := by decide +kernel
theorem dX4_isLane_14 : decode cX4_isLane 14 = .ok (.ireturn, 1) := by decide +kernel
theorem dX4_isFrom0To_0 : decode cX4_isFrom0To 0 = .ok (.iload_n 0, 1) := by decide +kernel
theorem dX4_isFrom0To_1 : decode cX4_isFrom0To 1 = .ok (.ifCond .lt 12, 3) := by decide +kernel
theorem dX4_isFrom0To_4 : decode cX4_isFrom0To 4 = .ok (.iload_n 0, 1) := by decide +kernel
theorem dX4_isFrom0To_5 : decode cX4_isFrom0To 5 = .ok (.iload_n 1, 1) := by decide +kernel
theorem dX4_isFrom0To_6 : decode cX4_isFrom0To 6 = .ok (.if_icmp .gt 7, 3) := by decide +kernel
theorem dX4_isFrom0To_9 : decode cX4_isFrom0To 9 = .ok (.iconst 1, 1) := by decide +kernel
theorem dX4_isFrom0To_10 : decode cX4_isFrom0To 10 = .ok (.goto 4, 3) := by decide +kernel
theorem dX4_isFrom0To_13 : decode cX4_isFrom0To 13 = .ok (.iconst 0, 1) := by decide +kernel
theorem dX4_isFrom0To_14 : decode cX4_isFrom0To 14 = .ok (.ireturn, 1) := by decide +kernel
theorem dX4_numberIn_0 : decode cX4_numberIn 0 = .ok (.iload_n 1, 1) := by decide +kernel
theorem dX4_numberIn_1 : decode cX4_numberIn 1 = .ok (.ifCond .lt 15, 3) := by decide +kernel
theorem dX4_numberIn_4 : decode cX4_numberIn 4 = .ok (.iload_n 1, 1) := by decide +kernel
theorem dX4_numberIn_5 : decode cX4_numberIn 5 = .ok (.aload_n 0, 1) := by decide +kernel
theorem dX4_numberIn_6 : decode cX4_numberIn 6 = .ok (.arraylength, 1) := by decide +kernel
theorem dX4_numberIn_7 : decode cX4_numberIn 7 = .ok (.if_icmp .ge 9, 3) := by decide +kernel
theorem dX4_numberIn_10 : decode cX4_numberIn 10 = .ok (.aload_n 0, 1) := by decide +kernel
theorem dX4_numberIn_11 : decode cX4_numberIn 11 = .ok (.iload_n 1, 1) := by decide +kernel
theorem dX4_numberIn_12 : decode cX4_numberIn 12 = .ok (.iaload, 1) := by decide +kernel
theorem dX4_numberIn_13 : decode cX4_numberIn 13 = .ok (.goto 4, 3) := by decide +kernel
theorem dX4_numberIn_16 : decode cX4_numberIn 16 = .ok (.iconst 0, 1) := by decide +kernel
theorem dX4_numberIn_17 : decode cX4_numberIn 17 = .ok (.ireturn, 1) := by decide +kernel
theorem dX4_changeIn_0 : decode cX4_changeIn 0 = .ok (.iload_n 1, 1) := by decide +kernel
theorem dX4_changeIn_1 : decode cX4_changeIn 1 = .ok (.ifCond .lt 13, 3) := by decide +kernel
theorem dX4_changeIn_4 : decode cX4_changeIn 4 = .ok (.iload_n 1, 1) := by decide +kernel
theorem dX4_changeIn_5 : decode cX4_changeIn 5 = .ok (.aload_n 0, 1) := by decide +kernel
theorem dX4_changeIn_6 : decode cX4_changeIn 6 = .ok (.arraylength, 1) := by decide +kernel
theorem dX4_changeIn_7 : decode cX4_changeIn 7 = .ok (.if_icmp .ge 7, 3) := by decide +kernel
theorem dX4_changeIn_10 : decode cX4_changeIn 10 = .ok (.aload_n 0, 1) := by decide +kernel
theorem dX4_changeIn_11 : decode cX4_changeIn 11 = .ok (.iload_n 1, 1) := by decide +kernel
theorem dX4_changeIn_12 : decode cX4_changeIn 12 = .ok (.iload_n 2, 1) := by decide +kernel
theorem dX4_changeIn_13 : decode cX4_changeIn 13 = .ok (.iastore, 1) := by decide +kernel
theorem dX4_changeIn_14 : decode cX4_changeIn 14 = .ok (.return_, 1) := by decide +kernel
theorem dX5_init_0 : decode cX5_init 0 = .ok (.aload_n 0, 1) := by decide +kernel
theorem dX5_init_1 : decode cX5_init 1 = .ok (.invokespecial 1, 3) := by decide +kernel
theorem dX5_init_4 : decode cX5_init 4 = .ok (.aload_n 0, 1) := by decide +kernel
theorem dX5_init_5 : decode cX5_init 5 = .ok (.bipush 6, 2) := by decide +kernel
theorem dX5_init_7 : decode cX5_init 7 = .ok (.newarray .int, 2) := by decide +kernel
theorem dX5_init_9 : decode cX5_init 9 = .ok (.putfield 7, 3) := by decide +kernel
theorem dX5_init_12 : decode cX5_init 12 = .ok (.aload_n 0, 1) := by decide +kernel
theorem dX5_init_13 : decode cX5_init 13 = .ok (.iconst 4, 1) := by decide +kernel
theorem dX5_init_14 : decode cX5_init 14 = .ok (.newarray .int, 2) := by decide +kernel
theorem dX5_init_16 : decode cX5_init 16 = .ok (.putfield 13, 3) := by decide +kernel
theorem dX5_init_19 : decode cX5_init 19 = .ok (.aload_n 0, 1) := by decide +kernel
theorem dX5_init_20 : decode cX5_init 20 = .ok (.iconst 4, 1) := by decide +kernel
theorem dX5_init_21 : decode cX5_init 21 = .ok (.newarray .int, 2) := by decide +kernel
theorem dX5_init_23 : decode cX5_init 23 = .ok (.putfield 16, 3) := by decide +kernel
theorem dX5_init_26 : decode cX5_init 26 = .ok (.aload_n 0, 1) := by decide +kernel
theorem dX5_init_27 : decode cX5_init 27 = .ok (.iconst 4, 1) := by decide +kernel
theorem dX5_init_28 : decode cX5_init 28 = .ok (.newarray .int, 2) := by decide +kernel
theorem dX5_init_30 : decode cX5_init 30 = .ok (.putfield 19, 3) := by decide +kernel
theorem dX5_init_33 : decode cX5_init 33 = .ok (.aload_n 0, 1) := by decide +kernel
theorem dX5_init_34 : decode cX5_init 34 = .ok (.iconst 4, 1) := by decide +kernel
theorem dX5_init_35 : decode cX5_init 35 = .ok (.newarray .int, 2) := by decide +kernel
theorem dX5_init_37 : decode cX5_init 37 = .ok (.putfield 22, 3) := by decide +kernel
theorem dX5_init_40 : decode cX5_init 40 = .ok (.aload_n 0, 1) := by decide +kernel
theorem dX5_init_41 : decode cX5_init 41 = .ok (.bipush (-9), 2) := by decide +kernel
theorem dX5_init_43 : decode cX5_init 43 = .ok (.putfield 25, 3) := by decide +kernel
theorem dX5_init_46 : decode cX5_init 46 = .ok (.aload_n 0, 1) := by decide +kernel
theorem dX5_init_47 : decode cX5_init 47 = .ok (.bipush 6, 2) := by decide +kernel
theorem dX5_init_49 : decode cX5_init 49 = .ok (.newarray .int, 2) := by decide +kernel
theorem dX5_init_51 : decode cX5_init 51 = .ok (.putfield 29, 3) := by decide +kernel
theorem dX5_init_54 : decode cX5_init 54 = .ok (.aload_n 0, 1) := by decide +kernel
theorem dX5_init_55 : decode cX5_init 55 = .ok (.iconst 4, 1) := by decide +kernel
theorem dX5_init_56 : decode cX5_init 56 = .ok (.newarray .int, 2) := by decide +kernel
theorem dX5_init_58 : decode cX5_init 58 = .ok (.putfield 32, 3) := by decide +kernel
theorem dX5_init_61 : decode cX5_init 61 = .ok (.aload_n 0, 1) := by decide +kernel
theorem dX5_init_62 : decode cX5_init 62 = .ok (.iconst 4, 1) := by decide +kernel
theorem dX5_init_63 : decode cX5_init 63 = .ok (.newarray .int, 2) := by decide +kernel
theorem dX5_init_65 : decode cX5_init 65 = .ok (.putfield 35, 3) := by decide +kernel
theorem dX5_init_68 : decode cX5_init 68 = .ok (.aload_n 0, 1) := by decide +kernel
theorem dX5_init_69 : decode cX5_init 69 = .ok (.iconst 4, 1) := by decide +kernel
theorem dX5_init_70 : decode cX5_init 70 = .ok (.newarray .int, 2) := by decide +kernel
theorem dX5_init_72 : decode cX5_init 72 = .ok (.putfield 38, 3) := by decide +kernel
theorem dX5_init_75 : decode cX5_init 75 = .ok (.aload_n 0, 1) := by decide +kernel
theorem dX5_init_76 : decode cX5_init 76 = .ok (.iconst 4, 1) := by decide +kernel
theorem dX5_init_77 : decode cX5_init 77 = .ok (.newarray .int, 2) := by decide +kernel
theorem dX5_init_79 : decode cX5_init 79 = .ok (.putfield 41, 3) := by decide +kernel
theorem dX5_init_82 : decode cX5_init 82 = .ok (.aload_n 0, 1) := by decide +kernel
theorem dX5_init_83 : decode cX5_init 83 = .ok (.bipush 8, 2) := by decide +kernel
theorem dX5_init_85 : decode cX5_init 85 = .ok (.newarray .int, 2) := by decide +kernel
theorem dX5_init_87 : decode cX5_init 87 = .ok (.putfield 44, 3) := by decide +kernel
theorem dX5_init_90 : decode cX5_init 90 = .ok (.aload_n 0, 1) := by decide +kernel
theorem dX5_init_91 : decode cX5_init 91 = .ok (.bipush 8, 2) := by decide +kernel
theorem dX5_init_93 : decode cX5_init 93 = .ok (.newarray .int, 2) := by decide +kernel
theorem dX5_init_95 : decode cX5_init 95 = .ok (.putfield 47, 3) := by decide +kernel
theorem dX5_init_98 : decode cX5_init 98 = .ok (.aload_n 0, 1) := by decide +kernel
theorem dX5_init_99 : decode cX5_init 99 = .ok (.bipush 8, 2) := by decide +kernel
theorem dX5_init_101 : decode cX5_init 101 = .ok (.newarray .int, 2) := by decide +kernel
theorem dX5_init_103 : decode cX5_init 103 = .ok (.putfield 50, 3) := by decide +kernel
theorem dX5_init_106 : decode cX5_init 106 = .ok (.aload_n 0, 1) := by decide +kernel
theorem dX5_init_107 : decode cX5_init 107 = .ok (.bipush 8, 2) := by decide +kernel
theorem dX5_init_109 : decode cX5_init 109 = .ok (.newarray .boolean, 2) := by decide +kernel
theorem dX5_init_111 : decode cX5_init 111 = .ok (.putfield 53, 3) := by decide +kernel
theorem dX5_init_114 : decode cX5_init 114 = .ok (.aload_n 0, 1) := by decide +kernel
theorem dX5_init_115 : decode cX5_init 115 = .ok (.iconst 4, 1) := by decide +kernel
theorem dX5_init_116 : decode cX5_init 116 = .ok (.newarray .int, 2) := by decide +kernel
theorem dX5_init_118 : decode cX5_init 118 = .ok (.putfield 57, 3) := by decide +kernel
theorem dX5_init_121 : decode cX5_init 121 = .ok (.aload_n 0, 1) := by decide +kernel
theorem dX5_init_122 : decode cX5_init 122 = .ok (.iconst 4, 1) := by decide +kernel
theorem dX5_init_123 : decode cX5_init 123 = .ok (.newarray .int, 2) := by decide +kernel
theorem dX5_init_125 : decode cX5_init 125 = .ok (.putfield 60, 3) := by decide +kernel
theorem dX5_init_128 : decode cX5_init 128 = .ok (.aload_n 0, 1) := by decide +kernel
theorem dX5_init_129 : decode cX5_init 129 = .ok (.sipush 240, 3) := by decide +kernel
theorem dX5_init_132 : decode cX5_init 132 = .ok (.newarray .int, 2) := by decide +kernel
theorem dX5_init_134 : decode cX5_init 134 = .ok (.putfield 63, 3) := by decide +kernel
theorem dX5_init_137 : decode cX5_init 137 = .ok (.aload_n 0, 1) := by decide +kernel
theorem dX5_init_138 : decode cX5_init 138 = .ok (.bipush 60, 2) := by decide +kernel
theorem dX5_init_140 : decode cX5_init 140 = .ok (.newarray .int, 2) := by decide +kernel
theorem dX5_init_142 : decode cX5_init 142 = .ok (.putfield 66, 3) := by decide +kernel
theorem dX5_init_145 : decode cX5_init 145 = .ok (.iconst 0, 1) := by decide +kernel
theorem dX5_init_146 : decode cX5_init 146 = .ok (.istore_n 1, 1) := by decide +kernel
theorem dX5_init_147 : decode cX5_init 147 = .ok (.iload_n 1, 1) := by decide +kernel
theorem dX5_init_148 : decode cX5_init 148 = .ok (.iconst 4, 1) := by decide +kernel
theorem dX5_init_149 : decode cX5_init 149 = .ok (.if_icmp .ge 16, 3) := by decide +kernel
theorem dX5_init_152 : decode cX5_init 152 = .ok (.aload_n 0, 1) := by decide +kernel
theorem dX5_init_153 : decode cX5_init 153 = .ok (.getfield 57, 3) := by decide +kernel
theorem dX5_init_156 : decode cX5_init 156 = .ok (.iload_n 1, 1) := by decide +kernel
theorem dX5_init_157 : decode cX5_init 157 = .ok (.iconst (-1), 1) := by decide +kernel
theorem dX5_init_158 : decode cX5_init 158 = .ok (.iastore, 1) := by decide +kernel
theorem dX5_init_159 : decode cX5_init 159 = .ok (.iinc 1 1, 3) := by decide +kernel
theorem dX5_init_162 : decode cX5_init 162 = .ok (.goto (-15), 3) := by decide +kernel
theorem dX5_init_165 : decode cX5_init 165 = .ok (.return_, 1) := by decide +kernel
theorem dX5_in_0 : decode cX5_in 0 = .ok (.lload_n 0, 1) := by decide +kernel
theorem dX5_in_1 : decode cX5_in 1 = .ok (.lload_n 2, 1) := by decide +kernel
theorem dX5_in_2 : decode cX5_in 2 = .ok (.lcmp, 1) := by decide +kernel
theorem dX5_in_3 : decode cX5_in 3 = .ok (.ifCond .lt 14, 3) := by decide +kernel
theorem dX5_in_6 : decode cX5_in 6 = .ok (.lload_n 0, 1) := by decide +kernel
theorem dX5_in_7 : decode cX5_in 7 = .ok (.lload 4, 2) := by decide +kernel
theorem dX5_in_9 : decode cX5_in 9 = .ok (.lcmp, 1) := by decide +kernel
theorem dX5_in_10 : decode cX5_in 10 = .ok (.ifCond .gt 7, 3) := by decide +kernel
theorem dX5_in_13 : decode cX5_in 13 = .ok (.iconst 1, 1) := by decide +kernel
theorem dX5_in_14 : decode cX5_in 14 = .ok (.goto 4, 3) := by decide +kernel
theorem dX5_in_17 : decode cX5_in 17 = .ok (.iconst 0, 1) := by decide +kernel
theorem dX5_in_18 : decode cX5_in 18 = .ok (.ireturn, 1) := by decide +kernel
theorem dX5_lost_0 : decode cX5_lost 0 = .ok (.ldc2_w 69, 3) := by decide +kernel
theorem dX5_lost_3 : decode cX5_lost 3 = .ok (.lreturn, 1) := by decide +kernel
theorem dX5_isIn_0 : decode cX5_isIn 0 = .ok (.iload_n 0, 1) := by decide +kernel
theorem dX5_isIn_1 : decode cX5_isIn 1 = .ok (.iload_n 1, 1) := by decide +kernel
theorem dX5_isIn_2 : decode cX5_isIn 2 = .ok (.ishr, 1) := by decide +kernel
theorem dX5_isIn_3 : decode cX5_isIn 3 = .ok (.iconst 1, 1) := by decide +kernel
theorem dX5_isIn_4 : decode cX5_isIn 4 = .ok (.iand, 1) := by decide +kernel
theorem dX5_isIn_5 : decode cX5_isIn 5 = .ok (.iconst 1, 1) := by decide +kernel
theorem dX5_isIn_6 : decode cX5_isIn 6 = .ok (.if_icmp .ne 7, 3) := by decide +kernel
theorem dX5_isIn_9 : decode cX5_isIn 9 = .ok (.iconst 1, 1) := by decide +kernel
theorem dX5_isIn_10 : decode cX5_isIn 10 = .ok (.goto 4, 3) := by decide +kernel
theorem dX5_isIn_13 : decode cX5_isIn 13 = .ok (.iconst 0, 1) := by decide +kernel
theorem dX5_isIn_14 : decode cX5_isIn 14 = .ok (.ireturn, 1) := by decide +kernel
theorem dX5_bits_0 : decode cX5_bits 0 = .ok (.iconst 0, 1) := by decide +kernel
theorem dX5_bits_1 : decode cX5_bits 1 = .ok (.istore_n 1, 1) := by decide +kernel
theorem dX5_bits_2 : decode cX5_bits 2 = .ok (.iload_n 0, 1) := by decide +kernel
theorem dX5_bits_3 : decode cX5_bits 3 = .ok (.istore_n 2, 1) := by decide +kernel
theorem dX5_bits_4 : decode cX5_bits 4 = .ok (.iload_n 2, 1) := by decide +kernel
theorem dX5_bits_5 : decode cX5_bits 5 = .ok (.ifCond .le 16, 3) := by decide +kernel
theorem dX5_bits_8 : decode cX5_bits 8 = .ok (.iload_n 1, 1) := by decide +kernel
theorem dX5_bits_9 : decode cX5_bits 9 = .ok (.iload_n 2, 1) := by decide +kernel
theorem dX5_bits_10 : decode cX5_bits 10 = .ok (.iconst 1, 1) := by decide +kernel
theorem dX5_bits_11 : decode cX5_bits 11 = .ok (.iand, 1) := by decide +kernel
theorem dX5_bits_12 : decode cX5_bits 12 = .ok (.iadd, 1) := by decide +kernel
theorem dX5_bits_13 : decode cX5_bits 13 = .ok (.istore_n 1, 1) := by decide +kernel
theorem dX5_bits_14 : decode cX5_bits 14 = .ok (.iload_n 2, 1) := by decide +kernel
theorem dX5_bits_15 : decode cX5_bits 15 = .ok (.iconst 1, 1) := by decide +kernel
theorem dX5_bits_16 : decode cX5_bits 16 = .ok (.ishr, 1) := by decide +kernel
theorem dX5_bits_17 : decode cX5_bits 17 = .ok (.istore_n 2, 1) := by decide +kernel
theorem dX5_bits_18 : decode cX5_bits 18 = .ok (.goto (-14), 3) := by decide +kernel
theorem dX5_bits_21 : decode cX5_bits 21 = .ok (.iload_n 1, 1) := by decide +kernel
theorem dX5_bits_22 : decode cX5_bits 22 = .ok (.ireturn, 1) := by decide +kernel
theorem dX5_share_0 : decode cX5_share 0 = .ok (.lload_n 0, 1) := by decide +kernel
theorem dX5_share_1 : decode cX5_share 1 = .ok (.lstore 5, 2) := by decide +kernel
theorem dX5_share_3 : decode cX5_share 3 = .ok (.lload_n 2, 1) := by decide +kernel
theorem dX5_share_4 : decode cX5_share 4 = .ok (.lstore 7, 2) := by decide +kernel
theorem dX5_share_6 : decode cX5_share 6 = .ok (.lload 7, 2) := by decide +kernel
theorem dX5_share_8 : decode cX5_share 8 = .ok (.lconst 0, 1) := by decide +kernel
theorem dX5_share_9 : decode cX5_share 9 = .ok (.lcmp, 1) := by decide +kernel
theorem dX5_share_10 : decode cX5_share 10 = .ok (.ifCond .eq 21, 3) := by decide +kernel
theorem dX5_share_13 : decode cX5_share 13 = .ok (.lload 5, 2) := by decide +kernel
theorem dX5_share_15 : decode cX5_share 15 = .ok (.lload 7, 2) := by decide +kernel
theorem dX5_share_17 : decode cX5_share 17 = .ok (.lrem, 1) := by decide +kernel
theorem dX5_share_18 : decode cX5_share 18 = .ok (.lstore 9, 2) := by decide +kernel
theorem dX5_share_20 : decode cX5_share 20 = .ok (.lload 7, 2) := by decide +kernel
theorem dX5_share_22 : decode cX5_share 22 = .ok (.lstore 5, 2) := by decide +kernel
theorem dX5_share_24 : decode cX5_share 24 = .ok (.lload 9, 2) := by decide +kernel
theorem dX5_share_26 : decode cX5_share 26 = .ok (.lstore 7, 2) := by decide +kernel
theorem dX5_share_28 : decode cX5_share 28 = .ok (.goto (-22), 3) := by decide +kernel
theorem dX5_share_31 : decode cX5_share 31 = .ok (.iload 4, 2) := by decide +kernel
theorem dX5_share_33 : decode cX5_share 33 = .ok (.ifCond .ne 7, 3) := by decide +kernel
theorem dX5_share_36 : decode cX5_share 36 = .ok (.lload_n 0, 1) := by decide +kernel
theorem dX5_share_37 : decode cX5_share 37 = .ok (.goto 4, 3) := by decide +kernel
theorem dX5_share_40 : decode cX5_share 40 = .ok (.lload_n 2, 1) := by decide +kernel
theorem dX5_share_41 : decode cX5_share 41 = .ok (.lload 5, 2) := by decide +kernel
theorem dX5_share_43 : decode cX5_share 43 = .ok (.ldiv, 1) := by decide +kernel
theorem dX5_share_44 : decode cX5_share 44 = .ok (.lreturn, 1) := by decide +kernel
theorem dX5_refused_0 : decode cX5_refused 0 = .ok (.aload_n 0, 1) := by decide +kernel
theorem dX5_refused_1 : decode cX5_refused 1 = .ok (.iconst 0, 1) := by decide +kernel
theorem dX5_refused_2 : decode cX5_refused 2 = .ok (.putfield 71, 3) := by decide +kernel
theorem dX5_refused_5 : decode cX5_refused 5 = .ok (.iload_n 1, 1) := by decide +kernel
theorem dX5_refused_6 : decode cX5_refused 6 = .ok (.ireturn, 1) := by decide +kernel
theorem dX5_failed_0 : decode cX5_failed 0 = .ok (.aload_n 0, 1) := by decide +kernel
theorem dX5_failed_1 : decode cX5_failed 1 = .ok (.iload_n 1, 1) := by decide +kernel
theorem dX5_failed_2 : decode cX5_failed 2 = .ok (.putfield 71, 3) := by decide +kernel
theorem dX5_failed_5 : decode cX5_failed 5 = .ok (.bipush (-10), 2) := by decide +kernel
theorem dX5_failed_7 : decode cX5_failed 7 = .ok (.iload_n 1, 1) := by decide +kernel
theorem dX5_failed_8 : decode cX5_failed 8 = .ok (.isub, 1) := by decide +kernel
theorem dX5_failed_9 : decode cX5_failed 9 = .ok (.ireturn, 1) := by decide +kernel
set_option maxRecDepth 20000 in
theorem ggX5_failedLong_X5_lost : GoodIn wsX5_failedLong wsX5_lost := goodIn_r _ [5, 6] (by decide +kernel) (by decide +kernel)
set_option maxRecDepth 20000 in
theorem gX5_failedLong_X5_lost : GoodIn wsX5_failedLong (va_wsS RX5 74 yX5_lost wsX5_lost) := goodIn_app (goodIn_of _ (by decide +kernel)) ggX5_failedLong_X5_lost
theorem dX5_failedLong_0 : decode cX5_failedLong 0 = .ok (.aload_n 0, 1) := by decide +kernel
theorem dX5_failedLong_1 : decode cX5_failedLong 1 = .ok (.iload_n 1, 1) := by decide +kernel
theorem dX5_failedLong_2 : decode cX5_failedLong 2 = .ok (.putfield 71, 3) := by decide +kernel
theorem dX5_failedLong_5 : decode cX5_failedLong 5 = .ok (.invokestatic 74, 3) := by decide +kernel
theorem dX5_failedLong_8 : decode cX5_failedLong 8 = .ok (.lreturn, 1) := by decide +kernel
set_option maxRecDepth 20000 in
theorem ggX5_noDay_X5_in : GoodIn wsX5_noDay wsX5_in := goodIn_r _ [5] (by decide +kernel) (by decide +kernel)
set_option maxRecDepth 20000 in
theorem gX5_noDay_X5_in : GoodIn wsX5_noDay (va_wsS RX5 81 yX5_in wsX5_in) := goodIn_app (goodIn_of _ (by decide +kernel)) ggX5_noDay_X5_in
theorem dX5_noDay_0 : decode cX5_noDay 0 = .ok (.iload_n 1, 1) := by decide +kernel
theorem dX5_noDay_1 : decode cX5_noDay 1 = .ok (.i2l, 1) := by decide +kernel
theorem dX5_noDay_2 : decode cX5_noDay 2 = .ok (.lconst 0, 1) := by decide +kernel
theorem dX5_noDay_3 : decode cX5_noDay 3 = .ok (.aload_n 0, 1) := by decide +kernel
theorem dX5_noDay_4 : decode cX5_noDay 4 = .ok (.getfield 78, 3) := by decide +kernel
theorem dX5_noDay_7 : decode cX5_noDay 7 = .ok (.i2l, 1) := by decide +kernel
theorem dX5_noDay_8 : decode cX5_noDay 8 = .ok (.lconst 1, 1) := by decide +kernel
theorem dX5_noDay_9 : decode cX5_noDay 9 = .ok (.lsub, 1) := by decide +kernel
theorem dX5_noDay_10 : decode cX5_noDay 10 = .ok (.invokestatic 81, 3) := by decide +kernel
theorem dX5_noDay_13 : decode cX5_noDay 13 = .ok (.ifCond .ne 7, 3) := by decide +kernel
theorem dX5_noDay_16 : decode cX5_noDay 16 = .ok (.iconst 1, 1) := by decide +kernel
theorem dX5_noDay_17 : decode cX5_noDay 17 = .ok (.goto 4, 3) := by decide +kernel
theorem dX5_noDay_20 : decode cX5_noDay 20 = .ok (.iconst 0, 1) := by decide +kernel
theorem dX5_noDay_21 : decode cX5_noDay 21 = .ok (.ireturn, 1) := by decide +kernel
set_option maxRecDepth 20000 in
theorem ggX5_noEater_X5_in : GoodIn wsX5_noEater wsX5_in := goodIn_r _ [5] (by decide +kernel) (by decide +kernel)
set_option maxRecDepth 20000 in
theorem gX5_noEater_X5_in : GoodIn wsX5_noEater (va_wsS RX5 81 yX5_in wsX5_in) := goodIn_app (goodIn_of _ (by decide +kernel)) ggX5_noEater_X5_in
theorem dX5_noEater_0 : decode cX5_noEater 0 = .ok (.iload_n 1, 1) := by decide +kernel
theorem dX5_noEater_1 : decode cX5_noEater 1 = .ok (.i2l, 1) := by decide +kernel
theorem dX5_noEater_2 : decode cX5_noEater 2 = .ok (.lconst 0, 1) := by decide +kernel
theorem dX5_noEater_3 : decode cX5_noEater 3 = .ok (.aload_n 0, 1) := by decide +kernel
theorem dX5_noEater_4 : decode cX5_noEater 4 = .ok (.getfield 85, 3) := by decide +kernel
theorem dX5_noEater_7 : decode cX5_noEater 7 = .ok (.i2l, 1) := by decide +kernel
theorem dX5_noEater_8 : decode cX5_noEater 8 = .ok (.lconst 1, 1) := by decide +kernel
theorem dX5_noEater_9 : decode cX5_noEater 9 = .ok (.lsub, 1) := by decide +kernel
theorem dX5_noEater_10 : decode cX5_noEater 10 = .ok (.invokestatic 81, 3) := by decide +kernel
theorem dX5_noEater_13 : decode cX5_noEater 13 = .ok (.ifCond .ne 7, 3) := by decide +kernel
theorem dX5_noEater_16 : decode cX5_noEater 16 = .ok (.iconst 1, 1) := by decide +kernel
theorem dX5_noEater_17 : decode cX5_noEater 17 = .ok (.goto 4, 3) := by decide +kernel
theorem dX5_noEater_20 : decode cX5_noEater 20 = .ok (.iconst 0, 1) := by decide +kernel
theorem dX5_noEater_21 : decode cX5_noEater 21 = .ok (.ireturn, 1) := by decide +kernel
set_option maxRecDepth 20000 in
theorem ggX5_noSet_X5_in : GoodIn wsX5_noSet wsX5_in := goodIn_r _ [5] (by decide +kernel) (by decide +kernel)
set_option maxRecDepth 20000 in
theorem gX5_noSet_X5_in : GoodIn wsX5_noSet (va_wsS RX5 81 yX5_in wsX5_in) := goodIn_app (goodIn_of _ (by decide +kernel)) ggX5_noSet_X5_in
theorem dX5_noSet_0 : decode cX5_noSet 0 = .ok (.iload_n 1, 1) := by decide +kernel
theorem dX5_noSet_1 : decode cX5_noSet 1 = .ok (.i2l, 1) := by decide +kernel
theorem dX5_noSet_2 : decode cX5_noSet 2 = .ok (.lconst 0, 1) := by decide +kernel
theorem dX5_noSet_3 : decode cX5_noSet 3 = .ok (.iconst 1, 1) := by decide +kernel
theorem dX5_noSet_4 : decode cX5_noSet 4 = .ok (.aload_n 0, 1) := by decide +kernel
theorem dX5_noSet_5 : decode cX5_noSet 5 = .ok (.getfield 78, 3) := by decide +kernel
theorem dX5_noSet_8 : decode cX5_noSet 8 = .ok (.ishl, 1) := by decide +kernel
theorem dX5_noSet_9 : decode cX5_noSet 9 = .ok (.i2l, 1) := by decide +kernel
theorem dX5_noSet_10 : decode cX5_noSet 10 = .ok (.lconst 1, 1) := by decide +kernel
theorem dX5_noSet_11 : decode cX5_noSet 11 = .ok (.lsub, 1) := by decide +kernel
theorem dX5_noSet_12 : decode cX5_noSet 12 = .ok (.invokestatic 81, 3) := by decide +kernel
theorem dX5_noSet_15 : decode cX5_noSet 15 = .ok (.ifCond .ne 7, 3) := by decide +kernel
theorem dX5_noSet_18 : decode cX5_noSet 18 = .ok (.iconst 1, 1) := by decide +kernel
theorem dX5_noSet_19 : decode cX5_noSet 19 = .ok (.goto 4, 3) := by decide +kernel
theorem dX5_noSet_22 : decode cX5_noSet 22 = .ok (.iconst 0, 1) := by decide +kernel
theorem dX5_noSet_23 : decode cX5_noSet 23 = .ok (.ireturn, 1) := by decide +kernel
theorem dX5_codeAt_0 : decode cX5_codeAt 0 = .ok (.aload_n 0, 1) := by decide +kernel
theorem dX5_codeAt_1 : decode cX5_codeAt 1 = .ok (.getfield 88, 3) := by decide +kernel
theorem dX5_codeAt_4 : decode cX5_codeAt 4 = .ok (.iload_n 2, 1) := by decide +kernel
theorem dX5_codeAt_5 : decode cX5_codeAt 5 = .ok (.if_icmp .ge 17, 3) := by decide +kernel
theorem dX5_codeAt_8 : decode cX5_codeAt 8 = .ok (.aload_n 0, 1) := by decide +kernel
theorem dX5_codeAt_9 : decode cX5_codeAt 9 = .ok (.getfield 63, 3) := by decide +kernel
theorem dX5_codeAt_12 : decode cX5_codeAt 12 = .ok (.iload_n 1, 1) := by decide +kernel
theorem dX5_codeAt_13 : decode cX5_codeAt 13 = .ok (.aload_n 0, 1) := by decide +kernel
theorem dX5_codeAt_14 : decode cX5_codeAt 14 = .ok (.getfield 88, 3) := by decide +kernel
theorem dX5_codeAt_17 : decode cX5_codeAt 17 = .ok (.iadd, 1) := by decide +kernel
theorem dX5_codeAt_18 : decode cX5_codeAt 18 = .ok (.iaload, 1) := by decide +kernel
theorem dX5_codeAt_19 : decode cX5_codeAt 19 = .ok (.goto 5, 3) := by decide +kernel
theorem dX5_codeAt_22 : decode cX5_codeAt 22 = .ok (.bipush (-9), 2) := by decide +kernel
theorem dX5_codeAt_24 : decode cX5_codeAt 24 = .ok (.ireturn, 1) := by decide +kernel
set_option maxRecDepth 20000 in
theorem ggX5_figure_X5_codeAt : GoodIn wsX5_figure wsX5_codeAt := goodIn_r _ [6, 1, 7, 11, 12, 13, 14, 15, 16, 17, 18, 19, 20, 21, 22, 23, 24, 25, 26, 27, 28, 29, 30, 31, 32, 33, 34, 35, 36, 37, 38, 39] (by decide +kernel) (by decide +kernel)
set_option maxRecDepth 20000 in
theorem gX5_figure_X5_codeAt : GoodIn wsX5_figure (wsV RX5 91 RX5 yX5_codeAt wsX5_codeAt) := goodIn_app (goodIn_of _ (by decide +kernel)) ggX5_figure_X5_codeAt
set_option maxRecDepth 20000 in
theorem ggX5_figure_X5_in : GoodIn wsX5_figure wsX5_in := goodIn_r _ [10] (by decide +kernel) (by decide +kernel)
set_option maxRecDepth 20000 in
theorem gX5_figure_X5_in : GoodIn wsX5_figure (va_wsS RX5 81 yX5_in wsX5_in) := goodIn_app (goodIn_of _ (by decide +kernel)) ggX5_figure_X5_in
theorem dX5_figure_0 : decode cX5_figure 0 = .ok (.aload_n 0, 1) := by decide +kernel
theorem dX5_figure_1 : decode cX5_figure 1 = .ok (.iload_n 1, 1) := by decide +kernel
theorem dX5_figure_2 : decode cX5_figure 2 = .ok (.iload_n 2, 1) := by decide +kernel
theorem dX5_figure_3 : decode cX5_figure 3 = .ok (.invokevirtual 91, 3) := by decide +kernel
theorem dX5_figure_6 : decode cX5_figure 6 = .ok (.bipush 48, 2) := by decide +kernel
theorem dX5_figure_8 : decode cX5_figure 8 = .ok (.isub, 1) := by decide +kernel
theorem dX5_figure_9 : decode cX5_figure 9 = .ok (.istore 5, 2) := by decide +kernel
theorem dX5_figure_11 : decode cX5_figure 11 = .ok (.iload 5, 2) := by decide +kernel
theorem dX5_figure_13 : decode cX5_figure 13 = .ok (.i2l, 1) := by decide +kernel
theorem dX5_figure_14 : decode cX5_figure 14 = .ok (.iload_n 3, 1) := by decide +kernel
theorem dX5_figure_15 : decode cX5_figure 15 = .ok (.i2l, 1) := by decide +kernel
theorem dX5_figure_16 : decode cX5_figure 16 = .ok (.iload 4, 2) := by decide +kernel
theorem dX5_figure_18 : decode cX5_figure 18 = .ok (.i2l, 1) := by decide +kernel
theorem dX5_figure_19 : decode cX5_figure 19 = .ok (.invokestatic 81, 3) := by decide +kernel
theorem dX5_figure_22 : decode cX5_figure 22 = .ok (.istore 6, 2) := by decide +kernel
theorem dX5_figure_24 : decode cX5_figure 24 = .ok (.aload_n 0, 1) := by decide +kernel
theorem dX5_figure_25 : decode cX5_figure 25 = .ok (.dup, 1) := by decide +kernel
theorem dX5_figure_26 : decode cX5_figure 26 = .ok (.getfield 88, 3) := by decide +kernel
theorem dX5_figure_29 : decode cX5_figure 29 = .ok (.iload 6, 2) := by decide +kernel
theorem dX5_figure_31 : decode cX5_figure 31 = .ok (.ifCond .eq 7, 3) := by decide +kernel
theorem dX5_figure_34 : decode cX5_figure 34 = .ok (.iconst 1, 1) := by decide +kernel
theorem dX5_figure_35 : decode cX5_figure 35 = .ok (.goto 4, 3) := by decide +kernel
theorem dX5_figure_38 : decode cX5_figure 38 = .ok (.iconst 0, 1) := by decide +kernel
theorem dX5_figure_39 : decode cX5_figure 39 = .ok (.iadd, 1) := by decide +kernel
theorem dX5_figure_40 : decode cX5_figure 40 = .ok (.putfield 88, 3) := by decide +kernel
theorem dX5_figure_43 : decode cX5_figure 43 = .ok (.iload 6, 2) := by decide +kernel
theorem dX5_figure_45 : decode cX5_figure 45 = .ok (.ifCond .eq 8, 3) := by decide +kernel
theorem dX5_figure_48 : decode cX5_figure 48 = .ok (.iload 5, 2) := by decide +kernel
theorem dX5_figure_50 : decode cX5_figure 50 = .ok (.goto 5, 3) := by decide +kernel
theorem dX5_figure_53 : decode cX5_figure 53 = .ok (.bipush (-9), 2) := by decide +kernel
theorem dX5_figure_55 : decode cX5_figure 55 = .ok (.ireturn, 1) := by decide +kernel
set_option maxRecDepth 20000 in
theorem ggX5_readsDays_X5_figure : GoodIn wsX5_readsDays wsX5_figure := goodIn_r _ [7, 8, 9, 10, 11, 6, 12, 13, 14, 15, 16, 17, 18, 19, 20, 21, 22, 23, 24, 25, 26, 27, 28, 29, 30, 31, 32, 33, 34, 35, 36, 37, 38, 39, 40, 41, 42, 43, 44, 45] (by decide +kernel) (by decide +kernel)
set_option maxRecDepth 20000 in
theorem gX5_readsDays_X5_figure : GoodIn wsX5_readsDays (wsV RX5 98 RX5 yX5_figure wsX5_figure) := goodIn_app (goodIn_of _ (by decide +kernel)) ggX5_readsDays_X5_figure
theorem dX5_readsDays_0 : decode cX5_readsDays 0 = .ok (.iconst 1, 1) := by decide +kernel
theorem dX5_readsDays_1 : decode cX5_readsDays 1 = .ok (.istore_n 3, 1) := by decide +kernel
theorem dX5_readsDays_2 : decode cX5_readsDays 2 = .ok (.aload_n 0, 1) := by decide +kernel
theorem dX5_readsDays_3 : decode cX5_readsDays 3 = .ok (.getfield 95, 3) := by decide +kernel
theorem dX5_readsDays_6 : decode cX5_readsDays 6 = .ok (.bipush 6, 2) := by decide +kernel
theorem dX5_readsDays_8 : decode cX5_readsDays 8 = .ok (.if_icmp .ge 57, 3) := by decide +kernel
theorem dX5_readsDays_11 : decode cX5_readsDays 11 = .ok (.iload_n 3, 1) := by decide +kernel
theorem dX5_readsDays_12 : decode cX5_readsDays 12 = .ok (.ifCond .eq 53, 3) := by decide +kernel
theorem dX5_readsDays_15 : decode cX5_readsDays 15 = .ok (.aload_n 0, 1) := by decide +kernel
theorem dX5_readsDays_16 : decode cX5_readsDays 16 = .ok (.iload_n 1, 1) := by decide +kernel
theorem dX5_readsDays_17 : decode cX5_readsDays 17 = .ok (.iload_n 2, 1) := by decide +kernel
theorem dX5_readsDays_18 : decode cX5_readsDays 18 = .ok (.iconst 0, 1) := by decide +kernel
theorem dX5_readsDays_19 : decode cX5_readsDays 19 = .ok (.bipush 9, 2) := by decide +kernel
theorem dX5_readsDays_21 : decode cX5_readsDays 21 = .ok (.invokevirtual 98, 3) := by decide +kernel
theorem dX5_readsDays_24 : decode cX5_readsDays 24 = .ok (.istore 4, 2) := by decide +kernel
theorem dX5_readsDays_26 : decode cX5_readsDays 26 = .ok (.iload 4, 2) := by decide +kernel
theorem dX5_readsDays_28 : decode cX5_readsDays 28 = .ok (.ifCond .lt 7, 3) := by decide +kernel
theorem dX5_readsDays_31 : decode cX5_readsDays 31 = .ok (.iconst 1, 1) := by decide +kernel
theorem dX5_readsDays_32 : decode cX5_readsDays 32 = .ok (.goto 4, 3) := by decide +kernel
theorem dX5_readsDays_35 : decode cX5_readsDays 35 = .ok (.iconst 0, 1) := by decide +kernel
theorem dX5_readsDays_36 : decode cX5_readsDays 36 = .ok (.istore_n 3, 1) := by decide +kernel
theorem dX5_readsDays_37 : decode cX5_readsDays 37 = .ok (.iload_n 3, 1) := by decide +kernel
theorem dX5_readsDays_38 : decode cX5_readsDays 38 = .ok (.ifCond .eq 24, 3) := by decide +kernel
theorem dX5_readsDays_41 : decode cX5_readsDays 41 = .ok (.aload_n 0, 1) := by decide +kernel
theorem dX5_readsDays_42 : decode cX5_readsDays 42 = .ok (.getfield 29, 3) := by decide +kernel
theorem dX5_readsDays_45 : decode cX5_readsDays 45 = .ok (.aload_n 0, 1) := by decide +kernel
theorem dX5_readsDays_46 : decode cX5_readsDays 46 = .ok (.getfield 95, 3) := by decide +kernel
theorem dX5_readsDays_49 : decode cX5_readsDays 49 = .ok (.iload 4, 2) := by decide +kernel
theorem dX5_readsDays_51 : decode cX5_readsDays 51 = .ok (.iastore, 1) := by decide +kernel
theorem dX5_readsDays_52 : decode cX5_readsDays 52 = .ok (.aload_n 0, 1) := by decide +kernel
theorem dX5_readsDays_53 : decode cX5_readsDays 53 = .ok (.dup, 1) := by decide +kernel
theorem dX5_readsDays_54 : decode cX5_readsDays 54 = .ok (.getfield 95, 3) := by decide +kernel
theorem dX5_readsDays_57 : decode cX5_readsDays 57 = .ok (.iconst 1, 1) := by decide +kernel
theorem dX5_readsDays_58 : decode cX5_readsDays 58 = .ok (.iadd, 1) := by decide +kernel
theorem dX5_readsDays_59 : decode cX5_readsDays 59 = .ok (.putfield 95, 3) := by decide +kernel
theorem dX5_readsDays_62 : decode cX5_readsDays 62 = .ok (.goto (-60), 3) := by decide +kernel
theorem dX5_readsDays_65 : decode cX5_readsDays 65 = .ok (.aload_n 0, 1) := by decide +kernel
theorem dX5_readsDays_66 : decode cX5_readsDays 66 = .ok (.getfield 95, 3) := by decide +kernel
theorem dX5_readsDays_69 : decode cX5_readsDays 69 = .ok (.ifCond .le 7, 3) := by decide +kernel
theorem dX5_readsDays_72 : decode cX5_readsDays 72 = .ok (.iconst 1, 1) := by decide +kernel
theorem dX5_readsDays_73 : decode cX5_readsDays 73 = .ok (.goto 4, 3) := by decide +kernel
theorem dX5_readsDays_76 : decode cX5_readsDays 76 = .ok (.iconst 0, 1) := by decide +kernel
theorem dX5_readsDays_77 : decode cX5_readsDays 77 = .ok (.ireturn, 1) := by decide +kernel
set_option maxRecDepth 20000 in
theorem ggX5_readsEater_X5_codeAt : GoodIn wsX5_readsEater wsX5_codeAt := goodIn_r _ [11, 2, 12, 20, 21, 22, 23, 24, 25, 26, 27, 28, 29, 30, 31, 32, 33, 34, 35, 36, 37, 38, 39, 40, 41, 42, 43, 44, 45, 46, 47, 48] (by decide +kernel) (by decide +kernel)
set_option maxRecDepth 20000 in
theorem gX5_readsEater_X5_codeAt : GoodIn wsX5_readsEater (wsV RX5 91 RX5 yX5_codeAt wsX5_codeAt) := goodIn_app (goodIn_of _ (by decide +kernel)) ggX5_readsEater_X5_codeAt
set_option maxRecDepth 20000 in
theorem ggX5_readsEater_X5_figure : GoodIn wsX5_readsEater wsX5_figure := goodIn_r _ [16, 2, 7, 8, 9, 10, 11, 12, 17, 18, 19, 20, 21, 22, 23, 24, 25, 26, 27, 28, 29, 30, 31, 32, 33, 34, 35, 36, 37, 38, 39, 40, 41, 42, 43, 44, 45, 46, 47, 48] (by decide +kernel) (by decide +kernel)
set_option maxRecDepth 20000 in
theorem gX5_readsEater_X5_figure : GoodIn wsX5_readsEater (wsV RX5 98 RX5 yX5_figure wsX5_figure) := goodIn_app (goodIn_of _ (by decide +kernel)) ggX5_readsEater_X5_figure
theorem dX5_readsEater_0 : decode cX5_readsEater 0 = .ok (.aload_n 0, 1) := by decide +kernel
theorem dX5_readsEater_1 : decode cX5_readsEater 1 = .ok (.getfield 102, 3) := by decide +kernel
theorem dX5_readsEater_4 : decode cX5_readsEater 4 = .ok (.iconst 4, 1) := by decide +kernel
theorem dX5_readsEater_5 : decode cX5_readsEater 5 = .ok (.if_icmp .eq 14, 3) := by decide +kernel
theorem dX5_readsEater_8 : decode cX5_readsEater 8 = .ok (.aload_n 0, 1) := by decide +kernel
theorem dX5_readsEater_9 : decode cX5_readsEater 9 = .ok (.iload_n 1, 1) := by decide +kernel
theorem dX5_readsEater_10 : decode cX5_readsEater 10 = .ok (.iload_n 2, 1) := by decide +kernel
theorem dX5_readsEater_11 : decode cX5_readsEater 11 = .ok (.invokevirtual 91, 3) := by decide +kernel
theorem dX5_readsEater_14 : decode cX5_readsEater 14 = .ok (.bipush 59, 2) := by decide +kernel
theorem dX5_readsEater_16 : decode cX5_readsEater 16 = .ok (.if_icmp .eq 5, 3) := by decide +kernel
theorem dX5_readsEater_19 : decode cX5_readsEater 19 = .ok (.iconst 0, 1) := by decide +kernel
theorem dX5_readsEater_20 : decode cX5_readsEater 20 = .ok (.ireturn, 1) := by decide +kernel
theorem dX5_readsEater_21 : decode cX5_readsEater 21 = .ok (.aload_n 0, 1) := by decide +kernel
theorem dX5_readsEater_22 : decode cX5_readsEater 22 = .ok (.dup, 1) := by decide +kernel
theorem dX5_readsEater_23 : decode cX5_readsEater 23 = .ok (.getfield 88, 3) := by decide +kernel
theorem dX5_readsEater_26 : decode cX5_readsEater 26 = .ok (.iconst 1, 1) := by decide +kernel
theorem dX5_readsEater_27 : decode cX5_readsEater 27 = .ok (.iadd, 1) := by decide +kernel
theorem dX5_readsEater_28 : decode cX5_readsEater 28 = .ok (.putfield 88, 3) := by decide +kernel
theorem dX5_readsEater_31 : decode cX5_readsEater 31 = .ok (.aload_n 0, 1) := by decide +kernel
theorem dX5_readsEater_32 : decode cX5_readsEater 32 = .ok (.iload_n 1, 1) := by decide +kernel
theorem dX5_readsEater_33 : decode cX5_readsEater 33 = .ok (.iload_n 2, 1) := by decide +kernel
theorem dX5_readsEater_34 : decode cX5_readsEater 34 = .ok (.invokevirtual 91, 3) := by decide +kernel
theorem dX5_readsEater_37 : decode cX5_readsEater 37 = .ok (.istore_n 3, 1) := by decide +kernel
theorem dX5_readsEater_38 : decode cX5_readsEater 38 = .ok (.iload_n 3, 1) := by decide +kernel
theorem dX5_readsEater_39 : decode cX5_readsEater 39 = .ok (.bipush 101, 2) := by decide +kernel
theorem dX5_readsEater_41 : decode cX5_readsEater 41 = .ok (.if_icmp .eq 17, 3) := by decide +kernel
theorem dX5_readsEater_44 : decode cX5_readsEater 44 = .ok (.iload_n 3, 1) := by decide +kernel
theorem dX5_readsEater_45 : decode cX5_readsEater 45 = .ok (.bipush 115, 2) := by decide +kernel
theorem dX5_readsEater_47 : decode cX5_readsEater 47 = .ok (.if_icmp .eq 11, 3) := by decide +kernel
theorem dX5_readsEater_50 : decode cX5_readsEater 50 = .ok (.iload_n 3, 1) := by decide +kernel
theorem dX5_readsEater_51 : decode cX5_readsEater 51 = .ok (.bipush 108, 2) := by decide +kernel
theorem dX5_readsEater_53 : decode cX5_readsEater 53 = .ok (.if_icmp .eq 5, 3) := by decide +kernel
theorem dX5_readsEater_56 : decode cX5_readsEater 56 = .ok (.iconst 0, 1) := by decide +kernel
theorem dX5_readsEater_57 : decode cX5_readsEater 57 = .ok (.ireturn, 1) := by decide +kernel
theorem dX5_readsEater_58 : decode cX5_readsEater 58 = .ok (.aload_n 0, 1) := by decide +kernel
theorem dX5_readsEater_59 : decode cX5_readsEater 59 = .ok (.dup, 1) := by decide +kernel
theorem dX5_readsEater_60 : decode cX5_readsEater 60 = .ok (.getfield 88, 3) := by decide +kernel
theorem dX5_readsEater_63 : decode cX5_readsEater 63 = .ok (.iconst 1, 1) := by decide +kernel
theorem dX5_readsEater_64 : decode cX5_readsEater 64 = .ok (.iadd, 1) := by decide +kernel
theorem dX5_readsEater_65 : decode cX5_readsEater 65 = .ok (.putfield 88, 3) := by decide +kernel
theorem dX5_readsEater_68 : decode cX5_readsEater 68 = .ok (.aload_n 0, 1) := by decide +kernel
theorem dX5_readsEater_69 : decode cX5_readsEater 69 = .ok (.iload_n 1, 1) := by decide +kernel
theorem dX5_readsEater_70 : decode cX5_readsEater 70 = .ok (.iload_n 2, 1) := by decide +kernel
theorem dX5_readsEater_71 : decode cX5_readsEater 71 = .ok (.iconst 0, 1) := by decide +kernel
theorem dX5_readsEater_72 : decode cX5_readsEater 72 = .ok (.iconst 5, 1) := by decide +kernel
theorem dX5_readsEater_73 : decode cX5_readsEater 73 = .ok (.invokevirtual 98, 3) := by decide +kernel
theorem dX5_readsEater_76 : decode cX5_readsEater 76 = .ok (.istore 4, 2) := by decide +kernel
theorem dX5_readsEater_78 : decode cX5_readsEater 78 = .ok (.iload 4, 2) := by decide +kernel
theorem dX5_readsEater_80 : decode cX5_readsEater 80 = .ok (.ifCond .ge 8, 3) := by decide +kernel
theorem dX5_readsEater_83 : decode cX5_readsEater 83 = .ok (.bipush (-9), 2) := by decide +kernel
theorem dX5_readsEater_85 : decode cX5_readsEater 85 = .ok (.goto 12, 3) := by decide +kernel
theorem dX5_readsEater_88 : decode cX5_readsEater 88 = .ok (.aload_n 0, 1) := by decide +kernel
theorem dX5_readsEater_89 : decode cX5_readsEater 89 = .ok (.iload_n 1, 1) := by decide +kernel
theorem dX5_readsEater_90 : decode cX5_readsEater 90 = .ok (.iload_n 2, 1) := by decide +kernel
theorem dX5_readsEater_91 : decode cX5_readsEater 91 = .ok (.iconst 1, 1) := by decide +kernel
theorem dX5_readsEater_92 : decode cX5_readsEater 92 = .ok (.bipush 9, 2) := by decide +kernel
theorem dX5_readsEater_94 : decode cX5_readsEater 94 = .ok (.invokevirtual 98, 3) := by decide +kernel
theorem dX5_readsEater_97 : decode cX5_readsEater 97 = .ok (.istore 5, 2) := by decide +kernel
theorem dX5_readsEater_99 : decode cX5_readsEater 99 = .ok (.iload 5, 2) := by decide +kernel
theorem dX5_readsEater_101 : decode cX5_readsEater 101 = .ok (.ifCond .ge 8, 3) := by decide +kernel
theorem dX5_readsEater_104 : decode cX5_readsEater 104 = .ok (.bipush (-9), 2) := by decide +kernel
theorem dX5_readsEater_106 : decode cX5_readsEater 106 = .ok (.goto 12, 3) := by decide +kernel
theorem dX5_readsEater_109 : decode cX5_readsEater 109 = .ok (.aload_n 0, 1) := by decide +kernel
theorem dX5_readsEater_110 : decode cX5_readsEater 110 = .ok (.iload_n 1, 1) := by decide +kernel
theorem dX5_readsEater_111 : decode cX5_readsEater 111 = .ok (.iload_n 2, 1) := by decide +kernel
theorem dX5_readsEater_112 : decode cX5_readsEater 112 = .ok (.iconst 0, 1) := by decide +kernel
theorem dX5_readsEater_113 : decode cX5_readsEater 113 = .ok (.bipush 6, 2) := by decide +kernel
theorem dX5_readsEater_115 : decode cX5_readsEater 115 = .ok (.invokevirtual 98, 3) := by decide +kernel
theorem dX5_readsEater_118 : decode cX5_readsEater 118 = .ok (.istore 6, 2) := by decide +kernel
theorem dX5_readsEater_120 : decode cX5_readsEater 120 = .ok (.iload 6, 2) := by decide +kernel
theorem dX5_readsEater_122 : decode cX5_readsEater 122 = .ok (.ifCond .ge 5, 3) := by decide +kernel
theorem dX5_readsEater_125 : decode cX5_readsEater 125 = .ok (.iconst 0, 1) := by decide +kernel
theorem dX5_readsEater_126 : decode cX5_readsEater 126 = .ok (.ireturn, 1) := by decide +kernel
theorem dX5_readsEater_127 : decode cX5_readsEater 127 = .ok (.aload_n 0, 1) := by decide +kernel
theorem dX5_readsEater_128 : decode cX5_readsEater 128 = .ok (.getfield 32, 3) := by decide +kernel
theorem dX5_readsEater_131 : decode cX5_readsEater 131 = .ok (.aload_n 0, 1) := by decide +kernel
theorem dX5_readsEater_132 : decode cX5_readsEater 132 = .ok (.getfield 102, 3) := by decide +kernel
theorem dX5_readsEater_135 : decode cX5_readsEater 135 = .ok (.iload_n 3, 1) := by decide +kernel
theorem dX5_readsEater_136 : decode cX5_readsEater 136 = .ok (.bipush 101, 2) := by decide +kernel
theorem dX5_readsEater_138 : decode cX5_readsEater 138 = .ok (.if_icmp .ne 7, 3) := by decide +kernel
theorem dX5_readsEater_141 : decode cX5_readsEater 141 = .ok (.iconst 0, 1) := by decide +kernel
theorem dX5_readsEater_142 : decode cX5_readsEater 142 = .ok (.goto 14, 3) := by decide +kernel
theorem dX5_readsEater_145 : decode cX5_readsEater 145 = .ok (.iload_n 3, 1) := by decide +kernel
theorem dX5_readsEater_146 : decode cX5_readsEater 146 = .ok (.bipush 115, 2) := by decide +kernel
theorem dX5_readsEater_148 : decode cX5_readsEater 148 = .ok (.if_icmp .ne 7, 3) := by decide +kernel
theorem dX5_readsEater_151 : decode cX5_readsEater 151 = .ok (.iconst 1, 1) := by decide +kernel
theorem dX5_readsEater_152 : decode cX5_readsEater 152 = .ok (.goto 4, 3) := by decide +kernel
theorem dX5_readsEater_155 : decode cX5_readsEater 155 = .ok (.iconst 2, 1) := by decide +kernel
theorem dX5_readsEater_156 : decode cX5_readsEater 156 = .ok (.iastore, 1) := by decide +kernel
theorem dX5_readsEater_157 : decode cX5_readsEater 157 = .ok (.aload_n 0, 1) := by decide +kernel
theorem dX5_readsEater_158 : decode cX5_readsEater 158 = .ok (.getfield 35, 3) := by decide +kernel
theorem dX5_readsEater_161 : decode cX5_readsEater 161 = .ok (.aload_n 0, 1) := by decide +kernel
theorem dX5_readsEater_162 : decode cX5_readsEater 162 = .ok (.getfield 102, 3) := by decide +kernel
theorem dX5_readsEater_165 : decode cX5_readsEater 165 = .ok (.iload 4, 2) := by decide +kernel
theorem dX5_readsEater_167 : decode cX5_readsEater 167 = .ok (.iastore, 1) := by decide +kernel
theorem dX5_readsEater_168 : decode cX5_readsEater 168 = .ok (.aload_n 0, 1) := by decide +kernel
theorem dX5_readsEater_169 : decode cX5_readsEater 169 = .ok (.getfield 38, 3) := by decide +kernel
theorem dX5_readsEater_172 : decode cX5_readsEater 172 = .ok (.aload_n 0, 1) := by decide +kernel
theorem dX5_readsEater_173 : decode cX5_readsEater 173 = .ok (.getfield 102, 3) := by decide +kernel
theorem dX5_readsEater_176 : decode cX5_readsEater 176 = .ok (.iload 5, 2) := by decide +kernel
theorem dX5_readsEater_178 : decode cX5_readsEater 178 = .ok (.iastore, 1) := by decide +kernel
theorem dX5_readsEater_179 : decode cX5_readsEater 179 = .ok (.aload_n 0, 1) := by decide +kernel
theorem dX5_readsEater_180 : decode cX5_readsEater 180 = .ok (.getfield 41, 3) := by decide +kernel
theorem dX5_readsEater_183 : decode cX5_readsEater 183 = .ok (.aload_n 0, 1) := by decide +kernel
theorem dX5_readsEater_184 : decode cX5_readsEater 184 = .ok (.getfield 102, 3) := by decide +kernel
theorem dX5_readsEater_187 : decode cX5_readsEater 187 = .ok (.iload 6, 2) := by decide +kernel
theorem dX5_readsEater_189 : decode cX5_readsEater 189 = .ok (.iastore, 1) := by decide +kernel
theorem dX5_readsEater_190 : decode cX5_readsEater 190 = .ok (.aload_n 0, 1) := by decide +kernel
theorem dX5_readsEater_191 : decode cX5_readsEater 191 = .ok (.dup, 1) := by decide +kernel
theorem dX5_readsEater_192 : decode cX5_readsEater 192 = .ok (.getfield 102, 3) := by decide +kernel
theorem dX5_readsEater_195 : decode cX5_readsEater 195 = .ok (.iconst 1, 1) := by decide +kernel
theorem dX5_readsEater_196 : decode cX5_readsEater 196 = .ok (.iadd, 1) := by decide +kernel
theorem dX5_readsEater_197 : decode cX5_readsEater 197 = .ok (.putfield 102, 3) := by decide +kernel
theorem dX5_readsEater_200 : decode cX5_readsEater 200 = .ok (.iconst 1, 1) := by decide +kernel
theorem dX5_readsEater_201 : decode cX5_readsEater 201 = .ok (.ireturn, 1) := by decide +kernel
set_option maxRecDepth 20000 in
theorem ggX5_readsDuchy_X5_codeAt : GoodIn wsX5_readsDuchy wsX5_codeAt := goodIn_r _ [9, 1, 10, 31, 32, 33, 34, 35, 36, 37, 38, 39, 40, 41, 42, 43, 44, 45, 46, 47, 48, 49, 50, 51, 52, 53, 54, 55, 56, 57, 58, 59] (by decide +kernel) (by decide +kernel)
set_option maxRecDepth 20000 in
theorem gX5_readsDuchy_X5_codeAt : GoodIn wsX5_readsDuchy (wsV RX5 91 RX5 yX5_codeAt wsX5_codeAt) := goodIn_app (goodIn_of _ (by decide +kernel)) ggX5_readsDuchy_X5_codeAt
set_option maxRecDepth 20000 in
theorem ggX5_readsDuchy_X5_figure : GoodIn wsX5_readsDuchy wsX5_figure := goodIn_r _ [14, 1, 5, 6, 7, 8, 9, 10, 15, 16, 17, 31, 32, 33, 34, 35, 36, 37, 38, 39, 40, 41, 42, 43, 44, 45, 46, 47, 48, 49, 50, 51, 52, 53, 54, 55, 56, 57, 58, 59] (by decide +kernel) (by decide +kernel)
set_option maxRecDepth 20000 in
theorem gX5_readsDuchy_X5_figure : GoodIn wsX5_readsDuchy (wsV RX5 98 RX5 yX5_figure wsX5_figure) := goodIn_app (goodIn_of _ (by decide +kernel)) ggX5_readsDuchy_X5_figure
set_option maxRecDepth 20000 in
theorem ggX5_readsDuchy_X5_readsDays : GoodIn wsX5_readsDuchy wsX5_readsDays := goodIn_r _ [21, 2, 22, 11, 12, 13, 8, 14, 1, 5, 6, 7, 9, 10, 15, 16, 17, 31, 32, 33, 34, 35, 36, 37, 38, 39, 40, 41, 42, 43, 44, 45, 46, 47, 48, 49, 50, 51, 52, 53, 54, 55, 56, 57, 58, 59] (by decide +kernel) (by decide +kernel)
set_option maxRecDepth 20000 in
theorem gX5_readsDuchy_X5_readsDays : GoodIn wsX5_readsDuchy (wsV RX5 108 RX5 yX5_readsDays wsX5_readsDays) := goodIn_app (goodIn_of _ (by decide +kernel)) ggX5_readsDuchy_X5_readsDays
set_option maxRecDepth 20000 in
theorem ggX5_readsDuchy_X5_readsEater : GoodIn wsX5_readsDuchy wsX5_readsEater := goodIn_r _ [26, 3, 1, 27, 28, 29, 30, 5, 6, 7, 8, 9, 10, 11, 12, 13, 14, 15, 16, 17, 31, 32, 33, 34, 35, 36, 37, 38, 39, 40, 41, 42, 43, 44, 45, 46, 47, 48, 49, 50, 51, 52, 53, 54, 55, 56, 57, 58, 59] (by decide +kernel) (by decide +kernel)
set_option maxRecDepth 20000 in
theorem gX5_readsDuchy_X5_readsEater : GoodIn wsX5_readsDuchy (wsV RX5 112 RX5 yX5_readsEater wsX5_readsEater) := goodIn_app (goodIn_of _ (by decide +kernel)) ggX5_readsDuchy_X5_readsEater
theorem dX5_readsDuchy_0 : decode cX5_readsDuchy 0 = .ok (.aload_n 0, 1) := by decide +kernel
theorem dX5_readsDuchy_1 : decode cX5_readsDuchy 1 = .ok (.iconst 0, 1) := by decide +kernel
theorem dX5_readsDuchy_2 : decode cX5_readsDuchy 2 = .ok (.putfield 88, 3) := by decide +kernel
theorem dX5_readsDuchy_5 : decode cX5_readsDuchy 5 = .ok (.aload_n 0, 1) := by decide +kernel
theorem dX5_readsDuchy_6 : decode cX5_readsDuchy 6 = .ok (.iconst 0, 1) := by decide +kernel
theorem dX5_readsDuchy_7 : decode cX5_readsDuchy 7 = .ok (.putfield 95, 3) := by decide +kernel
theorem dX5_readsDuchy_10 : decode cX5_readsDuchy 10 = .ok (.aload_n 0, 1) := by decide +kernel
theorem dX5_readsDuchy_11 : decode cX5_readsDuchy 11 = .ok (.iconst 0, 1) := by decide +kernel
theorem dX5_readsDuchy_12 : decode cX5_readsDuchy 12 = .ok (.putfield 102, 3) := by decide +kernel
theorem dX5_readsDuchy_15 : decode cX5_readsDuchy 15 = .ok (.aload_n 0, 1) := by decide +kernel
theorem dX5_readsDuchy_16 : decode cX5_readsDuchy 16 = .ok (.iload_n 1, 1) := by decide +kernel
theorem dX5_readsDuchy_17 : decode cX5_readsDuchy 17 = .ok (.iload_n 2, 1) := by decide +kernel
theorem dX5_readsDuchy_18 : decode cX5_readsDuchy 18 = .ok (.invokevirtual 91, 3) := by decide +kernel
theorem dX5_readsDuchy_21 : decode cX5_readsDuchy 21 = .ok (.bipush 100, 2) := by decide +kernel
theorem dX5_readsDuchy_23 : decode cX5_readsDuchy 23 = .ok (.if_icmp .ne 7, 3) := by decide +kernel
theorem dX5_readsDuchy_26 : decode cX5_readsDuchy 26 = .ok (.iconst 1, 1) := by decide +kernel
theorem dX5_readsDuchy_27 : decode cX5_readsDuchy 27 = .ok (.goto 4, 3) := by decide +kernel
theorem dX5_readsDuchy_30 : decode cX5_readsDuchy 30 = .ok (.iconst 0, 1) := by decide +kernel
theorem dX5_readsDuchy_31 : decode cX5_readsDuchy 31 = .ok (.istore_n 3, 1) := by decide +kernel
theorem dX5_readsDuchy_32 : decode cX5_readsDuchy 32 = .ok (.aload_n 0, 1) := by decide +kernel
theorem dX5_readsDuchy_33 : decode cX5_readsDuchy 33 = .ok (.dup, 1) := by decide +kernel
theorem dX5_readsDuchy_34 : decode cX5_readsDuchy 34 = .ok (.getfield 88, 3) := by decide +kernel
theorem dX5_readsDuchy_37 : decode cX5_readsDuchy 37 = .ok (.iload_n 3, 1) := by decide +kernel
theorem dX5_readsDuchy_38 : decode cX5_readsDuchy 38 = .ok (.ifCond .eq 7, 3) := by decide +kernel
theorem dX5_readsDuchy_41 : decode cX5_readsDuchy 41 = .ok (.iconst 1, 1) := by decide +kernel
theorem dX5_readsDuchy_42 : decode cX5_readsDuchy 42 = .ok (.goto 4, 3) := by decide +kernel
theorem dX5_readsDuchy_45 : decode cX5_readsDuchy 45 = .ok (.iconst 0, 1) := by decide +kernel
theorem dX5_readsDuchy_46 : decode cX5_readsDuchy 46 = .ok (.iadd, 1) := by decide +kernel
theorem dX5_readsDuchy_47 : decode cX5_readsDuchy 47 = .ok (.putfield 88, 3) := by decide +kernel
theorem dX5_readsDuchy_50 : decode cX5_readsDuchy 50 = .ok (.aload_n 0, 1) := by decide +kernel
theorem dX5_readsDuchy_51 : decode cX5_readsDuchy 51 = .ok (.iload_n 3, 1) := by decide +kernel
theorem dX5_readsDuchy_52 : decode cX5_readsDuchy 52 = .ok (.ifCond .eq 15, 3) := by decide +kernel
theorem dX5_readsDuchy_55 : decode cX5_readsDuchy 55 = .ok (.aload_n 0, 1) := by decide +kernel
theorem dX5_readsDuchy_56 : decode cX5_readsDuchy 56 = .ok (.iload_n 1, 1) := by decide +kernel
theorem dX5_readsDuchy_57 : decode cX5_readsDuchy 57 = .ok (.iload_n 2, 1) := by decide +kernel
theorem dX5_readsDuchy_58 : decode cX5_readsDuchy 58 = .ok (.iconst 0, 1) := by decide +kernel
theorem dX5_readsDuchy_59 : decode cX5_readsDuchy 59 = .ok (.bipush 9, 2) := by decide +kernel
theorem dX5_readsDuchy_61 : decode cX5_readsDuchy 61 = .ok (.invokevirtual 98, 3) := by decide +kernel
theorem dX5_readsDuchy_64 : decode cX5_readsDuchy 64 = .ok (.goto 5, 3) := by decide +kernel
theorem dX5_readsDuchy_67 : decode cX5_readsDuchy 67 = .ok (.bipush (-9), 2) := by decide +kernel
theorem dX5_readsDuchy_69 : decode cX5_readsDuchy 69 = .ok (.putfield 105, 3) := by decide +kernel
theorem dX5_readsDuchy_72 : decode cX5_readsDuchy 72 = .ok (.aload_n 0, 1) := by decide +kernel
theorem dX5_readsDuchy_73 : decode cX5_readsDuchy 73 = .ok (.getfield 105, 3) := by decide +kernel
theorem dX5_readsDuchy_76 : decode cX5_readsDuchy 76 = .ok (.ifCond .lt 18, 3) := by decide +kernel
theorem dX5_readsDuchy_79 : decode cX5_readsDuchy 79 = .ok (.aload_n 0, 1) := by decide +kernel
theorem dX5_readsDuchy_80 : decode cX5_readsDuchy 80 = .ok (.iload_n 1, 1) := by decide +kernel
theorem dX5_readsDuchy_81 : decode cX5_readsDuchy 81 = .ok (.iload_n 2, 1) := by decide +kernel
theorem dX5_readsDuchy_82 : decode cX5_readsDuchy 82 = .ok (.invokevirtual 91, 3) := by decide +kernel
theorem dX5_readsDuchy_85 : decode cX5_readsDuchy 85 = .ok (.bipush 44, 2) := by decide +kernel
theorem dX5_readsDuchy_87 : decode cX5_readsDuchy 87 = .ok (.if_icmp .ne 7, 3) := by decide +kernel
theorem dX5_readsDuchy_90 : decode cX5_readsDuchy 90 = .ok (.iconst 1, 1) := by decide +kernel
theorem dX5_readsDuchy_91 : decode cX5_readsDuchy 91 = .ok (.goto 4, 3) := by decide +kernel
theorem dX5_readsDuchy_94 : decode cX5_readsDuchy 94 = .ok (.iconst 0, 1) := by decide +kernel
theorem dX5_readsDuchy_95 : decode cX5_readsDuchy 95 = .ok (.istore_n 3, 1) := by decide +kernel
theorem dX5_readsDuchy_96 : decode cX5_readsDuchy 96 = .ok (.aload_n 0, 1) := by decide +kernel
theorem dX5_readsDuchy_97 : decode cX5_readsDuchy 97 = .ok (.dup, 1) := by decide +kernel
theorem dX5_readsDuchy_98 : decode cX5_readsDuchy 98 = .ok (.getfield 88, 3) := by decide +kernel
theorem dX5_readsDuchy_101 : decode cX5_readsDuchy 101 = .ok (.iload_n 3, 1) := by decide +kernel
theorem dX5_readsDuchy_102 : decode cX5_readsDuchy 102 = .ok (.ifCond .eq 7, 3) := by decide +kernel
theorem dX5_readsDuchy_105 : decode cX5_readsDuchy 105 = .ok (.iconst 1, 1) := by decide +kernel
theorem dX5_readsDuchy_106 : decode cX5_readsDuchy 106 = .ok (.goto 4, 3) := by decide +kernel
theorem dX5_readsDuchy_109 : decode cX5_readsDuchy 109 = .ok (.iconst 0, 1) := by decide +kernel
theorem dX5_readsDuchy_110 : decode cX5_readsDuchy 110 = .ok (.iadd, 1) := by decide +kernel
theorem dX5_readsDuchy_111 : decode cX5_readsDuchy 111 = .ok (.putfield 88, 3) := by decide +kernel
theorem dX5_readsDuchy_114 : decode cX5_readsDuchy 114 = .ok (.iload_n 3, 1) := by decide +kernel
theorem dX5_readsDuchy_115 : decode cX5_readsDuchy 115 = .ok (.ifCond .eq 16, 3) := by decide +kernel
theorem dX5_readsDuchy_118 : decode cX5_readsDuchy 118 = .ok (.aload_n 0, 1) := by decide +kernel
theorem dX5_readsDuchy_119 : decode cX5_readsDuchy 119 = .ok (.iload_n 1, 1) := by decide +kernel
theorem dX5_readsDuchy_120 : decode cX5_readsDuchy 120 = .ok (.iload_n 2, 1) := by decide +kernel
theorem dX5_readsDuchy_121 : decode cX5_readsDuchy 121 = .ok (.invokevirtual 108, 3) := by decide +kernel
theorem dX5_readsDuchy_124 : decode cX5_readsDuchy 124 = .ok (.ifCond .eq 7, 3) := by decide +kernel
theorem dX5_readsDuchy_127 : decode cX5_readsDuchy 127 = .ok (.iconst 1, 1) := by decide +kernel
theorem dX5_readsDuchy_128 : decode cX5_readsDuchy 128 = .ok (.goto 4, 3) := by decide +kernel
theorem dX5_readsDuchy_131 : decode cX5_readsDuchy 131 = .ok (.iconst 0, 1) := by decide +kernel
theorem dX5_readsDuchy_132 : decode cX5_readsDuchy 132 = .ok (.istore_n 3, 1) := by decide +kernel
theorem dX5_readsDuchy_133 : decode cX5_readsDuchy 133 = .ok (.iload_n 3, 1) := by decide +kernel
theorem dX5_readsDuchy_134 : decode cX5_readsDuchy 134 = .ok (.ifCond .eq 28, 3) := by decide +kernel
theorem dX5_readsDuchy_137 : decode cX5_readsDuchy 137 = .ok (.aload_n 0, 1) := by decide +kernel
theorem dX5_readsDuchy_138 : decode cX5_readsDuchy 138 = .ok (.getfield 102, 3) := by decide +kernel
theorem dX5_readsDuchy_141 : decode cX5_readsDuchy 141 = .ok (.ifCond .eq 11, 3) := by decide +kernel
theorem dX5_readsDuchy_144 : decode cX5_readsDuchy 144 = .ok (.aload_n 0, 1) := by decide +kernel
theorem dX5_readsDuchy_145 : decode cX5_readsDuchy 145 = .ok (.getfield 88, 3) := by decide +kernel
theorem dX5_readsDuchy_148 : decode cX5_readsDuchy 148 = .ok (.iload_n 2, 1) := by decide +kernel
theorem dX5_readsDuchy_149 : decode cX5_readsDuchy 149 = .ok (.if_icmp .ge 13, 3) := by decide +kernel
theorem dX5_readsDuchy_152 : decode cX5_readsDuchy 152 = .ok (.aload_n 0, 1) := by decide +kernel
theorem dX5_readsDuchy_153 : decode cX5_readsDuchy 153 = .ok (.iload_n 1, 1) := by decide +kernel
theorem dX5_readsDuchy_154 : decode cX5_readsDuchy 154 = .ok (.iload_n 2, 1) := by decide +kernel
theorem dX5_readsDuchy_155 : decode cX5_readsDuchy 155 = .ok (.invokevirtual 112, 3) := by decide +kernel
theorem dX5_readsDuchy_158 : decode cX5_readsDuchy 158 = .ok (.istore_n 3, 1) := by decide +kernel
theorem dX5_readsDuchy_159 : decode cX5_readsDuchy 159 = .ok (.goto (-26), 3) := by decide +kernel
theorem dX5_readsDuchy_162 : decode cX5_readsDuchy 162 = .ok (.iload_n 3, 1) := by decide +kernel
theorem dX5_readsDuchy_163 : decode cX5_readsDuchy 163 = .ok (.ireturn, 1) := by decide +kernel
set_option maxRecDepth 20000 in
theorem ggX5_cellsBarred_X5_failed : GoodIn wsX5_cellsBarred wsX5_failed := goodIn_r _ [7, 8, 12, 13, 14, 15, 16, 17, 18, 19, 20, 21, 22, 23, 24, 25, 26, 27, 28, 29, 30, 31, 32, 33, 34, 35, 36, 37, 38, 39, 40] (by decide +kernel) (by decide +kernel)
set_option maxRecDepth 20000 in
theorem gX5_cellsBarred_X5_failed : GoodIn wsX5_cellsBarred (wsV RX5 115 RX5 yX5_failed wsX5_failed) := goodIn_app (goodIn_of _ (by decide +kernel)) ggX5_cellsBarred_X5_failed
set_option maxRecDepth 20000 in
theorem ggX5_cellsBarred_X5_isBeyond : GoodIn wsX5_cellsBarred wsX5_isBeyond := goodIn_r _ [11] (by decide +kernel) (by decide +kernel)
set_option maxRecDepth 20000 in
theorem gX5_cellsBarred_X5_isBeyond : GoodIn wsX5_cellsBarred (va_wsS RX5 119 yX5_isBeyond wsX5_isBeyond) := goodIn_app (goodIn_of _ (by decide +kernel)) ggX5_cellsBarred_X5_isBeyond
theorem dX5_cellsBarred_0 : decode cX5_cellsBarred 0 = .ok (.aload_n 0, 1) := by decide +kernel
theorem dX5_cellsBarred_1 : decode cX5_cellsBarred 1 = .ok (.getfield 57, 3) := by decide +kernel
theorem dX5_cellsBarred_4 : decode cX5_cellsBarred 4 = .ok (.iload_n 1, 1) := by decide +kernel
theorem dX5_cellsBarred_5 : decode cX5_cellsBarred 5 = .ok (.iaload, 1) := by decide +kernel
theorem dX5_cellsBarred_6 : decode cX5_cellsBarred 6 = .ok (.ifCond .lt 19, 3) := by decide +kernel
theorem dX5_cellsBarred_9 : decode cX5_cellsBarred 9 = .ok (.aload_n 0, 1) := by decide +kernel
theorem dX5_cellsBarred_10 : decode cX5_cellsBarred 10 = .ok (.getfield 60, 3) := by decide +kernel
theorem dX5_cellsBarred_13 : decode cX5_cellsBarred 13 = .ok (.iload_n 1, 1) := by decide +kernel
theorem dX5_cellsBarred_14 : decode cX5_cellsBarred 14 = .ok (.iaload, 1) := by decide +kernel
theorem dX5_cellsBarred_15 : decode cX5_cellsBarred 15 = .ok (.iload_n 2, 1) := by decide +kernel
theorem dX5_cellsBarred_16 : decode cX5_cellsBarred 16 = .ok (.if_icmp .eq 9, 3) := by decide +kernel
theorem dX5_cellsBarred_19 : decode cX5_cellsBarred 19 = .ok (.aload_n 0, 1) := by decide +kernel
theorem dX5_cellsBarred_20 : decode cX5_cellsBarred 20 = .ok (.iconst 2, 1) := by decide +kernel
theorem dX5_cellsBarred_21 : decode cX5_cellsBarred 21 = .ok (.invokevirtual 115, 3) := by decide +kernel
theorem dX5_cellsBarred_24 : decode cX5_cellsBarred 24 = .ok (.ireturn, 1) := by decide +kernel
theorem dX5_cellsBarred_25 : decode cX5_cellsBarred 25 = .ok (.aload_n 0, 1) := by decide +kernel
theorem dX5_cellsBarred_26 : decode cX5_cellsBarred 26 = .ok (.getfield 57, 3) := by decide +kernel
theorem dX5_cellsBarred_29 : decode cX5_cellsBarred 29 = .ok (.iload_n 1, 1) := by decide +kernel
theorem dX5_cellsBarred_30 : decode cX5_cellsBarred 30 = .ok (.iaload, 1) := by decide +kernel
theorem dX5_cellsBarred_31 : decode cX5_cellsBarred 31 = .ok (.ifCond .ge 9, 3) := by decide +kernel
theorem dX5_cellsBarred_34 : decode cX5_cellsBarred 34 = .ok (.aload_n 0, 1) := by decide +kernel
theorem dX5_cellsBarred_35 : decode cX5_cellsBarred 35 = .ok (.iconst 1, 1) := by decide +kernel
theorem dX5_cellsBarred_36 : decode cX5_cellsBarred 36 = .ok (.invokevirtual 115, 3) := by decide +kernel
theorem dX5_cellsBarred_39 : decode cX5_cellsBarred 39 = .ok (.ireturn, 1) := by decide +kernel
theorem dX5_cellsBarred_40 : decode cX5_cellsBarred 40 = .ok (.lload 4, 2) := by decide +kernel
theorem dX5_cellsBarred_42 : decode cX5_cellsBarred 42 = .ok (.lconst 0, 1) := by decide +kernel
theorem dX5_cellsBarred_43 : decode cX5_cellsBarred 43 = .ok (.lcmp, 1) := by decide +kernel
theorem dX5_cellsBarred_44 : decode cX5_cellsBarred 44 = .ok (.ifCond .ge 9, 3) := by decide +kernel
theorem dX5_cellsBarred_47 : decode cX5_cellsBarred 47 = .ok (.aload_n 0, 1) := by decide +kernel
theorem dX5_cellsBarred_48 : decode cX5_cellsBarred 48 = .ok (.iconst 4, 1) := by decide +kernel
theorem dX5_cellsBarred_49 : decode cX5_cellsBarred 49 = .ok (.invokevirtual 115, 3) := by decide +kernel
theorem dX5_cellsBarred_52 : decode cX5_cellsBarred 52 = .ok (.ireturn, 1) := by decide +kernel
theorem dX5_cellsBarred_53 : decode cX5_cellsBarred 53 = .ok (.iload_n 3, 1) := by decide +kernel
theorem dX5_cellsBarred_54 : decode cX5_cellsBarred 54 = .ok (.lload 4, 2) := by decide +kernel
theorem dX5_cellsBarred_56 : decode cX5_cellsBarred 56 = .ok (.aload_n 0, 1) := by decide +kernel
theorem dX5_cellsBarred_57 : decode cX5_cellsBarred 57 = .ok (.getfield 57, 3) := by decide +kernel
theorem dX5_cellsBarred_60 : decode cX5_cellsBarred 60 = .ok (.iload_n 1, 1) := by decide +kernel
theorem dX5_cellsBarred_61 : decode cX5_cellsBarred 61 = .ok (.iaload, 1) := by decide +kernel
theorem dX5_cellsBarred_62 : decode cX5_cellsBarred 62 = .ok (.invokestatic 119, 3) := by decide +kernel
theorem dX5_cellsBarred_65 : decode cX5_cellsBarred 65 = .ok (.ifCond .eq 11, 3) := by decide +kernel
theorem dX5_cellsBarred_68 : decode cX5_cellsBarred 68 = .ok (.aload_n 0, 1) := by decide +kernel
theorem dX5_cellsBarred_69 : decode cX5_cellsBarred 69 = .ok (.iconst 3, 1) := by decide +kernel
theorem dX5_cellsBarred_70 : decode cX5_cellsBarred 70 = .ok (.invokevirtual 115, 3) := by decide +kernel
theorem dX5_cellsBarred_73 : decode cX5_cellsBarred 73 = .ok (.goto 4, 3) := by decide +kernel
theorem dX5_cellsBarred_76 : decode cX5_cellsBarred 76 = .ok (.iconst 0, 1) := by decide +kernel
theorem dX5_cellsBarred_77 : decode cX5_cellsBarred 77 = .ok (.ireturn, 1) := by decide +kernel
set_option maxRecDepth 20000 in
theorem ggX5_duchy_X5_noSheet : GoodIn wsX5_duchy wsX5_noSheet := goodIn_r _ [23, 24, 25, 26, 22, 27] (by decide +kernel) (by decide +kernel)
set_option maxRecDepth 20000 in
theorem gX5_duchy_X5_noSheet : GoodIn wsX5_duchy (va_wsS RX5 123 yX5_noSheet wsX5_noSheet) := goodIn_app (goodIn_of _ (by decide +kernel)) ggX5_duchy_X5_noSheet
set_option maxRecDepth 20000 in
theorem ggX5_duchy_X5_refused : GoodIn wsX5_duchy wsX5_refused := goodIn_r _ [31, 32, 67, 68, 69, 70, 71, 72, 73, 74, 75, 76, 77, 78, 79, 80, 81, 82, 83, 84, 85, 86, 87, 88, 89, 90, 91, 92, 93, 94, 95] (by decide +kernel) (by decide +kernel)
set_option maxRecDepth 20000 in
theorem gX5_duchy_X5_refused : GoodIn wsX5_duchy (wsV RX5 127 RX5 yX5_refused wsX5_refused) := goodIn_app (goodIn_of _ (by decide +kernel)) ggX5_duchy_X5_refused
set_option maxRecDepth 20000 in
theorem ggX5_duchy_X5_in : GoodIn wsX5_duchy wsX5_in := goodIn_r _ [27] (by decide +kernel) (by decide +kernel)
set_option maxRecDepth 20000 in
theorem gX5_duchy_X5_in : GoodIn wsX5_duchy (va_wsS RX5 81 yX5_in wsX5_in) := goodIn_app (goodIn_of _ (by decide +kernel)) ggX5_duchy_X5_in
set_option maxRecDepth 20000 in
theorem ggX5_duchy_X5_cellsBarred : GoodIn wsX5_duchy wsX5_cellsBarred := goodIn_r _ [36, 37, 38, 39, 40, 41, 22, 42, 32, 43, 44, 45, 67, 68, 69, 70, 71, 72, 73, 74, 75, 76, 77, 78, 79, 80, 81, 82, 83, 84, 85, 86, 87, 88, 89, 90, 91, 92, 93, 94, 95] (by decide +kernel) (by decide +kernel)
set_option maxRecDepth 20000 in
theorem gX5_duchy_X5_cellsBarred : GoodIn wsX5_duchy (wsV RX5 132 RX5 yX5_cellsBarred wsX5_cellsBarred) := goodIn_app (goodIn_of _ (by decide +kernel)) ggX5_duchy_X5_cellsBarred
set_option maxRecDepth 20000 in
theorem ggX5_duchy_X5_readsDuchy : GoodIn wsX5_duchy wsX5_readsDuchy := goodIn_r _ [49, 2, 5, 7, 3, 50, 51, 52, 22, 53, 54, 55, 56, 57, 58, 25, 26, 27, 59, 60, 61, 62, 10, 63, 64, 65, 66, 12, 14, 16, 18, 67, 68, 69, 70, 71, 72, 73, 74, 75, 76, 77, 78, 79, 80, 81, 82, 83, 84, 85, 86, 87, 88, 89, 90, 91, 92, 93, 94, 95] (by decide +kernel) (by decide +kernel)
set_option maxRecDepth 20000 in
theorem gX5_duchy_X5_readsDuchy : GoodIn wsX5_duchy (wsV RX5 136 RX5 yX5_readsDuchy wsX5_readsDuchy) := goodIn_app (goodIn_of _ (by decide +kernel)) ggX5_duchy_X5_readsDuchy
theorem dX5_duchy_0 : decode cX5_duchy 0 = .ok (.iload_n 1, 1) := by decide +kernel
theorem dX5_duchy_1 : decode cX5_duchy 1 = .ok (.invokestatic 123, 3) := by decide +kernel
theorem dX5_duchy_4 : decode cX5_duchy 4 = .ok (.ifCond .eq 9, 3) := by decide +kernel
theorem dX5_duchy_7 : decode cX5_duchy 7 = .ok (.aload_n 0, 1) := by decide +kernel
theorem dX5_duchy_8 : decode cX5_duchy 8 = .ok (.iconst (-1), 1) := by decide +kernel
theorem dX5_duchy_9 : decode cX5_duchy 9 = .ok (.invokevirtual 127, 3) := by decide +kernel
theorem dX5_duchy_12 : decode cX5_duchy 12 = .ok (.ireturn, 1) := by decide +kernel
theorem dX5_duchy_13 : decode cX5_duchy 13 = .ok (.iload_n 2, 1) := by decide +kernel
theorem dX5_duchy_14 : decode cX5_duchy 14 = .ok (.i2l, 1) := by decide +kernel
theorem dX5_duchy_15 : decode cX5_duchy 15 = .ok (.lconst 0, 1) := by decide +kernel
theorem dX5_duchy_16 : decode cX5_duchy 16 = .ok (.ldc2_w 130, 3) := by decide +kernel
theorem dX5_duchy_19 : decode cX5_duchy 19 = .ok (.invokestatic 81, 3) := by decide +kernel
theorem dX5_duchy_22 : decode cX5_duchy 22 = .ok (.ifCond .ne 10, 3) := by decide +kernel
theorem dX5_duchy_25 : decode cX5_duchy 25 = .ok (.aload_n 0, 1) := by decide +kernel
theorem dX5_duchy_26 : decode cX5_duchy 26 = .ok (.bipush (-2), 2) := by decide +kernel
theorem dX5_duchy_28 : decode cX5_duchy 28 = .ok (.invokevirtual 127, 3) := by decide +kernel
theorem dX5_duchy_31 : decode cX5_duchy 31 = .ok (.ireturn, 1) := by decide +kernel
theorem dX5_duchy_32 : decode cX5_duchy 32 = .ok (.aload_n 0, 1) := by decide +kernel
theorem dX5_duchy_33 : decode cX5_duchy 33 = .ok (.iload_n 1, 1) := by decide +kernel
theorem dX5_duchy_34 : decode cX5_duchy 34 = .ok (.iload_n 2, 1) := by decide +kernel
theorem dX5_duchy_35 : decode cX5_duchy 35 = .ok (.iload_n 3, 1) := by decide +kernel
theorem dX5_duchy_36 : decode cX5_duchy 36 = .ok (.iload 4, 2) := by decide +kernel
theorem dX5_duchy_38 : decode cX5_duchy 38 = .ok (.i2l, 1) := by decide +kernel
theorem dX5_duchy_39 : decode cX5_duchy 39 = .ok (.invokevirtual 132, 3) := by decide +kernel
theorem dX5_duchy_42 : decode cX5_duchy 42 = .ok (.istore 5, 2) := by decide +kernel
theorem dX5_duchy_44 : decode cX5_duchy 44 = .ok (.iload 5, 2) := by decide +kernel
theorem dX5_duchy_46 : decode cX5_duchy 46 = .ok (.ifCond .ge 6, 3) := by decide +kernel
theorem dX5_duchy_49 : decode cX5_duchy 49 = .ok (.iload 5, 2) := by decide +kernel
theorem dX5_duchy_51 : decode cX5_duchy 51 = .ok (.ireturn, 1) := by decide +kernel
theorem dX5_duchy_52 : decode cX5_duchy 52 = .ok (.aload_n 0, 1) := by decide +kernel
theorem dX5_duchy_53 : decode cX5_duchy 53 = .ok (.bipush 60, 2) := by decide +kernel
theorem dX5_duchy_55 : decode cX5_duchy 55 = .ok (.iload_n 1, 1) := by decide +kernel
theorem dX5_duchy_56 : decode cX5_duchy 56 = .ok (.imul, 1) := by decide +kernel
theorem dX5_duchy_57 : decode cX5_duchy 57 = .ok (.iload_n 3, 1) := by decide +kernel
theorem dX5_duchy_58 : decode cX5_duchy 58 = .ok (.iadd, 1) := by decide +kernel
theorem dX5_duchy_59 : decode cX5_duchy 59 = .ok (.iload 4, 2) := by decide +kernel
theorem dX5_duchy_61 : decode cX5_duchy 61 = .ok (.invokevirtual 136, 3) := by decide +kernel
theorem dX5_duchy_64 : decode cX5_duchy 64 = .ok (.ifCond .ne 15, 3) := by decide +kernel
theorem dX5_duchy_67 : decode cX5_duchy 67 = .ok (.aload_n 0, 1) := by decide +kernel
theorem dX5_duchy_68 : decode cX5_duchy 68 = .ok (.bipush (-100), 2) := by decide +kernel
theorem dX5_duchy_70 : decode cX5_duchy 70 = .ok (.aload_n 0, 1) := by decide +kernel
theorem dX5_duchy_71 : decode cX5_duchy 71 = .ok (.getfield 88, 3) := by decide +kernel
theorem dX5_duchy_74 : decode cX5_duchy 74 = .ok (.isub, 1) := by decide +kernel
theorem dX5_duchy_75 : decode cX5_duchy 75 = .ok (.invokevirtual 127, 3) := by decide +kernel
theorem dX5_duchy_78 : decode cX5_duchy 78 = .ok (.ireturn, 1) := by decide +kernel
theorem dX5_duchy_79 : decode cX5_duchy 79 = .ok (.aload_n 0, 1) := by decide +kernel
theorem dX5_duchy_80 : decode cX5_duchy 80 = .ok (.aload_n 0, 1) := by decide +kernel
theorem dX5_duchy_81 : decode cX5_duchy 81 = .ok (.getfield 105, 3) := by decide +kernel
theorem dX5_duchy_84 : decode cX5_duchy 84 = .ok (.putfield 139, 3) := by decide +kernel
theorem dX5_duchy_87 : decode cX5_duchy 87 = .ok (.aload_n 0, 1) := by decide +kernel
theorem dX5_duchy_88 : decode cX5_duchy 88 = .ok (.aload_n 0, 1) := by decide +kernel
theorem dX5_duchy_89 : decode cX5_duchy 89 = .ok (.getfield 95, 3) := by decide +kernel
theorem dX5_duchy_92 : decode cX5_duchy 92 = .ok (.putfield 78, 3) := by decide +kernel
theorem dX5_duchy_95 : decode cX5_duchy 95 = .ok (.aload_n 0, 1) := by decide +kernel
theorem dX5_duchy_96 : decode cX5_duchy 96 = .ok (.aload_n 0, 1) := by decide +kernel
theorem dX5_duchy_97 : decode cX5_duchy 97 = .ok (.getfield 102, 3) := by decide +kernel
theorem dX5_duchy_100 : decode cX5_duchy 100 = .ok (.putfield 85, 3) := by decide +kernel
theorem dX5_duchy_103 : decode cX5_duchy 103 = .ok (.iconst 0, 1) := by decide +kernel
theorem dX5_duchy_104 : decode cX5_duchy 104 = .ok (.istore 6, 2) := by decide +kernel
theorem dX5_duchy_106 : decode cX5_duchy 106 = .ok (.iload 6, 2) := by decide +kernel
theorem dX5_duchy_108 : decode cX5_duchy 108 = .ok (.aload_n 0, 1) := by decide +kernel
theorem dX5_duchy_109 : decode cX5_duchy 109 = .ok (.getfield 78, 3) := by decide +kernel
theorem dX5_duchy_112 : decode cX5_duchy 112 = .ok (.if_icmp .ge 23, 3) := by decide +kernel
theorem dX5_duchy_115 : decode cX5_duchy 115 = .ok (.aload_n 0, 1) := by decide +kernel
theorem dX5_duchy_116 : decode cX5_duchy 116 = .ok (.getfield 7, 3) := by decide +kernel
theorem dX5_duchy_119 : decode cX5_duchy 119 = .ok (.iload 6, 2) := by decide +kernel
theorem dX5_duchy_121 : decode cX5_duchy 121 = .ok (.aload_n 0, 1) := by decide +kernel
theorem dX5_duchy_122 : decode cX5_duchy 122 = .ok (.getfield 29, 3) := by decide +kernel
theorem dX5_duchy_125 : decode cX5_duchy 125 = .ok (.iload 6, 2) := by decide +kernel
theorem dX5_duchy_127 : decode cX5_duchy 127 = .ok (.iaload, 1) := by decide +kernel
theorem dX5_duchy_128 : decode cX5_duchy 128 = .ok (.iastore, 1) := by decide +kernel
theorem dX5_duchy_129 : decode cX5_duchy 129 = .ok (.iinc 6 1, 3) := by decide +kernel
theorem dX5_duchy_132 : decode cX5_duchy 132 = .ok (.goto (-26), 3) := by decide +kernel
theorem dX5_duchy_135 : decode cX5_duchy 135 = .ok (.iconst 0, 1) := by decide +kernel
theorem dX5_duchy_136 : decode cX5_duchy 136 = .ok (.istore 6, 2) := by decide +kernel
theorem dX5_duchy_138 : decode cX5_duchy 138 = .ok (.iload 6, 2) := by decide +kernel
theorem dX5_duchy_140 : decode cX5_duchy 140 = .ok (.aload_n 0, 1) := by decide +kernel
theorem dX5_duchy_141 : decode cX5_duchy 141 = .ok (.getfield 85, 3) := by decide +kernel
theorem dX5_duchy_144 : decode cX5_duchy 144 = .ok (.if_icmp .ge 65, 3) := by decide +kernel
theorem dX5_duchy_147 : decode cX5_duchy 147 = .ok (.aload_n 0, 1) := by decide +kernel
theorem dX5_duchy_148 : decode cX5_duchy 148 = .ok (.getfield 13, 3) := by decide +kernel
theorem dX5_duchy_151 : decode cX5_duchy 151 = .ok (.iload 6, 2) := by decide +kernel
theorem dX5_duchy_153 : decode cX5_duchy 153 = .ok (.aload_n 0, 1) := by decide +kernel
theorem dX5_duchy_154 : decode cX5_duchy 154 = .ok (.getfield 32, 3) := by decide +kernel
theorem dX5_duchy_157 : decode cX5_duchy 157 = .ok (.iload 6, 2) := by decide +kernel
theorem dX5_duchy_159 : decode cX5_duchy 159 = .ok (.iaload, 1) := by decide +kernel
theorem dX5_duchy_160 : decode cX5_duchy 160 = .ok (.iastore, 1) := by decide +kernel
theorem dX5_duchy_161 : decode cX5_duchy 161 = .ok (.aload_n 0, 1) := by decide +kernel
theorem dX5_duchy_162 : decode cX5_duchy 162 = .ok (.getfield 16, 3) := by decide +kernel
theorem dX5_duchy_165 : decode cX5_duchy 165 = .ok (.iload 6, 2) := by decide +kernel
theorem dX5_duchy_167 : decode cX5_duchy 167 = .ok (.aload_n 0, 1) := by decide +kernel
theorem dX5_duchy_168 : decode cX5_duchy 168 = .ok (.getfield 35, 3) := by decide +kernel
theorem dX5_duchy_171 : decode cX5_duchy 171 = .ok (.iload 6, 2) := by decide +kernel
theorem dX5_duchy_173 : decode cX5_duchy 173 = .ok (.iaload, 1) := by decide +kernel
theorem dX5_duchy_174 : decode cX5_duchy 174 = .ok (.iastore, 1) := by decide +kernel
theorem dX5_duchy_175 : decode cX5_duchy 175 = .ok (.aload_n 0, 1) := by decide +kernel
theorem dX5_duchy_176 : decode cX5_duchy 176 = .ok (.getfield 19, 3) := by decide +kernel
theorem dX5_duchy_179 : decode cX5_duchy 179 = .ok (.iload 6, 2) := by decide +kernel
theorem dX5_duchy_181 : decode cX5_duchy 181 = .ok (.aload_n 0, 1) := by decide +kernel
theorem dX5_duchy_182 : decode cX5_duchy 182 = .ok (.getfield 38, 3) := by decide +kernel
theorem dX5_duchy_185 : decode cX5_duchy 185 = .ok (.iload 6, 2) := by decide +kernel
theorem dX5_duchy_187 : decode cX5_duchy 187 = .ok (.iaload, 1) := by decide +kernel
theorem dX5_duchy_188 : decode cX5_duchy 188 = .ok (.iastore, 1) := by decide +kernel
theorem dX5_duchy_189 : decode cX5_duchy 189 = .ok (.aload_n 0, 1) := by decide +kernel
theorem dX5_duchy_190 : decode cX5_duchy 190 = .ok (.getfield 22, 3) := by decide +kernel
theorem dX5_duchy_193 : decode cX5_duchy 193 = .ok (.iload 6, 2) := by decide +kernel
theorem dX5_duchy_195 : decode cX5_duchy 195 = .ok (.aload_n 0, 1) := by decide +kernel
theorem dX5_duchy_196 : decode cX5_duchy 196 = .ok (.getfield 41, 3) := by decide +kernel
theorem dX5_duchy_199 : decode cX5_duchy 199 = .ok (.iload 6, 2) := by decide +kernel
theorem dX5_duchy_201 : decode cX5_duchy 201 = .ok (.iaload, 1) := by decide +kernel
theorem dX5_duchy_202 : decode cX5_duchy 202 = .ok (.iastore, 1) := by decide +kernel
theorem dX5_duchy_203 : decode cX5_duchy 203 = .ok (.iinc 6 1, 3) := by decide +kernel
theorem dX5_duchy_206 : decode cX5_duchy 206 = .ok (.goto (-68), 3) := by decide +kernel
theorem dX5_duchy_209 : decode cX5_duchy 209 = .ok (.aload_n 0, 1) := by decide +kernel
theorem dX5_duchy_210 : decode cX5_duchy 210 = .ok (.iconst 0, 1) := by decide +kernel
theorem dX5_duchy_211 : decode cX5_duchy 211 = .ok (.putfield 142, 3) := by decide +kernel
theorem dX5_duchy_214 : decode cX5_duchy 214 = .ok (.aload_n 0, 1) := by decide +kernel
theorem dX5_duchy_215 : decode cX5_duchy 215 = .ok (.aload_n 0, 1) := by decide +kernel
theorem dX5_duchy_216 : decode cX5_duchy 216 = .ok (.getfield 85, 3) := by decide +kernel
theorem dX5_duchy_219 : decode cX5_duchy 219 = .ok (.invokevirtual 127, 3) := by decide +kernel
theorem dX5_duchy_222 : decode cX5_duchy 222 = .ok (.ireturn, 1) := by decide +kernel
theorem dX5_lastsOf_0 : decode cX5_lastsOf 0 = .ok (.aload_n 0, 1) := by decide +kernel
theorem dX5_lastsOf_1 : decode cX5_lastsOf 1 = .ok (.getfield 16, 3) := by decide +kernel
theorem dX5_lastsOf_4 : decode cX5_lastsOf 4 = .ok (.iload_n 1, 1) := by decide +kernel
theorem dX5_lastsOf_5 : decode cX5_lastsOf 5 = .ok (.iaload, 1) := by decide +kernel
theorem dX5_lastsOf_6 : decode cX5_lastsOf 6 = .ok (.ifCond .le 14, 3) := by decide +kernel
theorem dX5_lastsOf_9 : decode cX5_lastsOf 9 = .ok (.aload_n 0, 1) := by decide +kernel
theorem dX5_lastsOf_10 : decode cX5_lastsOf 10 = .ok (.getfield 16, 3) := by decide +kernel
theorem dX5_lastsOf_13 : decode cX5_lastsOf 13 = .ok (.iload_n 1, 1) := by decide +kernel
theorem dX5_lastsOf_14 : decode cX5_lastsOf 14 = .ok (.iaload, 1) := by decide +kernel
theorem dX5_lastsOf_15 : decode cX5_lastsOf 15 = .ok (.iconst 1, 1) := by decide +kernel
theorem dX5_lastsOf_16 : decode cX5_lastsOf 16 = .ok (.isub, 1) := by decide +kernel
theorem dX5_lastsOf_17 : decode cX5_lastsOf 17 = .ok (.goto 4, 3) := by decide +kernel
theorem dX5_lastsOf_20 : decode cX5_lastsOf 20 = .ok (.iconst 0, 1) := by decide +kernel
theorem dX5_lastsOf_21 : decode cX5_lastsOf 21 = .ok (.istore_n 2, 1) := by decide +kernel
theorem dX5_lastsOf_22 : decode cX5_lastsOf 22 = .ok (.aload_n 0, 1) := by decide +kernel
theorem dX5_lastsOf_23 : decode cX5_lastsOf 23 = .ok (.getfield 13, 3) := by decide +kernel
theorem dX5_lastsOf_26 : decode cX5_lastsOf 26 = .ok (.iload_n 1, 1) := by decide +kernel
theorem dX5_lastsOf_27 : decode cX5_lastsOf 27 = .ok (.iaload, 1) := by decide +kernel
theorem dX5_lastsOf_28 : decode cX5_lastsOf 28 = .ok (.ifCond .ne 12, 3) := by decide +kernel
theorem dX5_lastsOf_31 : decode cX5_lastsOf 31 = .ok (.aload_n 0, 1) := by decide +kernel
theorem dX5_lastsOf_32 : decode cX5_lastsOf 32 = .ok (.getfield 16, 3) := by decide +kernel
theorem dX5_lastsOf_35 : decode cX5_lastsOf 35 = .ok (.iload_n 1, 1) := by decide +kernel
theorem dX5_lastsOf_36 : decode cX5_lastsOf 36 = .ok (.iaload, 1) := by decide +kernel
theorem dX5_lastsOf_37 : decode cX5_lastsOf 37 = .ok (.goto 20, 3) := by decide +kernel
theorem dX5_lastsOf_40 : decode cX5_lastsOf 40 = .ok (.aload_n 0, 1) := by decide +kernel
theorem dX5_lastsOf_41 : decode cX5_lastsOf 41 = .ok (.getfield 13, 3) := by decide +kernel
theorem dX5_lastsOf_44 : decode cX5_lastsOf 44 = .ok (.iload_n 1, 1) := by decide +kernel
theorem dX5_lastsOf_45 : decode cX5_lastsOf 45 = .ok (.iaload, 1) := by decide +kernel
theorem dX5_lastsOf_46 : decode cX5_lastsOf 46 = .ok (.iconst 1, 1) := by decide +kernel
theorem dX5_lastsOf_47 : decode cX5_lastsOf 47 = .ok (.if_icmp .ne 7, 3) := by decide +kernel
theorem dX5_lastsOf_50 : decode cX5_lastsOf 50 = .ok (.iload_n 2, 1) := by decide +kernel
theorem dX5_lastsOf_51 : decode cX5_lastsOf 51 = .ok (.goto 6, 3) := by decide +kernel
theorem dX5_lastsOf_54 : decode cX5_lastsOf 54 = .ok (.iload_n 2, 1) := by decide +kernel
theorem dX5_lastsOf_55 : decode cX5_lastsOf 55 = .ok (.iconst 2, 1) := by decide +kernel
theorem dX5_lastsOf_56 : decode cX5_lastsOf 56 = .ok (.idiv, 1) := by decide +kernel
theorem dX5_lastsOf_57 : decode cX5_lastsOf 57 = .ok (.ireturn, 1) := by decide +kernel
set_option maxRecDepth 20000 in
theorem ggX5_ofEater_X5_noEater : GoodIn wsX5_ofEater wsX5_noEater := goodIn_r _ [9, 10, 11, 12, 8, 13, 18, 19, 20, 21, 22, 23, 24, 25, 26, 27, 28, 29, 30, 31, 32, 33, 34, 35, 36, 37, 38, 39, 40, 41, 42, 43, 44, 45, 46] (by decide +kernel) (by decide +kernel)
set_option maxRecDepth 20000 in
theorem gX5_ofEater_X5_noEater : GoodIn wsX5_ofEater (wsV RX5 145 RX5 yX5_noEater wsX5_noEater) := goodIn_app (goodIn_of _ (by decide +kernel)) ggX5_ofEater_X5_noEater
set_option maxRecDepth 20000 in
theorem ggX5_ofEater_X5_lastsOf : GoodIn wsX5_ofEater wsX5_lastsOf := goodIn_r _ [17, 2, 1, 18, 19, 20, 21, 22, 23, 24, 25, 26, 27, 28, 29, 30, 31, 32, 33, 34, 35, 36, 37, 38, 39, 40, 41, 42, 43, 44, 45, 46] (by decide +kernel) (by decide +kernel)
set_option maxRecDepth 20000 in
theorem gX5_ofEater_X5_lastsOf : GoodIn wsX5_ofEater (wsV RX5 148 RX5 yX5_lastsOf wsX5_lastsOf) := goodIn_app (goodIn_of _ (by decide +kernel)) ggX5_ofEater_X5_lastsOf
theorem dX5_ofEater_0 : decode cX5_ofEater 0 = .ok (.aload_n 0, 1) := by decide +kernel
theorem dX5_ofEater_1 : decode cX5_ofEater 1 = .ok (.iload_n 1, 1) := by decide +kernel
theorem dX5_ofEater_2 : decode cX5_ofEater 2 = .ok (.invokevirtual 145, 3) := by decide +kernel
theorem dX5_ofEater_5 : decode cX5_ofEater 5 = .ok (.ifCond .eq 5, 3) := by decide +kernel
theorem dX5_ofEater_8 : decode cX5_ofEater 8 = .ok (.iconst (-1), 1) := by decide +kernel
theorem dX5_ofEater_9 : decode cX5_ofEater 9 = .ok (.ireturn, 1) := by decide +kernel
theorem dX5_ofEater_10 : decode cX5_ofEater 10 = .ok (.iload_n 2, 1) := by decide +kernel
theorem dX5_ofEater_11 : decode cX5_ofEater 11 = .ok (.tableswitch 67 0 4 #[33, 40, 47, 54, 61], 33) := by decide +kernel
theorem dX5_ofEater_44 : decode cX5_ofEater 44 = .ok (.aload_n 0, 1) := by decide +kernel
theorem dX5_ofEater_45 : decode cX5_ofEater 45 = .ok (.getfield 13, 3) := by decide +kernel
theorem dX5_ofEater_48 : decode cX5_ofEater 48 = .ok (.iload_n 1, 1) := by decide +kernel
theorem dX5_ofEater_49 : decode cX5_ofEater 49 = .ok (.iaload, 1) := by decide +kernel
theorem dX5_ofEater_50 : decode cX5_ofEater 50 = .ok (.ireturn, 1) := by decide +kernel
theorem dX5_ofEater_51 : decode cX5_ofEater 51 = .ok (.aload_n 0, 1) := by decide +kernel
theorem dX5_ofEater_52 : decode cX5_ofEater 52 = .ok (.getfield 16, 3) := by decide +kernel
theorem dX5_ofEater_55 : decode cX5_ofEater 55 = .ok (.iload_n 1, 1) := by decide +kernel
theorem dX5_ofEater_56 : decode cX5_ofEater 56 = .ok (.iaload, 1) := by decide +kernel
theorem dX5_ofEater_57 : decode cX5_ofEater 57 = .ok (.ireturn, 1) := by decide +kernel
theorem dX5_ofEater_58 : decode cX5_ofEater 58 = .ok (.aload_n 0, 1) := by decide +kernel
theorem dX5_ofEater_59 : decode cX5_ofEater 59 = .ok (.getfield 19, 3) := by decide +kernel
theorem dX5_ofEater_62 : decode cX5_ofEater 62 = .ok (.iload_n 1, 1) := by decide +kernel
theorem dX5_ofEater_63 : decode cX5_ofEater 63 = .ok (.iaload, 1) := by decide +kernel
theorem dX5_ofEater_64 : decode cX5_ofEater 64 = .ok (.ireturn, 1) := by decide +kernel
theorem dX5_ofEater_65 : decode cX5_ofEater 65 = .ok (.aload_n 0, 1) := by decide +kernel
theorem dX5_ofEater_66 : decode cX5_ofEater 66 = .ok (.getfield 22, 3) := by decide +kernel
theorem dX5_ofEater_69 : decode cX5_ofEater 69 = .ok (.iload_n 1, 1) := by decide +kernel
theorem dX5_ofEater_70 : decode cX5_ofEater 70 = .ok (.iaload, 1) := by decide +kernel
theorem dX5_ofEater_71 : decode cX5_ofEater 71 = .ok (.ireturn, 1) := by decide +kernel
theorem dX5_ofEater_72 : decode cX5_ofEater 72 = .ok (.aload_n 0, 1) := by decide +kernel
theorem dX5_ofEater_73 : decode cX5_ofEater 73 = .ok (.iload_n 1, 1) := by decide +kernel
theorem dX5_ofEater_74 : decode cX5_ofEater 74 = .ok (.invokevirtual 148, 3) := by decide +kernel
theorem dX5_ofEater_77 : decode cX5_ofEater 77 = .ok (.ireturn, 1) := by decide +kernel
theorem dX5_ofEater_78 : decode cX5_ofEater 78 = .ok (.bipush (-2), 2) := by decide +kernel
theorem dX5_ofEater_80 : decode cX5_ofEater 80 = .ok (.ireturn, 1) := by decide +kernel
set_option maxRecDepth 20000 in
theorem ggX5_look_X5_noDay : GoodIn wsX5_look wsX5_noDay := goodIn_r _ [6, 7, 8, 9, 5, 10, 11, 12, 13, 14, 15, 16, 17, 18, 19, 20, 21, 22, 23, 24, 25, 26, 27, 28, 29, 30, 31, 32, 33, 34, 35, 36, 37, 38, 39] (by decide +kernel) (by decide +kernel)
set_option maxRecDepth 20000 in
theorem gX5_look_X5_noDay : GoodIn wsX5_look (wsV RX5 151 RX5 yX5_noDay wsX5_noDay) := goodIn_app (goodIn_of _ (by decide +kernel)) ggX5_look_X5_noDay
theorem dX5_look_0 : decode cX5_look 0 = .ok (.aload_n 0, 1) := by decide +kernel
theorem dX5_look_1 : decode cX5_look 1 = .ok (.iload_n 1, 1) := by decide +kernel
theorem dX5_look_2 : decode cX5_look 2 = .ok (.invokevirtual 151, 3) := by decide +kernel
theorem dX5_look_5 : decode cX5_look 5 = .ok (.ifCond .eq 7, 3) := by decide +kernel
theorem dX5_look_8 : decode cX5_look 8 = .ok (.iconst (-1), 1) := by decide +kernel
theorem dX5_look_9 : decode cX5_look 9 = .ok (.goto 9, 3) := by decide +kernel
theorem dX5_look_12 : decode cX5_look 12 = .ok (.aload_n 0, 1) := by decide +kernel
theorem dX5_look_13 : decode cX5_look 13 = .ok (.getfield 7, 3) := by decide +kernel
theorem dX5_look_16 : decode cX5_look 16 = .ok (.iload_n 1, 1) := by decide +kernel
theorem dX5_look_17 : decode cX5_look 17 = .ok (.iaload, 1) := by decide +kernel
theorem dX5_look_18 : decode cX5_look 18 = .ok (.ireturn, 1) := by decide +kernel
set_option maxRecDepth 20000 in
theorem ggX5_pull_X5_noDay : GoodIn wsX5_pull wsX5_noDay := goodIn_r _ [7, 8, 9, 10, 6, 11, 12, 13, 14, 15, 16, 17, 18, 19, 20, 21, 22, 23, 24, 25, 26, 27, 28, 29, 30, 31, 32, 33, 34, 35, 36, 37, 38, 39, 40] (by decide +kernel) (by decide +kernel)
set_option maxRecDepth 20000 in
theorem gX5_pull_X5_noDay : GoodIn wsX5_pull (wsV RX5 151 RX5 yX5_noDay wsX5_noDay) := goodIn_app (goodIn_of _ (by decide +kernel)) ggX5_pull_X5_noDay
set_option maxRecDepth 20000 in
theorem ggX5_pull_X5_in : GoodIn wsX5_pull wsX5_in := goodIn_r _ [11] (by decide +kernel) (by decide +kernel)
set_option maxRecDepth 20000 in
theorem gX5_pull_X5_in : GoodIn wsX5_pull (va_wsS RX5 81 yX5_in wsX5_in) := goodIn_app (goodIn_of _ (by decide +kernel)) ggX5_pull_X5_in
theorem dX5_pull_0 : decode cX5_pull 0 = .ok (.aload_n 0, 1) := by decide +kernel
theorem dX5_pull_1 : decode cX5_pull 1 = .ok (.iload_n 1, 1) := by decide +kernel
theorem dX5_pull_2 : decode cX5_pull 2 = .ok (.invokevirtual 151, 3) := by decide +kernel
theorem dX5_pull_5 : decode cX5_pull 5 = .ok (.ifCond .eq 5, 3) := by decide +kernel
theorem dX5_pull_8 : decode cX5_pull 8 = .ok (.iconst (-1), 1) := by decide +kernel
theorem dX5_pull_9 : decode cX5_pull 9 = .ok (.ireturn, 1) := by decide +kernel
theorem dX5_pull_10 : decode cX5_pull 10 = .ok (.iload_n 2, 1) := by decide +kernel
theorem dX5_pull_11 : decode cX5_pull 11 = .ok (.i2l, 1) := by decide +kernel
theorem dX5_pull_12 : decode cX5_pull 12 = .ok (.lconst 0, 1) := by decide +kernel
theorem dX5_pull_13 : decode cX5_pull 13 = .ok (.ldc2_w 154, 3) := by decide +kernel
theorem dX5_pull_16 : decode cX5_pull 16 = .ok (.invokestatic 81, 3) := by decide +kernel
theorem dX5_pull_19 : decode cX5_pull 19 = .ok (.ifCond .ne 6, 3) := by decide +kernel
theorem dX5_pull_22 : decode cX5_pull 22 = .ok (.bipush (-2), 2) := by decide +kernel
theorem dX5_pull_24 : decode cX5_pull 24 = .ok (.ireturn, 1) := by decide +kernel
theorem dX5_pull_25 : decode cX5_pull 25 = .ok (.aload_n 0, 1) := by decide +kernel
theorem dX5_pull_26 : decode cX5_pull 26 = .ok (.getfield 7, 3) := by decide +kernel
theorem dX5_pull_29 : decode cX5_pull 29 = .ok (.iload_n 1, 1) := by decide +kernel
theorem dX5_pull_30 : decode cX5_pull 30 = .ok (.iaload, 1) := by decide +kernel
theorem dX5_pull_31 : decode cX5_pull 31 = .ok (.istore_n 3, 1) := by decide +kernel
theorem dX5_pull_32 : decode cX5_pull 32 = .ok (.aload_n 0, 1) := by decide +kernel
theorem dX5_pull_33 : decode cX5_pull 33 = .ok (.getfield 7, 3) := by decide +kernel
theorem dX5_pull_36 : decode cX5_pull 36 = .ok (.iload_n 1, 1) := by decide +kernel
theorem dX5_pull_37 : decode cX5_pull 37 = .ok (.iload_n 2, 1) := by decide +kernel
theorem dX5_pull_38 : decode cX5_pull 38 = .ok (.iastore, 1) := by decide +kernel
theorem dX5_pull_39 : decode cX5_pull 39 = .ok (.iload_n 3, 1) := by decide +kernel
theorem dX5_pull_40 : decode cX5_pull 40 = .ok (.ireturn, 1) := by decide +kernel
set_option maxRecDepth 20000 in
theorem ggX5_sour_X5_in : GoodIn wsX5_sour wsX5_in := goodIn_r _ [7] (by decide +kernel) (by decide +kernel)
set_option maxRecDepth 20000 in
theorem gX5_sour_X5_in : GoodIn wsX5_sour (va_wsS RX5 81 yX5_in wsX5_in) := goodIn_app (goodIn_of _ (by decide +kernel)) ggX5_sour_X5_in
theorem dX5_sour_0 : decode cX5_sour 0 = .ok (.iload_n 1, 1) := by decide +kernel
theorem dX5_sour_1 : decode cX5_sour 1 = .ok (.i2l, 1) := by decide +kernel
theorem dX5_sour_2 : decode cX5_sour 2 = .ok (.lconst 0, 1) := by decide +kernel
theorem dX5_sour_3 : decode cX5_sour 3 = .ok (.ldc2_w 154, 3) := by decide +kernel
theorem dX5_sour_6 : decode cX5_sour 6 = .ok (.invokestatic 81, 3) := by decide +kernel
theorem dX5_sour_9 : decode cX5_sour 9 = .ok (.ifCond .ne 6, 3) := by decide +kernel
theorem dX5_sour_12 : decode cX5_sour 12 = .ok (.bipush (-2), 2) := by decide +kernel
theorem dX5_sour_14 : decode cX5_sour 14 = .ok (.ireturn, 1) := by decide +kernel
theorem dX5_sour_15 : decode cX5_sour 15 = .ok (.aload_n 0, 1) := by decide +kernel
theorem dX5_sour_16 : decode cX5_sour 16 = .ok (.getfield 85, 3) := by decide +kernel
theorem dX5_sour_19 : decode cX5_sour 19 = .ok (.ifCond .ne 6, 3) := by decide +kernel
theorem dX5_sour_22 : decode cX5_sour 22 = .ok (.bipush (-3), 2) := by decide +kernel
theorem dX5_sour_24 : decode cX5_sour 24 = .ok (.ireturn, 1) := by decide +kernel
theorem dX5_sour_25 : decode cX5_sour 25 = .ok (.aload_n 0, 1) := by decide +kernel
theorem dX5_sour_26 : decode cX5_sour 26 = .ok (.getfield 139, 3) := by decide +kernel
theorem dX5_sour_29 : decode cX5_sour 29 = .ok (.istore_n 2, 1) := by decide +kernel
theorem dX5_sour_30 : decode cX5_sour 30 = .ok (.aload_n 0, 1) := by decide +kernel
theorem dX5_sour_31 : decode cX5_sour 31 = .ok (.iload_n 1, 1) := by decide +kernel
theorem dX5_sour_32 : decode cX5_sour 32 = .ok (.putfield 139, 3) := by decide +kernel
theorem dX5_sour_35 : decode cX5_sour 35 = .ok (.iload_n 2, 1) := by decide +kernel
theorem dX5_sour_36 : decode cX5_sour 36 = .ok (.ireturn, 1) := by decide +kernel
set_option maxRecDepth 20000 in
theorem ggX5_crave_X5_noEater : GoodIn wsX5_crave wsX5_noEater := goodIn_r _ [7, 8, 9, 10, 6, 11, 12, 13, 14, 15, 16, 17, 18, 19, 20, 21, 22, 23, 24, 25, 26, 27, 28, 29, 30, 31, 32, 33, 34, 35, 36, 37, 38, 39, 40] (by decide +kernel) (by decide +kernel)
set_option maxRecDepth 20000 in
theorem gX5_crave_X5_noEater : GoodIn wsX5_crave (wsV RX5 145 RX5 yX5_noEater wsX5_noEater) := goodIn_app (goodIn_of _ (by decide +kernel)) ggX5_crave_X5_noEater
set_option maxRecDepth 20000 in
theorem ggX5_crave_X5_in : GoodIn wsX5_crave wsX5_in := goodIn_r _ [11] (by decide +kernel) (by decide +kernel)
set_option maxRecDepth 20000 in
theorem gX5_crave_X5_in : GoodIn wsX5_crave (va_wsS RX5 81 yX5_in wsX5_in) := goodIn_app (goodIn_of _ (by decide +kernel)) ggX5_crave_X5_in
theorem dX5_crave_0 : decode cX5_crave 0 = .ok (.aload_n 0, 1) := by decide +kernel
theorem dX5_crave_1 : decode cX5_crave 1 = .ok (.iload_n 1, 1) := by decide +kernel
theorem dX5_crave_2 : decode cX5_crave 2 = .ok (.invokevirtual 145, 3) := by decide +kernel
theorem dX5_crave_5 : decode cX5_crave 5 = .ok (.ifCond .eq 5, 3) := by decide +kernel
theorem dX5_crave_8 : decode cX5_crave 8 = .ok (.iconst (-1), 1) := by decide +kernel
theorem dX5_crave_9 : decode cX5_crave 9 = .ok (.ireturn, 1) := by decide +kernel
theorem dX5_crave_10 : decode cX5_crave 10 = .ok (.iload_n 2, 1) := by decide +kernel
theorem dX5_crave_11 : decode cX5_crave 11 = .ok (.i2l, 1) := by decide +kernel
theorem dX5_crave_12 : decode cX5_crave 12 = .ok (.lconst 0, 1) := by decide +kernel
theorem dX5_crave_13 : decode cX5_crave 13 = .ok (.ldc2_w 156, 3) := by decide +kernel
theorem dX5_crave_16 : decode cX5_crave 16 = .ok (.invokestatic 81, 3) := by decide +kernel
theorem dX5_crave_19 : decode cX5_crave 19 = .ok (.ifCond .ne 6, 3) := by decide +kernel
theorem dX5_crave_22 : decode cX5_crave 22 = .ok (.bipush (-2), 2) := by decide +kernel
theorem dX5_crave_24 : decode cX5_crave 24 = .ok (.ireturn, 1) := by decide +kernel
theorem dX5_crave_25 : decode cX5_crave 25 = .ok (.aload_n 0, 1) := by decide +kernel
theorem dX5_crave_26 : decode cX5_crave 26 = .ok (.getfield 22, 3) := by decide +kernel
theorem dX5_crave_29 : decode cX5_crave 29 = .ok (.iload_n 1, 1) := by decide +kernel
theorem dX5_crave_30 : decode cX5_crave 30 = .ok (.iaload, 1) := by decide +kernel
theorem dX5_crave_31 : decode cX5_crave 31 = .ok (.istore_n 3, 1) := by decide +kernel
theorem dX5_crave_32 : decode cX5_crave 32 = .ok (.aload_n 0, 1) := by decide +kernel
theorem dX5_crave_33 : decode cX5_crave 33 = .ok (.getfield 22, 3) := by decide +kernel
theorem dX5_crave_36 : decode cX5_crave 36 = .ok (.iload_n 1, 1) := by decide +kernel
theorem dX5_crave_37 : decode cX5_crave 37 = .ok (.iload_n 2, 1) := by decide +kernel
theorem dX5_crave_38 : decode cX5_crave 38 = .ok (.iastore, 1) := by decide +kernel
theorem dX5_crave_39 : decode cX5_crave 39 = .ok (.iload_n 3, 1) := by decide +kernel
theorem dX5_crave_40 : decode cX5_crave 40 = .ok (.ireturn, 1) := by decide +kernel
theorem dX5_fastsNow_0 : decode cX5_fastsNow 0 = .ok (.iconst 0, 1) := by decide +kernel
theorem dX5_fastsNow_1 : decode cX5_fastsNow 1 = .ok (.istore_n 1, 1) := by decide +kernel
theorem dX5_fastsNow_2 : decode cX5_fastsNow 2 = .ok (.iconst 0, 1) := by decide +kernel
theorem dX5_fastsNow_3 : decode cX5_fastsNow 3 = .ok (.istore_n 2, 1) := by decide +kernel
theorem dX5_fastsNow_4 : decode cX5_fastsNow 4 = .ok (.iload_n 2, 1) := by decide +kernel
theorem dX5_fastsNow_5 : decode cX5_fastsNow 5 = .ok (.aload_n 0, 1) := by decide +kernel
theorem dX5_fastsNow_6 : decode cX5_fastsNow 6 = .ok (.getfield 78, 3) := by decide +kernel
theorem dX5_fastsNow_9 : decode cX5_fastsNow 9 = .ok (.if_icmp .ge 40, 3) := by decide +kernel
theorem dX5_fastsNow_12 : decode cX5_fastsNow 12 = .ok (.iload_n 1, 1) := by decide +kernel
theorem dX5_fastsNow_13 : decode cX5_fastsNow 13 = .ok (.aload_n 0, 1) := by decide +kernel
theorem dX5_fastsNow_14 : decode cX5_fastsNow 14 = .ok (.getfield 7, 3) := by decide +kernel
theorem dX5_fastsNow_17 : decode cX5_fastsNow 17 = .ok (.iload_n 2, 1) := by decide +kernel
theorem dX5_fastsNow_18 : decode cX5_fastsNow 18 = .ok (.iaload, 1) := by decide +kernel
theorem dX5_fastsNow_19 : decode cX5_fastsNow 19 = .ok (.aload_n 0, 1) := by decide +kernel
theorem dX5_fastsNow_20 : decode cX5_fastsNow 20 = .ok (.getfield 139, 3) := by decide +kernel
theorem dX5_fastsNow_23 : decode cX5_fastsNow 23 = .ok (.if_icmp .lt 17, 3) := by decide +kernel
theorem dX5_fastsNow_26 : decode cX5_fastsNow 26 = .ok (.iload_n 2, 1) := by decide +kernel
theorem dX5_fastsNow_27 : decode cX5_fastsNow 27 = .ok (.aload_n 0, 1) := by decide +kernel
theorem dX5_fastsNow_28 : decode cX5_fastsNow 28 = .ok (.getfield 25, 3) := by decide +kernel
theorem dX5_fastsNow_31 : decode cX5_fastsNow 31 = .ok (.if_icmp .eq 9, 3) := by decide +kernel
theorem dX5_fastsNow_34 : decode cX5_fastsNow 34 = .ok (.iconst 1, 1) := by decide +kernel
theorem dX5_fastsNow_35 : decode cX5_fastsNow 35 = .ok (.iload_n 2, 1) := by decide +kernel
theorem dX5_fastsNow_36 : decode cX5_fastsNow 36 = .ok (.ishl, 1) := by decide +kernel
theorem dX5_fastsNow_37 : decode cX5_fastsNow 37 = .ok (.goto 4, 3) := by decide +kernel
theorem dX5_fastsNow_40 : decode cX5_fastsNow 40 = .ok (.iconst 0, 1) := by decide +kernel
theorem dX5_fastsNow_41 : decode cX5_fastsNow 41 = .ok (.ior, 1) := by decide +kernel
theorem dX5_fastsNow_42 : decode cX5_fastsNow 42 = .ok (.istore_n 1, 1) := by decide +kernel
theorem dX5_fastsNow_43 : decode cX5_fastsNow 43 = .ok (.iinc 2 1, 3) := by decide +kernel
theorem dX5_fastsNow_46 : decode cX5_fastsNow 46 = .ok (.goto (-42), 3) := by decide +kernel
theorem dX5_fastsNow_49 : decode cX5_fastsNow 49 = .ok (.iload_n 1, 1) := by decide +kernel
theorem dX5_fastsNow_50 : decode cX5_fastsNow 50 = .ok (.ireturn, 1) := by decide +kernel
set_option maxRecDepth 20000 in
theorem ggX5_yellowBy_X5_lastsOf : GoodIn wsX5_yellowBy wsX5_lastsOf := goodIn_r _ [6, 7, 8, 12, 13, 14, 15, 16, 17, 18, 19, 20, 21, 22, 23, 24, 25, 26, 27, 28, 29, 30, 31, 32, 33, 34, 35, 36, 37, 38, 39, 40] (by decide +kernel) (by decide +kernel)
set_option maxRecDepth 20000 in
theorem gX5_yellowBy_X5_lastsOf : GoodIn wsX5_yellowBy (wsV RX5 148 RX5 yX5_lastsOf wsX5_lastsOf) := goodIn_app (goodIn_of _ (by decide +kernel)) ggX5_yellowBy_X5_lastsOf
set_option maxRecDepth 20000 in
theorem ggX5_yellowBy_X5_isIn : GoodIn wsX5_yellowBy wsX5_isIn := goodIn_r _ [11] (by decide +kernel) (by decide +kernel)
set_option maxRecDepth 20000 in
theorem gX5_yellowBy_X5_isIn : GoodIn wsX5_yellowBy (va_wsS RX5 158 yX5_isIn wsX5_isIn) := goodIn_app (goodIn_of _ (by decide +kernel)) ggX5_yellowBy_X5_isIn
theorem dX5_yellowBy_0 : decode cX5_yellowBy 0 = .ok (.iconst 0, 1) := by decide +kernel
theorem dX5_yellowBy_1 : decode cX5_yellowBy 1 = .ok (.istore_n 3, 1) := by decide +kernel
theorem dX5_yellowBy_2 : decode cX5_yellowBy 2 = .ok (.aload_n 0, 1) := by decide +kernel
theorem dX5_yellowBy_3 : decode cX5_yellowBy 3 = .ok (.iload_n 1, 1) := by decide +kernel
theorem dX5_yellowBy_4 : decode cX5_yellowBy 4 = .ok (.invokevirtual 148, 3) := by decide +kernel
theorem dX5_yellowBy_7 : decode cX5_yellowBy 7 = .ok (.istore 4, 2) := by decide +kernel
theorem dX5_yellowBy_9 : decode cX5_yellowBy 9 = .ok (.iconst 0, 1) := by decide +kernel
theorem dX5_yellowBy_10 : decode cX5_yellowBy 10 = .ok (.istore 5, 2) := by decide +kernel
theorem dX5_yellowBy_12 : decode cX5_yellowBy 12 = .ok (.iload 5, 2) := by decide +kernel
theorem dX5_yellowBy_14 : decode cX5_yellowBy 14 = .ok (.aload_n 0, 1) := by decide +kernel
theorem dX5_yellowBy_15 : decode cX5_yellowBy 15 = .ok (.getfield 78, 3) := by decide +kernel
theorem dX5_yellowBy_18 : decode cX5_yellowBy 18 = .ok (.if_icmp .ge 58, 3) := by decide +kernel
theorem dX5_yellowBy_21 : decode cX5_yellowBy 21 = .ok (.iload 5, 2) := by decide +kernel
theorem dX5_yellowBy_23 : decode cX5_yellowBy 23 = .ok (.istore 6, 2) := by decide +kernel
theorem dX5_yellowBy_25 : decode cX5_yellowBy 25 = .ok (.iload 6, 2) := by decide +kernel
theorem dX5_yellowBy_27 : decode cX5_yellowBy 27 = .ok (.aload_n 0, 1) := by decide +kernel
theorem dX5_yellowBy_28 : decode cX5_yellowBy 28 = .ok (.getfield 78, 3) := by decide +kernel
theorem dX5_yellowBy_31 : decode cX5_yellowBy 31 = .ok (.if_icmp .ge 39, 3) := by decide +kernel
theorem dX5_yellowBy_34 : decode cX5_yellowBy 34 = .ok (.iload 6, 2) := by decide +kernel
theorem dX5_yellowBy_36 : decode cX5_yellowBy 36 = .ok (.iload 5, 2) := by decide +kernel
theorem dX5_yellowBy_38 : decode cX5_yellowBy 38 = .ok (.iload 4, 2) := by decide +kernel
theorem dX5_yellowBy_40 : decode cX5_yellowBy 40 = .ok (.iadd, 1) := by decide +kernel
theorem dX5_yellowBy_41 : decode cX5_yellowBy 41 = .ok (.if_icmp .gt 29, 3) := by decide +kernel
theorem dX5_yellowBy_44 : decode cX5_yellowBy 44 = .ok (.iload_n 3, 1) := by decide +kernel
theorem dX5_yellowBy_45 : decode cX5_yellowBy 45 = .ok (.iload_n 2, 1) := by decide +kernel
theorem dX5_yellowBy_46 : decode cX5_yellowBy 46 = .ok (.iload 5, 2) := by decide +kernel
theorem dX5_yellowBy_48 : decode cX5_yellowBy 48 = .ok (.invokestatic 158, 3) := by decide +kernel
theorem dX5_yellowBy_51 : decode cX5_yellowBy 51 = .ok (.ifCond .eq 10, 3) := by decide +kernel
theorem dX5_yellowBy_54 : decode cX5_yellowBy 54 = .ok (.iconst 1, 1) := by decide +kernel
theorem dX5_yellowBy_55 : decode cX5_yellowBy 55 = .ok (.iload 6, 2) := by decide +kernel
theorem dX5_yellowBy_57 : decode cX5_yellowBy 57 = .ok (.ishl, 1) := by decide +kernel
theorem dX5_yellowBy_58 : decode cX5_yellowBy 58 = .ok (.goto 4, 3) := by decide +kernel
theorem dX5_yellowBy_61 : decode cX5_yellowBy 61 = .ok (.iconst 0, 1) := by decide +kernel
theorem dX5_yellowBy_62 : decode cX5_yellowBy 62 = .ok (.ior, 1) := by decide +kernel
theorem dX5_yellowBy_63 : decode cX5_yellowBy 63 = .ok (.istore_n 3, 1) := by decide +kernel
theorem dX5_yellowBy_64 : decode cX5_yellowBy 64 = .ok (.iinc 6 1, 3) := by decide +kernel
theorem dX5_yellowBy_67 : decode cX5_yellowBy 67 = .ok (.goto (-42), 3) := by decide +kernel
theorem dX5_yellowBy_70 : decode cX5_yellowBy 70 = .ok (.iinc 5 1, 3) := by decide +kernel
theorem dX5_yellowBy_73 : decode cX5_yellowBy 73 = .ok (.goto (-61), 3) := by decide +kernel
theorem dX5_yellowBy_76 : decode cX5_yellowBy 76 = .ok (.iload_n 3, 1) := by decide +kernel
theorem dX5_yellowBy_77 : decode cX5_yellowBy 77 = .ok (.ireturn, 1) := by decide +kernel
set_option maxRecDepth 20000 in
theorem ggX5_foundBy_X5_yellowBy : GoodIn wsX5_foundBy wsX5_yellowBy := goodIn_r _ [5, 6, 7, 8, 9, 4, 10, 11, 12, 13, 14, 15, 23, 24, 25, 26, 27, 28, 29, 30, 31, 32, 33, 34, 35, 36, 37, 38, 39, 40, 41, 42, 43, 44, 45, 46, 47, 48, 49, 50, 51] (by decide +kernel) (by decide +kernel)
set_option maxRecDepth 20000 in
theorem gX5_foundBy_X5_yellowBy : GoodIn wsX5_foundBy (wsV RX5 161 RX5 yX5_yellowBy wsX5_yellowBy) := goodIn_app (goodIn_of _ (by decide +kernel)) ggX5_foundBy_X5_yellowBy
set_option maxRecDepth 20000 in
theorem ggX5_foundBy_X5_fastsNow : GoodIn wsX5_foundBy wsX5_fastsNow := goodIn_r _ [19, 6, 20, 21, 22, 23, 24, 25, 26, 27, 28, 29, 30, 31, 32, 33, 34, 35, 36, 37, 38, 39, 40, 41, 42, 43, 44, 45, 46, 47, 48, 49, 50, 51] (by decide +kernel) (by decide +kernel)
set_option maxRecDepth 20000 in
theorem gX5_foundBy_X5_fastsNow : GoodIn wsX5_foundBy (wsV RX5 164 RX5 yX5_fastsNow wsX5_fastsNow) := goodIn_app (goodIn_of _ (by decide +kernel)) ggX5_foundBy_X5_fastsNow
theorem dX5_foundBy_0 : decode cX5_foundBy 0 = .ok (.aload_n 0, 1) := by decide +kernel
theorem dX5_foundBy_1 : decode cX5_foundBy 1 = .ok (.iload_n 1, 1) := by decide +kernel
theorem dX5_foundBy_2 : decode cX5_foundBy 2 = .ok (.iload_n 2, 1) := by decide +kernel
theorem dX5_foundBy_3 : decode cX5_foundBy 3 = .ok (.invokevirtual 161, 3) := by decide +kernel
theorem dX5_foundBy_6 : decode cX5_foundBy 6 = .ok (.aload_n 0, 1) := by decide +kernel
theorem dX5_foundBy_7 : decode cX5_foundBy 7 = .ok (.invokevirtual 164, 3) := by decide +kernel
theorem dX5_foundBy_10 : decode cX5_foundBy 10 = .ok (.iand, 1) := by decide +kernel
theorem dX5_foundBy_11 : decode cX5_foundBy 11 = .ok (.ireturn, 1) := by decide +kernel
set_option maxRecDepth 20000 in
theorem ggX5_fineOf_X5_foundBy : GoodIn wsX5_fineOf wsX5_foundBy := goodIn_r _ [6, 7, 8, 9, 5, 10, 11, 12, 13, 14, 15, 16, 17, 18, 19, 20, 21, 22, 23, 24, 25, 26, 27, 31, 32, 33, 34, 35, 36, 37, 38, 39, 40, 41, 42, 43, 44, 45, 46, 47, 48, 49, 50, 51, 52, 53, 54, 55, 56, 57, 58, 59] (by decide +kernel) (by decide +kernel)
set_option maxRecDepth 20000 in
theorem gX5_fineOf_X5_foundBy : GoodIn wsX5_fineOf (wsV RX5 168 RX5 yX5_foundBy wsX5_foundBy) := goodIn_app (goodIn_of _ (by decide +kernel)) ggX5_fineOf_X5_foundBy
set_option maxRecDepth 20000 in
theorem ggX5_fineOf_X5_bits : GoodIn wsX5_fineOf wsX5_bits := goodIn_r _ [30] (by decide +kernel) (by decide +kernel)
set_option maxRecDepth 20000 in
theorem gX5_fineOf_X5_bits : GoodIn wsX5_fineOf (va_wsS RX5 171 yX5_bits wsX5_bits) := goodIn_app (goodIn_of _ (by decide +kernel)) ggX5_fineOf_X5_bits
theorem dX5_fineOf_0 : decode cX5_fineOf 0 = .ok (.aload_n 0, 1) := by decide +kernel
theorem dX5_fineOf_1 : decode cX5_fineOf 1 = .ok (.getfield 19, 3) := by decide +kernel
theorem dX5_fineOf_4 : decode cX5_fineOf 4 = .ok (.iload_n 1, 1) := by decide +kernel
theorem dX5_fineOf_5 : decode cX5_fineOf 5 = .ok (.iaload, 1) := by decide +kernel
theorem dX5_fineOf_6 : decode cX5_fineOf 6 = .ok (.aload_n 0, 1) := by decide +kernel
theorem dX5_fineOf_7 : decode cX5_fineOf 7 = .ok (.iload_n 1, 1) := by decide +kernel
theorem dX5_fineOf_8 : decode cX5_fineOf 8 = .ok (.iload_n 2, 1) := by decide +kernel
theorem dX5_fineOf_9 : decode cX5_fineOf 9 = .ok (.invokevirtual 168, 3) := by decide +kernel
theorem dX5_fineOf_12 : decode cX5_fineOf 12 = .ok (.invokestatic 171, 3) := by decide +kernel
theorem dX5_fineOf_15 : decode cX5_fineOf 15 = .ok (.imul, 1) := by decide +kernel
theorem dX5_fineOf_16 : decode cX5_fineOf 16 = .ok (.ireturn, 1) := by decide +kernel
set_option maxRecDepth 20000 in
theorem ggX5_fasts_X5_fastsNow : GoodIn wsX5_fasts wsX5_fastsNow := goodIn_r _ [6, 7, 8, 9, 10, 11, 12, 13, 14, 15, 16, 17, 18, 19, 20, 21, 22, 23, 24, 25, 26, 27, 28, 29, 30, 31, 32, 33, 34, 35, 36, 37, 38, 39] (by decide +kernel) (by decide +kernel)
set_option maxRecDepth 20000 in
theorem gX5_fasts_X5_fastsNow : GoodIn wsX5_fasts (wsV RX5 164 RX5 yX5_fastsNow wsX5_fastsNow) := goodIn_app (goodIn_of _ (by decide +kernel)) ggX5_fasts_X5_fastsNow
theorem dX5_fasts_0 : decode cX5_fasts 0 = .ok (.aload_n 0, 1) := by decide +kernel
theorem dX5_fasts_1 : decode cX5_fasts 1 = .ok (.getfield 85, 3) := by decide +kernel
theorem dX5_fasts_4 : decode cX5_fasts 4 = .ok (.ifCond .ne 8, 3) := by decide +kernel
theorem dX5_fasts_7 : decode cX5_fasts 7 = .ok (.bipush (-3), 2) := by decide +kernel
theorem dX5_fasts_9 : decode cX5_fasts 9 = .ok (.goto 7, 3) := by decide +kernel
theorem dX5_fasts_12 : decode cX5_fasts 12 = .ok (.aload_n 0, 1) := by decide +kernel
theorem dX5_fasts_13 : decode cX5_fasts 13 = .ok (.invokevirtual 164, 3) := by decide +kernel
theorem dX5_fasts_16 : decode cX5_fasts 16 = .ok (.ireturn, 1) := by decide +kernel
set_option maxRecDepth 20000 in
theorem ggX5_yellow_X5_noEater : GoodIn wsX5_yellow wsX5_noEater := goodIn_r _ [5, 6, 7, 8, 4, 9, 28, 29, 30, 31, 32, 33, 34, 35, 36, 37, 38, 39, 40, 41, 42, 43, 44, 45, 46, 47, 48, 49, 50, 51, 52, 53, 54, 55, 56] (by decide +kernel) (by decide +kernel)
set_option maxRecDepth 20000 in
theorem gX5_yellow_X5_noEater : GoodIn wsX5_yellow (wsV RX5 145 RX5 yX5_noEater wsX5_noEater) := goodIn_app (goodIn_of _ (by decide +kernel)) ggX5_yellow_X5_noEater
set_option maxRecDepth 20000 in
theorem ggX5_yellow_X5_noSet : GoodIn wsX5_yellow wsX5_noSet := goodIn_r _ [13, 14, 7, 8, 4, 9, 28, 29, 30, 31, 32, 33, 34, 35, 36, 37, 38, 39, 40, 41, 42, 43, 44, 45, 46, 47, 48, 49, 50, 51, 52, 53, 54, 55, 56] (by decide +kernel) (by decide +kernel)
set_option maxRecDepth 20000 in
theorem gX5_yellow_X5_noSet : GoodIn wsX5_yellow (wsV RX5 174 RX5 yX5_noSet wsX5_noSet) := goodIn_app (goodIn_of _ (by decide +kernel)) ggX5_yellow_X5_noSet
set_option maxRecDepth 20000 in
theorem ggX5_yellow_X5_yellowBy : GoodIn wsX5_yellow wsX5_yellowBy := goodIn_r _ [18, 14, 19, 20, 21, 4, 22, 23, 24, 25, 26, 27, 28, 29, 30, 31, 32, 33, 34, 35, 36, 37, 38, 39, 40, 41, 42, 43, 44, 45, 46, 47, 48, 49, 50, 51, 52, 53, 54, 55, 56] (by decide +kernel) (by decide +kernel)
set_option maxRecDepth 20000 in
theorem gX5_yellow_X5_yellowBy : GoodIn wsX5_yellow (wsV RX5 161 RX5 yX5_yellowBy wsX5_yellowBy) := goodIn_app (goodIn_of _ (by decide +kernel)) ggX5_yellow_X5_yellowBy
theorem dX5_yellow_0 : decode cX5_yellow 0 = .ok (.aload_n 0, 1) := by decide +kernel
theorem dX5_yellow_1 : decode cX5_yellow 1 = .ok (.iload_n 1, 1) := by decide +kernel
theorem dX5_yellow_2 : decode cX5_yellow 2 = .ok (.invokevirtual 145, 3) := by decide +kernel
theorem dX5_yellow_5 : decode cX5_yellow 5 = .ok (.ifCond .eq 5, 3) := by decide +kernel
theorem dX5_yellow_8 : decode cX5_yellow 8 = .ok (.iconst (-1), 1) := by decide +kernel
theorem dX5_yellow_9 : decode cX5_yellow 9 = .ok (.ireturn, 1) := by decide +kernel
theorem dX5_yellow_10 : decode cX5_yellow 10 = .ok (.aload_n 0, 1) := by decide +kernel
theorem dX5_yellow_11 : decode cX5_yellow 11 = .ok (.iload_n 2, 1) := by decide +kernel
theorem dX5_yellow_12 : decode cX5_yellow 12 = .ok (.invokevirtual 174, 3) := by decide +kernel
theorem dX5_yellow_15 : decode cX5_yellow 15 = .ok (.ifCond .eq 8, 3) := by decide +kernel
theorem dX5_yellow_18 : decode cX5_yellow 18 = .ok (.bipush (-2), 2) := by decide +kernel
theorem dX5_yellow_20 : decode cX5_yellow 20 = .ok (.goto 9, 3) := by decide +kernel
theorem dX5_yellow_23 : decode cX5_yellow 23 = .ok (.aload_n 0, 1) := by decide +kernel
theorem dX5_yellow_24 : decode cX5_yellow 24 = .ok (.iload_n 1, 1) := by decide +kernel
theorem dX5_yellow_25 : decode cX5_yellow 25 = .ok (.iload_n 2, 1) := by decide +kernel
theorem dX5_yellow_26 : decode cX5_yellow 26 = .ok (.invokevirtual 161, 3) := by decide +kernel
theorem dX5_yellow_29 : decode cX5_yellow 29 = .ok (.ireturn, 1) := by decide +kernel
set_option maxRecDepth 20000 in
theorem ggX5_found_X5_noEater : GoodIn wsX5_found wsX5_noEater := goodIn_r _ [5, 6, 7, 8, 4, 9, 47, 48, 49, 50, 51, 52, 53, 54, 55, 56, 57, 58, 59, 60, 61, 62, 63, 64, 65, 66, 67, 68, 69, 70, 71, 72, 73, 74, 75] (by decide +kernel) (by decide +kernel)
set_option maxRecDepth 20000 in
theorem gX5_found_X5_noEater : GoodIn wsX5_found (wsV RX5 145 RX5 yX5_noEater wsX5_noEater) := goodIn_app (goodIn_of _ (by decide +kernel)) ggX5_found_X5_noEater
set_option maxRecDepth 20000 in
theorem ggX5_found_X5_noSet : GoodIn wsX5_found wsX5_noSet := goodIn_r _ [13, 14, 7, 8, 4, 9, 47, 48, 49, 50, 51, 52, 53, 54, 55, 56, 57, 58, 59, 60, 61, 62, 63, 64, 65, 66, 67, 68, 69, 70, 71, 72, 73, 74, 75] (by decide +kernel) (by decide +kernel)
set_option maxRecDepth 20000 in
theorem gX5_found_X5_noSet : GoodIn wsX5_found (wsV RX5 174 RX5 yX5_noSet wsX5_noSet) := goodIn_app (goodIn_of _ (by decide +kernel)) ggX5_found_X5_noSet
set_option maxRecDepth 20000 in
theorem ggX5_found_X5_in : GoodIn wsX5_found wsX5_in := goodIn_r _ [9] (by decide +kernel) (by decide +kernel)
set_option maxRecDepth 20000 in
theorem gX5_found_X5_in : GoodIn wsX5_found (va_wsS RX5 81 yX5_in wsX5_in) := goodIn_app (goodIn_of _ (by decide +kernel)) ggX5_found_X5_in
set_option maxRecDepth 20000 in
theorem ggX5_found_X5_foundBy : GoodIn wsX5_found wsX5_foundBy := goodIn_r _ [18, 19, 20, 21, 4, 22, 14, 23, 24, 25, 26, 27, 28, 29, 30, 31, 32, 33, 34, 35, 36, 37, 38, 47, 48, 49, 50, 51, 52, 53, 54, 55, 56, 57, 58, 59, 60, 61, 62, 63, 64, 65, 66, 67, 68, 69, 70, 71, 72, 73, 74, 75] (by decide +kernel) (by decide +kernel)
set_option maxRecDepth 20000 in
theorem gX5_found_X5_foundBy : GoodIn wsX5_found (wsV RX5 168 RX5 yX5_foundBy wsX5_foundBy) := goodIn_app (goodIn_of _ (by decide +kernel)) ggX5_found_X5_foundBy
set_option maxRecDepth 20000 in
theorem ggX5_found_X5_fineOf : GoodIn wsX5_found wsX5_fineOf := goodIn_r _ [42, 43, 15, 16, 17, 4, 18, 19, 20, 21, 22, 14, 23, 24, 25, 26, 27, 28, 29, 30, 31, 32, 33, 34, 35, 36, 37, 38, 44, 45, 46, 47, 48, 49, 50, 51, 52, 53, 54, 55, 56, 57, 58, 59, 60, 61, 62, 63, 64, 65, 66, 67, 68, 69, 70, 71, 72, 73, 74, 75] (by decide +kernel) (by decide +kernel)
set_option maxRecDepth 20000 in
theorem gX5_found_X5_fineOf : GoodIn wsX5_found (wsV RX5 177 RX5 yX5_fineOf wsX5_fineOf) := goodIn_app (goodIn_of _ (by decide +kernel)) ggX5_found_X5_fineOf
theorem dX5_found_0 : decode cX5_found 0 = .ok (.aload_n 0, 1) := by decide +kernel
theorem dX5_found_1 : decode cX5_found 1 = .ok (.iload_n 1, 1) := by decide +kernel
theorem dX5_found_2 : decode cX5_found 2 = .ok (.invokevirtual 145, 3) := by decide +kernel
theorem dX5_found_5 : decode cX5_found 5 = .ok (.ifCond .eq 5, 3) := by decide +kernel
theorem dX5_found_8 : decode cX5_found 8 = .ok (.iconst (-1), 1) := by decide +kernel
theorem dX5_found_9 : decode cX5_found 9 = .ok (.ireturn, 1) := by decide +kernel
theorem dX5_found_10 : decode cX5_found 10 = .ok (.aload_n 0, 1) := by decide +kernel
theorem dX5_found_11 : decode cX5_found 11 = .ok (.iload_n 2, 1) := by decide +kernel
theorem dX5_found_12 : decode cX5_found 12 = .ok (.invokevirtual 174, 3) := by decide +kernel
theorem dX5_found_15 : decode cX5_found 15 = .ok (.ifCond .ne 13, 3) := by decide +kernel
theorem dX5_found_18 : decode cX5_found 18 = .ok (.iload_n 3, 1) := by decide +kernel
theorem dX5_found_19 : decode cX5_found 19 = .ok (.i2l, 1) := by decide +kernel
theorem dX5_found_20 : decode cX5_found 20 = .ok (.lconst 0, 1) := by decide +kernel
theorem dX5_found_21 : decode cX5_found 21 = .ok (.lconst 1, 1) := by decide +kernel
theorem dX5_found_22 : decode cX5_found 22 = .ok (.invokestatic 81, 3) := by decide +kernel
theorem dX5_found_25 : decode cX5_found 25 = .ok (.ifCond .ne 6, 3) := by decide +kernel
theorem dX5_found_28 : decode cX5_found 28 = .ok (.bipush (-2), 2) := by decide +kernel
theorem dX5_found_30 : decode cX5_found 30 = .ok (.ireturn, 1) := by decide +kernel
theorem dX5_found_31 : decode cX5_found 31 = .ok (.iload_n 3, 1) := by decide +kernel
theorem dX5_found_32 : decode cX5_found 32 = .ok (.ifCond .ne 12, 3) := by decide +kernel
theorem dX5_found_35 : decode cX5_found 35 = .ok (.aload_n 0, 1) := by decide +kernel
theorem dX5_found_36 : decode cX5_found 36 = .ok (.iload_n 1, 1) := by decide +kernel
theorem dX5_found_37 : decode cX5_found 37 = .ok (.iload_n 2, 1) := by decide +kernel
theorem dX5_found_38 : decode cX5_found 38 = .ok (.invokevirtual 168, 3) := by decide +kernel
theorem dX5_found_41 : decode cX5_found 41 = .ok (.goto 9, 3) := by decide +kernel
theorem dX5_found_44 : decode cX5_found 44 = .ok (.aload_n 0, 1) := by decide +kernel
theorem dX5_found_45 : decode cX5_found 45 = .ok (.iload_n 1, 1) := by decide +kernel
theorem dX5_found_46 : decode cX5_found 46 = .ok (.iload_n 2, 1) := by decide +kernel
theorem dX5_found_47 : decode cX5_found 47 = .ok (.invokevirtual 177, 3) := by decide +kernel
theorem dX5_found_50 : decode cX5_found 50 = .ok (.ireturn, 1) := by decide +kernel
set_option maxRecDepth 20000 in
theorem ggX5_planBy_X5_foundBy : GoodIn wsX5_planBy wsX5_foundBy := goodIn_r _ [9, 10, 11, 12, 8, 13, 4, 14, 15, 16, 17, 18, 19, 20, 21, 22, 23, 24, 25, 26, 27, 28, 29, 45, 46, 47, 48, 49, 50, 51, 52, 53, 54, 55, 56, 57, 58, 59, 60, 61, 62, 63, 64, 65, 66, 67, 68, 69, 70, 71, 72, 73] (by decide +kernel) (by decide +kernel)
set_option maxRecDepth 20000 in
theorem gX5_planBy_X5_foundBy : GoodIn wsX5_planBy (wsV RX5 168 RX5 yX5_foundBy wsX5_foundBy) := goodIn_app (goodIn_of _ (by decide +kernel)) ggX5_planBy_X5_foundBy
set_option maxRecDepth 20000 in
theorem ggX5_planBy_X5_fineOf : GoodIn wsX5_planBy wsX5_fineOf := goodIn_r _ [33, 34, 5, 6, 7, 8, 9, 10, 11, 12, 13, 4, 14, 15, 16, 17, 18, 19, 20, 21, 22, 23, 24, 25, 26, 27, 28, 29, 35, 36, 37, 45, 46, 47, 48, 49, 50, 51, 52, 53, 54, 55, 56, 57, 58, 59, 60, 61, 62, 63, 64, 65, 66, 67, 68, 69, 70, 71, 72, 73] (by decide +kernel) (by decide +kernel)
set_option maxRecDepth 20000 in
theorem gX5_planBy_X5_fineOf : GoodIn wsX5_planBy (wsV RX5 177 RX5 yX5_fineOf wsX5_fineOf) := goodIn_app (goodIn_of _ (by decide +kernel)) ggX5_planBy_X5_fineOf
set_option maxRecDepth 20000 in
theorem ggX5_planBy_X5_bits : GoodIn wsX5_planBy wsX5_bits := goodIn_r _ [37] (by decide +kernel) (by decide +kernel)
set_option maxRecDepth 20000 in
theorem gX5_planBy_X5_bits : GoodIn wsX5_planBy (va_wsS RX5 171 yX5_bits wsX5_bits) := goodIn_app (goodIn_of _ (by decide +kernel)) ggX5_planBy_X5_bits
set_option maxRecDepth 20000 in
theorem ggX5_planBy_X5_isIn : GoodIn wsX5_planBy wsX5_isIn := goodIn_r _ [22] (by decide +kernel) (by decide +kernel)
set_option maxRecDepth 20000 in
theorem gX5_planBy_X5_isIn : GoodIn wsX5_planBy (va_wsS RX5 158 yX5_isIn wsX5_isIn) := goodIn_app (goodIn_of _ (by decide +kernel)) ggX5_planBy_X5_isIn
set_option maxRecDepth 20000 in
theorem ggX5_planBy_X5_noDay : GoodIn wsX5_planBy wsX5_noDay := goodIn_r _ [41, 4, 42, 43, 8, 44, 45, 46, 47, 48, 49, 50, 51, 52, 53, 54, 55, 56, 57, 58, 59, 60, 61, 62, 63, 64, 65, 66, 67, 68, 69, 70, 71, 72, 73] (by decide +kernel) (by decide +kernel)
set_option maxRecDepth 20000 in
theorem gX5_planBy_X5_noDay : GoodIn wsX5_planBy (wsV RX5 151 RX5 yX5_noDay wsX5_noDay) := goodIn_app (goodIn_of _ (by decide +kernel)) ggX5_planBy_X5_noDay
theorem dX5_planBy_0 : decode cX5_planBy 0 = .ok (.iconst 0, 1) := by decide +kernel
theorem dX5_planBy_1 : decode cX5_planBy 1 = .ok (.istore_n 3, 1) := by decide +kernel
theorem dX5_planBy_2 : decode cX5_planBy 2 = .ok (.bipush (-9), 2) := by decide +kernel
theorem dX5_planBy_4 : decode cX5_planBy 4 = .ok (.istore 4, 2) := by decide +kernel
theorem dX5_planBy_6 : decode cX5_planBy 6 = .ok (.iconst 0, 1) := by decide +kernel
theorem dX5_planBy_7 : decode cX5_planBy 7 = .ok (.istore 5, 2) := by decide +kernel
theorem dX5_planBy_9 : decode cX5_planBy 9 = .ok (.iconst 0, 1) := by decide +kernel
theorem dX5_planBy_10 : decode cX5_planBy 10 = .ok (.istore 6, 2) := by decide +kernel
theorem dX5_planBy_12 : decode cX5_planBy 12 = .ok (.iconst 0, 1) := by decide +kernel
theorem dX5_planBy_13 : decode cX5_planBy 13 = .ok (.istore 7, 2) := by decide +kernel
theorem dX5_planBy_15 : decode cX5_planBy 15 = .ok (.iconst 0, 1) := by decide +kernel
theorem dX5_planBy_16 : decode cX5_planBy 16 = .ok (.istore 8, 2) := by decide +kernel
theorem dX5_planBy_18 : decode cX5_planBy 18 = .ok (.iload 8, 2) := by decide +kernel
theorem dX5_planBy_20 : decode cX5_planBy 20 = .ok (.aload_n 0, 1) := by decide +kernel
theorem dX5_planBy_21 : decode cX5_planBy 21 = .ok (.getfield 85, 3) := by decide +kernel
theorem dX5_planBy_24 : decode cX5_planBy 24 = .ok (.if_icmp .ge 165, 3) := by decide +kernel
theorem dX5_planBy_27 : decode cX5_planBy 27 = .ok (.aload_n 0, 1) := by decide +kernel
theorem dX5_planBy_28 : decode cX5_planBy 28 = .ok (.getfield 63, 3) := by decide +kernel
theorem dX5_planBy_31 : decode cX5_planBy 31 = .ok (.iload_n 1, 1) := by decide +kernel
theorem dX5_planBy_32 : decode cX5_planBy 32 = .ok (.iload 8, 2) := by decide +kernel
theorem dX5_planBy_34 : decode cX5_planBy 34 = .ok (.iadd, 1) := by decide +kernel
theorem dX5_planBy_35 : decode cX5_planBy 35 = .ok (.iaload, 1) := by decide +kernel
theorem dX5_planBy_36 : decode cX5_planBy 36 = .ok (.istore 9, 2) := by decide +kernel
theorem dX5_planBy_38 : decode cX5_planBy 38 = .ok (.aload_n 0, 1) := by decide +kernel
theorem dX5_planBy_39 : decode cX5_planBy 39 = .ok (.iload 8, 2) := by decide +kernel
theorem dX5_planBy_41 : decode cX5_planBy 41 = .ok (.iload 9, 2) := by decide +kernel
theorem dX5_planBy_43 : decode cX5_planBy 43 = .ok (.invokevirtual 168, 3) := by decide +kernel
theorem dX5_planBy_46 : decode cX5_planBy 46 = .ok (.istore 10, 2) := by decide +kernel
theorem dX5_planBy_48 : decode cX5_planBy 48 = .ok (.iload_n 3, 1) := by decide +kernel
theorem dX5_planBy_49 : decode cX5_planBy 49 = .ok (.aload_n 0, 1) := by decide +kernel
theorem dX5_planBy_50 : decode cX5_planBy 50 = .ok (.iload 8, 2) := by decide +kernel
theorem dX5_planBy_52 : decode cX5_planBy 52 = .ok (.iload 9, 2) := by decide +kernel
theorem dX5_planBy_54 : decode cX5_planBy 54 = .ok (.invokevirtual 177, 3) := by decide +kernel
theorem dX5_planBy_57 : decode cX5_planBy 57 = .ok (.iadd, 1) := by decide +kernel
theorem dX5_planBy_58 : decode cX5_planBy 58 = .ok (.istore_n 3, 1) := by decide +kernel
theorem dX5_planBy_59 : decode cX5_planBy 59 = .ok (.iload 5, 2) := by decide +kernel
theorem dX5_planBy_61 : decode cX5_planBy 61 = .ok (.iload 10, 2) := by decide +kernel
theorem dX5_planBy_63 : decode cX5_planBy 63 = .ok (.ifCond .le 10, 3) := by decide +kernel
theorem dX5_planBy_66 : decode cX5_planBy 66 = .ok (.iconst 1, 1) := by decide +kernel
theorem dX5_planBy_67 : decode cX5_planBy 67 = .ok (.iload 8, 2) := by decide +kernel
theorem dX5_planBy_69 : decode cX5_planBy 69 = .ok (.ishl, 1) := by decide +kernel
theorem dX5_planBy_70 : decode cX5_planBy 70 = .ok (.goto 4, 3) := by decide +kernel
theorem dX5_planBy_73 : decode cX5_planBy 73 = .ok (.iconst 0, 1) := by decide +kernel
theorem dX5_planBy_74 : decode cX5_planBy 74 = .ok (.ior, 1) := by decide +kernel
theorem dX5_planBy_75 : decode cX5_planBy 75 = .ok (.istore 5, 2) := by decide +kernel
theorem dX5_planBy_77 : decode cX5_planBy 77 = .ok (.iload 6, 2) := by decide +kernel
theorem dX5_planBy_79 : decode cX5_planBy 79 = .ok (.iload 9, 2) := by decide +kernel
theorem dX5_planBy_81 : decode cX5_planBy 81 = .ok (.invokestatic 171, 3) := by decide +kernel
theorem dX5_planBy_84 : decode cX5_planBy 84 = .ok (.aload_n 0, 1) := by decide +kernel
theorem dX5_planBy_85 : decode cX5_planBy 85 = .ok (.getfield 22, 3) := by decide +kernel
theorem dX5_planBy_88 : decode cX5_planBy 88 = .ok (.iload 8, 2) := by decide +kernel
theorem dX5_planBy_90 : decode cX5_planBy 90 = .ok (.iaload, 1) := by decide +kernel
theorem dX5_planBy_91 : decode cX5_planBy 91 = .ok (.if_icmp .ge 10, 3) := by decide +kernel
theorem dX5_planBy_94 : decode cX5_planBy 94 = .ok (.iconst 1, 1) := by decide +kernel
theorem dX5_planBy_95 : decode cX5_planBy 95 = .ok (.iload 8, 2) := by decide +kernel
theorem dX5_planBy_97 : decode cX5_planBy 97 = .ok (.ishl, 1) := by decide +kernel
theorem dX5_planBy_98 : decode cX5_planBy 98 = .ok (.goto 4, 3) := by decide +kernel
theorem dX5_planBy_101 : decode cX5_planBy 101 = .ok (.iconst 0, 1) := by decide +kernel
theorem dX5_planBy_102 : decode cX5_planBy 102 = .ok (.ior, 1) := by decide +kernel
theorem dX5_planBy_103 : decode cX5_planBy 103 = .ok (.istore 6, 2) := by decide +kernel
theorem dX5_planBy_105 : decode cX5_planBy 105 = .ok (.iload 7, 2) := by decide +kernel
theorem dX5_planBy_107 : decode cX5_planBy 107 = .ok (.iload_n 2, 1) := by decide +kernel
theorem dX5_planBy_108 : decode cX5_planBy 108 = .ok (.bipush 10, 2) := by decide +kernel
theorem dX5_planBy_110 : decode cX5_planBy 110 = .ok (.if_icmp .lt 19, 3) := by decide +kernel
theorem dX5_planBy_113 : decode cX5_planBy 113 = .ok (.iload 10, 2) := by decide +kernel
theorem dX5_planBy_115 : decode cX5_planBy 115 = .ok (.iload_n 2, 1) := by decide +kernel
theorem dX5_planBy_116 : decode cX5_planBy 116 = .ok (.bipush 10, 2) := by decide +kernel
theorem dX5_planBy_118 : decode cX5_planBy 118 = .ok (.isub, 1) := by decide +kernel
theorem dX5_planBy_119 : decode cX5_planBy 119 = .ok (.invokestatic 158, 3) := by decide +kernel
theorem dX5_planBy_122 : decode cX5_planBy 122 = .ok (.ifCond .eq 7, 3) := by decide +kernel
theorem dX5_planBy_125 : decode cX5_planBy 125 = .ok (.iconst 1, 1) := by decide +kernel
theorem dX5_planBy_126 : decode cX5_planBy 126 = .ok (.goto 4, 3) := by decide +kernel
theorem dX5_planBy_129 : decode cX5_planBy 129 = .ok (.iconst 0, 1) := by decide +kernel
theorem dX5_planBy_130 : decode cX5_planBy 130 = .ok (.iadd, 1) := by decide +kernel
theorem dX5_planBy_131 : decode cX5_planBy 131 = .ok (.istore 7, 2) := by decide +kernel
theorem dX5_planBy_133 : decode cX5_planBy 133 = .ok (.aload_n 0, 1) := by decide +kernel
theorem dX5_planBy_134 : decode cX5_planBy 134 = .ok (.getfield 78, 3) := by decide +kernel
theorem dX5_planBy_137 : decode cX5_planBy 137 = .ok (.iconst 1, 1) := by decide +kernel
theorem dX5_planBy_138 : decode cX5_planBy 138 = .ok (.isub, 1) := by decide +kernel
theorem dX5_planBy_139 : decode cX5_planBy 139 = .ok (.istore 11, 2) := by decide +kernel
theorem dX5_planBy_141 : decode cX5_planBy 141 = .ok (.iload 11, 2) := by decide +kernel
theorem dX5_planBy_143 : decode cX5_planBy 143 = .ok (.ifCond .lt 40, 3) := by decide +kernel
theorem dX5_planBy_146 : decode cX5_planBy 146 = .ok (.iload 10, 2) := by decide +kernel
theorem dX5_planBy_148 : decode cX5_planBy 148 = .ok (.iload 11, 2) := by decide +kernel
theorem dX5_planBy_150 : decode cX5_planBy 150 = .ok (.invokestatic 158, 3) := by decide +kernel
theorem dX5_planBy_153 : decode cX5_planBy 153 = .ok (.ifCond .eq 20, 3) := by decide +kernel
theorem dX5_planBy_156 : decode cX5_planBy 156 = .ok (.iload 4, 2) := by decide +kernel
theorem dX5_planBy_158 : decode cX5_planBy 158 = .ok (.ifCond .lt 10, 3) := by decide +kernel
theorem dX5_planBy_161 : decode cX5_planBy 161 = .ok (.iload 11, 2) := by decide +kernel
theorem dX5_planBy_163 : decode cX5_planBy 163 = .ok (.iload 4, 2) := by decide +kernel
theorem dX5_planBy_165 : decode cX5_planBy 165 = .ok (.if_icmp .ge 8, 3) := by decide +kernel
theorem dX5_planBy_168 : decode cX5_planBy 168 = .ok (.iload 11, 2) := by decide +kernel
theorem dX5_planBy_170 : decode cX5_planBy 170 = .ok (.goto 5, 3) := by decide +kernel
theorem dX5_planBy_173 : decode cX5_planBy 173 = .ok (.iload 4, 2) := by decide +kernel
theorem dX5_planBy_175 : decode cX5_planBy 175 = .ok (.istore 4, 2) := by decide +kernel
theorem dX5_planBy_177 : decode cX5_planBy 177 = .ok (.iinc 11 (-1), 3) := by decide +kernel
theorem dX5_planBy_180 : decode cX5_planBy 180 = .ok (.goto (-39), 3) := by decide +kernel
theorem dX5_planBy_183 : decode cX5_planBy 183 = .ok (.iinc 8 1, 3) := by decide +kernel
theorem dX5_planBy_186 : decode cX5_planBy 186 = .ok (.goto (-168), 3) := by decide +kernel
theorem dX5_planBy_189 : decode cX5_planBy 189 = .ok (.iload_n 2, 1) := by decide +kernel
theorem dX5_planBy_190 : decode cX5_planBy 190 = .ok (.bipush 10, 2) := by decide +kernel
theorem dX5_planBy_192 : decode cX5_planBy 192 = .ok (.if_icmp .lt 22, 3) := by decide +kernel
theorem dX5_planBy_195 : decode cX5_planBy 195 = .ok (.aload_n 0, 1) := by decide +kernel
theorem dX5_planBy_196 : decode cX5_planBy 196 = .ok (.iload_n 2, 1) := by decide +kernel
theorem dX5_planBy_197 : decode cX5_planBy 197 = .ok (.bipush 10, 2) := by decide +kernel
theorem dX5_planBy_199 : decode cX5_planBy 199 = .ok (.isub, 1) := by decide +kernel
theorem dX5_planBy_200 : decode cX5_planBy 200 = .ok (.invokevirtual 151, 3) := by decide +kernel
theorem dX5_planBy_203 : decode cX5_planBy 203 = .ok (.ifCond .eq 8, 3) := by decide +kernel
theorem dX5_planBy_206 : decode cX5_planBy 206 = .ok (.bipush (-9), 2) := by decide +kernel
theorem dX5_planBy_208 : decode cX5_planBy 208 = .ok (.goto 5, 3) := by decide +kernel
theorem dX5_planBy_211 : decode cX5_planBy 211 = .ok (.iload 7, 2) := by decide +kernel
theorem dX5_planBy_213 : decode cX5_planBy 213 = .ok (.ireturn, 1) := by decide +kernel
theorem dX5_planBy_214 : decode cX5_planBy 214 = .ok (.iload_n 2, 1) := by decide +kernel
theorem dX5_planBy_215 : decode cX5_planBy 215 = .ok (.ifCond .ne 7, 3) := by decide +kernel
theorem dX5_planBy_218 : decode cX5_planBy 218 = .ok (.iload_n 3, 1) := by decide +kernel
theorem dX5_planBy_219 : decode cX5_planBy 219 = .ok (.goto 25, 3) := by decide +kernel
theorem dX5_planBy_222 : decode cX5_planBy 222 = .ok (.iload_n 2, 1) := by decide +kernel
theorem dX5_planBy_223 : decode cX5_planBy 223 = .ok (.iconst 1, 1) := by decide +kernel
theorem dX5_planBy_224 : decode cX5_planBy 224 = .ok (.if_icmp .ne 8, 3) := by decide +kernel
theorem dX5_planBy_227 : decode cX5_planBy 227 = .ok (.iload 4, 2) := by decide +kernel
theorem dX5_planBy_229 : decode cX5_planBy 229 = .ok (.goto 15, 3) := by decide +kernel
theorem dX5_planBy_232 : decode cX5_planBy 232 = .ok (.iload_n 2, 1) := by decide +kernel
theorem dX5_planBy_233 : decode cX5_planBy 233 = .ok (.iconst 2, 1) := by decide +kernel
theorem dX5_planBy_234 : decode cX5_planBy 234 = .ok (.if_icmp .ne 8, 3) := by decide +kernel
theorem dX5_planBy_237 : decode cX5_planBy 237 = .ok (.iload 5, 2) := by decide +kernel
theorem dX5_planBy_239 : decode cX5_planBy 239 = .ok (.goto 5, 3) := by decide +kernel
theorem dX5_planBy_242 : decode cX5_planBy 242 = .ok (.iload 6, 2) := by decide +kernel
theorem dX5_planBy_244 : decode cX5_planBy 244 = .ok (.ireturn, 1) := by decide +kernel
set_option maxRecDepth 20000 in
theorem ggX5_plan_X5_noSheet : GoodIn wsX5_plan wsX5_noSheet := goodIn_r _ [10, 1, 11, 12, 9, 13] (by decide +kernel) (by decide +kernel)
set_option maxRecDepth 20000 in
theorem gX5_plan_X5_noSheet : GoodIn wsX5_plan (va_wsS RX5 123 yX5_noSheet wsX5_noSheet) := goodIn_app (goodIn_of _ (by decide +kernel)) ggX5_plan_X5_noSheet
set_option maxRecDepth 20000 in
theorem ggX5_plan_X5_refused : GoodIn wsX5_plan wsX5_refused := goodIn_r _ [17, 18, 78, 79, 80, 81, 82, 83, 84, 85, 86, 87, 88, 89, 90, 91, 92, 93, 94, 95, 96, 97, 98, 99, 100, 101, 102, 103, 104, 105, 106] (by decide +kernel) (by decide +kernel)
set_option maxRecDepth 20000 in
theorem gX5_plan_X5_refused : GoodIn wsX5_plan (wsV RX5 127 RX5 yX5_refused wsX5_refused) := goodIn_app (goodIn_of _ (by decide +kernel)) ggX5_plan_X5_refused
set_option maxRecDepth 20000 in
theorem ggX5_plan_X5_in : GoodIn wsX5_plan wsX5_in := goodIn_r _ [13] (by decide +kernel) (by decide +kernel)
set_option maxRecDepth 20000 in
theorem gX5_plan_X5_in : GoodIn wsX5_plan (va_wsS RX5 81 yX5_in wsX5_in) := goodIn_app (goodIn_of _ (by decide +kernel)) ggX5_plan_X5_in
set_option maxRecDepth 20000 in
theorem ggX5_plan_X5_cellsBarred : GoodIn wsX5_plan wsX5_cellsBarred := goodIn_r _ [22, 23, 24, 25, 26, 27, 9, 28, 18, 29, 30, 31, 78, 79, 80, 81, 82, 83, 84, 85, 86, 87, 88, 89, 90, 91, 92, 93, 94, 95, 96, 97, 98, 99, 100, 101, 102, 103, 104, 105, 106] (by decide +kernel) (by decide +kernel)
set_option maxRecDepth 20000 in
theorem gX5_plan_X5_cellsBarred : GoodIn wsX5_plan (wsV RX5 132 RX5 yX5_cellsBarred wsX5_cellsBarred) := goodIn_app (goodIn_of _ (by decide +kernel)) ggX5_plan_X5_cellsBarred
set_option maxRecDepth 20000 in
theorem ggX5_plan_X5_noSet : GoodIn wsX5_plan wsX5_noSet := goodIn_r _ [35, 36, 11, 12, 9, 13, 78, 79, 80, 81, 82, 83, 84, 85, 86, 87, 88, 89, 90, 91, 92, 93, 94, 95, 96, 97, 98, 99, 100, 101, 102, 103, 104, 105, 106] (by decide +kernel) (by decide +kernel)
set_option maxRecDepth 20000 in
theorem gX5_plan_X5_noSet : GoodIn wsX5_plan (wsV RX5 174 RX5 yX5_noSet wsX5_noSet) := goodIn_app (goodIn_of _ (by decide +kernel)) ggX5_plan_X5_noSet
set_option maxRecDepth 20000 in
theorem ggX5_plan_X5_planBy : GoodIn wsX5_plan wsX5_planBy := goodIn_r _ [40, 5, 6, 41, 36, 42, 43, 44, 9, 45, 46, 47, 48, 49, 50, 51, 52, 53, 54, 55, 56, 57, 58, 59, 60, 61, 62, 63, 64, 65, 66, 67, 68, 69, 70, 71, 72, 73, 74, 75, 76, 77, 11, 12, 13, 78, 79, 80, 81, 82, 83, 84, 85, 86, 87, 88, 89, 90, 91, 92, 93, 94, 95, 96, 97, 98, 99, 100, 101, 102, 103, 104, 105, 106] (by decide +kernel) (by decide +kernel)
set_option maxRecDepth 20000 in
theorem gX5_plan_X5_planBy : GoodIn wsX5_plan (wsV RX5 186 RX5 yX5_planBy wsX5_planBy) := goodIn_app (goodIn_of _ (by decide +kernel)) ggX5_plan_X5_planBy
theorem dX5_plan_0 : decode cX5_plan 0 = .ok (.iload_n 1, 1) := by decide +kernel
theorem dX5_plan_1 : decode cX5_plan 1 = .ok (.invokestatic 123, 3) := by decide +kernel
theorem dX5_plan_4 : decode cX5_plan 4 = .ok (.ifCond .eq 9, 3) := by decide +kernel
theorem dX5_plan_7 : decode cX5_plan 7 = .ok (.aload_n 0, 1) := by decide +kernel
theorem dX5_plan_8 : decode cX5_plan 8 = .ok (.iconst (-1), 1) := by decide +kernel
theorem dX5_plan_9 : decode cX5_plan 9 = .ok (.invokevirtual 127, 3) := by decide +kernel
theorem dX5_plan_12 : decode cX5_plan 12 = .ok (.ireturn, 1) := by decide +kernel
theorem dX5_plan_13 : decode cX5_plan 13 = .ok (.iload 5, 2) := by decide +kernel
theorem dX5_plan_15 : decode cX5_plan 15 = .ok (.i2l, 1) := by decide +kernel
theorem dX5_plan_16 : decode cX5_plan 16 = .ok (.lconst 0, 1) := by decide +kernel
theorem dX5_plan_17 : decode cX5_plan 17 = .ok (.ldc2_w 180, 3) := by decide +kernel
theorem dX5_plan_20 : decode cX5_plan 20 = .ok (.invokestatic 81, 3) := by decide +kernel
theorem dX5_plan_23 : decode cX5_plan 23 = .ok (.ifCond .ne 18, 3) := by decide +kernel
theorem dX5_plan_26 : decode cX5_plan 26 = .ok (.iload 5, 2) := by decide +kernel
theorem dX5_plan_28 : decode cX5_plan 28 = .ok (.i2l, 1) := by decide +kernel
theorem dX5_plan_29 : decode cX5_plan 29 = .ok (.ldc2_w 182, 3) := by decide +kernel
theorem dX5_plan_32 : decode cX5_plan 32 = .ok (.ldc2_w 184, 3) := by decide +kernel
theorem dX5_plan_35 : decode cX5_plan 35 = .ok (.invokestatic 81, 3) := by decide +kernel
theorem dX5_plan_38 : decode cX5_plan 38 = .ok (.ifCond .eq 7, 3) := by decide +kernel
theorem dX5_plan_41 : decode cX5_plan 41 = .ok (.iconst 1, 1) := by decide +kernel
theorem dX5_plan_42 : decode cX5_plan 42 = .ok (.goto 4, 3) := by decide +kernel
theorem dX5_plan_45 : decode cX5_plan 45 = .ok (.iconst 0, 1) := by decide +kernel
theorem dX5_plan_46 : decode cX5_plan 46 = .ok (.istore 6, 2) := by decide +kernel
theorem dX5_plan_48 : decode cX5_plan 48 = .ok (.iload_n 2, 1) := by decide +kernel
theorem dX5_plan_49 : decode cX5_plan 49 = .ok (.i2l, 1) := by decide +kernel
theorem dX5_plan_50 : decode cX5_plan 50 = .ok (.lconst 0, 1) := by decide +kernel
theorem dX5_plan_51 : decode cX5_plan 51 = .ok (.ldc2_w 130, 3) := by decide +kernel
theorem dX5_plan_54 : decode cX5_plan 54 = .ok (.invokestatic 81, 3) := by decide +kernel
theorem dX5_plan_57 : decode cX5_plan 57 = .ok (.ifCond .eq 8, 3) := by decide +kernel
theorem dX5_plan_60 : decode cX5_plan 60 = .ok (.iload 6, 2) := by decide +kernel
theorem dX5_plan_62 : decode cX5_plan 62 = .ok (.ifCond .ne 10, 3) := by decide +kernel
theorem dX5_plan_65 : decode cX5_plan 65 = .ok (.aload_n 0, 1) := by decide +kernel
theorem dX5_plan_66 : decode cX5_plan 66 = .ok (.bipush (-2), 2) := by decide +kernel
theorem dX5_plan_68 : decode cX5_plan 68 = .ok (.invokevirtual 127, 3) := by decide +kernel
theorem dX5_plan_71 : decode cX5_plan 71 = .ok (.ireturn, 1) := by decide +kernel
theorem dX5_plan_72 : decode cX5_plan 72 = .ok (.aload_n 0, 1) := by decide +kernel
theorem dX5_plan_73 : decode cX5_plan 73 = .ok (.getfield 85, 3) := by decide +kernel
theorem dX5_plan_76 : decode cX5_plan 76 = .ok (.ifCond .ne 10, 3) := by decide +kernel
theorem dX5_plan_79 : decode cX5_plan 79 = .ok (.aload_n 0, 1) := by decide +kernel
theorem dX5_plan_80 : decode cX5_plan 80 = .ok (.bipush (-3), 2) := by decide +kernel
theorem dX5_plan_82 : decode cX5_plan 82 = .ok (.invokevirtual 127, 3) := by decide +kernel
theorem dX5_plan_85 : decode cX5_plan 85 = .ok (.ireturn, 1) := by decide +kernel
theorem dX5_plan_86 : decode cX5_plan 86 = .ok (.aload_n 0, 1) := by decide +kernel
theorem dX5_plan_87 : decode cX5_plan 87 = .ok (.iload_n 1, 1) := by decide +kernel
theorem dX5_plan_88 : decode cX5_plan 88 = .ok (.iload_n 2, 1) := by decide +kernel
theorem dX5_plan_89 : decode cX5_plan 89 = .ok (.iload_n 3, 1) := by decide +kernel
theorem dX5_plan_90 : decode cX5_plan 90 = .ok (.iload 4, 2) := by decide +kernel
theorem dX5_plan_92 : decode cX5_plan 92 = .ok (.i2l, 1) := by decide +kernel
theorem dX5_plan_93 : decode cX5_plan 93 = .ok (.invokevirtual 132, 3) := by decide +kernel
theorem dX5_plan_96 : decode cX5_plan 96 = .ok (.istore 7, 2) := by decide +kernel
theorem dX5_plan_98 : decode cX5_plan 98 = .ok (.iload 7, 2) := by decide +kernel
theorem dX5_plan_100 : decode cX5_plan 100 = .ok (.ifCond .ge 6, 3) := by decide +kernel
theorem dX5_plan_103 : decode cX5_plan 103 = .ok (.iload 7, 2) := by decide +kernel
theorem dX5_plan_105 : decode cX5_plan 105 = .ok (.ireturn, 1) := by decide +kernel
theorem dX5_plan_106 : decode cX5_plan 106 = .ok (.iload 4, 2) := by decide +kernel
theorem dX5_plan_108 : decode cX5_plan 108 = .ok (.aload_n 0, 1) := by decide +kernel
theorem dX5_plan_109 : decode cX5_plan 109 = .ok (.getfield 85, 3) := by decide +kernel
theorem dX5_plan_112 : decode cX5_plan 112 = .ok (.if_icmp .eq 10, 3) := by decide +kernel
theorem dX5_plan_115 : decode cX5_plan 115 = .ok (.aload_n 0, 1) := by decide +kernel
theorem dX5_plan_116 : decode cX5_plan 116 = .ok (.bipush (-2), 2) := by decide +kernel
theorem dX5_plan_118 : decode cX5_plan 118 = .ok (.invokevirtual 127, 3) := by decide +kernel
theorem dX5_plan_121 : decode cX5_plan 121 = .ok (.ireturn, 1) := by decide +kernel
theorem dX5_plan_122 : decode cX5_plan 122 = .ok (.iconst 0, 1) := by decide +kernel
theorem dX5_plan_123 : decode cX5_plan 123 = .ok (.istore 8, 2) := by decide +kernel
theorem dX5_plan_125 : decode cX5_plan 125 = .ok (.iload 8, 2) := by decide +kernel
theorem dX5_plan_127 : decode cX5_plan 127 = .ok (.iload 4, 2) := by decide +kernel
theorem dX5_plan_129 : decode cX5_plan 129 = .ok (.if_icmp .ge 37, 3) := by decide +kernel
theorem dX5_plan_132 : decode cX5_plan 132 = .ok (.aload_n 0, 1) := by decide +kernel
theorem dX5_plan_133 : decode cX5_plan 133 = .ok (.aload_n 0, 1) := by decide +kernel
theorem dX5_plan_134 : decode cX5_plan 134 = .ok (.getfield 63, 3) := by decide +kernel
theorem dX5_plan_137 : decode cX5_plan 137 = .ok (.bipush 60, 2) := by decide +kernel
theorem dX5_plan_139 : decode cX5_plan 139 = .ok (.iload_n 1, 1) := by decide +kernel
theorem dX5_plan_140 : decode cX5_plan 140 = .ok (.imul, 1) := by decide +kernel
theorem dX5_plan_141 : decode cX5_plan 141 = .ok (.iload_n 3, 1) := by decide +kernel
theorem dX5_plan_142 : decode cX5_plan 142 = .ok (.iadd, 1) := by decide +kernel
theorem dX5_plan_143 : decode cX5_plan 143 = .ok (.iload 8, 2) := by decide +kernel
theorem dX5_plan_145 : decode cX5_plan 145 = .ok (.iadd, 1) := by decide +kernel
theorem dX5_plan_146 : decode cX5_plan 146 = .ok (.iaload, 1) := by decide +kernel
theorem dX5_plan_147 : decode cX5_plan 147 = .ok (.invokevirtual 174, 3) := by decide +kernel
theorem dX5_plan_150 : decode cX5_plan 150 = .ok (.ifCond .eq 10, 3) := by decide +kernel
theorem dX5_plan_153 : decode cX5_plan 153 = .ok (.aload_n 0, 1) := by decide +kernel
theorem dX5_plan_154 : decode cX5_plan 154 = .ok (.bipush (-2), 2) := by decide +kernel
theorem dX5_plan_156 : decode cX5_plan 156 = .ok (.invokevirtual 127, 3) := by decide +kernel
theorem dX5_plan_159 : decode cX5_plan 159 = .ok (.ireturn, 1) := by decide +kernel
theorem dX5_plan_160 : decode cX5_plan 160 = .ok (.iinc 8 1, 3) := by decide +kernel
theorem dX5_plan_163 : decode cX5_plan 163 = .ok (.goto (-38), 3) := by decide +kernel
theorem dX5_plan_166 : decode cX5_plan 166 = .ok (.aload_n 0, 1) := by decide +kernel
theorem dX5_plan_167 : decode cX5_plan 167 = .ok (.aload_n 0, 1) := by decide +kernel
theorem dX5_plan_168 : decode cX5_plan 168 = .ok (.bipush 60, 2) := by decide +kernel
theorem dX5_plan_170 : decode cX5_plan 170 = .ok (.iload_n 1, 1) := by decide +kernel
theorem dX5_plan_171 : decode cX5_plan 171 = .ok (.imul, 1) := by decide +kernel
theorem dX5_plan_172 : decode cX5_plan 172 = .ok (.iload_n 3, 1) := by decide +kernel
theorem dX5_plan_173 : decode cX5_plan 173 = .ok (.iadd, 1) := by decide +kernel
theorem dX5_plan_174 : decode cX5_plan 174 = .ok (.iload 5, 2) := by decide +kernel
theorem dX5_plan_176 : decode cX5_plan 176 = .ok (.invokevirtual 186, 3) := by decide +kernel
theorem dX5_plan_179 : decode cX5_plan 179 = .ok (.invokevirtual 127, 3) := by decide +kernel
theorem dX5_plan_182 : decode cX5_plan 182 = .ok (.ireturn, 1) := by decide +kernel
set_option maxRecDepth 20000 in
theorem ggX5_bestOf_X5_bits : GoodIn wsX5_bestOf wsX5_bits := goodIn_r _ [6] (by decide +kernel) (by decide +kernel)
set_option maxRecDepth 20000 in
theorem gX5_bestOf_X5_bits : GoodIn wsX5_bestOf (va_wsS RX5 171 yX5_bits wsX5_bits) := goodIn_app (goodIn_of _ (by decide +kernel)) ggX5_bestOf_X5_bits
set_option maxRecDepth 20000 in
theorem ggX5_bestOf_X5_fineOf : GoodIn wsX5_bestOf wsX5_fineOf := goodIn_r _ [10, 11, 12, 13, 14, 5, 15, 16, 17, 18, 19, 1, 20, 21, 22, 23, 24, 25, 26, 27, 28, 29, 30, 31, 32, 33, 34, 35, 3, 4, 6, 36, 37, 38, 39, 40, 41, 42, 43, 44, 45, 46, 47, 48, 49, 50, 51, 52, 53, 54, 55, 56, 57, 58, 59, 60, 61, 62, 63, 64] (by decide +kernel) (by decide +kernel)
set_option maxRecDepth 20000 in
theorem gX5_bestOf_X5_fineOf : GoodIn wsX5_bestOf (wsV RX5 177 RX5 yX5_fineOf wsX5_fineOf) := goodIn_app (goodIn_of _ (by decide +kernel)) ggX5_bestOf_X5_fineOf
theorem dX5_bestOf_0 : decode cX5_bestOf 0 = .ok (.bipush (-9), 2) := by decide +kernel
theorem dX5_bestOf_2 : decode cX5_bestOf 2 = .ok (.istore_n 2, 1) := by decide +kernel
theorem dX5_bestOf_3 : decode cX5_bestOf 3 = .ok (.iconst 0, 1) := by decide +kernel
theorem dX5_bestOf_4 : decode cX5_bestOf 4 = .ok (.istore_n 3, 1) := by decide +kernel
theorem dX5_bestOf_5 : decode cX5_bestOf 5 = .ok (.iload_n 3, 1) := by decide +kernel
theorem dX5_bestOf_6 : decode cX5_bestOf 6 = .ok (.iconst 1, 1) := by decide +kernel
theorem dX5_bestOf_7 : decode cX5_bestOf 7 = .ok (.aload_n 0, 1) := by decide +kernel
theorem dX5_bestOf_8 : decode cX5_bestOf 8 = .ok (.getfield 78, 3) := by decide +kernel
theorem dX5_bestOf_11 : decode cX5_bestOf 11 = .ok (.ishl, 1) := by decide +kernel
theorem dX5_bestOf_12 : decode cX5_bestOf 12 = .ok (.if_icmp .ge 87, 3) := by decide +kernel
theorem dX5_bestOf_15 : decode cX5_bestOf 15 = .ok (.iload_n 3, 1) := by decide +kernel
theorem dX5_bestOf_16 : decode cX5_bestOf 16 = .ok (.invokestatic 171, 3) := by decide +kernel
theorem dX5_bestOf_19 : decode cX5_bestOf 19 = .ok (.aload_n 0, 1) := by decide +kernel
theorem dX5_bestOf_20 : decode cX5_bestOf 20 = .ok (.getfield 22, 3) := by decide +kernel
theorem dX5_bestOf_23 : decode cX5_bestOf 23 = .ok (.iload_n 1, 1) := by decide +kernel
theorem dX5_bestOf_24 : decode cX5_bestOf 24 = .ok (.iaload, 1) := by decide +kernel
theorem dX5_bestOf_25 : decode cX5_bestOf 25 = .ok (.if_icmp .lt 7, 3) := by decide +kernel
theorem dX5_bestOf_28 : decode cX5_bestOf 28 = .ok (.iconst 1, 1) := by decide +kernel
theorem dX5_bestOf_29 : decode cX5_bestOf 29 = .ok (.goto 4, 3) := by decide +kernel
theorem dX5_bestOf_32 : decode cX5_bestOf 32 = .ok (.iconst 0, 1) := by decide +kernel
theorem dX5_bestOf_33 : decode cX5_bestOf 33 = .ok (.istore 4, 2) := by decide +kernel
theorem dX5_bestOf_35 : decode cX5_bestOf 35 = .ok (.iload 4, 2) := by decide +kernel
theorem dX5_bestOf_37 : decode cX5_bestOf 37 = .ok (.ifCond .eq 9, 3) := by decide +kernel
theorem dX5_bestOf_40 : decode cX5_bestOf 40 = .ok (.iload_n 2, 1) := by decide +kernel
theorem dX5_bestOf_41 : decode cX5_bestOf 41 = .ok (.ifCond .ge 5, 3) := by decide +kernel
theorem dX5_bestOf_44 : decode cX5_bestOf 44 = .ok (.iload_n 3, 1) := by decide +kernel
theorem dX5_bestOf_45 : decode cX5_bestOf 45 = .ok (.istore_n 2, 1) := by decide +kernel
theorem dX5_bestOf_46 : decode cX5_bestOf 46 = .ok (.iload 4, 2) := by decide +kernel
theorem dX5_bestOf_48 : decode cX5_bestOf 48 = .ok (.ifCond .eq 45, 3) := by decide +kernel
theorem dX5_bestOf_51 : decode cX5_bestOf 51 = .ok (.aload_n 0, 1) := by decide +kernel
theorem dX5_bestOf_52 : decode cX5_bestOf 52 = .ok (.iload_n 1, 1) := by decide +kernel
theorem dX5_bestOf_53 : decode cX5_bestOf 53 = .ok (.iload_n 2, 1) := by decide +kernel
theorem dX5_bestOf_54 : decode cX5_bestOf 54 = .ok (.invokevirtual 177, 3) := by decide +kernel
theorem dX5_bestOf_57 : decode cX5_bestOf 57 = .ok (.aload_n 0, 1) := by decide +kernel
theorem dX5_bestOf_58 : decode cX5_bestOf 58 = .ok (.iload_n 1, 1) := by decide +kernel
theorem dX5_bestOf_59 : decode cX5_bestOf 59 = .ok (.iload_n 3, 1) := by decide +kernel
theorem dX5_bestOf_60 : decode cX5_bestOf 60 = .ok (.invokevirtual 177, 3) := by decide +kernel
theorem dX5_bestOf_63 : decode cX5_bestOf 63 = .ok (.isub, 1) := by decide +kernel
theorem dX5_bestOf_64 : decode cX5_bestOf 64 = .ok (.istore 5, 2) := by decide +kernel
theorem dX5_bestOf_66 : decode cX5_bestOf 66 = .ok (.iload 5, 2) := by decide +kernel
theorem dX5_bestOf_68 : decode cX5_bestOf 68 = .ok (.ifCond .gt 19, 3) := by decide +kernel
theorem dX5_bestOf_71 : decode cX5_bestOf 71 = .ok (.iload 5, 2) := by decide +kernel
theorem dX5_bestOf_73 : decode cX5_bestOf 73 = .ok (.ifCond .ne 18, 3) := by decide +kernel
theorem dX5_bestOf_76 : decode cX5_bestOf 76 = .ok (.iload_n 3, 1) := by decide +kernel
theorem dX5_bestOf_77 : decode cX5_bestOf 77 = .ok (.invokestatic 171, 3) := by decide +kernel
theorem dX5_bestOf_80 : decode cX5_bestOf 80 = .ok (.iload_n 2, 1) := by decide +kernel
theorem dX5_bestOf_81 : decode cX5_bestOf 81 = .ok (.invokestatic 171, 3) := by decide +kernel
theorem dX5_bestOf_84 : decode cX5_bestOf 84 = .ok (.if_icmp .ge 7, 3) := by decide +kernel
theorem dX5_bestOf_87 : decode cX5_bestOf 87 = .ok (.iload_n 3, 1) := by decide +kernel
theorem dX5_bestOf_88 : decode cX5_bestOf 88 = .ok (.goto 4, 3) := by decide +kernel
theorem dX5_bestOf_91 : decode cX5_bestOf 91 = .ok (.iload_n 2, 1) := by decide +kernel
theorem dX5_bestOf_92 : decode cX5_bestOf 92 = .ok (.istore_n 2, 1) := by decide +kernel
theorem dX5_bestOf_93 : decode cX5_bestOf 93 = .ok (.iinc 3 1, 3) := by decide +kernel
theorem dX5_bestOf_96 : decode cX5_bestOf 96 = .ok (.goto (-91), 3) := by decide +kernel
theorem dX5_bestOf_99 : decode cX5_bestOf 99 = .ok (.iload_n 2, 1) := by decide +kernel
theorem dX5_bestOf_100 : decode cX5_bestOf 100 = .ok (.ireturn, 1) := by decide +kernel
set_option maxRecDepth 20000 in
theorem ggX5_best_X5_noEater : GoodIn wsX5_best wsX5_noEater := goodIn_r _ [5, 6, 7, 8, 4, 9, 48, 49, 50, 51, 52, 53, 54, 55, 56, 57, 58, 59, 60, 61, 62, 63, 64, 65, 66, 67, 68, 69, 70, 71, 72, 73, 74, 75, 76] (by decide +kernel) (by decide +kernel)
set_option maxRecDepth 20000 in
theorem gX5_best_X5_noEater : GoodIn wsX5_best (wsV RX5 145 RX5 yX5_noEater wsX5_noEater) := goodIn_app (goodIn_of _ (by decide +kernel)) ggX5_best_X5_noEater
set_option maxRecDepth 20000 in
theorem ggX5_best_X5_in : GoodIn wsX5_best wsX5_in := goodIn_r _ [9] (by decide +kernel) (by decide +kernel)
set_option maxRecDepth 20000 in
theorem gX5_best_X5_in : GoodIn wsX5_best (va_wsS RX5 81 yX5_in wsX5_in) := goodIn_app (goodIn_of _ (by decide +kernel)) ggX5_best_X5_in
set_option maxRecDepth 20000 in
theorem ggX5_best_X5_bestOf : GoodIn wsX5_best wsX5_bestOf := goodIn_r _ [13, 14, 15, 16, 17, 4, 18, 19, 20, 21, 22, 23, 24, 25, 26, 27, 28, 29, 30, 31, 32, 33, 34, 35, 36, 37, 38, 39, 40, 41, 42, 43, 44, 45, 46, 47, 48, 49, 50, 51, 52, 53, 54, 55, 56, 57, 58, 59, 60, 61, 62, 63, 64, 65, 66, 67, 68, 69, 70, 71, 72, 73, 74, 75, 76] (by decide +kernel) (by decide +kernel)
set_option maxRecDepth 20000 in
theorem gX5_best_X5_bestOf : GoodIn wsX5_best (wsV RX5 189 RX5 yX5_bestOf wsX5_bestOf) := goodIn_app (goodIn_of _ (by decide +kernel)) ggX5_best_X5_bestOf
set_option maxRecDepth 20000 in
theorem ggX5_best_X5_fineOf : GoodIn wsX5_best wsX5_fineOf := goodIn_r _ [22, 23, 24, 25, 26, 4, 27, 28, 29, 30, 31, 14, 32, 33, 34, 35, 36, 37, 38, 39, 40, 41, 42, 43, 44, 45, 46, 47, 16, 17, 18, 48, 49, 50, 51, 52, 53, 54, 55, 56, 57, 58, 59, 60, 61, 62, 63, 64, 65, 66, 67, 68, 69, 70, 71, 72, 73, 74, 75, 76] (by decide +kernel) (by decide +kernel)
set_option maxRecDepth 20000 in
theorem gX5_best_X5_fineOf : GoodIn wsX5_best (wsV RX5 177 RX5 yX5_fineOf wsX5_fineOf) := goodIn_app (goodIn_of _ (by decide +kernel)) ggX5_best_X5_fineOf
theorem dX5_best_0 : decode cX5_best 0 = .ok (.aload_n 0, 1) := by decide +kernel
theorem dX5_best_1 : decode cX5_best 1 = .ok (.iload_n 1, 1) := by decide +kernel
theorem dX5_best_2 : decode cX5_best 2 = .ok (.invokevirtual 145, 3) := by decide +kernel
theorem dX5_best_5 : decode cX5_best 5 = .ok (.ifCond .eq 5, 3) := by decide +kernel
theorem dX5_best_8 : decode cX5_best 8 = .ok (.iconst (-1), 1) := by decide +kernel
theorem dX5_best_9 : decode cX5_best 9 = .ok (.ireturn, 1) := by decide +kernel
theorem dX5_best_10 : decode cX5_best 10 = .ok (.iload_n 2, 1) := by decide +kernel
theorem dX5_best_11 : decode cX5_best 11 = .ok (.i2l, 1) := by decide +kernel
theorem dX5_best_12 : decode cX5_best 12 = .ok (.lconst 0, 1) := by decide +kernel
theorem dX5_best_13 : decode cX5_best 13 = .ok (.lconst 1, 1) := by decide +kernel
theorem dX5_best_14 : decode cX5_best 14 = .ok (.invokestatic 81, 3) := by decide +kernel
theorem dX5_best_17 : decode cX5_best 17 = .ok (.ifCond .ne 6, 3) := by decide +kernel
theorem dX5_best_20 : decode cX5_best 20 = .ok (.bipush (-2), 2) := by decide +kernel
theorem dX5_best_22 : decode cX5_best 22 = .ok (.ireturn, 1) := by decide +kernel
theorem dX5_best_23 : decode cX5_best 23 = .ok (.aload_n 0, 1) := by decide +kernel
theorem dX5_best_24 : decode cX5_best 24 = .ok (.iload_n 1, 1) := by decide +kernel
theorem dX5_best_25 : decode cX5_best 25 = .ok (.invokevirtual 189, 3) := by decide +kernel
theorem dX5_best_28 : decode cX5_best 28 = .ok (.istore_n 3, 1) := by decide +kernel
theorem dX5_best_29 : decode cX5_best 29 = .ok (.iload_n 3, 1) := by decide +kernel
theorem dX5_best_30 : decode cX5_best 30 = .ok (.ifCond .ge 8, 3) := by decide +kernel
theorem dX5_best_33 : decode cX5_best 33 = .ok (.bipush (-9), 2) := by decide +kernel
theorem dX5_best_35 : decode cX5_best 35 = .ok (.goto 17, 3) := by decide +kernel
theorem dX5_best_38 : decode cX5_best 38 = .ok (.iload_n 2, 1) := by decide +kernel
theorem dX5_best_39 : decode cX5_best 39 = .ok (.ifCond .ne 7, 3) := by decide +kernel
theorem dX5_best_42 : decode cX5_best 42 = .ok (.iload_n 3, 1) := by decide +kernel
theorem dX5_best_43 : decode cX5_best 43 = .ok (.goto 9, 3) := by decide +kernel
theorem dX5_best_46 : decode cX5_best 46 = .ok (.aload_n 0, 1) := by decide +kernel
theorem dX5_best_47 : decode cX5_best 47 = .ok (.iload_n 1, 1) := by decide +kernel
theorem dX5_best_48 : decode cX5_best 48 = .ok (.iload_n 3, 1) := by decide +kernel
theorem dX5_best_49 : decode cX5_best 49 = .ok (.invokevirtual 177, 3) := by decide +kernel
theorem dX5_best_52 : decode cX5_best 52 = .ok (.ireturn, 1) := by decide +kernel
set_option maxRecDepth 20000 in
theorem ggX5_villageNow_X5_bestOf : GoodIn wsX5_villageNow wsX5_bestOf := goodIn_r _ [6, 7, 8, 9, 10, 5, 11, 12, 13, 14, 15, 16, 17, 18, 19, 20, 21, 22, 23, 24, 25, 26, 27, 28, 29, 30, 31, 32, 33, 34, 35, 36, 37, 38, 39, 40, 41, 42, 43, 44, 45, 46, 47, 48, 49, 50, 51, 52, 53, 54, 55, 56, 57, 58, 59, 60, 61, 62, 63, 64, 65, 66, 67, 68, 69] (by decide +kernel) (by decide +kernel)
set_option maxRecDepth 20000 in
theorem gX5_villageNow_X5_bestOf : GoodIn wsX5_villageNow (wsV RX5 189 RX5 yX5_bestOf wsX5_bestOf) := goodIn_app (goodIn_of _ (by decide +kernel)) ggX5_villageNow_X5_bestOf
set_option maxRecDepth 20000 in
theorem ggX5_villageNow_X5_fineOf : GoodIn wsX5_villageNow wsX5_fineOf := goodIn_r _ [15, 16, 17, 18, 19, 5, 20, 21, 22, 23, 24, 7, 25, 26, 27, 28, 29, 30, 31, 32, 33, 34, 35, 36, 37, 38, 39, 40, 9, 10, 11, 41, 42, 43, 44, 45, 46, 47, 48, 49, 50, 51, 52, 53, 54, 55, 56, 57, 58, 59, 60, 61, 62, 63, 64, 65, 66, 67, 68, 69] (by decide +kernel) (by decide +kernel)
set_option maxRecDepth 20000 in
theorem gX5_villageNow_X5_fineOf : GoodIn wsX5_villageNow (wsV RX5 177 RX5 yX5_fineOf wsX5_fineOf) := goodIn_app (goodIn_of _ (by decide +kernel)) ggX5_villageNow_X5_fineOf
theorem dX5_villageNow_0 : decode cX5_villageNow 0 = .ok (.iconst 0, 1) := by decide +kernel
theorem dX5_villageNow_1 : decode cX5_villageNow 1 = .ok (.istore_n 1, 1) := by decide +kernel
theorem dX5_villageNow_2 : decode cX5_villageNow 2 = .ok (.iconst 1, 1) := by decide +kernel
theorem dX5_villageNow_3 : decode cX5_villageNow 3 = .ok (.istore_n 2, 1) := by decide +kernel
theorem dX5_villageNow_4 : decode cX5_villageNow 4 = .ok (.iconst 0, 1) := by decide +kernel
theorem dX5_villageNow_5 : decode cX5_villageNow 5 = .ok (.istore_n 3, 1) := by decide +kernel
theorem dX5_villageNow_6 : decode cX5_villageNow 6 = .ok (.iload_n 3, 1) := by decide +kernel
theorem dX5_villageNow_7 : decode cX5_villageNow 7 = .ok (.aload_n 0, 1) := by decide +kernel
theorem dX5_villageNow_8 : decode cX5_villageNow 8 = .ok (.getfield 85, 3) := by decide +kernel
theorem dX5_villageNow_11 : decode cX5_villageNow 11 = .ok (.if_icmp .ge 49, 3) := by decide +kernel
theorem dX5_villageNow_14 : decode cX5_villageNow 14 = .ok (.iload_n 2, 1) := by decide +kernel
theorem dX5_villageNow_15 : decode cX5_villageNow 15 = .ok (.ifCond .eq 45, 3) := by decide +kernel
theorem dX5_villageNow_18 : decode cX5_villageNow 18 = .ok (.aload_n 0, 1) := by decide +kernel
theorem dX5_villageNow_19 : decode cX5_villageNow 19 = .ok (.iload_n 3, 1) := by decide +kernel
theorem dX5_villageNow_20 : decode cX5_villageNow 20 = .ok (.invokevirtual 189, 3) := by decide +kernel
theorem dX5_villageNow_23 : decode cX5_villageNow 23 = .ok (.istore 4, 2) := by decide +kernel
theorem dX5_villageNow_25 : decode cX5_villageNow 25 = .ok (.iload 4, 2) := by decide +kernel
theorem dX5_villageNow_27 : decode cX5_villageNow 27 = .ok (.ifCond .lt 7, 3) := by decide +kernel
theorem dX5_villageNow_30 : decode cX5_villageNow 30 = .ok (.iconst 1, 1) := by decide +kernel
theorem dX5_villageNow_31 : decode cX5_villageNow 31 = .ok (.goto 4, 3) := by decide +kernel
theorem dX5_villageNow_34 : decode cX5_villageNow 34 = .ok (.iconst 0, 1) := by decide +kernel
theorem dX5_villageNow_35 : decode cX5_villageNow 35 = .ok (.istore_n 2, 1) := by decide +kernel
theorem dX5_villageNow_36 : decode cX5_villageNow 36 = .ok (.iload_n 1, 1) := by decide +kernel
theorem dX5_villageNow_37 : decode cX5_villageNow 37 = .ok (.iload_n 2, 1) := by decide +kernel
theorem dX5_villageNow_38 : decode cX5_villageNow 38 = .ok (.ifCond .eq 13, 3) := by decide +kernel
theorem dX5_villageNow_41 : decode cX5_villageNow 41 = .ok (.aload_n 0, 1) := by decide +kernel
theorem dX5_villageNow_42 : decode cX5_villageNow 42 = .ok (.iload_n 3, 1) := by decide +kernel
theorem dX5_villageNow_43 : decode cX5_villageNow 43 = .ok (.iload 4, 2) := by decide +kernel
theorem dX5_villageNow_45 : decode cX5_villageNow 45 = .ok (.invokevirtual 177, 3) := by decide +kernel
theorem dX5_villageNow_48 : decode cX5_villageNow 48 = .ok (.goto 4, 3) := by decide +kernel
theorem dX5_villageNow_51 : decode cX5_villageNow 51 = .ok (.iconst 0, 1) := by decide +kernel
theorem dX5_villageNow_52 : decode cX5_villageNow 52 = .ok (.iadd, 1) := by decide +kernel
theorem dX5_villageNow_53 : decode cX5_villageNow 53 = .ok (.istore_n 1, 1) := by decide +kernel
theorem dX5_villageNow_54 : decode cX5_villageNow 54 = .ok (.iinc 3 1, 3) := by decide +kernel
theorem dX5_villageNow_57 : decode cX5_villageNow 57 = .ok (.goto (-51), 3) := by decide +kernel
theorem dX5_villageNow_60 : decode cX5_villageNow 60 = .ok (.iload_n 2, 1) := by decide +kernel
theorem dX5_villageNow_61 : decode cX5_villageNow 61 = .ok (.ifCond .eq 7, 3) := by decide +kernel
theorem dX5_villageNow_64 : decode cX5_villageNow 64 = .ok (.iload_n 1, 1) := by decide +kernel
theorem dX5_villageNow_65 : decode cX5_villageNow 65 = .ok (.goto 5, 3) := by decide +kernel
theorem dX5_villageNow_68 : decode cX5_villageNow 68 = .ok (.bipush (-9), 2) := by decide +kernel
theorem dX5_villageNow_70 : decode cX5_villageNow 70 = .ok (.ireturn, 1) := by decide +kernel
set_option maxRecDepth 20000 in
theorem ggX5_village_X5_villageNow : GoodIn wsX5_village wsX5_villageNow := goodIn_r _ [6, 1, 7, 8, 9, 5, 10, 11, 12, 13, 14, 15, 16, 17, 18, 19, 20, 21, 22, 23, 24, 25, 26, 27, 28, 29, 30, 31, 32, 33, 34, 35, 36, 37, 38, 39, 40, 41, 42, 43, 44, 45, 46, 47, 48, 49, 50, 51, 52, 53, 54, 55, 56, 57, 58, 59, 60, 61, 62, 63, 64, 65, 66, 67, 68, 69, 70, 71, 72, 73] (by decide +kernel) (by decide +kernel)
set_option maxRecDepth 20000 in
theorem gX5_village_X5_villageNow : GoodIn wsX5_village (wsV RX5 192 RX5 yX5_villageNow wsX5_villageNow) := goodIn_app (goodIn_of _ (by decide +kernel)) ggX5_village_X5_villageNow
theorem dX5_village_0 : decode cX5_village 0 = .ok (.aload_n 0, 1) := by decide +kernel
theorem dX5_village_1 : decode cX5_village 1 = .ok (.getfield 85, 3) := by decide +kernel
theorem dX5_village_4 : decode cX5_village 4 = .ok (.ifCond .ne 8, 3) := by decide +kernel
theorem dX5_village_7 : decode cX5_village 7 = .ok (.bipush (-3), 2) := by decide +kernel
theorem dX5_village_9 : decode cX5_village 9 = .ok (.goto 7, 3) := by decide +kernel
theorem dX5_village_12 : decode cX5_village 12 = .ok (.aload_n 0, 1) := by decide +kernel
theorem dX5_village_13 : decode cX5_village 13 = .ok (.invokevirtual 192, 3) := by decide +kernel
theorem dX5_village_16 : decode cX5_village 16 = .ok (.ireturn, 1) := by decide +kernel
set_option maxRecDepth 20000 in
theorem ggX5_smile_X5_in : GoodIn wsX5_smile wsX5_in := goodIn_r _ [7] (by decide +kernel) (by decide +kernel)
set_option maxRecDepth 20000 in
theorem gX5_smile_X5_in : GoodIn wsX5_smile (va_wsS RX5 81 yX5_in wsX5_in) := goodIn_app (goodIn_of _ (by decide +kernel)) ggX5_smile_X5_in
set_option maxRecDepth 20000 in
theorem ggX5_smile_X5_fastsNow : GoodIn wsX5_smile wsX5_fastsNow := goodIn_r _ [11, 2, 12, 13, 3, 48, 49, 50, 51, 52, 53, 54, 55, 56, 57, 58, 59, 60, 61, 62, 63, 64, 65, 66, 67, 68, 69, 70, 71, 72, 73, 74, 75, 76] (by decide +kernel) (by decide +kernel)
set_option maxRecDepth 20000 in
theorem gX5_smile_X5_fastsNow : GoodIn wsX5_smile (wsV RX5 164 RX5 yX5_fastsNow wsX5_fastsNow) := goodIn_app (goodIn_of _ (by decide +kernel)) ggX5_smile_X5_fastsNow
set_option maxRecDepth 20000 in
theorem ggX5_smile_X5_isIn : GoodIn wsX5_smile wsX5_isIn := goodIn_r _ [16] (by decide +kernel) (by decide +kernel)
set_option maxRecDepth 20000 in
theorem gX5_smile_X5_isIn : GoodIn wsX5_smile (va_wsS RX5 158 yX5_isIn wsX5_isIn) := goodIn_app (goodIn_of _ (by decide +kernel)) ggX5_smile_X5_isIn
set_option maxRecDepth 20000 in
theorem ggX5_smile_X5_villageNow : GoodIn wsX5_smile wsX5_villageNow := goodIn_r _ [20, 1, 21, 22, 23, 6, 24, 2, 25, 26, 27, 28, 29, 30, 31, 32, 33, 34, 35, 36, 37, 38, 39, 40, 41, 42, 43, 44, 45, 46, 47, 14, 15, 16, 8, 9, 10, 11, 12, 13, 3, 48, 49, 50, 51, 52, 53, 54, 55, 56, 57, 58, 59, 60, 61, 62, 63, 64, 65, 66, 67, 68, 69, 70, 71, 72, 73, 74, 75, 76] (by decide +kernel) (by decide +kernel)
set_option maxRecDepth 20000 in
theorem gX5_smile_X5_villageNow : GoodIn wsX5_smile (wsV RX5 192 RX5 yX5_villageNow wsX5_villageNow) := goodIn_app (goodIn_of _ (by decide +kernel)) ggX5_smile_X5_villageNow
theorem dX5_smile_0 : decode cX5_smile 0 = .ok (.iload_n 1, 1) := by decide +kernel
theorem dX5_smile_1 : decode cX5_smile 1 = .ok (.i2l, 1) := by decide +kernel
theorem dX5_smile_2 : decode cX5_smile 2 = .ok (.lconst 0, 1) := by decide +kernel
theorem dX5_smile_3 : decode cX5_smile 3 = .ok (.lconst 1, 1) := by decide +kernel
theorem dX5_smile_4 : decode cX5_smile 4 = .ok (.invokestatic 81, 3) := by decide +kernel
theorem dX5_smile_7 : decode cX5_smile 7 = .ok (.ifCond .ne 6, 3) := by decide +kernel
theorem dX5_smile_10 : decode cX5_smile 10 = .ok (.bipush (-2), 2) := by decide +kernel
theorem dX5_smile_12 : decode cX5_smile 12 = .ok (.ireturn, 1) := by decide +kernel
theorem dX5_smile_13 : decode cX5_smile 13 = .ok (.aload_n 0, 1) := by decide +kernel
theorem dX5_smile_14 : decode cX5_smile 14 = .ok (.getfield 85, 3) := by decide +kernel
theorem dX5_smile_17 : decode cX5_smile 17 = .ok (.ifCond .ne 6, 3) := by decide +kernel
theorem dX5_smile_20 : decode cX5_smile 20 = .ok (.bipush (-3), 2) := by decide +kernel
theorem dX5_smile_22 : decode cX5_smile 22 = .ok (.ireturn, 1) := by decide +kernel
theorem dX5_smile_23 : decode cX5_smile 23 = .ok (.aload_n 0, 1) := by decide +kernel
theorem dX5_smile_24 : decode cX5_smile 24 = .ok (.invokevirtual 164, 3) := by decide +kernel
theorem dX5_smile_27 : decode cX5_smile 27 = .ok (.istore_n 2, 1) := by decide +kernel
theorem dX5_smile_28 : decode cX5_smile 28 = .ok (.bipush (-9), 2) := by decide +kernel
theorem dX5_smile_30 : decode cX5_smile 30 = .ok (.istore_n 3, 1) := by decide +kernel
theorem dX5_smile_31 : decode cX5_smile 31 = .ok (.bipush (-9), 2) := by decide +kernel
theorem dX5_smile_33 : decode cX5_smile 33 = .ok (.istore 4, 2) := by decide +kernel
theorem dX5_smile_35 : decode cX5_smile 35 = .ok (.iconst 0, 1) := by decide +kernel
theorem dX5_smile_36 : decode cX5_smile 36 = .ok (.istore 5, 2) := by decide +kernel
theorem dX5_smile_38 : decode cX5_smile 38 = .ok (.iload 5, 2) := by decide +kernel
theorem dX5_smile_40 : decode cX5_smile 40 = .ok (.aload_n 0, 1) := by decide +kernel
theorem dX5_smile_41 : decode cX5_smile 41 = .ok (.getfield 78, 3) := by decide +kernel
theorem dX5_smile_44 : decode cX5_smile 44 = .ok (.if_icmp .ge 79, 3) := by decide +kernel
theorem dX5_smile_47 : decode cX5_smile 47 = .ok (.iload_n 2, 1) := by decide +kernel
theorem dX5_smile_48 : decode cX5_smile 48 = .ok (.iload 5, 2) := by decide +kernel
theorem dX5_smile_50 : decode cX5_smile 50 = .ok (.invokestatic 158, 3) := by decide +kernel
theorem dX5_smile_53 : decode cX5_smile 53 = .ok (.ifCond .eq 64, 3) := by decide +kernel
theorem dX5_smile_56 : decode cX5_smile 56 = .ok (.aload_n 0, 1) := by decide +kernel
theorem dX5_smile_57 : decode cX5_smile 57 = .ok (.iload 5, 2) := by decide +kernel
theorem dX5_smile_59 : decode cX5_smile 59 = .ok (.putfield 25, 3) := by decide +kernel
theorem dX5_smile_62 : decode cX5_smile 62 = .ok (.aload_n 0, 1) := by decide +kernel
theorem dX5_smile_63 : decode cX5_smile 63 = .ok (.invokevirtual 192, 3) := by decide +kernel
theorem dX5_smile_66 : decode cX5_smile 66 = .ok (.istore 6, 2) := by decide +kernel
theorem dX5_smile_68 : decode cX5_smile 68 = .ok (.iload 6, 2) := by decide +kernel
theorem dX5_smile_70 : decode cX5_smile 70 = .ok (.ifCond .lt 18, 3) := by decide +kernel
theorem dX5_smile_73 : decode cX5_smile 73 = .ok (.iload_n 3, 1) := by decide +kernel
theorem dX5_smile_74 : decode cX5_smile 74 = .ok (.ifCond .lt 10, 3) := by decide +kernel
theorem dX5_smile_77 : decode cX5_smile 77 = .ok (.iload 6, 2) := by decide +kernel
theorem dX5_smile_79 : decode cX5_smile 79 = .ok (.iload 4, 2) := by decide +kernel
theorem dX5_smile_81 : decode cX5_smile 81 = .ok (.if_icmp .ge 7, 3) := by decide +kernel
theorem dX5_smile_84 : decode cX5_smile 84 = .ok (.iconst 1, 1) := by decide +kernel
theorem dX5_smile_85 : decode cX5_smile 85 = .ok (.goto 4, 3) := by decide +kernel
theorem dX5_smile_88 : decode cX5_smile 88 = .ok (.iconst 0, 1) := by decide +kernel
theorem dX5_smile_89 : decode cX5_smile 89 = .ok (.istore 7, 2) := by decide +kernel
theorem dX5_smile_91 : decode cX5_smile 91 = .ok (.iload 7, 2) := by decide +kernel
theorem dX5_smile_93 : decode cX5_smile 93 = .ok (.ifCond .eq 8, 3) := by decide +kernel
theorem dX5_smile_96 : decode cX5_smile 96 = .ok (.iload 5, 2) := by decide +kernel
theorem dX5_smile_98 : decode cX5_smile 98 = .ok (.goto 4, 3) := by decide +kernel
theorem dX5_smile_101 : decode cX5_smile 101 = .ok (.iload_n 3, 1) := by decide +kernel
theorem dX5_smile_102 : decode cX5_smile 102 = .ok (.istore_n 3, 1) := by decide +kernel
theorem dX5_smile_103 : decode cX5_smile 103 = .ok (.iload 7, 2) := by decide +kernel
theorem dX5_smile_105 : decode cX5_smile 105 = .ok (.ifCond .eq 8, 3) := by decide +kernel
theorem dX5_smile_108 : decode cX5_smile 108 = .ok (.iload 6, 2) := by decide +kernel
theorem dX5_smile_110 : decode cX5_smile 110 = .ok (.goto 5, 3) := by decide +kernel
theorem dX5_smile_113 : decode cX5_smile 113 = .ok (.iload 4, 2) := by decide +kernel
theorem dX5_smile_115 : decode cX5_smile 115 = .ok (.istore 4, 2) := by decide +kernel
theorem dX5_smile_117 : decode cX5_smile 117 = .ok (.iinc 5 1, 3) := by decide +kernel
theorem dX5_smile_120 : decode cX5_smile 120 = .ok (.goto (-82), 3) := by decide +kernel
theorem dX5_smile_123 : decode cX5_smile 123 = .ok (.aload_n 0, 1) := by decide +kernel
theorem dX5_smile_124 : decode cX5_smile 124 = .ok (.bipush (-9), 2) := by decide +kernel
theorem dX5_smile_126 : decode cX5_smile 126 = .ok (.putfield 25, 3) := by decide +kernel
theorem dX5_smile_129 : decode cX5_smile 129 = .ok (.iload_n 1, 1) := by decide +kernel
theorem dX5_smile_130 : decode cX5_smile 130 = .ok (.ifCond .ne 7, 3) := by decide +kernel
theorem dX5_smile_133 : decode cX5_smile 133 = .ok (.iload_n 3, 1) := by decide +kernel
theorem dX5_smile_134 : decode cX5_smile 134 = .ok (.goto 5, 3) := by decide +kernel
theorem dX5_smile_137 : decode cX5_smile 137 = .ok (.iload 4, 2) := by decide +kernel
theorem dX5_smile_139 : decode cX5_smile 139 = .ok (.ireturn, 1) := by decide +kernel
set_option maxRecDepth 20000 in
theorem ggX5_reading_X5_noEater : GoodIn wsX5_reading wsX5_noEater := goodIn_r _ [10, 11, 12, 13, 9, 14, 24, 25, 26, 27, 28, 29, 30, 31, 32, 33, 34, 35, 36, 37, 38, 39, 40, 41, 42, 43, 44, 45, 46, 47, 48, 49, 50, 51, 52] (by decide +kernel) (by decide +kernel)
set_option maxRecDepth 20000 in
theorem gX5_reading_X5_noEater : GoodIn wsX5_reading (wsV RX5 145 RX5 yX5_noEater wsX5_noEater) := goodIn_app (goodIn_of _ (by decide +kernel)) ggX5_reading_X5_noEater
set_option maxRecDepth 20000 in
theorem ggX5_reading_X5_noSet : GoodIn wsX5_reading wsX5_noSet := goodIn_r _ [18, 19, 12, 13, 9, 14, 24, 25, 26, 27, 28, 29, 30, 31, 32, 33, 34, 35, 36, 37, 38, 39, 40, 41, 42, 43, 44, 45, 46, 47, 48, 49, 50, 51, 52] (by decide +kernel) (by decide +kernel)
set_option maxRecDepth 20000 in
theorem gX5_reading_X5_noSet : GoodIn wsX5_reading (wsV RX5 174 RX5 yX5_noSet wsX5_noSet) := goodIn_app (goodIn_of _ (by decide +kernel)) ggX5_reading_X5_noSet
set_option maxRecDepth 20000 in
theorem ggX5_reading_X5_noDay : GoodIn wsX5_reading wsX5_noDay := goodIn_r _ [23, 19, 12, 13, 9, 14, 24, 25, 26, 27, 28, 29, 30, 31, 32, 33, 34, 35, 36, 37, 38, 39, 40, 41, 42, 43, 44, 45, 46, 47, 48, 49, 50, 51, 52] (by decide +kernel) (by decide +kernel)
set_option maxRecDepth 20000 in
theorem gX5_reading_X5_noDay : GoodIn wsX5_reading (wsV RX5 151 RX5 yX5_noDay wsX5_noDay) := goodIn_app (goodIn_of _ (by decide +kernel)) ggX5_reading_X5_noDay
theorem dX5_reading_0 : decode cX5_reading 0 = .ok (.aload_n 0, 1) := by decide +kernel
theorem dX5_reading_1 : decode cX5_reading 1 = .ok (.iload_n 1, 1) := by decide +kernel
theorem dX5_reading_2 : decode cX5_reading 2 = .ok (.invokevirtual 145, 3) := by decide +kernel
theorem dX5_reading_5 : decode cX5_reading 5 = .ok (.ifCond .eq 5, 3) := by decide +kernel
theorem dX5_reading_8 : decode cX5_reading 8 = .ok (.iconst (-1), 1) := by decide +kernel
theorem dX5_reading_9 : decode cX5_reading 9 = .ok (.ireturn, 1) := by decide +kernel
theorem dX5_reading_10 : decode cX5_reading 10 = .ok (.aload_n 0, 1) := by decide +kernel
theorem dX5_reading_11 : decode cX5_reading 11 = .ok (.iload_n 2, 1) := by decide +kernel
theorem dX5_reading_12 : decode cX5_reading 12 = .ok (.invokevirtual 174, 3) := by decide +kernel
theorem dX5_reading_15 : decode cX5_reading 15 = .ok (.ifCond .eq 6, 3) := by decide +kernel
theorem dX5_reading_18 : decode cX5_reading 18 = .ok (.bipush (-2), 2) := by decide +kernel
theorem dX5_reading_20 : decode cX5_reading 20 = .ok (.ireturn, 1) := by decide +kernel
theorem dX5_reading_21 : decode cX5_reading 21 = .ok (.aload_n 0, 1) := by decide +kernel
theorem dX5_reading_22 : decode cX5_reading 22 = .ok (.iload_n 3, 1) := by decide +kernel
theorem dX5_reading_23 : decode cX5_reading 23 = .ok (.invokevirtual 151, 3) := by decide +kernel
theorem dX5_reading_26 : decode cX5_reading 26 = .ok (.ifCond .eq 5, 3) := by decide +kernel
theorem dX5_reading_29 : decode cX5_reading 29 = .ok (.iconst (-1), 1) := by decide +kernel
theorem dX5_reading_30 : decode cX5_reading 30 = .ok (.ireturn, 1) := by decide +kernel
theorem dX5_reading_31 : decode cX5_reading 31 = .ok (.aload_n 0, 1) := by decide +kernel
theorem dX5_reading_32 : decode cX5_reading 32 = .ok (.getfield 142, 3) := by decide +kernel
theorem dX5_reading_35 : decode cX5_reading 35 = .ok (.bipush 8, 2) := by decide +kernel
theorem dX5_reading_37 : decode cX5_reading 37 = .ok (.if_icmp .ne 6, 3) := by decide +kernel
theorem dX5_reading_40 : decode cX5_reading 40 = .ok (.bipush (-4), 2) := by decide +kernel
theorem dX5_reading_42 : decode cX5_reading 42 = .ok (.ireturn, 1) := by decide +kernel
theorem dX5_reading_43 : decode cX5_reading 43 = .ok (.aload_n 0, 1) := by decide +kernel
theorem dX5_reading_44 : decode cX5_reading 44 = .ok (.getfield 44, 3) := by decide +kernel
theorem dX5_reading_47 : decode cX5_reading 47 = .ok (.aload_n 0, 1) := by decide +kernel
theorem dX5_reading_48 : decode cX5_reading 48 = .ok (.getfield 142, 3) := by decide +kernel
theorem dX5_reading_51 : decode cX5_reading 51 = .ok (.iload_n 1, 1) := by decide +kernel
theorem dX5_reading_52 : decode cX5_reading 52 = .ok (.iastore, 1) := by decide +kernel
theorem dX5_reading_53 : decode cX5_reading 53 = .ok (.aload_n 0, 1) := by decide +kernel
theorem dX5_reading_54 : decode cX5_reading 54 = .ok (.getfield 47, 3) := by decide +kernel
theorem dX5_reading_57 : decode cX5_reading 57 = .ok (.aload_n 0, 1) := by decide +kernel
theorem dX5_reading_58 : decode cX5_reading 58 = .ok (.getfield 142, 3) := by decide +kernel
theorem dX5_reading_61 : decode cX5_reading 61 = .ok (.iload_n 2, 1) := by decide +kernel
theorem dX5_reading_62 : decode cX5_reading 62 = .ok (.iastore, 1) := by decide +kernel
theorem dX5_reading_63 : decode cX5_reading 63 = .ok (.aload_n 0, 1) := by decide +kernel
theorem dX5_reading_64 : decode cX5_reading 64 = .ok (.getfield 50, 3) := by decide +kernel
theorem dX5_reading_67 : decode cX5_reading 67 = .ok (.aload_n 0, 1) := by decide +kernel
theorem dX5_reading_68 : decode cX5_reading 68 = .ok (.getfield 142, 3) := by decide +kernel
theorem dX5_reading_71 : decode cX5_reading 71 = .ok (.iload_n 3, 1) := by decide +kernel
theorem dX5_reading_72 : decode cX5_reading 72 = .ok (.iastore, 1) := by decide +kernel
theorem dX5_reading_73 : decode cX5_reading 73 = .ok (.aload_n 0, 1) := by decide +kernel
theorem dX5_reading_74 : decode cX5_reading 74 = .ok (.getfield 53, 3) := by decide +kernel
theorem dX5_reading_77 : decode cX5_reading 77 = .ok (.aload_n 0, 1) := by decide +kernel
theorem dX5_reading_78 : decode cX5_reading 78 = .ok (.getfield 142, 3) := by decide +kernel
theorem dX5_reading_81 : decode cX5_reading 81 = .ok (.iload 4, 2) := by decide +kernel
theorem dX5_reading_83 : decode cX5_reading 83 = .ok (.bastore, 1) := by decide +kernel
theorem dX5_reading_84 : decode cX5_reading 84 = .ok (.aload_n 0, 1) := by decide +kernel
theorem dX5_reading_85 : decode cX5_reading 85 = .ok (.dup, 1) := by decide +kernel
theorem dX5_reading_86 : decode cX5_reading 86 = .ok (.getfield 142, 3) := by decide +kernel
theorem dX5_reading_89 : decode cX5_reading 89 = .ok (.iconst 1, 1) := by decide +kernel
theorem dX5_reading_90 : decode cX5_reading 90 = .ok (.iadd, 1) := by decide +kernel
theorem dX5_reading_91 : decode cX5_reading 91 = .ok (.putfield 142, 3) := by decide +kernel
theorem dX5_reading_94 : decode cX5_reading 94 = .ok (.aload_n 0, 1) := by decide +kernel
theorem dX5_reading_95 : decode cX5_reading 95 = .ok (.getfield 142, 3) := by decide +kernel
theorem dX5_reading_98 : decode cX5_reading 98 = .ok (.iconst 1, 1) := by decide +kernel
theorem dX5_reading_99 : decode cX5_reading 99 = .ok (.isub, 1) := by decide +kernel
theorem dX5_reading_100 : decode cX5_reading 100 = .ok (.ireturn, 1) := by decide +kernel
set_option maxRecDepth 20000 in
theorem ggX5_back_X5_in : GoodIn wsX5_back wsX5_in := goodIn_r _ [5] (by decide +kernel) (by decide +kernel)
set_option maxRecDepth 20000 in
theorem gX5_back_X5_in : GoodIn wsX5_back (va_wsS RX5 81 yX5_in wsX5_in) := goodIn_app (goodIn_of _ (by decide +kernel)) ggX5_back_X5_in
theorem dX5_back_0 : decode cX5_back 0 = .ok (.iload_n 1, 1) := by decide +kernel
theorem dX5_back_1 : decode cX5_back 1 = .ok (.i2l, 1) := by decide +kernel
theorem dX5_back_2 : decode cX5_back 2 = .ok (.lconst 0, 1) := by decide +kernel
theorem dX5_back_3 : decode cX5_back 3 = .ok (.aload_n 0, 1) := by decide +kernel
theorem dX5_back_4 : decode cX5_back 4 = .ok (.getfield 142, 3) := by decide +kernel
theorem dX5_back_7 : decode cX5_back 7 = .ok (.i2l, 1) := by decide +kernel
theorem dX5_back_8 : decode cX5_back 8 = .ok (.invokestatic 81, 3) := by decide +kernel
theorem dX5_back_11 : decode cX5_back 11 = .ok (.ifCond .ne 6, 3) := by decide +kernel
theorem dX5_back_14 : decode cX5_back 14 = .ok (.bipush (-2), 2) := by decide +kernel
theorem dX5_back_16 : decode cX5_back 16 = .ok (.ireturn, 1) := by decide +kernel
theorem dX5_back_17 : decode cX5_back 17 = .ok (.aload_n 0, 1) := by decide +kernel
theorem dX5_back_18 : decode cX5_back 18 = .ok (.dup, 1) := by decide +kernel
theorem dX5_back_19 : decode cX5_back 19 = .ok (.getfield 142, 3) := by decide +kernel
theorem dX5_back_22 : decode cX5_back 22 = .ok (.iload_n 1, 1) := by decide +kernel
theorem dX5_back_23 : decode cX5_back 23 = .ok (.isub, 1) := by decide +kernel
theorem dX5_back_24 : decode cX5_back 24 = .ok (.putfield 142, 3) := by decide +kernel
theorem dX5_back_27 : decode cX5_back 27 = .ok (.aload_n 0, 1) := by decide +kernel
theorem dX5_back_28 : decode cX5_back 28 = .ok (.getfield 142, 3) := by decide +kernel
theorem dX5_back_31 : decode cX5_back 31 = .ok (.ireturn, 1) := by decide +kernel
set_option maxRecDepth 20000 in
theorem ggX5_areSo_X5_foundBy : GoodIn wsX5_areSo wsX5_foundBy := goodIn_r _ [10, 11, 12, 13, 9, 14, 15, 16, 17, 18, 19, 20, 21, 22, 23, 24, 25, 26, 27, 28, 29, 30, 31, 32, 33, 34, 35, 36, 37, 38, 39, 40, 41, 42, 43, 44, 45, 46, 47, 48, 49, 50, 51, 52, 53, 54, 55, 56, 57, 58, 59, 60] (by decide +kernel) (by decide +kernel)
set_option maxRecDepth 20000 in
theorem gX5_areSo_X5_foundBy : GoodIn wsX5_areSo (wsV RX5 168 RX5 yX5_foundBy wsX5_foundBy) := goodIn_app (goodIn_of _ (by decide +kernel)) ggX5_areSo_X5_foundBy
set_option maxRecDepth 20000 in
theorem ggX5_areSo_X5_isIn : GoodIn wsX5_areSo wsX5_isIn := goodIn_r _ [24] (by decide +kernel) (by decide +kernel)
set_option maxRecDepth 20000 in
theorem gX5_areSo_X5_isIn : GoodIn wsX5_areSo (va_wsS RX5 158 yX5_isIn wsX5_isIn) := goodIn_app (goodIn_of _ (by decide +kernel)) ggX5_areSo_X5_isIn
theorem dX5_areSo_0 : decode cX5_areSo 0 = .ok (.iconst 1, 1) := by decide +kernel
theorem dX5_areSo_1 : decode cX5_areSo 1 = .ok (.istore_n 1, 1) := by decide +kernel
theorem dX5_areSo_2 : decode cX5_areSo 2 = .ok (.iconst 0, 1) := by decide +kernel
theorem dX5_areSo_3 : decode cX5_areSo 3 = .ok (.istore_n 2, 1) := by decide +kernel
theorem dX5_areSo_4 : decode cX5_areSo 4 = .ok (.iload_n 2, 1) := by decide +kernel
theorem dX5_areSo_5 : decode cX5_areSo 5 = .ok (.aload_n 0, 1) := by decide +kernel
theorem dX5_areSo_6 : decode cX5_areSo 6 = .ok (.getfield 142, 3) := by decide +kernel
theorem dX5_areSo_9 : decode cX5_areSo 9 = .ok (.if_icmp .ge 53, 3) := by decide +kernel
theorem dX5_areSo_12 : decode cX5_areSo 12 = .ok (.iload_n 1, 1) := by decide +kernel
theorem dX5_areSo_13 : decode cX5_areSo 13 = .ok (.ifCond .eq 41, 3) := by decide +kernel
theorem dX5_areSo_16 : decode cX5_areSo 16 = .ok (.aload_n 0, 1) := by decide +kernel
theorem dX5_areSo_17 : decode cX5_areSo 17 = .ok (.aload_n 0, 1) := by decide +kernel
theorem dX5_areSo_18 : decode cX5_areSo 18 = .ok (.getfield 44, 3) := by decide +kernel
theorem dX5_areSo_21 : decode cX5_areSo 21 = .ok (.iload_n 2, 1) := by decide +kernel
theorem dX5_areSo_22 : decode cX5_areSo 22 = .ok (.iaload, 1) := by decide +kernel
theorem dX5_areSo_23 : decode cX5_areSo 23 = .ok (.aload_n 0, 1) := by decide +kernel
theorem dX5_areSo_24 : decode cX5_areSo 24 = .ok (.getfield 47, 3) := by decide +kernel
theorem dX5_areSo_27 : decode cX5_areSo 27 = .ok (.iload_n 2, 1) := by decide +kernel
theorem dX5_areSo_28 : decode cX5_areSo 28 = .ok (.iaload, 1) := by decide +kernel
theorem dX5_areSo_29 : decode cX5_areSo 29 = .ok (.invokevirtual 168, 3) := by decide +kernel
theorem dX5_areSo_32 : decode cX5_areSo 32 = .ok (.aload_n 0, 1) := by decide +kernel
theorem dX5_areSo_33 : decode cX5_areSo 33 = .ok (.getfield 50, 3) := by decide +kernel
theorem dX5_areSo_36 : decode cX5_areSo 36 = .ok (.iload_n 2, 1) := by decide +kernel
theorem dX5_areSo_37 : decode cX5_areSo 37 = .ok (.iaload, 1) := by decide +kernel
theorem dX5_areSo_38 : decode cX5_areSo 38 = .ok (.invokestatic 158, 3) := by decide +kernel
theorem dX5_areSo_41 : decode cX5_areSo 41 = .ok (.aload_n 0, 1) := by decide +kernel
theorem dX5_areSo_42 : decode cX5_areSo 42 = .ok (.getfield 53, 3) := by decide +kernel
theorem dX5_areSo_45 : decode cX5_areSo 45 = .ok (.iload_n 2, 1) := by decide +kernel
theorem dX5_areSo_46 : decode cX5_areSo 46 = .ok (.baload, 1) := by decide +kernel
theorem dX5_areSo_47 : decode cX5_areSo 47 = .ok (.if_icmp .ne 7, 3) := by decide +kernel
theorem dX5_areSo_50 : decode cX5_areSo 50 = .ok (.iconst 1, 1) := by decide +kernel
theorem dX5_areSo_51 : decode cX5_areSo 51 = .ok (.goto 4, 3) := by decide +kernel
theorem dX5_areSo_54 : decode cX5_areSo 54 = .ok (.iconst 0, 1) := by decide +kernel
theorem dX5_areSo_55 : decode cX5_areSo 55 = .ok (.istore_n 1, 1) := by decide +kernel
theorem dX5_areSo_56 : decode cX5_areSo 56 = .ok (.iinc 2 1, 3) := by decide +kernel
theorem dX5_areSo_59 : decode cX5_areSo 59 = .ok (.goto (-55), 3) := by decide +kernel
theorem dX5_areSo_62 : decode cX5_areSo 62 = .ok (.iload_n 1, 1) := by decide +kernel
theorem dX5_areSo_63 : decode cX5_areSo 63 = .ok (.ireturn, 1) := by decide +kernel
set_option maxRecDepth 20000 in
theorem ggX5_stays_X5_noEater : GoodIn wsX5_stays wsX5_noEater := goodIn_r _ [6, 7, 8, 9, 5, 10, 44, 45, 46, 47, 48, 49, 50, 51, 52, 53, 54, 55, 56, 57, 58, 59, 60, 61, 62, 63, 64, 65, 66, 67, 68, 69, 70, 71, 72] (by decide +kernel) (by decide +kernel)
set_option maxRecDepth 20000 in
theorem gX5_stays_X5_noEater : GoodIn wsX5_stays (wsV RX5 145 RX5 yX5_noEater wsX5_noEater) := goodIn_app (goodIn_of _ (by decide +kernel)) ggX5_stays_X5_noEater
set_option maxRecDepth 20000 in
theorem ggX5_stays_X5_areSo : GoodIn wsX5_stays wsX5_areSo := goodIn_r _ [14, 15, 16, 17, 18, 19, 20, 21, 22, 5, 23, 24, 25, 26, 27, 28, 29, 30, 31, 32, 1, 33, 34, 35, 36, 37, 38, 39, 40, 41, 42, 43, 44, 45, 46, 47, 48, 49, 50, 51, 52, 53, 54, 55, 56, 57, 58, 59, 60, 61, 62, 63, 64, 65, 66, 67, 68, 69, 70, 71, 72] (by decide +kernel) (by decide +kernel)
set_option maxRecDepth 20000 in
theorem gX5_stays_X5_areSo : GoodIn wsX5_stays (wsV RX5 195 RX5 yX5_areSo wsX5_areSo) := goodIn_app (goodIn_of _ (by decide +kernel)) ggX5_stays_X5_areSo
theorem dX5_stays_0 : decode cX5_stays 0 = .ok (.aload_n 0, 1) := by decide +kernel
theorem dX5_stays_1 : decode cX5_stays 1 = .ok (.iload_n 1, 1) := by decide +kernel
theorem dX5_stays_2 : decode cX5_stays 2 = .ok (.invokevirtual 145, 3) := by decide +kernel
theorem dX5_stays_5 : decode cX5_stays 5 = .ok (.ifCond .eq 5, 3) := by decide +kernel
theorem dX5_stays_8 : decode cX5_stays 8 = .ok (.iconst (-1), 1) := by decide +kernel
theorem dX5_stays_9 : decode cX5_stays 9 = .ok (.ireturn, 1) := by decide +kernel
theorem dX5_stays_10 : decode cX5_stays 10 = .ok (.aload_n 0, 1) := by decide +kernel
theorem dX5_stays_11 : decode cX5_stays 11 = .ok (.getfield 16, 3) := by decide +kernel
theorem dX5_stays_14 : decode cX5_stays 14 = .ok (.iload_n 1, 1) := by decide +kernel
theorem dX5_stays_15 : decode cX5_stays 15 = .ok (.iaload, 1) := by decide +kernel
theorem dX5_stays_16 : decode cX5_stays 16 = .ok (.istore_n 2, 1) := by decide +kernel
theorem dX5_stays_17 : decode cX5_stays 17 = .ok (.iconst 0, 1) := by decide +kernel
theorem dX5_stays_18 : decode cX5_stays 18 = .ok (.istore_n 3, 1) := by decide +kernel
theorem dX5_stays_19 : decode cX5_stays 19 = .ok (.iconst 0, 1) := by decide +kernel
theorem dX5_stays_20 : decode cX5_stays 20 = .ok (.istore 4, 2) := by decide +kernel
theorem dX5_stays_22 : decode cX5_stays 22 = .ok (.iload 4, 2) := by decide +kernel
theorem dX5_stays_24 : decode cX5_stays 24 = .ok (.bipush 6, 2) := by decide +kernel
theorem dX5_stays_26 : decode cX5_stays 26 = .ok (.if_icmp .ge 35, 3) := by decide +kernel
theorem dX5_stays_29 : decode cX5_stays 29 = .ok (.aload_n 0, 1) := by decide +kernel
theorem dX5_stays_30 : decode cX5_stays 30 = .ok (.getfield 16, 3) := by decide +kernel
theorem dX5_stays_33 : decode cX5_stays 33 = .ok (.iload_n 1, 1) := by decide +kernel
theorem dX5_stays_34 : decode cX5_stays 34 = .ok (.iload 4, 2) := by decide +kernel
theorem dX5_stays_36 : decode cX5_stays 36 = .ok (.iastore, 1) := by decide +kernel
theorem dX5_stays_37 : decode cX5_stays 37 = .ok (.iload_n 3, 1) := by decide +kernel
theorem dX5_stays_38 : decode cX5_stays 38 = .ok (.aload_n 0, 1) := by decide +kernel
theorem dX5_stays_39 : decode cX5_stays 39 = .ok (.invokevirtual 195, 3) := by decide +kernel
theorem dX5_stays_42 : decode cX5_stays 42 = .ok (.ifCond .eq 10, 3) := by decide +kernel
theorem dX5_stays_45 : decode cX5_stays 45 = .ok (.iconst 1, 1) := by decide +kernel
theorem dX5_stays_46 : decode cX5_stays 46 = .ok (.iload 4, 2) := by decide +kernel
theorem dX5_stays_48 : decode cX5_stays 48 = .ok (.ishl, 1) := by decide +kernel
theorem dX5_stays_49 : decode cX5_stays 49 = .ok (.goto 4, 3) := by decide +kernel
theorem dX5_stays_52 : decode cX5_stays 52 = .ok (.iconst 0, 1) := by decide +kernel
theorem dX5_stays_53 : decode cX5_stays 53 = .ok (.ior, 1) := by decide +kernel
theorem dX5_stays_54 : decode cX5_stays 54 = .ok (.istore_n 3, 1) := by decide +kernel
theorem dX5_stays_55 : decode cX5_stays 55 = .ok (.iinc 4 1, 3) := by decide +kernel
theorem dX5_stays_58 : decode cX5_stays 58 = .ok (.goto (-36), 3) := by decide +kernel
theorem dX5_stays_61 : decode cX5_stays 61 = .ok (.aload_n 0, 1) := by decide +kernel
theorem dX5_stays_62 : decode cX5_stays 62 = .ok (.getfield 16, 3) := by decide +kernel
theorem dX5_stays_65 : decode cX5_stays 65 = .ok (.iload_n 1, 1) := by decide +kernel
theorem dX5_stays_66 : decode cX5_stays 66 = .ok (.iload_n 2, 1) := by decide +kernel
theorem dX5_stays_67 : decode cX5_stays 67 = .ok (.iastore, 1) := by decide +kernel
theorem dX5_stays_68 : decode cX5_stays 68 = .ok (.iload_n 3, 1) := by decide +kernel
theorem dX5_stays_69 : decode cX5_stays 69 = .ok (.ireturn, 1) := by decide +kernel
set_option maxRecDepth 20000 in
theorem ggX5_kinds_X5_noEater : GoodIn wsX5_kinds wsX5_noEater := goodIn_r _ [6, 7, 8, 9, 5, 10, 44, 45, 46, 47, 48, 49, 50, 51, 52, 53, 54, 55, 56, 57, 58, 59, 60, 61, 62, 63, 64, 65, 66, 67, 68, 69, 70, 71, 72] (by decide +kernel) (by decide +kernel)
set_option maxRecDepth 20000 in
theorem gX5_kinds_X5_noEater : GoodIn wsX5_kinds (wsV RX5 145 RX5 yX5_noEater wsX5_noEater) := goodIn_app (goodIn_of _ (by decide +kernel)) ggX5_kinds_X5_noEater
set_option maxRecDepth 20000 in
theorem ggX5_kinds_X5_areSo : GoodIn wsX5_kinds wsX5_areSo := goodIn_r _ [14, 15, 16, 17, 18, 19, 20, 21, 22, 5, 23, 24, 25, 26, 27, 28, 29, 30, 31, 32, 33, 1, 34, 35, 36, 37, 38, 39, 40, 41, 42, 43, 44, 45, 46, 47, 48, 49, 50, 51, 52, 53, 54, 55, 56, 57, 58, 59, 60, 61, 62, 63, 64, 65, 66, 67, 68, 69, 70, 71, 72] (by decide +kernel) (by decide +kernel)
set_option maxRecDepth 20000 in
theorem gX5_kinds_X5_areSo : GoodIn wsX5_kinds (wsV RX5 195 RX5 yX5_areSo wsX5_areSo) := goodIn_app (goodIn_of _ (by decide +kernel)) ggX5_kinds_X5_areSo
theorem dX5_kinds_0 : decode cX5_kinds 0 = .ok (.aload_n 0, 1) := by decide +kernel
theorem dX5_kinds_1 : decode cX5_kinds 1 = .ok (.iload_n 1, 1) := by decide +kernel
theorem dX5_kinds_2 : decode cX5_kinds 2 = .ok (.invokevirtual 145, 3) := by decide +kernel
theorem dX5_kinds_5 : decode cX5_kinds 5 = .ok (.ifCond .eq 5, 3) := by decide +kernel
theorem dX5_kinds_8 : decode cX5_kinds 8 = .ok (.iconst (-1), 1) := by decide +kernel
theorem dX5_kinds_9 : decode cX5_kinds 9 = .ok (.ireturn, 1) := by decide +kernel
theorem dX5_kinds_10 : decode cX5_kinds 10 = .ok (.aload_n 0, 1) := by decide +kernel
theorem dX5_kinds_11 : decode cX5_kinds 11 = .ok (.getfield 13, 3) := by decide +kernel
theorem dX5_kinds_14 : decode cX5_kinds 14 = .ok (.iload_n 1, 1) := by decide +kernel
theorem dX5_kinds_15 : decode cX5_kinds 15 = .ok (.iaload, 1) := by decide +kernel
theorem dX5_kinds_16 : decode cX5_kinds 16 = .ok (.istore_n 2, 1) := by decide +kernel
theorem dX5_kinds_17 : decode cX5_kinds 17 = .ok (.iconst 0, 1) := by decide +kernel
theorem dX5_kinds_18 : decode cX5_kinds 18 = .ok (.istore_n 3, 1) := by decide +kernel
theorem dX5_kinds_19 : decode cX5_kinds 19 = .ok (.iconst 0, 1) := by decide +kernel
theorem dX5_kinds_20 : decode cX5_kinds 20 = .ok (.istore 4, 2) := by decide +kernel
theorem dX5_kinds_22 : decode cX5_kinds 22 = .ok (.iload 4, 2) := by decide +kernel
theorem dX5_kinds_24 : decode cX5_kinds 24 = .ok (.iconst 3, 1) := by decide +kernel
theorem dX5_kinds_25 : decode cX5_kinds 25 = .ok (.if_icmp .ge 35, 3) := by decide +kernel
theorem dX5_kinds_28 : decode cX5_kinds 28 = .ok (.aload_n 0, 1) := by decide +kernel
theorem dX5_kinds_29 : decode cX5_kinds 29 = .ok (.getfield 13, 3) := by decide +kernel
theorem dX5_kinds_32 : decode cX5_kinds 32 = .ok (.iload_n 1, 1) := by decide +kernel
theorem dX5_kinds_33 : decode cX5_kinds 33 = .ok (.iload 4, 2) := by decide +kernel
theorem dX5_kinds_35 : decode cX5_kinds 35 = .ok (.iastore, 1) := by decide +kernel
theorem dX5_kinds_36 : decode cX5_kinds 36 = .ok (.iload_n 3, 1) := by decide +kernel
theorem dX5_kinds_37 : decode cX5_kinds 37 = .ok (.aload_n 0, 1) := by decide +kernel
theorem dX5_kinds_38 : decode cX5_kinds 38 = .ok (.invokevirtual 195, 3) := by decide +kernel
theorem dX5_kinds_41 : decode cX5_kinds 41 = .ok (.ifCond .eq 10, 3) := by decide +kernel
theorem dX5_kinds_44 : decode cX5_kinds 44 = .ok (.iconst 1, 1) := by decide +kernel
theorem dX5_kinds_45 : decode cX5_kinds 45 = .ok (.iload 4, 2) := by decide +kernel
theorem dX5_kinds_47 : decode cX5_kinds 47 = .ok (.ishl, 1) := by decide +kernel
theorem dX5_kinds_48 : decode cX5_kinds 48 = .ok (.goto 4, 3) := by decide +kernel
theorem dX5_kinds_51 : decode cX5_kinds 51 = .ok (.iconst 0, 1) := by decide +kernel
theorem dX5_kinds_52 : decode cX5_kinds 52 = .ok (.ior, 1) := by decide +kernel
theorem dX5_kinds_53 : decode cX5_kinds 53 = .ok (.istore_n 3, 1) := by decide +kernel
theorem dX5_kinds_54 : decode cX5_kinds 54 = .ok (.iinc 4 1, 3) := by decide +kernel
theorem dX5_kinds_57 : decode cX5_kinds 57 = .ok (.goto (-35), 3) := by decide +kernel
theorem dX5_kinds_60 : decode cX5_kinds 60 = .ok (.aload_n 0, 1) := by decide +kernel
theorem dX5_kinds_61 : decode cX5_kinds 61 = .ok (.getfield 13, 3) := by decide +kernel
theorem dX5_kinds_64 : decode cX5_kinds 64 = .ok (.iload_n 1, 1) := by decide +kernel
theorem dX5_kinds_65 : decode cX5_kinds 65 = .ok (.iload_n 2, 1) := by decide +kernel
theorem dX5_kinds_66 : decode cX5_kinds 66 = .ok (.iastore, 1) := by decide +kernel
theorem dX5_kinds_67 : decode cX5_kinds 67 = .ok (.iload_n 3, 1) := by decide +kernel
theorem dX5_kinds_68 : decode cX5_kinds 68 = .ok (.ireturn, 1) := by decide +kernel
set_option maxRecDepth 20000 in
theorem ggX5_sours_X5_areSo : GoodIn wsX5_sours wsX5_areSo := goodIn_r _ [7, 8, 9, 10, 11, 12, 13, 14, 15, 6, 16, 17, 18, 19, 20, 21, 22, 23, 24, 25, 26, 27, 28, 29, 30, 31, 32, 33, 34, 35, 2, 36, 37, 38, 39, 40, 41, 42, 43, 44, 45, 46, 47, 48, 49, 50, 51, 52, 53, 54, 55, 56, 57, 58, 59, 60, 61, 62, 63, 64, 65] (by decide +kernel) (by decide +kernel)
set_option maxRecDepth 20000 in
theorem gX5_sours_X5_areSo : GoodIn wsX5_sours (wsV RX5 195 RX5 yX5_areSo wsX5_areSo) := goodIn_app (goodIn_of _ (by decide +kernel)) ggX5_sours_X5_areSo
theorem dX5_sours_0 : decode cX5_sours 0 = .ok (.aload_n 0, 1) := by decide +kernel
theorem dX5_sours_1 : decode cX5_sours 1 = .ok (.getfield 85, 3) := by decide +kernel
theorem dX5_sours_4 : decode cX5_sours 4 = .ok (.ifCond .ne 6, 3) := by decide +kernel
theorem dX5_sours_7 : decode cX5_sours 7 = .ok (.bipush (-3), 2) := by decide +kernel
theorem dX5_sours_9 : decode cX5_sours 9 = .ok (.ireturn, 1) := by decide +kernel
theorem dX5_sours_10 : decode cX5_sours 10 = .ok (.aload_n 0, 1) := by decide +kernel
theorem dX5_sours_11 : decode cX5_sours 11 = .ok (.getfield 139, 3) := by decide +kernel
theorem dX5_sours_14 : decode cX5_sours 14 = .ok (.istore_n 1, 1) := by decide +kernel
theorem dX5_sours_15 : decode cX5_sours 15 = .ok (.iconst 0, 1) := by decide +kernel
theorem dX5_sours_16 : decode cX5_sours 16 = .ok (.istore_n 2, 1) := by decide +kernel
theorem dX5_sours_17 : decode cX5_sours 17 = .ok (.iconst 0, 1) := by decide +kernel
theorem dX5_sours_18 : decode cX5_sours 18 = .ok (.istore_n 3, 1) := by decide +kernel
theorem dX5_sours_19 : decode cX5_sours 19 = .ok (.iload_n 3, 1) := by decide +kernel
theorem dX5_sours_20 : decode cX5_sours 20 = .ok (.bipush 10, 2) := by decide +kernel
theorem dX5_sours_22 : decode cX5_sours 22 = .ok (.if_icmp .ge 31, 3) := by decide +kernel
theorem dX5_sours_25 : decode cX5_sours 25 = .ok (.aload_n 0, 1) := by decide +kernel
theorem dX5_sours_26 : decode cX5_sours 26 = .ok (.iload_n 3, 1) := by decide +kernel
theorem dX5_sours_27 : decode cX5_sours 27 = .ok (.putfield 139, 3) := by decide +kernel
theorem dX5_sours_30 : decode cX5_sours 30 = .ok (.iload_n 2, 1) := by decide +kernel
theorem dX5_sours_31 : decode cX5_sours 31 = .ok (.aload_n 0, 1) := by decide +kernel
theorem dX5_sours_32 : decode cX5_sours 32 = .ok (.invokevirtual 195, 3) := by decide +kernel
theorem dX5_sours_35 : decode cX5_sours 35 = .ok (.ifCond .eq 9, 3) := by decide +kernel
theorem dX5_sours_38 : decode cX5_sours 38 = .ok (.iconst 1, 1) := by decide +kernel
theorem dX5_sours_39 : decode cX5_sours 39 = .ok (.iload_n 3, 1) := by decide +kernel
theorem dX5_sours_40 : decode cX5_sours 40 = .ok (.ishl, 1) := by decide +kernel
theorem dX5_sours_41 : decode cX5_sours 41 = .ok (.goto 4, 3) := by decide +kernel
theorem dX5_sours_44 : decode cX5_sours 44 = .ok (.iconst 0, 1) := by decide +kernel
theorem dX5_sours_45 : decode cX5_sours 45 = .ok (.ior, 1) := by decide +kernel
theorem dX5_sours_46 : decode cX5_sours 46 = .ok (.istore_n 2, 1) := by decide +kernel
theorem dX5_sours_47 : decode cX5_sours 47 = .ok (.iinc 3 1, 3) := by decide +kernel
theorem dX5_sours_50 : decode cX5_sours 50 = .ok (.goto (-31), 3) := by decide +kernel
theorem dX5_sours_53 : decode cX5_sours 53 = .ok (.aload_n 0, 1) := by decide +kernel
theorem dX5_sours_54 : decode cX5_sours 54 = .ok (.iload_n 1, 1) := by decide +kernel
theorem dX5_sours_55 : decode cX5_sours 55 = .ok (.putfield 139, 3) := by decide +kernel
theorem dX5_sours_58 : decode cX5_sours 58 = .ok (.iload_n 2, 1) := by decide +kernel
theorem dX5_sours_59 : decode cX5_sours 59 = .ok (.ireturn, 1) := by decide +kernel
set_option maxRecDepth 20000 in
theorem ggX5_odds_X5_noEater : GoodIn wsX5_odds wsX5_noEater := goodIn_r _ [6, 7, 8, 9, 5, 10, 35, 36, 37, 38, 39, 40, 41, 42, 43, 44, 45, 46, 47, 48, 49, 50, 51, 52, 53, 54, 55, 56, 57, 58, 59, 60, 61, 62, 63] (by decide +kernel) (by decide +kernel)
set_option maxRecDepth 20000 in
theorem gX5_odds_X5_noEater : GoodIn wsX5_odds (wsV RX5 145 RX5 yX5_noEater wsX5_noEater) := goodIn_app (goodIn_of _ (by decide +kernel)) ggX5_odds_X5_noEater
set_option maxRecDepth 20000 in
theorem ggX5_odds_X5_noSet : GoodIn wsX5_odds wsX5_noSet := goodIn_r _ [14, 1, 8, 9, 5, 10, 35, 36, 37, 38, 39, 40, 41, 42, 43, 44, 45, 46, 47, 48, 49, 50, 51, 52, 53, 54, 55, 56, 57, 58, 59, 60, 61, 62, 63] (by decide +kernel) (by decide +kernel)
set_option maxRecDepth 20000 in
theorem gX5_odds_X5_noSet : GoodIn wsX5_odds (wsV RX5 174 RX5 yX5_noSet wsX5_noSet) := goodIn_app (goodIn_of _ (by decide +kernel)) ggX5_odds_X5_noSet
set_option maxRecDepth 20000 in
theorem ggX5_odds_X5_in : GoodIn wsX5_odds wsX5_in := goodIn_r _ [10] (by decide +kernel) (by decide +kernel)
set_option maxRecDepth 20000 in
theorem gX5_odds_X5_in : GoodIn wsX5_odds (va_wsS RX5 81 yX5_in wsX5_in) := goodIn_app (goodIn_of _ (by decide +kernel)) ggX5_odds_X5_in
set_option maxRecDepth 20000 in
theorem ggX5_odds_X5_lost : GoodIn wsX5_odds wsX5_lost := goodIn_r _ [17, 18] (by decide +kernel) (by decide +kernel)
set_option maxRecDepth 20000 in
theorem gX5_odds_X5_lost : GoodIn wsX5_odds (va_wsS RX5 74 yX5_lost wsX5_lost) := goodIn_app (goodIn_of _ (by decide +kernel)) ggX5_odds_X5_lost
set_option maxRecDepth 20000 in
theorem ggX5_odds_X5_yellowBy : GoodIn wsX5_odds wsX5_yellowBy := goodIn_r _ [22, 1, 23, 24, 25, 5, 26, 27, 28, 29, 30, 31, 35, 36, 37, 38, 39, 40, 41, 42, 43, 44, 45, 46, 47, 48, 49, 50, 51, 52, 53, 54, 55, 56, 57, 58, 59, 60, 61, 62, 63] (by decide +kernel) (by decide +kernel)
set_option maxRecDepth 20000 in
theorem gX5_odds_X5_yellowBy : GoodIn wsX5_odds (wsV RX5 161 RX5 yX5_yellowBy wsX5_yellowBy) := goodIn_app (goodIn_of _ (by decide +kernel)) ggX5_odds_X5_yellowBy
set_option maxRecDepth 20000 in
theorem ggX5_odds_X5_share : GoodIn wsX5_odds wsX5_share := goodIn_r _ [34] (by decide +kernel) (by decide +kernel)
set_option maxRecDepth 20000 in
theorem gX5_odds_X5_share : GoodIn wsX5_odds (va_wsS RX5 199 yX5_share wsX5_share) := goodIn_app (goodIn_of _ (by decide +kernel)) ggX5_odds_X5_share
theorem dX5_odds_0 : decode cX5_odds 0 = .ok (.aload_n 0, 1) := by decide +kernel
theorem dX5_odds_1 : decode cX5_odds 1 = .ok (.iload_n 1, 1) := by decide +kernel
theorem dX5_odds_2 : decode cX5_odds 2 = .ok (.invokevirtual 145, 3) := by decide +kernel
theorem dX5_odds_5 : decode cX5_odds 5 = .ok (.ifCond .ne 21, 3) := by decide +kernel
theorem dX5_odds_8 : decode cX5_odds 8 = .ok (.aload_n 0, 1) := by decide +kernel
theorem dX5_odds_9 : decode cX5_odds 9 = .ok (.iload_n 2, 1) := by decide +kernel
theorem dX5_odds_10 : decode cX5_odds 10 = .ok (.invokevirtual 174, 3) := by decide +kernel
theorem dX5_odds_13 : decode cX5_odds 13 = .ok (.ifCond .ne 13, 3) := by decide +kernel
theorem dX5_odds_16 : decode cX5_odds 16 = .ok (.iload_n 3, 1) := by decide +kernel
theorem dX5_odds_17 : decode cX5_odds 17 = .ok (.i2l, 1) := by decide +kernel
theorem dX5_odds_18 : decode cX5_odds 18 = .ok (.lconst 0, 1) := by decide +kernel
theorem dX5_odds_19 : decode cX5_odds 19 = .ok (.lconst 1, 1) := by decide +kernel
theorem dX5_odds_20 : decode cX5_odds 20 = .ok (.invokestatic 81, 3) := by decide +kernel
theorem dX5_odds_23 : decode cX5_odds 23 = .ok (.ifCond .ne 7, 3) := by decide +kernel
theorem dX5_odds_26 : decode cX5_odds 26 = .ok (.invokestatic 74, 3) := by decide +kernel
theorem dX5_odds_29 : decode cX5_odds 29 = .ok (.lreturn, 1) := by decide +kernel
theorem dX5_odds_30 : decode cX5_odds 30 = .ok (.aload_n 0, 1) := by decide +kernel
theorem dX5_odds_31 : decode cX5_odds 31 = .ok (.iload_n 1, 1) := by decide +kernel
theorem dX5_odds_32 : decode cX5_odds 32 = .ok (.iload_n 2, 1) := by decide +kernel
theorem dX5_odds_33 : decode cX5_odds 33 = .ok (.invokevirtual 161, 3) := by decide +kernel
theorem dX5_odds_36 : decode cX5_odds 36 = .ok (.istore 4, 2) := by decide +kernel
theorem dX5_odds_38 : decode cX5_odds 38 = .ok (.lconst 0, 1) := by decide +kernel
theorem dX5_odds_39 : decode cX5_odds 39 = .ok (.lstore 5, 2) := by decide +kernel
theorem dX5_odds_41 : decode cX5_odds 41 = .ok (.iconst 0, 1) := by decide +kernel
theorem dX5_odds_42 : decode cX5_odds 42 = .ok (.istore 7, 2) := by decide +kernel
theorem dX5_odds_44 : decode cX5_odds 44 = .ok (.iload 7, 2) := by decide +kernel
theorem dX5_odds_46 : decode cX5_odds 46 = .ok (.iconst 1, 1) := by decide +kernel
theorem dX5_odds_47 : decode cX5_odds 47 = .ok (.aload_n 0, 1) := by decide +kernel
theorem dX5_odds_48 : decode cX5_odds 48 = .ok (.getfield 78, 3) := by decide +kernel
theorem dX5_odds_51 : decode cX5_odds 51 = .ok (.ishl, 1) := by decide +kernel
theorem dX5_odds_52 : decode cX5_odds 52 = .ok (.if_icmp .ge 27, 3) := by decide +kernel
theorem dX5_odds_55 : decode cX5_odds 55 = .ok (.lload 5, 2) := by decide +kernel
theorem dX5_odds_57 : decode cX5_odds 57 = .ok (.iload 4, 2) := by decide +kernel
theorem dX5_odds_59 : decode cX5_odds 59 = .ok (.iload 7, 2) := by decide +kernel
theorem dX5_odds_61 : decode cX5_odds 61 = .ok (.iand, 1) := by decide +kernel
theorem dX5_odds_62 : decode cX5_odds 62 = .ok (.ifCond .ne 7, 3) := by decide +kernel
theorem dX5_odds_65 : decode cX5_odds 65 = .ok (.lconst 1, 1) := by decide +kernel
theorem dX5_odds_66 : decode cX5_odds 66 = .ok (.goto 4, 3) := by decide +kernel
theorem dX5_odds_69 : decode cX5_odds 69 = .ok (.lconst 0, 1) := by decide +kernel
theorem dX5_odds_70 : decode cX5_odds 70 = .ok (.ladd, 1) := by decide +kernel
theorem dX5_odds_71 : decode cX5_odds 71 = .ok (.lstore 5, 2) := by decide +kernel
theorem dX5_odds_73 : decode cX5_odds 73 = .ok (.iinc 7 1, 3) := by decide +kernel
theorem dX5_odds_76 : decode cX5_odds 76 = .ok (.goto (-32), 3) := by decide +kernel
theorem dX5_odds_79 : decode cX5_odds 79 = .ok (.lload 5, 2) := by decide +kernel
theorem dX5_odds_81 : decode cX5_odds 81 = .ok (.lconst 1, 1) := by decide +kernel
theorem dX5_odds_82 : decode cX5_odds 82 = .ok (.aload_n 0, 1) := by decide +kernel
theorem dX5_odds_83 : decode cX5_odds 83 = .ok (.getfield 78, 3) := by decide +kernel
theorem dX5_odds_86 : decode cX5_odds 86 = .ok (.lshl, 1) := by decide +kernel
theorem dX5_odds_87 : decode cX5_odds 87 = .ok (.iload_n 3, 1) := by decide +kernel
theorem dX5_odds_88 : decode cX5_odds 88 = .ok (.invokestatic 199, 3) := by decide +kernel
theorem dX5_odds_91 : decode cX5_odds 91 = .ok (.lreturn, 1) := by decide +kernel
set_option maxRecDepth 20000 in
theorem ggX5_noSheet_X5_in : GoodIn wsX5_noSheet wsX5_in := goodIn_r _ [5] (by decide +kernel) (by decide +kernel)
set_option maxRecDepth 20000 in
theorem gX5_noSheet_X5_in : GoodIn wsX5_noSheet (va_wsS RX5 81 yX5_in wsX5_in) := goodIn_app (goodIn_of _ (by decide +kernel)) ggX5_noSheet_X5_in
theorem dX5_noSheet_0 : decode cX5_noSheet 0 = .ok (.iload_n 0, 1) := by decide +kernel
theorem dX5_noSheet_1 : decode cX5_noSheet 1 = .ok (.i2l, 1) := by decide +kernel
theorem dX5_noSheet_2 : decode cX5_noSheet 2 = .ok (.lconst 0, 1) := by decide +kernel
theorem dX5_noSheet_3 : decode cX5_noSheet 3 = .ok (.ldc2_w 180, 3) := by decide +kernel
theorem dX5_noSheet_6 : decode cX5_noSheet 6 = .ok (.invokestatic 81, 3) := by decide +kernel
theorem dX5_noSheet_9 : decode cX5_noSheet 9 = .ok (.ifCond .ne 7, 3) := by decide +kernel
theorem dX5_noSheet_12 : decode cX5_noSheet 12 = .ok (.iconst 1, 1) := by decide +kernel
theorem dX5_noSheet_13 : decode cX5_noSheet 13 = .ok (.goto 4, 3) := by decide +kernel
theorem dX5_noSheet_16 : decode cX5_noSheet 16 = .ok (.iconst 0, 1) := by decide +kernel
theorem dX5_noSheet_17 : decode cX5_noSheet 17 = .ok (.ireturn, 1) := by decide +kernel
set_option maxRecDepth 20000 in
theorem ggX5_sheet_X5_noSheet : GoodIn wsX5_sheet wsX5_noSheet := goodIn_r _ [8, 9, 10, 11, 7, 12] (by decide +kernel) (by decide +kernel)
set_option maxRecDepth 20000 in
theorem gX5_sheet_X5_noSheet : GoodIn wsX5_sheet (va_wsS RX5 123 yX5_noSheet wsX5_noSheet) := goodIn_app (goodIn_of _ (by decide +kernel)) ggX5_sheet_X5_noSheet
set_option maxRecDepth 20000 in
theorem ggX5_sheet_X5_refused : GoodIn wsX5_sheet wsX5_refused := goodIn_r _ [16, 17, 22, 23, 24, 25, 26, 27, 28, 29, 30, 31, 32, 33, 34, 35, 36, 37, 38, 39, 40, 41, 42, 43, 44, 45, 46, 47, 48, 49, 50] (by decide +kernel) (by decide +kernel)
set_option maxRecDepth 20000 in
theorem gX5_sheet_X5_refused : GoodIn wsX5_sheet (wsV RX5 127 RX5 yX5_refused wsX5_refused) := goodIn_app (goodIn_of _ (by decide +kernel)) ggX5_sheet_X5_refused
set_option maxRecDepth 20000 in
theorem ggX5_sheet_X5_in : GoodIn wsX5_sheet wsX5_in := goodIn_r _ [12] (by decide +kernel) (by decide +kernel)
set_option maxRecDepth 20000 in
theorem gX5_sheet_X5_in : GoodIn wsX5_sheet (va_wsS RX5 81 yX5_in wsX5_in) := goodIn_app (goodIn_of _ (by decide +kernel)) ggX5_sheet_X5_in
set_option maxRecDepth 20000 in
theorem ggX5_sheet_X5_failed : GoodIn wsX5_sheet wsX5_failed := goodIn_r _ [21, 17, 22, 23, 24, 25, 26, 27, 28, 29, 30, 31, 32, 33, 34, 35, 36, 37, 38, 39, 40, 41, 42, 43, 44, 45, 46, 47, 48, 49, 50] (by decide +kernel) (by decide +kernel)
set_option maxRecDepth 20000 in
theorem gX5_sheet_X5_failed : GoodIn wsX5_sheet (wsV RX5 115 RX5 yX5_failed wsX5_failed) := goodIn_app (goodIn_of _ (by decide +kernel)) ggX5_sheet_X5_failed
theorem dX5_sheet_0 : decode cX5_sheet 0 = .ok (.iload_n 1, 1) := by decide +kernel
theorem dX5_sheet_1 : decode cX5_sheet 1 = .ok (.invokestatic 123, 3) := by decide +kernel
theorem dX5_sheet_4 : decode cX5_sheet 4 = .ok (.ifCond .eq 9, 3) := by decide +kernel
theorem dX5_sheet_7 : decode cX5_sheet 7 = .ok (.aload_n 0, 1) := by decide +kernel
theorem dX5_sheet_8 : decode cX5_sheet 8 = .ok (.iconst (-1), 1) := by decide +kernel
theorem dX5_sheet_9 : decode cX5_sheet 9 = .ok (.invokevirtual 127, 3) := by decide +kernel
theorem dX5_sheet_12 : decode cX5_sheet 12 = .ok (.ireturn, 1) := by decide +kernel
theorem dX5_sheet_13 : decode cX5_sheet 13 = .ok (.iload_n 2, 1) := by decide +kernel
theorem dX5_sheet_14 : decode cX5_sheet 14 = .ok (.i2l, 1) := by decide +kernel
theorem dX5_sheet_15 : decode cX5_sheet 15 = .ok (.lconst 0, 1) := by decide +kernel
theorem dX5_sheet_16 : decode cX5_sheet 16 = .ok (.ldc2_w 130, 3) := by decide +kernel
theorem dX5_sheet_19 : decode cX5_sheet 19 = .ok (.invokestatic 81, 3) := by decide +kernel
theorem dX5_sheet_22 : decode cX5_sheet 22 = .ok (.ifCond .eq 9, 3) := by decide +kernel
theorem dX5_sheet_25 : decode cX5_sheet 25 = .ok (.iload_n 3, 1) := by decide +kernel
theorem dX5_sheet_26 : decode cX5_sheet 26 = .ok (.bipush 60, 2) := by decide +kernel
theorem dX5_sheet_28 : decode cX5_sheet 28 = .ok (.if_icmp .le 10, 3) := by decide +kernel
theorem dX5_sheet_31 : decode cX5_sheet 31 = .ok (.aload_n 0, 1) := by decide +kernel
theorem dX5_sheet_32 : decode cX5_sheet 32 = .ok (.bipush (-2), 2) := by decide +kernel
theorem dX5_sheet_34 : decode cX5_sheet 34 = .ok (.invokevirtual 127, 3) := by decide +kernel
theorem dX5_sheet_37 : decode cX5_sheet 37 = .ok (.ireturn, 1) := by decide +kernel
theorem dX5_sheet_38 : decode cX5_sheet 38 = .ok (.iload_n 3, 1) := by decide +kernel
theorem dX5_sheet_39 : decode cX5_sheet 39 = .ok (.ifCond .ge 9, 3) := by decide +kernel
theorem dX5_sheet_42 : decode cX5_sheet 42 = .ok (.aload_n 0, 1) := by decide +kernel
theorem dX5_sheet_43 : decode cX5_sheet 43 = .ok (.iconst 4, 1) := by decide +kernel
theorem dX5_sheet_44 : decode cX5_sheet 44 = .ok (.invokevirtual 115, 3) := by decide +kernel
theorem dX5_sheet_47 : decode cX5_sheet 47 = .ok (.ireturn, 1) := by decide +kernel
theorem dX5_sheet_48 : decode cX5_sheet 48 = .ok (.aload_n 0, 1) := by decide +kernel
theorem dX5_sheet_49 : decode cX5_sheet 49 = .ok (.getfield 57, 3) := by decide +kernel
theorem dX5_sheet_52 : decode cX5_sheet 52 = .ok (.iload_n 1, 1) := by decide +kernel
theorem dX5_sheet_53 : decode cX5_sheet 53 = .ok (.iload_n 3, 1) := by decide +kernel
theorem dX5_sheet_54 : decode cX5_sheet 54 = .ok (.iastore, 1) := by decide +kernel
theorem dX5_sheet_55 : decode cX5_sheet 55 = .ok (.aload_n 0, 1) := by decide +kernel
theorem dX5_sheet_56 : decode cX5_sheet 56 = .ok (.getfield 60, 3) := by decide +kernel
theorem dX5_sheet_59 : decode cX5_sheet 59 = .ok (.iload_n 1, 1) := by decide +kernel
theorem dX5_sheet_60 : decode cX5_sheet 60 = .ok (.iload_n 2, 1) := by decide +kernel
theorem dX5_sheet_61 : decode cX5_sheet 61 = .ok (.iastore, 1) := by decide +kernel
theorem dX5_sheet_62 : decode cX5_sheet 62 = .ok (.iconst 0, 1) := by decide +kernel
theorem dX5_sheet_63 : decode cX5_sheet 63 = .ok (.istore 4, 2) := by decide +kernel
theorem dX5_sheet_65 : decode cX5_sheet 65 = .ok (.iload 4, 2) := by decide +kernel
theorem dX5_sheet_67 : decode cX5_sheet 67 = .ok (.iload_n 3, 1) := by decide +kernel
theorem dX5_sheet_68 : decode cX5_sheet 68 = .ok (.if_icmp .ge 22, 3) := by decide +kernel
theorem dX5_sheet_71 : decode cX5_sheet 71 = .ok (.aload_n 0, 1) := by decide +kernel
theorem dX5_sheet_72 : decode cX5_sheet 72 = .ok (.getfield 63, 3) := by decide +kernel
theorem dX5_sheet_75 : decode cX5_sheet 75 = .ok (.bipush 60, 2) := by decide +kernel
theorem dX5_sheet_77 : decode cX5_sheet 77 = .ok (.iload_n 1, 1) := by decide +kernel
theorem dX5_sheet_78 : decode cX5_sheet 78 = .ok (.imul, 1) := by decide +kernel
theorem dX5_sheet_79 : decode cX5_sheet 79 = .ok (.iload 4, 2) := by decide +kernel
theorem dX5_sheet_81 : decode cX5_sheet 81 = .ok (.iadd, 1) := by decide +kernel
theorem dX5_sheet_82 : decode cX5_sheet 82 = .ok (.iconst 0, 1) := by decide +kernel
theorem dX5_sheet_83 : decode cX5_sheet 83 = .ok (.iastore, 1) := by decide +kernel
theorem dX5_sheet_84 : decode cX5_sheet 84 = .ok (.iinc 4 1, 3) := by decide +kernel
theorem dX5_sheet_87 : decode cX5_sheet 87 = .ok (.goto (-22), 3) := by decide +kernel
theorem dX5_sheet_90 : decode cX5_sheet 90 = .ok (.aload_n 0, 1) := by decide +kernel
theorem dX5_sheet_91 : decode cX5_sheet 91 = .ok (.iconst 1, 1) := by decide +kernel
theorem dX5_sheet_92 : decode cX5_sheet 92 = .ok (.invokevirtual 127, 3) := by decide +kernel
theorem dX5_sheet_95 : decode cX5_sheet 95 = .ok (.ireturn, 1) := by decide +kernel
set_option maxRecDepth 20000 in
theorem ggX5_lose_X5_noSheet : GoodIn wsX5_lose wsX5_noSheet := goodIn_r _ [5, 6, 7, 8, 4, 9] (by decide +kernel) (by decide +kernel)
set_option maxRecDepth 20000 in
theorem gX5_lose_X5_noSheet : GoodIn wsX5_lose (va_wsS RX5 123 yX5_noSheet wsX5_noSheet) := goodIn_app (goodIn_of _ (by decide +kernel)) ggX5_lose_X5_noSheet
theorem dX5_lose_0 : decode cX5_lose 0 = .ok (.iload_n 1, 1) := by decide +kernel
theorem dX5_lose_1 : decode cX5_lose 1 = .ok (.invokestatic 123, 3) := by decide +kernel
theorem dX5_lose_4 : decode cX5_lose 4 = .ok (.ifCond .eq 5, 3) := by decide +kernel
theorem dX5_lose_7 : decode cX5_lose 7 = .ok (.iconst (-1), 1) := by decide +kernel
theorem dX5_lose_8 : decode cX5_lose 8 = .ok (.ireturn, 1) := by decide +kernel
theorem dX5_lose_9 : decode cX5_lose 9 = .ok (.aload_n 0, 1) := by decide +kernel
theorem dX5_lose_10 : decode cX5_lose 10 = .ok (.getfield 57, 3) := by decide +kernel
theorem dX5_lose_13 : decode cX5_lose 13 = .ok (.iload_n 1, 1) := by decide +kernel
theorem dX5_lose_14 : decode cX5_lose 14 = .ok (.iaload, 1) := by decide +kernel
theorem dX5_lose_15 : decode cX5_lose 15 = .ok (.ifCond .ge 7, 3) := by decide +kernel
theorem dX5_lose_18 : decode cX5_lose 18 = .ok (.iconst 0, 1) := by decide +kernel
theorem dX5_lose_19 : decode cX5_lose 19 = .ok (.goto 4, 3) := by decide +kernel
theorem dX5_lose_22 : decode cX5_lose 22 = .ok (.iconst 1, 1) := by decide +kernel
theorem dX5_lose_23 : decode cX5_lose 23 = .ok (.istore_n 2, 1) := by decide +kernel
theorem dX5_lose_24 : decode cX5_lose 24 = .ok (.aload_n 0, 1) := by decide +kernel
theorem dX5_lose_25 : decode cX5_lose 25 = .ok (.getfield 57, 3) := by decide +kernel
theorem dX5_lose_28 : decode cX5_lose 28 = .ok (.iload_n 1, 1) := by decide +kernel
theorem dX5_lose_29 : decode cX5_lose 29 = .ok (.iconst (-1), 1) := by decide +kernel
theorem dX5_lose_30 : decode cX5_lose 30 = .ok (.iastore, 1) := by decide +kernel
theorem dX5_lose_31 : decode cX5_lose 31 = .ok (.iload_n 2, 1) := by decide +kernel
theorem dX5_lose_32 : decode cX5_lose 32 = .ok (.ireturn, 1) := by decide +kernel
set_option maxRecDepth 20000 in
theorem ggX5_noCell_X5_in : GoodIn wsX5_noCell wsX5_in := goodIn_r _ [5] (by decide +kernel) (by decide +kernel)
set_option maxRecDepth 20000 in
theorem gX5_noCell_X5_in : GoodIn wsX5_noCell (va_wsS RX5 81 yX5_in wsX5_in) := goodIn_app (goodIn_of _ (by decide +kernel)) ggX5_noCell_X5_in
theorem dX5_noCell_0 : decode cX5_noCell 0 = .ok (.aload_n 0, 1) := by decide +kernel
theorem dX5_noCell_1 : decode cX5_noCell 1 = .ok (.getfield 57, 3) := by decide +kernel
theorem dX5_noCell_4 : decode cX5_noCell 4 = .ok (.iload_n 1, 1) := by decide +kernel
theorem dX5_noCell_5 : decode cX5_noCell 5 = .ok (.iaload, 1) := by decide +kernel
theorem dX5_noCell_6 : decode cX5_noCell 6 = .ok (.ifCond .ge 7, 3) := by decide +kernel
theorem dX5_noCell_9 : decode cX5_noCell 9 = .ok (.iconst 1, 1) := by decide +kernel
theorem dX5_noCell_10 : decode cX5_noCell 10 = .ok (.goto 26, 3) := by decide +kernel
theorem dX5_noCell_13 : decode cX5_noCell 13 = .ok (.iload_n 2, 1) := by decide +kernel
theorem dX5_noCell_14 : decode cX5_noCell 14 = .ok (.i2l, 1) := by decide +kernel
theorem dX5_noCell_15 : decode cX5_noCell 15 = .ok (.lconst 0, 1) := by decide +kernel
theorem dX5_noCell_16 : decode cX5_noCell 16 = .ok (.aload_n 0, 1) := by decide +kernel
theorem dX5_noCell_17 : decode cX5_noCell 17 = .ok (.getfield 57, 3) := by decide +kernel
theorem dX5_noCell_20 : decode cX5_noCell 20 = .ok (.iload_n 1, 1) := by decide +kernel
theorem dX5_noCell_21 : decode cX5_noCell 21 = .ok (.iaload, 1) := by decide +kernel
theorem dX5_noCell_22 : decode cX5_noCell 22 = .ok (.i2l, 1) := by decide +kernel
theorem dX5_noCell_23 : decode cX5_noCell 23 = .ok (.lconst 1, 1) := by decide +kernel
theorem dX5_noCell_24 : decode cX5_noCell 24 = .ok (.lsub, 1) := by decide +kernel
theorem dX5_noCell_25 : decode cX5_noCell 25 = .ok (.invokestatic 81, 3) := by decide +kernel
theorem dX5_noCell_28 : decode cX5_noCell 28 = .ok (.ifCond .eq 7, 3) := by decide +kernel
theorem dX5_noCell_31 : decode cX5_noCell 31 = .ok (.iconst 0, 1) := by decide +kernel
theorem dX5_noCell_32 : decode cX5_noCell 32 = .ok (.goto 4, 3) := by decide +kernel
theorem dX5_noCell_35 : decode cX5_noCell 35 = .ok (.iconst 3, 1) := by decide +kernel
theorem dX5_noCell_36 : decode cX5_noCell 36 = .ok (.ireturn, 1) := by decide +kernel
set_option maxRecDepth 20000 in
theorem ggX5_put_X5_noSheet : GoodIn wsX5_put wsX5_noSheet := goodIn_r _ [6, 7, 8, 9, 5, 10] (by decide +kernel) (by decide +kernel)
set_option maxRecDepth 20000 in
theorem gX5_put_X5_noSheet : GoodIn wsX5_put (va_wsS RX5 123 yX5_noSheet wsX5_noSheet) := goodIn_app (goodIn_of _ (by decide +kernel)) ggX5_put_X5_noSheet
set_option maxRecDepth 20000 in
theorem ggX5_put_X5_refused : GoodIn wsX5_put wsX5_refused := goodIn_r _ [14, 15, 25, 26, 27, 28, 29, 30, 31, 32, 33, 34, 35, 36, 37, 38, 39, 40, 41, 42, 43, 44, 45, 46, 47, 48, 49, 50, 51, 52, 53] (by decide +kernel) (by decide +kernel)
set_option maxRecDepth 20000 in
theorem gX5_put_X5_refused : GoodIn wsX5_put (wsV RX5 127 RX5 yX5_refused wsX5_refused) := goodIn_app (goodIn_of _ (by decide +kernel)) ggX5_put_X5_refused
set_option maxRecDepth 20000 in
theorem ggX5_put_X5_noCell : GoodIn wsX5_put wsX5_noCell := goodIn_r _ [19, 20, 8, 9, 5, 10, 25, 26, 27, 28, 29, 30, 31, 32, 33, 34, 35, 36, 37, 38, 39, 40, 41, 42, 43, 44, 45, 46, 47, 48, 49, 50, 51, 52, 53] (by decide +kernel) (by decide +kernel)
set_option maxRecDepth 20000 in
theorem gX5_put_X5_noCell : GoodIn wsX5_put (wsV RX5 203 RX5 yX5_noCell wsX5_noCell) := goodIn_app (goodIn_of _ (by decide +kernel)) ggX5_put_X5_noCell
set_option maxRecDepth 20000 in
theorem ggX5_put_X5_failed : GoodIn wsX5_put wsX5_failed := goodIn_r _ [24, 15, 25, 26, 27, 28, 29, 30, 31, 32, 33, 34, 35, 36, 37, 38, 39, 40, 41, 42, 43, 44, 45, 46, 47, 48, 49, 50, 51, 52, 53] (by decide +kernel) (by decide +kernel)
set_option maxRecDepth 20000 in
theorem gX5_put_X5_failed : GoodIn wsX5_put (wsV RX5 115 RX5 yX5_failed wsX5_failed) := goodIn_app (goodIn_of _ (by decide +kernel)) ggX5_put_X5_failed
theorem dX5_put_0 : decode cX5_put 0 = .ok (.iload_n 1, 1) := by decide +kernel
theorem dX5_put_1 : decode cX5_put 1 = .ok (.invokestatic 123, 3) := by decide +kernel
theorem dX5_put_4 : decode cX5_put 4 = .ok (.ifCond .eq 9, 3) := by decide +kernel
theorem dX5_put_7 : decode cX5_put 7 = .ok (.aload_n 0, 1) := by decide +kernel
theorem dX5_put_8 : decode cX5_put 8 = .ok (.iconst (-1), 1) := by decide +kernel
theorem dX5_put_9 : decode cX5_put 9 = .ok (.invokevirtual 127, 3) := by decide +kernel
theorem dX5_put_12 : decode cX5_put 12 = .ok (.ireturn, 1) := by decide +kernel
theorem dX5_put_13 : decode cX5_put 13 = .ok (.aload_n 0, 1) := by decide +kernel
theorem dX5_put_14 : decode cX5_put 14 = .ok (.iload_n 1, 1) := by decide +kernel
theorem dX5_put_15 : decode cX5_put 15 = .ok (.iload_n 2, 1) := by decide +kernel
theorem dX5_put_16 : decode cX5_put 16 = .ok (.invokevirtual 203, 3) := by decide +kernel
theorem dX5_put_19 : decode cX5_put 19 = .ok (.ifCond .le 14, 3) := by decide +kernel
theorem dX5_put_22 : decode cX5_put 22 = .ok (.aload_n 0, 1) := by decide +kernel
theorem dX5_put_23 : decode cX5_put 23 = .ok (.aload_n 0, 1) := by decide +kernel
theorem dX5_put_24 : decode cX5_put 24 = .ok (.iload_n 1, 1) := by decide +kernel
theorem dX5_put_25 : decode cX5_put 25 = .ok (.iload_n 2, 1) := by decide +kernel
theorem dX5_put_26 : decode cX5_put 26 = .ok (.invokevirtual 203, 3) := by decide +kernel
theorem dX5_put_29 : decode cX5_put 29 = .ok (.invokevirtual 115, 3) := by decide +kernel
theorem dX5_put_32 : decode cX5_put 32 = .ok (.ireturn, 1) := by decide +kernel
theorem dX5_put_33 : decode cX5_put 33 = .ok (.aload_n 0, 1) := by decide +kernel
theorem dX5_put_34 : decode cX5_put 34 = .ok (.getfield 63, 3) := by decide +kernel
theorem dX5_put_37 : decode cX5_put 37 = .ok (.bipush 60, 2) := by decide +kernel
theorem dX5_put_39 : decode cX5_put 39 = .ok (.iload_n 1, 1) := by decide +kernel
theorem dX5_put_40 : decode cX5_put 40 = .ok (.imul, 1) := by decide +kernel
theorem dX5_put_41 : decode cX5_put 41 = .ok (.iload_n 2, 1) := by decide +kernel
theorem dX5_put_42 : decode cX5_put 42 = .ok (.iadd, 1) := by decide +kernel
theorem dX5_put_43 : decode cX5_put 43 = .ok (.aload_n 0, 1) := by decide +kernel
theorem dX5_put_44 : decode cX5_put 44 = .ok (.getfield 60, 3) := by decide +kernel
theorem dX5_put_47 : decode cX5_put 47 = .ok (.iload_n 1, 1) := by decide +kernel
theorem dX5_put_48 : decode cX5_put 48 = .ok (.iaload, 1) := by decide +kernel
theorem dX5_put_49 : decode cX5_put 49 = .ok (.ifCond .ne 8, 3) := by decide +kernel
theorem dX5_put_52 : decode cX5_put 52 = .ok (.iload_n 3, 1) := by decide +kernel
theorem dX5_put_53 : decode cX5_put 53 = .ok (.i2b, 1) := by decide +kernel
theorem dX5_put_54 : decode cX5_put 54 = .ok (.goto 19, 3) := by decide +kernel
theorem dX5_put_57 : decode cX5_put 57 = .ok (.aload_n 0, 1) := by decide +kernel
theorem dX5_put_58 : decode cX5_put 58 = .ok (.getfield 60, 3) := by decide +kernel
theorem dX5_put_61 : decode cX5_put 61 = .ok (.iload_n 1, 1) := by decide +kernel
theorem dX5_put_62 : decode cX5_put 62 = .ok (.iaload, 1) := by decide +kernel
theorem dX5_put_63 : decode cX5_put 63 = .ok (.iconst 1, 1) := by decide +kernel
theorem dX5_put_64 : decode cX5_put 64 = .ok (.if_icmp .ne 8, 3) := by decide +kernel
theorem dX5_put_67 : decode cX5_put 67 = .ok (.iload_n 3, 1) := by decide +kernel
theorem dX5_put_68 : decode cX5_put 68 = .ok (.i2s, 1) := by decide +kernel
theorem dX5_put_69 : decode cX5_put 69 = .ok (.goto 4, 3) := by decide +kernel
theorem dX5_put_72 : decode cX5_put 72 = .ok (.iload_n 3, 1) := by decide +kernel
theorem dX5_put_73 : decode cX5_put 73 = .ok (.iastore, 1) := by decide +kernel
theorem dX5_put_74 : decode cX5_put 74 = .ok (.aload_n 0, 1) := by decide +kernel
theorem dX5_put_75 : decode cX5_put 75 = .ok (.iconst 1, 1) := by decide +kernel
theorem dX5_put_76 : decode cX5_put 76 = .ok (.invokevirtual 127, 3) := by decide +kernel
theorem dX5_put_79 : decode cX5_put 79 = .ok (.ireturn, 1) := by decide +kernel
set_option maxRecDepth 20000 in
theorem ggX5_cell_X5_noSheet : GoodIn wsX5_cell wsX5_noSheet := goodIn_r _ [9, 10, 11, 12, 8, 13] (by decide +kernel) (by decide +kernel)
set_option maxRecDepth 20000 in
theorem gX5_cell_X5_noSheet : GoodIn wsX5_cell (va_wsS RX5 123 yX5_noSheet wsX5_noSheet) := goodIn_app (goodIn_of _ (by decide +kernel)) ggX5_cell_X5_noSheet
set_option maxRecDepth 20000 in
theorem ggX5_cell_X5_in : GoodIn wsX5_cell wsX5_in := goodIn_r _ [13] (by decide +kernel) (by decide +kernel)
set_option maxRecDepth 20000 in
theorem gX5_cell_X5_in : GoodIn wsX5_cell (va_wsS RX5 81 yX5_in wsX5_in) := goodIn_app (goodIn_of _ (by decide +kernel)) ggX5_cell_X5_in
set_option maxRecDepth 20000 in
theorem ggX5_cell_X5_lost : GoodIn wsX5_cell wsX5_lost := goodIn_r _ [16, 17] (by decide +kernel) (by decide +kernel)
set_option maxRecDepth 20000 in
theorem gX5_cell_X5_lost : GoodIn wsX5_cell (va_wsS RX5 74 yX5_lost wsX5_lost) := goodIn_app (goodIn_of _ (by decide +kernel)) ggX5_cell_X5_lost
set_option maxRecDepth 20000 in
theorem ggX5_cell_X5_failedLong : GoodIn wsX5_cell wsX5_failedLong := goodIn_r _ [21, 1, 14, 15, 8, 16, 17, 26, 27, 28, 29, 30, 31, 32, 33, 34, 35, 36, 37, 38, 39, 40, 41, 42, 43, 44, 45, 46, 47, 48, 49, 50, 51, 52, 53, 54] (by decide +kernel) (by decide +kernel)
set_option maxRecDepth 20000 in
theorem gX5_cell_X5_failedLong : GoodIn wsX5_cell (wsV RX5 206 RX5 yX5_failedLong wsX5_failedLong) := goodIn_app (goodIn_of _ (by decide +kernel)) ggX5_cell_X5_failedLong
set_option maxRecDepth 20000 in
theorem ggX5_cell_X5_noCell : GoodIn wsX5_cell wsX5_noCell := goodIn_r _ [25, 3, 11, 12, 8, 13, 26, 27, 28, 29, 30, 31, 32, 33, 34, 35, 36, 37, 38, 39, 40, 41, 42, 43, 44, 45, 46, 47, 48, 49, 50, 51, 52, 53, 54] (by decide +kernel) (by decide +kernel)
set_option maxRecDepth 20000 in
theorem gX5_cell_X5_noCell : GoodIn wsX5_cell (wsV RX5 203 RX5 yX5_noCell wsX5_noCell) := goodIn_app (goodIn_of _ (by decide +kernel)) ggX5_cell_X5_noCell
theorem dX5_cell_0 : decode cX5_cell 0 = .ok (.aload_n 0, 1) := by decide +kernel
theorem dX5_cell_1 : decode cX5_cell 1 = .ok (.iconst 0, 1) := by decide +kernel
theorem dX5_cell_2 : decode cX5_cell 2 = .ok (.putfield 71, 3) := by decide +kernel
theorem dX5_cell_5 : decode cX5_cell 5 = .ok (.iload_n 1, 1) := by decide +kernel
theorem dX5_cell_6 : decode cX5_cell 6 = .ok (.invokestatic 123, 3) := by decide +kernel
theorem dX5_cell_9 : decode cX5_cell 9 = .ok (.ifCond .ne 15, 3) := by decide +kernel
theorem dX5_cell_12 : decode cX5_cell 12 = .ok (.iload_n 3, 1) := by decide +kernel
theorem dX5_cell_13 : decode cX5_cell 13 = .ok (.i2l, 1) := by decide +kernel
theorem dX5_cell_14 : decode cX5_cell 14 = .ok (.lconst 0, 1) := by decide +kernel
theorem dX5_cell_15 : decode cX5_cell 15 = .ok (.ldc2_w 130, 3) := by decide +kernel
theorem dX5_cell_18 : decode cX5_cell 18 = .ok (.invokestatic 81, 3) := by decide +kernel
theorem dX5_cell_21 : decode cX5_cell 21 = .ok (.ifCond .ne 7, 3) := by decide +kernel
theorem dX5_cell_24 : decode cX5_cell 24 = .ok (.invokestatic 74, 3) := by decide +kernel
theorem dX5_cell_27 : decode cX5_cell 27 = .ok (.lreturn, 1) := by decide +kernel
theorem dX5_cell_28 : decode cX5_cell 28 = .ok (.aload_n 0, 1) := by decide +kernel
theorem dX5_cell_29 : decode cX5_cell 29 = .ok (.getfield 57, 3) := by decide +kernel
theorem dX5_cell_32 : decode cX5_cell 32 = .ok (.iload_n 1, 1) := by decide +kernel
theorem dX5_cell_33 : decode cX5_cell 33 = .ok (.iaload, 1) := by decide +kernel
theorem dX5_cell_34 : decode cX5_cell 34 = .ok (.ifCond .lt 19, 3) := by decide +kernel
theorem dX5_cell_37 : decode cX5_cell 37 = .ok (.aload_n 0, 1) := by decide +kernel
theorem dX5_cell_38 : decode cX5_cell 38 = .ok (.getfield 60, 3) := by decide +kernel
theorem dX5_cell_41 : decode cX5_cell 41 = .ok (.iload_n 1, 1) := by decide +kernel
theorem dX5_cell_42 : decode cX5_cell 42 = .ok (.iaload, 1) := by decide +kernel
theorem dX5_cell_43 : decode cX5_cell 43 = .ok (.iload_n 3, 1) := by decide +kernel
theorem dX5_cell_44 : decode cX5_cell 44 = .ok (.if_icmp .eq 9, 3) := by decide +kernel
theorem dX5_cell_47 : decode cX5_cell 47 = .ok (.aload_n 0, 1) := by decide +kernel
theorem dX5_cell_48 : decode cX5_cell 48 = .ok (.iconst 2, 1) := by decide +kernel
theorem dX5_cell_49 : decode cX5_cell 49 = .ok (.invokevirtual 206, 3) := by decide +kernel
theorem dX5_cell_52 : decode cX5_cell 52 = .ok (.lreturn, 1) := by decide +kernel
theorem dX5_cell_53 : decode cX5_cell 53 = .ok (.aload_n 0, 1) := by decide +kernel
theorem dX5_cell_54 : decode cX5_cell 54 = .ok (.iload_n 1, 1) := by decide +kernel
theorem dX5_cell_55 : decode cX5_cell 55 = .ok (.iload_n 2, 1) := by decide +kernel
theorem dX5_cell_56 : decode cX5_cell 56 = .ok (.invokevirtual 203, 3) := by decide +kernel
theorem dX5_cell_59 : decode cX5_cell 59 = .ok (.ifCond .le 16, 3) := by decide +kernel
theorem dX5_cell_62 : decode cX5_cell 62 = .ok (.aload_n 0, 1) := by decide +kernel
theorem dX5_cell_63 : decode cX5_cell 63 = .ok (.aload_n 0, 1) := by decide +kernel
theorem dX5_cell_64 : decode cX5_cell 64 = .ok (.iload_n 1, 1) := by decide +kernel
theorem dX5_cell_65 : decode cX5_cell 65 = .ok (.iload_n 2, 1) := by decide +kernel
theorem dX5_cell_66 : decode cX5_cell 66 = .ok (.invokevirtual 203, 3) := by decide +kernel
theorem dX5_cell_69 : decode cX5_cell 69 = .ok (.invokevirtual 206, 3) := by decide +kernel
theorem dX5_cell_72 : decode cX5_cell 72 = .ok (.goto 15, 3) := by decide +kernel
theorem dX5_cell_75 : decode cX5_cell 75 = .ok (.aload_n 0, 1) := by decide +kernel
theorem dX5_cell_76 : decode cX5_cell 76 = .ok (.getfield 63, 3) := by decide +kernel
theorem dX5_cell_79 : decode cX5_cell 79 = .ok (.bipush 60, 2) := by decide +kernel
theorem dX5_cell_81 : decode cX5_cell 81 = .ok (.iload_n 1, 1) := by decide +kernel
theorem dX5_cell_82 : decode cX5_cell 82 = .ok (.imul, 1) := by decide +kernel
theorem dX5_cell_83 : decode cX5_cell 83 = .ok (.iload_n 2, 1) := by decide +kernel
theorem dX5_cell_84 : decode cX5_cell 84 = .ok (.iadd, 1) := by decide +kernel
theorem dX5_cell_85 : decode cX5_cell 85 = .ok (.iaload, 1) := by decide +kernel
theorem dX5_cell_86 : decode cX5_cell 86 = .ok (.i2l, 1) := by decide +kernel
theorem dX5_cell_87 : decode cX5_cell 87 = .ok (.lreturn, 1) := by decide +kernel
theorem dX5_isBeyond_0 : decode cX5_isBeyond 0 = .ok (.iload_n 0, 1) := by decide +kernel
theorem dX5_isBeyond_1 : decode cX5_isBeyond 1 = .ok (.ifCond .lt 19, 3) := by decide +kernel
theorem dX5_isBeyond_4 : decode cX5_isBeyond 4 = .ok (.lload_n 1, 1) := by decide +kernel
theorem dX5_isBeyond_5 : decode cX5_isBeyond 5 = .ok (.lconst 0, 1) := by decide +kernel
theorem dX5_isBeyond_6 : decode cX5_isBeyond 6 = .ok (.lcmp, 1) := by decide +kernel
theorem dX5_isBeyond_7 : decode cX5_isBeyond 7 = .ok (.ifCond .lt 13, 3) := by decide +kernel
theorem dX5_isBeyond_10 : decode cX5_isBeyond 10 = .ok (.iload_n 0, 1) := by decide +kernel
theorem dX5_isBeyond_11 : decode cX5_isBeyond 11 = .ok (.i2l, 1) := by decide +kernel
theorem dX5_isBeyond_12 : decode cX5_isBeyond 12 = .ok (.lload_n 1, 1) := by decide +kernel
theorem dX5_isBeyond_13 : decode cX5_isBeyond 13 = .ok (.ladd, 1) := by decide +kernel
theorem dX5_isBeyond_14 : decode cX5_isBeyond 14 = .ok (.iload_n 3, 1) := by decide +kernel
theorem dX5_isBeyond_15 : decode cX5_isBeyond 15 = .ok (.i2l, 1) := by decide +kernel
theorem dX5_isBeyond_16 : decode cX5_isBeyond 16 = .ok (.lcmp, 1) := by decide +kernel
theorem dX5_isBeyond_17 : decode cX5_isBeyond 17 = .ok (.ifCond .le 7, 3) := by decide +kernel
theorem dX5_isBeyond_20 : decode cX5_isBeyond 20 = .ok (.iconst 1, 1) := by decide +kernel
theorem dX5_isBeyond_21 : decode cX5_isBeyond 21 = .ok (.goto 4, 3) := by decide +kernel
theorem dX5_isBeyond_24 : decode cX5_isBeyond 24 = .ok (.iconst 0, 1) := by decide +kernel
theorem dX5_isBeyond_25 : decode cX5_isBeyond 25 = .ok (.ireturn, 1) := by decide +kernel
set_option maxRecDepth 20000 in
theorem ggX5_copy_X5_noSheet : GoodIn wsX5_copy wsX5_noSheet := goodIn_r _ [8, 9, 10, 11, 7, 12] (by decide +kernel) (by decide +kernel)
set_option maxRecDepth 20000 in
theorem gX5_copy_X5_noSheet : GoodIn wsX5_copy (va_wsS RX5 123 yX5_noSheet wsX5_noSheet) := goodIn_app (goodIn_of _ (by decide +kernel)) ggX5_copy_X5_noSheet
set_option maxRecDepth 20000 in
theorem ggX5_copy_X5_refused : GoodIn wsX5_copy wsX5_refused := goodIn_r _ [16, 17, 25, 26, 27, 28, 29, 30, 31, 32, 33, 34, 35, 36, 37, 38, 39, 40, 41, 42, 43, 44, 45, 46, 47, 48, 49, 50, 51, 52, 53] (by decide +kernel) (by decide +kernel)
set_option maxRecDepth 20000 in
theorem gX5_copy_X5_refused : GoodIn wsX5_copy (wsV RX5 127 RX5 yX5_refused wsX5_refused) := goodIn_app (goodIn_of _ (by decide +kernel)) ggX5_copy_X5_refused
set_option maxRecDepth 20000 in
theorem ggX5_copy_X5_failed : GoodIn wsX5_copy wsX5_failed := goodIn_r _ [21, 17, 25, 26, 27, 28, 29, 30, 31, 32, 33, 34, 35, 36, 37, 38, 39, 40, 41, 42, 43, 44, 45, 46, 47, 48, 49, 50, 51, 52, 53] (by decide +kernel) (by decide +kernel)
set_option maxRecDepth 20000 in
theorem gX5_copy_X5_failed : GoodIn wsX5_copy (wsV RX5 115 RX5 yX5_failed wsX5_failed) := goodIn_app (goodIn_of _ (by decide +kernel)) ggX5_copy_X5_failed
set_option maxRecDepth 20000 in
theorem ggX5_copy_X5_isBeyond : GoodIn wsX5_copy wsX5_isBeyond := goodIn_r _ [24] (by decide +kernel) (by decide +kernel)
set_option maxRecDepth 20000 in
theorem gX5_copy_X5_isBeyond : GoodIn wsX5_copy (va_wsS RX5 119 yX5_isBeyond wsX5_isBeyond) := goodIn_app (goodIn_of _ (by decide +kernel)) ggX5_copy_X5_isBeyond
theorem dX5_copy_0 : decode cX5_copy 0 = .ok (.iload_n 1, 1) := by decide +kernel
theorem dX5_copy_1 : decode cX5_copy 1 = .ok (.invokestatic 123, 3) := by decide +kernel
theorem dX5_copy_4 : decode cX5_copy 4 = .ok (.ifCond .ne 10, 3) := by decide +kernel
theorem dX5_copy_7 : decode cX5_copy 7 = .ok (.iload_n 3, 1) := by decide +kernel
theorem dX5_copy_8 : decode cX5_copy 8 = .ok (.invokestatic 123, 3) := by decide +kernel
theorem dX5_copy_11 : decode cX5_copy 11 = .ok (.ifCond .eq 9, 3) := by decide +kernel
theorem dX5_copy_14 : decode cX5_copy 14 = .ok (.aload_n 0, 1) := by decide +kernel
theorem dX5_copy_15 : decode cX5_copy 15 = .ok (.iconst (-1), 1) := by decide +kernel
theorem dX5_copy_16 : decode cX5_copy 16 = .ok (.invokevirtual 127, 3) := by decide +kernel
theorem dX5_copy_19 : decode cX5_copy 19 = .ok (.ireturn, 1) := by decide +kernel
theorem dX5_copy_20 : decode cX5_copy 20 = .ok (.aload_n 0, 1) := by decide +kernel
theorem dX5_copy_21 : decode cX5_copy 21 = .ok (.getfield 57, 3) := by decide +kernel
theorem dX5_copy_24 : decode cX5_copy 24 = .ok (.iload_n 1, 1) := by decide +kernel
theorem dX5_copy_25 : decode cX5_copy 25 = .ok (.iaload, 1) := by decide +kernel
theorem dX5_copy_26 : decode cX5_copy 26 = .ok (.ifCond .lt 12, 3) := by decide +kernel
theorem dX5_copy_29 : decode cX5_copy 29 = .ok (.aload_n 0, 1) := by decide +kernel
theorem dX5_copy_30 : decode cX5_copy 30 = .ok (.getfield 57, 3) := by decide +kernel
theorem dX5_copy_33 : decode cX5_copy 33 = .ok (.iload_n 3, 1) := by decide +kernel
theorem dX5_copy_34 : decode cX5_copy 34 = .ok (.iaload, 1) := by decide +kernel
theorem dX5_copy_35 : decode cX5_copy 35 = .ok (.ifCond .ge 9, 3) := by decide +kernel
theorem dX5_copy_38 : decode cX5_copy 38 = .ok (.aload_n 0, 1) := by decide +kernel
theorem dX5_copy_39 : decode cX5_copy 39 = .ok (.iconst 1, 1) := by decide +kernel
theorem dX5_copy_40 : decode cX5_copy 40 = .ok (.invokevirtual 115, 3) := by decide +kernel
theorem dX5_copy_43 : decode cX5_copy 43 = .ok (.ireturn, 1) := by decide +kernel
theorem dX5_copy_44 : decode cX5_copy 44 = .ok (.aload_n 0, 1) := by decide +kernel
theorem dX5_copy_45 : decode cX5_copy 45 = .ok (.getfield 60, 3) := by decide +kernel
theorem dX5_copy_48 : decode cX5_copy 48 = .ok (.iload_n 1, 1) := by decide +kernel
theorem dX5_copy_49 : decode cX5_copy 49 = .ok (.iaload, 1) := by decide +kernel
theorem dX5_copy_50 : decode cX5_copy 50 = .ok (.aload_n 0, 1) := by decide +kernel
theorem dX5_copy_51 : decode cX5_copy 51 = .ok (.getfield 60, 3) := by decide +kernel
theorem dX5_copy_54 : decode cX5_copy 54 = .ok (.iload_n 3, 1) := by decide +kernel
theorem dX5_copy_55 : decode cX5_copy 55 = .ok (.iaload, 1) := by decide +kernel
theorem dX5_copy_56 : decode cX5_copy 56 = .ok (.if_icmp .eq 9, 3) := by decide +kernel
theorem dX5_copy_59 : decode cX5_copy 59 = .ok (.aload_n 0, 1) := by decide +kernel
theorem dX5_copy_60 : decode cX5_copy 60 = .ok (.iconst 2, 1) := by decide +kernel
theorem dX5_copy_61 : decode cX5_copy 61 = .ok (.invokevirtual 115, 3) := by decide +kernel
theorem dX5_copy_64 : decode cX5_copy 64 = .ok (.ireturn, 1) := by decide +kernel
theorem dX5_copy_65 : decode cX5_copy 65 = .ok (.iload_n 2, 1) := by decide +kernel
theorem dX5_copy_66 : decode cX5_copy 66 = .ok (.iload 5, 2) := by decide +kernel
theorem dX5_copy_68 : decode cX5_copy 68 = .ok (.i2l, 1) := by decide +kernel
theorem dX5_copy_69 : decode cX5_copy 69 = .ok (.aload_n 0, 1) := by decide +kernel
theorem dX5_copy_70 : decode cX5_copy 70 = .ok (.getfield 57, 3) := by decide +kernel
theorem dX5_copy_73 : decode cX5_copy 73 = .ok (.iload_n 1, 1) := by decide +kernel
theorem dX5_copy_74 : decode cX5_copy 74 = .ok (.iaload, 1) := by decide +kernel
theorem dX5_copy_75 : decode cX5_copy 75 = .ok (.invokestatic 119, 3) := by decide +kernel
theorem dX5_copy_78 : decode cX5_copy 78 = .ok (.ifCond .ne 20, 3) := by decide +kernel
theorem dX5_copy_81 : decode cX5_copy 81 = .ok (.iload 4, 2) := by decide +kernel
theorem dX5_copy_83 : decode cX5_copy 83 = .ok (.iload 5, 2) := by decide +kernel
theorem dX5_copy_85 : decode cX5_copy 85 = .ok (.i2l, 1) := by decide +kernel
theorem dX5_copy_86 : decode cX5_copy 86 = .ok (.aload_n 0, 1) := by decide +kernel
theorem dX5_copy_87 : decode cX5_copy 87 = .ok (.getfield 57, 3) := by decide +kernel
theorem dX5_copy_90 : decode cX5_copy 90 = .ok (.iload_n 3, 1) := by decide +kernel
theorem dX5_copy_91 : decode cX5_copy 91 = .ok (.iaload, 1) := by decide +kernel
theorem dX5_copy_92 : decode cX5_copy 92 = .ok (.invokestatic 119, 3) := by decide +kernel
theorem dX5_copy_95 : decode cX5_copy 95 = .ok (.ifCond .eq 9, 3) := by decide +kernel
theorem dX5_copy_98 : decode cX5_copy 98 = .ok (.aload_n 0, 1) := by decide +kernel
theorem dX5_copy_99 : decode cX5_copy 99 = .ok (.iconst 3, 1) := by decide +kernel
theorem dX5_copy_100 : decode cX5_copy 100 = .ok (.invokevirtual 115, 3) := by decide +kernel
theorem dX5_copy_103 : decode cX5_copy 103 = .ok (.ireturn, 1) := by decide +kernel
theorem dX5_copy_104 : decode cX5_copy 104 = .ok (.iconst 0, 1) := by decide +kernel
theorem dX5_copy_105 : decode cX5_copy 105 = .ok (.istore 6, 2) := by decide +kernel
theorem dX5_copy_107 : decode cX5_copy 107 = .ok (.iload 6, 2) := by decide +kernel
theorem dX5_copy_109 : decode cX5_copy 109 = .ok (.iload 5, 2) := by decide +kernel
theorem dX5_copy_111 : decode cX5_copy 111 = .ok (.if_icmp .ge 30, 3) := by decide +kernel
theorem dX5_copy_114 : decode cX5_copy 114 = .ok (.aload_n 0, 1) := by decide +kernel
theorem dX5_copy_115 : decode cX5_copy 115 = .ok (.getfield 66, 3) := by decide +kernel
theorem dX5_copy_118 : decode cX5_copy 118 = .ok (.iload 6, 2) := by decide +kernel
theorem dX5_copy_120 : decode cX5_copy 120 = .ok (.aload_n 0, 1) := by decide +kernel
theorem dX5_copy_121 : decode cX5_copy 121 = .ok (.getfield 63, 3) := by decide +kernel
theorem dX5_copy_124 : decode cX5_copy 124 = .ok (.bipush 60, 2) := by decide +kernel
theorem dX5_copy_126 : decode cX5_copy 126 = .ok (.iload_n 1, 1) := by decide +kernel
theorem dX5_copy_127 : decode cX5_copy 127 = .ok (.imul, 1) := by decide +kernel
theorem dX5_copy_128 : decode cX5_copy 128 = .ok (.iload_n 2, 1) := by decide +kernel
theorem dX5_copy_129 : decode cX5_copy 129 = .ok (.iadd, 1) := by decide +kernel
theorem dX5_copy_130 : decode cX5_copy 130 = .ok (.iload 6, 2) := by decide +kernel
theorem dX5_copy_132 : decode cX5_copy 132 = .ok (.iadd, 1) := by decide +kernel
theorem dX5_copy_133 : decode cX5_copy 133 = .ok (.iaload, 1) := by decide +kernel
theorem dX5_copy_134 : decode cX5_copy 134 = .ok (.iastore, 1) := by decide +kernel
theorem dX5_copy_135 : decode cX5_copy 135 = .ok (.iinc 6 1, 3) := by decide +kernel
theorem dX5_copy_138 : decode cX5_copy 138 = .ok (.goto (-31), 3) := by decide +kernel
theorem dX5_copy_141 : decode cX5_copy 141 = .ok (.iconst 0, 1) := by decide +kernel
theorem dX5_copy_142 : decode cX5_copy 142 = .ok (.istore 6, 2) := by decide +kernel
theorem dX5_copy_144 : decode cX5_copy 144 = .ok (.iload 6, 2) := by decide +kernel
theorem dX5_copy_146 : decode cX5_copy 146 = .ok (.iload 5, 2) := by decide +kernel
theorem dX5_copy_148 : decode cX5_copy 148 = .ok (.if_icmp .ge 31, 3) := by decide +kernel
theorem dX5_copy_151 : decode cX5_copy 151 = .ok (.aload_n 0, 1) := by decide +kernel
theorem dX5_copy_152 : decode cX5_copy 152 = .ok (.getfield 63, 3) := by decide +kernel
theorem dX5_copy_155 : decode cX5_copy 155 = .ok (.bipush 60, 2) := by decide +kernel
theorem dX5_copy_157 : decode cX5_copy 157 = .ok (.iload_n 3, 1) := by decide +kernel
theorem dX5_copy_158 : decode cX5_copy 158 = .ok (.imul, 1) := by decide +kernel
theorem dX5_copy_159 : decode cX5_copy 159 = .ok (.iload 4, 2) := by decide +kernel
theorem dX5_copy_161 : decode cX5_copy 161 = .ok (.iadd, 1) := by decide +kernel
theorem dX5_copy_162 : decode cX5_copy 162 = .ok (.iload 6, 2) := by decide +kernel
theorem dX5_copy_164 : decode cX5_copy 164 = .ok (.iadd, 1) := by decide +kernel
theorem dX5_copy_165 : decode cX5_copy 165 = .ok (.aload_n 0, 1) := by decide +kernel
theorem dX5_copy_166 : decode cX5_copy 166 = .ok (.getfield 66, 3) := by decide +kernel
theorem dX5_copy_169 : decode cX5_copy 169 = .ok (.iload 6, 2) := by decide +kernel
theorem dX5_copy_171 : decode cX5_copy 171 = .ok (.iaload, 1) := by decide +kernel
theorem dX5_copy_172 : decode cX5_copy 172 = .ok (.iastore, 1) := by decide +kernel
theorem dX5_copy_173 : decode cX5_copy 173 = .ok (.iinc 6 1, 3) := by decide +kernel
theorem dX5_copy_176 : decode cX5_copy 176 = .ok (.goto (-32), 3) := by decide +kernel
theorem dX5_copy_179 : decode cX5_copy 179 = .ok (.aload_n 0, 1) := by decide +kernel
theorem dX5_copy_180 : decode cX5_copy 180 = .ok (.iload 5, 2) := by decide +kernel
theorem dX5_copy_182 : decode cX5_copy 182 = .ok (.invokevirtual 127, 3) := by decide +kernel
theorem dX5_copy_185 : decode cX5_copy 185 = .ok (.ireturn, 1) := by decide +kernel
theorem dX5_traced_0 : decode cX5_traced 0 = .ok (.aload_n 0, 1) := by decide +kernel
theorem dX5_traced_1 : decode cX5_traced 1 = .ok (.bipush 31, 2) := by decide +kernel
theorem dX5_traced_3 : decode cX5_traced 3 = .ok (.aload_n 0, 1) := by decide +kernel
theorem dX5_traced_4 : decode cX5_traced 4 = .ok (.getfield 210, 3) := by decide +kernel
theorem dX5_traced_7 : decode cX5_traced 7 = .ok (.imul, 1) := by decide +kernel
theorem dX5_traced_8 : decode cX5_traced 8 = .ok (.iload_n 1, 1) := by decide +kernel
theorem dX5_traced_9 : decode cX5_traced 9 = .ok (.iadd, 1) := by decide +kernel
theorem dX5_traced_10 : decode cX5_traced 10 = .ok (.putfield 210, 3) := by decide +kernel
theorem dX5_traced_13 : decode cX5_traced 13 = .ok (.return_, 1) := by decide +kernel
set_option maxRecDepth 20000 in
theorem ggX5_tell_X5_noEater : GoodIn wsX5_tell wsX5_noEater := goodIn_r _ [7, 8, 9, 10, 6, 11, 17, 18, 19, 20, 21, 22, 23, 24, 25, 26, 27, 28, 29, 30, 31, 32, 33, 34, 35, 36, 37, 38, 39, 40, 41, 42, 43, 44, 45] (by decide +kernel) (by decide +kernel)
set_option maxRecDepth 20000 in
theorem gX5_tell_X5_noEater : GoodIn wsX5_tell (wsV RX5 145 RX5 yX5_noEater wsX5_noEater) := goodIn_app (goodIn_of _ (by decide +kernel)) ggX5_tell_X5_noEater
set_option maxRecDepth 20000 in
theorem ggX5_tell_X5_traced : GoodIn wsX5_tell wsX5_traced := goodIn_r _ [15, 16, 17, 18, 19, 20, 21, 22, 23, 24, 25, 26, 27, 28, 29, 30, 31, 32, 33, 34, 35, 36, 37, 38, 39, 40, 41, 42, 43, 44, 45] (by decide +kernel) (by decide +kernel)
set_option maxRecDepth 20000 in
theorem gX5_tell_X5_traced : GoodIn wsX5_tell (wsV RX5 213 RX5 yX5_traced wsX5_traced) := goodIn_app (goodIn_of _ (by decide +kernel)) ggX5_tell_X5_traced
theorem dX5_tell_0 : decode cX5_tell 0 = .ok (.aload_n 0, 1) := by decide +kernel
theorem dX5_tell_1 : decode cX5_tell 1 = .ok (.iload_n 1, 1) := by decide +kernel
theorem dX5_tell_2 : decode cX5_tell 2 = .ok (.invokevirtual 145, 3) := by decide +kernel
theorem dX5_tell_5 : decode cX5_tell 5 = .ok (.ifCond .eq 5, 3) := by decide +kernel
theorem dX5_tell_8 : decode cX5_tell 8 = .ok (.iconst (-1), 1) := by decide +kernel
theorem dX5_tell_9 : decode cX5_tell 9 = .ok (.ireturn, 1) := by decide +kernel
theorem dX5_tell_10 : decode cX5_tell 10 = .ok (.aload_n 0, 1) := by decide +kernel
theorem dX5_tell_11 : decode cX5_tell 11 = .ok (.getfield 13, 3) := by decide +kernel
theorem dX5_tell_14 : decode cX5_tell 14 = .ok (.iload_n 1, 1) := by decide +kernel
theorem dX5_tell_15 : decode cX5_tell 15 = .ok (.iaload, 1) := by decide +kernel
theorem dX5_tell_16 : decode cX5_tell 16 = .ok (.istore_n 2, 1) := by decide +kernel
theorem dX5_tell_17 : decode cX5_tell 17 = .ok (.iload_n 2, 1) := by decide +kernel
theorem dX5_tell_18 : decode cX5_tell 18 = .ok (.iconst 2, 1) := by decide +kernel
theorem dX5_tell_19 : decode cX5_tell 19 = .ok (.if_icmp .ne 8, 3) := by decide +kernel
theorem dX5_tell_22 : decode cX5_tell 22 = .ok (.aload_n 0, 1) := by decide +kernel
theorem dX5_tell_23 : decode cX5_tell 23 = .ok (.iconst 3, 1) := by decide +kernel
theorem dX5_tell_24 : decode cX5_tell 24 = .ok (.invokevirtual 213, 3) := by decide +kernel
theorem dX5_tell_27 : decode cX5_tell 27 = .ok (.iload_n 2, 1) := by decide +kernel
theorem dX5_tell_28 : decode cX5_tell 28 = .ok (.ifCond .le 8, 3) := by decide +kernel
theorem dX5_tell_31 : decode cX5_tell 31 = .ok (.aload_n 0, 1) := by decide +kernel
theorem dX5_tell_32 : decode cX5_tell 32 = .ok (.iconst 2, 1) := by decide +kernel
theorem dX5_tell_33 : decode cX5_tell 33 = .ok (.invokevirtual 213, 3) := by decide +kernel
theorem dX5_tell_36 : decode cX5_tell 36 = .ok (.aload_n 0, 1) := by decide +kernel
theorem dX5_tell_37 : decode cX5_tell 37 = .ok (.iconst 1, 1) := by decide +kernel
theorem dX5_tell_38 : decode cX5_tell 38 = .ok (.invokevirtual 213, 3) := by decide +kernel
theorem dX5_tell_41 : decode cX5_tell 41 = .ok (.iload_n 2, 1) := by decide +kernel
theorem dX5_tell_42 : decode cX5_tell 42 = .ok (.iconst 2, 1) := by decide +kernel
theorem dX5_tell_43 : decode cX5_tell 43 = .ok (.if_icmp .ne 8, 3) := by decide +kernel
theorem dX5_tell_46 : decode cX5_tell 46 = .ok (.aload_n 0, 1) := by decide +kernel
theorem dX5_tell_47 : decode cX5_tell 47 = .ok (.iconst 1, 1) := by decide +kernel
theorem dX5_tell_48 : decode cX5_tell 48 = .ok (.invokevirtual 213, 3) := by decide +kernel
theorem dX5_tell_51 : decode cX5_tell 51 = .ok (.aload_n 0, 1) := by decide +kernel
theorem dX5_tell_52 : decode cX5_tell 52 = .ok (.getfield 19, 3) := by decide +kernel
theorem dX5_tell_55 : decode cX5_tell 55 = .ok (.iload_n 1, 1) := by decide +kernel
theorem dX5_tell_56 : decode cX5_tell 56 = .ok (.iaload, 1) := by decide +kernel
theorem dX5_tell_57 : decode cX5_tell 57 = .ok (.istore_n 3, 1) := by decide +kernel
theorem dX5_tell_58 : decode cX5_tell 58 = .ok (.iload_n 2, 1) := by decide +kernel
theorem dX5_tell_59 : decode cX5_tell 59 = .ok (.ifCond .ne 7, 3) := by decide +kernel
theorem dX5_tell_62 : decode cX5_tell 62 = .ok (.iload_n 3, 1) := by decide +kernel
theorem dX5_tell_63 : decode cX5_tell 63 = .ok (.goto 21, 3) := by decide +kernel
theorem dX5_tell_66 : decode cX5_tell 66 = .ok (.iload_n 2, 1) := by decide +kernel
theorem dX5_tell_67 : decode cX5_tell 67 = .ok (.iconst 1, 1) := by decide +kernel
theorem dX5_tell_68 : decode cX5_tell 68 = .ok (.if_icmp .ne 10, 3) := by decide +kernel
theorem dX5_tell_71 : decode cX5_tell 71 = .ok (.iload_n 3, 1) := by decide +kernel
theorem dX5_tell_72 : decode cX5_tell 72 = .ok (.bipush 100, 2) := by decide +kernel
theorem dX5_tell_74 : decode cX5_tell 74 = .ok (.iadd, 1) := by decide +kernel
theorem dX5_tell_75 : decode cX5_tell 75 = .ok (.goto 9, 3) := by decide +kernel
theorem dX5_tell_78 : decode cX5_tell 78 = .ok (.iconst 2, 1) := by decide +kernel
theorem dX5_tell_79 : decode cX5_tell 79 = .ok (.iload_n 3, 1) := by decide +kernel
theorem dX5_tell_80 : decode cX5_tell 80 = .ok (.imul, 1) := by decide +kernel
theorem dX5_tell_81 : decode cX5_tell 81 = .ok (.bipush 100, 2) := by decide +kernel
theorem dX5_tell_83 : decode cX5_tell 83 = .ok (.iadd, 1) := by decide +kernel
theorem dX5_tell_84 : decode cX5_tell 84 = .ok (.ireturn, 1) := by decide +kernel
set_option maxRecDepth 20000 in
theorem ggX5_sniff_X5_noEater : GoodIn wsX5_sniff wsX5_noEater := goodIn_r _ [6, 7, 8, 9, 5, 10, 16, 17, 18, 19, 20, 21, 22, 23, 24, 25, 26, 27, 28, 29, 30, 31, 32, 33, 34, 35, 36, 37, 38, 39, 40, 41, 42, 43, 44] (by decide +kernel) (by decide +kernel)
set_option maxRecDepth 20000 in
theorem gX5_sniff_X5_noEater : GoodIn wsX5_sniff (wsV RX5 145 RX5 yX5_noEater wsX5_noEater) := goodIn_app (goodIn_of _ (by decide +kernel)) ggX5_sniff_X5_noEater
set_option maxRecDepth 20000 in
theorem ggX5_sniff_X5_traced : GoodIn wsX5_sniff wsX5_traced := goodIn_r _ [14, 15, 16, 17, 18, 19, 20, 21, 22, 23, 24, 25, 26, 27, 28, 29, 30, 31, 32, 33, 34, 35, 36, 37, 38, 39, 40, 41, 42, 43, 44] (by decide +kernel) (by decide +kernel)
set_option maxRecDepth 20000 in
theorem gX5_sniff_X5_traced : GoodIn wsX5_sniff (wsV RX5 213 RX5 yX5_traced wsX5_traced) := goodIn_app (goodIn_of _ (by decide +kernel)) ggX5_sniff_X5_traced
theorem dX5_sniff_0 : decode cX5_sniff 0 = .ok (.aload_n 0, 1) := by decide +kernel
theorem dX5_sniff_1 : decode cX5_sniff 1 = .ok (.iload_n 1, 1) := by decide +kernel
theorem dX5_sniff_2 : decode cX5_sniff 2 = .ok (.invokevirtual 145, 3) := by decide +kernel
theorem dX5_sniff_5 : decode cX5_sniff 5 = .ok (.ifCond .eq 5, 3) := by decide +kernel
theorem dX5_sniff_8 : decode cX5_sniff 8 = .ok (.iconst (-1), 1) := by decide +kernel
theorem dX5_sniff_9 : decode cX5_sniff 9 = .ok (.ireturn, 1) := by decide +kernel
theorem dX5_sniff_10 : decode cX5_sniff 10 = .ok (.aload_n 0, 1) := by decide +kernel
theorem dX5_sniff_11 : decode cX5_sniff 11 = .ok (.aload_n 0, 1) := by decide +kernel
theorem dX5_sniff_12 : decode cX5_sniff 12 = .ok (.getfield 13, 3) := by decide +kernel
theorem dX5_sniff_15 : decode cX5_sniff 15 = .ok (.iload_n 1, 1) := by decide +kernel
theorem dX5_sniff_16 : decode cX5_sniff 16 = .ok (.iaload, 1) := by decide +kernel
theorem dX5_sniff_17 : decode cX5_sniff 17 = .ok (.iconst 2, 1) := by decide +kernel
theorem dX5_sniff_18 : decode cX5_sniff 18 = .ok (.if_icmp .ne 7, 3) := by decide +kernel
theorem dX5_sniff_21 : decode cX5_sniff 21 = .ok (.iconst 5, 1) := by decide +kernel
theorem dX5_sniff_22 : decode cX5_sniff 22 = .ok (.goto 4, 3) := by decide +kernel
theorem dX5_sniff_25 : decode cX5_sniff 25 = .ok (.iconst 4, 1) := by decide +kernel
theorem dX5_sniff_26 : decode cX5_sniff 26 = .ok (.invokevirtual 213, 3) := by decide +kernel
theorem dX5_sniff_29 : decode cX5_sniff 29 = .ok (.aload_n 0, 1) := by decide +kernel
theorem dX5_sniff_30 : decode cX5_sniff 30 = .ok (.getfield 13, 3) := by decide +kernel
theorem dX5_sniff_33 : decode cX5_sniff 33 = .ok (.iload_n 1, 1) := by decide +kernel
theorem dX5_sniff_34 : decode cX5_sniff 34 = .ok (.iaload, 1) := by decide +kernel
theorem dX5_sniff_35 : decode cX5_sniff 35 = .ok (.iconst 2, 1) := by decide +kernel
theorem dX5_sniff_36 : decode cX5_sniff 36 = .ok (.if_icmp .ne 8, 3) := by decide +kernel
theorem dX5_sniff_39 : decode cX5_sniff 39 = .ok (.bipush 40, 2) := by decide +kernel
theorem dX5_sniff_41 : decode cX5_sniff 41 = .ok (.goto 4, 3) := by decide +kernel
theorem dX5_sniff_44 : decode cX5_sniff 44 = .ok (.iload_n 1, 1) := by decide +kernel
theorem dX5_sniff_45 : decode cX5_sniff 45 = .ok (.ireturn, 1) := by decide +kernel
set_option maxRecDepth 20000 in
theorem ggX5_as_X5_noEater : GoodIn wsX5_as wsX5_noEater := goodIn_r _ [7, 8, 9, 10, 6, 11, 21, 22, 23, 24, 25, 26, 27, 28, 29, 30, 31, 32, 33, 34, 35, 36, 37, 38, 39, 40, 41, 42, 43, 44, 45, 46, 47, 48, 49] (by decide +kernel) (by decide +kernel)
set_option maxRecDepth 20000 in
theorem gX5_as_X5_noEater : GoodIn wsX5_as (wsV RX5 145 RX5 yX5_noEater wsX5_noEater) := goodIn_app (goodIn_of _ (by decide +kernel)) ggX5_as_X5_noEater
set_option maxRecDepth 20000 in
theorem ggX5_as_X5_refused : GoodIn wsX5_as wsX5_refused := goodIn_r _ [15, 16, 21, 22, 23, 24, 25, 26, 27, 28, 29, 30, 31, 32, 33, 34, 35, 36, 37, 38, 39, 40, 41, 42, 43, 44, 45, 46, 47, 48, 49] (by decide +kernel) (by decide +kernel)
set_option maxRecDepth 20000 in
theorem gX5_as_X5_refused : GoodIn wsX5_as (wsV RX5 127 RX5 yX5_refused wsX5_refused) := goodIn_app (goodIn_of _ (by decide +kernel)) ggX5_as_X5_refused
set_option maxRecDepth 20000 in
theorem ggX5_as_X5_in : GoodIn wsX5_as wsX5_in := goodIn_r _ [11] (by decide +kernel) (by decide +kernel)
set_option maxRecDepth 20000 in
theorem gX5_as_X5_in : GoodIn wsX5_as (va_wsS RX5 81 yX5_in wsX5_in) := goodIn_app (goodIn_of _ (by decide +kernel)) ggX5_as_X5_in
set_option maxRecDepth 20000 in
theorem ggX5_as_X5_failed : GoodIn wsX5_as wsX5_failed := goodIn_r _ [20, 16, 21, 22, 23, 24, 25, 26, 27, 28, 29, 30, 31, 32, 33, 34, 35, 36, 37, 38, 39, 40, 41, 42, 43, 44, 45, 46, 47, 48, 49] (by decide +kernel) (by decide +kernel)
set_option maxRecDepth 20000 in
theorem gX5_as_X5_failed : GoodIn wsX5_as (wsV RX5 115 RX5 yX5_failed wsX5_failed) := goodIn_app (goodIn_of _ (by decide +kernel)) ggX5_as_X5_failed
theorem dX5_as_0 : decode cX5_as 0 = .ok (.aload_n 0, 1) := by decide +kernel
theorem dX5_as_1 : decode cX5_as 1 = .ok (.iload_n 1, 1) := by decide +kernel
theorem dX5_as_2 : decode cX5_as 2 = .ok (.invokevirtual 145, 3) := by decide +kernel
theorem dX5_as_5 : decode cX5_as 5 = .ok (.ifCond .eq 9, 3) := by decide +kernel
theorem dX5_as_8 : decode cX5_as 8 = .ok (.aload_n 0, 1) := by decide +kernel
theorem dX5_as_9 : decode cX5_as 9 = .ok (.iconst (-1), 1) := by decide +kernel
theorem dX5_as_10 : decode cX5_as 10 = .ok (.invokevirtual 127, 3) := by decide +kernel
theorem dX5_as_13 : decode cX5_as 13 = .ok (.ireturn, 1) := by decide +kernel
theorem dX5_as_14 : decode cX5_as 14 = .ok (.iload_n 2, 1) := by decide +kernel
theorem dX5_as_15 : decode cX5_as 15 = .ok (.i2l, 1) := by decide +kernel
theorem dX5_as_16 : decode cX5_as 16 = .ok (.lconst 0, 1) := by decide +kernel
theorem dX5_as_17 : decode cX5_as 17 = .ok (.ldc2_w 130, 3) := by decide +kernel
theorem dX5_as_20 : decode cX5_as 20 = .ok (.invokestatic 81, 3) := by decide +kernel
theorem dX5_as_23 : decode cX5_as 23 = .ok (.ifCond .ne 10, 3) := by decide +kernel
theorem dX5_as_26 : decode cX5_as 26 = .ok (.aload_n 0, 1) := by decide +kernel
theorem dX5_as_27 : decode cX5_as 27 = .ok (.bipush (-2), 2) := by decide +kernel
theorem dX5_as_29 : decode cX5_as 29 = .ok (.invokevirtual 127, 3) := by decide +kernel
theorem dX5_as_32 : decode cX5_as 32 = .ok (.ireturn, 1) := by decide +kernel
theorem dX5_as_33 : decode cX5_as 33 = .ok (.aload_n 0, 1) := by decide +kernel
theorem dX5_as_34 : decode cX5_as 34 = .ok (.getfield 13, 3) := by decide +kernel
theorem dX5_as_37 : decode cX5_as 37 = .ok (.iload_n 1, 1) := by decide +kernel
theorem dX5_as_38 : decode cX5_as 38 = .ok (.iaload, 1) := by decide +kernel
theorem dX5_as_39 : decode cX5_as 39 = .ok (.iload_n 2, 1) := by decide +kernel
theorem dX5_as_40 : decode cX5_as 40 = .ok (.if_icmp .lt 11, 3) := by decide +kernel
theorem dX5_as_43 : decode cX5_as 43 = .ok (.aload_n 0, 1) := by decide +kernel
theorem dX5_as_44 : decode cX5_as 44 = .ok (.iconst 1, 1) := by decide +kernel
theorem dX5_as_45 : decode cX5_as 45 = .ok (.invokevirtual 127, 3) := by decide +kernel
theorem dX5_as_48 : decode cX5_as 48 = .ok (.goto 8, 3) := by decide +kernel
theorem dX5_as_51 : decode cX5_as 51 = .ok (.aload_n 0, 1) := by decide +kernel
theorem dX5_as_52 : decode cX5_as 52 = .ok (.iconst 2, 1) := by decide +kernel
theorem dX5_as_53 : decode cX5_as 53 = .ok (.invokevirtual 115, 3) := by decide +kernel
theorem dX5_as_56 : decode cX5_as 56 = .ok (.ireturn, 1) := by decide +kernel
theorem dX5_trace_0 : decode cX5_trace 0 = .ok (.aload_n 0, 1) := by decide +kernel
theorem dX5_trace_1 : decode cX5_trace 1 = .ok (.getfield 210, 3) := by decide +kernel
theorem dX5_trace_4 : decode cX5_trace 4 = .ok (.ireturn, 1) := by decide +kernel
theorem dX5_fault_0 : decode cX5_fault 0 = .ok (.aload_n 0, 1) := by decide +kernel
theorem dX5_fault_1 : decode cX5_fault 1 = .ok (.getfield 71, 3) := by decide +kernel
theorem dX5_fault_4 : decode cX5_fault 4 = .ok (.ireturn, 1) := by decide +kernel
theorem dX5_many_0 : decode cX5_many 0 = .ok (.iload_n 1, 1) := by decide +kernel
theorem dX5_many_1 : decode cX5_many 1 = .ok (.tableswitch 51 0 3 #[31, 36, 41, 46], 31) := by decide +kernel
theorem dX5_many_32 : decode cX5_many 32 = .ok (.aload_n 0, 1) := by decide +kernel
theorem dX5_many_33 : decode cX5_many 33 = .ok (.getfield 85, 3) := by decide +kernel
theorem dX5_many_36 : decode cX5_many 36 = .ok (.ireturn, 1) := by decide +kernel
theorem dX5_many_37 : decode cX5_many 37 = .ok (.aload_n 0, 1) := by decide +kernel
theorem dX5_many_38 : decode cX5_many 38 = .ok (.getfield 78, 3) := by decide +kernel
theorem dX5_many_41 : decode cX5_many 41 = .ok (.ireturn, 1) := by decide +kernel
theorem dX5_many_42 : decode cX5_many 42 = .ok (.aload_n 0, 1) := by decide +kernel
theorem dX5_many_43 : decode cX5_many 43 = .ok (.getfield 139, 3) := by decide +kernel
theorem dX5_many_46 : decode cX5_many 46 = .ok (.ireturn, 1) := by decide +kernel
theorem dX5_many_47 : decode cX5_many 47 = .ok (.aload_n 0, 1) := by decide +kernel
theorem dX5_many_48 : decode cX5_many 48 = .ok (.getfield 142, 3) := by decide +kernel
theorem dX5_many_51 : decode cX5_many 51 = .ok (.ireturn, 1) := by decide +kernel
theorem dX5_many_52 : decode cX5_many 52 = .ok (.bipush (-2), 2) := by decide +kernel
theorem dX5_many_54 : decode cX5_many 54 = .ok (.ireturn, 1) := by decide +kernel
theorem dJ6_bitCount_0f7a4_0 : decode cJ6_bitCount_0f7a4 0 = .ok (.iload_n 0, 1) := by decide +kernel
theorem dJ6_bitCount_0f7a4_1 : decode cJ6_bitCount_0f7a4 1 = .ok (.iload_n 0, 1) := by decide +kernel
theorem dJ6_bitCount_0f7a4_2 : decode cJ6_bitCount_0f7a4 2 = .ok (.iconst 1, 1) := by decide +kernel
theorem dJ6_bitCount_0f7a4_3 : decode cJ6_bitCount_0f7a4 3 = .ok (.iushr, 1) := by decide +kernel
theorem dJ6_bitCount_0f7a4_4 : decode cJ6_bitCount_0f7a4 4 = .ok (.ldc_w 265, 3) := by decide +kernel
theorem dJ6_bitCount_0f7a4_7 : decode cJ6_bitCount_0f7a4 7 = .ok (.iand, 1) := by decide +kernel
theorem dJ6_bitCount_0f7a4_8 : decode cJ6_bitCount_0f7a4 8 = .ok (.isub, 1) := by decide +kernel
theorem dJ6_bitCount_0f7a4_9 : decode cJ6_bitCount_0f7a4 9 = .ok (.istore_n 0, 1) := by decide +kernel
theorem dJ6_bitCount_0f7a4_10 : decode cJ6_bitCount_0f7a4 10 = .ok (.iload_n 0, 1) := by decide +kernel
theorem dJ6_bitCount_0f7a4_11 : decode cJ6_bitCount_0f7a4 11 = .ok (.ldc_w 266, 3) := by decide +kernel
theorem dJ6_bitCount_0f7a4_14 : decode cJ6_bitCount_0f7a4 14 = .ok (.iand, 1) := by decide +kernel
theorem dJ6_bitCount_0f7a4_15 : decode cJ6_bitCount_0f7a4 15 = .ok (.iload_n 0, 1) := by decide +kernel
theorem dJ6_bitCount_0f7a4_16 : decode cJ6_bitCount_0f7a4 16 = .ok (.iconst 2, 1) := by decide +kernel
theorem dJ6_bitCount_0f7a4_17 : decode cJ6_bitCount_0f7a4 17 = .ok (.iushr, 1) := by decide +kernel
theorem dJ6_bitCount_0f7a4_18 : decode cJ6_bitCount_0f7a4 18 = .ok (.ldc_w 266, 3) := by decide +kernel
theorem dJ6_bitCount_0f7a4_21 : decode cJ6_bitCount_0f7a4 21 = .ok (.iand, 1) := by decide +kernel
theorem dJ6_bitCount_0f7a4_22 : decode cJ6_bitCount_0f7a4 22 = .ok (.iadd, 1) := by decide +kernel
theorem dJ6_bitCount_0f7a4_23 : decode cJ6_bitCount_0f7a4 23 = .ok (.istore_n 0, 1) := by decide +kernel
theorem dJ6_bitCount_0f7a4_24 : decode cJ6_bitCount_0f7a4 24 = .ok (.iload_n 0, 1) := by decide +kernel
theorem dJ6_bitCount_0f7a4_25 : decode cJ6_bitCount_0f7a4 25 = .ok (.iload_n 0, 1) := by decide +kernel
theorem dJ6_bitCount_0f7a4_26 : decode cJ6_bitCount_0f7a4 26 = .ok (.iconst 4, 1) := by decide +kernel
theorem dJ6_bitCount_0f7a4_27 : decode cJ6_bitCount_0f7a4 27 = .ok (.iushr, 1) := by decide +kernel
theorem dJ6_bitCount_0f7a4_28 : decode cJ6_bitCount_0f7a4 28 = .ok (.iadd, 1) := by decide +kernel
theorem dJ6_bitCount_0f7a4_29 : decode cJ6_bitCount_0f7a4 29 = .ok (.ldc_w 267, 3) := by decide +kernel
theorem dJ6_bitCount_0f7a4_32 : decode cJ6_bitCount_0f7a4 32 = .ok (.iand, 1) := by decide +kernel
theorem dJ6_bitCount_0f7a4_33 : decode cJ6_bitCount_0f7a4 33 = .ok (.istore_n 0, 1) := by decide +kernel
theorem dJ6_bitCount_0f7a4_34 : decode cJ6_bitCount_0f7a4 34 = .ok (.iload_n 0, 1) := by decide +kernel
theorem dJ6_bitCount_0f7a4_35 : decode cJ6_bitCount_0f7a4 35 = .ok (.iload_n 0, 1) := by decide +kernel
theorem dJ6_bitCount_0f7a4_36 : decode cJ6_bitCount_0f7a4 36 = .ok (.bipush 8, 2) := by decide +kernel
theorem dJ6_bitCount_0f7a4_38 : decode cJ6_bitCount_0f7a4 38 = .ok (.iushr, 1) := by decide +kernel
theorem dJ6_bitCount_0f7a4_39 : decode cJ6_bitCount_0f7a4 39 = .ok (.iadd, 1) := by decide +kernel
theorem dJ6_bitCount_0f7a4_40 : decode cJ6_bitCount_0f7a4 40 = .ok (.istore_n 0, 1) := by decide +kernel
theorem dJ6_bitCount_0f7a4_41 : decode cJ6_bitCount_0f7a4 41 = .ok (.iload_n 0, 1) := by decide +kernel
theorem dJ6_bitCount_0f7a4_42 : decode cJ6_bitCount_0f7a4 42 = .ok (.iload_n 0, 1) := by decide +kernel
theorem dJ6_bitCount_0f7a4_43 : decode cJ6_bitCount_0f7a4 43 = .ok (.bipush 16, 2) := by decide +kernel
theorem dJ6_bitCount_0f7a4_45 : decode cJ6_bitCount_0f7a4 45 = .ok (.iushr, 1) := by decide +kernel
theorem dJ6_bitCount_0f7a4_46 : decode cJ6_bitCount_0f7a4 46 = .ok (.iadd, 1) := by decide +kernel
theorem dJ6_bitCount_0f7a4_47 : decode cJ6_bitCount_0f7a4 47 = .ok (.istore_n 0, 1) := by decide +kernel
theorem dJ6_bitCount_0f7a4_48 : decode cJ6_bitCount_0f7a4 48 = .ok (.iload_n 0, 1) := by decide +kernel
theorem dJ6_bitCount_0f7a4_49 : decode cJ6_bitCount_0f7a4 49 = .ok (.bipush 63, 2) := by decide +kernel
theorem dJ6_bitCount_0f7a4_51 : decode cJ6_bitCount_0f7a4 51 = .ok (.iand, 1) := by decide +kernel
theorem dJ6_bitCount_0f7a4_52 : decode cJ6_bitCount_0f7a4 52 = .ok (.ireturn, 1) := by decide +kernel
theorem dJ7_fill_53178_0 : decode cJ7_fill_53178 0 = .ok (.iconst 0, 1) := by decide +kernel
theorem dJ7_fill_53178_1 : decode cJ7_fill_53178 1 = .ok (.istore_n 2, 1) := by decide +kernel
theorem dJ7_fill_53178_2 : decode cJ7_fill_53178 2 = .ok (.aload_n 0, 1) := by decide +kernel
theorem dJ7_fill_53178_3 : decode cJ7_fill_53178 3 = .ok (.arraylength, 1) := by decide +kernel
theorem dJ7_fill_53178_4 : decode cJ7_fill_53178 4 = .ok (.istore_n 3, 1) := by decide +kernel
theorem dJ7_fill_53178_5 : decode cJ7_fill_53178 5 = .ok (.iload_n 2, 1) := by decide +kernel
theorem dJ7_fill_53178_6 : decode cJ7_fill_53178 6 = .ok (.iload_n 3, 1) := by decide +kernel
theorem dJ7_fill_53178_7 : decode cJ7_fill_53178 7 = .ok (.if_icmp .ge 13, 3) := by decide +kernel
theorem dJ7_fill_53178_10 : decode cJ7_fill_53178 10 = .ok (.aload_n 0, 1) := by decide +kernel
theorem dJ7_fill_53178_11 : decode cJ7_fill_53178 11 = .ok (.iload_n 2, 1) := by decide +kernel
theorem dJ7_fill_53178_12 : decode cJ7_fill_53178 12 = .ok (.iload_n 1, 1) := by decide +kernel
theorem dJ7_fill_53178_13 : decode cJ7_fill_53178 13 = .ok (.iastore, 1) := by decide +kernel
theorem dJ7_fill_53178_14 : decode cJ7_fill_53178 14 = .ok (.iinc 2 1, 3) := by decide +kernel
theorem dJ7_fill_53178_17 : decode cJ7_fill_53178 17 = .ok (.goto (-12), 3) := by decide +kernel
theorem dJ7_fill_53178_20 : decode cJ7_fill_53178 20 = .ok (.return_, 1) := by decide +kernel
set_option maxRecDepth 20000 in
theorem ggL_law_X4_init : GoodIn wsL_law wsX4_init := goodIn_r _ [8, 9, 10, 11, 12, 13, 14, 15, 16, 17, 18, 19, 20, 21, 22, 23, 24, 25, 26, 27, 28, 29, 30, 31, 32, 33, 34, 35, 36, 37, 38, 39, 40, 41, 42, 43, 44, 45, 789, 790, 791, 792, 793, 794, 795, 796, 755, 756, 757, 758, 759, 797, 798, 799, 800, 801, 802, 803, 804] (by decide +kernel) (by decide +kernel)
set_option maxRecDepth 20000 in
theorem gL_law_X4_init : GoodIn wsL_law (wsX4_init) := ggL_law_X4_init
set_option maxRecDepth 20000 in
theorem ggL_law_X5_init : GoodIn wsL_law wsX5_init := goodIn_r _ [48, 49, 10, 11, 27, 50, 51, 52, 53, 54, 55, 56, 57, 58, 59, 60, 61, 62, 63, 39, 64, 65, 66, 67, 68, 760, 761, 762, 763, 764, 765, 766, 767, 768, 769, 770, 771, 772, 773, 774, 775, 776, 777, 778, 779, 780, 781, 782, 783, 784, 785, 786, 787, 788] (by decide +kernel) (by decide +kernel)
set_option maxRecDepth 20000 in
theorem gL_law_X5_init : GoodIn wsL_law (wsX5_init) := ggL_law_X5_init
set_option maxRecDepth 20000 in
theorem ggL_law_X4_duchy : GoodIn wsL_law wsX4_duchy := goodIn_r _ [72, 73, 15, 19, 74, 75, 76, 2, 77, 21, 78, 79, 80, 81, 82, 83, 23, 84, 85, 86, 87, 88, 89, 45, 90, 91, 92, 93, 94, 95, 96, 97, 98, 99, 100, 101, 102, 103, 104, 105, 44, 106, 107, 108, 109, 110, 111, 112, 113, 114, 115, 116, 117, 118, 119, 120, 121, 122, 14, 123, 124, 125, 126, 28, 29, 30, 31, 32, 127, 128, 129, 130, 131, 132, 133, 134, 135, 136, 137, 138, 139, 18, 140, 141, 142, 143, 144, 145, 755, 756, 757, 758, 759, 802, 803, 804, 789, 790, 791, 792, 793, 794, 795, 796, 797, 798, 799, 800, 801] (by decide +kernel) (by decide +kernel)
set_option maxRecDepth 20000 in
theorem gL_law_X4_duchy : GoodIn wsL_law (wsV RL 13 RX4 yX4_duchy wsX4_duchy) := goodIn_app (goodIn_of _ (by decide +kernel)) ggL_law_X4_duchy
set_option maxRecDepth 20000 in
theorem ggL_law_X5_duchy : GoodIn wsL_law wsX5_duchy := goodIn_r _ [149, 150, 151, 152, 153, 154, 155, 156, 157, 50, 56, 51, 57, 52, 58, 53, 59, 54, 60, 158, 159, 160, 5, 161, 162, 163, 164, 165, 166, 167, 168, 169, 170, 171, 172, 173, 174, 65, 66, 175, 176, 177, 178, 179, 180, 181, 182, 183, 184, 185, 186, 187, 188, 189, 67, 190, 191, 192, 193, 194, 195, 196, 197, 198, 199, 200, 201, 760, 761, 762, 763, 764, 765, 766, 767, 768, 769, 770, 771, 772, 773, 774, 775, 776, 777, 778, 779, 780, 781, 782, 783, 784, 785, 786, 787, 788] (by decide +kernel) (by decide +kernel)
set_option maxRecDepth 20000 in
theorem gL_law_X5_duchy : GoodIn wsL_law (wsV RL 17 RX5 yX5_duchy wsX5_duchy) := goodIn_app (goodIn_of _ (by decide +kernel)) ggL_law_X5_duchy
set_option maxRecDepth 20000 in
theorem ggL_law_X4_ofEater : GoodIn wsL_law wsX4_ofEater := goodIn_r _ [205, 15, 206, 207, 208, 14, 209, 126, 210, 211, 212, 213, 29, 106, 2, 107, 214, 215, 216, 217, 30, 218, 219, 220, 221, 31, 222, 223, 224, 225, 32, 226, 227, 228, 229, 230, 231, 232, 755, 756, 757, 758, 759, 789, 790, 791, 792, 793, 794, 795, 796] (by decide +kernel) (by decide +kernel)
set_option maxRecDepth 20000 in
theorem gL_law_X4_ofEater : GoodIn wsL_law (wsV RL 18 RX4 yX4_ofEater wsX4_ofEater) := goodIn_app (goodIn_of _ (by decide +kernel)) ggL_law_X4_ofEater
set_option maxRecDepth 20000 in
theorem ggL_law_X5_ofEater : GoodIn wsL_law wsX5_ofEater := goodIn_r _ [236, 51, 52, 53, 54, 237, 238, 239, 5, 240, 157, 163, 164, 165, 241, 242, 243, 244, 760, 761, 762, 763, 764, 765, 766, 767, 768, 769, 770, 771, 772, 773, 774, 775, 776, 777, 778, 779, 780, 781, 782, 783, 784, 785, 786, 787, 788] (by decide +kernel) (by decide +kernel)
set_option maxRecDepth 20000 in
theorem gL_law_X5_ofEater : GoodIn wsL_law (wsV RL 22 RX5 yX5_ofEater wsX5_ofEater) := goodIn_app (goodIn_of _ (by decide +kernel)) ggL_law_X5_ofEater
set_option maxRecDepth 20000 in
theorem ggL_law_X4_look : GoodIn wsL_law wsX4_look := goodIn_r _ [248, 15, 249, 250, 251, 14, 252, 125, 253, 254, 255, 256, 28, 106, 2, 107, 755, 756, 757, 758, 759, 789, 790, 791, 792, 793, 794, 795, 796] (by decide +kernel) (by decide +kernel)
set_option maxRecDepth 20000 in
theorem gL_law_X4_look : GoodIn wsL_law (wsV RL 23 RX4 yX4_look wsX4_look) := goodIn_app (goodIn_of _ (by decide +kernel)) ggL_law_X4_look
set_option maxRecDepth 20000 in
theorem ggL_law_X5_look : GoodIn wsL_law wsX5_look := goodIn_r _ [260, 50, 261, 262, 263, 5, 264, 155, 163, 164, 165, 760, 761, 762, 763, 764, 765, 766, 767, 768, 769, 770, 771, 772, 773, 774, 775, 776, 777, 778, 779, 780, 781, 782, 783, 784, 785, 786, 787, 788] (by decide +kernel) (by decide +kernel)
set_option maxRecDepth 20000 in
theorem gL_law_X5_look : GoodIn wsL_law (wsV RL 27 RX5 yX5_look wsX5_look) := goodIn_app (goodIn_of _ (by decide +kernel)) ggL_law_X5_look
set_option maxRecDepth 20000 in
theorem ggL_law_X4_pull : GoodIn wsL_law wsX4_pull := goodIn_r _ [268, 15, 249, 250, 251, 14, 252, 125, 269, 270, 2, 271, 253, 254, 255, 256, 28, 106, 107, 272, 273, 274, 275, 133, 134, 755, 756, 757, 758, 759, 789, 790, 791, 792, 793, 794, 795, 796] (by decide +kernel) (by decide +kernel)
set_option maxRecDepth 20000 in
theorem gL_law_X4_pull : GoodIn wsL_law (wsV RL 28 RX4 yX4_pull wsX4_pull) := goodIn_app (goodIn_of _ (by decide +kernel)) ggL_law_X4_pull
set_option maxRecDepth 20000 in
theorem ggL_law_X5_pull : GoodIn wsL_law wsX5_pull := goodIn_r _ [279, 280, 50, 261, 262, 263, 5, 264, 155, 163, 164, 165, 760, 761, 762, 763, 764, 765, 766, 767, 768, 769, 770, 771, 772, 773, 774, 775, 776, 777, 778, 779, 780, 781, 782, 783, 784, 785, 786, 787, 788] (by decide +kernel) (by decide +kernel)
set_option maxRecDepth 20000 in
theorem gL_law_X5_pull : GoodIn wsL_law (wsV RL 31 RX5 yX5_pull wsX5_pull) := goodIn_app (goodIn_of _ (by decide +kernel)) ggL_law_X5_pull
set_option maxRecDepth 20000 in
theorem ggL_law_X4_sour : GoodIn wsL_law wsX4_sour := goodIn_r _ [284, 15, 269, 270, 2, 271, 285, 286, 287, 14, 288, 126, 289, 290, 291, 292, 124, 293, 294, 295, 296, 755, 756, 757, 758, 759, 789, 790, 791, 792, 793, 794, 795, 796] (by decide +kernel) (by decide +kernel)
set_option maxRecDepth 20000 in
theorem gL_law_X4_sour : GoodIn wsL_law (wsV RL 32 RX4 yX4_sour wsX4_sour) := goodIn_app (goodIn_of _ (by decide +kernel)) ggL_law_X4_sour
set_option maxRecDepth 20000 in
theorem ggL_law_X5_sour : GoodIn wsL_law wsX5_sour := goodIn_r _ [300, 280, 157, 153, 163, 164, 5, 165, 760, 761, 762, 763, 764, 765, 766, 767, 768, 769, 770, 771, 772, 773, 774, 775, 776, 777, 778, 779, 780, 781, 782, 783, 784, 785, 786, 787, 788] (by decide +kernel) (by decide +kernel)
set_option maxRecDepth 20000 in
theorem gL_law_X5_sour : GoodIn wsL_law (wsV RL 35 RX5 yX5_sour wsX5_sour) := goodIn_app (goodIn_of _ (by decide +kernel)) ggL_law_X5_sour
set_option maxRecDepth 20000 in
theorem ggL_law_X4_crave : GoodIn wsL_law wsX4_crave := goodIn_r _ [304, 15, 206, 207, 208, 14, 209, 126, 269, 270, 2, 271, 222, 223, 224, 225, 32, 106, 107, 305, 306, 307, 308, 133, 134, 755, 756, 757, 758, 759, 789, 790, 791, 792, 793, 794, 795, 796] (by decide +kernel) (by decide +kernel)
set_option maxRecDepth 20000 in
theorem gL_law_X4_crave : GoodIn wsL_law (wsV RL 36 RX4 yX4_crave wsX4_crave) := goodIn_app (goodIn_of _ (by decide +kernel)) ggL_law_X4_crave
set_option maxRecDepth 20000 in
theorem ggL_law_X5_crave : GoodIn wsL_law wsX5_crave := goodIn_r _ [312, 313, 54, 237, 238, 239, 5, 240, 157, 163, 164, 165, 760, 761, 762, 763, 764, 765, 766, 767, 768, 769, 770, 771, 772, 773, 774, 775, 776, 777, 778, 779, 780, 781, 782, 783, 784, 785, 786, 787, 788] (by decide +kernel) (by decide +kernel)
set_option maxRecDepth 20000 in
theorem gL_law_X5_crave : GoodIn wsL_law (wsV RL 39 RX5 yX5_crave wsX5_crave) := goodIn_app (goodIn_of _ (by decide +kernel)) ggL_law_X5_crave
set_option maxRecDepth 20000 in
theorem ggL_law_X4_fasts : GoodIn wsL_law wsX4_fasts := goodIn_r _ [317, 15, 285, 286, 287, 14, 288, 126, 318, 319, 320, 321, 125, 28, 124, 106, 2, 107, 755, 756, 757, 758, 759, 789, 790, 791, 792, 793, 794, 795, 796] (by decide +kernel) (by decide +kernel)
set_option maxRecDepth 20000 in
theorem gL_law_X4_fasts : GoodIn wsL_law (wsV RL 40 RX4 yX4_fasts wsX4_fasts) := goodIn_app (goodIn_of _ (by decide +kernel)) ggL_law_X4_fasts
set_option maxRecDepth 20000 in
theorem ggL_law_X5_fasts : GoodIn wsL_law wsX5_fasts := goodIn_r _ [325, 157, 326, 327, 328, 5, 329, 155, 50, 153, 55, 760, 761, 762, 763, 764, 765, 766, 767, 768, 769, 770, 771, 772, 773, 774, 775, 776, 777, 778, 779, 780, 781, 782, 783, 784, 785, 786, 787, 788] (by decide +kernel) (by decide +kernel)
set_option maxRecDepth 20000 in
theorem gL_law_X5_fasts : GoodIn wsL_law (wsV RL 44 RX5 yX5_fasts wsX5_fasts) := goodIn_app (goodIn_of _ (by decide +kernel)) ggL_law_X5_fasts
set_option maxRecDepth 20000 in
theorem ggL_law_X4_yellow : GoodIn wsL_law wsX4_yellow := goodIn_r _ [333, 15, 206, 207, 208, 14, 209, 126, 334, 335, 336, 337, 338, 339, 340, 341, 125, 226, 227, 228, 229, 29, 30, 106, 2, 107, 230, 231, 232, 342, 343, 344, 345, 755, 756, 757, 758, 759, 789, 790, 791, 792, 793, 794, 795, 796] (by decide +kernel) (by decide +kernel)
set_option maxRecDepth 20000 in
theorem gL_law_X4_yellow : GoodIn wsL_law (wsV RL 45 RX4 yX4_yellow wsX4_yellow) := goodIn_app (goodIn_of _ (by decide +kernel)) ggL_law_X4_yellow
set_option maxRecDepth 20000 in
theorem ggL_law_X5_yellow : GoodIn wsL_law wsX5_yellow := goodIn_r _ [349, 237, 238, 239, 5, 240, 157, 163, 164, 165, 350, 351, 352, 353, 155, 354, 355, 356, 357, 241, 242, 243, 244, 52, 51, 358, 359, 360, 760, 761, 762, 763, 764, 765, 766, 767, 768, 769, 770, 771, 772, 773, 774, 775, 776, 777, 778, 779, 780, 781, 782, 783, 784, 785, 786, 787, 788] (by decide +kernel) (by decide +kernel)
set_option maxRecDepth 20000 in
theorem gL_law_X5_yellow : GoodIn wsL_law (wsV RL 48 RX5 yX5_yellow wsX5_yellow) := goodIn_app (goodIn_of _ (by decide +kernel)) ggL_law_X5_yellow
set_option maxRecDepth 20000 in
theorem ggL_law_X4_found : GoodIn wsL_law wsX4_found := goodIn_r _ [364, 15, 206, 207, 208, 14, 209, 126, 334, 335, 336, 337, 338, 339, 340, 341, 125, 269, 270, 2, 271, 365, 366, 367, 368, 369, 227, 228, 229, 29, 30, 106, 107, 230, 231, 232, 370, 343, 344, 345, 371, 319, 320, 321, 28, 124, 372, 373, 374, 375, 376, 377, 378, 379, 380, 381, 382, 383, 384, 219, 220, 221, 31, 755, 756, 757, 758, 759, 789, 790, 791, 792, 793, 794, 795, 796] (by decide +kernel) (by decide +kernel)
set_option maxRecDepth 20000 in
theorem gL_law_X4_found : GoodIn wsL_law (wsV RL 49 RX4 yX4_found wsX4_found) := goodIn_app (goodIn_of _ (by decide +kernel)) ggL_law_X4_found
set_option maxRecDepth 20000 in
theorem ggL_law_X5_found : GoodIn wsL_law wsX5_found := goodIn_r _ [388, 237, 238, 239, 5, 240, 157, 163, 164, 165, 350, 351, 352, 353, 155, 389, 390, 391, 392, 354, 355, 356, 357, 241, 242, 243, 244, 52, 51, 358, 359, 360, 326, 327, 328, 329, 50, 153, 55, 393, 394, 395, 396, 53, 397, 398, 399, 760, 761, 762, 763, 764, 765, 766, 767, 768, 769, 770, 771, 772, 773, 774, 775, 776, 777, 778, 779, 780, 781, 782, 783, 784, 785, 786, 787, 788] (by decide +kernel) (by decide +kernel)
set_option maxRecDepth 20000 in
theorem gL_law_X5_found : GoodIn wsL_law (wsV RL 53 RX5 yX5_found wsX5_found) := goodIn_app (goodIn_of _ (by decide +kernel)) ggL_law_X5_found
set_option maxRecDepth 20000 in
theorem ggL_law_X4_plan : GoodIn wsL_law wsX4_plan := goodIn_r _ [403, 73, 15, 74, 75, 76, 2, 77, 21, 78, 79, 80, 404, 405, 406, 269, 270, 271, 285, 286, 287, 14, 288, 126, 81, 82, 83, 23, 84, 85, 86, 87, 88, 89, 45, 90, 91, 92, 93, 94, 95, 96, 97, 407, 408, 409, 410, 135, 103, 104, 105, 44, 106, 107, 411, 335, 336, 337, 338, 339, 340, 341, 125, 412, 413, 414, 415, 416, 417, 418, 419, 420, 373, 374, 375, 376, 366, 367, 368, 369, 227, 228, 229, 29, 30, 230, 231, 232, 370, 343, 344, 345, 371, 319, 320, 321, 28, 124, 377, 378, 379, 380, 381, 382, 383, 384, 219, 220, 221, 31, 421, 422, 423, 424, 425, 426, 427, 428, 429, 430, 431, 432, 433, 223, 224, 225, 32, 249, 250, 251, 252, 434, 435, 436, 437, 755, 756, 757, 758, 759, 789, 790, 791, 792, 793, 794, 795, 796, 802, 803, 804] (by decide +kernel) (by decide +kernel)
set_option maxRecDepth 20000 in
theorem gL_law_X4_plan : GoodIn wsL_law (wsV RL 54 RX4 yX4_plan wsX4_plan) := goodIn_app (goodIn_of _ (by decide +kernel)) ggL_law_X4_plan
set_option maxRecDepth 20000 in
theorem ggL_law_X5_plan : GoodIn wsL_law wsX5_plan := goodIn_r _ [441, 162, 442, 443, 150, 157, 67, 159, 160, 5, 161, 163, 164, 165, 166, 167, 168, 169, 170, 171, 172, 173, 174, 65, 66, 175, 176, 177, 178, 179, 180, 181, 350, 351, 352, 353, 155, 444, 445, 446, 447, 54, 389, 390, 391, 392, 354, 355, 356, 357, 241, 242, 243, 244, 52, 51, 358, 359, 360, 326, 327, 328, 329, 50, 153, 55, 393, 394, 395, 396, 53, 397, 398, 399, 261, 262, 263, 264, 760, 761, 762, 763, 764, 765, 766, 767, 768, 769, 770, 771, 772, 773, 774, 775, 776, 777, 778, 779, 780, 781, 782, 783, 784, 785, 786, 787, 788] (by decide +kernel) (by decide +kernel)
set_option maxRecDepth 20000 in
theorem gL_law_X5_plan : GoodIn wsL_law (wsV RL 58 RX5 yX5_plan wsX5_plan) := goodIn_app (goodIn_of _ (by decide +kernel)) ggL_law_X5_plan
set_option maxRecDepth 20000 in
theorem ggL_law_X4_best : GoodIn wsL_law wsX4_best := goodIn_r _ [451, 15, 206, 207, 208, 14, 209, 126, 269, 270, 2, 271, 318, 319, 320, 321, 125, 28, 124, 106, 107, 452, 453, 454, 455, 369, 227, 228, 229, 29, 30, 230, 231, 232, 338, 339, 340, 341, 370, 343, 344, 345, 377, 378, 379, 380, 381, 382, 383, 433, 223, 224, 225, 32, 456, 457, 458, 372, 373, 374, 375, 376, 366, 367, 368, 371, 384, 219, 220, 221, 31, 755, 756, 757, 758, 759, 789, 790, 791, 792, 793, 794, 795, 796] (by decide +kernel) (by decide +kernel)
set_option maxRecDepth 20000 in
theorem gL_law_X4_best : GoodIn wsL_law (wsV RL 59 RX4 yX4_best wsX4_best) := goodIn_app (goodIn_of _ (by decide +kernel)) ggL_law_X4_best
set_option maxRecDepth 20000 in
theorem ggL_law_X5_best : GoodIn wsL_law wsX5_best := goodIn_r _ [462, 237, 238, 239, 5, 240, 157, 163, 164, 165, 463, 464, 465, 466, 155, 54, 397, 398, 399, 393, 394, 395, 396, 53, 389, 390, 391, 392, 354, 355, 356, 357, 241, 242, 243, 244, 52, 51, 358, 359, 360, 326, 327, 328, 329, 50, 153, 55, 760, 761, 762, 763, 764, 765, 766, 767, 768, 769, 770, 771, 772, 773, 774, 775, 776, 777, 778, 779, 780, 781, 782, 783, 784, 785, 786, 787, 788] (by decide +kernel) (by decide +kernel)
set_option maxRecDepth 20000 in
theorem gL_law_X5_best : GoodIn wsL_law (wsV RL 62 RX5 yX5_best wsX5_best) := goodIn_app (goodIn_of _ (by decide +kernel)) ggL_law_X5_best
set_option maxRecDepth 20000 in
theorem ggL_law_X4_village : GoodIn wsL_law wsX4_village := goodIn_r _ [470, 15, 285, 286, 287, 14, 288, 126, 318, 319, 320, 321, 125, 28, 124, 106, 2, 107, 471, 472, 473, 474, 475, 453, 454, 455, 369, 227, 228, 229, 29, 30, 230, 231, 232, 338, 339, 340, 341, 370, 343, 344, 345, 377, 378, 379, 380, 381, 382, 383, 433, 223, 224, 225, 32, 456, 457, 458, 384, 219, 220, 221, 31, 755, 756, 757, 758, 759, 789, 790, 791, 792, 793, 794, 795, 796] (by decide +kernel) (by decide +kernel)
set_option maxRecDepth 20000 in
theorem gL_law_X4_village : GoodIn wsL_law (wsV RL 63 RX4 yX4_village wsX4_village) := goodIn_app (goodIn_of _ (by decide +kernel)) ggL_law_X4_village
set_option maxRecDepth 20000 in
theorem ggL_law_X5_village : GoodIn wsL_law wsX5_village := goodIn_r _ [479, 157, 480, 481, 482, 5, 483, 463, 464, 465, 466, 155, 54, 397, 398, 399, 393, 394, 395, 396, 53, 389, 390, 391, 392, 354, 355, 356, 357, 241, 242, 243, 244, 52, 51, 358, 359, 360, 326, 327, 328, 329, 50, 153, 55, 760, 761, 762, 763, 764, 765, 766, 767, 768, 769, 770, 771, 772, 773, 774, 775, 776, 777, 778, 779, 780, 781, 782, 783, 784, 785, 786, 787, 788] (by decide +kernel) (by decide +kernel)
set_option maxRecDepth 20000 in
theorem gL_law_X5_village : GoodIn wsL_law (wsV RL 66 RX5 yX5_village wsX5_village) := goodIn_app (goodIn_of _ (by decide +kernel)) ggL_law_X5_village
set_option maxRecDepth 20000 in
theorem ggL_law_X4_smile : GoodIn wsL_law wsX4_smile := goodIn_r _ [487, 15, 269, 270, 2, 271, 285, 286, 287, 14, 288, 126, 488, 489, 490, 491, 125, 371, 319, 320, 321, 28, 124, 106, 107, 492, 493, 494, 495, 496, 472, 473, 474, 475, 453, 454, 455, 369, 227, 228, 229, 29, 30, 230, 231, 232, 338, 339, 340, 341, 370, 343, 344, 345, 377, 378, 379, 380, 381, 382, 383, 433, 223, 224, 225, 32, 456, 457, 458, 384, 219, 220, 221, 31, 497, 471, 755, 756, 757, 758, 759, 789, 790, 791, 792, 793, 794, 795, 796] (by decide +kernel) (by decide +kernel)
set_option maxRecDepth 20000 in
theorem gL_law_X4_smile : GoodIn wsL_law (wsV RL 67 RX4 yX4_smile wsX4_smile) := goodIn_app (goodIn_of _ (by decide +kernel)) ggL_law_X4_smile
set_option maxRecDepth 20000 in
theorem ggL_law_X5_smile : GoodIn wsL_law wsX5_smile := goodIn_r _ [501, 157, 155, 55, 163, 164, 5, 165, 326, 327, 328, 329, 50, 153, 358, 359, 360, 480, 481, 482, 483, 463, 464, 465, 466, 54, 397, 398, 399, 393, 394, 395, 396, 53, 389, 390, 391, 392, 354, 355, 356, 357, 241, 242, 243, 244, 52, 51, 760, 761, 762, 763, 764, 765, 766, 767, 768, 769, 770, 771, 772, 773, 774, 775, 776, 777, 778, 779, 780, 781, 782, 783, 784, 785, 786, 787, 788] (by decide +kernel) (by decide +kernel)
set_option maxRecDepth 20000 in
theorem gL_law_X5_smile : GoodIn wsL_law (wsV RL 70 RX5 yX5_smile wsX5_smile) := goodIn_app (goodIn_of _ (by decide +kernel)) ggL_law_X5_smile
set_option maxRecDepth 20000 in
theorem ggL_law_X4_reading : GoodIn wsL_law wsX4_reading := goodIn_r _ [505, 15, 19, 206, 207, 208, 14, 209, 126, 334, 335, 336, 337, 338, 339, 340, 341, 125, 249, 250, 251, 252, 506, 507, 508, 18, 509, 141, 510, 511, 512, 513, 40, 36, 37, 38, 133, 2, 134, 514, 515, 516, 517, 755, 756, 757, 758, 759, 789, 790, 791, 792, 793, 794, 795, 796, 797, 798, 799, 800, 801] (by decide +kernel) (by decide +kernel)
set_option maxRecDepth 20000 in
theorem gL_law_X4_reading : GoodIn wsL_law (wsV RL 71 RX4 yX4_reading wsX4_reading) := goodIn_app (goodIn_of _ (by decide +kernel)) ggL_law_X4_reading
set_option maxRecDepth 20000 in
theorem ggL_law_X5_reading : GoodIn wsL_law wsX5_reading := goodIn_r _ [521, 158, 61, 62, 63, 64, 237, 238, 239, 5, 240, 157, 163, 164, 165, 350, 351, 352, 353, 155, 261, 262, 263, 264, 760, 761, 762, 763, 764, 765, 766, 767, 768, 769, 770, 771, 772, 773, 774, 775, 776, 777, 778, 779, 780, 781, 782, 783, 784, 785, 786, 787, 788] (by decide +kernel) (by decide +kernel)
set_option maxRecDepth 20000 in
theorem gL_law_X5_reading : GoodIn wsL_law (wsV RL 75 RX5 yX5_reading wsX5_reading) := goodIn_app (goodIn_of _ (by decide +kernel)) ggL_law_X5_reading
set_option maxRecDepth 20000 in
theorem ggL_law_X4_back : GoodIn wsL_law wsX4_back := goodIn_r _ [525, 19, 514, 515, 516, 18, 517, 141, 269, 270, 2, 271, 526, 527, 528, 529, 755, 756, 757, 758, 759, 797, 798, 799, 800, 801] (by decide +kernel) (by decide +kernel)
set_option maxRecDepth 20000 in
theorem gL_law_X4_back : GoodIn wsL_law (wsV RL 76 RX4 yX4_back wsX4_back) := goodIn_app (goodIn_of _ (by decide +kernel)) ggL_law_X4_back
set_option maxRecDepth 20000 in
theorem ggL_law_X5_back : GoodIn wsL_law wsX5_back := goodIn_r _ [533, 158, 163, 164, 5, 165, 760, 761, 762, 763, 764, 765, 766, 767, 768, 769, 770, 771, 772, 773, 774, 775, 776, 777, 778, 779, 780, 781, 782, 783, 784, 785, 786, 787, 788] (by decide +kernel) (by decide +kernel)
set_option maxRecDepth 20000 in
theorem gL_law_X5_back : GoodIn wsL_law (wsV RL 79 RX5 yX5_back wsX5_back) := goodIn_app (goodIn_of _ (by decide +kernel)) ggL_law_X5_back
set_option maxRecDepth 20000 in
theorem ggL_law_X4_stays : GoodIn wsL_law wsX4_stays := goodIn_r _ [537, 15, 19, 206, 207, 208, 14, 209, 126, 210, 211, 212, 213, 29, 106, 2, 107, 538, 231, 232, 289, 290, 291, 292, 124, 539, 540, 541, 18, 542, 141, 40, 36, 38, 37, 543, 227, 228, 229, 30, 230, 544, 545, 546, 547, 370, 343, 344, 345, 338, 339, 340, 341, 125, 548, 254, 255, 256, 28, 755, 756, 757, 758, 759, 789, 790, 791, 792, 793, 794, 795, 796, 797, 798, 799, 800, 801] (by decide +kernel) (by decide +kernel)
set_option maxRecDepth 20000 in
theorem gL_law_X4_stays : GoodIn wsL_law (wsV RL 80 RX4 yX4_stays wsX4_stays) := goodIn_app (goodIn_of _ (by decide +kernel)) ggL_law_X4_stays
set_option maxRecDepth 20000 in
theorem ggL_law_X5_stays : GoodIn wsL_law wsX5_stays := goodIn_r _ [552, 52, 237, 238, 239, 5, 240, 157, 163, 164, 165, 553, 554, 555, 556, 158, 61, 62, 63, 64, 389, 390, 391, 392, 354, 355, 356, 357, 155, 241, 242, 243, 244, 51, 358, 359, 360, 326, 327, 328, 329, 50, 153, 55, 760, 761, 762, 763, 764, 765, 766, 767, 768, 769, 770, 771, 772, 773, 774, 775, 776, 777, 778, 779, 780, 781, 782, 783, 784, 785, 786, 787, 788] (by decide +kernel) (by decide +kernel)
set_option maxRecDepth 20000 in
theorem gL_law_X5_stays : GoodIn wsL_law (wsV RL 83 RX5 yX5_stays wsX5_stays) := goodIn_app (goodIn_of _ (by decide +kernel)) ggL_law_X5_stays
set_option maxRecDepth 20000 in
theorem ggL_law_X4_kinds : GoodIn wsL_law wsX4_kinds := goodIn_r _ [560, 15, 19, 206, 207, 208, 14, 209, 126, 214, 215, 216, 217, 30, 106, 2, 107, 538, 231, 232, 289, 290, 291, 292, 124, 539, 540, 541, 18, 542, 141, 40, 36, 38, 37, 543, 227, 228, 229, 29, 230, 544, 545, 546, 547, 370, 343, 344, 345, 338, 339, 340, 341, 125, 548, 254, 255, 256, 28, 755, 756, 757, 758, 759, 789, 790, 791, 792, 793, 794, 795, 796, 797, 798, 799, 800, 801] (by decide +kernel) (by decide +kernel)
set_option maxRecDepth 20000 in
theorem gL_law_X4_kinds : GoodIn wsL_law (wsV RL 84 RX4 yX4_kinds wsX4_kinds) := goodIn_app (goodIn_of _ (by decide +kernel)) ggL_law_X4_kinds
set_option maxRecDepth 20000 in
theorem ggL_law_X5_kinds : GoodIn wsL_law wsX5_kinds := goodIn_r _ [564, 51, 237, 238, 239, 5, 240, 157, 163, 164, 165, 553, 554, 555, 556, 158, 61, 62, 63, 64, 389, 390, 391, 392, 354, 355, 356, 357, 155, 241, 242, 243, 244, 52, 358, 359, 360, 326, 327, 328, 329, 50, 153, 55, 760, 761, 762, 763, 764, 765, 766, 767, 768, 769, 770, 771, 772, 773, 774, 775, 776, 777, 778, 779, 780, 781, 782, 783, 784, 785, 786, 787, 788] (by decide +kernel) (by decide +kernel)
set_option maxRecDepth 20000 in
theorem gL_law_X5_kinds : GoodIn wsL_law (wsV RL 87 RX5 yX5_kinds wsX5_kinds) := goodIn_app (goodIn_of _ (by decide +kernel)) ggL_law_X5_kinds
set_option maxRecDepth 20000 in
theorem ggL_law_X4_sours : GoodIn wsL_law wsX4_sours := goodIn_r _ [568, 15, 19, 285, 286, 287, 14, 288, 126, 539, 540, 541, 18, 542, 141, 40, 36, 38, 37, 106, 2, 107, 543, 227, 228, 229, 29, 30, 230, 231, 232, 544, 545, 546, 547, 370, 343, 344, 345, 338, 339, 340, 341, 125, 548, 254, 255, 256, 28, 755, 756, 757, 758, 759, 789, 790, 791, 792, 793, 794, 795, 796, 797, 798, 799, 800, 801] (by decide +kernel) (by decide +kernel)
set_option maxRecDepth 20000 in
theorem gL_law_X4_sours : GoodIn wsL_law (wsV RL 88 RX4 yX4_sours wsX4_sours) := goodIn_app (goodIn_of _ (by decide +kernel)) ggL_law_X4_sours
set_option maxRecDepth 20000 in
theorem ggL_law_X5_sours : GoodIn wsL_law wsX5_sours := goodIn_r _ [572, 157, 153, 553, 554, 555, 5, 556, 158, 61, 62, 63, 64, 389, 390, 391, 392, 354, 355, 356, 357, 155, 241, 242, 243, 244, 52, 51, 358, 359, 360, 326, 327, 328, 329, 50, 55, 760, 761, 762, 763, 764, 765, 766, 767, 768, 769, 770, 771, 772, 773, 774, 775, 776, 777, 778, 779, 780, 781, 782, 783, 784, 785, 786, 787, 788] (by decide +kernel) (by decide +kernel)
set_option maxRecDepth 20000 in
theorem gL_law_X5_sours : GoodIn wsL_law (wsV RL 91 RX5 yX5_sours wsX5_sours) := goodIn_app (goodIn_of _ (by decide +kernel)) ggL_law_X5_sours
set_option maxRecDepth 20000 in
theorem ggL_law_X4_odds : GoodIn wsL_law wsX4_odds := goodIn_r _ [576, 15, 577, 206, 207, 208, 14, 209, 126, 334, 335, 336, 337, 338, 339, 340, 341, 125, 269, 270, 2, 271, 226, 227, 228, 229, 29, 30, 106, 107, 230, 231, 232, 342, 343, 344, 345, 578, 378, 379, 380, 381, 382, 383, 755, 756, 757, 758, 759, 789, 790, 791, 792, 793, 794, 795, 796] (by decide +kernel) (by decide +kernel)
set_option maxRecDepth 20000 in
theorem gL_law_X4_odds : GoodIn wsL_law (wsV RL 92 RX4 yX4_odds wsX4_odds) := goodIn_app (goodIn_of _ (by decide +kernel)) ggL_law_X4_odds
set_option maxRecDepth 20000 in
theorem ggL_law_X5_odds : GoodIn wsL_law wsX5_odds := goodIn_r _ [582, 155, 237, 238, 239, 5, 240, 157, 163, 164, 165, 350, 351, 352, 353, 583, 584, 585, 586, 354, 355, 356, 357, 241, 242, 243, 244, 52, 51, 358, 359, 360, 587, 588, 589, 760, 761, 762, 763, 764, 765, 766, 767, 768, 769, 770, 771, 772, 773, 774, 775, 776, 777, 778, 779, 780, 781, 782, 783, 784, 785, 786, 787, 788] (by decide +kernel) (by decide +kernel)
set_option maxRecDepth 20000 in
theorem gL_law_X5_odds : GoodIn wsL_law (wsV RL 96 RX5 yX5_odds wsX5_odds) := goodIn_app (goodIn_of _ (by decide +kernel)) ggL_law_X5_odds
set_option maxRecDepth 20000 in
theorem ggL_law_X4_sheet : GoodIn wsL_law wsX4_sheet := goodIn_r _ [593, 73, 74, 75, 76, 2, 77, 21, 78, 79, 80, 94, 95, 96, 97, 594, 595, 596, 23, 597, 44, 85, 45, 598, 599, 600, 601, 755, 756, 757, 758, 759, 802, 803, 804] (by decide +kernel) (by decide +kernel)
set_option maxRecDepth 20000 in
theorem gL_law_X4_sheet : GoodIn wsL_law (wsV RL 97 RX4 yX4_sheet wsX4_sheet) := goodIn_app (goodIn_of _ (by decide +kernel)) ggL_law_X4_sheet
set_option maxRecDepth 20000 in
theorem ggL_law_X5_sheet : GoodIn wsL_law wsX5_sheet := goodIn_r _ [605, 150, 65, 66, 67, 159, 160, 5, 161, 162, 163, 164, 165, 166, 167, 168, 169, 170, 175, 176, 177, 178, 760, 761, 762, 763, 764, 765, 766, 767, 768, 769, 770, 771, 772, 773, 774, 775, 776, 777, 778, 779, 780, 781, 782, 783, 784, 785, 786, 787, 788] (by decide +kernel) (by decide +kernel)
set_option maxRecDepth 20000 in
theorem gL_law_X5_sheet : GoodIn wsL_law (wsV RL 100 RX5 yX5_sheet wsX5_sheet) := goodIn_app (goodIn_of _ (by decide +kernel)) ggL_law_X5_sheet
set_option maxRecDepth 20000 in
theorem ggL_law_X4_lose : GoodIn wsL_law wsX4_lose := goodIn_r _ [609, 74, 75, 76, 2, 77, 21, 610, 87, 88, 23, 89, 45, 611, 612, 613, 614, 755, 756, 757, 758, 759, 802, 803, 804] (by decide +kernel) (by decide +kernel)
set_option maxRecDepth 20000 in
theorem gL_law_X4_lose : GoodIn wsL_law (wsV RL 101 RX4 yX4_lose wsX4_lose) := goodIn_app (goodIn_of _ (by decide +kernel)) ggL_law_X4_lose
set_option maxRecDepth 20000 in
theorem ggL_law_X5_lose : GoodIn wsL_law wsX5_lose := goodIn_r _ [618, 65, 159, 160, 5, 161, 162, 163, 164, 165, 760, 761, 762, 763, 764, 765, 766, 767, 768, 769, 770, 771, 772, 773, 774, 775, 776, 777, 778, 779, 780, 781, 782, 783, 784, 785, 786, 787, 788] (by decide +kernel) (by decide +kernel)
set_option maxRecDepth 20000 in
theorem gL_law_X5_lose : GoodIn wsL_law (wsV RL 104 RX5 yX5_lose wsX5_lose) := goodIn_app (goodIn_of _ (by decide +kernel)) ggL_law_X5_lose
set_option maxRecDepth 20000 in
theorem ggL_law_X4_put : GoodIn wsL_law wsX4_put := goodIn_r _ [622, 73, 74, 75, 76, 2, 77, 21, 623, 624, 625, 23, 626, 85, 81, 82, 83, 84, 86, 87, 88, 89, 45, 90, 91, 92, 93, 94, 95, 96, 97, 627, 628, 629, 630, 44, 631, 632, 633, 634, 133, 134, 755, 756, 757, 758, 759, 802, 803, 804] (by decide +kernel) (by decide +kernel)
set_option maxRecDepth 20000 in
theorem gL_law_X4_put : GoodIn wsL_law (wsV RL 105 RX4 yX4_put wsX4_put) := goodIn_app (goodIn_of _ (by decide +kernel)) ggL_law_X4_put
set_option maxRecDepth 20000 in
theorem ggL_law_X5_put : GoodIn wsL_law wsX5_put := goodIn_r _ [638, 67, 66, 159, 160, 5, 161, 162, 163, 164, 165, 166, 167, 168, 169, 170, 639, 640, 641, 642, 65, 175, 176, 177, 178, 760, 761, 762, 763, 764, 765, 766, 767, 768, 769, 770, 771, 772, 773, 774, 775, 776, 777, 778, 779, 780, 781, 782, 783, 784, 785, 786, 787, 788] (by decide +kernel) (by decide +kernel)
set_option maxRecDepth 20000 in
theorem gL_law_X5_put : GoodIn wsL_law (wsV RL 108 RX5 yX5_put wsX5_put) := goodIn_app (goodIn_of _ (by decide +kernel)) ggL_law_X5_put
set_option maxRecDepth 20000 in
theorem ggL_law_X4_cell : GoodIn wsL_law wsX4_cell := goodIn_r _ [646, 73, 577, 74, 75, 76, 2, 77, 21, 78, 79, 80, 81, 82, 83, 23, 84, 85, 86, 87, 88, 89, 45, 90, 91, 92, 93, 647, 103, 104, 105, 44, 106, 107, 755, 756, 757, 758, 759, 802, 803, 804] (by decide +kernel) (by decide +kernel)
set_option maxRecDepth 20000 in
theorem gL_law_X4_cell : GoodIn wsL_law (wsV RL 109 RX4 yX4_cell wsX4_cell) := goodIn_app (goodIn_of _ (by decide +kernel)) ggL_law_X4_cell
set_option maxRecDepth 20000 in
theorem ggL_law_X5_cell : GoodIn wsL_law wsX5_cell := goodIn_r _ [651, 170, 150, 65, 66, 67, 159, 160, 5, 161, 162, 163, 164, 165, 583, 584, 585, 586, 652, 653, 654, 655, 639, 640, 641, 642, 760, 761, 762, 763, 764, 765, 766, 767, 768, 769, 770, 771, 772, 773, 774, 775, 776, 777, 778, 779, 780, 781, 782, 783, 784, 785, 786, 787, 788] (by decide +kernel) (by decide +kernel)
set_option maxRecDepth 20000 in
theorem gL_law_X5_cell : GoodIn wsL_law (wsV RL 112 RX5 yX5_cell wsX5_cell) := goodIn_app (goodIn_of _ (by decide +kernel)) ggL_law_X5_cell
set_option maxRecDepth 20000 in
theorem ggL_law_X4_copy : GoodIn wsL_law wsX4_copy := goodIn_r _ [659, 73, 74, 75, 76, 2, 77, 21, 610, 87, 88, 23, 89, 45, 94, 95, 96, 97, 623, 624, 625, 626, 85, 660, 91, 92, 93, 661, 662, 663, 664, 44, 665, 666, 667, 668, 90, 755, 756, 757, 758, 759, 802, 803, 804] (by decide +kernel) (by decide +kernel)
set_option maxRecDepth 20000 in
theorem gL_law_X4_copy : GoodIn wsL_law (wsV RL 113 RX4 yX4_copy wsX4_copy) := goodIn_app (goodIn_of _ (by decide +kernel)) ggL_law_X4_copy
set_option maxRecDepth 20000 in
theorem ggL_law_X5_copy : GoodIn wsL_law wsX5_copy := goodIn_r _ [672, 65, 66, 68, 67, 159, 160, 5, 161, 162, 163, 164, 165, 166, 167, 168, 169, 170, 175, 176, 177, 178, 179, 180, 181, 760, 761, 762, 763, 764, 765, 766, 767, 768, 769, 770, 771, 772, 773, 774, 775, 776, 777, 778, 779, 780, 781, 782, 783, 784, 785, 786, 787, 788] (by decide +kernel) (by decide +kernel)
set_option maxRecDepth 20000 in
theorem gL_law_X5_copy : GoodIn wsL_law (wsV RL 116 RX5 yX5_copy wsX5_copy) := goodIn_app (goodIn_of _ (by decide +kernel)) ggL_law_X5_copy
set_option maxRecDepth 20000 in
theorem ggL_law_X4_tell : GoodIn wsL_law wsX4_tell := goodIn_r _ [676, 15, 206, 207, 208, 14, 209, 126, 210, 211, 212, 213, 29, 106, 2, 107, 677, 678, 679, 680, 681, 682, 683, 684, 685, 686, 687, 688, 689, 690, 691, 692, 693, 218, 219, 220, 221, 31, 755, 756, 757, 758, 759, 789, 790, 791, 792, 793, 794, 795, 796] (by decide +kernel) (by decide +kernel)
set_option maxRecDepth 20000 in
theorem gL_law_X4_tell : GoodIn wsL_law (wsV RL 117 RX4 yX4_tell wsX4_tell) := goodIn_app (goodIn_of _ (by decide +kernel)) ggL_law_X4_tell
set_option maxRecDepth 20000 in
theorem ggL_law_X5_tell : GoodIn wsL_law wsX5_tell := goodIn_r _ [697, 51, 53, 237, 238, 239, 5, 240, 157, 163, 164, 165, 698, 699, 700, 701, 702, 760, 761, 762, 763, 764, 765, 766, 767, 768, 769, 770, 771, 772, 773, 774, 775, 776, 777, 778, 779, 780, 781, 782, 783, 784, 785, 786, 787, 788] (by decide +kernel) (by decide +kernel)
set_option maxRecDepth 20000 in
theorem gL_law_X5_tell : GoodIn wsL_law (wsV RL 120 RX5 yX5_tell wsX5_tell) := goodIn_app (goodIn_of _ (by decide +kernel)) ggL_law_X5_tell
set_option maxRecDepth 20000 in
theorem ggL_law_X4_sniff : GoodIn wsL_law wsX4_sniff := goodIn_r _ [706, 15, 206, 207, 208, 14, 209, 126, 210, 211, 212, 213, 29, 106, 2, 107, 707, 708, 709, 710, 681, 682, 683, 684, 685, 711, 712, 713, 714, 755, 756, 757, 758, 759, 789, 790, 791, 792, 793, 794, 795, 796] (by decide +kernel) (by decide +kernel)
set_option maxRecDepth 20000 in
theorem gL_law_X4_sniff : GoodIn wsL_law (wsV RL 121 RX4 yX4_sniff wsX4_sniff) := goodIn_app (goodIn_of _ (by decide +kernel)) ggL_law_X4_sniff
set_option maxRecDepth 20000 in
theorem ggL_law_X5_sniff : GoodIn wsL_law wsX5_sniff := goodIn_r _ [718, 51, 237, 238, 239, 5, 240, 157, 163, 164, 165, 698, 699, 700, 701, 702, 760, 761, 762, 763, 764, 765, 766, 767, 768, 769, 770, 771, 772, 773, 774, 775, 776, 777, 778, 779, 780, 781, 782, 783, 784, 785, 786, 787, 788] (by decide +kernel) (by decide +kernel)
set_option maxRecDepth 20000 in
theorem gL_law_X5_sniff : GoodIn wsL_law (wsV RL 124 RX5 yX5_sniff wsX5_sniff) := goodIn_app (goodIn_of _ (by decide +kernel)) ggL_law_X5_sniff
set_option maxRecDepth 20000 in
theorem ggL_law_X4_as : GoodIn wsL_law wsX4_as := goodIn_r _ [722, 73, 15, 206, 207, 208, 14, 209, 126, 269, 270, 2, 271, 210, 211, 212, 213, 29, 106, 107, 94, 95, 96, 97, 755, 756, 757, 758, 759, 789, 790, 791, 792, 793, 794, 795, 796] (by decide +kernel) (by decide +kernel)
set_option maxRecDepth 20000 in
theorem gL_law_X4_as : GoodIn wsL_law (wsV RL 125 RX4 yX4_as wsX4_as) := goodIn_app (goodIn_of _ (by decide +kernel)) ggL_law_X4_as
set_option maxRecDepth 20000 in
theorem ggL_law_X5_as : GoodIn wsL_law wsX5_as := goodIn_r _ [726, 150, 51, 237, 238, 239, 5, 240, 157, 163, 164, 165, 166, 167, 168, 169, 170, 175, 176, 177, 178, 760, 761, 762, 763, 764, 765, 766, 767, 768, 769, 770, 771, 772, 773, 774, 775, 776, 777, 778, 779, 780, 781, 782, 783, 784, 785, 786, 787, 788] (by decide +kernel) (by decide +kernel)
set_option maxRecDepth 20000 in
theorem gL_law_X5_as : GoodIn wsL_law (wsV RL 128 RX5 yX5_as wsX5_as) := goodIn_app (goodIn_of _ (by decide +kernel)) ggL_law_X5_as
set_option maxRecDepth 20000 in
theorem ggL_law_X4_trace : GoodIn wsL_law wsX4_trace := goodIn_r _ [730, 685, 755, 756, 757, 758, 759] (by decide +kernel) (by decide +kernel)
set_option maxRecDepth 20000 in
theorem gL_law_X4_trace : GoodIn wsL_law (wsV RL 129 RX4 yX4_trace wsX4_trace) := goodIn_app (goodIn_of _ (by decide +kernel)) ggL_law_X4_trace
set_option maxRecDepth 20000 in
theorem ggL_law_X5_trace : GoodIn wsL_law wsX5_trace := goodIn_r _ [734, 702, 760, 761, 762, 763, 764, 765, 766, 767, 768, 769, 770, 771, 772, 773, 774, 775, 776, 777, 778, 779, 780, 781, 782, 783, 784, 785, 786, 787, 788] (by decide +kernel) (by decide +kernel)
set_option maxRecDepth 20000 in
theorem gL_law_X5_trace : GoodIn wsL_law (wsV RL 132 RX5 yX5_trace wsX5_trace) := goodIn_app (goodIn_of _ (by decide +kernel)) ggL_law_X5_trace
set_option maxRecDepth 20000 in
theorem ggL_law_X4_fault : GoodIn wsL_law wsX4_fault := goodIn_r _ [738, 73, 755, 756, 757, 758, 759] (by decide +kernel) (by decide +kernel)
set_option maxRecDepth 20000 in
theorem gL_law_X4_fault : GoodIn wsL_law (wsV RL 133 RX4 yX4_fault wsX4_fault) := goodIn_app (goodIn_of _ (by decide +kernel)) ggL_law_X4_fault
set_option maxRecDepth 20000 in
theorem ggL_law_X5_fault : GoodIn wsL_law wsX5_fault := goodIn_r _ [742, 170, 760, 761, 762, 763, 764, 765, 766, 767, 768, 769, 770, 771, 772, 773, 774, 775, 776, 777, 778, 779, 780, 781, 782, 783, 784, 785, 786, 787, 788] (by decide +kernel) (by decide +kernel)
set_option maxRecDepth 20000 in
theorem gL_law_X5_fault : GoodIn wsL_law (wsV RL 136 RX5 yX5_fault wsX5_fault) := goodIn_app (goodIn_of _ (by decide +kernel)) ggL_law_X5_fault
set_option maxRecDepth 20000 in
theorem ggL_law_X4_many : GoodIn wsL_law wsX4_many := goodIn_r _ [746, 15, 19, 142, 143, 144, 14, 145, 126, 747, 748, 749, 750, 125, 289, 290, 291, 292, 124, 514, 515, 516, 18, 517, 141, 755, 756, 757, 758, 759, 789, 790, 791, 792, 793, 794, 795, 796, 797, 798, 799, 800, 801] (by decide +kernel) (by decide +kernel)
set_option maxRecDepth 20000 in
theorem gL_law_X4_many : GoodIn wsL_law (wsV RL 137 RX4 yX4_many wsX4_many) := goodIn_app (goodIn_of _ (by decide +kernel)) ggL_law_X4_many
set_option maxRecDepth 20000 in
theorem ggL_law_X5_many : GoodIn wsL_law wsX5_many := goodIn_r _ [754, 157, 155, 153, 158, 760, 761, 762, 763, 764, 765, 766, 767, 768, 769, 770, 771, 772, 773, 774, 775, 776, 777, 778, 779, 780, 781, 782, 783, 784, 785, 786, 787, 788] (by decide +kernel) (by decide +kernel)
set_option maxRecDepth 20000 in
theorem gL_law_X5_many : GoodIn wsL_law (wsV RL 140 RX5 yX5_many wsX5_many) := goodIn_app (goodIn_of _ (by decide +kernel)) ggL_law_X5_many
theorem dL_law_0 : decode cL_law 0 = .ok (.new 7, 3) := by decide +kernel
theorem dL_law_3 : decode cL_law 3 = .ok (.dup, 1) := by decide +kernel
theorem dL_law_4 : decode cL_law 4 = .ok (.invokespecial 9, 3) := by decide +kernel
theorem dL_law_7 : decode cL_law 7 = .ok (.astore_n 1, 1) := by decide +kernel
theorem dL_law_8 : decode cL_law 8 = .ok (.new 10, 3) := by decide +kernel
theorem dL_law_11 : decode cL_law 11 = .ok (.dup, 1) := by decide +kernel
theorem dL_law_12 : decode cL_law 12 = .ok (.invokespecial 12, 3) := by decide +kernel
theorem dL_law_15 : decode cL_law 15 = .ok (.astore_n 2, 1) := by decide +kernel
theorem dL_law_16 : decode cL_law 16 = .ok (.iconst 0, 1) := by decide +kernel
theorem dL_law_17 : decode cL_law 17 = .ok (.istore_n 3, 1) := by decide +kernel
theorem dL_law_18 : decode cL_law 18 = .ok (.iload_n 3, 1) := by decide +kernel
theorem dL_law_19 : decode cL_law 19 = .ok (.aload_n 0, 1) := by decide +kernel
theorem dL_law_20 : decode cL_law 20 = .ok (.arraylength, 1) := by decide +kernel
theorem dL_law_21 : decode cL_law 21 = .ok (.bipush 6, 2) := by decide +kernel
theorem dL_law_23 : decode cL_law 23 = .ok (.isub, 1) := by decide +kernel
theorem dL_law_24 : decode cL_law 24 = .ok (.if_icmp .gt 1108, 3) := by decide +kernel
theorem dL_law_27 : decode cL_law 27 = .ok (.aload_n 0, 1) := by decide +kernel
theorem dL_law_28 : decode cL_law 28 = .ok (.iload_n 3, 1) := by decide +kernel
theorem dL_law_29 : decode cL_law 29 = .ok (.iaload, 1) := by decide +kernel
theorem dL_law_30 : decode cL_law 30 = .ok (.bipush 31, 2) := by decide +kernel
theorem dL_law_32 : decode cL_law 32 = .ok (.iand, 1) := by decide +kernel
theorem dL_law_33 : decode cL_law 33 = .ok (.tableswitch 1093 0 29 #[135, 188, 221, 244, 277, 300, 333, 346, 379, 422, 485, 518, 531, 554, 623, 646, 669, 692, 705, 749, 792, 815, 858, 902, 965, 988, 1011, 1044, 1057, 1070], 135) := by decide +kernel
theorem dL_law_168 : decode cL_law 168 = .ok (.aload_n 1, 1) := by decide +kernel
theorem dL_law_169 : decode cL_law 169 = .ok (.aload_n 0, 1) := by decide +kernel
theorem dL_law_170 : decode cL_law 170 = .ok (.iload_n 3, 1) := by decide +kernel
theorem dL_law_171 : decode cL_law 171 = .ok (.iconst 1, 1) := by decide +kernel
theorem dL_law_172 : decode cL_law 172 = .ok (.iadd, 1) := by decide +kernel
theorem dL_law_173 : decode cL_law 173 = .ok (.iaload, 1) := by decide +kernel
theorem dL_law_174 : decode cL_law 174 = .ok (.aload_n 0, 1) := by decide +kernel
theorem dL_law_175 : decode cL_law 175 = .ok (.iload_n 3, 1) := by decide +kernel
theorem dL_law_176 : decode cL_law 176 = .ok (.iconst 2, 1) := by decide +kernel
theorem dL_law_177 : decode cL_law 177 = .ok (.iadd, 1) := by decide +kernel
theorem dL_law_178 : decode cL_law 178 = .ok (.iaload, 1) := by decide +kernel
theorem dL_law_179 : decode cL_law 179 = .ok (.aload_n 0, 1) := by decide +kernel
theorem dL_law_180 : decode cL_law 180 = .ok (.iload_n 3, 1) := by decide +kernel
theorem dL_law_181 : decode cL_law 181 = .ok (.iconst 3, 1) := by decide +kernel
theorem dL_law_182 : decode cL_law 182 = .ok (.iadd, 1) := by decide +kernel
theorem dL_law_183 : decode cL_law 183 = .ok (.iaload, 1) := by decide +kernel
theorem dL_law_184 : decode cL_law 184 = .ok (.aload_n 0, 1) := by decide +kernel
theorem dL_law_185 : decode cL_law 185 = .ok (.iload_n 3, 1) := by decide +kernel
theorem dL_law_186 : decode cL_law 186 = .ok (.iconst 4, 1) := by decide +kernel
theorem dL_law_187 : decode cL_law 187 = .ok (.iadd, 1) := by decide +kernel
theorem dL_law_188 : decode cL_law 188 = .ok (.iaload, 1) := by decide +kernel
theorem dL_law_189 : decode cL_law 189 = .ok (.invokevirtual 13, 3) := by decide +kernel
theorem dL_law_192 : decode cL_law 192 = .ok (.aload_n 2, 1) := by decide +kernel
theorem dL_law_193 : decode cL_law 193 = .ok (.aload_n 0, 1) := by decide +kernel
theorem dL_law_194 : decode cL_law 194 = .ok (.iload_n 3, 1) := by decide +kernel
theorem dL_law_195 : decode cL_law 195 = .ok (.iconst 1, 1) := by decide +kernel
theorem dL_law_196 : decode cL_law 196 = .ok (.iadd, 1) := by decide +kernel
theorem dL_law_197 : decode cL_law 197 = .ok (.iaload, 1) := by decide +kernel
theorem dL_law_198 : decode cL_law 198 = .ok (.aload_n 0, 1) := by decide +kernel
theorem dL_law_199 : decode cL_law 199 = .ok (.iload_n 3, 1) := by decide +kernel
theorem dL_law_200 : decode cL_law 200 = .ok (.iconst 2, 1) := by decide +kernel
theorem dL_law_201 : decode cL_law 201 = .ok (.iadd, 1) := by decide +kernel
theorem dL_law_202 : decode cL_law 202 = .ok (.iaload, 1) := by decide +kernel
theorem dL_law_203 : decode cL_law 203 = .ok (.aload_n 0, 1) := by decide +kernel
theorem dL_law_204 : decode cL_law 204 = .ok (.iload_n 3, 1) := by decide +kernel
theorem dL_law_205 : decode cL_law 205 = .ok (.iconst 3, 1) := by decide +kernel
theorem dL_law_206 : decode cL_law 206 = .ok (.iadd, 1) := by decide +kernel
theorem dL_law_207 : decode cL_law 207 = .ok (.iaload, 1) := by decide +kernel
theorem dL_law_208 : decode cL_law 208 = .ok (.aload_n 0, 1) := by decide +kernel
theorem dL_law_209 : decode cL_law 209 = .ok (.iload_n 3, 1) := by decide +kernel
theorem dL_law_210 : decode cL_law 210 = .ok (.iconst 4, 1) := by decide +kernel
theorem dL_law_211 : decode cL_law 211 = .ok (.iadd, 1) := by decide +kernel
theorem dL_law_212 : decode cL_law 212 = .ok (.iaload, 1) := by decide +kernel
theorem dL_law_213 : decode cL_law 213 = .ok (.invokevirtual 17, 3) := by decide +kernel
theorem dL_law_216 : decode cL_law 216 = .ok (.if_icmp .eq 910, 3) := by decide +kernel
theorem dL_law_219 : decode cL_law 219 = .ok (.iconst 0, 1) := by decide +kernel
theorem dL_law_220 : decode cL_law 220 = .ok (.ireturn, 1) := by decide +kernel
theorem dL_law_221 : decode cL_law 221 = .ok (.aload_n 1, 1) := by decide +kernel
theorem dL_law_222 : decode cL_law 222 = .ok (.aload_n 0, 1) := by decide +kernel
theorem dL_law_223 : decode cL_law 223 = .ok (.iload_n 3, 1) := by decide +kernel
theorem dL_law_224 : decode cL_law 224 = .ok (.iconst 1, 1) := by decide +kernel
theorem dL_law_225 : decode cL_law 225 = .ok (.iadd, 1) := by decide +kernel
theorem dL_law_226 : decode cL_law 226 = .ok (.iaload, 1) := by decide +kernel
theorem dL_law_227 : decode cL_law 227 = .ok (.aload_n 0, 1) := by decide +kernel
theorem dL_law_228 : decode cL_law 228 = .ok (.iload_n 3, 1) := by decide +kernel
theorem dL_law_229 : decode cL_law 229 = .ok (.iconst 2, 1) := by decide +kernel
theorem dL_law_230 : decode cL_law 230 = .ok (.iadd, 1) := by decide +kernel
theorem dL_law_231 : decode cL_law 231 = .ok (.iaload, 1) := by decide +kernel
theorem dL_law_232 : decode cL_law 232 = .ok (.invokevirtual 18, 3) := by decide +kernel
theorem dL_law_235 : decode cL_law 235 = .ok (.aload_n 2, 1) := by decide +kernel
theorem dL_law_236 : decode cL_law 236 = .ok (.aload_n 0, 1) := by decide +kernel
theorem dL_law_237 : decode cL_law 237 = .ok (.iload_n 3, 1) := by decide +kernel
theorem dL_law_238 : decode cL_law 238 = .ok (.iconst 1, 1) := by decide +kernel
theorem dL_law_239 : decode cL_law 239 = .ok (.iadd, 1) := by decide +kernel
theorem dL_law_240 : decode cL_law 240 = .ok (.iaload, 1) := by decide +kernel
theorem dL_law_241 : decode cL_law 241 = .ok (.aload_n 0, 1) := by decide +kernel
theorem dL_law_242 : decode cL_law 242 = .ok (.iload_n 3, 1) := by decide +kernel
theorem dL_law_243 : decode cL_law 243 = .ok (.iconst 2, 1) := by decide +kernel
theorem dL_law_244 : decode cL_law 244 = .ok (.iadd, 1) := by decide +kernel
theorem dL_law_245 : decode cL_law 245 = .ok (.iaload, 1) := by decide +kernel
theorem dL_law_246 : decode cL_law 246 = .ok (.invokevirtual 22, 3) := by decide +kernel
theorem dL_law_249 : decode cL_law 249 = .ok (.if_icmp .eq 877, 3) := by decide +kernel
theorem dL_law_252 : decode cL_law 252 = .ok (.iconst 0, 1) := by decide +kernel
theorem dL_law_253 : decode cL_law 253 = .ok (.ireturn, 1) := by decide +kernel
theorem dL_law_254 : decode cL_law 254 = .ok (.aload_n 1, 1) := by decide +kernel
theorem dL_law_255 : decode cL_law 255 = .ok (.aload_n 0, 1) := by decide +kernel
theorem dL_law_256 : decode cL_law 256 = .ok (.iload_n 3, 1) := by decide +kernel
theorem dL_law_257 : decode cL_law 257 = .ok (.iconst 1, 1) := by decide +kernel
theorem dL_law_258 : decode cL_law 258 = .ok (.iadd, 1) := by decide +kernel
theorem dL_law_259 : decode cL_law 259 = .ok (.iaload, 1) := by decide +kernel
theorem dL_law_260 : decode cL_law 260 = .ok (.invokevirtual 23, 3) := by decide +kernel
theorem dL_law_263 : decode cL_law 263 = .ok (.aload_n 2, 1) := by decide +kernel
theorem dL_law_264 : decode cL_law 264 = .ok (.aload_n 0, 1) := by decide +kernel
theorem dL_law_265 : decode cL_law 265 = .ok (.iload_n 3, 1) := by decide +kernel
theorem dL_law_266 : decode cL_law 266 = .ok (.iconst 1, 1) := by decide +kernel
theorem dL_law_267 : decode cL_law 267 = .ok (.iadd, 1) := by decide +kernel
theorem dL_law_268 : decode cL_law 268 = .ok (.iaload, 1) := by decide +kernel
theorem dL_law_269 : decode cL_law 269 = .ok (.invokevirtual 27, 3) := by decide +kernel
theorem dL_law_272 : decode cL_law 272 = .ok (.if_icmp .eq 854, 3) := by decide +kernel
theorem dL_law_275 : decode cL_law 275 = .ok (.iconst 0, 1) := by decide +kernel
theorem dL_law_276 : decode cL_law 276 = .ok (.ireturn, 1) := by decide +kernel
theorem dL_law_277 : decode cL_law 277 = .ok (.aload_n 1, 1) := by decide +kernel
theorem dL_law_278 : decode cL_law 278 = .ok (.aload_n 0, 1) := by decide +kernel
theorem dL_law_279 : decode cL_law 279 = .ok (.iload_n 3, 1) := by decide +kernel
theorem dL_law_280 : decode cL_law 280 = .ok (.iconst 1, 1) := by decide +kernel
theorem dL_law_281 : decode cL_law 281 = .ok (.iadd, 1) := by decide +kernel
theorem dL_law_282 : decode cL_law 282 = .ok (.iaload, 1) := by decide +kernel
theorem dL_law_283 : decode cL_law 283 = .ok (.aload_n 0, 1) := by decide +kernel
theorem dL_law_284 : decode cL_law 284 = .ok (.iload_n 3, 1) := by decide +kernel
theorem dL_law_285 : decode cL_law 285 = .ok (.iconst 2, 1) := by decide +kernel
theorem dL_law_286 : decode cL_law 286 = .ok (.iadd, 1) := by decide +kernel
theorem dL_law_287 : decode cL_law 287 = .ok (.iaload, 1) := by decide +kernel
theorem dL_law_288 : decode cL_law 288 = .ok (.invokevirtual 28, 3) := by decide +kernel
theorem dL_law_291 : decode cL_law 291 = .ok (.aload_n 2, 1) := by decide +kernel
theorem dL_law_292 : decode cL_law 292 = .ok (.aload_n 0, 1) := by decide +kernel
theorem dL_law_293 : decode cL_law 293 = .ok (.iload_n 3, 1) := by decide +kernel
theorem dL_law_294 : decode cL_law 294 = .ok (.iconst 1, 1) := by decide +kernel
theorem dL_law_295 : decode cL_law 295 = .ok (.iadd, 1) := by decide +kernel
theorem dL_law_296 : decode cL_law 296 = .ok (.iaload, 1) := by decide +kernel
theorem dL_law_297 : decode cL_law 297 = .ok (.aload_n 0, 1) := by decide +kernel
theorem dL_law_298 : decode cL_law 298 = .ok (.iload_n 3, 1) := by decide +kernel
theorem dL_law_299 : decode cL_law 299 = .ok (.iconst 2, 1) := by decide +kernel
theorem dL_law_300 : decode cL_law 300 = .ok (.iadd, 1) := by decide +kernel
theorem dL_law_301 : decode cL_law 301 = .ok (.iaload, 1) := by decide +kernel
theorem dL_law_302 : decode cL_law 302 = .ok (.invokevirtual 31, 3) := by decide +kernel
theorem dL_law_305 : decode cL_law 305 = .ok (.if_icmp .eq 821, 3) := by decide +kernel
theorem dL_law_308 : decode cL_law 308 = .ok (.iconst 0, 1) := by decide +kernel
theorem dL_law_309 : decode cL_law 309 = .ok (.ireturn, 1) := by decide +kernel
theorem dL_law_310 : decode cL_law 310 = .ok (.aload_n 1, 1) := by decide +kernel
theorem dL_law_311 : decode cL_law 311 = .ok (.aload_n 0, 1) := by decide +kernel
theorem dL_law_312 : decode cL_law 312 = .ok (.iload_n 3, 1) := by decide +kernel
theorem dL_law_313 : decode cL_law 313 = .ok (.iconst 1, 1) := by decide +kernel
theorem dL_law_314 : decode cL_law 314 = .ok (.iadd, 1) := by decide +kernel
theorem dL_law_315 : decode cL_law 315 = .ok (.iaload, 1) := by decide +kernel
theorem dL_law_316 : decode cL_law 316 = .ok (.invokevirtual 32, 3) := by decide +kernel
theorem dL_law_319 : decode cL_law 319 = .ok (.aload_n 2, 1) := by decide +kernel
theorem dL_law_320 : decode cL_law 320 = .ok (.aload_n 0, 1) := by decide +kernel
theorem dL_law_321 : decode cL_law 321 = .ok (.iload_n 3, 1) := by decide +kernel
theorem dL_law_322 : decode cL_law 322 = .ok (.iconst 1, 1) := by decide +kernel
theorem dL_law_323 : decode cL_law 323 = .ok (.iadd, 1) := by decide +kernel
theorem dL_law_324 : decode cL_law 324 = .ok (.iaload, 1) := by decide +kernel
theorem dL_law_325 : decode cL_law 325 = .ok (.invokevirtual 35, 3) := by decide +kernel
theorem dL_law_328 : decode cL_law 328 = .ok (.if_icmp .eq 798, 3) := by decide +kernel
theorem dL_law_331 : decode cL_law 331 = .ok (.iconst 0, 1) := by decide +kernel
theorem dL_law_332 : decode cL_law 332 = .ok (.ireturn, 1) := by decide +kernel
theorem dL_law_333 : decode cL_law 333 = .ok (.aload_n 1, 1) := by decide +kernel
theorem dL_law_334 : decode cL_law 334 = .ok (.aload_n 0, 1) := by decide +kernel
theorem dL_law_335 : decode cL_law 335 = .ok (.iload_n 3, 1) := by decide +kernel
theorem dL_law_336 : decode cL_law 336 = .ok (.iconst 1, 1) := by decide +kernel
theorem dL_law_337 : decode cL_law 337 = .ok (.iadd, 1) := by decide +kernel
theorem dL_law_338 : decode cL_law 338 = .ok (.iaload, 1) := by decide +kernel
theorem dL_law_339 : decode cL_law 339 = .ok (.aload_n 0, 1) := by decide +kernel
theorem dL_law_340 : decode cL_law 340 = .ok (.iload_n 3, 1) := by decide +kernel
theorem dL_law_341 : decode cL_law 341 = .ok (.iconst 2, 1) := by decide +kernel
theorem dL_law_342 : decode cL_law 342 = .ok (.iadd, 1) := by decide +kernel
theorem dL_law_343 : decode cL_law 343 = .ok (.iaload, 1) := by decide +kernel
theorem dL_law_344 : decode cL_law 344 = .ok (.invokevirtual 36, 3) := by decide +kernel
theorem dL_law_347 : decode cL_law 347 = .ok (.aload_n 2, 1) := by decide +kernel
theorem dL_law_348 : decode cL_law 348 = .ok (.aload_n 0, 1) := by decide +kernel
theorem dL_law_349 : decode cL_law 349 = .ok (.iload_n 3, 1) := by decide +kernel
theorem dL_law_350 : decode cL_law 350 = .ok (.iconst 1, 1) := by decide +kernel
theorem dL_law_351 : decode cL_law 351 = .ok (.iadd, 1) := by decide +kernel
theorem dL_law_352 : decode cL_law 352 = .ok (.iaload, 1) := by decide +kernel
theorem dL_law_353 : decode cL_law 353 = .ok (.aload_n 0, 1) := by decide +kernel
theorem dL_law_354 : decode cL_law 354 = .ok (.iload_n 3, 1) := by decide +kernel
theorem dL_law_355 : decode cL_law 355 = .ok (.iconst 2, 1) := by decide +kernel
theorem dL_law_356 : decode cL_law 356 = .ok (.iadd, 1) := by decide +kernel
theorem dL_law_357 : decode cL_law 357 = .ok (.iaload, 1) := by decide +kernel
theorem dL_law_358 : decode cL_law 358 = .ok (.invokevirtual 39, 3) := by decide +kernel
theorem dL_law_361 : decode cL_law 361 = .ok (.if_icmp .eq 765, 3) := by decide +kernel
theorem dL_law_364 : decode cL_law 364 = .ok (.iconst 0, 1) := by decide +kernel
theorem dL_law_365 : decode cL_law 365 = .ok (.ireturn, 1) := by decide +kernel
theorem dL_law_366 : decode cL_law 366 = .ok (.aload_n 1, 1) := by decide +kernel
theorem dL_law_367 : decode cL_law 367 = .ok (.invokevirtual 40, 3) := by decide +kernel
theorem dL_law_370 : decode cL_law 370 = .ok (.aload_n 2, 1) := by decide +kernel
theorem dL_law_371 : decode cL_law 371 = .ok (.invokevirtual 44, 3) := by decide +kernel
theorem dL_law_374 : decode cL_law 374 = .ok (.if_icmp .eq 752, 3) := by decide +kernel
theorem dL_law_377 : decode cL_law 377 = .ok (.iconst 0, 1) := by decide +kernel
theorem dL_law_378 : decode cL_law 378 = .ok (.ireturn, 1) := by decide +kernel
theorem dL_law_379 : decode cL_law 379 = .ok (.aload_n 1, 1) := by decide +kernel
theorem dL_law_380 : decode cL_law 380 = .ok (.aload_n 0, 1) := by decide +kernel
theorem dL_law_381 : decode cL_law 381 = .ok (.iload_n 3, 1) := by decide +kernel
theorem dL_law_382 : decode cL_law 382 = .ok (.iconst 1, 1) := by decide +kernel
theorem dL_law_383 : decode cL_law 383 = .ok (.iadd, 1) := by decide +kernel
theorem dL_law_384 : decode cL_law 384 = .ok (.iaload, 1) := by decide +kernel
theorem dL_law_385 : decode cL_law 385 = .ok (.aload_n 0, 1) := by decide +kernel
theorem dL_law_386 : decode cL_law 386 = .ok (.iload_n 3, 1) := by decide +kernel
theorem dL_law_387 : decode cL_law 387 = .ok (.iconst 2, 1) := by decide +kernel
theorem dL_law_388 : decode cL_law 388 = .ok (.iadd, 1) := by decide +kernel
theorem dL_law_389 : decode cL_law 389 = .ok (.iaload, 1) := by decide +kernel
theorem dL_law_390 : decode cL_law 390 = .ok (.invokevirtual 45, 3) := by decide +kernel
theorem dL_law_393 : decode cL_law 393 = .ok (.aload_n 2, 1) := by decide +kernel
theorem dL_law_394 : decode cL_law 394 = .ok (.aload_n 0, 1) := by decide +kernel
theorem dL_law_395 : decode cL_law 395 = .ok (.iload_n 3, 1) := by decide +kernel
theorem dL_law_396 : decode cL_law 396 = .ok (.iconst 1, 1) := by decide +kernel
theorem dL_law_397 : decode cL_law 397 = .ok (.iadd, 1) := by decide +kernel
theorem dL_law_398 : decode cL_law 398 = .ok (.iaload, 1) := by decide +kernel
theorem dL_law_399 : decode cL_law 399 = .ok (.aload_n 0, 1) := by decide +kernel
theorem dL_law_400 : decode cL_law 400 = .ok (.iload_n 3, 1) := by decide +kernel
theorem dL_law_401 : decode cL_law 401 = .ok (.iconst 2, 1) := by decide +kernel
theorem dL_law_402 : decode cL_law 402 = .ok (.iadd, 1) := by decide +kernel
theorem dL_law_403 : decode cL_law 403 = .ok (.iaload, 1) := by decide +kernel
theorem dL_law_404 : decode cL_law 404 = .ok (.invokevirtual 48, 3) := by decide +kernel
theorem dL_law_407 : decode cL_law 407 = .ok (.if_icmp .eq 719, 3) := by decide +kernel
theorem dL_law_410 : decode cL_law 410 = .ok (.iconst 0, 1) := by decide +kernel
theorem dL_law_411 : decode cL_law 411 = .ok (.ireturn, 1) := by decide +kernel
theorem dL_law_412 : decode cL_law 412 = .ok (.aload_n 1, 1) := by decide +kernel
theorem dL_law_413 : decode cL_law 413 = .ok (.aload_n 0, 1) := by decide +kernel
theorem dL_law_414 : decode cL_law 414 = .ok (.iload_n 3, 1) := by decide +kernel
theorem dL_law_415 : decode cL_law 415 = .ok (.iconst 1, 1) := by decide +kernel
theorem dL_law_416 : decode cL_law 416 = .ok (.iadd, 1) := by decide +kernel
theorem dL_law_417 : decode cL_law 417 = .ok (.iaload, 1) := by decide +kernel
theorem dL_law_418 : decode cL_law 418 = .ok (.aload_n 0, 1) := by decide +kernel
theorem dL_law_419 : decode cL_law 419 = .ok (.iload_n 3, 1) := by decide +kernel
theorem dL_law_420 : decode cL_law 420 = .ok (.iconst 2, 1) := by decide +kernel
theorem dL_law_421 : decode cL_law 421 = .ok (.iadd, 1) := by decide +kernel
theorem dL_law_422 : decode cL_law 422 = .ok (.iaload, 1) := by decide +kernel
theorem dL_law_423 : decode cL_law 423 = .ok (.aload_n 0, 1) := by decide +kernel
theorem dL_law_424 : decode cL_law 424 = .ok (.iload_n 3, 1) := by decide +kernel
theorem dL_law_425 : decode cL_law 425 = .ok (.iconst 3, 1) := by decide +kernel
theorem dL_law_426 : decode cL_law 426 = .ok (.iadd, 1) := by decide +kernel
theorem dL_law_427 : decode cL_law 427 = .ok (.iaload, 1) := by decide +kernel
theorem dL_law_428 : decode cL_law 428 = .ok (.invokevirtual 49, 3) := by decide +kernel
theorem dL_law_431 : decode cL_law 431 = .ok (.aload_n 2, 1) := by decide +kernel
theorem dL_law_432 : decode cL_law 432 = .ok (.aload_n 0, 1) := by decide +kernel
theorem dL_law_433 : decode cL_law 433 = .ok (.iload_n 3, 1) := by decide +kernel
theorem dL_law_434 : decode cL_law 434 = .ok (.iconst 1, 1) := by decide +kernel
theorem dL_law_435 : decode cL_law 435 = .ok (.iadd, 1) := by decide +kernel
theorem dL_law_436 : decode cL_law 436 = .ok (.iaload, 1) := by decide +kernel
theorem dL_law_437 : decode cL_law 437 = .ok (.aload_n 0, 1) := by decide +kernel
theorem dL_law_438 : decode cL_law 438 = .ok (.iload_n 3, 1) := by decide +kernel
theorem dL_law_439 : decode cL_law 439 = .ok (.iconst 2, 1) := by decide +kernel
theorem dL_law_440 : decode cL_law 440 = .ok (.iadd, 1) := by decide +kernel
theorem dL_law_441 : decode cL_law 441 = .ok (.iaload, 1) := by decide +kernel
theorem dL_law_442 : decode cL_law 442 = .ok (.aload_n 0, 1) := by decide +kernel
theorem dL_law_443 : decode cL_law 443 = .ok (.iload_n 3, 1) := by decide +kernel
theorem dL_law_444 : decode cL_law 444 = .ok (.iconst 3, 1) := by decide +kernel
theorem dL_law_445 : decode cL_law 445 = .ok (.iadd, 1) := by decide +kernel
theorem dL_law_446 : decode cL_law 446 = .ok (.iaload, 1) := by decide +kernel
theorem dL_law_447 : decode cL_law 447 = .ok (.invokevirtual 53, 3) := by decide +kernel
theorem dL_law_450 : decode cL_law 450 = .ok (.if_icmp .eq 676, 3) := by decide +kernel
theorem dL_law_453 : decode cL_law 453 = .ok (.iconst 0, 1) := by decide +kernel
theorem dL_law_454 : decode cL_law 454 = .ok (.ireturn, 1) := by decide +kernel
theorem dL_law_455 : decode cL_law 455 = .ok (.aload_n 1, 1) := by decide +kernel
theorem dL_law_456 : decode cL_law 456 = .ok (.aload_n 0, 1) := by decide +kernel
theorem dL_law_457 : decode cL_law 457 = .ok (.iload_n 3, 1) := by decide +kernel
theorem dL_law_458 : decode cL_law 458 = .ok (.iconst 1, 1) := by decide +kernel
theorem dL_law_459 : decode cL_law 459 = .ok (.iadd, 1) := by decide +kernel
theorem dL_law_460 : decode cL_law 460 = .ok (.iaload, 1) := by decide +kernel
theorem dL_law_461 : decode cL_law 461 = .ok (.aload_n 0, 1) := by decide +kernel
theorem dL_law_462 : decode cL_law 462 = .ok (.iload_n 3, 1) := by decide +kernel
theorem dL_law_463 : decode cL_law 463 = .ok (.iconst 2, 1) := by decide +kernel
theorem dL_law_464 : decode cL_law 464 = .ok (.iadd, 1) := by decide +kernel
theorem dL_law_465 : decode cL_law 465 = .ok (.iaload, 1) := by decide +kernel
theorem dL_law_466 : decode cL_law 466 = .ok (.aload_n 0, 1) := by decide +kernel
theorem dL_law_467 : decode cL_law 467 = .ok (.iload_n 3, 1) := by decide +kernel
theorem dL_law_468 : decode cL_law 468 = .ok (.iconst 3, 1) := by decide +kernel
theorem dL_law_469 : decode cL_law 469 = .ok (.iadd, 1) := by decide +kernel
theorem dL_law_470 : decode cL_law 470 = .ok (.iaload, 1) := by decide +kernel
theorem dL_law_471 : decode cL_law 471 = .ok (.aload_n 0, 1) := by decide +kernel
theorem dL_law_472 : decode cL_law 472 = .ok (.iload_n 3, 1) := by decide +kernel
theorem dL_law_473 : decode cL_law 473 = .ok (.iconst 4, 1) := by decide +kernel
theorem dL_law_474 : decode cL_law 474 = .ok (.iadd, 1) := by decide +kernel
theorem dL_law_475 : decode cL_law 475 = .ok (.iaload, 1) := by decide +kernel
theorem dL_law_476 : decode cL_law 476 = .ok (.aload_n 0, 1) := by decide +kernel
theorem dL_law_477 : decode cL_law 477 = .ok (.iload_n 3, 1) := by decide +kernel
theorem dL_law_478 : decode cL_law 478 = .ok (.iconst 5, 1) := by decide +kernel
theorem dL_law_479 : decode cL_law 479 = .ok (.iadd, 1) := by decide +kernel
theorem dL_law_480 : decode cL_law 480 = .ok (.iaload, 1) := by decide +kernel
theorem dL_law_481 : decode cL_law 481 = .ok (.invokevirtual 54, 3) := by decide +kernel
theorem dL_law_484 : decode cL_law 484 = .ok (.aload_n 2, 1) := by decide +kernel
theorem dL_law_485 : decode cL_law 485 = .ok (.aload_n 0, 1) := by decide +kernel
theorem dL_law_486 : decode cL_law 486 = .ok (.iload_n 3, 1) := by decide +kernel
theorem dL_law_487 : decode cL_law 487 = .ok (.iconst 1, 1) := by decide +kernel
theorem dL_law_488 : decode cL_law 488 = .ok (.iadd, 1) := by decide +kernel
theorem dL_law_489 : decode cL_law 489 = .ok (.iaload, 1) := by decide +kernel
theorem dL_law_490 : decode cL_law 490 = .ok (.aload_n 0, 1) := by decide +kernel
theorem dL_law_491 : decode cL_law 491 = .ok (.iload_n 3, 1) := by decide +kernel
theorem dL_law_492 : decode cL_law 492 = .ok (.iconst 2, 1) := by decide +kernel
theorem dL_law_493 : decode cL_law 493 = .ok (.iadd, 1) := by decide +kernel
theorem dL_law_494 : decode cL_law 494 = .ok (.iaload, 1) := by decide +kernel
theorem dL_law_495 : decode cL_law 495 = .ok (.aload_n 0, 1) := by decide +kernel
theorem dL_law_496 : decode cL_law 496 = .ok (.iload_n 3, 1) := by decide +kernel
theorem dL_law_497 : decode cL_law 497 = .ok (.iconst 3, 1) := by decide +kernel
theorem dL_law_498 : decode cL_law 498 = .ok (.iadd, 1) := by decide +kernel
theorem dL_law_499 : decode cL_law 499 = .ok (.iaload, 1) := by decide +kernel
theorem dL_law_500 : decode cL_law 500 = .ok (.aload_n 0, 1) := by decide +kernel
theorem dL_law_501 : decode cL_law 501 = .ok (.iload_n 3, 1) := by decide +kernel
theorem dL_law_502 : decode cL_law 502 = .ok (.iconst 4, 1) := by decide +kernel
theorem dL_law_503 : decode cL_law 503 = .ok (.iadd, 1) := by decide +kernel
theorem dL_law_504 : decode cL_law 504 = .ok (.iaload, 1) := by decide +kernel
theorem dL_law_505 : decode cL_law 505 = .ok (.aload_n 0, 1) := by decide +kernel
theorem dL_law_506 : decode cL_law 506 = .ok (.iload_n 3, 1) := by decide +kernel
theorem dL_law_507 : decode cL_law 507 = .ok (.iconst 5, 1) := by decide +kernel
theorem dL_law_508 : decode cL_law 508 = .ok (.iadd, 1) := by decide +kernel
theorem dL_law_509 : decode cL_law 509 = .ok (.iaload, 1) := by decide +kernel
theorem dL_law_510 : decode cL_law 510 = .ok (.invokevirtual 58, 3) := by decide +kernel
theorem dL_law_513 : decode cL_law 513 = .ok (.if_icmp .eq 613, 3) := by decide +kernel
theorem dL_law_516 : decode cL_law 516 = .ok (.iconst 0, 1) := by decide +kernel
theorem dL_law_517 : decode cL_law 517 = .ok (.ireturn, 1) := by decide +kernel
theorem dL_law_518 : decode cL_law 518 = .ok (.aload_n 1, 1) := by decide +kernel
theorem dL_law_519 : decode cL_law 519 = .ok (.aload_n 0, 1) := by decide +kernel
theorem dL_law_520 : decode cL_law 520 = .ok (.iload_n 3, 1) := by decide +kernel
theorem dL_law_521 : decode cL_law 521 = .ok (.iconst 1, 1) := by decide +kernel
theorem dL_law_522 : decode cL_law 522 = .ok (.iadd, 1) := by decide +kernel
theorem dL_law_523 : decode cL_law 523 = .ok (.iaload, 1) := by decide +kernel
theorem dL_law_524 : decode cL_law 524 = .ok (.aload_n 0, 1) := by decide +kernel
theorem dL_law_525 : decode cL_law 525 = .ok (.iload_n 3, 1) := by decide +kernel
theorem dL_law_526 : decode cL_law 526 = .ok (.iconst 2, 1) := by decide +kernel
theorem dL_law_527 : decode cL_law 527 = .ok (.iadd, 1) := by decide +kernel
theorem dL_law_528 : decode cL_law 528 = .ok (.iaload, 1) := by decide +kernel
theorem dL_law_529 : decode cL_law 529 = .ok (.invokevirtual 59, 3) := by decide +kernel
theorem dL_law_532 : decode cL_law 532 = .ok (.aload_n 2, 1) := by decide +kernel
theorem dL_law_533 : decode cL_law 533 = .ok (.aload_n 0, 1) := by decide +kernel
theorem dL_law_534 : decode cL_law 534 = .ok (.iload_n 3, 1) := by decide +kernel
theorem dL_law_535 : decode cL_law 535 = .ok (.iconst 1, 1) := by decide +kernel
theorem dL_law_536 : decode cL_law 536 = .ok (.iadd, 1) := by decide +kernel
theorem dL_law_537 : decode cL_law 537 = .ok (.iaload, 1) := by decide +kernel
theorem dL_law_538 : decode cL_law 538 = .ok (.aload_n 0, 1) := by decide +kernel
theorem dL_law_539 : decode cL_law 539 = .ok (.iload_n 3, 1) := by decide +kernel
theorem dL_law_540 : decode cL_law 540 = .ok (.iconst 2, 1) := by decide +kernel
theorem dL_law_541 : decode cL_law 541 = .ok (.iadd, 1) := by decide +kernel
theorem dL_law_542 : decode cL_law 542 = .ok (.iaload, 1) := by decide +kernel
theorem dL_law_543 : decode cL_law 543 = .ok (.invokevirtual 62, 3) := by decide +kernel
theorem dL_law_546 : decode cL_law 546 = .ok (.if_icmp .eq 580, 3) := by decide +kernel
theorem dL_law_549 : decode cL_law 549 = .ok (.iconst 0, 1) := by decide +kernel
theorem dL_law_550 : decode cL_law 550 = .ok (.ireturn, 1) := by decide +kernel
theorem dL_law_551 : decode cL_law 551 = .ok (.aload_n 1, 1) := by decide +kernel
theorem dL_law_552 : decode cL_law 552 = .ok (.invokevirtual 63, 3) := by decide +kernel
theorem dL_law_555 : decode cL_law 555 = .ok (.aload_n 2, 1) := by decide +kernel
theorem dL_law_556 : decode cL_law 556 = .ok (.invokevirtual 66, 3) := by decide +kernel
theorem dL_law_559 : decode cL_law 559 = .ok (.if_icmp .eq 567, 3) := by decide +kernel
theorem dL_law_562 : decode cL_law 562 = .ok (.iconst 0, 1) := by decide +kernel
theorem dL_law_563 : decode cL_law 563 = .ok (.ireturn, 1) := by decide +kernel
theorem dL_law_564 : decode cL_law 564 = .ok (.aload_n 1, 1) := by decide +kernel
theorem dL_law_565 : decode cL_law 565 = .ok (.aload_n 0, 1) := by decide +kernel
theorem dL_law_566 : decode cL_law 566 = .ok (.iload_n 3, 1) := by decide +kernel
theorem dL_law_567 : decode cL_law 567 = .ok (.iconst 1, 1) := by decide +kernel
theorem dL_law_568 : decode cL_law 568 = .ok (.iadd, 1) := by decide +kernel
theorem dL_law_569 : decode cL_law 569 = .ok (.iaload, 1) := by decide +kernel
theorem dL_law_570 : decode cL_law 570 = .ok (.invokevirtual 67, 3) := by decide +kernel
theorem dL_law_573 : decode cL_law 573 = .ok (.aload_n 2, 1) := by decide +kernel
theorem dL_law_574 : decode cL_law 574 = .ok (.aload_n 0, 1) := by decide +kernel
theorem dL_law_575 : decode cL_law 575 = .ok (.iload_n 3, 1) := by decide +kernel
theorem dL_law_576 : decode cL_law 576 = .ok (.iconst 1, 1) := by decide +kernel
theorem dL_law_577 : decode cL_law 577 = .ok (.iadd, 1) := by decide +kernel
theorem dL_law_578 : decode cL_law 578 = .ok (.iaload, 1) := by decide +kernel
theorem dL_law_579 : decode cL_law 579 = .ok (.invokevirtual 70, 3) := by decide +kernel
theorem dL_law_582 : decode cL_law 582 = .ok (.if_icmp .eq 544, 3) := by decide +kernel
theorem dL_law_585 : decode cL_law 585 = .ok (.iconst 0, 1) := by decide +kernel
theorem dL_law_586 : decode cL_law 586 = .ok (.ireturn, 1) := by decide +kernel
theorem dL_law_587 : decode cL_law 587 = .ok (.aload_n 1, 1) := by decide +kernel
theorem dL_law_588 : decode cL_law 588 = .ok (.aload_n 0, 1) := by decide +kernel
theorem dL_law_589 : decode cL_law 589 = .ok (.iload_n 3, 1) := by decide +kernel
theorem dL_law_590 : decode cL_law 590 = .ok (.iconst 1, 1) := by decide +kernel
theorem dL_law_591 : decode cL_law 591 = .ok (.iadd, 1) := by decide +kernel
theorem dL_law_592 : decode cL_law 592 = .ok (.iaload, 1) := by decide +kernel
theorem dL_law_593 : decode cL_law 593 = .ok (.aload_n 0, 1) := by decide +kernel
theorem dL_law_594 : decode cL_law 594 = .ok (.iload_n 3, 1) := by decide +kernel
theorem dL_law_595 : decode cL_law 595 = .ok (.iconst 2, 1) := by decide +kernel
theorem dL_law_596 : decode cL_law 596 = .ok (.iadd, 1) := by decide +kernel
theorem dL_law_597 : decode cL_law 597 = .ok (.iaload, 1) := by decide +kernel
theorem dL_law_598 : decode cL_law 598 = .ok (.aload_n 0, 1) := by decide +kernel
theorem dL_law_599 : decode cL_law 599 = .ok (.iload_n 3, 1) := by decide +kernel
theorem dL_law_600 : decode cL_law 600 = .ok (.iconst 3, 1) := by decide +kernel
theorem dL_law_601 : decode cL_law 601 = .ok (.iadd, 1) := by decide +kernel
theorem dL_law_602 : decode cL_law 602 = .ok (.iaload, 1) := by decide +kernel
theorem dL_law_603 : decode cL_law 603 = .ok (.aload_n 0, 1) := by decide +kernel
theorem dL_law_604 : decode cL_law 604 = .ok (.iload_n 3, 1) := by decide +kernel
theorem dL_law_605 : decode cL_law 605 = .ok (.iconst 4, 1) := by decide +kernel
theorem dL_law_606 : decode cL_law 606 = .ok (.iadd, 1) := by decide +kernel
theorem dL_law_607 : decode cL_law 607 = .ok (.iaload, 1) := by decide +kernel
theorem dL_law_608 : decode cL_law 608 = .ok (.ifCond .eq 7, 3) := by decide +kernel
theorem dL_law_611 : decode cL_law 611 = .ok (.iconst 1, 1) := by decide +kernel
theorem dL_law_612 : decode cL_law 612 = .ok (.goto 4, 3) := by decide +kernel
theorem dL_law_615 : decode cL_law 615 = .ok (.iconst 0, 1) := by decide +kernel
theorem dL_law_616 : decode cL_law 616 = .ok (.invokevirtual 71, 3) := by decide +kernel
theorem dL_law_619 : decode cL_law 619 = .ok (.aload_n 2, 1) := by decide +kernel
theorem dL_law_620 : decode cL_law 620 = .ok (.aload_n 0, 1) := by decide +kernel
theorem dL_law_621 : decode cL_law 621 = .ok (.iload_n 3, 1) := by decide +kernel
theorem dL_law_622 : decode cL_law 622 = .ok (.iconst 1, 1) := by decide +kernel
theorem dL_law_623 : decode cL_law 623 = .ok (.iadd, 1) := by decide +kernel
theorem dL_law_624 : decode cL_law 624 = .ok (.iaload, 1) := by decide +kernel
theorem dL_law_625 : decode cL_law 625 = .ok (.aload_n 0, 1) := by decide +kernel
theorem dL_law_626 : decode cL_law 626 = .ok (.iload_n 3, 1) := by decide +kernel
theorem dL_law_627 : decode cL_law 627 = .ok (.iconst 2, 1) := by decide +kernel
theorem dL_law_628 : decode cL_law 628 = .ok (.iadd, 1) := by decide +kernel
theorem dL_law_629 : decode cL_law 629 = .ok (.iaload, 1) := by decide +kernel
theorem dL_law_630 : decode cL_law 630 = .ok (.aload_n 0, 1) := by decide +kernel
theorem dL_law_631 : decode cL_law 631 = .ok (.iload_n 3, 1) := by decide +kernel
theorem dL_law_632 : decode cL_law 632 = .ok (.iconst 3, 1) := by decide +kernel
theorem dL_law_633 : decode cL_law 633 = .ok (.iadd, 1) := by decide +kernel
theorem dL_law_634 : decode cL_law 634 = .ok (.iaload, 1) := by decide +kernel
theorem dL_law_635 : decode cL_law 635 = .ok (.aload_n 0, 1) := by decide +kernel
theorem dL_law_636 : decode cL_law 636 = .ok (.iload_n 3, 1) := by decide +kernel
theorem dL_law_637 : decode cL_law 637 = .ok (.iconst 4, 1) := by decide +kernel
theorem dL_law_638 : decode cL_law 638 = .ok (.iadd, 1) := by decide +kernel
theorem dL_law_639 : decode cL_law 639 = .ok (.iaload, 1) := by decide +kernel
theorem dL_law_640 : decode cL_law 640 = .ok (.ifCond .eq 7, 3) := by decide +kernel
theorem dL_law_643 : decode cL_law 643 = .ok (.iconst 1, 1) := by decide +kernel
theorem dL_law_644 : decode cL_law 644 = .ok (.goto 4, 3) := by decide +kernel
theorem dL_law_647 : decode cL_law 647 = .ok (.iconst 0, 1) := by decide +kernel
theorem dL_law_648 : decode cL_law 648 = .ok (.invokevirtual 75, 3) := by decide +kernel
theorem dL_law_651 : decode cL_law 651 = .ok (.if_icmp .eq 475, 3) := by decide +kernel
theorem dL_law_654 : decode cL_law 654 = .ok (.iconst 0, 1) := by decide +kernel
theorem dL_law_655 : decode cL_law 655 = .ok (.ireturn, 1) := by decide +kernel
theorem dL_law_656 : decode cL_law 656 = .ok (.aload_n 1, 1) := by decide +kernel
theorem dL_law_657 : decode cL_law 657 = .ok (.aload_n 0, 1) := by decide +kernel
theorem dL_law_658 : decode cL_law 658 = .ok (.iload_n 3, 1) := by decide +kernel
theorem dL_law_659 : decode cL_law 659 = .ok (.iconst 1, 1) := by decide +kernel
theorem dL_law_660 : decode cL_law 660 = .ok (.iadd, 1) := by decide +kernel
theorem dL_law_661 : decode cL_law 661 = .ok (.iaload, 1) := by decide +kernel
theorem dL_law_662 : decode cL_law 662 = .ok (.invokevirtual 76, 3) := by decide +kernel
theorem dL_law_665 : decode cL_law 665 = .ok (.aload_n 2, 1) := by decide +kernel
theorem dL_law_666 : decode cL_law 666 = .ok (.aload_n 0, 1) := by decide +kernel
theorem dL_law_667 : decode cL_law 667 = .ok (.iload_n 3, 1) := by decide +kernel
theorem dL_law_668 : decode cL_law 668 = .ok (.iconst 1, 1) := by decide +kernel
theorem dL_law_669 : decode cL_law 669 = .ok (.iadd, 1) := by decide +kernel
theorem dL_law_670 : decode cL_law 670 = .ok (.iaload, 1) := by decide +kernel
theorem dL_law_671 : decode cL_law 671 = .ok (.invokevirtual 79, 3) := by decide +kernel
theorem dL_law_674 : decode cL_law 674 = .ok (.if_icmp .eq 452, 3) := by decide +kernel
theorem dL_law_677 : decode cL_law 677 = .ok (.iconst 0, 1) := by decide +kernel
theorem dL_law_678 : decode cL_law 678 = .ok (.ireturn, 1) := by decide +kernel
theorem dL_law_679 : decode cL_law 679 = .ok (.aload_n 1, 1) := by decide +kernel
theorem dL_law_680 : decode cL_law 680 = .ok (.aload_n 0, 1) := by decide +kernel
theorem dL_law_681 : decode cL_law 681 = .ok (.iload_n 3, 1) := by decide +kernel
theorem dL_law_682 : decode cL_law 682 = .ok (.iconst 1, 1) := by decide +kernel
theorem dL_law_683 : decode cL_law 683 = .ok (.iadd, 1) := by decide +kernel
theorem dL_law_684 : decode cL_law 684 = .ok (.iaload, 1) := by decide +kernel
theorem dL_law_685 : decode cL_law 685 = .ok (.invokevirtual 80, 3) := by decide +kernel
theorem dL_law_688 : decode cL_law 688 = .ok (.aload_n 2, 1) := by decide +kernel
theorem dL_law_689 : decode cL_law 689 = .ok (.aload_n 0, 1) := by decide +kernel
theorem dL_law_690 : decode cL_law 690 = .ok (.iload_n 3, 1) := by decide +kernel
theorem dL_law_691 : decode cL_law 691 = .ok (.iconst 1, 1) := by decide +kernel
theorem dL_law_692 : decode cL_law 692 = .ok (.iadd, 1) := by decide +kernel
theorem dL_law_693 : decode cL_law 693 = .ok (.iaload, 1) := by decide +kernel
theorem dL_law_694 : decode cL_law 694 = .ok (.invokevirtual 83, 3) := by decide +kernel
theorem dL_law_697 : decode cL_law 697 = .ok (.if_icmp .eq 429, 3) := by decide +kernel
theorem dL_law_700 : decode cL_law 700 = .ok (.iconst 0, 1) := by decide +kernel
theorem dL_law_701 : decode cL_law 701 = .ok (.ireturn, 1) := by decide +kernel
theorem dL_law_702 : decode cL_law 702 = .ok (.aload_n 1, 1) := by decide +kernel
theorem dL_law_703 : decode cL_law 703 = .ok (.aload_n 0, 1) := by decide +kernel
theorem dL_law_704 : decode cL_law 704 = .ok (.iload_n 3, 1) := by decide +kernel
theorem dL_law_705 : decode cL_law 705 = .ok (.iconst 1, 1) := by decide +kernel
theorem dL_law_706 : decode cL_law 706 = .ok (.iadd, 1) := by decide +kernel
theorem dL_law_707 : decode cL_law 707 = .ok (.iaload, 1) := by decide +kernel
theorem dL_law_708 : decode cL_law 708 = .ok (.invokevirtual 84, 3) := by decide +kernel
theorem dL_law_711 : decode cL_law 711 = .ok (.aload_n 2, 1) := by decide +kernel
theorem dL_law_712 : decode cL_law 712 = .ok (.aload_n 0, 1) := by decide +kernel
theorem dL_law_713 : decode cL_law 713 = .ok (.iload_n 3, 1) := by decide +kernel
theorem dL_law_714 : decode cL_law 714 = .ok (.iconst 1, 1) := by decide +kernel
theorem dL_law_715 : decode cL_law 715 = .ok (.iadd, 1) := by decide +kernel
theorem dL_law_716 : decode cL_law 716 = .ok (.iaload, 1) := by decide +kernel
theorem dL_law_717 : decode cL_law 717 = .ok (.invokevirtual 87, 3) := by decide +kernel
theorem dL_law_720 : decode cL_law 720 = .ok (.if_icmp .eq 406, 3) := by decide +kernel
theorem dL_law_723 : decode cL_law 723 = .ok (.iconst 0, 1) := by decide +kernel
theorem dL_law_724 : decode cL_law 724 = .ok (.ireturn, 1) := by decide +kernel
theorem dL_law_725 : decode cL_law 725 = .ok (.aload_n 1, 1) := by decide +kernel
theorem dL_law_726 : decode cL_law 726 = .ok (.invokevirtual 88, 3) := by decide +kernel
theorem dL_law_729 : decode cL_law 729 = .ok (.aload_n 2, 1) := by decide +kernel
theorem dL_law_730 : decode cL_law 730 = .ok (.invokevirtual 91, 3) := by decide +kernel
theorem dL_law_733 : decode cL_law 733 = .ok (.if_icmp .eq 393, 3) := by decide +kernel
theorem dL_law_736 : decode cL_law 736 = .ok (.iconst 0, 1) := by decide +kernel
theorem dL_law_737 : decode cL_law 737 = .ok (.ireturn, 1) := by decide +kernel
theorem dL_law_738 : decode cL_law 738 = .ok (.aload_n 1, 1) := by decide +kernel
theorem dL_law_739 : decode cL_law 739 = .ok (.aload_n 0, 1) := by decide +kernel
theorem dL_law_740 : decode cL_law 740 = .ok (.iload_n 3, 1) := by decide +kernel
theorem dL_law_741 : decode cL_law 741 = .ok (.iconst 1, 1) := by decide +kernel
theorem dL_law_742 : decode cL_law 742 = .ok (.iadd, 1) := by decide +kernel
theorem dL_law_743 : decode cL_law 743 = .ok (.iaload, 1) := by decide +kernel
theorem dL_law_744 : decode cL_law 744 = .ok (.aload_n 0, 1) := by decide +kernel
theorem dL_law_745 : decode cL_law 745 = .ok (.iload_n 3, 1) := by decide +kernel
theorem dL_law_746 : decode cL_law 746 = .ok (.iconst 2, 1) := by decide +kernel
theorem dL_law_747 : decode cL_law 747 = .ok (.iadd, 1) := by decide +kernel
theorem dL_law_748 : decode cL_law 748 = .ok (.iaload, 1) := by decide +kernel
theorem dL_law_749 : decode cL_law 749 = .ok (.aload_n 0, 1) := by decide +kernel
theorem dL_law_750 : decode cL_law 750 = .ok (.iload_n 3, 1) := by decide +kernel
theorem dL_law_751 : decode cL_law 751 = .ok (.iconst 3, 1) := by decide +kernel
theorem dL_law_752 : decode cL_law 752 = .ok (.iadd, 1) := by decide +kernel
theorem dL_law_753 : decode cL_law 753 = .ok (.iaload, 1) := by decide +kernel
theorem dL_law_754 : decode cL_law 754 = .ok (.invokevirtual 92, 3) := by decide +kernel
theorem dL_law_757 : decode cL_law 757 = .ok (.aload_n 2, 1) := by decide +kernel
theorem dL_law_758 : decode cL_law 758 = .ok (.aload_n 0, 1) := by decide +kernel
theorem dL_law_759 : decode cL_law 759 = .ok (.iload_n 3, 1) := by decide +kernel
theorem dL_law_760 : decode cL_law 760 = .ok (.iconst 1, 1) := by decide +kernel
theorem dL_law_761 : decode cL_law 761 = .ok (.iadd, 1) := by decide +kernel
theorem dL_law_762 : decode cL_law 762 = .ok (.iaload, 1) := by decide +kernel
theorem dL_law_763 : decode cL_law 763 = .ok (.aload_n 0, 1) := by decide +kernel
theorem dL_law_764 : decode cL_law 764 = .ok (.iload_n 3, 1) := by decide +kernel
theorem dL_law_765 : decode cL_law 765 = .ok (.iconst 2, 1) := by decide +kernel
theorem dL_law_766 : decode cL_law 766 = .ok (.iadd, 1) := by decide +kernel
theorem dL_law_767 : decode cL_law 767 = .ok (.iaload, 1) := by decide +kernel
theorem dL_law_768 : decode cL_law 768 = .ok (.aload_n 0, 1) := by decide +kernel
theorem dL_law_769 : decode cL_law 769 = .ok (.iload_n 3, 1) := by decide +kernel
theorem dL_law_770 : decode cL_law 770 = .ok (.iconst 3, 1) := by decide +kernel
theorem dL_law_771 : decode cL_law 771 = .ok (.iadd, 1) := by decide +kernel
theorem dL_law_772 : decode cL_law 772 = .ok (.iaload, 1) := by decide +kernel
theorem dL_law_773 : decode cL_law 773 = .ok (.invokevirtual 96, 3) := by decide +kernel
theorem dL_law_776 : decode cL_law 776 = .ok (.lcmp, 1) := by decide +kernel
theorem dL_law_777 : decode cL_law 777 = .ok (.ifCond .eq 349, 3) := by decide +kernel
theorem dL_law_780 : decode cL_law 780 = .ok (.iconst 0, 1) := by decide +kernel
theorem dL_law_781 : decode cL_law 781 = .ok (.ireturn, 1) := by decide +kernel
theorem dL_law_782 : decode cL_law 782 = .ok (.aload_n 1, 1) := by decide +kernel
theorem dL_law_783 : decode cL_law 783 = .ok (.aload_n 0, 1) := by decide +kernel
theorem dL_law_784 : decode cL_law 784 = .ok (.iload_n 3, 1) := by decide +kernel
theorem dL_law_785 : decode cL_law 785 = .ok (.iconst 1, 1) := by decide +kernel
theorem dL_law_786 : decode cL_law 786 = .ok (.iadd, 1) := by decide +kernel
theorem dL_law_787 : decode cL_law 787 = .ok (.iaload, 1) := by decide +kernel
theorem dL_law_788 : decode cL_law 788 = .ok (.aload_n 0, 1) := by decide +kernel
theorem dL_law_789 : decode cL_law 789 = .ok (.iload_n 3, 1) := by decide +kernel
theorem dL_law_790 : decode cL_law 790 = .ok (.iconst 2, 1) := by decide +kernel
theorem dL_law_791 : decode cL_law 791 = .ok (.iadd, 1) := by decide +kernel
theorem dL_law_792 : decode cL_law 792 = .ok (.iaload, 1) := by decide +kernel
theorem dL_law_793 : decode cL_law 793 = .ok (.aload_n 0, 1) := by decide +kernel
theorem dL_law_794 : decode cL_law 794 = .ok (.iload_n 3, 1) := by decide +kernel
theorem dL_law_795 : decode cL_law 795 = .ok (.iconst 3, 1) := by decide +kernel
theorem dL_law_796 : decode cL_law 796 = .ok (.iadd, 1) := by decide +kernel
theorem dL_law_797 : decode cL_law 797 = .ok (.iaload, 1) := by decide +kernel
theorem dL_law_798 : decode cL_law 798 = .ok (.invokevirtual 97, 3) := by decide +kernel
theorem dL_law_801 : decode cL_law 801 = .ok (.aload_n 2, 1) := by decide +kernel
theorem dL_law_802 : decode cL_law 802 = .ok (.aload_n 0, 1) := by decide +kernel
theorem dL_law_803 : decode cL_law 803 = .ok (.iload_n 3, 1) := by decide +kernel
theorem dL_law_804 : decode cL_law 804 = .ok (.iconst 1, 1) := by decide +kernel
theorem dL_law_805 : decode cL_law 805 = .ok (.iadd, 1) := by decide +kernel
theorem dL_law_806 : decode cL_law 806 = .ok (.iaload, 1) := by decide +kernel
theorem dL_law_807 : decode cL_law 807 = .ok (.aload_n 0, 1) := by decide +kernel
theorem dL_law_808 : decode cL_law 808 = .ok (.iload_n 3, 1) := by decide +kernel
theorem dL_law_809 : decode cL_law 809 = .ok (.iconst 2, 1) := by decide +kernel
theorem dL_law_810 : decode cL_law 810 = .ok (.iadd, 1) := by decide +kernel
theorem dL_law_811 : decode cL_law 811 = .ok (.iaload, 1) := by decide +kernel
theorem dL_law_812 : decode cL_law 812 = .ok (.aload_n 0, 1) := by decide +kernel
theorem dL_law_813 : decode cL_law 813 = .ok (.iload_n 3, 1) := by decide +kernel
theorem dL_law_814 : decode cL_law 814 = .ok (.iconst 3, 1) := by decide +kernel
theorem dL_law_815 : decode cL_law 815 = .ok (.iadd, 1) := by decide +kernel
theorem dL_law_816 : decode cL_law 816 = .ok (.iaload, 1) := by decide +kernel
theorem dL_law_817 : decode cL_law 817 = .ok (.invokevirtual 100, 3) := by decide +kernel
theorem dL_law_820 : decode cL_law 820 = .ok (.if_icmp .eq 306, 3) := by decide +kernel
theorem dL_law_823 : decode cL_law 823 = .ok (.iconst 0, 1) := by decide +kernel
theorem dL_law_824 : decode cL_law 824 = .ok (.ireturn, 1) := by decide +kernel
theorem dL_law_825 : decode cL_law 825 = .ok (.aload_n 1, 1) := by decide +kernel
theorem dL_law_826 : decode cL_law 826 = .ok (.aload_n 0, 1) := by decide +kernel
theorem dL_law_827 : decode cL_law 827 = .ok (.iload_n 3, 1) := by decide +kernel
theorem dL_law_828 : decode cL_law 828 = .ok (.iconst 1, 1) := by decide +kernel
theorem dL_law_829 : decode cL_law 829 = .ok (.iadd, 1) := by decide +kernel
theorem dL_law_830 : decode cL_law 830 = .ok (.iaload, 1) := by decide +kernel
theorem dL_law_831 : decode cL_law 831 = .ok (.invokevirtual 101, 3) := by decide +kernel
theorem dL_law_834 : decode cL_law 834 = .ok (.aload_n 2, 1) := by decide +kernel
theorem dL_law_835 : decode cL_law 835 = .ok (.aload_n 0, 1) := by decide +kernel
theorem dL_law_836 : decode cL_law 836 = .ok (.iload_n 3, 1) := by decide +kernel
theorem dL_law_837 : decode cL_law 837 = .ok (.iconst 1, 1) := by decide +kernel
theorem dL_law_838 : decode cL_law 838 = .ok (.iadd, 1) := by decide +kernel
theorem dL_law_839 : decode cL_law 839 = .ok (.iaload, 1) := by decide +kernel
theorem dL_law_840 : decode cL_law 840 = .ok (.invokevirtual 104, 3) := by decide +kernel
theorem dL_law_843 : decode cL_law 843 = .ok (.if_icmp .eq 283, 3) := by decide +kernel
theorem dL_law_846 : decode cL_law 846 = .ok (.iconst 0, 1) := by decide +kernel
theorem dL_law_847 : decode cL_law 847 = .ok (.ireturn, 1) := by decide +kernel
theorem dL_law_848 : decode cL_law 848 = .ok (.aload_n 1, 1) := by decide +kernel
theorem dL_law_849 : decode cL_law 849 = .ok (.aload_n 0, 1) := by decide +kernel
theorem dL_law_850 : decode cL_law 850 = .ok (.iload_n 3, 1) := by decide +kernel
theorem dL_law_851 : decode cL_law 851 = .ok (.iconst 1, 1) := by decide +kernel
theorem dL_law_852 : decode cL_law 852 = .ok (.iadd, 1) := by decide +kernel
theorem dL_law_853 : decode cL_law 853 = .ok (.iaload, 1) := by decide +kernel
theorem dL_law_854 : decode cL_law 854 = .ok (.aload_n 0, 1) := by decide +kernel
theorem dL_law_855 : decode cL_law 855 = .ok (.iload_n 3, 1) := by decide +kernel
theorem dL_law_856 : decode cL_law 856 = .ok (.iconst 2, 1) := by decide +kernel
theorem dL_law_857 : decode cL_law 857 = .ok (.iadd, 1) := by decide +kernel
theorem dL_law_858 : decode cL_law 858 = .ok (.iaload, 1) := by decide +kernel
theorem dL_law_859 : decode cL_law 859 = .ok (.aload_n 0, 1) := by decide +kernel
theorem dL_law_860 : decode cL_law 860 = .ok (.iload_n 3, 1) := by decide +kernel
theorem dL_law_861 : decode cL_law 861 = .ok (.iconst 3, 1) := by decide +kernel
theorem dL_law_862 : decode cL_law 862 = .ok (.iadd, 1) := by decide +kernel
theorem dL_law_863 : decode cL_law 863 = .ok (.iaload, 1) := by decide +kernel
theorem dL_law_864 : decode cL_law 864 = .ok (.invokevirtual 105, 3) := by decide +kernel
theorem dL_law_867 : decode cL_law 867 = .ok (.aload_n 2, 1) := by decide +kernel
theorem dL_law_868 : decode cL_law 868 = .ok (.aload_n 0, 1) := by decide +kernel
theorem dL_law_869 : decode cL_law 869 = .ok (.iload_n 3, 1) := by decide +kernel
theorem dL_law_870 : decode cL_law 870 = .ok (.iconst 1, 1) := by decide +kernel
theorem dL_law_871 : decode cL_law 871 = .ok (.iadd, 1) := by decide +kernel
theorem dL_law_872 : decode cL_law 872 = .ok (.iaload, 1) := by decide +kernel
theorem dL_law_873 : decode cL_law 873 = .ok (.aload_n 0, 1) := by decide +kernel
theorem dL_law_874 : decode cL_law 874 = .ok (.iload_n 3, 1) := by decide +kernel
theorem dL_law_875 : decode cL_law 875 = .ok (.iconst 2, 1) := by decide +kernel
theorem dL_law_876 : decode cL_law 876 = .ok (.iadd, 1) := by decide +kernel
theorem dL_law_877 : decode cL_law 877 = .ok (.iaload, 1) := by decide +kernel
theorem dL_law_878 : decode cL_law 878 = .ok (.aload_n 0, 1) := by decide +kernel
theorem dL_law_879 : decode cL_law 879 = .ok (.iload_n 3, 1) := by decide +kernel
theorem dL_law_880 : decode cL_law 880 = .ok (.iconst 3, 1) := by decide +kernel
theorem dL_law_881 : decode cL_law 881 = .ok (.iadd, 1) := by decide +kernel
theorem dL_law_882 : decode cL_law 882 = .ok (.iaload, 1) := by decide +kernel
theorem dL_law_883 : decode cL_law 883 = .ok (.invokevirtual 108, 3) := by decide +kernel
theorem dL_law_886 : decode cL_law 886 = .ok (.if_icmp .eq 240, 3) := by decide +kernel
theorem dL_law_889 : decode cL_law 889 = .ok (.iconst 0, 1) := by decide +kernel
theorem dL_law_890 : decode cL_law 890 = .ok (.ireturn, 1) := by decide +kernel
theorem dL_law_891 : decode cL_law 891 = .ok (.aload_n 1, 1) := by decide +kernel
theorem dL_law_892 : decode cL_law 892 = .ok (.aload_n 0, 1) := by decide +kernel
theorem dL_law_893 : decode cL_law 893 = .ok (.iload_n 3, 1) := by decide +kernel
theorem dL_law_894 : decode cL_law 894 = .ok (.iconst 1, 1) := by decide +kernel
theorem dL_law_895 : decode cL_law 895 = .ok (.iadd, 1) := by decide +kernel
theorem dL_law_896 : decode cL_law 896 = .ok (.iaload, 1) := by decide +kernel
theorem dL_law_897 : decode cL_law 897 = .ok (.aload_n 0, 1) := by decide +kernel
theorem dL_law_898 : decode cL_law 898 = .ok (.iload_n 3, 1) := by decide +kernel
theorem dL_law_899 : decode cL_law 899 = .ok (.iconst 2, 1) := by decide +kernel
theorem dL_law_900 : decode cL_law 900 = .ok (.iadd, 1) := by decide +kernel
theorem dL_law_901 : decode cL_law 901 = .ok (.iaload, 1) := by decide +kernel
theorem dL_law_902 : decode cL_law 902 = .ok (.aload_n 0, 1) := by decide +kernel
theorem dL_law_903 : decode cL_law 903 = .ok (.iload_n 3, 1) := by decide +kernel
theorem dL_law_904 : decode cL_law 904 = .ok (.iconst 3, 1) := by decide +kernel
theorem dL_law_905 : decode cL_law 905 = .ok (.iadd, 1) := by decide +kernel
theorem dL_law_906 : decode cL_law 906 = .ok (.iaload, 1) := by decide +kernel
theorem dL_law_907 : decode cL_law 907 = .ok (.invokevirtual 109, 3) := by decide +kernel
theorem dL_law_910 : decode cL_law 910 = .ok (.aload_n 2, 1) := by decide +kernel
theorem dL_law_911 : decode cL_law 911 = .ok (.aload_n 0, 1) := by decide +kernel
theorem dL_law_912 : decode cL_law 912 = .ok (.iload_n 3, 1) := by decide +kernel
theorem dL_law_913 : decode cL_law 913 = .ok (.iconst 1, 1) := by decide +kernel
theorem dL_law_914 : decode cL_law 914 = .ok (.iadd, 1) := by decide +kernel
theorem dL_law_915 : decode cL_law 915 = .ok (.iaload, 1) := by decide +kernel
theorem dL_law_916 : decode cL_law 916 = .ok (.aload_n 0, 1) := by decide +kernel
theorem dL_law_917 : decode cL_law 917 = .ok (.iload_n 3, 1) := by decide +kernel
theorem dL_law_918 : decode cL_law 918 = .ok (.iconst 2, 1) := by decide +kernel
theorem dL_law_919 : decode cL_law 919 = .ok (.iadd, 1) := by decide +kernel
theorem dL_law_920 : decode cL_law 920 = .ok (.iaload, 1) := by decide +kernel
theorem dL_law_921 : decode cL_law 921 = .ok (.aload_n 0, 1) := by decide +kernel
theorem dL_law_922 : decode cL_law 922 = .ok (.iload_n 3, 1) := by decide +kernel
theorem dL_law_923 : decode cL_law 923 = .ok (.iconst 3, 1) := by decide +kernel
theorem dL_law_924 : decode cL_law 924 = .ok (.iadd, 1) := by decide +kernel
theorem dL_law_925 : decode cL_law 925 = .ok (.iaload, 1) := by decide +kernel
theorem dL_law_926 : decode cL_law 926 = .ok (.invokevirtual 112, 3) := by decide +kernel
theorem dL_law_929 : decode cL_law 929 = .ok (.lcmp, 1) := by decide +kernel
theorem dL_law_930 : decode cL_law 930 = .ok (.ifCond .eq 196, 3) := by decide +kernel
theorem dL_law_933 : decode cL_law 933 = .ok (.iconst 0, 1) := by decide +kernel
theorem dL_law_934 : decode cL_law 934 = .ok (.ireturn, 1) := by decide +kernel
theorem dL_law_935 : decode cL_law 935 = .ok (.aload_n 1, 1) := by decide +kernel
theorem dL_law_936 : decode cL_law 936 = .ok (.aload_n 0, 1) := by decide +kernel
theorem dL_law_937 : decode cL_law 937 = .ok (.iload_n 3, 1) := by decide +kernel
theorem dL_law_938 : decode cL_law 938 = .ok (.iconst 1, 1) := by decide +kernel
theorem dL_law_939 : decode cL_law 939 = .ok (.iadd, 1) := by decide +kernel
theorem dL_law_940 : decode cL_law 940 = .ok (.iaload, 1) := by decide +kernel
theorem dL_law_941 : decode cL_law 941 = .ok (.aload_n 0, 1) := by decide +kernel
theorem dL_law_942 : decode cL_law 942 = .ok (.iload_n 3, 1) := by decide +kernel
theorem dL_law_943 : decode cL_law 943 = .ok (.iconst 2, 1) := by decide +kernel
theorem dL_law_944 : decode cL_law 944 = .ok (.iadd, 1) := by decide +kernel
theorem dL_law_945 : decode cL_law 945 = .ok (.iaload, 1) := by decide +kernel
theorem dL_law_946 : decode cL_law 946 = .ok (.aload_n 0, 1) := by decide +kernel
theorem dL_law_947 : decode cL_law 947 = .ok (.iload_n 3, 1) := by decide +kernel
theorem dL_law_948 : decode cL_law 948 = .ok (.iconst 3, 1) := by decide +kernel
theorem dL_law_949 : decode cL_law 949 = .ok (.iadd, 1) := by decide +kernel
theorem dL_law_950 : decode cL_law 950 = .ok (.iaload, 1) := by decide +kernel
theorem dL_law_951 : decode cL_law 951 = .ok (.aload_n 0, 1) := by decide +kernel
theorem dL_law_952 : decode cL_law 952 = .ok (.iload_n 3, 1) := by decide +kernel
theorem dL_law_953 : decode cL_law 953 = .ok (.iconst 4, 1) := by decide +kernel
theorem dL_law_954 : decode cL_law 954 = .ok (.iadd, 1) := by decide +kernel
theorem dL_law_955 : decode cL_law 955 = .ok (.iaload, 1) := by decide +kernel
theorem dL_law_956 : decode cL_law 956 = .ok (.aload_n 0, 1) := by decide +kernel
theorem dL_law_957 : decode cL_law 957 = .ok (.iload_n 3, 1) := by decide +kernel
theorem dL_law_958 : decode cL_law 958 = .ok (.iconst 5, 1) := by decide +kernel
theorem dL_law_959 : decode cL_law 959 = .ok (.iadd, 1) := by decide +kernel
theorem dL_law_960 : decode cL_law 960 = .ok (.iaload, 1) := by decide +kernel
theorem dL_law_961 : decode cL_law 961 = .ok (.invokevirtual 113, 3) := by decide +kernel
theorem dL_law_964 : decode cL_law 964 = .ok (.aload_n 2, 1) := by decide +kernel
theorem dL_law_965 : decode cL_law 965 = .ok (.aload_n 0, 1) := by decide +kernel
theorem dL_law_966 : decode cL_law 966 = .ok (.iload_n 3, 1) := by decide +kernel
theorem dL_law_967 : decode cL_law 967 = .ok (.iconst 1, 1) := by decide +kernel
theorem dL_law_968 : decode cL_law 968 = .ok (.iadd, 1) := by decide +kernel
theorem dL_law_969 : decode cL_law 969 = .ok (.iaload, 1) := by decide +kernel
theorem dL_law_970 : decode cL_law 970 = .ok (.aload_n 0, 1) := by decide +kernel
theorem dL_law_971 : decode cL_law 971 = .ok (.iload_n 3, 1) := by decide +kernel
theorem dL_law_972 : decode cL_law 972 = .ok (.iconst 2, 1) := by decide +kernel
theorem dL_law_973 : decode cL_law 973 = .ok (.iadd, 1) := by decide +kernel
theorem dL_law_974 : decode cL_law 974 = .ok (.iaload, 1) := by decide +kernel
theorem dL_law_975 : decode cL_law 975 = .ok (.aload_n 0, 1) := by decide +kernel
theorem dL_law_976 : decode cL_law 976 = .ok (.iload_n 3, 1) := by decide +kernel
theorem dL_law_977 : decode cL_law 977 = .ok (.iconst 3, 1) := by decide +kernel
theorem dL_law_978 : decode cL_law 978 = .ok (.iadd, 1) := by decide +kernel
theorem dL_law_979 : decode cL_law 979 = .ok (.iaload, 1) := by decide +kernel
theorem dL_law_980 : decode cL_law 980 = .ok (.aload_n 0, 1) := by decide +kernel
theorem dL_law_981 : decode cL_law 981 = .ok (.iload_n 3, 1) := by decide +kernel
theorem dL_law_982 : decode cL_law 982 = .ok (.iconst 4, 1) := by decide +kernel
theorem dL_law_983 : decode cL_law 983 = .ok (.iadd, 1) := by decide +kernel
theorem dL_law_984 : decode cL_law 984 = .ok (.iaload, 1) := by decide +kernel
theorem dL_law_985 : decode cL_law 985 = .ok (.aload_n 0, 1) := by decide +kernel
theorem dL_law_986 : decode cL_law 986 = .ok (.iload_n 3, 1) := by decide +kernel
theorem dL_law_987 : decode cL_law 987 = .ok (.iconst 5, 1) := by decide +kernel
theorem dL_law_988 : decode cL_law 988 = .ok (.iadd, 1) := by decide +kernel
theorem dL_law_989 : decode cL_law 989 = .ok (.iaload, 1) := by decide +kernel
theorem dL_law_990 : decode cL_law 990 = .ok (.invokevirtual 116, 3) := by decide +kernel
theorem dL_law_993 : decode cL_law 993 = .ok (.if_icmp .eq 133, 3) := by decide +kernel
theorem dL_law_996 : decode cL_law 996 = .ok (.iconst 0, 1) := by decide +kernel
theorem dL_law_997 : decode cL_law 997 = .ok (.ireturn, 1) := by decide +kernel
theorem dL_law_998 : decode cL_law 998 = .ok (.aload_n 1, 1) := by decide +kernel
theorem dL_law_999 : decode cL_law 999 = .ok (.aload_n 0, 1) := by decide +kernel
theorem dL_law_1000 : decode cL_law 1000 = .ok (.iload_n 3, 1) := by decide +kernel
theorem dL_law_1001 : decode cL_law 1001 = .ok (.iconst 1, 1) := by decide +kernel
theorem dL_law_1002 : decode cL_law 1002 = .ok (.iadd, 1) := by decide +kernel
theorem dL_law_1003 : decode cL_law 1003 = .ok (.iaload, 1) := by decide +kernel
theorem dL_law_1004 : decode cL_law 1004 = .ok (.invokevirtual 117, 3) := by decide +kernel
theorem dL_law_1007 : decode cL_law 1007 = .ok (.aload_n 2, 1) := by decide +kernel
theorem dL_law_1008 : decode cL_law 1008 = .ok (.aload_n 0, 1) := by decide +kernel
theorem dL_law_1009 : decode cL_law 1009 = .ok (.iload_n 3, 1) := by decide +kernel
theorem dL_law_1010 : decode cL_law 1010 = .ok (.iconst 1, 1) := by decide +kernel
theorem dL_law_1011 : decode cL_law 1011 = .ok (.iadd, 1) := by decide +kernel
theorem dL_law_1012 : decode cL_law 1012 = .ok (.iaload, 1) := by decide +kernel
theorem dL_law_1013 : decode cL_law 1013 = .ok (.invokevirtual 120, 3) := by decide +kernel
theorem dL_law_1016 : decode cL_law 1016 = .ok (.if_icmp .eq 110, 3) := by decide +kernel
theorem dL_law_1019 : decode cL_law 1019 = .ok (.iconst 0, 1) := by decide +kernel
theorem dL_law_1020 : decode cL_law 1020 = .ok (.ireturn, 1) := by decide +kernel
theorem dL_law_1021 : decode cL_law 1021 = .ok (.aload_n 1, 1) := by decide +kernel
theorem dL_law_1022 : decode cL_law 1022 = .ok (.aload_n 0, 1) := by decide +kernel
theorem dL_law_1023 : decode cL_law 1023 = .ok (.iload_n 3, 1) := by decide +kernel
theorem dL_law_1024 : decode cL_law 1024 = .ok (.iconst 1, 1) := by decide +kernel
theorem dL_law_1025 : decode cL_law 1025 = .ok (.iadd, 1) := by decide +kernel
theorem dL_law_1026 : decode cL_law 1026 = .ok (.iaload, 1) := by decide +kernel
theorem dL_law_1027 : decode cL_law 1027 = .ok (.invokevirtual 121, 3) := by decide +kernel
theorem dL_law_1030 : decode cL_law 1030 = .ok (.aload_n 2, 1) := by decide +kernel
theorem dL_law_1031 : decode cL_law 1031 = .ok (.aload_n 0, 1) := by decide +kernel
theorem dL_law_1032 : decode cL_law 1032 = .ok (.iload_n 3, 1) := by decide +kernel
theorem dL_law_1033 : decode cL_law 1033 = .ok (.iconst 1, 1) := by decide +kernel
theorem dL_law_1034 : decode cL_law 1034 = .ok (.iadd, 1) := by decide +kernel
theorem dL_law_1035 : decode cL_law 1035 = .ok (.iaload, 1) := by decide +kernel
theorem dL_law_1036 : decode cL_law 1036 = .ok (.invokevirtual 124, 3) := by decide +kernel
theorem dL_law_1039 : decode cL_law 1039 = .ok (.if_icmp .eq 87, 3) := by decide +kernel
theorem dL_law_1042 : decode cL_law 1042 = .ok (.iconst 0, 1) := by decide +kernel
theorem dL_law_1043 : decode cL_law 1043 = .ok (.ireturn, 1) := by decide +kernel
theorem dL_law_1044 : decode cL_law 1044 = .ok (.aload_n 1, 1) := by decide +kernel
theorem dL_law_1045 : decode cL_law 1045 = .ok (.aload_n 0, 1) := by decide +kernel
theorem dL_law_1046 : decode cL_law 1046 = .ok (.iload_n 3, 1) := by decide +kernel
theorem dL_law_1047 : decode cL_law 1047 = .ok (.iconst 1, 1) := by decide +kernel
theorem dL_law_1048 : decode cL_law 1048 = .ok (.iadd, 1) := by decide +kernel
theorem dL_law_1049 : decode cL_law 1049 = .ok (.iaload, 1) := by decide +kernel
theorem dL_law_1050 : decode cL_law 1050 = .ok (.aload_n 0, 1) := by decide +kernel
theorem dL_law_1051 : decode cL_law 1051 = .ok (.iload_n 3, 1) := by decide +kernel
theorem dL_law_1052 : decode cL_law 1052 = .ok (.iconst 2, 1) := by decide +kernel
theorem dL_law_1053 : decode cL_law 1053 = .ok (.iadd, 1) := by decide +kernel
theorem dL_law_1054 : decode cL_law 1054 = .ok (.iaload, 1) := by decide +kernel
theorem dL_law_1055 : decode cL_law 1055 = .ok (.invokevirtual 125, 3) := by decide +kernel
theorem dL_law_1058 : decode cL_law 1058 = .ok (.aload_n 2, 1) := by decide +kernel
theorem dL_law_1059 : decode cL_law 1059 = .ok (.aload_n 0, 1) := by decide +kernel
theorem dL_law_1060 : decode cL_law 1060 = .ok (.iload_n 3, 1) := by decide +kernel
theorem dL_law_1061 : decode cL_law 1061 = .ok (.iconst 1, 1) := by decide +kernel
theorem dL_law_1062 : decode cL_law 1062 = .ok (.iadd, 1) := by decide +kernel
theorem dL_law_1063 : decode cL_law 1063 = .ok (.iaload, 1) := by decide +kernel
theorem dL_law_1064 : decode cL_law 1064 = .ok (.aload_n 0, 1) := by decide +kernel
theorem dL_law_1065 : decode cL_law 1065 = .ok (.iload_n 3, 1) := by decide +kernel
theorem dL_law_1066 : decode cL_law 1066 = .ok (.iconst 2, 1) := by decide +kernel
theorem dL_law_1067 : decode cL_law 1067 = .ok (.iadd, 1) := by decide +kernel
theorem dL_law_1068 : decode cL_law 1068 = .ok (.iaload, 1) := by decide +kernel
theorem dL_law_1069 : decode cL_law 1069 = .ok (.invokevirtual 128, 3) := by decide +kernel
theorem dL_law_1072 : decode cL_law 1072 = .ok (.if_icmp .eq 54, 3) := by decide +kernel
theorem dL_law_1075 : decode cL_law 1075 = .ok (.iconst 0, 1) := by decide +kernel
theorem dL_law_1076 : decode cL_law 1076 = .ok (.ireturn, 1) := by decide +kernel
theorem dL_law_1077 : decode cL_law 1077 = .ok (.aload_n 1, 1) := by decide +kernel
theorem dL_law_1078 : decode cL_law 1078 = .ok (.invokevirtual 129, 3) := by decide +kernel
theorem dL_law_1081 : decode cL_law 1081 = .ok (.aload_n 2, 1) := by decide +kernel
theorem dL_law_1082 : decode cL_law 1082 = .ok (.invokevirtual 132, 3) := by decide +kernel
theorem dL_law_1085 : decode cL_law 1085 = .ok (.if_icmp .eq 41, 3) := by decide +kernel
theorem dL_law_1088 : decode cL_law 1088 = .ok (.iconst 0, 1) := by decide +kernel
theorem dL_law_1089 : decode cL_law 1089 = .ok (.ireturn, 1) := by decide +kernel
theorem dL_law_1090 : decode cL_law 1090 = .ok (.aload_n 1, 1) := by decide +kernel
theorem dL_law_1091 : decode cL_law 1091 = .ok (.invokevirtual 133, 3) := by decide +kernel
theorem dL_law_1094 : decode cL_law 1094 = .ok (.aload_n 2, 1) := by decide +kernel
theorem dL_law_1095 : decode cL_law 1095 = .ok (.invokevirtual 136, 3) := by decide +kernel
theorem dL_law_1098 : decode cL_law 1098 = .ok (.if_icmp .eq 28, 3) := by decide +kernel
theorem dL_law_1101 : decode cL_law 1101 = .ok (.iconst 0, 1) := by decide +kernel
theorem dL_law_1102 : decode cL_law 1102 = .ok (.ireturn, 1) := by decide +kernel
theorem dL_law_1103 : decode cL_law 1103 = .ok (.aload_n 1, 1) := by decide +kernel
theorem dL_law_1104 : decode cL_law 1104 = .ok (.aload_n 0, 1) := by decide +kernel
theorem dL_law_1105 : decode cL_law 1105 = .ok (.iload_n 3, 1) := by decide +kernel
theorem dL_law_1106 : decode cL_law 1106 = .ok (.iconst 1, 1) := by decide +kernel
theorem dL_law_1107 : decode cL_law 1107 = .ok (.iadd, 1) := by decide +kernel
theorem dL_law_1108 : decode cL_law 1108 = .ok (.iaload, 1) := by decide +kernel
theorem dL_law_1109 : decode cL_law 1109 = .ok (.invokevirtual 137, 3) := by decide +kernel
theorem dL_law_1112 : decode cL_law 1112 = .ok (.aload_n 2, 1) := by decide +kernel
theorem dL_law_1113 : decode cL_law 1113 = .ok (.aload_n 0, 1) := by decide +kernel
theorem dL_law_1114 : decode cL_law 1114 = .ok (.iload_n 3, 1) := by decide +kernel
theorem dL_law_1115 : decode cL_law 1115 = .ok (.iconst 1, 1) := by decide +kernel
theorem dL_law_1116 : decode cL_law 1116 = .ok (.iadd, 1) := by decide +kernel
theorem dL_law_1117 : decode cL_law 1117 = .ok (.iaload, 1) := by decide +kernel
theorem dL_law_1118 : decode cL_law 1118 = .ok (.invokevirtual 140, 3) := by decide +kernel
theorem dL_law_1121 : decode cL_law 1121 = .ok (.if_icmp .eq 5, 3) := by decide +kernel
theorem dL_law_1124 : decode cL_law 1124 = .ok (.iconst 0, 1) := by decide +kernel
theorem dL_law_1125 : decode cL_law 1125 = .ok (.ireturn, 1) := by decide +kernel
theorem dL_law_1126 : decode cL_law 1126 = .ok (.iinc 3 6, 3) := by decide +kernel
theorem dL_law_1129 : decode cL_law 1129 = .ok (.goto (-1111), 3) := by decide +kernel
theorem dL_law_1132 : decode cL_law 1132 = .ok (.iconst 1, 1) := by decide +kernel
theorem dL_law_1133 : decode cL_law 1133 = .ok (.ireturn, 1) := by decide +kernel
abbrev vwCl : List vw_C := [(RX0, TX0, 8), (RX1, TX1, 5), (RX2, TX2, 3), (RX4, TX4, 5), (RX5, TX5, 29)]
