section
-- ===== PART A: goes FIRST, ahead of the names: the tables' words, and 'selects' of the private methods out of them =====
/-- a private method of a class that the tables say can be made, by its rows of tables_1 -/
def lw_okq (q : MethodName × Nat) : Prop := (q.1.cls ≠ "java/lang/invoke/MethodHandle" ∧ q.1.cls ≠ "java/lang/invoke/VarHandle") ∧ Cond.instantiable q.1.cls q.2 ∈ tables_1 ∧ Cond.privateMethod q.1 ∈ tables_1 ∧ Cond.instanceMethod q.1 ∈ tables_1
theorem lw_p0 : lw_okq (⟨"SegmentedCache", "mostOf", "(I)I"⟩, 7) := ⟨⟨by decide +kernel, by decide +kernel⟩, List.mem_of_getElem? (i := 13) (by decide +kernel), List.mem_of_getElem? (i := 207) (by decide +kernel), List.mem_of_getElem? (i := 208) (by decide +kernel)⟩
theorem lw_p1 : lw_okq (⟨"SegmentedCache", "rehearse", "(II)V"⟩, 7) := ⟨⟨by decide +kernel, by decide +kernel⟩, List.mem_of_getElem? (i := 13) (by decide +kernel), List.mem_of_getElem? (i := 350) (by decide +kernel), List.mem_of_getElem? (i := 351) (by decide +kernel)⟩
theorem lw_p2 : lw_okq (⟨"SegmentedCache$Text", "readClause", "(LSegmentedCache$Trace;I)Z"⟩, 3) := ⟨⟨by decide +kernel, by decide +kernel⟩, List.mem_of_getElem? (i := 112) (by decide +kernel), List.mem_of_getElem? (i := 388) (by decide +kernel), List.mem_of_getElem? (i := 389) (by decide +kernel)⟩
theorem lw_p3 : lw_okq (⟨"SegmentedCache$Text", "next", "()I"⟩, 3) := ⟨⟨by decide +kernel, by decide +kernel⟩, List.mem_of_getElem? (i := 112) (by decide +kernel), List.mem_of_getElem? (i := 392) (by decide +kernel), List.mem_of_getElem? (i := 393) (by decide +kernel)⟩
theorem lw_p4 : lw_okq (⟨"SegmentedCache$Text", "skip", "(II)Z"⟩, 3) := ⟨⟨by decide +kernel, by decide +kernel⟩, List.mem_of_getElem? (i := 112) (by decide +kernel), List.mem_of_getElem? (i := 396) (by decide +kernel), List.mem_of_getElem? (i := 397) (by decide +kernel)⟩
theorem lw_p5 : lw_okq (⟨"SegmentedCache$Text", "readWeight", "(LSegmentedCache$Trace;I)Z"⟩, 3) := ⟨⟨by decide +kernel, by decide +kernel⟩, List.mem_of_getElem? (i := 112) (by decide +kernel), List.mem_of_getElem? (i := 400) (by decide +kernel), List.mem_of_getElem? (i := 401) (by decide +kernel)⟩
theorem lw_p6 : lw_okq (⟨"SegmentedCache", "isTrace", "(I)Z"⟩, 7) := ⟨⟨by decide +kernel, by decide +kernel⟩, List.mem_of_getElem? (i := 13) (by decide +kernel), List.mem_of_getElem? (i := 408) (by decide +kernel), List.mem_of_getElem? (i := 409) (by decide +kernel)⟩
theorem lw_p7 : lw_okq (⟨"SegmentedCacheModel", "capacity", "(I)V"⟩, 19) := ⟨⟨by decide +kernel, by decide +kernel⟩, List.mem_of_getElem? (i := 506) (by decide +kernel), List.mem_of_getElem? (i := 579) (by decide +kernel), List.mem_of_getElem? (i := 580) (by decide +kernel)⟩
theorem lw_p8 : lw_okq (⟨"SegmentedCacheModel", "trim", "()V"⟩, 19) := ⟨⟨by decide +kernel, by decide +kernel⟩, List.mem_of_getElem? (i := 506) (by decide +kernel), List.mem_of_getElem? (i := 583) (by decide +kernel), List.mem_of_getElem? (i := 584) (by decide +kernel)⟩
theorem lw_p9 : lw_okq (⟨"SegmentedCacheModel", "sinks", "()V"⟩, 19) := ⟨⟨by decide +kernel, by decide +kernel⟩, List.mem_of_getElem? (i := 506) (by decide +kernel), List.mem_of_getElem? (i := 587) (by decide +kernel), List.mem_of_getElem? (i := 588) (by decide +kernel)⟩
theorem lw_p10 : lw_okq (⟨"SegmentedCacheModel", "oldest", "(IZ)I"⟩, 19) := ⟨⟨by decide +kernel, by decide +kernel⟩, List.mem_of_getElem? (i := 506) (by decide +kernel), List.mem_of_getElem? (i := 591) (by decide +kernel), List.mem_of_getElem? (i := 592) (by decide +kernel)⟩
theorem lw_p11 : lw_okq (⟨"SegmentedCacheModel", "goes", "(II)V"⟩, 19) := ⟨⟨by decide +kernel, by decide +kernel⟩, List.mem_of_getElem? (i := 506) (by decide +kernel), List.mem_of_getElem? (i := 595) (by decide +kernel), List.mem_of_getElem? (i := 596) (by decide +kernel)⟩
theorem lw_p12 : lw_okq (⟨"SegmentedCacheModel", "lets", "()V"⟩, 19) := ⟨⟨by decide +kernel, by decide +kernel⟩, List.mem_of_getElem? (i := 506) (by decide +kernel), List.mem_of_getElem? (i := 599) (by decide +kernel), List.mem_of_getElem? (i := 600) (by decide +kernel)⟩
theorem lw_p13 : lw_okq (⟨"SegmentedCacheModel", "went", "(II)V"⟩, 19) := ⟨⟨by decide +kernel, by decide +kernel⟩, List.mem_of_getElem? (i := 506) (by decide +kernel), List.mem_of_getElem? (i := 603) (by decide +kernel), List.mem_of_getElem? (i := 604) (by decide +kernel)⟩
theorem lw_p14 : lw_okq (⟨"SegmentedCacheModel", "putIn", "(IIII)I"⟩, 19) := ⟨⟨by decide +kernel, by decide +kernel⟩, List.mem_of_getElem? (i := 506) (by decide +kernel), List.mem_of_getElem? (i := 618) (by decide +kernel), List.mem_of_getElem? (i := 619) (by decide +kernel)⟩
theorem lw_p15 : lw_okq (⟨"SegmentedCacheModel", "weighs", "(II)V"⟩, 19) := ⟨⟨by decide +kernel, by decide +kernel⟩, List.mem_of_getElem? (i := 506) (by decide +kernel), List.mem_of_getElem? (i := 622) (by decide +kernel), List.mem_of_getElem? (i := 623) (by decide +kernel)⟩
def lw_privs_1 : List (MethodName × Nat) := [(⟨"SegmentedCache", "mostOf", "(I)I"⟩, 7), (⟨"SegmentedCache", "rehearse", "(II)V"⟩, 7), (⟨"SegmentedCache$Text", "readClause", "(LSegmentedCache$Trace;I)Z"⟩, 3), (⟨"SegmentedCache$Text", "next", "()I"⟩, 3), (⟨"SegmentedCache$Text", "skip", "(II)Z"⟩, 3), (⟨"SegmentedCache$Text", "readWeight", "(LSegmentedCache$Trace;I)Z"⟩, 3), (⟨"SegmentedCache", "isTrace", "(I)Z"⟩, 7), (⟨"SegmentedCacheModel", "capacity", "(I)V"⟩, 19), (⟨"SegmentedCacheModel", "trim", "()V"⟩, 19), (⟨"SegmentedCacheModel", "sinks", "()V"⟩, 19), (⟨"SegmentedCacheModel", "oldest", "(IZ)I"⟩, 19), (⟨"SegmentedCacheModel", "goes", "(II)V"⟩, 19), (⟨"SegmentedCacheModel", "lets", "()V"⟩, 19), (⟨"SegmentedCacheModel", "went", "(II)V"⟩, 19), (⟨"SegmentedCacheModel", "putIn", "(IIII)I"⟩, 19), (⟨"SegmentedCacheModel", "weighs", "(II)V"⟩, 19)]
theorem lw_r1 : ∀ q ∈ lw_privs_1, lw_okq q := List.forall_mem_cons.mpr ⟨lw_p0, List.forall_mem_cons.mpr ⟨lw_p1, List.forall_mem_cons.mpr ⟨lw_p2, List.forall_mem_cons.mpr ⟨lw_p3, List.forall_mem_cons.mpr ⟨lw_p4, List.forall_mem_cons.mpr ⟨lw_p5, List.forall_mem_cons.mpr ⟨lw_p6, List.forall_mem_cons.mpr ⟨lw_p7, List.forall_mem_cons.mpr ⟨lw_p8, List.forall_mem_cons.mpr ⟨lw_p9, List.forall_mem_cons.mpr ⟨lw_p10, List.forall_mem_cons.mpr ⟨lw_p11, List.forall_mem_cons.mpr ⟨lw_p12, List.forall_mem_cons.mpr ⟨lw_p13, List.forall_mem_cons.mpr ⟨lw_p14, List.forall_mem_cons.mpr ⟨lw_p15, fun _ h => absurd h List.not_mem_nil⟩⟩⟩⟩⟩⟩⟩⟩⟩⟩⟩⟩⟩⟩⟩⟩
theorem lw_p16 : lw_okq (⟨"SegmentedCacheModel", "hit", "(I)V"⟩, 19) := ⟨⟨by decide +kernel, by decide +kernel⟩, List.mem_of_getElem? (i := 506) (by decide +kernel), List.mem_of_getElem? (i := 626) (by decide +kernel), List.mem_of_getElem? (i := 627) (by decide +kernel)⟩
theorem lw_p17 : lw_okq (⟨"SegmentedCacheModel", "gets", "(I)Z"⟩, 19) := ⟨⟨by decide +kernel, by decide +kernel⟩, List.mem_of_getElem? (i := 506) (by decide +kernel), List.mem_of_getElem? (i := 635) (by decide +kernel), List.mem_of_getElem? (i := 636) (by decide +kernel)⟩
theorem lw_p18 : lw_okq (⟨"SegmentedCacheModel", "isThing", "(I)Z"⟩, 19) := ⟨⟨by decide +kernel, by decide +kernel⟩, List.mem_of_getElem? (i := 506) (by decide +kernel), List.mem_of_getElem? (i := 639) (by decide +kernel), List.mem_of_getElem? (i := 640) (by decide +kernel)⟩
theorem lw_p19 : lw_okq (⟨"SegmentedCacheModel", "drops", "(I)I"⟩, 19) := ⟨⟨by decide +kernel, by decide +kernel⟩, List.mem_of_getElem? (i := 506) (by decide +kernel), List.mem_of_getElem? (i := 647) (by decide +kernel), List.mem_of_getElem? (i := 648) (by decide +kernel)⟩
theorem lw_p20 : lw_okq (⟨"SegmentedCacheModel", "placeOf", "(I)I"⟩, 19) := ⟨⟨by decide +kernel, by decide +kernel⟩, List.mem_of_getElem? (i := 506) (by decide +kernel), List.mem_of_getElem? (i := 659) (by decide +kernel), List.mem_of_getElem? (i := 660) (by decide +kernel)⟩
theorem lw_p21 : lw_okq (⟨"SegmentedCacheModel", "keyAt", "(II)I"⟩, 19) := ⟨⟨by decide +kernel, by decide +kernel⟩, List.mem_of_getElem? (i := 506) (by decide +kernel), List.mem_of_getElem? (i := 667) (by decide +kernel), List.mem_of_getElem? (i := 668) (by decide +kernel)⟩
theorem lw_p22 : lw_okq (⟨"SegmentedCacheModel", "clause", "(I)V"⟩, 19) := ⟨⟨by decide +kernel, by decide +kernel⟩, List.mem_of_getElem? (i := 506) (by decide +kernel), List.mem_of_getElem? (i := 690) (by decide +kernel), List.mem_of_getElem? (i := 691) (by decide +kernel)⟩
theorem lw_p23 : lw_okq (⟨"SegmentedCacheModel", "sees", "(II)Z"⟩, 19) := ⟨⟨by decide +kernel, by decide +kernel⟩, List.mem_of_getElem? (i := 506) (by decide +kernel), List.mem_of_getElem? (i := 694) (by decide +kernel), List.mem_of_getElem? (i := 695) (by decide +kernel)⟩
theorem lw_p24 : lw_okq (⟨"SegmentedCacheModel", "must", "(II)I"⟩, 19) := ⟨⟨by decide +kernel, by decide +kernel⟩, List.mem_of_getElem? (i := 506) (by decide +kernel), List.mem_of_getElem? (i := 698) (by decide +kernel), List.mem_of_getElem? (i := 699) (by decide +kernel)⟩
theorem lw_p25 : lw_okq (⟨"SegmentedCacheModel", "isTrace", "(I)Z"⟩, 19) := ⟨⟨by decide +kernel, by decide +kernel⟩, List.mem_of_getElem? (i := 506) (by decide +kernel), List.mem_of_getElem? (i := 706) (by decide +kernel), List.mem_of_getElem? (i := 707) (by decide +kernel)⟩
theorem lw_p26 : lw_okq (⟨"SegmentedCacheModel", "runs", "(I)I"⟩, 19) := ⟨⟨by decide +kernel, by decide +kernel⟩, List.mem_of_getElem? (i := 506) (by decide +kernel), List.mem_of_getElem? (i := 710) (by decide +kernel), List.mem_of_getElem? (i := 711) (by decide +kernel)⟩
theorem lw_p27 : lw_okq (⟨"SegmentedCacheModel", "manyAt", "(I)I"⟩, 19) := ⟨⟨by decide +kernel, by decide +kernel⟩, List.mem_of_getElem? (i := 506) (by decide +kernel), List.mem_of_getElem? (i := 736) (by decide +kernel), List.mem_of_getElem? (i := 737) (by decide +kernel)⟩
def lw_privs_2 : List (MethodName × Nat) := [(⟨"SegmentedCacheModel", "hit", "(I)V"⟩, 19), (⟨"SegmentedCacheModel", "gets", "(I)Z"⟩, 19), (⟨"SegmentedCacheModel", "isThing", "(I)Z"⟩, 19), (⟨"SegmentedCacheModel", "drops", "(I)I"⟩, 19), (⟨"SegmentedCacheModel", "placeOf", "(I)I"⟩, 19), (⟨"SegmentedCacheModel", "keyAt", "(II)I"⟩, 19), (⟨"SegmentedCacheModel", "clause", "(I)V"⟩, 19), (⟨"SegmentedCacheModel", "sees", "(II)Z"⟩, 19), (⟨"SegmentedCacheModel", "must", "(II)I"⟩, 19), (⟨"SegmentedCacheModel", "isTrace", "(I)Z"⟩, 19), (⟨"SegmentedCacheModel", "runs", "(I)I"⟩, 19), (⟨"SegmentedCacheModel", "manyAt", "(I)I"⟩, 19)]
theorem lw_r2 : ∀ q ∈ lw_privs_2, lw_okq q := List.forall_mem_cons.mpr ⟨lw_p16, List.forall_mem_cons.mpr ⟨lw_p17, List.forall_mem_cons.mpr ⟨lw_p18, List.forall_mem_cons.mpr ⟨lw_p19, List.forall_mem_cons.mpr ⟨lw_p20, List.forall_mem_cons.mpr ⟨lw_p21, List.forall_mem_cons.mpr ⟨lw_p22, List.forall_mem_cons.mpr ⟨lw_p23, List.forall_mem_cons.mpr ⟨lw_p24, List.forall_mem_cons.mpr ⟨lw_p25, List.forall_mem_cons.mpr ⟨lw_p26, List.forall_mem_cons.mpr ⟨lw_p27, fun _ h => absurd h List.not_mem_nil⟩⟩⟩⟩⟩⟩⟩⟩⟩⟩⟩⟩
def lw_privs : List (MethodName × Nat) := lw_privs_1 ++ (lw_privs_2)
def lw_tbl : List Cond := k2_sels lw_privs ++ tables_1
theorem lw_privs_ok : ∀ q ∈ lw_privs, lw_okq q := by
  show ∀ q ∈ lw_privs_1 ++ (lw_privs_2), lw_okq q
  exact List.forall_mem_append.mpr ⟨lw_r1, lw_r2⟩

/-! ===== BEGIN words of one list among another's, by their places ===== -/
theorem goodIn_r {big : List Cond} (ws : List Cond) (ps : List Nat) (hp : ws = ps.filterMap (fun i => big[i]?)) (h : ws.all goodWord = true) : GoodIn big ws := by
  intro w hw
  have h1 := List.all_eq_true.mp h w hw
  rw [hp] at hw
  obtain ⟨i, -, hi⟩ := List.mem_filterMap.mp hw
  have hm : w ∈ big := by first | exact List.mem_of_getElem? hi | exact List.getElem?_mem hi
  exact ⟨hm, good_of_word h1⟩
theorem goodIn_app {big a b : List Cond} (ha : GoodIn big a) (hb : GoodIn big b) : GoodIn big (a ++ b) := fun w h => (List.mem_append.mp h).elim (ha w) (hb w)
theorem goodIn_ca {big a b : List Cond} {c : Cond} (ha : GoodIn big (c :: a)) (hb : GoodIn big b) : GoodIn big (c :: (a ++ b)) := fun w h => (List.mem_cons.mp h).elim (fun e => ha w (List.mem_cons.mpr (Or.inl e))) (fun h => (List.mem_append.mp h).elim (fun h => ha w (List.mem_cons.mpr (Or.inr h))) (hb w))
theorem goodIn_sub {big ws : List Cond} (hm : ∀ w ∈ ws, w ∈ big) (h : ws.all goodWord = true) : GoodIn big ws := fun w hw => ⟨hm w hw, good_of_word (List.all_eq_true.mp h w hw)⟩
/-! ===== END ===== -/

/-! ===== BEGIN printed: names, fields, word lists, decode rows ===== -/
def RX0 : String := "SegmentedCache$Book"
def TX0 : u_T := fun k => match k with
  | 0 => ("SegmentedCache$Book", "keys", "[I", true)
  | 1 => ("SegmentedCache$Book", "wheres", "[I", true)
  | _ => ("SegmentedCache$Book", "size", "I", false)
def tyX0 : Nat → FieldType := fun k => match k with
  | 0 => .array .int
  | 1 => .array .int
  | _ => .int
abbrev wsX00 : List Cond := u_ws RX0 TX0 3
theorem nmX0 : ∀ a, a < 3 → ∀ b, b < 3 → a ≠ b → (TX0 a).2.1 ≠ (TX0 b).2.1 := by decide +kernel
theorem tyX0_ok : ∀ k, k < 3 → parseFieldDescriptor (TX0 k).2.2.1 = some (tyX0 k) := by decide +kernel
abbrev cX0_init : ByteArray := prog_2_method_1_code
def yX0_init : MethodName := ⟨RX0, "<init>", "()V"⟩
abbrev cX0_copyFrom : ByteArray := prog_2_method_2_code
def yX0_copyFrom : MethodName := ⟨RX0, "copyFrom", "(LSegmentedCache$Book;)V"⟩
def RX1 : String := "SegmentedCache$Leavers"
def TX1 : u_T := fun k => match k with
  | 0 => ("SegmentedCache$Leavers", "ring", "[I", true)
  | _ => ("SegmentedCache$Leavers", "total", "I", false)
def tyX1 : Nat → FieldType := fun k => match k with
  | 0 => .array .int
  | _ => .int
abbrev wsX10 : List Cond := u_ws RX1 TX1 2
theorem nmX1 : ∀ a, a < 2 → ∀ b, b < 2 → a ≠ b → (TX1 a).2.1 ≠ (TX1 b).2.1 := by decide +kernel
theorem tyX1_ok : ∀ k, k < 2 → parseFieldDescriptor (TX1 k).2.2.1 = some (tyX1 k) := by decide +kernel
abbrev cX1_init : ByteArray := prog_3_method_1_code
def yX1_init : MethodName := ⟨RX1, "<init>", "()V"⟩
abbrev cX1_copyFrom : ByteArray := prog_3_method_2_code
def yX1_copyFrom : MethodName := ⟨RX1, "copyFrom", "(LSegmentedCache$Leavers;)V"⟩
abbrev cX1_add : ByteArray := prog_3_method_3_code
def yX1_add : MethodName := ⟨RX1, "add", "(I)V"⟩
abbrev cX1_at : ByteArray := prog_3_method_4_code
def yX1_at : MethodName := ⟨RX1, "at", "(I)I"⟩
def RX2 : String := "SegmentedCache$Queues"
def TX2 : u_T := fun k => match k with
  | 0 => ("SegmentedCache$Queues", "sizes", "[I", true)
  | 1 => ("SegmentedCache$Queues", "weights", "[I", true)
  | 2 => ("SegmentedCache$Queues", "newer", "[I", true)
  | _ => ("SegmentedCache$Queues", "older", "[I", true)
def tyX2 : Nat → FieldType := fun k => match k with
  | 0 => .array .int
  | 1 => .array .int
  | 2 => .array .int
  | _ => .array .int
abbrev wsX20 : List Cond := u_ws RX2 TX2 4
theorem nmX2 : ∀ a, a < 4 → ∀ b, b < 4 → a ≠ b → (TX2 a).2.1 ≠ (TX2 b).2.1 := by decide +kernel
theorem tyX2_ok : ∀ k, k < 4 → parseFieldDescriptor (TX2 k).2.2.1 = some (tyX2 k) := by decide +kernel
abbrev cX2_init : ByteArray := prog_4_method_1_code
def yX2_init : MethodName := ⟨RX2, "<init>", "()V"⟩
abbrev cX2_copyFrom : ByteArray := prog_4_method_2_code
def yX2_copyFrom : MethodName := ⟨RX2, "copyFrom", "(LSegmentedCache$Queues;)V"⟩
abbrev cX2_add : ByteArray := prog_4_method_3_code
def yX2_add : MethodName := ⟨RX2, "add", "(III)V"⟩
abbrev cX2_remove : ByteArray := prog_4_method_4_code
def yX2_remove : MethodName := ⟨RX2, "remove", "(III)V"⟩
abbrev cX2_oldest : ByteArray := prog_4_method_5_code
def yX2_oldest : MethodName := ⟨RX2, "oldest", "(I)I"⟩
abbrev cX2_keyAt : ByteArray := prog_4_method_6_code
def yX2_keyAt : MethodName := ⟨RX2, "keyAt", "(II)I"⟩
abbrev cX2_placeOf : ByteArray := prog_4_method_7_code
def yX2_placeOf : MethodName := ⟨RX2, "placeOf", "(II)I"⟩
abbrev cX2_oldestLoose : ByteArray := prog_4_method_8_code
def yX2_oldestLoose : MethodName := ⟨RX2, "oldestLoose", "(I[I)I"⟩
def RX3 : String := "SegmentedCache$Store"
def TX3 : u_T := fun k => match k with
  | 0 => ("SegmentedCache$Store", "settings", "[I", true)
  | 1 => ("SegmentedCache$Store", "tallies", "[I", true)
  | 2 => ("SegmentedCache$Store", "queues", "LSegmentedCache$Queues;", true)
  | 3 => ("SegmentedCache$Store", "facts", "[[I", true)
  | 4 => ("SegmentedCache$Store", "leavers", "LSegmentedCache$Leavers;", true)
  | _ => ("SegmentedCache$Store", "book", "LSegmentedCache$Book;", true)
def tyX3 : Nat → FieldType := fun k => match k with
  | 0 => .array .int
  | 1 => .array .int
  | 2 => .object "SegmentedCache$Queues"
  | 3 => .array (.array .int)
  | 4 => .object "SegmentedCache$Leavers"
  | _ => .object "SegmentedCache$Book"
abbrev wsX30 : List Cond := u_ws RX3 TX3 6
theorem nmX3 : ∀ a, a < 6 → ∀ b, b < 6 → a ≠ b → (TX3 a).2.1 ≠ (TX3 b).2.1 := by decide +kernel
theorem tyX3_ok : ∀ k, k < 6 → parseFieldDescriptor (TX3 k).2.2.1 = some (tyX3 k) := by decide +kernel
abbrev cX3_init : ByteArray := prog_5_method_1_code
def yX3_init : MethodName := ⟨RX3, "<init>", "()V"⟩
abbrev cX3_copyFrom : ByteArray := prog_5_method_2_code
def yX3_copyFrom : MethodName := ⟨RX3, "copyFrom", "(LSegmentedCache$Store;)V"⟩
abbrev cX3_isThing : ByteArray := prog_5_method_3_code
def yX3_isThing : MethodName := ⟨RX3, "isThing", "(I)Z"⟩
abbrev cX3_thingCount : ByteArray := prog_5_method_4_code
def yX3_thingCount : MethodName := ⟨RX3, "thingCount", "()I"⟩
abbrev cX3_weightOfThings : ByteArray := prog_5_method_5_code
def yX3_weightOfThings : MethodName := ⟨RX3, "weightOfThings", "()I"⟩
abbrev cX3_placeOf : ByteArray := prog_5_method_6_code
def yX3_placeOf : MethodName := ⟨RX3, "placeOf", "(I)I"⟩
abbrev cX3_move : ByteArray := prog_5_method_7_code
def yX3_move : MethodName := ⟨RX3, "move", "(II)V"⟩
abbrev cX3_store : ByteArray := prog_5_method_8_code
def yX3_store : MethodName := ⟨RX3, "store", "(IIII)I"⟩
abbrev cX3_replace : ByteArray := prog_5_method_9_code
def yX3_replace : MethodName := ⟨RX3, "replace", "(IIII)V"⟩
abbrev cX3_admit : ByteArray := prog_5_method_10_code
def yX3_admit : MethodName := ⟨RX3, "admit", "(IIII)V"⟩
abbrev cX3_hit : ByteArray := prog_5_method_11_code
def yX3_hit : MethodName := ⟨RX3, "hit", "(I)V"⟩
abbrev cX3_fetch : ByteArray := prog_5_method_12_code
def yX3_fetch : MethodName := ⟨RX3, "fetch", "(I)Z"⟩
abbrev cX3_trim : ByteArray := prog_5_method_13_code
def yX3_trim : MethodName := ⟨RX3, "trim", "()V"⟩
abbrev cX3_demote : ByteArray := prog_5_method_14_code
def yX3_demote : MethodName := ⟨RX3, "demote", "()V"⟩
abbrev cX3_makeRoom : ByteArray := prog_5_method_15_code
def yX3_makeRoom : MethodName := ⟨RX3, "makeRoom", "()V"⟩
abbrev cX3_forget : ByteArray := prog_5_method_16_code
def yX3_forget : MethodName := ⟨RX3, "forget", "(I)V"⟩
abbrev cX3_perform : ByteArray := prog_5_method_17_code
def yX3_perform : MethodName := ⟨RX3, "perform", "(LSegmentedCache$Trace;)I"⟩
def RX4 : String := "SegmentedCache$Tape"
def TX4 : u_T := fun k => match k with
  | 0 => ("SegmentedCache$Tape", "items", "[J", true)
  | 1 => ("SegmentedCache$Tape", "sort", "I", false)
  | _ => ("SegmentedCache$Tape", "length", "I", false)
def tyX4 : Nat → FieldType := fun k => match k with
  | 0 => .array .long
  | 1 => .int
  | _ => .int
abbrev wsX40 : List Cond := u_ws RX4 TX4 3
theorem nmX4 : ∀ a, a < 3 → ∀ b, b < 3 → a ≠ b → (TX4 a).2.1 ≠ (TX4 b).2.1 := by decide +kernel
theorem tyX4_ok : ∀ k, k < 3 → parseFieldDescriptor (TX4 k).2.2.1 = some (tyX4 k) := by decide +kernel
abbrev cX4_init : ByteArray := prog_6_method_1_code
def yX4_init : MethodName := ⟨RX4, "<init>", "()V"⟩
abbrev cX4_become : ByteArray := prog_6_method_2_code
def yX4_become : MethodName := ⟨RX4, "become", "(II)V"⟩
abbrev cX4_asItem : ByteArray := prog_6_method_3_code
def yX4_asItem : MethodName := ⟨RX4, "asItem", "(J)J"⟩
abbrev cX4_hasRange : ByteArray := prog_6_method_4_code
def yX4_hasRange : MethodName := ⟨RX4, "hasRange", "(II)Z"⟩
def RX5 : String := "SegmentedCache$Text"
def TX5 : u_T := fun k => match k with
  | 0 => ("SegmentedCache$Text", "signs", "[I", true)
  | 1 => ("SegmentedCache$Text", "length", "I", false)
  | _ => ("SegmentedCache$Text", "at", "I", false)
def tyX5 : Nat → FieldType := fun k => match k with
  | 0 => .array .int
  | 1 => .int
  | _ => .int
abbrev wsX50 : List Cond := u_ws RX5 TX5 3
theorem nmX5 : ∀ a, a < 3 → ∀ b, b < 3 → a ≠ b → (TX5 a).2.1 ≠ (TX5 b).2.1 := by decide +kernel
theorem tyX5_ok : ∀ k, k < 3 → parseFieldDescriptor (TX5 k).2.2.1 = some (tyX5 k) := by decide +kernel
abbrev cX5_init : ByteArray := prog_7_method_1_code
def yX5_init : MethodName := ⟨RX5, "<init>", "()V"⟩
abbrev cX5_readInto : ByteArray := prog_7_method_2_code
def yX5_readInto : MethodName := ⟨RX5, "readInto", "(LSegmentedCache$Trace;)I"⟩
abbrev cX5_readClause : ByteArray := prog_7_method_3_code
def yX5_readClause : MethodName := ⟨RX5, "readClause", "(LSegmentedCache$Trace;I)Z"⟩
abbrev cX5_readWeight : ByteArray := prog_7_method_4_code
def yX5_readWeight : MethodName := ⟨RX5, "readWeight", "(LSegmentedCache$Trace;I)Z"⟩
abbrev cX5_skip : ByteArray := prog_7_method_5_code
def yX5_skip : MethodName := ⟨RX5, "skip", "(II)Z"⟩
abbrev cX5_next : ByteArray := prog_7_method_6_code
def yX5_next : MethodName := ⟨RX5, "next", "()I"⟩
def RX6 : String := "SegmentedCache$Trace"
def TX6 : u_T := fun k => match k with
  | 0 => ("SegmentedCache$Trace", "kinds", "[I", true)
  | 1 => ("SegmentedCache$Trace", "keys", "[I", true)
  | 2 => ("SegmentedCache$Trace", "weights", "[I", true)
  | _ => ("SegmentedCache$Trace", "size", "I", false)
def tyX6 : Nat → FieldType := fun k => match k with
  | 0 => .array .int
  | 1 => .array .int
  | 2 => .array .int
  | _ => .int
abbrev wsX60 : List Cond := u_ws RX6 TX6 4
theorem nmX6 : ∀ a, a < 4 → ∀ b, b < 4 → a ≠ b → (TX6 a).2.1 ≠ (TX6 b).2.1 := by decide +kernel
theorem tyX6_ok : ∀ k, k < 4 → parseFieldDescriptor (TX6 k).2.2.1 = some (tyX6 k) := by decide +kernel
abbrev cX6_init : ByteArray := prog_8_method_1_code
def yX6_init : MethodName := ⟨RX6, "<init>", "()V"⟩
def RX7 : String := "SegmentedCache"
def TX7 : u_T := fun k => match k with
  | 0 => ("SegmentedCache", "live", "LSegmentedCache$Store;", true)
  | 1 => ("SegmentedCache", "trial", "LSegmentedCache$Store;", true)
  | 2 => ("SegmentedCache", "kept", "LSegmentedCache$Store;", false)
  | 3 => ("SegmentedCache", "text", "LSegmentedCache$Text;", true)
  | 4 => ("SegmentedCache", "traces", "[LSegmentedCache$Trace;", true)
  | 5 => ("SegmentedCache", "traceCount", "I", false)
  | _ => ("SegmentedCache", "tapes", "[LSegmentedCache$Tape;", true)
def tyX7 : Nat → FieldType := fun k => match k with
  | 0 => .object "SegmentedCache$Store"
  | 1 => .object "SegmentedCache$Store"
  | 2 => .object "SegmentedCache$Store"
  | 3 => .object "SegmentedCache$Text"
  | 4 => .array (.object "SegmentedCache$Trace")
  | 5 => .int
  | _ => .array (.object "SegmentedCache$Tape")
abbrev wsX70 : List Cond := u_ws RX7 TX7 7
theorem nmX7 : ∀ a, a < 7 → ∀ b, b < 7 → a ≠ b → (TX7 a).2.1 ≠ (TX7 b).2.1 := by decide +kernel
theorem tyX7_ok : ∀ k, k < 7 → parseFieldDescriptor (TX7 k).2.2.1 = some (tyX7 k) := by decide +kernel
abbrev cX7_init : ByteArray := prog_1_method_1_code
def yX7_init : MethodName := ⟨RX7, "<init>", "()V"⟩
abbrev cX7_set : ByteArray := prog_1_method_2_code
def yX7_set : MethodName := ⟨RX7, "set", "(II)I"⟩
abbrev cX7_told : ByteArray := prog_1_method_3_code
def yX7_told : MethodName := ⟨RX7, "told", "(I)I"⟩
abbrev cX7_leastOf : ByteArray := prog_1_method_4_code
def yX7_leastOf : MethodName := ⟨RX7, "leastOf", "(I)I"⟩
abbrev cX7_mostOf : ByteArray := prog_1_method_5_code
def yX7_mostOf : MethodName := ⟨RX7, "mostOf", "(I)I"⟩
abbrev cX7_put : ByteArray := prog_1_method_6_code
def yX7_put : MethodName := ⟨RX7, "put", "(IIIII)I"⟩
abbrev cX7_get : ByteArray := prog_1_method_7_code
def yX7_get : MethodName := ⟨RX7, "get", "(II)J"⟩
abbrev cX7_drop : ByteArray := prog_1_method_8_code
def yX7_drop : MethodName := ⟨RX7, "drop", "(II)I"⟩
abbrev cX7_pin : ByteArray := prog_1_method_9_code
def yX7_pin : MethodName := ⟨RX7, "pin", "(IIZ)I"⟩
abbrev cX7_of : ByteArray := prog_1_method_10_code
def yX7_of : MethodName := ⟨RX7, "of", "(III)I"⟩
abbrev cX7_key : ByteArray := prog_1_method_11_code
def yX7_key : MethodName := ⟨RX7, "key", "(II)I"⟩
abbrev cX7_gone : ByteArray := prog_1_method_12_code
def yX7_gone : MethodName := ⟨RX7, "gone", "(I)I"⟩
abbrev cX7_victim : ByteArray := prog_1_method_13_code
def yX7_victim : MethodName := ⟨RX7, "victim", "(I)I"⟩
abbrev cX7_keyOf : ByteArray := prog_1_method_14_code
def yX7_keyOf : MethodName := ⟨RX7, "keyOf", "(II)I"⟩
abbrev cX7_rehearse : ByteArray := prog_1_method_15_code
def yX7_rehearse : MethodName := ⟨RX7, "rehearse", "(II)V"⟩
abbrev cX7_feed : ByteArray := prog_1_method_16_code
def yX7_feed : MethodName := ⟨RX7, "feed", "(I)I"⟩
abbrev cX7_trace : ByteArray := prog_1_method_17_code
def yX7_trace : MethodName := ⟨RX7, "trace", "()I"⟩
abbrev cX7_run : ByteArray := prog_1_method_18_code
def yX7_run : MethodName := ⟨RX7, "run", "(I)I"⟩
abbrev cX7_would : ByteArray := prog_1_method_19_code
def yX7_would : MethodName := ⟨RX7, "would", "(II)I"⟩
abbrev cX7_need : ByteArray := prog_1_method_20_code
def yX7_need : MethodName := ⟨RX7, "need", "(II)I"⟩
abbrev cX7_odds : ByteArray := prog_1_method_21_code
def yX7_odds : MethodName := ⟨RX7, "odds", "(III)J"⟩
abbrev cX7_mean : ByteArray := prog_1_method_22_code
def yX7_mean : MethodName := ⟨RX7, "mean", "(II)J"⟩
abbrev cX7_isTrace : ByteArray := prog_1_method_23_code
def yX7_isTrace : MethodName := ⟨RX7, "isTrace", "(I)Z"⟩
abbrev cX7_isPart : ByteArray := prog_1_method_24_code
def yX7_isPart : MethodName := ⟨RX7, "isPart", "(I)Z"⟩
abbrev cX7_partOf : ByteArray := prog_1_method_25_code
def yX7_partOf : MethodName := ⟨RX7, "partOf", "(III)J"⟩
abbrev cX7_commonDivisor : ByteArray := prog_1_method_26_code
def yX7_commonDivisor : MethodName := ⟨RX7, "commonDivisor", "(II)I"⟩
abbrev cX7_book : ByteArray := prog_1_method_27_code
def yX7_book : MethodName := ⟨RX7, "book", "(III)I"⟩
abbrev cX7_looked : ByteArray := prog_1_method_28_code
def yX7_looked : MethodName := ⟨RX7, "looked", "()I"⟩
abbrev cX7_judge : ByteArray := prog_1_method_29_code
def yX7_judge : MethodName := ⟨RX7, "judge", "(II)I"⟩
abbrev cX7_image : ByteArray := prog_1_method_30_code
def yX7_image : MethodName := ⟨RX7, "image", "()I"⟩
abbrev cX7_undo : ByteArray := prog_1_method_31_code
def yX7_undo : MethodName := ⟨RX7, "undo", "()I"⟩
abbrev cX7_count : ByteArray := prog_1_method_32_code
def yX7_count : MethodName := ⟨RX7, "count", "(I)I"⟩
abbrev cX7_tape : ByteArray := prog_1_method_33_code
def yX7_tape : MethodName := ⟨RX7, "tape", "(III)I"⟩
abbrev cX7_item : ByteArray := prog_1_method_34_code
def yX7_item : MethodName := ⟨RX7, "item", "(IIJ)I"⟩
abbrev cX7_read : ByteArray := prog_1_method_35_code
def yX7_read : MethodName := ⟨RX7, "read", "(II)J"⟩
abbrev cX7_shift : ByteArray := prog_1_method_36_code
def yX7_shift : MethodName := ⟨RX7, "shift", "(IIIII)I"⟩
abbrev cX7_isTape : ByteArray := prog_1_method_37_code
def yX7_isTape : MethodName := ⟨RX7, "isTape", "(I)Z"⟩
def RX8 : String := "SegmentedCacheModel"
def TX8 : u_T := fun k => match k with
  | 0 => ("SegmentedCacheModel", "g", "[I", true)
  | 1 => ("SegmentedCacheModel", "saved", "[I", true)
  | 2 => ("SegmentedCacheModel", "kept", "[I", true)
  | 3 => ("SegmentedCacheModel", "isKept", "Z", false)
  | 4 => ("SegmentedCacheModel", "going", "[I", true)
  | 5 => ("SegmentedCacheModel", "goingMany", "I", false)
  | 6 => ("SegmentedCacheModel", "text", "[I", true)
  | 7 => ("SegmentedCacheModel", "textMany", "I", false)
  | 8 => ("SegmentedCacheModel", "acts", "[I", true)
  | 9 => ("SegmentedCacheModel", "keys", "[I", true)
  | 10 => ("SegmentedCacheModel", "weights", "[I", true)
  | 11 => ("SegmentedCacheModel", "many", "[I", true)
  | 12 => ("SegmentedCacheModel", "traces", "I", false)
  | 13 => ("SegmentedCacheModel", "tapeSort", "[I", true)
  | 14 => ("SegmentedCacheModel", "tapeSize", "[I", true)
  | 15 => ("SegmentedCacheModel", "tapes", "[[J", true)
  | 16 => ("SegmentedCacheModel", "moved", "[J", true)
  | 17 => ("SegmentedCacheModel", "spot", "I", false)
  | _ => ("SegmentedCacheModel", "fault", "I", false)
def tyX8 : Nat → FieldType := fun k => match k with
  | 0 => .array .int
  | 1 => .array .int
  | 2 => .array .int
  | 3 => .boolean
  | 4 => .array .int
  | 5 => .int
  | 6 => .array .int
  | 7 => .int
  | 8 => .array .int
  | 9 => .array .int
  | 10 => .array .int
  | 11 => .array .int
  | 12 => .int
  | 13 => .array .int
  | 14 => .array .int
  | 15 => .array (.array .long)
  | 16 => .array .long
  | 17 => .int
  | _ => .int
abbrev wsX80 : List Cond := u_ws RX8 TX8 19
theorem nmX8 : ∀ a, a < 19 → ∀ b, b < 19 → a ≠ b → (TX8 a).2.1 ≠ (TX8 b).2.1 := by decide +kernel
theorem tyX8_ok : ∀ k, k < 19 → parseFieldDescriptor (TX8 k).2.2.1 = some (tyX8 k) := by decide +kernel
abbrev cX8_init : ByteArray := prog_10_method_1_code
def yX8_init : MethodName := ⟨RX8, "<init>", "()V"⟩
abbrev cX8_in : ByteArray := prog_10_method_2_code
def yX8_in : MethodName := ⟨RX8, "in", "(III)Z"⟩
abbrev cX8_isKey : ByteArray := prog_10_method_3_code
def yX8_isKey : MethodName := ⟨RX8, "isKey", "(II)Z"⟩
abbrev cX8_copy : ByteArray := prog_10_method_4_code
def yX8_copy : MethodName := ⟨RX8, "copy", "([I[I)V"⟩
abbrev cX8_goes : ByteArray := prog_10_method_5_code
def yX8_goes : MethodName := ⟨RX8, "goes", "(II)V"⟩
abbrev cX8_weighs : ByteArray := prog_10_method_6_code
def yX8_weighs : MethodName := ⟨RX8, "weighs", "(II)V"⟩
abbrev cX8_isThing : ByteArray := prog_10_method_7_code
def yX8_isThing : MethodName := ⟨RX8, "isThing", "(I)Z"⟩
abbrev cX8_oldest : ByteArray := prog_10_method_8_code
def yX8_oldest : MethodName := ⟨RX8, "oldest", "(IZ)I"⟩
abbrev cX8_went : ByteArray := prog_10_method_9_code
def yX8_went : MethodName := ⟨RX8, "went", "(II)V"⟩
abbrev cX8_sinks : ByteArray := prog_10_method_10_code
def yX8_sinks : MethodName := ⟨RX8, "sinks", "()V"⟩
abbrev cX8_lets : ByteArray := prog_10_method_11_code
def yX8_lets : MethodName := ⟨RX8, "lets", "()V"⟩
abbrev cX8_trim : ByteArray := prog_10_method_12_code
def yX8_trim : MethodName := ⟨RX8, "trim", "()V"⟩
abbrev cX8_hit : ByteArray := prog_10_method_13_code
def yX8_hit : MethodName := ⟨RX8, "hit", "(I)V"⟩
abbrev cX8_putIn : ByteArray := prog_10_method_14_code
def yX8_putIn : MethodName := ⟨RX8, "putIn", "(IIII)I"⟩
abbrev cX8_gets : ByteArray := prog_10_method_15_code
def yX8_gets : MethodName := ⟨RX8, "gets", "(I)Z"⟩
abbrev cX8_drops : ByteArray := prog_10_method_16_code
def yX8_drops : MethodName := ⟨RX8, "drops", "(I)I"⟩
abbrev cX8_capacity : ByteArray := prog_10_method_17_code
def yX8_capacity : MethodName := ⟨RX8, "capacity", "(I)V"⟩
abbrev cX8_set : ByteArray := prog_10_method_18_code
def yX8_set : MethodName := ⟨RX8, "set", "(II)I"⟩
abbrev cX8_told : ByteArray := prog_10_method_19_code
def yX8_told : MethodName := ⟨RX8, "told", "(I)I"⟩
abbrev cX8_put : ByteArray := prog_10_method_20_code
def yX8_put : MethodName := ⟨RX8, "put", "(IIIII)I"⟩
abbrev cX8_get : ByteArray := prog_10_method_21_code
def yX8_get : MethodName := ⟨RX8, "get", "(II)J"⟩
abbrev cX8_drop : ByteArray := prog_10_method_22_code
def yX8_drop : MethodName := ⟨RX8, "drop", "(II)I"⟩
abbrev cX8_pin : ByteArray := prog_10_method_23_code
def yX8_pin : MethodName := ⟨RX8, "pin", "(IIZ)I"⟩
abbrev cX8_placeOf : ByteArray := prog_10_method_24_code
def yX8_placeOf : MethodName := ⟨RX8, "placeOf", "(I)I"⟩
abbrev cX8_of : ByteArray := prog_10_method_25_code
def yX8_of : MethodName := ⟨RX8, "of", "(III)I"⟩
abbrev cX8_keyAt : ByteArray := prog_10_method_26_code
def yX8_keyAt : MethodName := ⟨RX8, "keyAt", "(II)I"⟩
abbrev cX8_key : ByteArray := prog_10_method_27_code
def yX8_key : MethodName := ⟨RX8, "key", "(II)I"⟩
abbrev cX8_gone : ByteArray := prog_10_method_28_code
def yX8_gone : MethodName := ⟨RX8, "gone", "(I)I"⟩
abbrev cX8_victim : ByteArray := prog_10_method_29_code
def yX8_victim : MethodName := ⟨RX8, "victim", "(I)I"⟩
abbrev cX8_feed : ByteArray := prog_10_method_30_code
def yX8_feed : MethodName := ⟨RX8, "feed", "(I)I"⟩
abbrev cX8_sees : ByteArray := prog_10_method_31_code
def yX8_sees : MethodName := ⟨RX8, "sees", "(II)Z"⟩
abbrev cX8_must : ByteArray := prog_10_method_32_code
def yX8_must : MethodName := ⟨RX8, "must", "(II)I"⟩
abbrev cX8_clause : ByteArray := prog_10_method_33_code
def yX8_clause : MethodName := ⟨RX8, "clause", "(I)V"⟩
abbrev cX8_trace : ByteArray := prog_10_method_34_code
def yX8_trace : MethodName := ⟨RX8, "trace", "()I"⟩
abbrev cX8_runs : ByteArray := prog_10_method_35_code
def yX8_runs : MethodName := ⟨RX8, "runs", "(I)I"⟩
abbrev cX8_isTrace : ByteArray := prog_10_method_36_code
def yX8_isTrace : MethodName := ⟨RX8, "isTrace", "(I)Z"⟩
abbrev cX8_run : ByteArray := prog_10_method_37_code
def yX8_run : MethodName := ⟨RX8, "run", "(I)I"⟩
abbrev cX8_would : ByteArray := prog_10_method_38_code
def yX8_would : MethodName := ⟨RX8, "would", "(II)I"⟩
abbrev cX8_need : ByteArray := prog_10_method_39_code
def yX8_need : MethodName := ⟨RX8, "need", "(II)I"⟩
abbrev cX8_common : ByteArray := prog_10_method_40_code
def yX8_common : MethodName := ⟨RX8, "common", "(II)I"⟩
abbrev cX8_part : ByteArray := prog_10_method_41_code
def yX8_part : MethodName := ⟨RX8, "part", "(III)J"⟩
abbrev cX8_odds : ByteArray := prog_10_method_42_code
def yX8_odds : MethodName := ⟨RX8, "odds", "(III)J"⟩
abbrev cX8_manyAt : ByteArray := prog_10_method_43_code
def yX8_manyAt : MethodName := ⟨RX8, "manyAt", "(I)I"⟩
abbrev cX8_mean : ByteArray := prog_10_method_44_code
def yX8_mean : MethodName := ⟨RX8, "mean", "(II)J"⟩
abbrev cX8_book : ByteArray := prog_10_method_45_code
def yX8_book : MethodName := ⟨RX8, "book", "(III)I"⟩
abbrev cX8_looked : ByteArray := prog_10_method_46_code
def yX8_looked : MethodName := ⟨RX8, "looked", "()I"⟩
abbrev cX8_isTape : ByteArray := prog_10_method_47_code
def yX8_isTape : MethodName := ⟨RX8, "isTape", "(I)Z"⟩
abbrev cX8_judge : ByteArray := prog_10_method_48_code
def yX8_judge : MethodName := ⟨RX8, "judge", "(II)I"⟩
abbrev cX8_image : ByteArray := prog_10_method_49_code
def yX8_image : MethodName := ⟨RX8, "image", "()I"⟩
abbrev cX8_undo : ByteArray := prog_10_method_50_code
def yX8_undo : MethodName := ⟨RX8, "undo", "()I"⟩
abbrev cX8_count : ByteArray := prog_10_method_51_code
def yX8_count : MethodName := ⟨RX8, "count", "(I)I"⟩
abbrev cX8_tape : ByteArray := prog_10_method_52_code
def yX8_tape : MethodName := ⟨RX8, "tape", "(III)I"⟩
abbrev cX8_fit : ByteArray := prog_10_method_53_code
def yX8_fit : MethodName := ⟨RX8, "fit", "(IJ)J"⟩
abbrev cX8_item : ByteArray := prog_10_method_54_code
def yX8_item : MethodName := ⟨RX8, "item", "(IIJ)I"⟩
abbrev cX8_read : ByteArray := prog_10_method_55_code
def yX8_read : MethodName := ⟨RX8, "read", "(II)J"⟩
abbrev cX8_shift : ByteArray := prog_10_method_56_code
def yX8_shift : MethodName := ⟨RX8, "shift", "(IIIII)I"⟩
def RJ9 : String := "java/lang/Math"
def TJ9 : u_T := fun k => match k with
  | _ => ("", "", "", false)
def tyJ9 : Nat → FieldType := fun k => match k with
  | _ => .int
abbrev wsJ90 : List Cond := u_ws RJ9 TJ9 0
theorem nmJ9 : ∀ a, a < 0 → ∀ b, b < 0 → a ≠ b → (TJ9 a).2.1 ≠ (TJ9 b).2.1 := by decide +kernel
theorem tyJ9_ok : ∀ k, k < 0 → parseFieldDescriptor (TJ9 k).2.2.1 = some (tyJ9 k) := by decide +kernel
abbrev cJ9_floorMod_7cf53 : ByteArray := prog_11_method_50_code
def yJ9_floorMod_7cf53 : MethodName := ⟨RJ9, "floorMod", "(II)I"⟩
abbrev cJ9_max_7cf53 : ByteArray := prog_11_method_65_code
def yJ9_max_7cf53 : MethodName := ⟨RJ9, "max", "(II)I"⟩
abbrev cJ9_min_7cf53 : ByteArray := prog_11_method_69_code
def yJ9_min_7cf53 : MethodName := ⟨RJ9, "min", "(II)I"⟩
def RJ10 : String := "java/lang/System"
def TJ10 : u_T := fun k => match k with
  | _ => ("", "", "", false)
def tyJ10 : Nat → FieldType := fun k => match k with
  | _ => .int
abbrev wsJ100 : List Cond := u_ws RJ10 TJ10 0
theorem nmJ10 : ∀ a, a < 0 → ∀ b, b < 0 → a ≠ b → (TJ10 a).2.1 ≠ (TJ10 b).2.1 := by decide +kernel
theorem tyJ10_ok : ∀ k, k < 0 → parseFieldDescriptor (TJ10 k).2.2.1 = some (tyJ10 k) := by decide +kernel
def RL : String := "SegmentedCacheLaw"
abbrev cL_law : ByteArray := code
def yL_law : MethodName := ⟨RL, "law", "([I)Z"⟩
def wsX0_init : List Cond := .code yX0_init cX0_init 1 none :: ([.methodLink RX0 3 objectInit, .instanceMethod objectInit, .code objectInit ⟨#[0xb1]⟩ 1 none, .arrayClass .int, .fieldLink RX0 9 "SegmentedCache$Book" "keys" "[I", .fieldLink RX0 15 "SegmentedCache$Book" "wheres" "[I"] ++ wsX00)
def wsX0_copyFrom : List Cond := .code yX0_copyFrom cX0_copyFrom 2 none :: ([.fieldLink RX0 9 "SegmentedCache$Book" "keys" "[I", .methodLink RX0 18 arraycopyName, .native arraycopyName, .static arraycopyName, .initialized "java/lang/System", .fieldLink RX0 15 "SegmentedCache$Book" "wheres" "[I", .fieldLink RX0 24 "SegmentedCache$Book" "size" "I"] ++ wsX00)
def wsX1_init : List Cond := .code yX1_init cX1_init 1 none :: ([.methodLink RX1 3 objectInit, .instanceMethod objectInit, .code objectInit ⟨#[0xb1]⟩ 1 none, .arrayClass .int, .fieldLink RX1 9 "SegmentedCache$Leavers" "ring" "[I"] ++ wsX10)
def wsX1_copyFrom : List Cond := .code yX1_copyFrom cX1_copyFrom 2 none :: ([.fieldLink RX1 9 "SegmentedCache$Leavers" "ring" "[I", .methodLink RX1 15 arraycopyName, .native arraycopyName, .static arraycopyName, .initialized "java/lang/System", .fieldLink RX1 21 "SegmentedCache$Leavers" "total" "I"] ++ wsX10)
def wsJ9_floorMod_7cf53 : List Cond := .code yJ9_floorMod_7cf53 cJ9_floorMod_7cf53 3 (some .int) :: ([])
def wsX1_add : List Cond := .code yX1_add cX1_add 2 none :: ([.fieldLink RX1 9 "SegmentedCache$Leavers" "ring" "[I", .fieldLink RX1 21 "SegmentedCache$Leavers" "total" "I", .methodLink RX1 25 yJ9_floorMod_7cf53, .static yJ9_floorMod_7cf53, .initialized RJ9, .code yJ9_floorMod_7cf53 cJ9_floorMod_7cf53 3 (some .int)] ++ wsX10)
def wsX1_at : List Cond := .code yX1_at cX1_at 2 (some .int) :: ([.fieldLink RX1 9 "SegmentedCache$Leavers" "ring" "[I", .methodLink RX1 25 yJ9_floorMod_7cf53, .static yJ9_floorMod_7cf53, .initialized RJ9, .code yJ9_floorMod_7cf53 cJ9_floorMod_7cf53 3 (some .int)] ++ wsX10)
def wsX2_init : List Cond := .code yX2_init cX2_init 2 none :: ([.methodLink RX2 3 objectInit, .instanceMethod objectInit, .code objectInit ⟨#[0xb1]⟩ 1 none, .arrayClass .int, .fieldLink RX2 9 "SegmentedCache$Queues" "sizes" "[I", .fieldLink RX2 15 "SegmentedCache$Queues" "weights" "[I", .fieldLink RX2 18 "SegmentedCache$Queues" "newer" "[I", .fieldLink RX2 21 "SegmentedCache$Queues" "older" "[I"] ++ wsX20)
def wsX2_copyFrom : List Cond := .code yX2_copyFrom cX2_copyFrom 2 none :: ([.fieldLink RX2 9 "SegmentedCache$Queues" "sizes" "[I", .methodLink RX2 24 arraycopyName, .native arraycopyName, .static arraycopyName, .initialized "java/lang/System", .fieldLink RX2 15 "SegmentedCache$Queues" "weights" "[I", .fieldLink RX2 18 "SegmentedCache$Queues" "newer" "[I", .fieldLink RX2 21 "SegmentedCache$Queues" "older" "[I"] ++ wsX20)
def wsX2_add : List Cond := .code yX2_add cX2_add 6 none :: ([.fieldLink RX2 21 "SegmentedCache$Queues" "older" "[I", .fieldLink RX2 18 "SegmentedCache$Queues" "newer" "[I", .fieldLink RX2 9 "SegmentedCache$Queues" "sizes" "[I", .fieldLink RX2 15 "SegmentedCache$Queues" "weights" "[I"] ++ wsX20)
def wsX2_remove : List Cond := .code yX2_remove cX2_remove 4 none :: ([.fieldLink RX2 18 "SegmentedCache$Queues" "newer" "[I", .fieldLink RX2 21 "SegmentedCache$Queues" "older" "[I", .fieldLink RX2 9 "SegmentedCache$Queues" "sizes" "[I", .fieldLink RX2 15 "SegmentedCache$Queues" "weights" "[I"] ++ wsX20)
def wsX2_oldest : List Cond := .code yX2_oldest cX2_oldest 2 (some .int) :: ([.fieldLink RX2 18 "SegmentedCache$Queues" "newer" "[I"] ++ wsX20)
def wsX2_keyAt : List Cond := .code yX2_keyAt cX2_keyAt 5 (some .int) :: ([.fieldLink RX2 9 "SegmentedCache$Queues" "sizes" "[I", .fieldLink RX2 18 "SegmentedCache$Queues" "newer" "[I", .methodLink RX2 30 yX2_oldest, .instanceMethod yX2_oldest, .selects RX2 yX2_oldest yX2_oldest, .initialized RX2, .code yX2_oldest cX2_oldest 2 (some .int)] ++ wsX20)
def wsX2_placeOf : List Cond := .code yX2_placeOf cX2_placeOf 5 (some .int) :: ([.fieldLink RX2 9 "SegmentedCache$Queues" "sizes" "[I", .fieldLink RX2 18 "SegmentedCache$Queues" "newer" "[I", .methodLink RX2 30 yX2_oldest, .instanceMethod yX2_oldest, .selects RX2 yX2_oldest yX2_oldest, .initialized RX2, .code yX2_oldest cX2_oldest 2 (some .int)] ++ wsX20)
def wsX2_oldestLoose : List Cond := .code yX2_oldestLoose cX2_oldestLoose 5 (some .int) :: ([.fieldLink RX2 9 "SegmentedCache$Queues" "sizes" "[I", .fieldLink RX2 18 "SegmentedCache$Queues" "newer" "[I", .methodLink RX2 30 yX2_oldest, .instanceMethod yX2_oldest, .selects RX2 yX2_oldest yX2_oldest, .initialized RX2, .code yX2_oldest cX2_oldest 2 (some .int)] ++ wsX20)
def wsX3_init_r1 : List Cond := [Cond.methodLink RX3 3 objectInit, Cond.instanceMethod objectInit, Cond.code objectInit ⟨#[0xb1]⟩ 1 none, Cond.arrayClass .int, Cond.fieldLink RX3 9 "SegmentedCache$Store" "settings" "[I", Cond.fieldLink RX3 15 "SegmentedCache$Store" "tallies" "[I", Cond.classLink RX3 18 RX2, Cond.instantiable RX2 4, Cond.initialized RX2, Cond.fieldLink RX3 21 "SegmentedCache$Store" "queues" "LSegmentedCache$Queues;", Cond.classLink RX3 25 "[[I", Cond.fieldLink RX3 27 "SegmentedCache$Store" "facts" "[[I", Cond.classLink RX3 30 RX1, Cond.instantiable RX1 2, Cond.initialized RX1, Cond.fieldLink RX3 33 "SegmentedCache$Store" "leavers" "LSegmentedCache$Leavers;", Cond.classLink RX3 37 RX0, Cond.instantiable RX0 3, Cond.initialized RX0, Cond.fieldLink RX3 40 "SegmentedCache$Store" "book" "LSegmentedCache$Book;", Cond.methodLink RX3 20 yX2_init, Cond.instanceMethod yX2_init, Cond.code yX2_init cX2_init 2 none, Cond.methodLink RX2 3 objectInit]
def wsX3_init_r2 : List Cond := [Cond.fieldLink RX2 9 "SegmentedCache$Queues" "sizes" "[I", Cond.fieldLink RX2 15 "SegmentedCache$Queues" "weights" "[I", Cond.fieldLink RX2 18 "SegmentedCache$Queues" "newer" "[I", Cond.fieldLink RX2 21 "SegmentedCache$Queues" "older" "[I", Cond.instanceMethod yX1_init, Cond.code yX1_init cX1_init 1 none, Cond.methodLink RX1 3 objectInit, Cond.fieldLink RX1 9 "SegmentedCache$Leavers" "ring" "[I", Cond.instanceMethod yX0_init, Cond.code yX0_init cX0_init 1 none, Cond.methodLink RX0 3 objectInit, Cond.fieldLink RX0 9 "SegmentedCache$Book" "keys" "[I", Cond.fieldLink RX0 15 "SegmentedCache$Book" "wheres" "[I"]
def wsX3_init : List Cond := .code yX3_init cX3_init 1 none :: ((wsX3_init_r1 ++ wsX3_init_r2) ++ wsX30 ++ wsX20 ++ wsX10 ++ wsX00)
def wsX3_copyFrom_r1 : List Cond := [Cond.fieldLink RX3 9 "SegmentedCache$Store" "settings" "[I", Cond.methodLink RX3 44 arraycopyName, Cond.native arraycopyName, Cond.static arraycopyName, Cond.initialized "java/lang/System", Cond.fieldLink RX3 15 "SegmentedCache$Store" "tallies" "[I", Cond.fieldLink RX3 21 "SegmentedCache$Store" "queues" "LSegmentedCache$Queues;", Cond.fieldLink RX3 27 "SegmentedCache$Store" "facts" "[[I", Cond.fieldLink RX3 33 "SegmentedCache$Store" "leavers" "LSegmentedCache$Leavers;", Cond.fieldLink RX3 40 "SegmentedCache$Store" "book" "LSegmentedCache$Book;", Cond.methodLink RX3 50 yX2_copyFrom, Cond.instanceMethod yX2_copyFrom, Cond.selects RX2 yX2_copyFrom yX2_copyFrom, Cond.initialized RX2, Cond.code yX2_copyFrom cX2_copyFrom 2 none, Cond.fieldLink RX2 9 "SegmentedCache$Queues" "sizes" "[I", Cond.methodLink RX2 24 arraycopyName, Cond.fieldLink RX2 15 "SegmentedCache$Queues" "weights" "[I", Cond.fieldLink RX2 18 "SegmentedCache$Queues" "newer" "[I", Cond.fieldLink RX2 21 "SegmentedCache$Queues" "older" "[I", Cond.methodLink RX3 54 yX1_copyFrom, Cond.instanceMethod yX1_copyFrom, Cond.selects RX1 yX1_copyFrom yX1_copyFrom, Cond.initialized RX1]
def wsX3_copyFrom_r2 : List Cond := [Cond.code yX1_copyFrom cX1_copyFrom 2 none, Cond.fieldLink RX1 9 "SegmentedCache$Leavers" "ring" "[I", Cond.methodLink RX1 15 arraycopyName, Cond.fieldLink RX1 21 "SegmentedCache$Leavers" "total" "I", Cond.methodLink RX3 57 yX0_copyFrom, Cond.instanceMethod yX0_copyFrom, Cond.selects RX0 yX0_copyFrom yX0_copyFrom, Cond.initialized RX0, Cond.code yX0_copyFrom cX0_copyFrom 2 none, Cond.fieldLink RX0 9 "SegmentedCache$Book" "keys" "[I", Cond.methodLink RX0 18 arraycopyName, Cond.fieldLink RX0 15 "SegmentedCache$Book" "wheres" "[I", Cond.fieldLink RX0 24 "SegmentedCache$Book" "size" "I"]
def wsX3_copyFrom : List Cond := .code yX3_copyFrom cX3_copyFrom 3 none :: ((wsX3_copyFrom_r1 ++ wsX3_copyFrom_r2) ++ wsX30 ++ wsX20 ++ wsX10 ++ wsX00)
def wsX3_isThing : List Cond := .code yX3_isThing cX3_isThing 3 (some .boolean) :: ([.fieldLink RX3 27 "SegmentedCache$Store" "facts" "[[I"] ++ wsX30)
def wsX3_thingCount : List Cond := .code yX3_thingCount cX3_thingCount 1 (some .int) :: ([.fieldLink RX3 21 "SegmentedCache$Store" "queues" "LSegmentedCache$Queues;", .fieldLink RX3 60 "SegmentedCache$Queues" "sizes" "[I"] ++ wsX30 ++ wsX20)
def wsX3_weightOfThings : List Cond := .code yX3_weightOfThings cX3_weightOfThings 1 (some .int) :: ([.fieldLink RX3 21 "SegmentedCache$Store" "queues" "LSegmentedCache$Queues;", .fieldLink RX3 63 "SegmentedCache$Queues" "weights" "[I"] ++ wsX30 ++ wsX20)
def wsX3_placeOf : List Cond := .code yX3_placeOf cX3_placeOf 3 (some .int) :: ([.fieldLink RX3 27 "SegmentedCache$Store" "facts" "[[I", .fieldLink RX3 21 "SegmentedCache$Store" "queues" "LSegmentedCache$Queues;", .methodLink RX3 66 yX2_placeOf, .instanceMethod yX2_placeOf, .selects RX2 yX2_placeOf yX2_placeOf, .initialized RX2, .code yX2_placeOf cX2_placeOf 5 (some .int), .fieldLink RX2 9 "SegmentedCache$Queues" "sizes" "[I", .fieldLink RX2 18 "SegmentedCache$Queues" "newer" "[I", .methodLink RX2 30 yX2_oldest, .instanceMethod yX2_oldest, .selects RX2 yX2_oldest yX2_oldest, .code yX2_oldest cX2_oldest 2 (some .int)] ++ wsX30 ++ wsX20)
def wsX3_move : List Cond := .code yX3_move cX3_move 4 none :: ([.fieldLink RX3 27 "SegmentedCache$Store" "facts" "[[I", .fieldLink RX3 21 "SegmentedCache$Store" "queues" "LSegmentedCache$Queues;", .methodLink RX3 70 yX2_remove, .instanceMethod yX2_remove, .selects RX2 yX2_remove yX2_remove, .initialized RX2, .code yX2_remove cX2_remove 4 none, .fieldLink RX2 18 "SegmentedCache$Queues" "newer" "[I", .fieldLink RX2 21 "SegmentedCache$Queues" "older" "[I", .fieldLink RX2 9 "SegmentedCache$Queues" "sizes" "[I", .fieldLink RX2 15 "SegmentedCache$Queues" "weights" "[I", .methodLink RX3 74 yX2_add, .instanceMethod yX2_add, .selects RX2 yX2_add yX2_add, .code yX2_add cX2_add 6 none] ++ wsX30 ++ wsX20)
def wsX3_hit_r1 : List Cond := [Cond.fieldLink RX3 27 "SegmentedCache$Store" "facts" "[[I", Cond.methodLink RX3 104 Lib.Math.min.name, Cond.static Lib.Math.min.name, Cond.initialized "java/lang/Math", Cond.code Lib.Math.min.name Lib.Math.min.code 2 (some .int), Cond.fieldLink RX3 9 "SegmentedCache$Store" "settings" "[I", Cond.methodLink RX3 95 yX3_move, Cond.instanceMethod yX3_move, Cond.selects RX3 yX3_move yX3_move, Cond.initialized RX3, Cond.code yX3_move cX3_move 4 none, Cond.fieldLink RX3 21 "SegmentedCache$Store" "queues" "LSegmentedCache$Queues;", Cond.methodLink RX3 70 yX2_remove, Cond.instanceMethod yX2_remove, Cond.selects RX2 yX2_remove yX2_remove, Cond.initialized RX2, Cond.code yX2_remove cX2_remove 4 none, Cond.fieldLink RX2 18 "SegmentedCache$Queues" "newer" "[I", Cond.fieldLink RX2 21 "SegmentedCache$Queues" "older" "[I", Cond.fieldLink RX2 9 "SegmentedCache$Queues" "sizes" "[I", Cond.fieldLink RX2 15 "SegmentedCache$Queues" "weights" "[I", Cond.methodLink RX3 74 yX2_add, Cond.instanceMethod yX2_add, Cond.selects RX2 yX2_add yX2_add]
def wsX3_hit_r2 : List Cond := [Cond.code yX2_add cX2_add 6 none]
def wsX3_hit : List Cond := .code yX3_hit cX3_hit 4 none :: ((wsX3_hit_r1 ++ wsX3_hit_r2) ++ wsX30 ++ wsX20)
def wsX3_replace_r1 : List Cond := [Cond.fieldLink RX3 21 "SegmentedCache$Store" "queues" "LSegmentedCache$Queues;", Cond.fieldLink RX3 63 "SegmentedCache$Queues" "weights" "[I", Cond.fieldLink RX3 27 "SegmentedCache$Store" "facts" "[[I", Cond.methodLink RX3 91 yX3_hit, Cond.instanceMethod yX3_hit, Cond.selects RX3 yX3_hit yX3_hit, Cond.initialized RX3, Cond.code yX3_hit cX3_hit 4 none, Cond.methodLink RX3 104 Lib.Math.min.name, Cond.static Lib.Math.min.name, Cond.initialized "java/lang/Math", Cond.code Lib.Math.min.name Lib.Math.min.code 2 (some .int), Cond.fieldLink RX3 9 "SegmentedCache$Store" "settings" "[I", Cond.methodLink RX3 95 yX3_move, Cond.instanceMethod yX3_move, Cond.selects RX3 yX3_move yX3_move, Cond.code yX3_move cX3_move 4 none, Cond.methodLink RX3 70 yX2_remove, Cond.instanceMethod yX2_remove, Cond.selects RX2 yX2_remove yX2_remove, Cond.initialized RX2, Cond.code yX2_remove cX2_remove 4 none, Cond.fieldLink RX2 18 "SegmentedCache$Queues" "newer" "[I", Cond.fieldLink RX2 21 "SegmentedCache$Queues" "older" "[I"]
def wsX3_replace_r2 : List Cond := [Cond.fieldLink RX2 9 "SegmentedCache$Queues" "sizes" "[I", Cond.fieldLink RX2 15 "SegmentedCache$Queues" "weights" "[I", Cond.methodLink RX3 74 yX2_add, Cond.instanceMethod yX2_add, Cond.selects RX2 yX2_add yX2_add, Cond.code yX2_add cX2_add 6 none]
def wsX3_replace : List Cond := .code yX3_replace cX3_replace 5 none :: ((wsX3_replace_r1 ++ wsX3_replace_r2) ++ wsX30 ++ wsX20)
def wsX3_admit_r1 : List Cond := [Cond.fieldLink RX3 27 "SegmentedCache$Store" "facts" "[[I", Cond.fieldLink RX3 9 "SegmentedCache$Store" "settings" "[I", Cond.methodLink RX3 99 Lib.Math.max.name, Cond.static Lib.Math.max.name, Cond.initialized "java/lang/Math", Cond.code Lib.Math.max.name Lib.Math.max.code 2 (some .int), Cond.methodLink RX3 104 Lib.Math.min.name, Cond.static Lib.Math.min.name, Cond.code Lib.Math.min.name Lib.Math.min.code 2 (some .int), Cond.fieldLink RX3 15 "SegmentedCache$Store" "tallies" "[I", Cond.methodLink RX3 95 yX3_move, Cond.instanceMethod yX3_move, Cond.selects RX3 yX3_move yX3_move, Cond.initialized RX3, Cond.code yX3_move cX3_move 4 none, Cond.fieldLink RX3 21 "SegmentedCache$Store" "queues" "LSegmentedCache$Queues;", Cond.methodLink RX3 70 yX2_remove, Cond.instanceMethod yX2_remove, Cond.selects RX2 yX2_remove yX2_remove, Cond.initialized RX2, Cond.code yX2_remove cX2_remove 4 none, Cond.fieldLink RX2 18 "SegmentedCache$Queues" "newer" "[I", Cond.fieldLink RX2 21 "SegmentedCache$Queues" "older" "[I", Cond.fieldLink RX2 9 "SegmentedCache$Queues" "sizes" "[I"]
def wsX3_admit_r2 : List Cond := [Cond.fieldLink RX2 15 "SegmentedCache$Queues" "weights" "[I", Cond.methodLink RX3 74 yX2_add, Cond.instanceMethod yX2_add, Cond.selects RX2 yX2_add yX2_add, Cond.code yX2_add cX2_add 6 none]
def wsX3_admit : List Cond := .code yX3_admit cX3_admit 6 none :: ((wsX3_admit_r1 ++ wsX3_admit_r2) ++ wsX30 ++ wsX20)
def wsX3_demote_r1 : List Cond := [Cond.constant RX3 116 (1000000), Cond.fieldLink RX3 21 "SegmentedCache$Store" "queues" "LSegmentedCache$Queues;", Cond.fieldLink RX3 63 "SegmentedCache$Queues" "weights" "[I", Cond.fieldLink RX3 9 "SegmentedCache$Store" "settings" "[I", Cond.fieldLink RX3 27 "SegmentedCache$Store" "facts" "[[I", Cond.methodLink RX3 117 yX2_oldestLoose, Cond.instanceMethod yX2_oldestLoose, Cond.selects RX2 yX2_oldestLoose yX2_oldestLoose, Cond.initialized RX2, Cond.code yX2_oldestLoose cX2_oldestLoose 5 (some .int), Cond.fieldLink RX2 9 "SegmentedCache$Queues" "sizes" "[I", Cond.fieldLink RX2 18 "SegmentedCache$Queues" "newer" "[I", Cond.methodLink RX2 30 yX2_oldest, Cond.instanceMethod yX2_oldest, Cond.selects RX2 yX2_oldest yX2_oldest, Cond.code yX2_oldest cX2_oldest 2 (some .int), Cond.methodLink RX3 95 yX3_move, Cond.instanceMethod yX3_move, Cond.selects RX3 yX3_move yX3_move, Cond.initialized RX3, Cond.code yX3_move cX3_move 4 none, Cond.methodLink RX3 70 yX2_remove, Cond.instanceMethod yX2_remove, Cond.selects RX2 yX2_remove yX2_remove]
def wsX3_demote_r2 : List Cond := [Cond.code yX2_remove cX2_remove 4 none, Cond.fieldLink RX2 21 "SegmentedCache$Queues" "older" "[I", Cond.fieldLink RX2 15 "SegmentedCache$Queues" "weights" "[I", Cond.methodLink RX3 74 yX2_add, Cond.instanceMethod yX2_add, Cond.selects RX2 yX2_add yX2_add, Cond.code yX2_add cX2_add 6 none]
def wsX3_demote : List Cond := .code yX3_demote cX3_demote 3 none :: ((wsX3_demote_r1 ++ wsX3_demote_r2) ++ wsX30 ++ wsX20)
def wsX3_makeRoom_r1 : List Cond := [Cond.constant RX3 116 (1000000), Cond.fieldLink RX3 9 "SegmentedCache$Store" "settings" "[I", Cond.fieldLink RX3 21 "SegmentedCache$Store" "queues" "LSegmentedCache$Queues;", Cond.fieldLink RX3 27 "SegmentedCache$Store" "facts" "[[I", Cond.fieldLink RX3 33 "SegmentedCache$Store" "leavers" "LSegmentedCache$Leavers;", Cond.methodLink RX3 121 yX3_weightOfThings, Cond.instanceMethod yX3_weightOfThings, Cond.selects RX3 yX3_weightOfThings yX3_weightOfThings, Cond.initialized RX3, Cond.code yX3_weightOfThings cX3_weightOfThings 1 (some .int), Cond.fieldLink RX3 63 "SegmentedCache$Queues" "weights" "[I", Cond.methodLink RX3 117 yX2_oldestLoose, Cond.instanceMethod yX2_oldestLoose, Cond.selects RX2 yX2_oldestLoose yX2_oldestLoose, Cond.initialized RX2, Cond.code yX2_oldestLoose cX2_oldestLoose 5 (some .int), Cond.fieldLink RX2 9 "SegmentedCache$Queues" "sizes" "[I", Cond.fieldLink RX2 18 "SegmentedCache$Queues" "newer" "[I", Cond.methodLink RX2 30 yX2_oldest, Cond.instanceMethod yX2_oldest, Cond.selects RX2 yX2_oldest yX2_oldest, Cond.code yX2_oldest cX2_oldest 2 (some .int), Cond.methodLink RX3 95 yX3_move, Cond.instanceMethod yX3_move]
def wsX3_makeRoom_r2 : List Cond := [Cond.selects RX3 yX3_move yX3_move, Cond.code yX3_move cX3_move 4 none, Cond.methodLink RX3 70 yX2_remove, Cond.instanceMethod yX2_remove, Cond.selects RX2 yX2_remove yX2_remove, Cond.code yX2_remove cX2_remove 4 none, Cond.fieldLink RX2 21 "SegmentedCache$Queues" "older" "[I", Cond.fieldLink RX2 15 "SegmentedCache$Queues" "weights" "[I", Cond.methodLink RX3 74 yX2_add, Cond.instanceMethod yX2_add, Cond.selects RX2 yX2_add yX2_add, Cond.code yX2_add cX2_add 6 none, Cond.methodLink RX3 125 yX1_add, Cond.instanceMethod yX1_add, Cond.selects RX1 yX1_add yX1_add, Cond.initialized RX1, Cond.code yX1_add cX1_add 2 none, Cond.fieldLink RX1 9 "SegmentedCache$Leavers" "ring" "[I", Cond.fieldLink RX1 21 "SegmentedCache$Leavers" "total" "I", Cond.methodLink RX1 25 yJ9_floorMod_7cf53, Cond.static yJ9_floorMod_7cf53, Cond.initialized RJ9, Cond.code yJ9_floorMod_7cf53 cJ9_floorMod_7cf53 3 (some .int)]
def wsX3_makeRoom : List Cond := .code yX3_makeRoom cX3_makeRoom 4 none :: ((wsX3_makeRoom_r1 ++ wsX3_makeRoom_r2) ++ wsX30 ++ wsX20 ++ wsX10)
def wsX3_forget_r1 : List Cond := [Cond.fieldLink RX3 21 "SegmentedCache$Store" "queues" "LSegmentedCache$Queues;", Cond.fieldLink RX3 60 "SegmentedCache$Queues" "sizes" "[I", Cond.fieldLink RX3 63 "SegmentedCache$Queues" "weights" "[I", Cond.fieldLink RX3 9 "SegmentedCache$Store" "settings" "[I", Cond.methodLink RX3 127 yX2_oldest, Cond.instanceMethod yX2_oldest, Cond.selects RX2 yX2_oldest yX2_oldest, Cond.initialized RX2, Cond.code yX2_oldest cX2_oldest 2 (some .int), Cond.fieldLink RX2 18 "SegmentedCache$Queues" "newer" "[I", Cond.methodLink RX3 95 yX3_move, Cond.instanceMethod yX3_move, Cond.selects RX3 yX3_move yX3_move, Cond.initialized RX3, Cond.code yX3_move cX3_move 4 none, Cond.fieldLink RX3 27 "SegmentedCache$Store" "facts" "[[I", Cond.methodLink RX3 70 yX2_remove, Cond.instanceMethod yX2_remove, Cond.selects RX2 yX2_remove yX2_remove, Cond.code yX2_remove cX2_remove 4 none, Cond.fieldLink RX2 21 "SegmentedCache$Queues" "older" "[I", Cond.fieldLink RX2 9 "SegmentedCache$Queues" "sizes" "[I", Cond.fieldLink RX2 15 "SegmentedCache$Queues" "weights" "[I", Cond.methodLink RX3 74 yX2_add]
def wsX3_forget_r2 : List Cond := [Cond.instanceMethod yX2_add, Cond.selects RX2 yX2_add yX2_add, Cond.code yX2_add cX2_add 6 none]
def wsX3_forget : List Cond := .code yX3_forget cX3_forget 4 none :: ((wsX3_forget_r1 ++ wsX3_forget_r2) ++ wsX30 ++ wsX20)
def wsX3_trim_r1 : List Cond := [Cond.methodLink RX3 107 yX3_demote, Cond.instanceMethod yX3_demote, Cond.selects RX3 yX3_demote yX3_demote, Cond.initialized RX3, Cond.code yX3_demote cX3_demote 3 none, Cond.constant RX3 116 (1000000), Cond.fieldLink RX3 21 "SegmentedCache$Store" "queues" "LSegmentedCache$Queues;", Cond.fieldLink RX3 63 "SegmentedCache$Queues" "weights" "[I", Cond.fieldLink RX3 9 "SegmentedCache$Store" "settings" "[I", Cond.fieldLink RX3 27 "SegmentedCache$Store" "facts" "[[I", Cond.methodLink RX3 117 yX2_oldestLoose, Cond.instanceMethod yX2_oldestLoose, Cond.selects RX2 yX2_oldestLoose yX2_oldestLoose, Cond.initialized RX2, Cond.code yX2_oldestLoose cX2_oldestLoose 5 (some .int), Cond.fieldLink RX2 9 "SegmentedCache$Queues" "sizes" "[I", Cond.fieldLink RX2 18 "SegmentedCache$Queues" "newer" "[I", Cond.methodLink RX2 30 yX2_oldest, Cond.instanceMethod yX2_oldest, Cond.selects RX2 yX2_oldest yX2_oldest, Cond.code yX2_oldest cX2_oldest 2 (some .int), Cond.methodLink RX3 95 yX3_move, Cond.instanceMethod yX3_move, Cond.selects RX3 yX3_move yX3_move]
def wsX3_trim_r2 : List Cond := [Cond.code yX3_move cX3_move 4 none, Cond.methodLink RX3 70 yX2_remove, Cond.instanceMethod yX2_remove, Cond.selects RX2 yX2_remove yX2_remove, Cond.code yX2_remove cX2_remove 4 none, Cond.fieldLink RX2 21 "SegmentedCache$Queues" "older" "[I", Cond.fieldLink RX2 15 "SegmentedCache$Queues" "weights" "[I", Cond.methodLink RX3 74 yX2_add, Cond.instanceMethod yX2_add, Cond.selects RX2 yX2_add yX2_add, Cond.code yX2_add cX2_add 6 none, Cond.methodLink RX3 110 yX3_makeRoom, Cond.instanceMethod yX3_makeRoom, Cond.selects RX3 yX3_makeRoom yX3_makeRoom, Cond.code yX3_makeRoom cX3_makeRoom 4 none, Cond.fieldLink RX3 33 "SegmentedCache$Store" "leavers" "LSegmentedCache$Leavers;", Cond.methodLink RX3 121 yX3_weightOfThings, Cond.instanceMethod yX3_weightOfThings, Cond.selects RX3 yX3_weightOfThings yX3_weightOfThings, Cond.code yX3_weightOfThings cX3_weightOfThings 1 (some .int), Cond.methodLink RX3 125 yX1_add, Cond.instanceMethod yX1_add, Cond.selects RX1 yX1_add yX1_add, Cond.initialized RX1]
def wsX3_trim_r3 : List Cond := [Cond.code yX1_add cX1_add 2 none, Cond.fieldLink RX1 9 "SegmentedCache$Leavers" "ring" "[I", Cond.fieldLink RX1 21 "SegmentedCache$Leavers" "total" "I", Cond.methodLink RX1 25 yJ9_floorMod_7cf53, Cond.static yJ9_floorMod_7cf53, Cond.initialized RJ9, Cond.code yJ9_floorMod_7cf53 cJ9_floorMod_7cf53 3 (some .int), Cond.methodLink RX3 113 yX3_forget, Cond.instanceMethod yX3_forget, Cond.selects RX3 yX3_forget yX3_forget, Cond.code yX3_forget cX3_forget 4 none, Cond.fieldLink RX3 60 "SegmentedCache$Queues" "sizes" "[I", Cond.methodLink RX3 127 yX2_oldest]
def wsX3_trim : List Cond := .code yX3_trim cX3_trim 1 none :: ((wsX3_trim_r1 ++ (wsX3_trim_r2 ++ wsX3_trim_r3)) ++ wsX30 ++ wsX20 ++ wsX10)
def wsX3_store_r1 : List Cond := [Cond.fieldLink RX3 27 "SegmentedCache$Store" "facts" "[[I", Cond.methodLink RX3 77 yX3_isThing, Cond.instanceMethod yX3_isThing, Cond.selects RX3 yX3_isThing yX3_isThing, Cond.initialized RX3, Cond.code yX3_isThing cX3_isThing 3 (some .boolean), Cond.methodLink RX3 81 yX3_replace, Cond.instanceMethod yX3_replace, Cond.selects RX3 yX3_replace yX3_replace, Cond.code yX3_replace cX3_replace 5 none, Cond.fieldLink RX3 21 "SegmentedCache$Store" "queues" "LSegmentedCache$Queues;", Cond.fieldLink RX3 63 "SegmentedCache$Queues" "weights" "[I", Cond.methodLink RX3 91 yX3_hit, Cond.instanceMethod yX3_hit, Cond.selects RX3 yX3_hit yX3_hit, Cond.code yX3_hit cX3_hit 4 none, Cond.methodLink RX3 104 Lib.Math.min.name, Cond.static Lib.Math.min.name, Cond.initialized "java/lang/Math", Cond.code Lib.Math.min.name Lib.Math.min.code 2 (some .int), Cond.fieldLink RX3 9 "SegmentedCache$Store" "settings" "[I", Cond.methodLink RX3 95 yX3_move, Cond.instanceMethod yX3_move, Cond.selects RX3 yX3_move yX3_move]
def wsX3_store_r2 : List Cond := [Cond.code yX3_move cX3_move 4 none, Cond.methodLink RX3 70 yX2_remove, Cond.instanceMethod yX2_remove, Cond.selects RX2 yX2_remove yX2_remove, Cond.initialized RX2, Cond.code yX2_remove cX2_remove 4 none, Cond.fieldLink RX2 18 "SegmentedCache$Queues" "newer" "[I", Cond.fieldLink RX2 21 "SegmentedCache$Queues" "older" "[I", Cond.fieldLink RX2 9 "SegmentedCache$Queues" "sizes" "[I", Cond.fieldLink RX2 15 "SegmentedCache$Queues" "weights" "[I", Cond.methodLink RX3 74 yX2_add, Cond.instanceMethod yX2_add, Cond.selects RX2 yX2_add yX2_add, Cond.code yX2_add cX2_add 6 none, Cond.methodLink RX3 85 yX3_admit, Cond.instanceMethod yX3_admit, Cond.selects RX3 yX3_admit yX3_admit, Cond.code yX3_admit cX3_admit 6 none, Cond.methodLink RX3 99 Lib.Math.max.name, Cond.static Lib.Math.max.name, Cond.code Lib.Math.max.name Lib.Math.max.code 2 (some .int), Cond.fieldLink RX3 15 "SegmentedCache$Store" "tallies" "[I", Cond.methodLink RX3 88 yX3_trim, Cond.instanceMethod yX3_trim]
def wsX3_store_r3 : List Cond := [Cond.selects RX3 yX3_trim yX3_trim, Cond.code yX3_trim cX3_trim 1 none, Cond.methodLink RX3 107 yX3_demote, Cond.instanceMethod yX3_demote, Cond.selects RX3 yX3_demote yX3_demote, Cond.code yX3_demote cX3_demote 3 none, Cond.constant RX3 116 (1000000), Cond.methodLink RX3 117 yX2_oldestLoose, Cond.instanceMethod yX2_oldestLoose, Cond.selects RX2 yX2_oldestLoose yX2_oldestLoose, Cond.code yX2_oldestLoose cX2_oldestLoose 5 (some .int), Cond.methodLink RX2 30 yX2_oldest, Cond.instanceMethod yX2_oldest, Cond.selects RX2 yX2_oldest yX2_oldest, Cond.code yX2_oldest cX2_oldest 2 (some .int), Cond.methodLink RX3 110 yX3_makeRoom, Cond.instanceMethod yX3_makeRoom, Cond.selects RX3 yX3_makeRoom yX3_makeRoom, Cond.code yX3_makeRoom cX3_makeRoom 4 none, Cond.fieldLink RX3 33 "SegmentedCache$Store" "leavers" "LSegmentedCache$Leavers;", Cond.methodLink RX3 121 yX3_weightOfThings, Cond.instanceMethod yX3_weightOfThings, Cond.selects RX3 yX3_weightOfThings yX3_weightOfThings, Cond.code yX3_weightOfThings cX3_weightOfThings 1 (some .int)]
def wsX3_store_r4 : List Cond := [Cond.methodLink RX3 125 yX1_add, Cond.instanceMethod yX1_add, Cond.selects RX1 yX1_add yX1_add, Cond.initialized RX1, Cond.code yX1_add cX1_add 2 none, Cond.fieldLink RX1 9 "SegmentedCache$Leavers" "ring" "[I", Cond.fieldLink RX1 21 "SegmentedCache$Leavers" "total" "I", Cond.methodLink RX1 25 yJ9_floorMod_7cf53, Cond.static yJ9_floorMod_7cf53, Cond.initialized RJ9, Cond.code yJ9_floorMod_7cf53 cJ9_floorMod_7cf53 3 (some .int), Cond.methodLink RX3 113 yX3_forget, Cond.instanceMethod yX3_forget, Cond.selects RX3 yX3_forget yX3_forget, Cond.code yX3_forget cX3_forget 4 none, Cond.fieldLink RX3 60 "SegmentedCache$Queues" "sizes" "[I", Cond.methodLink RX3 127 yX2_oldest]
def wsX3_store : List Cond := .code yX3_store cX3_store 6 (some .int) :: ((wsX3_store_r1 ++ (wsX3_store_r2 ++ (wsX3_store_r3 ++ wsX3_store_r4))) ++ wsX30 ++ wsX20 ++ wsX10)
def wsX3_fetch_r1 : List Cond := [Cond.fieldLink RX3 15 "SegmentedCache$Store" "tallies" "[I", Cond.fieldLink RX3 27 "SegmentedCache$Store" "facts" "[[I", Cond.methodLink RX3 77 yX3_isThing, Cond.instanceMethod yX3_isThing, Cond.selects RX3 yX3_isThing yX3_isThing, Cond.initialized RX3, Cond.code yX3_isThing cX3_isThing 3 (some .boolean), Cond.methodLink RX3 91 yX3_hit, Cond.instanceMethod yX3_hit, Cond.selects RX3 yX3_hit yX3_hit, Cond.code yX3_hit cX3_hit 4 none, Cond.methodLink RX3 104 Lib.Math.min.name, Cond.static Lib.Math.min.name, Cond.initialized "java/lang/Math", Cond.code Lib.Math.min.name Lib.Math.min.code 2 (some .int), Cond.fieldLink RX3 9 "SegmentedCache$Store" "settings" "[I", Cond.methodLink RX3 95 yX3_move, Cond.instanceMethod yX3_move, Cond.selects RX3 yX3_move yX3_move, Cond.code yX3_move cX3_move 4 none, Cond.fieldLink RX3 21 "SegmentedCache$Store" "queues" "LSegmentedCache$Queues;", Cond.methodLink RX3 70 yX2_remove, Cond.instanceMethod yX2_remove, Cond.selects RX2 yX2_remove yX2_remove]
def wsX3_fetch_r2 : List Cond := [Cond.initialized RX2, Cond.code yX2_remove cX2_remove 4 none, Cond.fieldLink RX2 18 "SegmentedCache$Queues" "newer" "[I", Cond.fieldLink RX2 21 "SegmentedCache$Queues" "older" "[I", Cond.fieldLink RX2 9 "SegmentedCache$Queues" "sizes" "[I", Cond.fieldLink RX2 15 "SegmentedCache$Queues" "weights" "[I", Cond.methodLink RX3 74 yX2_add, Cond.instanceMethod yX2_add, Cond.selects RX2 yX2_add yX2_add, Cond.code yX2_add cX2_add 6 none, Cond.methodLink RX3 88 yX3_trim, Cond.instanceMethod yX3_trim, Cond.selects RX3 yX3_trim yX3_trim, Cond.code yX3_trim cX3_trim 1 none, Cond.methodLink RX3 107 yX3_demote, Cond.instanceMethod yX3_demote, Cond.selects RX3 yX3_demote yX3_demote, Cond.code yX3_demote cX3_demote 3 none, Cond.constant RX3 116 (1000000), Cond.fieldLink RX3 63 "SegmentedCache$Queues" "weights" "[I", Cond.methodLink RX3 117 yX2_oldestLoose, Cond.instanceMethod yX2_oldestLoose, Cond.selects RX2 yX2_oldestLoose yX2_oldestLoose, Cond.code yX2_oldestLoose cX2_oldestLoose 5 (some .int)]
def wsX3_fetch_r3 : List Cond := [Cond.methodLink RX2 30 yX2_oldest, Cond.instanceMethod yX2_oldest, Cond.selects RX2 yX2_oldest yX2_oldest, Cond.code yX2_oldest cX2_oldest 2 (some .int), Cond.methodLink RX3 110 yX3_makeRoom, Cond.instanceMethod yX3_makeRoom, Cond.selects RX3 yX3_makeRoom yX3_makeRoom, Cond.code yX3_makeRoom cX3_makeRoom 4 none, Cond.fieldLink RX3 33 "SegmentedCache$Store" "leavers" "LSegmentedCache$Leavers;", Cond.methodLink RX3 121 yX3_weightOfThings, Cond.instanceMethod yX3_weightOfThings, Cond.selects RX3 yX3_weightOfThings yX3_weightOfThings, Cond.code yX3_weightOfThings cX3_weightOfThings 1 (some .int), Cond.methodLink RX3 125 yX1_add, Cond.instanceMethod yX1_add, Cond.selects RX1 yX1_add yX1_add, Cond.initialized RX1, Cond.code yX1_add cX1_add 2 none, Cond.fieldLink RX1 9 "SegmentedCache$Leavers" "ring" "[I", Cond.fieldLink RX1 21 "SegmentedCache$Leavers" "total" "I", Cond.methodLink RX1 25 yJ9_floorMod_7cf53, Cond.static yJ9_floorMod_7cf53, Cond.initialized RJ9, Cond.code yJ9_floorMod_7cf53 cJ9_floorMod_7cf53 3 (some .int)]
def wsX3_fetch_r4 : List Cond := [Cond.methodLink RX3 113 yX3_forget, Cond.instanceMethod yX3_forget, Cond.selects RX3 yX3_forget yX3_forget, Cond.code yX3_forget cX3_forget 4 none, Cond.fieldLink RX3 60 "SegmentedCache$Queues" "sizes" "[I", Cond.methodLink RX3 127 yX2_oldest]
def wsX3_fetch : List Cond := .code yX3_fetch cX3_fetch 2 (some .boolean) :: ((wsX3_fetch_r1 ++ (wsX3_fetch_r2 ++ (wsX3_fetch_r3 ++ wsX3_fetch_r4))) ++ wsX30 ++ wsX20 ++ wsX10)
def wsX3_perform_r1 : List Cond := [Cond.fieldLink RX3 15 "SegmentedCache$Store" "tallies" "[I", Cond.fieldLink RX3 131 "SegmentedCache$Trace" "size" "I", Cond.fieldLink RX3 137 "SegmentedCache$Trace" "keys" "[I", Cond.fieldLink RX3 140 "SegmentedCache$Trace" "kinds" "[I", Cond.fieldLink RX3 146 "SegmentedCache$Trace" "weights" "[I", Cond.fieldLink RX3 9 "SegmentedCache$Store" "settings" "[I", Cond.methodLink RX3 143 yX3_fetch, Cond.instanceMethod yX3_fetch, Cond.selects RX3 yX3_fetch yX3_fetch, Cond.initialized RX3, Cond.code yX3_fetch cX3_fetch 2 (some .boolean), Cond.fieldLink RX3 27 "SegmentedCache$Store" "facts" "[[I", Cond.methodLink RX3 77 yX3_isThing, Cond.instanceMethod yX3_isThing, Cond.selects RX3 yX3_isThing yX3_isThing, Cond.code yX3_isThing cX3_isThing 3 (some .boolean), Cond.methodLink RX3 91 yX3_hit, Cond.instanceMethod yX3_hit, Cond.selects RX3 yX3_hit yX3_hit, Cond.code yX3_hit cX3_hit 4 none, Cond.methodLink RX3 104 Lib.Math.min.name, Cond.static Lib.Math.min.name, Cond.initialized "java/lang/Math", Cond.code Lib.Math.min.name Lib.Math.min.code 2 (some .int)]
def wsX3_perform_r2 : List Cond := [Cond.methodLink RX3 95 yX3_move, Cond.instanceMethod yX3_move, Cond.selects RX3 yX3_move yX3_move, Cond.code yX3_move cX3_move 4 none, Cond.fieldLink RX3 21 "SegmentedCache$Store" "queues" "LSegmentedCache$Queues;", Cond.methodLink RX3 70 yX2_remove, Cond.instanceMethod yX2_remove, Cond.selects RX2 yX2_remove yX2_remove, Cond.initialized RX2, Cond.code yX2_remove cX2_remove 4 none, Cond.fieldLink RX2 18 "SegmentedCache$Queues" "newer" "[I", Cond.fieldLink RX2 21 "SegmentedCache$Queues" "older" "[I", Cond.fieldLink RX2 9 "SegmentedCache$Queues" "sizes" "[I", Cond.fieldLink RX2 15 "SegmentedCache$Queues" "weights" "[I", Cond.methodLink RX3 74 yX2_add, Cond.instanceMethod yX2_add, Cond.selects RX2 yX2_add yX2_add, Cond.code yX2_add cX2_add 6 none, Cond.methodLink RX3 88 yX3_trim, Cond.instanceMethod yX3_trim, Cond.selects RX3 yX3_trim yX3_trim, Cond.code yX3_trim cX3_trim 1 none, Cond.methodLink RX3 107 yX3_demote, Cond.instanceMethod yX3_demote]
def wsX3_perform_r3 : List Cond := [Cond.selects RX3 yX3_demote yX3_demote, Cond.code yX3_demote cX3_demote 3 none, Cond.constant RX3 116 (1000000), Cond.fieldLink RX3 63 "SegmentedCache$Queues" "weights" "[I", Cond.methodLink RX3 117 yX2_oldestLoose, Cond.instanceMethod yX2_oldestLoose, Cond.selects RX2 yX2_oldestLoose yX2_oldestLoose, Cond.code yX2_oldestLoose cX2_oldestLoose 5 (some .int), Cond.methodLink RX2 30 yX2_oldest, Cond.instanceMethod yX2_oldest, Cond.selects RX2 yX2_oldest yX2_oldest, Cond.code yX2_oldest cX2_oldest 2 (some .int), Cond.methodLink RX3 110 yX3_makeRoom, Cond.instanceMethod yX3_makeRoom, Cond.selects RX3 yX3_makeRoom yX3_makeRoom, Cond.code yX3_makeRoom cX3_makeRoom 4 none, Cond.fieldLink RX3 33 "SegmentedCache$Store" "leavers" "LSegmentedCache$Leavers;", Cond.methodLink RX3 121 yX3_weightOfThings, Cond.instanceMethod yX3_weightOfThings, Cond.selects RX3 yX3_weightOfThings yX3_weightOfThings, Cond.code yX3_weightOfThings cX3_weightOfThings 1 (some .int), Cond.methodLink RX3 125 yX1_add, Cond.instanceMethod yX1_add, Cond.selects RX1 yX1_add yX1_add]
def wsX3_perform_r4 : List Cond := [Cond.initialized RX1, Cond.code yX1_add cX1_add 2 none, Cond.fieldLink RX1 9 "SegmentedCache$Leavers" "ring" "[I", Cond.fieldLink RX1 21 "SegmentedCache$Leavers" "total" "I", Cond.methodLink RX1 25 yJ9_floorMod_7cf53, Cond.static yJ9_floorMod_7cf53, Cond.initialized RJ9, Cond.code yJ9_floorMod_7cf53 cJ9_floorMod_7cf53 3 (some .int), Cond.methodLink RX3 113 yX3_forget, Cond.instanceMethod yX3_forget, Cond.selects RX3 yX3_forget yX3_forget, Cond.code yX3_forget cX3_forget 4 none, Cond.fieldLink RX3 60 "SegmentedCache$Queues" "sizes" "[I", Cond.methodLink RX3 127 yX2_oldest, Cond.methodLink RX3 147 yX3_store, Cond.instanceMethod yX3_store, Cond.selects RX3 yX3_store yX3_store, Cond.code yX3_store cX3_store 6 (some .int), Cond.methodLink RX3 81 yX3_replace, Cond.instanceMethod yX3_replace, Cond.selects RX3 yX3_replace yX3_replace, Cond.code yX3_replace cX3_replace 5 none, Cond.methodLink RX3 85 yX3_admit, Cond.instanceMethod yX3_admit]
def wsX3_perform_r5 : List Cond := [Cond.selects RX3 yX3_admit yX3_admit, Cond.code yX3_admit cX3_admit 6 none, Cond.methodLink RX3 99 Lib.Math.max.name, Cond.static Lib.Math.max.name, Cond.code Lib.Math.max.name Lib.Math.max.code 2 (some .int)]
def wsX3_perform : List Cond := .code yX3_perform cX3_perform 5 (some .int) :: ((wsX3_perform_r1 ++ (wsX3_perform_r2 ++ (wsX3_perform_r3 ++ (wsX3_perform_r4 ++ wsX3_perform_r5)))) ++ wsX30 ++ wsX60 ++ wsX20 ++ wsX10)
def wsX4_init : List Cond := .code yX4_init cX4_init 1 none :: ([.methodLink RX4 3 objectInit, .instanceMethod objectInit, .code objectInit ⟨#[0xb1]⟩ 1 none, .arrayClass .long, .fieldLink RX4 9 "SegmentedCache$Tape" "items" "[J", .fieldLink RX4 15 "SegmentedCache$Tape" "sort" "I"] ++ wsX40)
def wsX4_become : List Cond := .code yX4_become cX4_become 4 none :: ([.fieldLink RX4 9 "SegmentedCache$Tape" "items" "[J", .fieldLink RX4 15 "SegmentedCache$Tape" "sort" "I", .fieldLink RX4 19 "SegmentedCache$Tape" "length" "I"] ++ wsX40)
def wsX4_asItem : List Cond := .code yX4_asItem cX4_asItem 3 (some .long) :: ([.fieldLink RX4 15 "SegmentedCache$Tape" "sort" "I"] ++ wsX40)
def wsX4_hasRange : List Cond := .code yX4_hasRange cX4_hasRange 3 (some .boolean) :: ([.fieldLink RX4 19 "SegmentedCache$Tape" "length" "I"] ++ wsX40)
def wsX5_init : List Cond := .code yX5_init cX5_init 1 none :: ([.methodLink RX5 3 objectInit, .instanceMethod objectInit, .code objectInit ⟨#[0xb1]⟩ 1 none, .arrayClass .int, .fieldLink RX5 9 "SegmentedCache$Text" "signs" "[I"] ++ wsX50)
def wsX5_next : List Cond := .code yX5_next cX5_next 1 (some .int) :: ([.fieldLink RX5 15 "SegmentedCache$Text" "at" "I", .fieldLink RX5 28 "SegmentedCache$Text" "length" "I", .fieldLink RX5 9 "SegmentedCache$Text" "signs" "[I"] ++ wsX50)
def wsX5_skip : List Cond := .code yX5_skip cX5_skip 4 (some .boolean) :: ([.fieldLink RX5 15 "SegmentedCache$Text" "at" "I", .methodLink RX5 35 yX5_next, .instanceMethod yX5_next, .selects RX5 yX5_next yX5_next, .initialized RX5, .code yX5_next cX5_next 1 (some .int), .fieldLink RX5 28 "SegmentedCache$Text" "length" "I", .fieldLink RX5 9 "SegmentedCache$Text" "signs" "[I"] ++ wsX50)
def wsX5_readWeight : List Cond := .code yX5_readWeight cX5_readWeight 3 (some .boolean) :: ([.fieldLink RX5 48 "SegmentedCache$Trace" "weights" "[I", .methodLink RX5 31 yX5_skip, .instanceMethod yX5_skip, .selects RX5 yX5_skip yX5_skip, .initialized RX5, .code yX5_skip cX5_skip 4 (some .boolean), .fieldLink RX5 15 "SegmentedCache$Text" "at" "I", .methodLink RX5 35 yX5_next, .instanceMethod yX5_next, .selects RX5 yX5_next yX5_next, .code yX5_next cX5_next 1 (some .int), .fieldLink RX5 28 "SegmentedCache$Text" "length" "I", .fieldLink RX5 9 "SegmentedCache$Text" "signs" "[I"] ++ wsX60 ++ wsX50)
def wsX5_readClause : List Cond := .code yX5_readClause cX5_readClause 7 (some .boolean) :: ([.fieldLink RX5 15 "SegmentedCache$Text" "at" "I", .fieldLink RX5 39 "SegmentedCache$Trace" "kinds" "[I", .fieldLink RX5 42 "SegmentedCache$Trace" "keys" "[I", .methodLink RX5 35 yX5_next, .instanceMethod yX5_next, .selects RX5 yX5_next yX5_next, .initialized RX5, .code yX5_next cX5_next 1 (some .int), .fieldLink RX5 28 "SegmentedCache$Text" "length" "I", .fieldLink RX5 9 "SegmentedCache$Text" "signs" "[I", .methodLink RX5 31 yX5_skip, .instanceMethod yX5_skip, .selects RX5 yX5_skip yX5_skip, .code yX5_skip cX5_skip 4 (some .boolean), .methodLink RX5 45 yX5_readWeight, .instanceMethod yX5_readWeight, .selects RX5 yX5_readWeight yX5_readWeight, .code yX5_readWeight cX5_readWeight 3 (some .boolean), .fieldLink RX5 48 "SegmentedCache$Trace" "weights" "[I"] ++ wsX50 ++ wsX60)
def wsX5_readInto : List Cond := .code yX5_readInto cX5_readInto 3 (some .int) :: ([.fieldLink RX5 15 "SegmentedCache$Text" "at" "I", .fieldLink RX5 23 "SegmentedCache$Trace" "size" "I", .fieldLink RX5 28 "SegmentedCache$Text" "length" "I", .methodLink RX5 19 yX5_readClause, .instanceMethod yX5_readClause, .selects RX5 yX5_readClause yX5_readClause, .initialized RX5, .code yX5_readClause cX5_readClause 7 (some .boolean), .fieldLink RX5 39 "SegmentedCache$Trace" "kinds" "[I", .fieldLink RX5 42 "SegmentedCache$Trace" "keys" "[I", .methodLink RX5 35 yX5_next, .instanceMethod yX5_next, .selects RX5 yX5_next yX5_next, .code yX5_next cX5_next 1 (some .int), .fieldLink RX5 9 "SegmentedCache$Text" "signs" "[I", .methodLink RX5 31 yX5_skip, .instanceMethod yX5_skip, .selects RX5 yX5_skip yX5_skip, .code yX5_skip cX5_skip 4 (some .boolean), .methodLink RX5 45 yX5_readWeight, .instanceMethod yX5_readWeight, .selects RX5 yX5_readWeight yX5_readWeight, .code yX5_readWeight cX5_readWeight 3 (some .boolean), .fieldLink RX5 48 "SegmentedCache$Trace" "weights" "[I"] ++ wsX50 ++ wsX60)
def wsX6_init : List Cond := .code yX6_init cX6_init 1 none :: ([.methodLink RX6 3 objectInit, .instanceMethod objectInit, .code objectInit ⟨#[0xb1]⟩ 1 none, .arrayClass .int, .fieldLink RX6 9 "SegmentedCache$Trace" "kinds" "[I", .fieldLink RX6 15 "SegmentedCache$Trace" "keys" "[I", .fieldLink RX6 18 "SegmentedCache$Trace" "weights" "[I"] ++ wsX60)
def wsX7_init_r1 : List Cond := [Cond.methodLink RX7 5 objectInit, Cond.instanceMethod objectInit, Cond.code objectInit ⟨#[0xb1]⟩ 1 none, Cond.classLink RX7 11 RX3, Cond.instantiable RX3 6, Cond.initialized RX3, Cond.fieldLink RX7 14 "SegmentedCache" "live" "LSegmentedCache$Store;", Cond.fieldLink RX7 18 "SegmentedCache" "trial" "LSegmentedCache$Store;", Cond.classLink RX7 21 RX5, Cond.instantiable RX5 3, Cond.initialized RX5, Cond.fieldLink RX7 24 "SegmentedCache" "text" "LSegmentedCache$Text;", Cond.classLink RX7 28 RX6, Cond.fieldLink RX7 30 "SegmentedCache" "traces" "[LSegmentedCache$Trace;", Cond.classLink RX7 34 RX4, Cond.fieldLink RX7 36 "SegmentedCache" "tapes" "[LSegmentedCache$Tape;", Cond.instantiable RX6 4, Cond.initialized RX6, Cond.instantiable RX4 3, Cond.initialized RX4, Cond.methodLink RX7 13 yX3_init, Cond.instanceMethod yX3_init, Cond.code yX3_init cX3_init 1 none, Cond.methodLink RX3 3 objectInit]
def wsX7_init_r2 : List Cond := [Cond.arrayClass .int, Cond.fieldLink RX3 9 "SegmentedCache$Store" "settings" "[I", Cond.fieldLink RX3 15 "SegmentedCache$Store" "tallies" "[I", Cond.classLink RX3 18 RX2, Cond.instantiable RX2 4, Cond.initialized RX2, Cond.fieldLink RX3 21 "SegmentedCache$Store" "queues" "LSegmentedCache$Queues;", Cond.classLink RX3 25 "[[I", Cond.fieldLink RX3 27 "SegmentedCache$Store" "facts" "[[I", Cond.classLink RX3 30 RX1, Cond.instantiable RX1 2, Cond.initialized RX1, Cond.fieldLink RX3 33 "SegmentedCache$Store" "leavers" "LSegmentedCache$Leavers;", Cond.classLink RX3 37 RX0, Cond.instantiable RX0 3, Cond.initialized RX0, Cond.fieldLink RX3 40 "SegmentedCache$Store" "book" "LSegmentedCache$Book;", Cond.methodLink RX3 20 yX2_init, Cond.instanceMethod yX2_init, Cond.code yX2_init cX2_init 2 none, Cond.methodLink RX2 3 objectInit, Cond.fieldLink RX2 9 "SegmentedCache$Queues" "sizes" "[I", Cond.fieldLink RX2 15 "SegmentedCache$Queues" "weights" "[I", Cond.fieldLink RX2 18 "SegmentedCache$Queues" "newer" "[I"]
def wsX7_init_r3 : List Cond := [Cond.fieldLink RX2 21 "SegmentedCache$Queues" "older" "[I", Cond.instanceMethod yX1_init, Cond.code yX1_init cX1_init 1 none, Cond.methodLink RX1 3 objectInit, Cond.fieldLink RX1 9 "SegmentedCache$Leavers" "ring" "[I", Cond.instanceMethod yX0_init, Cond.code yX0_init cX0_init 1 none, Cond.methodLink RX0 3 objectInit, Cond.fieldLink RX0 9 "SegmentedCache$Book" "keys" "[I", Cond.fieldLink RX0 15 "SegmentedCache$Book" "wheres" "[I", Cond.instanceMethod yX5_init, Cond.code yX5_init cX5_init 1 none, Cond.methodLink RX5 3 objectInit, Cond.fieldLink RX5 9 "SegmentedCache$Text" "signs" "[I", Cond.instanceMethod yX6_init, Cond.code yX6_init cX6_init 1 none, Cond.methodLink RX6 3 objectInit, Cond.fieldLink RX6 9 "SegmentedCache$Trace" "kinds" "[I", Cond.fieldLink RX6 15 "SegmentedCache$Trace" "keys" "[I", Cond.fieldLink RX6 18 "SegmentedCache$Trace" "weights" "[I", Cond.instanceMethod yX4_init, Cond.code yX4_init cX4_init 1 none, Cond.methodLink RX4 3 objectInit, Cond.arrayClass .long]
def wsX7_init_r4 : List Cond := [Cond.fieldLink RX4 9 "SegmentedCache$Tape" "items" "[J", Cond.fieldLink RX4 15 "SegmentedCache$Tape" "sort" "I"]
def wsX7_init : List Cond := .code yX7_init cX7_init 2 none :: ((wsX7_init_r1 ++ (wsX7_init_r2 ++ (wsX7_init_r3 ++ wsX7_init_r4))) ++ wsX30 ++ wsX70 ++ wsX50 ++ wsX60 ++ wsX40 ++ wsX20 ++ wsX10 ++ wsX00)
def wsX7_leastOf : List Cond := .code yX7_leastOf cX7_leastOf 1 (some .int) :: ([])
def wsX7_mostOf : List Cond := .code yX7_mostOf cX7_mostOf 2 (some .int) :: ([.fieldLink RX7 14 "SegmentedCache" "live" "LSegmentedCache$Store;", .fieldLink RX7 49 "SegmentedCache$Store" "settings" "[I"] ++ wsX70 ++ wsX30)
def wsX7_set_r1 : List Cond := [Cond.fieldLink RX7 14 "SegmentedCache" "live" "LSegmentedCache$Store;", Cond.fieldLink RX7 49 "SegmentedCache$Store" "settings" "[I", Cond.methodLink RX7 53 Lib.Math.min.name, Cond.static Lib.Math.min.name, Cond.initialized "java/lang/Math", Cond.code Lib.Math.min.name Lib.Math.min.code 2 (some .int), Cond.methodLink RX7 42 yX7_leastOf, Cond.static yX7_leastOf, Cond.initialized RX7, Cond.code yX7_leastOf cX7_leastOf 1 (some .int), Cond.methodLink RX7 46 yX7_mostOf, Cond.instanceMethod yX7_mostOf, Cond.selects RX7 yX7_mostOf yX7_mostOf, Cond.code yX7_mostOf cX7_mostOf 2 (some .int), Cond.methodLink RX7 59 yX3_trim, Cond.instanceMethod yX3_trim, Cond.selects RX3 yX3_trim yX3_trim, Cond.initialized RX3, Cond.code yX3_trim cX3_trim 1 none, Cond.methodLink RX3 107 yX3_demote, Cond.instanceMethod yX3_demote, Cond.selects RX3 yX3_demote yX3_demote, Cond.code yX3_demote cX3_demote 3 none, Cond.constant RX3 116 (1000000)]
def wsX7_set_r2 : List Cond := [Cond.fieldLink RX3 21 "SegmentedCache$Store" "queues" "LSegmentedCache$Queues;", Cond.fieldLink RX3 63 "SegmentedCache$Queues" "weights" "[I", Cond.fieldLink RX3 9 "SegmentedCache$Store" "settings" "[I", Cond.fieldLink RX3 27 "SegmentedCache$Store" "facts" "[[I", Cond.methodLink RX3 117 yX2_oldestLoose, Cond.instanceMethod yX2_oldestLoose, Cond.selects RX2 yX2_oldestLoose yX2_oldestLoose, Cond.initialized RX2, Cond.code yX2_oldestLoose cX2_oldestLoose 5 (some .int), Cond.fieldLink RX2 9 "SegmentedCache$Queues" "sizes" "[I", Cond.fieldLink RX2 18 "SegmentedCache$Queues" "newer" "[I", Cond.methodLink RX2 30 yX2_oldest, Cond.instanceMethod yX2_oldest, Cond.selects RX2 yX2_oldest yX2_oldest, Cond.code yX2_oldest cX2_oldest 2 (some .int), Cond.methodLink RX3 95 yX3_move, Cond.instanceMethod yX3_move, Cond.selects RX3 yX3_move yX3_move, Cond.code yX3_move cX3_move 4 none, Cond.methodLink RX3 70 yX2_remove, Cond.instanceMethod yX2_remove, Cond.selects RX2 yX2_remove yX2_remove, Cond.code yX2_remove cX2_remove 4 none, Cond.fieldLink RX2 21 "SegmentedCache$Queues" "older" "[I"]
def wsX7_set_r3 : List Cond := [Cond.fieldLink RX2 15 "SegmentedCache$Queues" "weights" "[I", Cond.methodLink RX3 74 yX2_add, Cond.instanceMethod yX2_add, Cond.selects RX2 yX2_add yX2_add, Cond.code yX2_add cX2_add 6 none, Cond.methodLink RX3 110 yX3_makeRoom, Cond.instanceMethod yX3_makeRoom, Cond.selects RX3 yX3_makeRoom yX3_makeRoom, Cond.code yX3_makeRoom cX3_makeRoom 4 none, Cond.fieldLink RX3 33 "SegmentedCache$Store" "leavers" "LSegmentedCache$Leavers;", Cond.methodLink RX3 121 yX3_weightOfThings, Cond.instanceMethod yX3_weightOfThings, Cond.selects RX3 yX3_weightOfThings yX3_weightOfThings, Cond.code yX3_weightOfThings cX3_weightOfThings 1 (some .int), Cond.methodLink RX3 125 yX1_add, Cond.instanceMethod yX1_add, Cond.selects RX1 yX1_add yX1_add, Cond.initialized RX1, Cond.code yX1_add cX1_add 2 none, Cond.fieldLink RX1 9 "SegmentedCache$Leavers" "ring" "[I", Cond.fieldLink RX1 21 "SegmentedCache$Leavers" "total" "I", Cond.methodLink RX1 25 yJ9_floorMod_7cf53, Cond.static yJ9_floorMod_7cf53, Cond.initialized RJ9]
def wsX7_set_r4 : List Cond := [Cond.code yJ9_floorMod_7cf53 cJ9_floorMod_7cf53 3 (some .int), Cond.methodLink RX3 113 yX3_forget, Cond.instanceMethod yX3_forget, Cond.selects RX3 yX3_forget yX3_forget, Cond.code yX3_forget cX3_forget 4 none, Cond.fieldLink RX3 60 "SegmentedCache$Queues" "sizes" "[I", Cond.methodLink RX3 127 yX2_oldest]
def wsX7_set : List Cond := .code yX7_set cX7_set 4 (some .int) :: ((wsX7_set_r1 ++ (wsX7_set_r2 ++ (wsX7_set_r3 ++ wsX7_set_r4))) ++ wsX70 ++ wsX30 ++ wsX20 ++ wsX10)
def wsX7_told : List Cond := .code yX7_told cX7_told 2 (some .int) :: ([.fieldLink RX7 14 "SegmentedCache" "live" "LSegmentedCache$Store;", .fieldLink RX7 49 "SegmentedCache$Store" "settings" "[I", .fieldLink RX7 62 "SegmentedCache$Store" "queues" "LSegmentedCache$Queues;", .fieldLink RX7 66 "SegmentedCache$Queues" "weights" "[I", .fieldLink RX7 71 "SegmentedCache$Store" "tallies" "[I", .fieldLink RX7 74 "SegmentedCache$Store" "leavers" "LSegmentedCache$Leavers;", .fieldLink RX7 78 "SegmentedCache$Leavers" "total" "I"] ++ wsX70 ++ wsX30 ++ wsX20 ++ wsX10)
def wsX7_keyOf : List Cond := .code yX7_keyOf cX7_keyOf 2 (some .int) :: ([])
def wsX7_put_r1 : List Cond := [Cond.fieldLink RX7 14 "SegmentedCache" "live" "LSegmentedCache$Store;", Cond.fieldLink RX7 49 "SegmentedCache$Store" "settings" "[I", Cond.methodLink RX7 84 yX7_keyOf, Cond.static yX7_keyOf, Cond.initialized RX7, Cond.code yX7_keyOf cX7_keyOf 2 (some .int), Cond.methodLink RX7 87 yX3_store, Cond.instanceMethod yX3_store, Cond.selects RX3 yX3_store yX3_store, Cond.initialized RX3, Cond.code yX3_store cX3_store 6 (some .int), Cond.fieldLink RX3 27 "SegmentedCache$Store" "facts" "[[I", Cond.methodLink RX3 77 yX3_isThing, Cond.instanceMethod yX3_isThing, Cond.selects RX3 yX3_isThing yX3_isThing, Cond.code yX3_isThing cX3_isThing 3 (some .boolean), Cond.methodLink RX3 81 yX3_replace, Cond.instanceMethod yX3_replace, Cond.selects RX3 yX3_replace yX3_replace, Cond.code yX3_replace cX3_replace 5 none, Cond.fieldLink RX3 21 "SegmentedCache$Store" "queues" "LSegmentedCache$Queues;", Cond.fieldLink RX3 63 "SegmentedCache$Queues" "weights" "[I", Cond.methodLink RX3 91 yX3_hit, Cond.instanceMethod yX3_hit]
def wsX7_put_r2 : List Cond := [Cond.selects RX3 yX3_hit yX3_hit, Cond.code yX3_hit cX3_hit 4 none, Cond.methodLink RX3 104 Lib.Math.min.name, Cond.static Lib.Math.min.name, Cond.initialized "java/lang/Math", Cond.code Lib.Math.min.name Lib.Math.min.code 2 (some .int), Cond.fieldLink RX3 9 "SegmentedCache$Store" "settings" "[I", Cond.methodLink RX3 95 yX3_move, Cond.instanceMethod yX3_move, Cond.selects RX3 yX3_move yX3_move, Cond.code yX3_move cX3_move 4 none, Cond.methodLink RX3 70 yX2_remove, Cond.instanceMethod yX2_remove, Cond.selects RX2 yX2_remove yX2_remove, Cond.initialized RX2, Cond.code yX2_remove cX2_remove 4 none, Cond.fieldLink RX2 18 "SegmentedCache$Queues" "newer" "[I", Cond.fieldLink RX2 21 "SegmentedCache$Queues" "older" "[I", Cond.fieldLink RX2 9 "SegmentedCache$Queues" "sizes" "[I", Cond.fieldLink RX2 15 "SegmentedCache$Queues" "weights" "[I", Cond.methodLink RX3 74 yX2_add, Cond.instanceMethod yX2_add, Cond.selects RX2 yX2_add yX2_add, Cond.code yX2_add cX2_add 6 none]
def wsX7_put_r3 : List Cond := [Cond.methodLink RX3 85 yX3_admit, Cond.instanceMethod yX3_admit, Cond.selects RX3 yX3_admit yX3_admit, Cond.code yX3_admit cX3_admit 6 none, Cond.methodLink RX3 99 Lib.Math.max.name, Cond.static Lib.Math.max.name, Cond.code Lib.Math.max.name Lib.Math.max.code 2 (some .int), Cond.fieldLink RX3 15 "SegmentedCache$Store" "tallies" "[I", Cond.methodLink RX3 88 yX3_trim, Cond.instanceMethod yX3_trim, Cond.selects RX3 yX3_trim yX3_trim, Cond.code yX3_trim cX3_trim 1 none, Cond.methodLink RX3 107 yX3_demote, Cond.instanceMethod yX3_demote, Cond.selects RX3 yX3_demote yX3_demote, Cond.code yX3_demote cX3_demote 3 none, Cond.constant RX3 116 (1000000), Cond.methodLink RX3 117 yX2_oldestLoose, Cond.instanceMethod yX2_oldestLoose, Cond.selects RX2 yX2_oldestLoose yX2_oldestLoose, Cond.code yX2_oldestLoose cX2_oldestLoose 5 (some .int), Cond.methodLink RX2 30 yX2_oldest, Cond.instanceMethod yX2_oldest, Cond.selects RX2 yX2_oldest yX2_oldest]
def wsX7_put_r4 : List Cond := [Cond.code yX2_oldest cX2_oldest 2 (some .int), Cond.methodLink RX3 110 yX3_makeRoom, Cond.instanceMethod yX3_makeRoom, Cond.selects RX3 yX3_makeRoom yX3_makeRoom, Cond.code yX3_makeRoom cX3_makeRoom 4 none, Cond.fieldLink RX3 33 "SegmentedCache$Store" "leavers" "LSegmentedCache$Leavers;", Cond.methodLink RX3 121 yX3_weightOfThings, Cond.instanceMethod yX3_weightOfThings, Cond.selects RX3 yX3_weightOfThings yX3_weightOfThings, Cond.code yX3_weightOfThings cX3_weightOfThings 1 (some .int), Cond.methodLink RX3 125 yX1_add, Cond.instanceMethod yX1_add, Cond.selects RX1 yX1_add yX1_add, Cond.initialized RX1, Cond.code yX1_add cX1_add 2 none, Cond.fieldLink RX1 9 "SegmentedCache$Leavers" "ring" "[I", Cond.fieldLink RX1 21 "SegmentedCache$Leavers" "total" "I", Cond.methodLink RX1 25 yJ9_floorMod_7cf53, Cond.static yJ9_floorMod_7cf53, Cond.initialized RJ9, Cond.code yJ9_floorMod_7cf53 cJ9_floorMod_7cf53 3 (some .int), Cond.methodLink RX3 113 yX3_forget, Cond.instanceMethod yX3_forget, Cond.selects RX3 yX3_forget yX3_forget]
def wsX7_put_r5 : List Cond := [Cond.code yX3_forget cX3_forget 4 none, Cond.fieldLink RX3 60 "SegmentedCache$Queues" "sizes" "[I", Cond.methodLink RX3 127 yX2_oldest]
def wsX7_put : List Cond := .code yX7_put cX7_put 7 (some .int) :: ((wsX7_put_r1 ++ (wsX7_put_r2 ++ (wsX7_put_r3 ++ (wsX7_put_r4 ++ wsX7_put_r5)))) ++ wsX70 ++ wsX30 ++ wsX20 ++ wsX10)
def wsX7_get_r1 : List Cond := [Cond.constantLong RX7 91 (-9223372036854775808), Cond.fieldLink RX7 14 "SegmentedCache" "live" "LSegmentedCache$Store;", Cond.fieldLink RX7 97 "SegmentedCache$Store" "facts" "[[I", Cond.methodLink RX7 84 yX7_keyOf, Cond.static yX7_keyOf, Cond.initialized RX7, Cond.code yX7_keyOf cX7_keyOf 2 (some .int), Cond.methodLink RX7 93 yX3_fetch, Cond.instanceMethod yX3_fetch, Cond.selects RX3 yX3_fetch yX3_fetch, Cond.initialized RX3, Cond.code yX3_fetch cX3_fetch 2 (some .boolean), Cond.fieldLink RX3 15 "SegmentedCache$Store" "tallies" "[I", Cond.fieldLink RX3 27 "SegmentedCache$Store" "facts" "[[I", Cond.methodLink RX3 77 yX3_isThing, Cond.instanceMethod yX3_isThing, Cond.selects RX3 yX3_isThing yX3_isThing, Cond.code yX3_isThing cX3_isThing 3 (some .boolean), Cond.methodLink RX3 91 yX3_hit, Cond.instanceMethod yX3_hit, Cond.selects RX3 yX3_hit yX3_hit, Cond.code yX3_hit cX3_hit 4 none, Cond.methodLink RX3 104 Lib.Math.min.name, Cond.static Lib.Math.min.name]
def wsX7_get_r2 : List Cond := [Cond.initialized "java/lang/Math", Cond.code Lib.Math.min.name Lib.Math.min.code 2 (some .int), Cond.fieldLink RX3 9 "SegmentedCache$Store" "settings" "[I", Cond.methodLink RX3 95 yX3_move, Cond.instanceMethod yX3_move, Cond.selects RX3 yX3_move yX3_move, Cond.code yX3_move cX3_move 4 none, Cond.fieldLink RX3 21 "SegmentedCache$Store" "queues" "LSegmentedCache$Queues;", Cond.methodLink RX3 70 yX2_remove, Cond.instanceMethod yX2_remove, Cond.selects RX2 yX2_remove yX2_remove, Cond.initialized RX2, Cond.code yX2_remove cX2_remove 4 none, Cond.fieldLink RX2 18 "SegmentedCache$Queues" "newer" "[I", Cond.fieldLink RX2 21 "SegmentedCache$Queues" "older" "[I", Cond.fieldLink RX2 9 "SegmentedCache$Queues" "sizes" "[I", Cond.fieldLink RX2 15 "SegmentedCache$Queues" "weights" "[I", Cond.methodLink RX3 74 yX2_add, Cond.instanceMethod yX2_add, Cond.selects RX2 yX2_add yX2_add, Cond.code yX2_add cX2_add 6 none, Cond.methodLink RX3 88 yX3_trim, Cond.instanceMethod yX3_trim, Cond.selects RX3 yX3_trim yX3_trim]
def wsX7_get_r3 : List Cond := [Cond.code yX3_trim cX3_trim 1 none, Cond.methodLink RX3 107 yX3_demote, Cond.instanceMethod yX3_demote, Cond.selects RX3 yX3_demote yX3_demote, Cond.code yX3_demote cX3_demote 3 none, Cond.constant RX3 116 (1000000), Cond.fieldLink RX3 63 "SegmentedCache$Queues" "weights" "[I", Cond.methodLink RX3 117 yX2_oldestLoose, Cond.instanceMethod yX2_oldestLoose, Cond.selects RX2 yX2_oldestLoose yX2_oldestLoose, Cond.code yX2_oldestLoose cX2_oldestLoose 5 (some .int), Cond.methodLink RX2 30 yX2_oldest, Cond.instanceMethod yX2_oldest, Cond.selects RX2 yX2_oldest yX2_oldest, Cond.code yX2_oldest cX2_oldest 2 (some .int), Cond.methodLink RX3 110 yX3_makeRoom, Cond.instanceMethod yX3_makeRoom, Cond.selects RX3 yX3_makeRoom yX3_makeRoom, Cond.code yX3_makeRoom cX3_makeRoom 4 none, Cond.fieldLink RX3 33 "SegmentedCache$Store" "leavers" "LSegmentedCache$Leavers;", Cond.methodLink RX3 121 yX3_weightOfThings, Cond.instanceMethod yX3_weightOfThings, Cond.selects RX3 yX3_weightOfThings yX3_weightOfThings, Cond.code yX3_weightOfThings cX3_weightOfThings 1 (some .int)]
def wsX7_get_r4 : List Cond := [Cond.methodLink RX3 125 yX1_add, Cond.instanceMethod yX1_add, Cond.selects RX1 yX1_add yX1_add, Cond.initialized RX1, Cond.code yX1_add cX1_add 2 none, Cond.fieldLink RX1 9 "SegmentedCache$Leavers" "ring" "[I", Cond.fieldLink RX1 21 "SegmentedCache$Leavers" "total" "I", Cond.methodLink RX1 25 yJ9_floorMod_7cf53, Cond.static yJ9_floorMod_7cf53, Cond.initialized RJ9, Cond.code yJ9_floorMod_7cf53 cJ9_floorMod_7cf53 3 (some .int), Cond.methodLink RX3 113 yX3_forget, Cond.instanceMethod yX3_forget, Cond.selects RX3 yX3_forget yX3_forget, Cond.code yX3_forget cX3_forget 4 none, Cond.fieldLink RX3 60 "SegmentedCache$Queues" "sizes" "[I", Cond.methodLink RX3 127 yX2_oldest]
def wsX7_get : List Cond := .code yX7_get cX7_get 4 (some .long) :: ((wsX7_get_r1 ++ (wsX7_get_r2 ++ (wsX7_get_r3 ++ wsX7_get_r4))) ++ wsX70 ++ wsX30 ++ wsX20 ++ wsX10)
def wsX7_drop_r1 : List Cond := [Cond.fieldLink RX7 14 "SegmentedCache" "live" "LSegmentedCache$Store;", Cond.fieldLink RX7 97 "SegmentedCache$Store" "facts" "[[I", Cond.methodLink RX7 84 yX7_keyOf, Cond.static yX7_keyOf, Cond.initialized RX7, Cond.code yX7_keyOf cX7_keyOf 2 (some .int), Cond.methodLink RX7 101 yX3_move, Cond.instanceMethod yX3_move, Cond.selects RX3 yX3_move yX3_move, Cond.initialized RX3, Cond.code yX3_move cX3_move 4 none, Cond.fieldLink RX3 27 "SegmentedCache$Store" "facts" "[[I", Cond.fieldLink RX3 21 "SegmentedCache$Store" "queues" "LSegmentedCache$Queues;", Cond.methodLink RX3 70 yX2_remove, Cond.instanceMethod yX2_remove, Cond.selects RX2 yX2_remove yX2_remove, Cond.initialized RX2, Cond.code yX2_remove cX2_remove 4 none, Cond.fieldLink RX2 18 "SegmentedCache$Queues" "newer" "[I", Cond.fieldLink RX2 21 "SegmentedCache$Queues" "older" "[I", Cond.fieldLink RX2 9 "SegmentedCache$Queues" "sizes" "[I", Cond.fieldLink RX2 15 "SegmentedCache$Queues" "weights" "[I", Cond.methodLink RX3 74 yX2_add, Cond.instanceMethod yX2_add]
def wsX7_drop_r2 : List Cond := [Cond.selects RX2 yX2_add yX2_add, Cond.code yX2_add cX2_add 6 none]
def wsX7_drop : List Cond := .code yX7_drop cX7_drop 5 (some .int) :: ((wsX7_drop_r1 ++ wsX7_drop_r2) ++ wsX70 ++ wsX30 ++ wsX20)
def wsX7_pin : List Cond := .code yX7_pin cX7_pin 6 (some .int) :: ([.fieldLink RX7 14 "SegmentedCache" "live" "LSegmentedCache$Store;", .fieldLink RX7 97 "SegmentedCache$Store" "facts" "[[I", .methodLink RX7 84 yX7_keyOf, .static yX7_keyOf, .initialized RX7, .code yX7_keyOf cX7_keyOf 2 (some .int), .methodLink RX7 105 yX3_isThing, .instanceMethod yX3_isThing, .selects RX3 yX3_isThing yX3_isThing, .initialized RX3, .code yX3_isThing cX3_isThing 3 (some .boolean), .fieldLink RX3 27 "SegmentedCache$Store" "facts" "[[I"] ++ wsX70 ++ wsX30)
def wsX7_of_r1 : List Cond := [Cond.fieldLink RX7 14 "SegmentedCache" "live" "LSegmentedCache$Store;", Cond.fieldLink RX7 97 "SegmentedCache$Store" "facts" "[[I", Cond.methodLink RX7 84 yX7_keyOf, Cond.static yX7_keyOf, Cond.initialized RX7, Cond.code yX7_keyOf cX7_keyOf 2 (some .int), Cond.methodLink RX7 108 yX3_placeOf, Cond.instanceMethod yX3_placeOf, Cond.selects RX3 yX3_placeOf yX3_placeOf, Cond.initialized RX3, Cond.code yX3_placeOf cX3_placeOf 3 (some .int), Cond.fieldLink RX3 27 "SegmentedCache$Store" "facts" "[[I", Cond.fieldLink RX3 21 "SegmentedCache$Store" "queues" "LSegmentedCache$Queues;", Cond.methodLink RX3 66 yX2_placeOf, Cond.instanceMethod yX2_placeOf, Cond.selects RX2 yX2_placeOf yX2_placeOf, Cond.initialized RX2, Cond.code yX2_placeOf cX2_placeOf 5 (some .int), Cond.fieldLink RX2 9 "SegmentedCache$Queues" "sizes" "[I", Cond.fieldLink RX2 18 "SegmentedCache$Queues" "newer" "[I", Cond.methodLink RX2 30 yX2_oldest, Cond.instanceMethod yX2_oldest, Cond.selects RX2 yX2_oldest yX2_oldest, Cond.code yX2_oldest cX2_oldest 2 (some .int)]
def wsX7_of_r2 : List Cond := [Cond.methodLink RX7 105 yX3_isThing, Cond.instanceMethod yX3_isThing, Cond.selects RX3 yX3_isThing yX3_isThing, Cond.code yX3_isThing cX3_isThing 3 (some .boolean)]
def wsX7_of : List Cond := .code yX7_of cX7_of 7 (some .int) :: ((wsX7_of_r1 ++ wsX7_of_r2) ++ wsX70 ++ wsX30 ++ wsX20)
def wsX7_key : List Cond := .code yX7_key cX7_key 3 (some .int) :: ([.fieldLink RX7 14 "SegmentedCache" "live" "LSegmentedCache$Store;", .fieldLink RX7 62 "SegmentedCache$Store" "queues" "LSegmentedCache$Queues;", .methodLink RX7 111 yX2_keyAt, .instanceMethod yX2_keyAt, .selects RX2 yX2_keyAt yX2_keyAt, .initialized RX2, .code yX2_keyAt cX2_keyAt 5 (some .int), .fieldLink RX2 9 "SegmentedCache$Queues" "sizes" "[I", .fieldLink RX2 18 "SegmentedCache$Queues" "newer" "[I", .methodLink RX2 30 yX2_oldest, .instanceMethod yX2_oldest, .selects RX2 yX2_oldest yX2_oldest, .code yX2_oldest cX2_oldest 2 (some .int)] ++ wsX70 ++ wsX30 ++ wsX20)
def wsX7_gone : List Cond := .code yX7_gone cX7_gone 3 (some .int) :: ([.fieldLink RX7 14 "SegmentedCache" "live" "LSegmentedCache$Store;", .fieldLink RX7 74 "SegmentedCache$Store" "leavers" "LSegmentedCache$Leavers;", .fieldLink RX7 78 "SegmentedCache$Leavers" "total" "I", .methodLink RX7 53 Lib.Math.min.name, .static Lib.Math.min.name, .initialized "java/lang/Math", .code Lib.Math.min.name Lib.Math.min.code 2 (some .int), .methodLink RX7 114 yX1_at, .instanceMethod yX1_at, .selects RX1 yX1_at yX1_at, .initialized RX1, .code yX1_at cX1_at 2 (some .int), .fieldLink RX1 9 "SegmentedCache$Leavers" "ring" "[I", .methodLink RX1 25 yJ9_floorMod_7cf53, .static yJ9_floorMod_7cf53, .initialized RJ9, .code yJ9_floorMod_7cf53 cJ9_floorMod_7cf53 3 (some .int)] ++ wsX70 ++ wsX30 ++ wsX10)
def wsX7_rehearse_r1 : List Cond := [Cond.fieldLink RX7 18 "SegmentedCache" "trial" "LSegmentedCache$Store;", Cond.fieldLink RX7 14 "SegmentedCache" "live" "LSegmentedCache$Store;", Cond.fieldLink RX7 49 "SegmentedCache$Store" "settings" "[I", Cond.methodLink RX7 120 yX3_copyFrom, Cond.instanceMethod yX3_copyFrom, Cond.selects RX3 yX3_copyFrom yX3_copyFrom, Cond.initialized RX3, Cond.code yX3_copyFrom cX3_copyFrom 3 none, Cond.fieldLink RX3 9 "SegmentedCache$Store" "settings" "[I", Cond.methodLink RX3 44 arraycopyName, Cond.native arraycopyName, Cond.static arraycopyName, Cond.initialized "java/lang/System", Cond.fieldLink RX3 15 "SegmentedCache$Store" "tallies" "[I", Cond.fieldLink RX3 21 "SegmentedCache$Store" "queues" "LSegmentedCache$Queues;", Cond.fieldLink RX3 27 "SegmentedCache$Store" "facts" "[[I", Cond.fieldLink RX3 33 "SegmentedCache$Store" "leavers" "LSegmentedCache$Leavers;", Cond.fieldLink RX3 40 "SegmentedCache$Store" "book" "LSegmentedCache$Book;", Cond.methodLink RX3 50 yX2_copyFrom, Cond.instanceMethod yX2_copyFrom, Cond.selects RX2 yX2_copyFrom yX2_copyFrom, Cond.initialized RX2, Cond.code yX2_copyFrom cX2_copyFrom 2 none, Cond.fieldLink RX2 9 "SegmentedCache$Queues" "sizes" "[I"]
def wsX7_rehearse_r2 : List Cond := [Cond.methodLink RX2 24 arraycopyName, Cond.fieldLink RX2 15 "SegmentedCache$Queues" "weights" "[I", Cond.fieldLink RX2 18 "SegmentedCache$Queues" "newer" "[I", Cond.fieldLink RX2 21 "SegmentedCache$Queues" "older" "[I", Cond.methodLink RX3 54 yX1_copyFrom, Cond.instanceMethod yX1_copyFrom, Cond.selects RX1 yX1_copyFrom yX1_copyFrom, Cond.initialized RX1, Cond.code yX1_copyFrom cX1_copyFrom 2 none, Cond.fieldLink RX1 9 "SegmentedCache$Leavers" "ring" "[I", Cond.methodLink RX1 15 arraycopyName, Cond.fieldLink RX1 21 "SegmentedCache$Leavers" "total" "I", Cond.methodLink RX3 57 yX0_copyFrom, Cond.instanceMethod yX0_copyFrom, Cond.selects RX0 yX0_copyFrom yX0_copyFrom, Cond.initialized RX0, Cond.code yX0_copyFrom cX0_copyFrom 2 none, Cond.fieldLink RX0 9 "SegmentedCache$Book" "keys" "[I", Cond.methodLink RX0 18 arraycopyName, Cond.fieldLink RX0 15 "SegmentedCache$Book" "wheres" "[I", Cond.fieldLink RX0 24 "SegmentedCache$Book" "size" "I", Cond.methodLink RX7 59 yX3_trim, Cond.instanceMethod yX3_trim, Cond.selects RX3 yX3_trim yX3_trim]
def wsX7_rehearse_r3 : List Cond := [Cond.code yX3_trim cX3_trim 1 none, Cond.methodLink RX3 107 yX3_demote, Cond.instanceMethod yX3_demote, Cond.selects RX3 yX3_demote yX3_demote, Cond.code yX3_demote cX3_demote 3 none, Cond.constant RX3 116 (1000000), Cond.fieldLink RX3 63 "SegmentedCache$Queues" "weights" "[I", Cond.methodLink RX3 117 yX2_oldestLoose, Cond.instanceMethod yX2_oldestLoose, Cond.selects RX2 yX2_oldestLoose yX2_oldestLoose, Cond.code yX2_oldestLoose cX2_oldestLoose 5 (some .int), Cond.methodLink RX2 30 yX2_oldest, Cond.instanceMethod yX2_oldest, Cond.selects RX2 yX2_oldest yX2_oldest, Cond.code yX2_oldest cX2_oldest 2 (some .int), Cond.methodLink RX3 95 yX3_move, Cond.instanceMethod yX3_move, Cond.selects RX3 yX3_move yX3_move, Cond.code yX3_move cX3_move 4 none, Cond.methodLink RX3 70 yX2_remove, Cond.instanceMethod yX2_remove, Cond.selects RX2 yX2_remove yX2_remove, Cond.code yX2_remove cX2_remove 4 none, Cond.methodLink RX3 74 yX2_add]
def wsX7_rehearse_r4 : List Cond := [Cond.instanceMethod yX2_add, Cond.selects RX2 yX2_add yX2_add, Cond.code yX2_add cX2_add 6 none, Cond.methodLink RX3 110 yX3_makeRoom, Cond.instanceMethod yX3_makeRoom, Cond.selects RX3 yX3_makeRoom yX3_makeRoom, Cond.code yX3_makeRoom cX3_makeRoom 4 none, Cond.methodLink RX3 121 yX3_weightOfThings, Cond.instanceMethod yX3_weightOfThings, Cond.selects RX3 yX3_weightOfThings yX3_weightOfThings, Cond.code yX3_weightOfThings cX3_weightOfThings 1 (some .int), Cond.methodLink RX3 125 yX1_add, Cond.instanceMethod yX1_add, Cond.selects RX1 yX1_add yX1_add, Cond.code yX1_add cX1_add 2 none, Cond.methodLink RX1 25 yJ9_floorMod_7cf53, Cond.static yJ9_floorMod_7cf53, Cond.initialized RJ9, Cond.code yJ9_floorMod_7cf53 cJ9_floorMod_7cf53 3 (some .int), Cond.methodLink RX3 113 yX3_forget, Cond.instanceMethod yX3_forget, Cond.selects RX3 yX3_forget yX3_forget, Cond.code yX3_forget cX3_forget 4 none, Cond.fieldLink RX3 60 "SegmentedCache$Queues" "sizes" "[I"]
def wsX7_rehearse_r5 : List Cond := [Cond.methodLink RX3 127 yX2_oldest]
def wsX7_rehearse : List Cond := .code yX7_rehearse cX7_rehearse 3 none :: ((wsX7_rehearse_r1 ++ (wsX7_rehearse_r2 ++ (wsX7_rehearse_r3 ++ (wsX7_rehearse_r4 ++ wsX7_rehearse_r5)))) ++ wsX70 ++ wsX30 ++ wsX20 ++ wsX10 ++ wsX00)
def wsX7_victim_r1 : List Cond := [Cond.fieldLink RX7 14 "SegmentedCache" "live" "LSegmentedCache$Store;", Cond.fieldLink RX7 74 "SegmentedCache$Store" "leavers" "LSegmentedCache$Leavers;", Cond.fieldLink RX7 78 "SegmentedCache$Leavers" "total" "I", Cond.fieldLink RX7 18 "SegmentedCache" "trial" "LSegmentedCache$Store;", Cond.methodLink RX7 117 yX7_rehearse, Cond.instanceMethod yX7_rehearse, Cond.selects RX7 yX7_rehearse yX7_rehearse, Cond.initialized RX7, Cond.code yX7_rehearse cX7_rehearse 3 none, Cond.fieldLink RX7 49 "SegmentedCache$Store" "settings" "[I", Cond.methodLink RX7 120 yX3_copyFrom, Cond.instanceMethod yX3_copyFrom, Cond.selects RX3 yX3_copyFrom yX3_copyFrom, Cond.initialized RX3, Cond.code yX3_copyFrom cX3_copyFrom 3 none, Cond.fieldLink RX3 9 "SegmentedCache$Store" "settings" "[I", Cond.methodLink RX3 44 arraycopyName, Cond.native arraycopyName, Cond.static arraycopyName, Cond.initialized "java/lang/System", Cond.fieldLink RX3 15 "SegmentedCache$Store" "tallies" "[I", Cond.fieldLink RX3 21 "SegmentedCache$Store" "queues" "LSegmentedCache$Queues;", Cond.fieldLink RX3 27 "SegmentedCache$Store" "facts" "[[I", Cond.fieldLink RX3 33 "SegmentedCache$Store" "leavers" "LSegmentedCache$Leavers;"]
def wsX7_victim_r2 : List Cond := [Cond.fieldLink RX3 40 "SegmentedCache$Store" "book" "LSegmentedCache$Book;", Cond.methodLink RX3 50 yX2_copyFrom, Cond.instanceMethod yX2_copyFrom, Cond.selects RX2 yX2_copyFrom yX2_copyFrom, Cond.initialized RX2, Cond.code yX2_copyFrom cX2_copyFrom 2 none, Cond.fieldLink RX2 9 "SegmentedCache$Queues" "sizes" "[I", Cond.methodLink RX2 24 arraycopyName, Cond.fieldLink RX2 15 "SegmentedCache$Queues" "weights" "[I", Cond.fieldLink RX2 18 "SegmentedCache$Queues" "newer" "[I", Cond.fieldLink RX2 21 "SegmentedCache$Queues" "older" "[I", Cond.methodLink RX3 54 yX1_copyFrom, Cond.instanceMethod yX1_copyFrom, Cond.selects RX1 yX1_copyFrom yX1_copyFrom, Cond.initialized RX1, Cond.code yX1_copyFrom cX1_copyFrom 2 none, Cond.fieldLink RX1 9 "SegmentedCache$Leavers" "ring" "[I", Cond.methodLink RX1 15 arraycopyName, Cond.fieldLink RX1 21 "SegmentedCache$Leavers" "total" "I", Cond.methodLink RX3 57 yX0_copyFrom, Cond.instanceMethod yX0_copyFrom, Cond.selects RX0 yX0_copyFrom yX0_copyFrom, Cond.initialized RX0, Cond.code yX0_copyFrom cX0_copyFrom 2 none]
def wsX7_victim_r3 : List Cond := [Cond.fieldLink RX0 9 "SegmentedCache$Book" "keys" "[I", Cond.methodLink RX0 18 arraycopyName, Cond.fieldLink RX0 15 "SegmentedCache$Book" "wheres" "[I", Cond.fieldLink RX0 24 "SegmentedCache$Book" "size" "I", Cond.methodLink RX7 59 yX3_trim, Cond.instanceMethod yX3_trim, Cond.selects RX3 yX3_trim yX3_trim, Cond.code yX3_trim cX3_trim 1 none, Cond.methodLink RX3 107 yX3_demote, Cond.instanceMethod yX3_demote, Cond.selects RX3 yX3_demote yX3_demote, Cond.code yX3_demote cX3_demote 3 none, Cond.constant RX3 116 (1000000), Cond.fieldLink RX3 63 "SegmentedCache$Queues" "weights" "[I", Cond.methodLink RX3 117 yX2_oldestLoose, Cond.instanceMethod yX2_oldestLoose, Cond.selects RX2 yX2_oldestLoose yX2_oldestLoose, Cond.code yX2_oldestLoose cX2_oldestLoose 5 (some .int), Cond.methodLink RX2 30 yX2_oldest, Cond.instanceMethod yX2_oldest, Cond.selects RX2 yX2_oldest yX2_oldest, Cond.code yX2_oldest cX2_oldest 2 (some .int), Cond.methodLink RX3 95 yX3_move, Cond.instanceMethod yX3_move]
def wsX7_victim_r4 : List Cond := [Cond.selects RX3 yX3_move yX3_move, Cond.code yX3_move cX3_move 4 none, Cond.methodLink RX3 70 yX2_remove, Cond.instanceMethod yX2_remove, Cond.selects RX2 yX2_remove yX2_remove, Cond.code yX2_remove cX2_remove 4 none, Cond.methodLink RX3 74 yX2_add, Cond.instanceMethod yX2_add, Cond.selects RX2 yX2_add yX2_add, Cond.code yX2_add cX2_add 6 none, Cond.methodLink RX3 110 yX3_makeRoom, Cond.instanceMethod yX3_makeRoom, Cond.selects RX3 yX3_makeRoom yX3_makeRoom, Cond.code yX3_makeRoom cX3_makeRoom 4 none, Cond.methodLink RX3 121 yX3_weightOfThings, Cond.instanceMethod yX3_weightOfThings, Cond.selects RX3 yX3_weightOfThings yX3_weightOfThings, Cond.code yX3_weightOfThings cX3_weightOfThings 1 (some .int), Cond.methodLink RX3 125 yX1_add, Cond.instanceMethod yX1_add, Cond.selects RX1 yX1_add yX1_add, Cond.code yX1_add cX1_add 2 none, Cond.methodLink RX1 25 yJ9_floorMod_7cf53, Cond.static yJ9_floorMod_7cf53]
def wsX7_victim_r5 : List Cond := [Cond.initialized RJ9, Cond.code yJ9_floorMod_7cf53 cJ9_floorMod_7cf53 3 (some .int), Cond.methodLink RX3 113 yX3_forget, Cond.instanceMethod yX3_forget, Cond.selects RX3 yX3_forget yX3_forget, Cond.code yX3_forget cX3_forget 4 none, Cond.fieldLink RX3 60 "SegmentedCache$Queues" "sizes" "[I", Cond.methodLink RX3 127 yX2_oldest, Cond.methodLink RX7 114 yX1_at, Cond.instanceMethod yX1_at, Cond.selects RX1 yX1_at yX1_at, Cond.code yX1_at cX1_at 2 (some .int)]
def wsX7_victim : List Cond := .code yX7_victim cX7_victim 4 (some .int) :: ((wsX7_victim_r1 ++ (wsX7_victim_r2 ++ (wsX7_victim_r3 ++ (wsX7_victim_r4 ++ wsX7_victim_r5)))) ++ wsX70 ++ wsX30 ++ wsX10 ++ wsX20 ++ wsX00)
def wsX7_feed : List Cond := .code yX7_feed cX7_feed 2 (some .int) :: ([.fieldLink RX7 24 "SegmentedCache" "text" "LSegmentedCache$Text;", .fieldLink RX7 124 "SegmentedCache$Text" "length" "I", .fieldLink RX7 127 "SegmentedCache$Text" "signs" "[I"] ++ wsX70 ++ wsX50)
def wsX7_trace_r1 : List Cond := [Cond.fieldLink RX7 130 "SegmentedCache" "traceCount" "I", Cond.fieldLink RX7 24 "SegmentedCache" "text" "LSegmentedCache$Text;", Cond.fieldLink RX7 30 "SegmentedCache" "traces" "[LSegmentedCache$Trace;", Cond.fieldLink RX7 124 "SegmentedCache$Text" "length" "I", Cond.methodLink RX7 133 yX5_readInto, Cond.instanceMethod yX5_readInto, Cond.selects RX5 yX5_readInto yX5_readInto, Cond.initialized RX5, Cond.code yX5_readInto cX5_readInto 3 (some .int), Cond.fieldLink RX5 15 "SegmentedCache$Text" "at" "I", Cond.fieldLink RX5 23 "SegmentedCache$Trace" "size" "I", Cond.fieldLink RX5 28 "SegmentedCache$Text" "length" "I", Cond.methodLink RX5 19 yX5_readClause, Cond.instanceMethod yX5_readClause, Cond.selects RX5 yX5_readClause yX5_readClause, Cond.code yX5_readClause cX5_readClause 7 (some .boolean), Cond.fieldLink RX5 39 "SegmentedCache$Trace" "kinds" "[I", Cond.fieldLink RX5 42 "SegmentedCache$Trace" "keys" "[I", Cond.methodLink RX5 35 yX5_next, Cond.instanceMethod yX5_next, Cond.selects RX5 yX5_next yX5_next, Cond.code yX5_next cX5_next 1 (some .int), Cond.fieldLink RX5 9 "SegmentedCache$Text" "signs" "[I", Cond.methodLink RX5 31 yX5_skip]
def wsX7_trace_r2 : List Cond := [Cond.instanceMethod yX5_skip, Cond.selects RX5 yX5_skip yX5_skip, Cond.code yX5_skip cX5_skip 4 (some .boolean), Cond.methodLink RX5 45 yX5_readWeight, Cond.instanceMethod yX5_readWeight, Cond.selects RX5 yX5_readWeight yX5_readWeight, Cond.code yX5_readWeight cX5_readWeight 3 (some .boolean), Cond.fieldLink RX5 48 "SegmentedCache$Trace" "weights" "[I"]
def wsX7_trace : List Cond := .code yX7_trace cX7_trace 2 (some .int) :: ((wsX7_trace_r1 ++ wsX7_trace_r2) ++ wsX70 ++ wsX50 ++ wsX60)
def wsX7_isTrace : List Cond := .code yX7_isTrace cX7_isTrace 2 (some .boolean) :: ([.fieldLink RX7 130 "SegmentedCache" "traceCount" "I"] ++ wsX70)
def wsX7_run_r1 : List Cond := [Cond.fieldLink RX7 14 "SegmentedCache" "live" "LSegmentedCache$Store;", Cond.fieldLink RX7 30 "SegmentedCache" "traces" "[LSegmentedCache$Trace;", Cond.methodLink RX7 137 yX7_isTrace, Cond.instanceMethod yX7_isTrace, Cond.selects RX7 yX7_isTrace yX7_isTrace, Cond.initialized RX7, Cond.code yX7_isTrace cX7_isTrace 2 (some .boolean), Cond.fieldLink RX7 130 "SegmentedCache" "traceCount" "I", Cond.methodLink RX7 140 yX3_perform, Cond.instanceMethod yX3_perform, Cond.selects RX3 yX3_perform yX3_perform, Cond.initialized RX3, Cond.code yX3_perform cX3_perform 5 (some .int), Cond.fieldLink RX3 15 "SegmentedCache$Store" "tallies" "[I", Cond.fieldLink RX3 131 "SegmentedCache$Trace" "size" "I", Cond.fieldLink RX3 137 "SegmentedCache$Trace" "keys" "[I", Cond.fieldLink RX3 140 "SegmentedCache$Trace" "kinds" "[I", Cond.fieldLink RX3 146 "SegmentedCache$Trace" "weights" "[I", Cond.fieldLink RX3 9 "SegmentedCache$Store" "settings" "[I", Cond.methodLink RX3 143 yX3_fetch, Cond.instanceMethod yX3_fetch, Cond.selects RX3 yX3_fetch yX3_fetch, Cond.code yX3_fetch cX3_fetch 2 (some .boolean), Cond.fieldLink RX3 27 "SegmentedCache$Store" "facts" "[[I"]
def wsX7_run_r2 : List Cond := [Cond.methodLink RX3 77 yX3_isThing, Cond.instanceMethod yX3_isThing, Cond.selects RX3 yX3_isThing yX3_isThing, Cond.code yX3_isThing cX3_isThing 3 (some .boolean), Cond.methodLink RX3 91 yX3_hit, Cond.instanceMethod yX3_hit, Cond.selects RX3 yX3_hit yX3_hit, Cond.code yX3_hit cX3_hit 4 none, Cond.methodLink RX3 104 Lib.Math.min.name, Cond.static Lib.Math.min.name, Cond.initialized "java/lang/Math", Cond.code Lib.Math.min.name Lib.Math.min.code 2 (some .int), Cond.methodLink RX3 95 yX3_move, Cond.instanceMethod yX3_move, Cond.selects RX3 yX3_move yX3_move, Cond.code yX3_move cX3_move 4 none, Cond.fieldLink RX3 21 "SegmentedCache$Store" "queues" "LSegmentedCache$Queues;", Cond.methodLink RX3 70 yX2_remove, Cond.instanceMethod yX2_remove, Cond.selects RX2 yX2_remove yX2_remove, Cond.initialized RX2, Cond.code yX2_remove cX2_remove 4 none, Cond.fieldLink RX2 18 "SegmentedCache$Queues" "newer" "[I", Cond.fieldLink RX2 21 "SegmentedCache$Queues" "older" "[I"]
def wsX7_run_r3 : List Cond := [Cond.fieldLink RX2 9 "SegmentedCache$Queues" "sizes" "[I", Cond.fieldLink RX2 15 "SegmentedCache$Queues" "weights" "[I", Cond.methodLink RX3 74 yX2_add, Cond.instanceMethod yX2_add, Cond.selects RX2 yX2_add yX2_add, Cond.code yX2_add cX2_add 6 none, Cond.methodLink RX3 88 yX3_trim, Cond.instanceMethod yX3_trim, Cond.selects RX3 yX3_trim yX3_trim, Cond.code yX3_trim cX3_trim 1 none, Cond.methodLink RX3 107 yX3_demote, Cond.instanceMethod yX3_demote, Cond.selects RX3 yX3_demote yX3_demote, Cond.code yX3_demote cX3_demote 3 none, Cond.constant RX3 116 (1000000), Cond.fieldLink RX3 63 "SegmentedCache$Queues" "weights" "[I", Cond.methodLink RX3 117 yX2_oldestLoose, Cond.instanceMethod yX2_oldestLoose, Cond.selects RX2 yX2_oldestLoose yX2_oldestLoose, Cond.code yX2_oldestLoose cX2_oldestLoose 5 (some .int), Cond.methodLink RX2 30 yX2_oldest, Cond.instanceMethod yX2_oldest, Cond.selects RX2 yX2_oldest yX2_oldest, Cond.code yX2_oldest cX2_oldest 2 (some .int)]
def wsX7_run_r4 : List Cond := [Cond.methodLink RX3 110 yX3_makeRoom, Cond.instanceMethod yX3_makeRoom, Cond.selects RX3 yX3_makeRoom yX3_makeRoom, Cond.code yX3_makeRoom cX3_makeRoom 4 none, Cond.fieldLink RX3 33 "SegmentedCache$Store" "leavers" "LSegmentedCache$Leavers;", Cond.methodLink RX3 121 yX3_weightOfThings, Cond.instanceMethod yX3_weightOfThings, Cond.selects RX3 yX3_weightOfThings yX3_weightOfThings, Cond.code yX3_weightOfThings cX3_weightOfThings 1 (some .int), Cond.methodLink RX3 125 yX1_add, Cond.instanceMethod yX1_add, Cond.selects RX1 yX1_add yX1_add, Cond.initialized RX1, Cond.code yX1_add cX1_add 2 none, Cond.fieldLink RX1 9 "SegmentedCache$Leavers" "ring" "[I", Cond.fieldLink RX1 21 "SegmentedCache$Leavers" "total" "I", Cond.methodLink RX1 25 yJ9_floorMod_7cf53, Cond.static yJ9_floorMod_7cf53, Cond.initialized RJ9, Cond.code yJ9_floorMod_7cf53 cJ9_floorMod_7cf53 3 (some .int), Cond.methodLink RX3 113 yX3_forget, Cond.instanceMethod yX3_forget, Cond.selects RX3 yX3_forget yX3_forget, Cond.code yX3_forget cX3_forget 4 none]
def wsX7_run_r5 : List Cond := [Cond.fieldLink RX3 60 "SegmentedCache$Queues" "sizes" "[I", Cond.methodLink RX3 127 yX2_oldest, Cond.methodLink RX3 147 yX3_store, Cond.instanceMethod yX3_store, Cond.selects RX3 yX3_store yX3_store, Cond.code yX3_store cX3_store 6 (some .int), Cond.methodLink RX3 81 yX3_replace, Cond.instanceMethod yX3_replace, Cond.selects RX3 yX3_replace yX3_replace, Cond.code yX3_replace cX3_replace 5 none, Cond.methodLink RX3 85 yX3_admit, Cond.instanceMethod yX3_admit, Cond.selects RX3 yX3_admit yX3_admit, Cond.code yX3_admit cX3_admit 6 none, Cond.methodLink RX3 99 Lib.Math.max.name, Cond.static Lib.Math.max.name, Cond.code Lib.Math.max.name Lib.Math.max.code 2 (some .int)]
def wsX7_run : List Cond := .code yX7_run cX7_run 2 (some .int) :: ((wsX7_run_r1 ++ (wsX7_run_r2 ++ (wsX7_run_r3 ++ (wsX7_run_r4 ++ wsX7_run_r5)))) ++ wsX70 ++ wsX30 ++ wsX60 ++ wsX20 ++ wsX10)
def wsX7_would_r1 : List Cond := [Cond.fieldLink RX7 18 "SegmentedCache" "trial" "LSegmentedCache$Store;", Cond.fieldLink RX7 14 "SegmentedCache" "live" "LSegmentedCache$Store;", Cond.fieldLink RX7 30 "SegmentedCache" "traces" "[LSegmentedCache$Trace;", Cond.fieldLink RX7 71 "SegmentedCache$Store" "tallies" "[I", Cond.fieldLink RX7 49 "SegmentedCache$Store" "settings" "[I", Cond.fieldLink RX7 74 "SegmentedCache$Store" "leavers" "LSegmentedCache$Leavers;", Cond.fieldLink RX7 78 "SegmentedCache$Leavers" "total" "I", Cond.methodLink RX7 137 yX7_isTrace, Cond.instanceMethod yX7_isTrace, Cond.selects RX7 yX7_isTrace yX7_isTrace, Cond.initialized RX7, Cond.code yX7_isTrace cX7_isTrace 2 (some .boolean), Cond.fieldLink RX7 130 "SegmentedCache" "traceCount" "I", Cond.methodLink RX7 120 yX3_copyFrom, Cond.instanceMethod yX3_copyFrom, Cond.selects RX3 yX3_copyFrom yX3_copyFrom, Cond.initialized RX3, Cond.code yX3_copyFrom cX3_copyFrom 3 none, Cond.fieldLink RX3 9 "SegmentedCache$Store" "settings" "[I", Cond.methodLink RX3 44 arraycopyName, Cond.native arraycopyName, Cond.static arraycopyName, Cond.initialized "java/lang/System", Cond.fieldLink RX3 15 "SegmentedCache$Store" "tallies" "[I"]
def wsX7_would_r2 : List Cond := [Cond.fieldLink RX3 21 "SegmentedCache$Store" "queues" "LSegmentedCache$Queues;", Cond.fieldLink RX3 27 "SegmentedCache$Store" "facts" "[[I", Cond.fieldLink RX3 33 "SegmentedCache$Store" "leavers" "LSegmentedCache$Leavers;", Cond.fieldLink RX3 40 "SegmentedCache$Store" "book" "LSegmentedCache$Book;", Cond.methodLink RX3 50 yX2_copyFrom, Cond.instanceMethod yX2_copyFrom, Cond.selects RX2 yX2_copyFrom yX2_copyFrom, Cond.initialized RX2, Cond.code yX2_copyFrom cX2_copyFrom 2 none, Cond.fieldLink RX2 9 "SegmentedCache$Queues" "sizes" "[I", Cond.methodLink RX2 24 arraycopyName, Cond.fieldLink RX2 15 "SegmentedCache$Queues" "weights" "[I", Cond.fieldLink RX2 18 "SegmentedCache$Queues" "newer" "[I", Cond.fieldLink RX2 21 "SegmentedCache$Queues" "older" "[I", Cond.methodLink RX3 54 yX1_copyFrom, Cond.instanceMethod yX1_copyFrom, Cond.selects RX1 yX1_copyFrom yX1_copyFrom, Cond.initialized RX1, Cond.code yX1_copyFrom cX1_copyFrom 2 none, Cond.fieldLink RX1 9 "SegmentedCache$Leavers" "ring" "[I", Cond.methodLink RX1 15 arraycopyName, Cond.fieldLink RX1 21 "SegmentedCache$Leavers" "total" "I", Cond.methodLink RX3 57 yX0_copyFrom, Cond.instanceMethod yX0_copyFrom]
def wsX7_would_r3 : List Cond := [Cond.selects RX0 yX0_copyFrom yX0_copyFrom, Cond.initialized RX0, Cond.code yX0_copyFrom cX0_copyFrom 2 none, Cond.fieldLink RX0 9 "SegmentedCache$Book" "keys" "[I", Cond.methodLink RX0 18 arraycopyName, Cond.fieldLink RX0 15 "SegmentedCache$Book" "wheres" "[I", Cond.fieldLink RX0 24 "SegmentedCache$Book" "size" "I", Cond.methodLink RX7 140 yX3_perform, Cond.instanceMethod yX3_perform, Cond.selects RX3 yX3_perform yX3_perform, Cond.code yX3_perform cX3_perform 5 (some .int), Cond.fieldLink RX3 131 "SegmentedCache$Trace" "size" "I", Cond.fieldLink RX3 137 "SegmentedCache$Trace" "keys" "[I", Cond.fieldLink RX3 140 "SegmentedCache$Trace" "kinds" "[I", Cond.fieldLink RX3 146 "SegmentedCache$Trace" "weights" "[I", Cond.methodLink RX3 143 yX3_fetch, Cond.instanceMethod yX3_fetch, Cond.selects RX3 yX3_fetch yX3_fetch, Cond.code yX3_fetch cX3_fetch 2 (some .boolean), Cond.methodLink RX3 77 yX3_isThing, Cond.instanceMethod yX3_isThing, Cond.selects RX3 yX3_isThing yX3_isThing, Cond.code yX3_isThing cX3_isThing 3 (some .boolean), Cond.methodLink RX3 91 yX3_hit]
def wsX7_would_r4 : List Cond := [Cond.instanceMethod yX3_hit, Cond.selects RX3 yX3_hit yX3_hit, Cond.code yX3_hit cX3_hit 4 none, Cond.methodLink RX3 104 Lib.Math.min.name, Cond.static Lib.Math.min.name, Cond.initialized "java/lang/Math", Cond.code Lib.Math.min.name Lib.Math.min.code 2 (some .int), Cond.methodLink RX3 95 yX3_move, Cond.instanceMethod yX3_move, Cond.selects RX3 yX3_move yX3_move, Cond.code yX3_move cX3_move 4 none, Cond.methodLink RX3 70 yX2_remove, Cond.instanceMethod yX2_remove, Cond.selects RX2 yX2_remove yX2_remove, Cond.code yX2_remove cX2_remove 4 none, Cond.methodLink RX3 74 yX2_add, Cond.instanceMethod yX2_add, Cond.selects RX2 yX2_add yX2_add, Cond.code yX2_add cX2_add 6 none, Cond.methodLink RX3 88 yX3_trim, Cond.instanceMethod yX3_trim, Cond.selects RX3 yX3_trim yX3_trim, Cond.code yX3_trim cX3_trim 1 none, Cond.methodLink RX3 107 yX3_demote]
def wsX7_would_r5 : List Cond := [Cond.instanceMethod yX3_demote, Cond.selects RX3 yX3_demote yX3_demote, Cond.code yX3_demote cX3_demote 3 none, Cond.constant RX3 116 (1000000), Cond.fieldLink RX3 63 "SegmentedCache$Queues" "weights" "[I", Cond.methodLink RX3 117 yX2_oldestLoose, Cond.instanceMethod yX2_oldestLoose, Cond.selects RX2 yX2_oldestLoose yX2_oldestLoose, Cond.code yX2_oldestLoose cX2_oldestLoose 5 (some .int), Cond.methodLink RX2 30 yX2_oldest, Cond.instanceMethod yX2_oldest, Cond.selects RX2 yX2_oldest yX2_oldest, Cond.code yX2_oldest cX2_oldest 2 (some .int), Cond.methodLink RX3 110 yX3_makeRoom, Cond.instanceMethod yX3_makeRoom, Cond.selects RX3 yX3_makeRoom yX3_makeRoom, Cond.code yX3_makeRoom cX3_makeRoom 4 none, Cond.methodLink RX3 121 yX3_weightOfThings, Cond.instanceMethod yX3_weightOfThings, Cond.selects RX3 yX3_weightOfThings yX3_weightOfThings, Cond.code yX3_weightOfThings cX3_weightOfThings 1 (some .int), Cond.methodLink RX3 125 yX1_add, Cond.instanceMethod yX1_add, Cond.selects RX1 yX1_add yX1_add]
def wsX7_would_r6 : List Cond := [Cond.code yX1_add cX1_add 2 none, Cond.methodLink RX1 25 yJ9_floorMod_7cf53, Cond.static yJ9_floorMod_7cf53, Cond.initialized RJ9, Cond.code yJ9_floorMod_7cf53 cJ9_floorMod_7cf53 3 (some .int), Cond.methodLink RX3 113 yX3_forget, Cond.instanceMethod yX3_forget, Cond.selects RX3 yX3_forget yX3_forget, Cond.code yX3_forget cX3_forget 4 none, Cond.fieldLink RX3 60 "SegmentedCache$Queues" "sizes" "[I", Cond.methodLink RX3 127 yX2_oldest, Cond.methodLink RX3 147 yX3_store, Cond.instanceMethod yX3_store, Cond.selects RX3 yX3_store yX3_store, Cond.code yX3_store cX3_store 6 (some .int), Cond.methodLink RX3 81 yX3_replace, Cond.instanceMethod yX3_replace, Cond.selects RX3 yX3_replace yX3_replace, Cond.code yX3_replace cX3_replace 5 none, Cond.methodLink RX3 85 yX3_admit, Cond.instanceMethod yX3_admit, Cond.selects RX3 yX3_admit yX3_admit, Cond.code yX3_admit cX3_admit 6 none, Cond.methodLink RX3 99 Lib.Math.max.name]
def wsX7_would_r7 : List Cond := [Cond.static Lib.Math.max.name, Cond.code Lib.Math.max.name Lib.Math.max.code 2 (some .int), Cond.methodLink RX7 143 yX3_weightOfThings]
def wsX7_would : List Cond := .code yX7_would cX7_would 3 (some .int) :: ((wsX7_would_r1 ++ (wsX7_would_r2 ++ (wsX7_would_r3 ++ (wsX7_would_r4 ++ (wsX7_would_r5 ++ (wsX7_would_r6 ++ wsX7_would_r7)))))) ++ wsX70 ++ wsX30 ++ wsX10 ++ wsX20 ++ wsX00 ++ wsX60)
def wsX7_need_r1 : List Cond := [Cond.fieldLink RX7 14 "SegmentedCache" "live" "LSegmentedCache$Store;", Cond.fieldLink RX7 49 "SegmentedCache$Store" "settings" "[I", Cond.methodLink RX7 53 Lib.Math.min.name, Cond.static Lib.Math.min.name, Cond.initialized "java/lang/Math", Cond.code Lib.Math.min.name Lib.Math.min.code 2 (some .int), Cond.fieldLink RX7 18 "SegmentedCache" "trial" "LSegmentedCache$Store;", Cond.fieldLink RX7 30 "SegmentedCache" "traces" "[LSegmentedCache$Trace;", Cond.methodLink RX7 137 yX7_isTrace, Cond.instanceMethod yX7_isTrace, Cond.selects RX7 yX7_isTrace yX7_isTrace, Cond.initialized RX7, Cond.code yX7_isTrace cX7_isTrace 2 (some .boolean), Cond.fieldLink RX7 130 "SegmentedCache" "traceCount" "I", Cond.methodLink RX7 117 yX7_rehearse, Cond.instanceMethod yX7_rehearse, Cond.selects RX7 yX7_rehearse yX7_rehearse, Cond.code yX7_rehearse cX7_rehearse 3 none, Cond.methodLink RX7 120 yX3_copyFrom, Cond.instanceMethod yX3_copyFrom, Cond.selects RX3 yX3_copyFrom yX3_copyFrom, Cond.initialized RX3, Cond.code yX3_copyFrom cX3_copyFrom 3 none, Cond.fieldLink RX3 9 "SegmentedCache$Store" "settings" "[I"]
def wsX7_need_r2 : List Cond := [Cond.methodLink RX3 44 arraycopyName, Cond.native arraycopyName, Cond.static arraycopyName, Cond.initialized "java/lang/System", Cond.fieldLink RX3 15 "SegmentedCache$Store" "tallies" "[I", Cond.fieldLink RX3 21 "SegmentedCache$Store" "queues" "LSegmentedCache$Queues;", Cond.fieldLink RX3 27 "SegmentedCache$Store" "facts" "[[I", Cond.fieldLink RX3 33 "SegmentedCache$Store" "leavers" "LSegmentedCache$Leavers;", Cond.fieldLink RX3 40 "SegmentedCache$Store" "book" "LSegmentedCache$Book;", Cond.methodLink RX3 50 yX2_copyFrom, Cond.instanceMethod yX2_copyFrom, Cond.selects RX2 yX2_copyFrom yX2_copyFrom, Cond.initialized RX2, Cond.code yX2_copyFrom cX2_copyFrom 2 none, Cond.fieldLink RX2 9 "SegmentedCache$Queues" "sizes" "[I", Cond.methodLink RX2 24 arraycopyName, Cond.fieldLink RX2 15 "SegmentedCache$Queues" "weights" "[I", Cond.fieldLink RX2 18 "SegmentedCache$Queues" "newer" "[I", Cond.fieldLink RX2 21 "SegmentedCache$Queues" "older" "[I", Cond.methodLink RX3 54 yX1_copyFrom, Cond.instanceMethod yX1_copyFrom, Cond.selects RX1 yX1_copyFrom yX1_copyFrom, Cond.initialized RX1, Cond.code yX1_copyFrom cX1_copyFrom 2 none]
def wsX7_need_r3 : List Cond := [Cond.fieldLink RX1 9 "SegmentedCache$Leavers" "ring" "[I", Cond.methodLink RX1 15 arraycopyName, Cond.fieldLink RX1 21 "SegmentedCache$Leavers" "total" "I", Cond.methodLink RX3 57 yX0_copyFrom, Cond.instanceMethod yX0_copyFrom, Cond.selects RX0 yX0_copyFrom yX0_copyFrom, Cond.initialized RX0, Cond.code yX0_copyFrom cX0_copyFrom 2 none, Cond.fieldLink RX0 9 "SegmentedCache$Book" "keys" "[I", Cond.methodLink RX0 18 arraycopyName, Cond.fieldLink RX0 15 "SegmentedCache$Book" "wheres" "[I", Cond.fieldLink RX0 24 "SegmentedCache$Book" "size" "I", Cond.methodLink RX7 59 yX3_trim, Cond.instanceMethod yX3_trim, Cond.selects RX3 yX3_trim yX3_trim, Cond.code yX3_trim cX3_trim 1 none, Cond.methodLink RX3 107 yX3_demote, Cond.instanceMethod yX3_demote, Cond.selects RX3 yX3_demote yX3_demote, Cond.code yX3_demote cX3_demote 3 none, Cond.constant RX3 116 (1000000), Cond.fieldLink RX3 63 "SegmentedCache$Queues" "weights" "[I", Cond.methodLink RX3 117 yX2_oldestLoose, Cond.instanceMethod yX2_oldestLoose]
def wsX7_need_r4 : List Cond := [Cond.selects RX2 yX2_oldestLoose yX2_oldestLoose, Cond.code yX2_oldestLoose cX2_oldestLoose 5 (some .int), Cond.methodLink RX2 30 yX2_oldest, Cond.instanceMethod yX2_oldest, Cond.selects RX2 yX2_oldest yX2_oldest, Cond.code yX2_oldest cX2_oldest 2 (some .int), Cond.methodLink RX3 95 yX3_move, Cond.instanceMethod yX3_move, Cond.selects RX3 yX3_move yX3_move, Cond.code yX3_move cX3_move 4 none, Cond.methodLink RX3 70 yX2_remove, Cond.instanceMethod yX2_remove, Cond.selects RX2 yX2_remove yX2_remove, Cond.code yX2_remove cX2_remove 4 none, Cond.methodLink RX3 74 yX2_add, Cond.instanceMethod yX2_add, Cond.selects RX2 yX2_add yX2_add, Cond.code yX2_add cX2_add 6 none, Cond.methodLink RX3 110 yX3_makeRoom, Cond.instanceMethod yX3_makeRoom, Cond.selects RX3 yX3_makeRoom yX3_makeRoom, Cond.code yX3_makeRoom cX3_makeRoom 4 none, Cond.methodLink RX3 121 yX3_weightOfThings, Cond.instanceMethod yX3_weightOfThings]
def wsX7_need_r5 : List Cond := [Cond.selects RX3 yX3_weightOfThings yX3_weightOfThings, Cond.code yX3_weightOfThings cX3_weightOfThings 1 (some .int), Cond.methodLink RX3 125 yX1_add, Cond.instanceMethod yX1_add, Cond.selects RX1 yX1_add yX1_add, Cond.code yX1_add cX1_add 2 none, Cond.methodLink RX1 25 yJ9_floorMod_7cf53, Cond.static yJ9_floorMod_7cf53, Cond.initialized RJ9, Cond.code yJ9_floorMod_7cf53 cJ9_floorMod_7cf53 3 (some .int), Cond.methodLink RX3 113 yX3_forget, Cond.instanceMethod yX3_forget, Cond.selects RX3 yX3_forget yX3_forget, Cond.code yX3_forget cX3_forget 4 none, Cond.fieldLink RX3 60 "SegmentedCache$Queues" "sizes" "[I", Cond.methodLink RX3 127 yX2_oldest, Cond.methodLink RX7 140 yX3_perform, Cond.instanceMethod yX3_perform, Cond.selects RX3 yX3_perform yX3_perform, Cond.code yX3_perform cX3_perform 5 (some .int), Cond.fieldLink RX3 131 "SegmentedCache$Trace" "size" "I", Cond.fieldLink RX3 137 "SegmentedCache$Trace" "keys" "[I", Cond.fieldLink RX3 140 "SegmentedCache$Trace" "kinds" "[I", Cond.fieldLink RX3 146 "SegmentedCache$Trace" "weights" "[I"]
def wsX7_need_r6 : List Cond := [Cond.methodLink RX3 143 yX3_fetch, Cond.instanceMethod yX3_fetch, Cond.selects RX3 yX3_fetch yX3_fetch, Cond.code yX3_fetch cX3_fetch 2 (some .boolean), Cond.methodLink RX3 77 yX3_isThing, Cond.instanceMethod yX3_isThing, Cond.selects RX3 yX3_isThing yX3_isThing, Cond.code yX3_isThing cX3_isThing 3 (some .boolean), Cond.methodLink RX3 91 yX3_hit, Cond.instanceMethod yX3_hit, Cond.selects RX3 yX3_hit yX3_hit, Cond.code yX3_hit cX3_hit 4 none, Cond.methodLink RX3 104 Lib.Math.min.name, Cond.methodLink RX3 88 yX3_trim, Cond.methodLink RX3 147 yX3_store, Cond.instanceMethod yX3_store, Cond.selects RX3 yX3_store yX3_store, Cond.code yX3_store cX3_store 6 (some .int), Cond.methodLink RX3 81 yX3_replace, Cond.instanceMethod yX3_replace, Cond.selects RX3 yX3_replace yX3_replace, Cond.code yX3_replace cX3_replace 5 none, Cond.methodLink RX3 85 yX3_admit, Cond.instanceMethod yX3_admit]
def wsX7_need_r7 : List Cond := [Cond.selects RX3 yX3_admit yX3_admit, Cond.code yX3_admit cX3_admit 6 none, Cond.methodLink RX3 99 Lib.Math.max.name, Cond.static Lib.Math.max.name, Cond.code Lib.Math.max.name Lib.Math.max.code 2 (some .int)]
def wsX7_need : List Cond := .code yX7_need cX7_need 4 (some .int) :: ((wsX7_need_r1 ++ (wsX7_need_r2 ++ (wsX7_need_r3 ++ (wsX7_need_r4 ++ (wsX7_need_r5 ++ (wsX7_need_r6 ++ wsX7_need_r7)))))) ++ wsX70 ++ wsX30 ++ wsX20 ++ wsX10 ++ wsX00 ++ wsX60)
def wsX7_isPart : List Cond := .code yX7_isPart cX7_isPart 1 (some .boolean) :: ([])
def wsX7_commonDivisor : List Cond := .code yX7_commonDivisor cX7_commonDivisor 6 (some .int) :: ([.constant RX7 166 (1000000)])
def wsX7_partOf : List Cond := .code yX7_partOf cX7_partOf 4 (some .long) :: ([.constantLong RX7 91 (-9223372036854775808), .methodLink RX7 163 yX7_commonDivisor, .static yX7_commonDivisor, .initialized RX7, .code yX7_commonDivisor cX7_commonDivisor 6 (some .int), .constant RX7 166 (1000000)])
def wsX7_odds_r1 : List Cond := [Cond.constantLong RX7 91 (-9223372036854775808), Cond.fieldLink RX7 14 "SegmentedCache" "live" "LSegmentedCache$Store;", Cond.fieldLink RX7 49 "SegmentedCache$Store" "settings" "[I", Cond.fieldLink RX7 18 "SegmentedCache" "trial" "LSegmentedCache$Store;", Cond.fieldLink RX7 30 "SegmentedCache" "traces" "[LSegmentedCache$Trace;", Cond.methodLink RX7 137 yX7_isTrace, Cond.instanceMethod yX7_isTrace, Cond.selects RX7 yX7_isTrace yX7_isTrace, Cond.initialized RX7, Cond.code yX7_isTrace cX7_isTrace 2 (some .boolean), Cond.fieldLink RX7 130 "SegmentedCache" "traceCount" "I", Cond.methodLink RX7 147 yX7_isPart, Cond.static yX7_isPart, Cond.code yX7_isPart cX7_isPart 1 (some .boolean), Cond.methodLink RX7 117 yX7_rehearse, Cond.instanceMethod yX7_rehearse, Cond.selects RX7 yX7_rehearse yX7_rehearse, Cond.code yX7_rehearse cX7_rehearse 3 none, Cond.methodLink RX7 120 yX3_copyFrom, Cond.instanceMethod yX3_copyFrom, Cond.selects RX3 yX3_copyFrom yX3_copyFrom, Cond.initialized RX3, Cond.code yX3_copyFrom cX3_copyFrom 3 none, Cond.fieldLink RX3 9 "SegmentedCache$Store" "settings" "[I"]
def wsX7_odds_r2 : List Cond := [Cond.methodLink RX3 44 arraycopyName, Cond.native arraycopyName, Cond.static arraycopyName, Cond.initialized "java/lang/System", Cond.fieldLink RX3 15 "SegmentedCache$Store" "tallies" "[I", Cond.fieldLink RX3 21 "SegmentedCache$Store" "queues" "LSegmentedCache$Queues;", Cond.fieldLink RX3 27 "SegmentedCache$Store" "facts" "[[I", Cond.fieldLink RX3 33 "SegmentedCache$Store" "leavers" "LSegmentedCache$Leavers;", Cond.fieldLink RX3 40 "SegmentedCache$Store" "book" "LSegmentedCache$Book;", Cond.methodLink RX3 50 yX2_copyFrom, Cond.instanceMethod yX2_copyFrom, Cond.selects RX2 yX2_copyFrom yX2_copyFrom, Cond.initialized RX2, Cond.code yX2_copyFrom cX2_copyFrom 2 none, Cond.fieldLink RX2 9 "SegmentedCache$Queues" "sizes" "[I", Cond.methodLink RX2 24 arraycopyName, Cond.fieldLink RX2 15 "SegmentedCache$Queues" "weights" "[I", Cond.fieldLink RX2 18 "SegmentedCache$Queues" "newer" "[I", Cond.fieldLink RX2 21 "SegmentedCache$Queues" "older" "[I", Cond.methodLink RX3 54 yX1_copyFrom, Cond.instanceMethod yX1_copyFrom, Cond.selects RX1 yX1_copyFrom yX1_copyFrom, Cond.initialized RX1, Cond.code yX1_copyFrom cX1_copyFrom 2 none]
def wsX7_odds_r3 : List Cond := [Cond.fieldLink RX1 9 "SegmentedCache$Leavers" "ring" "[I", Cond.methodLink RX1 15 arraycopyName, Cond.fieldLink RX1 21 "SegmentedCache$Leavers" "total" "I", Cond.methodLink RX3 57 yX0_copyFrom, Cond.instanceMethod yX0_copyFrom, Cond.selects RX0 yX0_copyFrom yX0_copyFrom, Cond.initialized RX0, Cond.code yX0_copyFrom cX0_copyFrom 2 none, Cond.fieldLink RX0 9 "SegmentedCache$Book" "keys" "[I", Cond.methodLink RX0 18 arraycopyName, Cond.fieldLink RX0 15 "SegmentedCache$Book" "wheres" "[I", Cond.fieldLink RX0 24 "SegmentedCache$Book" "size" "I", Cond.methodLink RX7 59 yX3_trim, Cond.instanceMethod yX3_trim, Cond.selects RX3 yX3_trim yX3_trim, Cond.code yX3_trim cX3_trim 1 none, Cond.methodLink RX3 107 yX3_demote, Cond.instanceMethod yX3_demote, Cond.selects RX3 yX3_demote yX3_demote, Cond.code yX3_demote cX3_demote 3 none, Cond.constant RX3 116 (1000000), Cond.fieldLink RX3 63 "SegmentedCache$Queues" "weights" "[I", Cond.methodLink RX3 117 yX2_oldestLoose, Cond.instanceMethod yX2_oldestLoose]
def wsX7_odds_r4 : List Cond := [Cond.selects RX2 yX2_oldestLoose yX2_oldestLoose, Cond.code yX2_oldestLoose cX2_oldestLoose 5 (some .int), Cond.methodLink RX2 30 yX2_oldest, Cond.instanceMethod yX2_oldest, Cond.selects RX2 yX2_oldest yX2_oldest, Cond.code yX2_oldest cX2_oldest 2 (some .int), Cond.methodLink RX3 95 yX3_move, Cond.instanceMethod yX3_move, Cond.selects RX3 yX3_move yX3_move, Cond.code yX3_move cX3_move 4 none, Cond.methodLink RX3 70 yX2_remove, Cond.instanceMethod yX2_remove, Cond.selects RX2 yX2_remove yX2_remove, Cond.code yX2_remove cX2_remove 4 none, Cond.methodLink RX3 74 yX2_add, Cond.instanceMethod yX2_add, Cond.selects RX2 yX2_add yX2_add, Cond.code yX2_add cX2_add 6 none, Cond.methodLink RX3 110 yX3_makeRoom, Cond.instanceMethod yX3_makeRoom, Cond.selects RX3 yX3_makeRoom yX3_makeRoom, Cond.code yX3_makeRoom cX3_makeRoom 4 none, Cond.methodLink RX3 121 yX3_weightOfThings, Cond.instanceMethod yX3_weightOfThings]
def wsX7_odds_r5 : List Cond := [Cond.selects RX3 yX3_weightOfThings yX3_weightOfThings, Cond.code yX3_weightOfThings cX3_weightOfThings 1 (some .int), Cond.methodLink RX3 125 yX1_add, Cond.instanceMethod yX1_add, Cond.selects RX1 yX1_add yX1_add, Cond.code yX1_add cX1_add 2 none, Cond.methodLink RX1 25 yJ9_floorMod_7cf53, Cond.static yJ9_floorMod_7cf53, Cond.initialized RJ9, Cond.code yJ9_floorMod_7cf53 cJ9_floorMod_7cf53 3 (some .int), Cond.methodLink RX3 113 yX3_forget, Cond.instanceMethod yX3_forget, Cond.selects RX3 yX3_forget yX3_forget, Cond.code yX3_forget cX3_forget 4 none, Cond.fieldLink RX3 60 "SegmentedCache$Queues" "sizes" "[I", Cond.methodLink RX3 127 yX2_oldest, Cond.methodLink RX7 140 yX3_perform, Cond.instanceMethod yX3_perform, Cond.selects RX3 yX3_perform yX3_perform, Cond.code yX3_perform cX3_perform 5 (some .int), Cond.fieldLink RX3 131 "SegmentedCache$Trace" "size" "I", Cond.fieldLink RX3 137 "SegmentedCache$Trace" "keys" "[I", Cond.fieldLink RX3 140 "SegmentedCache$Trace" "kinds" "[I", Cond.fieldLink RX3 146 "SegmentedCache$Trace" "weights" "[I"]
def wsX7_odds_r6 : List Cond := [Cond.methodLink RX3 143 yX3_fetch, Cond.instanceMethod yX3_fetch, Cond.selects RX3 yX3_fetch yX3_fetch, Cond.code yX3_fetch cX3_fetch 2 (some .boolean), Cond.methodLink RX3 77 yX3_isThing, Cond.instanceMethod yX3_isThing, Cond.selects RX3 yX3_isThing yX3_isThing, Cond.code yX3_isThing cX3_isThing 3 (some .boolean), Cond.methodLink RX3 91 yX3_hit, Cond.instanceMethod yX3_hit, Cond.selects RX3 yX3_hit yX3_hit, Cond.code yX3_hit cX3_hit 4 none, Cond.methodLink RX3 104 Lib.Math.min.name, Cond.static Lib.Math.min.name, Cond.initialized "java/lang/Math", Cond.code Lib.Math.min.name Lib.Math.min.code 2 (some .int), Cond.methodLink RX3 88 yX3_trim, Cond.methodLink RX3 147 yX3_store, Cond.instanceMethod yX3_store, Cond.selects RX3 yX3_store yX3_store, Cond.code yX3_store cX3_store 6 (some .int), Cond.methodLink RX3 81 yX3_replace, Cond.instanceMethod yX3_replace, Cond.selects RX3 yX3_replace yX3_replace]
def wsX7_odds_r7 : List Cond := [Cond.code yX3_replace cX3_replace 5 none, Cond.methodLink RX3 85 yX3_admit, Cond.instanceMethod yX3_admit, Cond.selects RX3 yX3_admit yX3_admit, Cond.code yX3_admit cX3_admit 6 none, Cond.methodLink RX3 99 Lib.Math.max.name, Cond.static Lib.Math.max.name, Cond.code Lib.Math.max.name Lib.Math.max.code 2 (some .int), Cond.methodLink RX7 150 yX7_partOf, Cond.static yX7_partOf, Cond.code yX7_partOf cX7_partOf 4 (some .long), Cond.methodLink RX7 163 yX7_commonDivisor, Cond.static yX7_commonDivisor, Cond.code yX7_commonDivisor cX7_commonDivisor 6 (some .int), Cond.constant RX7 166 (1000000)]
def wsX7_odds : List Cond := .code yX7_odds cX7_odds 7 (some .long) :: ((wsX7_odds_r1 ++ (wsX7_odds_r2 ++ (wsX7_odds_r3 ++ (wsX7_odds_r4 ++ (wsX7_odds_r5 ++ (wsX7_odds_r6 ++ wsX7_odds_r7)))))) ++ wsX70 ++ wsX30 ++ wsX20 ++ wsX10 ++ wsX00 ++ wsX60)
def wsX7_mean : List Cond := .code yX7_mean cX7_mean 7 (some .long) :: ([.constantLong RX7 91 (-9223372036854775808), .fieldLink RX7 14 "SegmentedCache" "live" "LSegmentedCache$Store;", .fieldLink RX7 62 "SegmentedCache$Store" "queues" "LSegmentedCache$Queues;", .fieldLink RX7 154 "SegmentedCache$Queues" "sizes" "[I", .fieldLink RX7 97 "SegmentedCache$Store" "facts" "[[I", .fieldLink RX7 160 "SegmentedCache$Queues" "newer" "[I", .methodLink RX7 147 yX7_isPart, .static yX7_isPart, .initialized RX7, .code yX7_isPart cX7_isPart 1 (some .boolean), .methodLink RX7 157 yX2_oldest, .instanceMethod yX2_oldest, .selects RX2 yX2_oldest yX2_oldest, .initialized RX2, .code yX2_oldest cX2_oldest 2 (some .int), .fieldLink RX2 18 "SegmentedCache$Queues" "newer" "[I", .methodLink RX7 150 yX7_partOf, .static yX7_partOf, .code yX7_partOf cX7_partOf 4 (some .long), .methodLink RX7 163 yX7_commonDivisor, .static yX7_commonDivisor, .code yX7_commonDivisor cX7_commonDivisor 6 (some .int), .constant RX7 166 (1000000)] ++ wsX70 ++ wsX30 ++ wsX20)
def wsX7_book : List Cond := .code yX7_book cX7_book 6 (some .int) :: ([.fieldLink RX7 14 "SegmentedCache" "live" "LSegmentedCache$Store;", .fieldLink RX7 167 "SegmentedCache$Store" "book" "LSegmentedCache$Book;", .fieldLink RX7 171 "SegmentedCache$Book" "size" "I", .fieldLink RX7 176 "SegmentedCache$Book" "keys" "[I", .fieldLink RX7 179 "SegmentedCache$Book" "wheres" "[I", .methodLink RX7 84 yX7_keyOf, .static yX7_keyOf, .initialized RX7, .code yX7_keyOf cX7_keyOf 2 (some .int)] ++ wsX70 ++ wsX30 ++ wsX00)
def wsX7_looked : List Cond := .code yX7_looked cX7_looked 3 (some .int) :: ([.fieldLink RX7 14 "SegmentedCache" "live" "LSegmentedCache$Store;", .fieldLink RX7 167 "SegmentedCache$Store" "book" "LSegmentedCache$Book;", .fieldLink RX7 171 "SegmentedCache$Book" "size" "I", .fieldLink RX7 97 "SegmentedCache$Store" "facts" "[[I", .fieldLink RX7 176 "SegmentedCache$Book" "keys" "[I", .fieldLink RX7 179 "SegmentedCache$Book" "wheres" "[I"] ++ wsX70 ++ wsX30 ++ wsX00)
def wsX7_isTape : List Cond := .code yX7_isTape cX7_isTape 1 (some .boolean) :: ([])
def wsX7_judge : List Cond := .code yX7_judge cX7_judge 8 (some .int) :: ([.fieldLink RX7 36 "SegmentedCache" "tapes" "[LSegmentedCache$Tape;", .fieldLink RX7 185 "SegmentedCache$Tape" "sort" "I", .fieldLink RX7 14 "SegmentedCache" "live" "LSegmentedCache$Store;", .fieldLink RX7 62 "SegmentedCache$Store" "queues" "LSegmentedCache$Queues;", .fieldLink RX7 154 "SegmentedCache$Queues" "sizes" "[I", .fieldLink RX7 188 "SegmentedCache$Tape" "length" "I", .fieldLink RX7 189 "SegmentedCache$Tape" "items" "[J", .fieldLink RX7 160 "SegmentedCache$Queues" "newer" "[I", .methodLink RX7 182 yX7_isTape, .static yX7_isTape, .initialized RX7, .code yX7_isTape cX7_isTape 1 (some .boolean), .methodLink RX7 157 yX2_oldest, .instanceMethod yX2_oldest, .selects RX2 yX2_oldest yX2_oldest, .initialized RX2, .code yX2_oldest cX2_oldest 2 (some .int), .fieldLink RX2 18 "SegmentedCache$Queues" "newer" "[I"] ++ wsX70 ++ wsX40 ++ wsX30 ++ wsX20)
def wsX7_image_r1 : List Cond := [Cond.fieldLink RX7 193 "SegmentedCache" "kept" "LSegmentedCache$Store;", Cond.classLink RX7 11 RX3, Cond.instantiable RX3 6, Cond.initialized RX3, Cond.fieldLink RX7 14 "SegmentedCache" "live" "LSegmentedCache$Store;", Cond.methodLink RX7 13 yX3_init, Cond.instanceMethod yX3_init, Cond.code yX3_init cX3_init 1 none, Cond.methodLink RX3 3 objectInit, Cond.instanceMethod objectInit, Cond.code objectInit ⟨#[0xb1]⟩ 1 none, Cond.arrayClass .int, Cond.fieldLink RX3 9 "SegmentedCache$Store" "settings" "[I", Cond.fieldLink RX3 15 "SegmentedCache$Store" "tallies" "[I", Cond.classLink RX3 18 RX2, Cond.instantiable RX2 4, Cond.initialized RX2, Cond.fieldLink RX3 21 "SegmentedCache$Store" "queues" "LSegmentedCache$Queues;", Cond.classLink RX3 25 "[[I", Cond.fieldLink RX3 27 "SegmentedCache$Store" "facts" "[[I", Cond.classLink RX3 30 RX1, Cond.instantiable RX1 2, Cond.initialized RX1, Cond.fieldLink RX3 33 "SegmentedCache$Store" "leavers" "LSegmentedCache$Leavers;"]
def wsX7_image_r2 : List Cond := [Cond.classLink RX3 37 RX0, Cond.instantiable RX0 3, Cond.initialized RX0, Cond.fieldLink RX3 40 "SegmentedCache$Store" "book" "LSegmentedCache$Book;", Cond.methodLink RX3 20 yX2_init, Cond.instanceMethod yX2_init, Cond.code yX2_init cX2_init 2 none, Cond.methodLink RX2 3 objectInit, Cond.fieldLink RX2 9 "SegmentedCache$Queues" "sizes" "[I", Cond.fieldLink RX2 15 "SegmentedCache$Queues" "weights" "[I", Cond.fieldLink RX2 18 "SegmentedCache$Queues" "newer" "[I", Cond.fieldLink RX2 21 "SegmentedCache$Queues" "older" "[I", Cond.instanceMethod yX1_init, Cond.code yX1_init cX1_init 1 none, Cond.methodLink RX1 3 objectInit, Cond.fieldLink RX1 9 "SegmentedCache$Leavers" "ring" "[I", Cond.instanceMethod yX0_init, Cond.code yX0_init cX0_init 1 none, Cond.methodLink RX0 3 objectInit, Cond.fieldLink RX0 9 "SegmentedCache$Book" "keys" "[I", Cond.fieldLink RX0 15 "SegmentedCache$Book" "wheres" "[I", Cond.methodLink RX7 120 yX3_copyFrom, Cond.instanceMethod yX3_copyFrom, Cond.selects RX3 yX3_copyFrom yX3_copyFrom]
def wsX7_image_r3 : List Cond := [Cond.code yX3_copyFrom cX3_copyFrom 3 none, Cond.methodLink RX3 44 arraycopyName, Cond.native arraycopyName, Cond.static arraycopyName, Cond.initialized "java/lang/System", Cond.methodLink RX3 50 yX2_copyFrom, Cond.instanceMethod yX2_copyFrom, Cond.selects RX2 yX2_copyFrom yX2_copyFrom, Cond.code yX2_copyFrom cX2_copyFrom 2 none, Cond.methodLink RX2 24 arraycopyName, Cond.methodLink RX3 54 yX1_copyFrom, Cond.instanceMethod yX1_copyFrom, Cond.selects RX1 yX1_copyFrom yX1_copyFrom, Cond.code yX1_copyFrom cX1_copyFrom 2 none, Cond.methodLink RX1 15 arraycopyName, Cond.fieldLink RX1 21 "SegmentedCache$Leavers" "total" "I", Cond.methodLink RX3 57 yX0_copyFrom, Cond.instanceMethod yX0_copyFrom, Cond.selects RX0 yX0_copyFrom yX0_copyFrom, Cond.code yX0_copyFrom cX0_copyFrom 2 none, Cond.methodLink RX0 18 arraycopyName, Cond.fieldLink RX0 24 "SegmentedCache$Book" "size" "I", Cond.methodLink RX7 196 yX3_thingCount, Cond.instanceMethod yX3_thingCount]
def wsX7_image_r4 : List Cond := [Cond.selects RX3 yX3_thingCount yX3_thingCount, Cond.code yX3_thingCount cX3_thingCount 1 (some .int), Cond.fieldLink RX3 60 "SegmentedCache$Queues" "sizes" "[I"]
def wsX7_image : List Cond := .code yX7_image cX7_image 1 (some .int) :: ((wsX7_image_r1 ++ (wsX7_image_r2 ++ (wsX7_image_r3 ++ wsX7_image_r4))) ++ wsX70 ++ wsX30 ++ wsX20 ++ wsX10 ++ wsX00)
def wsX7_undo_r1 : List Cond := [Cond.fieldLink RX7 193 "SegmentedCache" "kept" "LSegmentedCache$Store;", Cond.fieldLink RX7 14 "SegmentedCache" "live" "LSegmentedCache$Store;", Cond.methodLink RX7 120 yX3_copyFrom, Cond.instanceMethod yX3_copyFrom, Cond.selects RX3 yX3_copyFrom yX3_copyFrom, Cond.initialized RX3, Cond.code yX3_copyFrom cX3_copyFrom 3 none, Cond.fieldLink RX3 9 "SegmentedCache$Store" "settings" "[I", Cond.methodLink RX3 44 arraycopyName, Cond.native arraycopyName, Cond.static arraycopyName, Cond.initialized "java/lang/System", Cond.fieldLink RX3 15 "SegmentedCache$Store" "tallies" "[I", Cond.fieldLink RX3 21 "SegmentedCache$Store" "queues" "LSegmentedCache$Queues;", Cond.fieldLink RX3 27 "SegmentedCache$Store" "facts" "[[I", Cond.fieldLink RX3 33 "SegmentedCache$Store" "leavers" "LSegmentedCache$Leavers;", Cond.fieldLink RX3 40 "SegmentedCache$Store" "book" "LSegmentedCache$Book;", Cond.methodLink RX3 50 yX2_copyFrom, Cond.instanceMethod yX2_copyFrom, Cond.selects RX2 yX2_copyFrom yX2_copyFrom, Cond.initialized RX2, Cond.code yX2_copyFrom cX2_copyFrom 2 none, Cond.fieldLink RX2 9 "SegmentedCache$Queues" "sizes" "[I", Cond.methodLink RX2 24 arraycopyName]
def wsX7_undo_r2 : List Cond := [Cond.fieldLink RX2 15 "SegmentedCache$Queues" "weights" "[I", Cond.fieldLink RX2 18 "SegmentedCache$Queues" "newer" "[I", Cond.fieldLink RX2 21 "SegmentedCache$Queues" "older" "[I", Cond.methodLink RX3 54 yX1_copyFrom, Cond.instanceMethod yX1_copyFrom, Cond.selects RX1 yX1_copyFrom yX1_copyFrom, Cond.initialized RX1, Cond.code yX1_copyFrom cX1_copyFrom 2 none, Cond.fieldLink RX1 9 "SegmentedCache$Leavers" "ring" "[I", Cond.methodLink RX1 15 arraycopyName, Cond.fieldLink RX1 21 "SegmentedCache$Leavers" "total" "I", Cond.methodLink RX3 57 yX0_copyFrom, Cond.instanceMethod yX0_copyFrom, Cond.selects RX0 yX0_copyFrom yX0_copyFrom, Cond.initialized RX0, Cond.code yX0_copyFrom cX0_copyFrom 2 none, Cond.fieldLink RX0 9 "SegmentedCache$Book" "keys" "[I", Cond.methodLink RX0 18 arraycopyName, Cond.fieldLink RX0 15 "SegmentedCache$Book" "wheres" "[I", Cond.fieldLink RX0 24 "SegmentedCache$Book" "size" "I", Cond.methodLink RX7 196 yX3_thingCount, Cond.instanceMethod yX3_thingCount, Cond.selects RX3 yX3_thingCount yX3_thingCount, Cond.code yX3_thingCount cX3_thingCount 1 (some .int)]
def wsX7_undo_r3 : List Cond := [Cond.fieldLink RX3 60 "SegmentedCache$Queues" "sizes" "[I"]
def wsX7_undo : List Cond := .code yX7_undo cX7_undo 1 (some .int) :: ((wsX7_undo_r1 ++ (wsX7_undo_r2 ++ wsX7_undo_r3)) ++ wsX70 ++ wsX30 ++ wsX20 ++ wsX10 ++ wsX00)
def wsX7_count : List Cond := .code yX7_count cX7_count 2 (some .int) :: ([.fieldLink RX7 14 "SegmentedCache" "live" "LSegmentedCache$Store;", .fieldLink RX7 62 "SegmentedCache$Store" "queues" "LSegmentedCache$Queues;", .fieldLink RX7 154 "SegmentedCache$Queues" "sizes" "[I", .fieldLink RX7 130 "SegmentedCache" "traceCount" "I", .fieldLink RX7 167 "SegmentedCache$Store" "book" "LSegmentedCache$Book;", .fieldLink RX7 171 "SegmentedCache$Book" "size" "I", .fieldLink RX7 24 "SegmentedCache" "text" "LSegmentedCache$Text;", .fieldLink RX7 124 "SegmentedCache$Text" "length" "I"] ++ wsX70 ++ wsX30 ++ wsX20 ++ wsX00 ++ wsX50)
def wsX7_tape : List Cond := .code yX7_tape cX7_tape 4 (some .int) :: ([.fieldLink RX7 36 "SegmentedCache" "tapes" "[LSegmentedCache$Tape;", .methodLink RX7 182 yX7_isTape, .static yX7_isTape, .initialized RX7, .code yX7_isTape cX7_isTape 1 (some .boolean), .methodLink RX7 199 yX4_become, .instanceMethod yX4_become, .selects RX4 yX4_become yX4_become, .initialized RX4, .code yX4_become cX4_become 4 none, .fieldLink RX4 9 "SegmentedCache$Tape" "items" "[J", .fieldLink RX4 15 "SegmentedCache$Tape" "sort" "I", .fieldLink RX4 19 "SegmentedCache$Tape" "length" "I"] ++ wsX70 ++ wsX40)
def wsX7_item : List Cond := .code yX7_item cX7_item 6 (some .int) :: ([.fieldLink RX7 36 "SegmentedCache" "tapes" "[LSegmentedCache$Tape;", .fieldLink RX7 185 "SegmentedCache$Tape" "sort" "I", .fieldLink RX7 188 "SegmentedCache$Tape" "length" "I", .fieldLink RX7 189 "SegmentedCache$Tape" "items" "[J", .methodLink RX7 182 yX7_isTape, .static yX7_isTape, .initialized RX7, .code yX7_isTape cX7_isTape 1 (some .boolean), .methodLink RX7 202 yX4_asItem, .instanceMethod yX4_asItem, .selects RX4 yX4_asItem yX4_asItem, .initialized RX4, .code yX4_asItem cX4_asItem 3 (some .long), .fieldLink RX4 15 "SegmentedCache$Tape" "sort" "I"] ++ wsX70 ++ wsX40)
def wsX7_read : List Cond := .code yX7_read cX7_read 4 (some .long) :: ([.constantLong RX7 91 (-9223372036854775808), .fieldLink RX7 36 "SegmentedCache" "tapes" "[LSegmentedCache$Tape;", .fieldLink RX7 188 "SegmentedCache$Tape" "length" "I", .fieldLink RX7 189 "SegmentedCache$Tape" "items" "[J", .methodLink RX7 182 yX7_isTape, .static yX7_isTape, .initialized RX7, .code yX7_isTape cX7_isTape 1 (some .boolean)] ++ wsX70 ++ wsX40)
def wsX7_shift : List Cond := .code yX7_shift cX7_shift 8 (some .int) :: ([.fieldLink RX7 36 "SegmentedCache" "tapes" "[LSegmentedCache$Tape;", .fieldLink RX7 185 "SegmentedCache$Tape" "sort" "I", .fieldLink RX7 189 "SegmentedCache$Tape" "items" "[J", .methodLink RX7 210 arraycopyName, .native arraycopyName, .static arraycopyName, .initialized "java/lang/System", .methodLink RX7 182 yX7_isTape, .static yX7_isTape, .initialized RX7, .code yX7_isTape cX7_isTape 1 (some .boolean), .methodLink RX7 206 yX4_hasRange, .instanceMethod yX4_hasRange, .selects RX4 yX4_hasRange yX4_hasRange, .initialized RX4, .code yX4_hasRange cX4_hasRange 3 (some .boolean), .fieldLink RX4 19 "SegmentedCache$Tape" "length" "I"] ++ wsX70 ++ wsX40)
def wsX8_init : List Cond := .code yX8_init cX8_init 2 none :: ([.methodLink RX8 5 objectInit, .instanceMethod objectInit, .code objectInit ⟨#[0xb1]⟩ 1 none, .arrayClass .int, .fieldLink RX8 11 "SegmentedCacheModel" "g" "[I", .fieldLink RX8 15 "SegmentedCacheModel" "saved" "[I", .fieldLink RX8 18 "SegmentedCacheModel" "kept" "[I", .fieldLink RX8 21 "SegmentedCacheModel" "going" "[I", .fieldLink RX8 24 "SegmentedCacheModel" "text" "[I", .fieldLink RX8 27 "SegmentedCacheModel" "acts" "[I", .fieldLink RX8 30 "SegmentedCacheModel" "keys" "[I", .fieldLink RX8 33 "SegmentedCacheModel" "weights" "[I", .fieldLink RX8 36 "SegmentedCacheModel" "many" "[I", .fieldLink RX8 39 "SegmentedCacheModel" "tapeSort" "[I", .fieldLink RX8 42 "SegmentedCacheModel" "tapeSize" "[I", .classLink RX8 45 "[[J", .arrayClass .long, .fieldLink RX8 47 "SegmentedCacheModel" "tapes" "[[J", .fieldLink RX8 50 "SegmentedCacheModel" "moved" "[J"] ++ wsX80)
def wsX8_in : List Cond := .code yX8_in cX8_in 3 (some .boolean) :: ([])
def wsX8_isKey : List Cond := .code yX8_isKey cX8_isKey 2 (some .boolean) :: ([.methodLink RX8 54 yX8_in, .static yX8_in, .initialized RX8, .code yX8_in cX8_in 3 (some .boolean)])
def wsX8_copy : List Cond := .code yX8_copy cX8_copy 3 none :: ([])
def wsX8_goes : List Cond := .code yX8_goes cX8_goes 3 none :: ([.fieldLink RX8 11 "SegmentedCacheModel" "g" "[I"] ++ wsX80)
def wsX8_weighs : List Cond := .code yX8_weighs cX8_weighs 3 none :: ([.fieldLink RX8 11 "SegmentedCacheModel" "g" "[I"] ++ wsX80)
def wsX8_isThing : List Cond := .code yX8_isThing cX8_isThing 2 (some .boolean) :: ([.fieldLink RX8 11 "SegmentedCacheModel" "g" "[I"] ++ wsX80)
def wsX8_oldest : List Cond := .code yX8_oldest cX8_oldest 5 (some .int) :: ([.fieldLink RX8 11 "SegmentedCacheModel" "g" "[I"] ++ wsX80)
def wsX8_went : List Cond := .code yX8_went cX8_went 4 none :: ([.fieldLink RX8 11 "SegmentedCacheModel" "g" "[I", .fieldLink RX8 62 "SegmentedCacheModel" "goingMany" "I", .fieldLink RX8 21 "SegmentedCacheModel" "going" "[I", .methodLink RX8 58 yX8_goes, .instanceMethod yX8_goes, .selects RX8 yX8_goes yX8_goes, .initialized RX8, .code yX8_goes cX8_goes 3 none] ++ wsX80)
def wsX8_sinks : List Cond := .code yX8_sinks cX8_sinks 2 none :: ([.fieldLink RX8 11 "SegmentedCacheModel" "g" "[I", .methodLink RX8 66 yX8_oldest, .instanceMethod yX8_oldest, .selects RX8 yX8_oldest yX8_oldest, .initialized RX8, .code yX8_oldest cX8_oldest 5 (some .int), .methodLink RX8 58 yX8_goes, .instanceMethod yX8_goes, .selects RX8 yX8_goes yX8_goes, .code yX8_goes cX8_goes 3 none] ++ wsX80)
def wsX8_lets : List Cond := .code yX8_lets cX8_lets 3 none :: ([.fieldLink RX8 11 "SegmentedCacheModel" "g" "[I", .methodLink RX8 66 yX8_oldest, .instanceMethod yX8_oldest, .selects RX8 yX8_oldest yX8_oldest, .initialized RX8, .code yX8_oldest cX8_oldest 5 (some .int), .methodLink RX8 58 yX8_goes, .instanceMethod yX8_goes, .selects RX8 yX8_goes yX8_goes, .code yX8_goes cX8_goes 3 none, .methodLink RX8 70 yX8_went, .instanceMethod yX8_went, .selects RX8 yX8_went yX8_went, .code yX8_went cX8_went 4 none, .fieldLink RX8 62 "SegmentedCacheModel" "goingMany" "I", .fieldLink RX8 21 "SegmentedCacheModel" "going" "[I"] ++ wsX80)
def wsX8_trim : List Cond := .code yX8_trim cX8_trim 2 none :: ([.fieldLink RX8 11 "SegmentedCacheModel" "g" "[I", .methodLink RX8 73 yX8_sinks, .instanceMethod yX8_sinks, .selects RX8 yX8_sinks yX8_sinks, .initialized RX8, .code yX8_sinks cX8_sinks 2 none, .methodLink RX8 66 yX8_oldest, .instanceMethod yX8_oldest, .selects RX8 yX8_oldest yX8_oldest, .code yX8_oldest cX8_oldest 5 (some .int), .methodLink RX8 58 yX8_goes, .instanceMethod yX8_goes, .selects RX8 yX8_goes yX8_goes, .code yX8_goes cX8_goes 3 none, .methodLink RX8 76 yX8_lets, .instanceMethod yX8_lets, .selects RX8 yX8_lets yX8_lets, .code yX8_lets cX8_lets 3 none, .methodLink RX8 70 yX8_went, .instanceMethod yX8_went, .selects RX8 yX8_went yX8_went, .code yX8_went cX8_went 4 none, .fieldLink RX8 62 "SegmentedCacheModel" "goingMany" "I", .fieldLink RX8 21 "SegmentedCacheModel" "going" "[I"] ++ wsX80)
def wsX8_hit : List Cond := .code yX8_hit cX8_hit 2 none :: ([.fieldLink RX8 11 "SegmentedCacheModel" "g" "[I", .methodLink RX8 58 yX8_goes, .instanceMethod yX8_goes, .selects RX8 yX8_goes yX8_goes, .initialized RX8, .code yX8_goes cX8_goes 3 none] ++ wsX80)
def wsX8_putIn_r1 : List Cond := [Cond.fieldLink RX8 11 "SegmentedCacheModel" "g" "[I", Cond.methodLink RX8 79 yX8_weighs, Cond.instanceMethod yX8_weighs, Cond.selects RX8 yX8_weighs yX8_weighs, Cond.initialized RX8, Cond.code yX8_weighs cX8_weighs 3 none, Cond.methodLink RX8 82 yX8_hit, Cond.instanceMethod yX8_hit, Cond.selects RX8 yX8_hit yX8_hit, Cond.code yX8_hit cX8_hit 2 none, Cond.methodLink RX8 58 yX8_goes, Cond.instanceMethod yX8_goes, Cond.selects RX8 yX8_goes yX8_goes, Cond.code yX8_goes cX8_goes 3 none, Cond.methodLink RX8 86 yX8_trim, Cond.instanceMethod yX8_trim, Cond.selects RX8 yX8_trim yX8_trim, Cond.code yX8_trim cX8_trim 2 none, Cond.methodLink RX8 73 yX8_sinks, Cond.instanceMethod yX8_sinks, Cond.selects RX8 yX8_sinks yX8_sinks, Cond.code yX8_sinks cX8_sinks 2 none, Cond.methodLink RX8 66 yX8_oldest, Cond.instanceMethod yX8_oldest]
def wsX8_putIn_r2 : List Cond := [Cond.selects RX8 yX8_oldest yX8_oldest, Cond.code yX8_oldest cX8_oldest 5 (some .int), Cond.methodLink RX8 76 yX8_lets, Cond.instanceMethod yX8_lets, Cond.selects RX8 yX8_lets yX8_lets, Cond.code yX8_lets cX8_lets 3 none, Cond.methodLink RX8 70 yX8_went, Cond.instanceMethod yX8_went, Cond.selects RX8 yX8_went yX8_went, Cond.code yX8_went cX8_went 4 none, Cond.fieldLink RX8 62 "SegmentedCacheModel" "goingMany" "I", Cond.fieldLink RX8 21 "SegmentedCacheModel" "going" "[I"]
def wsX8_putIn : List Cond := .code yX8_putIn cX8_putIn 6 (some .int) :: ((wsX8_putIn_r1 ++ wsX8_putIn_r2) ++ wsX80)
def wsX8_gets_r1 : List Cond := [Cond.fieldLink RX8 11 "SegmentedCacheModel" "g" "[I", Cond.methodLink RX8 89 yX8_isThing, Cond.instanceMethod yX8_isThing, Cond.selects RX8 yX8_isThing yX8_isThing, Cond.initialized RX8, Cond.code yX8_isThing cX8_isThing 2 (some .boolean), Cond.methodLink RX8 82 yX8_hit, Cond.instanceMethod yX8_hit, Cond.selects RX8 yX8_hit yX8_hit, Cond.code yX8_hit cX8_hit 2 none, Cond.methodLink RX8 58 yX8_goes, Cond.instanceMethod yX8_goes, Cond.selects RX8 yX8_goes yX8_goes, Cond.code yX8_goes cX8_goes 3 none, Cond.methodLink RX8 86 yX8_trim, Cond.instanceMethod yX8_trim, Cond.selects RX8 yX8_trim yX8_trim, Cond.code yX8_trim cX8_trim 2 none, Cond.methodLink RX8 73 yX8_sinks, Cond.instanceMethod yX8_sinks, Cond.selects RX8 yX8_sinks yX8_sinks, Cond.code yX8_sinks cX8_sinks 2 none, Cond.methodLink RX8 66 yX8_oldest, Cond.instanceMethod yX8_oldest]
def wsX8_gets_r2 : List Cond := [Cond.selects RX8 yX8_oldest yX8_oldest, Cond.code yX8_oldest cX8_oldest 5 (some .int), Cond.methodLink RX8 76 yX8_lets, Cond.instanceMethod yX8_lets, Cond.selects RX8 yX8_lets yX8_lets, Cond.code yX8_lets cX8_lets 3 none, Cond.methodLink RX8 70 yX8_went, Cond.instanceMethod yX8_went, Cond.selects RX8 yX8_went yX8_went, Cond.code yX8_went cX8_went 4 none, Cond.fieldLink RX8 62 "SegmentedCacheModel" "goingMany" "I", Cond.fieldLink RX8 21 "SegmentedCacheModel" "going" "[I"]
def wsX8_gets : List Cond := .code yX8_gets cX8_gets 2 (some .boolean) :: ((wsX8_gets_r1 ++ wsX8_gets_r2) ++ wsX80)
def wsX8_drops : List Cond := .code yX8_drops cX8_drops 3 (some .int) :: ([.fieldLink RX8 11 "SegmentedCacheModel" "g" "[I", .methodLink RX8 58 yX8_goes, .instanceMethod yX8_goes, .selects RX8 yX8_goes yX8_goes, .initialized RX8, .code yX8_goes cX8_goes 3 none] ++ wsX80)
def wsX8_capacity_r1 : List Cond := [Cond.fieldLink RX8 11 "SegmentedCacheModel" "g" "[I", Cond.methodLink RX8 86 yX8_trim, Cond.instanceMethod yX8_trim, Cond.selects RX8 yX8_trim yX8_trim, Cond.initialized RX8, Cond.code yX8_trim cX8_trim 2 none, Cond.methodLink RX8 73 yX8_sinks, Cond.instanceMethod yX8_sinks, Cond.selects RX8 yX8_sinks yX8_sinks, Cond.code yX8_sinks cX8_sinks 2 none, Cond.methodLink RX8 66 yX8_oldest, Cond.instanceMethod yX8_oldest, Cond.selects RX8 yX8_oldest yX8_oldest, Cond.code yX8_oldest cX8_oldest 5 (some .int), Cond.methodLink RX8 58 yX8_goes, Cond.instanceMethod yX8_goes, Cond.selects RX8 yX8_goes yX8_goes, Cond.code yX8_goes cX8_goes 3 none, Cond.methodLink RX8 76 yX8_lets, Cond.instanceMethod yX8_lets, Cond.selects RX8 yX8_lets yX8_lets, Cond.code yX8_lets cX8_lets 3 none, Cond.methodLink RX8 70 yX8_went, Cond.instanceMethod yX8_went]
def wsX8_capacity_r2 : List Cond := [Cond.selects RX8 yX8_went yX8_went, Cond.code yX8_went cX8_went 4 none, Cond.fieldLink RX8 62 "SegmentedCacheModel" "goingMany" "I", Cond.fieldLink RX8 21 "SegmentedCacheModel" "going" "[I"]
def wsX8_capacity : List Cond := .code yX8_capacity cX8_capacity 2 none :: ((wsX8_capacity_r1 ++ wsX8_capacity_r2) ++ wsX80)
def wsX8_set_r1 : List Cond := [Cond.fieldLink RX8 11 "SegmentedCacheModel" "g" "[I", Cond.methodLink RX8 54 yX8_in, Cond.static yX8_in, Cond.initialized RX8, Cond.code yX8_in cX8_in 3 (some .boolean), Cond.methodLink RX8 93 yX8_capacity, Cond.instanceMethod yX8_capacity, Cond.selects RX8 yX8_capacity yX8_capacity, Cond.code yX8_capacity cX8_capacity 2 none, Cond.methodLink RX8 86 yX8_trim, Cond.instanceMethod yX8_trim, Cond.selects RX8 yX8_trim yX8_trim, Cond.code yX8_trim cX8_trim 2 none, Cond.methodLink RX8 73 yX8_sinks, Cond.instanceMethod yX8_sinks, Cond.selects RX8 yX8_sinks yX8_sinks, Cond.code yX8_sinks cX8_sinks 2 none, Cond.methodLink RX8 66 yX8_oldest, Cond.instanceMethod yX8_oldest, Cond.selects RX8 yX8_oldest yX8_oldest, Cond.code yX8_oldest cX8_oldest 5 (some .int), Cond.methodLink RX8 58 yX8_goes, Cond.instanceMethod yX8_goes, Cond.selects RX8 yX8_goes yX8_goes]
def wsX8_set_r2 : List Cond := [Cond.code yX8_goes cX8_goes 3 none, Cond.methodLink RX8 76 yX8_lets, Cond.instanceMethod yX8_lets, Cond.selects RX8 yX8_lets yX8_lets, Cond.code yX8_lets cX8_lets 3 none, Cond.methodLink RX8 70 yX8_went, Cond.instanceMethod yX8_went, Cond.selects RX8 yX8_went yX8_went, Cond.code yX8_went cX8_went 4 none, Cond.fieldLink RX8 62 "SegmentedCacheModel" "goingMany" "I", Cond.fieldLink RX8 21 "SegmentedCacheModel" "going" "[I"]
def wsX8_set : List Cond := .code yX8_set cX8_set 5 (some .int) :: ((wsX8_set_r1 ++ wsX8_set_r2) ++ wsX80)
def wsX8_told : List Cond := .code yX8_told cX8_told 2 (some .int) :: ([.fieldLink RX8 11 "SegmentedCacheModel" "g" "[I", .methodLink RX8 54 yX8_in, .static yX8_in, .initialized RX8, .code yX8_in cX8_in 3 (some .boolean)] ++ wsX80)
def wsX8_put_r1 : List Cond := [Cond.fieldLink RX8 11 "SegmentedCacheModel" "g" "[I", Cond.methodLink RX8 96 yX8_isKey, Cond.static yX8_isKey, Cond.initialized RX8, Cond.code yX8_isKey cX8_isKey 2 (some .boolean), Cond.methodLink RX8 54 yX8_in, Cond.static yX8_in, Cond.code yX8_in cX8_in 3 (some .boolean), Cond.methodLink RX8 100 yX8_putIn, Cond.instanceMethod yX8_putIn, Cond.selects RX8 yX8_putIn yX8_putIn, Cond.code yX8_putIn cX8_putIn 6 (some .int), Cond.methodLink RX8 79 yX8_weighs, Cond.instanceMethod yX8_weighs, Cond.selects RX8 yX8_weighs yX8_weighs, Cond.code yX8_weighs cX8_weighs 3 none, Cond.methodLink RX8 82 yX8_hit, Cond.instanceMethod yX8_hit, Cond.selects RX8 yX8_hit yX8_hit, Cond.code yX8_hit cX8_hit 2 none, Cond.methodLink RX8 58 yX8_goes, Cond.instanceMethod yX8_goes, Cond.selects RX8 yX8_goes yX8_goes, Cond.code yX8_goes cX8_goes 3 none]
def wsX8_put_r2 : List Cond := [Cond.methodLink RX8 86 yX8_trim, Cond.instanceMethod yX8_trim, Cond.selects RX8 yX8_trim yX8_trim, Cond.code yX8_trim cX8_trim 2 none, Cond.methodLink RX8 73 yX8_sinks, Cond.instanceMethod yX8_sinks, Cond.selects RX8 yX8_sinks yX8_sinks, Cond.code yX8_sinks cX8_sinks 2 none, Cond.methodLink RX8 66 yX8_oldest, Cond.instanceMethod yX8_oldest, Cond.selects RX8 yX8_oldest yX8_oldest, Cond.code yX8_oldest cX8_oldest 5 (some .int), Cond.methodLink RX8 76 yX8_lets, Cond.instanceMethod yX8_lets, Cond.selects RX8 yX8_lets yX8_lets, Cond.code yX8_lets cX8_lets 3 none, Cond.methodLink RX8 70 yX8_went, Cond.instanceMethod yX8_went, Cond.selects RX8 yX8_went yX8_went, Cond.code yX8_went cX8_went 4 none, Cond.fieldLink RX8 62 "SegmentedCacheModel" "goingMany" "I", Cond.fieldLink RX8 21 "SegmentedCacheModel" "going" "[I"]
def wsX8_put : List Cond := .code yX8_put cX8_put 6 (some .int) :: ((wsX8_put_r1 ++ wsX8_put_r2) ++ wsX80)
def wsX8_get_r1 : List Cond := [Cond.constantLong RX8 104 (-9223372036854775808), Cond.fieldLink RX8 11 "SegmentedCacheModel" "g" "[I", Cond.methodLink RX8 96 yX8_isKey, Cond.static yX8_isKey, Cond.initialized RX8, Cond.code yX8_isKey cX8_isKey 2 (some .boolean), Cond.methodLink RX8 54 yX8_in, Cond.static yX8_in, Cond.code yX8_in cX8_in 3 (some .boolean), Cond.methodLink RX8 106 yX8_gets, Cond.instanceMethod yX8_gets, Cond.selects RX8 yX8_gets yX8_gets, Cond.code yX8_gets cX8_gets 2 (some .boolean), Cond.methodLink RX8 89 yX8_isThing, Cond.instanceMethod yX8_isThing, Cond.selects RX8 yX8_isThing yX8_isThing, Cond.code yX8_isThing cX8_isThing 2 (some .boolean), Cond.methodLink RX8 82 yX8_hit, Cond.instanceMethod yX8_hit, Cond.selects RX8 yX8_hit yX8_hit, Cond.code yX8_hit cX8_hit 2 none, Cond.methodLink RX8 58 yX8_goes, Cond.instanceMethod yX8_goes, Cond.selects RX8 yX8_goes yX8_goes]
def wsX8_get_r2 : List Cond := [Cond.code yX8_goes cX8_goes 3 none, Cond.methodLink RX8 86 yX8_trim, Cond.instanceMethod yX8_trim, Cond.selects RX8 yX8_trim yX8_trim, Cond.code yX8_trim cX8_trim 2 none, Cond.methodLink RX8 73 yX8_sinks, Cond.instanceMethod yX8_sinks, Cond.selects RX8 yX8_sinks yX8_sinks, Cond.code yX8_sinks cX8_sinks 2 none, Cond.methodLink RX8 66 yX8_oldest, Cond.instanceMethod yX8_oldest, Cond.selects RX8 yX8_oldest yX8_oldest, Cond.code yX8_oldest cX8_oldest 5 (some .int), Cond.methodLink RX8 76 yX8_lets, Cond.instanceMethod yX8_lets, Cond.selects RX8 yX8_lets yX8_lets, Cond.code yX8_lets cX8_lets 3 none, Cond.methodLink RX8 70 yX8_went, Cond.instanceMethod yX8_went, Cond.selects RX8 yX8_went yX8_went, Cond.code yX8_went cX8_went 4 none, Cond.fieldLink RX8 62 "SegmentedCacheModel" "goingMany" "I", Cond.fieldLink RX8 21 "SegmentedCacheModel" "going" "[I"]
def wsX8_get : List Cond := .code yX8_get cX8_get 5 (some .long) :: ((wsX8_get_r1 ++ wsX8_get_r2) ++ wsX80)
def wsX8_drop : List Cond := .code yX8_drop cX8_drop 3 (some .int) :: ([.methodLink RX8 96 yX8_isKey, .static yX8_isKey, .initialized RX8, .code yX8_isKey cX8_isKey 2 (some .boolean), .methodLink RX8 54 yX8_in, .static yX8_in, .code yX8_in cX8_in 3 (some .boolean), .methodLink RX8 109 yX8_drops, .instanceMethod yX8_drops, .selects RX8 yX8_drops yX8_drops, .code yX8_drops cX8_drops 3 (some .int), .fieldLink RX8 11 "SegmentedCacheModel" "g" "[I", .methodLink RX8 58 yX8_goes, .instanceMethod yX8_goes, .selects RX8 yX8_goes yX8_goes, .code yX8_goes cX8_goes 3 none] ++ wsX80)
def wsX8_pin : List Cond := .code yX8_pin cX8_pin 6 (some .int) :: ([.fieldLink RX8 11 "SegmentedCacheModel" "g" "[I", .methodLink RX8 96 yX8_isKey, .static yX8_isKey, .initialized RX8, .code yX8_isKey cX8_isKey 2 (some .boolean), .methodLink RX8 54 yX8_in, .static yX8_in, .code yX8_in cX8_in 3 (some .boolean), .methodLink RX8 89 yX8_isThing, .instanceMethod yX8_isThing, .selects RX8 yX8_isThing yX8_isThing, .code yX8_isThing cX8_isThing 2 (some .boolean)] ++ wsX80)
def wsX8_placeOf : List Cond := .code yX8_placeOf cX8_placeOf 4 (some .int) :: ([.fieldLink RX8 11 "SegmentedCacheModel" "g" "[I"] ++ wsX80)
def wsX8_of : List Cond := .code yX8_of cX8_of 6 (some .int) :: ([.fieldLink RX8 11 "SegmentedCacheModel" "g" "[I", .methodLink RX8 96 yX8_isKey, .static yX8_isKey, .initialized RX8, .code yX8_isKey cX8_isKey 2 (some .boolean), .methodLink RX8 54 yX8_in, .static yX8_in, .code yX8_in cX8_in 3 (some .boolean), .methodLink RX8 89 yX8_isThing, .instanceMethod yX8_isThing, .selects RX8 yX8_isThing yX8_isThing, .code yX8_isThing cX8_isThing 2 (some .boolean), .methodLink RX8 113 yX8_placeOf, .instanceMethod yX8_placeOf, .selects RX8 yX8_placeOf yX8_placeOf, .code yX8_placeOf cX8_placeOf 4 (some .int)] ++ wsX80)
def wsX8_keyAt : List Cond := .code yX8_keyAt cX8_keyAt 4 (some .int) :: ([.fieldLink RX8 11 "SegmentedCacheModel" "g" "[I", .methodLink RX8 113 yX8_placeOf, .instanceMethod yX8_placeOf, .selects RX8 yX8_placeOf yX8_placeOf, .initialized RX8, .code yX8_placeOf cX8_placeOf 4 (some .int)] ++ wsX80)
def wsX8_key : List Cond := .code yX8_key cX8_key 3 (some .int) :: ([.methodLink RX8 54 yX8_in, .static yX8_in, .initialized RX8, .code yX8_in cX8_in 3 (some .boolean), .methodLink RX8 116 yX8_keyAt, .instanceMethod yX8_keyAt, .selects RX8 yX8_keyAt yX8_keyAt, .code yX8_keyAt cX8_keyAt 4 (some .int), .fieldLink RX8 11 "SegmentedCacheModel" "g" "[I", .methodLink RX8 113 yX8_placeOf, .instanceMethod yX8_placeOf, .selects RX8 yX8_placeOf yX8_placeOf, .code yX8_placeOf cX8_placeOf 4 (some .int)] ++ wsX80)
def wsX8_gone : List Cond := .code yX8_gone cX8_gone 2 (some .int) :: ([.fieldLink RX8 11 "SegmentedCacheModel" "g" "[I"] ++ wsX80)
def wsX8_victim_r1 : List Cond := [Cond.fieldLink RX8 11 "SegmentedCacheModel" "g" "[I", Cond.fieldLink RX8 15 "SegmentedCacheModel" "saved" "[I", Cond.fieldLink RX8 62 "SegmentedCacheModel" "goingMany" "I", Cond.fieldLink RX8 21 "SegmentedCacheModel" "going" "[I", Cond.methodLink RX8 120 yX8_copy, Cond.static yX8_copy, Cond.initialized RX8, Cond.code yX8_copy cX8_copy 3 none, Cond.methodLink RX8 86 yX8_trim, Cond.instanceMethod yX8_trim, Cond.selects RX8 yX8_trim yX8_trim, Cond.code yX8_trim cX8_trim 2 none, Cond.methodLink RX8 73 yX8_sinks, Cond.instanceMethod yX8_sinks, Cond.selects RX8 yX8_sinks yX8_sinks, Cond.code yX8_sinks cX8_sinks 2 none, Cond.methodLink RX8 66 yX8_oldest, Cond.instanceMethod yX8_oldest, Cond.selects RX8 yX8_oldest yX8_oldest, Cond.code yX8_oldest cX8_oldest 5 (some .int), Cond.methodLink RX8 58 yX8_goes, Cond.instanceMethod yX8_goes, Cond.selects RX8 yX8_goes yX8_goes, Cond.code yX8_goes cX8_goes 3 none]
def wsX8_victim_r2 : List Cond := [Cond.methodLink RX8 76 yX8_lets, Cond.instanceMethod yX8_lets, Cond.selects RX8 yX8_lets yX8_lets, Cond.code yX8_lets cX8_lets 3 none, Cond.methodLink RX8 70 yX8_went, Cond.instanceMethod yX8_went, Cond.selects RX8 yX8_went yX8_went, Cond.code yX8_went cX8_went 4 none]
def wsX8_victim : List Cond := .code yX8_victim cX8_victim 3 (some .int) :: ((wsX8_victim_r1 ++ wsX8_victim_r2) ++ wsX80)
def wsX8_feed : List Cond := .code yX8_feed cX8_feed 2 (some .int) :: ([.fieldLink RX8 124 "SegmentedCacheModel" "textMany" "I", .fieldLink RX8 24 "SegmentedCacheModel" "text" "[I", .methodLink RX8 54 yX8_in, .static yX8_in, .initialized RX8, .code yX8_in cX8_in 3 (some .boolean)] ++ wsX80)
def wsX8_sees : List Cond := .code yX8_sees cX8_sees 3 (some .boolean) :: ([.fieldLink RX8 127 "SegmentedCacheModel" "fault" "I", .fieldLink RX8 130 "SegmentedCacheModel" "spot" "I", .fieldLink RX8 124 "SegmentedCacheModel" "textMany" "I", .fieldLink RX8 24 "SegmentedCacheModel" "text" "[I", .methodLink RX8 54 yX8_in, .static yX8_in, .initialized RX8, .code yX8_in cX8_in 3 (some .boolean)] ++ wsX80)
def wsX8_must : List Cond := .code yX8_must cX8_must 3 (some .int) :: ([.fieldLink RX8 127 "SegmentedCacheModel" "fault" "I", .fieldLink RX8 130 "SegmentedCacheModel" "spot" "I", .fieldLink RX8 24 "SegmentedCacheModel" "text" "[I", .methodLink RX8 133 yX8_sees, .instanceMethod yX8_sees, .selects RX8 yX8_sees yX8_sees, .initialized RX8, .code yX8_sees cX8_sees 3 (some .boolean), .fieldLink RX8 124 "SegmentedCacheModel" "textMany" "I", .methodLink RX8 54 yX8_in, .static yX8_in, .code yX8_in cX8_in 3 (some .boolean)] ++ wsX80)
def wsX8_clause : List Cond := .code yX8_clause cX8_clause 5 none :: ([.fieldLink RX8 24 "SegmentedCacheModel" "text" "[I", .fieldLink RX8 130 "SegmentedCacheModel" "spot" "I", .fieldLink RX8 33 "SegmentedCacheModel" "weights" "[I", .fieldLink RX8 27 "SegmentedCacheModel" "acts" "[I", .fieldLink RX8 30 "SegmentedCacheModel" "keys" "[I", .methodLink RX8 133 yX8_sees, .instanceMethod yX8_sees, .selects RX8 yX8_sees yX8_sees, .initialized RX8, .code yX8_sees cX8_sees 3 (some .boolean), .fieldLink RX8 127 "SegmentedCacheModel" "fault" "I", .fieldLink RX8 124 "SegmentedCacheModel" "textMany" "I", .methodLink RX8 54 yX8_in, .static yX8_in, .code yX8_in cX8_in 3 (some .boolean), .methodLink RX8 136 yX8_must, .instanceMethod yX8_must, .selects RX8 yX8_must yX8_must, .code yX8_must cX8_must 3 (some .int)] ++ wsX80)
def wsX8_trace_r1 : List Cond := [Cond.fieldLink RX8 139 "SegmentedCacheModel" "traces" "I", Cond.fieldLink RX8 130 "SegmentedCacheModel" "spot" "I", Cond.fieldLink RX8 127 "SegmentedCacheModel" "fault" "I", Cond.fieldLink RX8 124 "SegmentedCacheModel" "textMany" "I", Cond.fieldLink RX8 36 "SegmentedCacheModel" "many" "[I", Cond.methodLink RX8 142 yX8_clause, Cond.instanceMethod yX8_clause, Cond.selects RX8 yX8_clause yX8_clause, Cond.initialized RX8, Cond.code yX8_clause cX8_clause 5 none, Cond.fieldLink RX8 24 "SegmentedCacheModel" "text" "[I", Cond.fieldLink RX8 33 "SegmentedCacheModel" "weights" "[I", Cond.fieldLink RX8 27 "SegmentedCacheModel" "acts" "[I", Cond.fieldLink RX8 30 "SegmentedCacheModel" "keys" "[I", Cond.methodLink RX8 133 yX8_sees, Cond.instanceMethod yX8_sees, Cond.selects RX8 yX8_sees yX8_sees, Cond.code yX8_sees cX8_sees 3 (some .boolean), Cond.methodLink RX8 54 yX8_in, Cond.static yX8_in, Cond.code yX8_in cX8_in 3 (some .boolean), Cond.methodLink RX8 136 yX8_must, Cond.instanceMethod yX8_must, Cond.selects RX8 yX8_must yX8_must]
def wsX8_trace_r2 : List Cond := [Cond.code yX8_must cX8_must 3 (some .int)]
def wsX8_trace : List Cond := .code yX8_trace cX8_trace 2 (some .int) :: ((wsX8_trace_r1 ++ wsX8_trace_r2) ++ wsX80)
def wsX8_runs_r1 : List Cond := [Cond.fieldLink RX8 11 "SegmentedCacheModel" "g" "[I", Cond.fieldLink RX8 36 "SegmentedCacheModel" "many" "[I", Cond.fieldLink RX8 27 "SegmentedCacheModel" "acts" "[I", Cond.fieldLink RX8 30 "SegmentedCacheModel" "keys" "[I", Cond.fieldLink RX8 33 "SegmentedCacheModel" "weights" "[I", Cond.methodLink RX8 106 yX8_gets, Cond.instanceMethod yX8_gets, Cond.selects RX8 yX8_gets yX8_gets, Cond.initialized RX8, Cond.code yX8_gets cX8_gets 2 (some .boolean), Cond.methodLink RX8 89 yX8_isThing, Cond.instanceMethod yX8_isThing, Cond.selects RX8 yX8_isThing yX8_isThing, Cond.code yX8_isThing cX8_isThing 2 (some .boolean), Cond.methodLink RX8 82 yX8_hit, Cond.instanceMethod yX8_hit, Cond.selects RX8 yX8_hit yX8_hit, Cond.code yX8_hit cX8_hit 2 none, Cond.methodLink RX8 58 yX8_goes, Cond.instanceMethod yX8_goes, Cond.selects RX8 yX8_goes yX8_goes, Cond.code yX8_goes cX8_goes 3 none, Cond.methodLink RX8 86 yX8_trim, Cond.instanceMethod yX8_trim]
def wsX8_runs_r2 : List Cond := [Cond.selects RX8 yX8_trim yX8_trim, Cond.code yX8_trim cX8_trim 2 none, Cond.methodLink RX8 73 yX8_sinks, Cond.instanceMethod yX8_sinks, Cond.selects RX8 yX8_sinks yX8_sinks, Cond.code yX8_sinks cX8_sinks 2 none, Cond.methodLink RX8 66 yX8_oldest, Cond.instanceMethod yX8_oldest, Cond.selects RX8 yX8_oldest yX8_oldest, Cond.code yX8_oldest cX8_oldest 5 (some .int), Cond.methodLink RX8 76 yX8_lets, Cond.instanceMethod yX8_lets, Cond.selects RX8 yX8_lets yX8_lets, Cond.code yX8_lets cX8_lets 3 none, Cond.methodLink RX8 70 yX8_went, Cond.instanceMethod yX8_went, Cond.selects RX8 yX8_went yX8_went, Cond.code yX8_went cX8_went 4 none, Cond.fieldLink RX8 62 "SegmentedCacheModel" "goingMany" "I", Cond.fieldLink RX8 21 "SegmentedCacheModel" "going" "[I", Cond.methodLink RX8 109 yX8_drops, Cond.instanceMethod yX8_drops, Cond.selects RX8 yX8_drops yX8_drops, Cond.code yX8_drops cX8_drops 3 (some .int)]
def wsX8_runs_r3 : List Cond := [Cond.methodLink RX8 100 yX8_putIn, Cond.instanceMethod yX8_putIn, Cond.selects RX8 yX8_putIn yX8_putIn, Cond.code yX8_putIn cX8_putIn 6 (some .int), Cond.methodLink RX8 79 yX8_weighs, Cond.instanceMethod yX8_weighs, Cond.selects RX8 yX8_weighs yX8_weighs, Cond.code yX8_weighs cX8_weighs 3 none]
def wsX8_runs : List Cond := .code yX8_runs cX8_runs 4 (some .int) :: ((wsX8_runs_r1 ++ (wsX8_runs_r2 ++ wsX8_runs_r3)) ++ wsX80)
def wsX8_isTrace : List Cond := .code yX8_isTrace cX8_isTrace 2 (some .boolean) :: ([.fieldLink RX8 139 "SegmentedCacheModel" "traces" "I", .methodLink RX8 54 yX8_in, .static yX8_in, .initialized RX8, .code yX8_in cX8_in 3 (some .boolean)] ++ wsX80)
def wsX8_run_r1 : List Cond := [Cond.methodLink RX8 145 yX8_isTrace, Cond.instanceMethod yX8_isTrace, Cond.selects RX8 yX8_isTrace yX8_isTrace, Cond.initialized RX8, Cond.code yX8_isTrace cX8_isTrace 2 (some .boolean), Cond.fieldLink RX8 139 "SegmentedCacheModel" "traces" "I", Cond.methodLink RX8 54 yX8_in, Cond.static yX8_in, Cond.code yX8_in cX8_in 3 (some .boolean), Cond.methodLink RX8 148 yX8_runs, Cond.instanceMethod yX8_runs, Cond.selects RX8 yX8_runs yX8_runs, Cond.code yX8_runs cX8_runs 4 (some .int), Cond.fieldLink RX8 11 "SegmentedCacheModel" "g" "[I", Cond.fieldLink RX8 36 "SegmentedCacheModel" "many" "[I", Cond.fieldLink RX8 27 "SegmentedCacheModel" "acts" "[I", Cond.fieldLink RX8 30 "SegmentedCacheModel" "keys" "[I", Cond.fieldLink RX8 33 "SegmentedCacheModel" "weights" "[I", Cond.methodLink RX8 106 yX8_gets, Cond.instanceMethod yX8_gets, Cond.selects RX8 yX8_gets yX8_gets, Cond.code yX8_gets cX8_gets 2 (some .boolean), Cond.methodLink RX8 89 yX8_isThing, Cond.instanceMethod yX8_isThing]
def wsX8_run_r2 : List Cond := [Cond.selects RX8 yX8_isThing yX8_isThing, Cond.code yX8_isThing cX8_isThing 2 (some .boolean), Cond.methodLink RX8 82 yX8_hit, Cond.instanceMethod yX8_hit, Cond.selects RX8 yX8_hit yX8_hit, Cond.code yX8_hit cX8_hit 2 none, Cond.methodLink RX8 58 yX8_goes, Cond.instanceMethod yX8_goes, Cond.selects RX8 yX8_goes yX8_goes, Cond.code yX8_goes cX8_goes 3 none, Cond.methodLink RX8 86 yX8_trim, Cond.instanceMethod yX8_trim, Cond.selects RX8 yX8_trim yX8_trim, Cond.code yX8_trim cX8_trim 2 none, Cond.methodLink RX8 73 yX8_sinks, Cond.instanceMethod yX8_sinks, Cond.selects RX8 yX8_sinks yX8_sinks, Cond.code yX8_sinks cX8_sinks 2 none, Cond.methodLink RX8 66 yX8_oldest, Cond.instanceMethod yX8_oldest, Cond.selects RX8 yX8_oldest yX8_oldest, Cond.code yX8_oldest cX8_oldest 5 (some .int), Cond.methodLink RX8 76 yX8_lets, Cond.instanceMethod yX8_lets]
def wsX8_run_r3 : List Cond := [Cond.selects RX8 yX8_lets yX8_lets, Cond.code yX8_lets cX8_lets 3 none, Cond.methodLink RX8 70 yX8_went, Cond.instanceMethod yX8_went, Cond.selects RX8 yX8_went yX8_went, Cond.code yX8_went cX8_went 4 none, Cond.fieldLink RX8 62 "SegmentedCacheModel" "goingMany" "I", Cond.fieldLink RX8 21 "SegmentedCacheModel" "going" "[I", Cond.methodLink RX8 109 yX8_drops, Cond.instanceMethod yX8_drops, Cond.selects RX8 yX8_drops yX8_drops, Cond.code yX8_drops cX8_drops 3 (some .int), Cond.methodLink RX8 100 yX8_putIn, Cond.instanceMethod yX8_putIn, Cond.selects RX8 yX8_putIn yX8_putIn, Cond.code yX8_putIn cX8_putIn 6 (some .int), Cond.methodLink RX8 79 yX8_weighs, Cond.instanceMethod yX8_weighs, Cond.selects RX8 yX8_weighs yX8_weighs, Cond.code yX8_weighs cX8_weighs 3 none]
def wsX8_run : List Cond := .code yX8_run cX8_run 2 (some .int) :: ((wsX8_run_r1 ++ (wsX8_run_r2 ++ wsX8_run_r3)) ++ wsX80)
def wsX8_would_r1 : List Cond := [Cond.fieldLink RX8 11 "SegmentedCacheModel" "g" "[I", Cond.fieldLink RX8 15 "SegmentedCacheModel" "saved" "[I", Cond.methodLink RX8 145 yX8_isTrace, Cond.instanceMethod yX8_isTrace, Cond.selects RX8 yX8_isTrace yX8_isTrace, Cond.initialized RX8, Cond.code yX8_isTrace cX8_isTrace 2 (some .boolean), Cond.fieldLink RX8 139 "SegmentedCacheModel" "traces" "I", Cond.methodLink RX8 54 yX8_in, Cond.static yX8_in, Cond.code yX8_in cX8_in 3 (some .boolean), Cond.methodLink RX8 120 yX8_copy, Cond.static yX8_copy, Cond.code yX8_copy cX8_copy 3 none, Cond.methodLink RX8 148 yX8_runs, Cond.instanceMethod yX8_runs, Cond.selects RX8 yX8_runs yX8_runs, Cond.code yX8_runs cX8_runs 4 (some .int), Cond.fieldLink RX8 36 "SegmentedCacheModel" "many" "[I", Cond.fieldLink RX8 27 "SegmentedCacheModel" "acts" "[I", Cond.fieldLink RX8 30 "SegmentedCacheModel" "keys" "[I", Cond.fieldLink RX8 33 "SegmentedCacheModel" "weights" "[I", Cond.methodLink RX8 106 yX8_gets, Cond.instanceMethod yX8_gets]
def wsX8_would_r2 : List Cond := [Cond.selects RX8 yX8_gets yX8_gets, Cond.code yX8_gets cX8_gets 2 (some .boolean), Cond.methodLink RX8 89 yX8_isThing, Cond.instanceMethod yX8_isThing, Cond.selects RX8 yX8_isThing yX8_isThing, Cond.code yX8_isThing cX8_isThing 2 (some .boolean), Cond.methodLink RX8 82 yX8_hit, Cond.instanceMethod yX8_hit, Cond.selects RX8 yX8_hit yX8_hit, Cond.code yX8_hit cX8_hit 2 none, Cond.methodLink RX8 58 yX8_goes, Cond.instanceMethod yX8_goes, Cond.selects RX8 yX8_goes yX8_goes, Cond.code yX8_goes cX8_goes 3 none, Cond.methodLink RX8 86 yX8_trim, Cond.instanceMethod yX8_trim, Cond.selects RX8 yX8_trim yX8_trim, Cond.code yX8_trim cX8_trim 2 none, Cond.methodLink RX8 73 yX8_sinks, Cond.instanceMethod yX8_sinks, Cond.selects RX8 yX8_sinks yX8_sinks, Cond.code yX8_sinks cX8_sinks 2 none, Cond.methodLink RX8 66 yX8_oldest, Cond.instanceMethod yX8_oldest]
def wsX8_would_r3 : List Cond := [Cond.selects RX8 yX8_oldest yX8_oldest, Cond.code yX8_oldest cX8_oldest 5 (some .int), Cond.methodLink RX8 76 yX8_lets, Cond.instanceMethod yX8_lets, Cond.selects RX8 yX8_lets yX8_lets, Cond.code yX8_lets cX8_lets 3 none, Cond.methodLink RX8 70 yX8_went, Cond.instanceMethod yX8_went, Cond.selects RX8 yX8_went yX8_went, Cond.code yX8_went cX8_went 4 none, Cond.fieldLink RX8 62 "SegmentedCacheModel" "goingMany" "I", Cond.fieldLink RX8 21 "SegmentedCacheModel" "going" "[I", Cond.methodLink RX8 109 yX8_drops, Cond.instanceMethod yX8_drops, Cond.selects RX8 yX8_drops yX8_drops, Cond.code yX8_drops cX8_drops 3 (some .int), Cond.methodLink RX8 100 yX8_putIn, Cond.instanceMethod yX8_putIn, Cond.selects RX8 yX8_putIn yX8_putIn, Cond.code yX8_putIn cX8_putIn 6 (some .int), Cond.methodLink RX8 79 yX8_weighs, Cond.instanceMethod yX8_weighs, Cond.selects RX8 yX8_weighs yX8_weighs, Cond.code yX8_weighs cX8_weighs 3 none]
def wsX8_would : List Cond := .code yX8_would cX8_would 4 (some .int) :: ((wsX8_would_r1 ++ (wsX8_would_r2 ++ wsX8_would_r3)) ++ wsX80)
def wsX8_need_r1 : List Cond := [Cond.fieldLink RX8 11 "SegmentedCacheModel" "g" "[I", Cond.fieldLink RX8 15 "SegmentedCacheModel" "saved" "[I", Cond.methodLink RX8 145 yX8_isTrace, Cond.instanceMethod yX8_isTrace, Cond.selects RX8 yX8_isTrace yX8_isTrace, Cond.initialized RX8, Cond.code yX8_isTrace cX8_isTrace 2 (some .boolean), Cond.fieldLink RX8 139 "SegmentedCacheModel" "traces" "I", Cond.methodLink RX8 54 yX8_in, Cond.static yX8_in, Cond.code yX8_in cX8_in 3 (some .boolean), Cond.methodLink RX8 120 yX8_copy, Cond.static yX8_copy, Cond.code yX8_copy cX8_copy 3 none, Cond.methodLink RX8 93 yX8_capacity, Cond.instanceMethod yX8_capacity, Cond.selects RX8 yX8_capacity yX8_capacity, Cond.code yX8_capacity cX8_capacity 2 none, Cond.methodLink RX8 86 yX8_trim, Cond.instanceMethod yX8_trim, Cond.selects RX8 yX8_trim yX8_trim, Cond.code yX8_trim cX8_trim 2 none, Cond.methodLink RX8 73 yX8_sinks, Cond.instanceMethod yX8_sinks]
def wsX8_need_r2 : List Cond := [Cond.selects RX8 yX8_sinks yX8_sinks, Cond.code yX8_sinks cX8_sinks 2 none, Cond.methodLink RX8 66 yX8_oldest, Cond.instanceMethod yX8_oldest, Cond.selects RX8 yX8_oldest yX8_oldest, Cond.code yX8_oldest cX8_oldest 5 (some .int), Cond.methodLink RX8 58 yX8_goes, Cond.instanceMethod yX8_goes, Cond.selects RX8 yX8_goes yX8_goes, Cond.code yX8_goes cX8_goes 3 none, Cond.methodLink RX8 76 yX8_lets, Cond.instanceMethod yX8_lets, Cond.selects RX8 yX8_lets yX8_lets, Cond.code yX8_lets cX8_lets 3 none, Cond.methodLink RX8 70 yX8_went, Cond.instanceMethod yX8_went, Cond.selects RX8 yX8_went yX8_went, Cond.code yX8_went cX8_went 4 none, Cond.fieldLink RX8 62 "SegmentedCacheModel" "goingMany" "I", Cond.fieldLink RX8 21 "SegmentedCacheModel" "going" "[I", Cond.methodLink RX8 148 yX8_runs, Cond.instanceMethod yX8_runs, Cond.selects RX8 yX8_runs yX8_runs, Cond.code yX8_runs cX8_runs 4 (some .int)]
def wsX8_need_r3 : List Cond := [Cond.fieldLink RX8 36 "SegmentedCacheModel" "many" "[I", Cond.fieldLink RX8 27 "SegmentedCacheModel" "acts" "[I", Cond.fieldLink RX8 30 "SegmentedCacheModel" "keys" "[I", Cond.fieldLink RX8 33 "SegmentedCacheModel" "weights" "[I", Cond.methodLink RX8 106 yX8_gets, Cond.instanceMethod yX8_gets, Cond.selects RX8 yX8_gets yX8_gets, Cond.code yX8_gets cX8_gets 2 (some .boolean), Cond.methodLink RX8 89 yX8_isThing, Cond.instanceMethod yX8_isThing, Cond.selects RX8 yX8_isThing yX8_isThing, Cond.code yX8_isThing cX8_isThing 2 (some .boolean), Cond.methodLink RX8 82 yX8_hit, Cond.instanceMethod yX8_hit, Cond.selects RX8 yX8_hit yX8_hit, Cond.code yX8_hit cX8_hit 2 none, Cond.methodLink RX8 109 yX8_drops, Cond.instanceMethod yX8_drops, Cond.selects RX8 yX8_drops yX8_drops, Cond.code yX8_drops cX8_drops 3 (some .int), Cond.methodLink RX8 100 yX8_putIn, Cond.instanceMethod yX8_putIn, Cond.selects RX8 yX8_putIn yX8_putIn, Cond.code yX8_putIn cX8_putIn 6 (some .int)]
def wsX8_need_r4 : List Cond := [Cond.methodLink RX8 79 yX8_weighs, Cond.instanceMethod yX8_weighs, Cond.selects RX8 yX8_weighs yX8_weighs, Cond.code yX8_weighs cX8_weighs 3 none]
def wsX8_need : List Cond := .code yX8_need cX8_need 5 (some .int) :: ((wsX8_need_r1 ++ (wsX8_need_r2 ++ (wsX8_need_r3 ++ wsX8_need_r4))) ++ wsX80)
def wsX8_common : List Cond := .code yX8_common cX8_common 5 (some .int) :: ([])
def wsX8_part : List Cond := .code yX8_part cX8_part 4 (some .long) :: ([.methodLink RX8 151 yX8_common, .static yX8_common, .initialized RX8, .code yX8_common cX8_common 5 (some .int)])
def wsX8_odds_r1 : List Cond := [Cond.constantLong RX8 104 (-9223372036854775808), Cond.fieldLink RX8 11 "SegmentedCacheModel" "g" "[I", Cond.fieldLink RX8 15 "SegmentedCacheModel" "saved" "[I", Cond.methodLink RX8 145 yX8_isTrace, Cond.instanceMethod yX8_isTrace, Cond.selects RX8 yX8_isTrace yX8_isTrace, Cond.initialized RX8, Cond.code yX8_isTrace cX8_isTrace 2 (some .boolean), Cond.fieldLink RX8 139 "SegmentedCacheModel" "traces" "I", Cond.methodLink RX8 54 yX8_in, Cond.static yX8_in, Cond.code yX8_in cX8_in 3 (some .boolean), Cond.methodLink RX8 120 yX8_copy, Cond.static yX8_copy, Cond.code yX8_copy cX8_copy 3 none, Cond.methodLink RX8 86 yX8_trim, Cond.instanceMethod yX8_trim, Cond.selects RX8 yX8_trim yX8_trim, Cond.code yX8_trim cX8_trim 2 none, Cond.methodLink RX8 73 yX8_sinks, Cond.instanceMethod yX8_sinks, Cond.selects RX8 yX8_sinks yX8_sinks, Cond.code yX8_sinks cX8_sinks 2 none, Cond.methodLink RX8 66 yX8_oldest]
def wsX8_odds_r2 : List Cond := [Cond.instanceMethod yX8_oldest, Cond.selects RX8 yX8_oldest yX8_oldest, Cond.code yX8_oldest cX8_oldest 5 (some .int), Cond.methodLink RX8 58 yX8_goes, Cond.instanceMethod yX8_goes, Cond.selects RX8 yX8_goes yX8_goes, Cond.code yX8_goes cX8_goes 3 none, Cond.methodLink RX8 76 yX8_lets, Cond.instanceMethod yX8_lets, Cond.selects RX8 yX8_lets yX8_lets, Cond.code yX8_lets cX8_lets 3 none, Cond.methodLink RX8 70 yX8_went, Cond.instanceMethod yX8_went, Cond.selects RX8 yX8_went yX8_went, Cond.code yX8_went cX8_went 4 none, Cond.fieldLink RX8 62 "SegmentedCacheModel" "goingMany" "I", Cond.fieldLink RX8 21 "SegmentedCacheModel" "going" "[I", Cond.methodLink RX8 148 yX8_runs, Cond.instanceMethod yX8_runs, Cond.selects RX8 yX8_runs yX8_runs, Cond.code yX8_runs cX8_runs 4 (some .int), Cond.fieldLink RX8 36 "SegmentedCacheModel" "many" "[I", Cond.fieldLink RX8 27 "SegmentedCacheModel" "acts" "[I", Cond.fieldLink RX8 30 "SegmentedCacheModel" "keys" "[I"]
def wsX8_odds_r3 : List Cond := [Cond.fieldLink RX8 33 "SegmentedCacheModel" "weights" "[I", Cond.methodLink RX8 106 yX8_gets, Cond.instanceMethod yX8_gets, Cond.selects RX8 yX8_gets yX8_gets, Cond.code yX8_gets cX8_gets 2 (some .boolean), Cond.methodLink RX8 89 yX8_isThing, Cond.instanceMethod yX8_isThing, Cond.selects RX8 yX8_isThing yX8_isThing, Cond.code yX8_isThing cX8_isThing 2 (some .boolean), Cond.methodLink RX8 82 yX8_hit, Cond.instanceMethod yX8_hit, Cond.selects RX8 yX8_hit yX8_hit, Cond.code yX8_hit cX8_hit 2 none, Cond.methodLink RX8 109 yX8_drops, Cond.instanceMethod yX8_drops, Cond.selects RX8 yX8_drops yX8_drops, Cond.code yX8_drops cX8_drops 3 (some .int), Cond.methodLink RX8 100 yX8_putIn, Cond.instanceMethod yX8_putIn, Cond.selects RX8 yX8_putIn yX8_putIn, Cond.code yX8_putIn cX8_putIn 6 (some .int), Cond.methodLink RX8 79 yX8_weighs, Cond.instanceMethod yX8_weighs, Cond.selects RX8 yX8_weighs yX8_weighs]
def wsX8_odds_r4 : List Cond := [Cond.code yX8_weighs cX8_weighs 3 none, Cond.methodLink RX8 154 yX8_part, Cond.static yX8_part, Cond.code yX8_part cX8_part 4 (some .long), Cond.methodLink RX8 151 yX8_common, Cond.static yX8_common, Cond.code yX8_common cX8_common 5 (some .int)]
def wsX8_odds : List Cond := .code yX8_odds cX8_odds 6 (some .long) :: ((wsX8_odds_r1 ++ (wsX8_odds_r2 ++ (wsX8_odds_r3 ++ wsX8_odds_r4))) ++ wsX80)
def wsX8_manyAt : List Cond := .code yX8_manyAt cX8_manyAt 4 (some .int) :: ([.fieldLink RX8 11 "SegmentedCacheModel" "g" "[I"] ++ wsX80)
def wsX8_mean : List Cond := .code yX8_mean cX8_mean 5 (some .long) :: ([.constantLong RX8 104 (-9223372036854775808), .fieldLink RX8 11 "SegmentedCacheModel" "g" "[I", .methodLink RX8 54 yX8_in, .static yX8_in, .initialized RX8, .code yX8_in cX8_in 3 (some .boolean), .methodLink RX8 158 yX8_manyAt, .instanceMethod yX8_manyAt, .selects RX8 yX8_manyAt yX8_manyAt, .code yX8_manyAt cX8_manyAt 4 (some .int), .methodLink RX8 154 yX8_part, .static yX8_part, .code yX8_part cX8_part 4 (some .long), .methodLink RX8 151 yX8_common, .static yX8_common, .code yX8_common cX8_common 5 (some .int)] ++ wsX80)
def wsX8_book : List Cond := .code yX8_book cX8_book 4 (some .int) :: ([.fieldLink RX8 11 "SegmentedCacheModel" "g" "[I", .methodLink RX8 96 yX8_isKey, .static yX8_isKey, .initialized RX8, .code yX8_isKey cX8_isKey 2 (some .boolean), .methodLink RX8 54 yX8_in, .static yX8_in, .code yX8_in cX8_in 3 (some .boolean)] ++ wsX80)
def wsX8_looked : List Cond := .code yX8_looked cX8_looked 2 (some .int) :: ([.fieldLink RX8 11 "SegmentedCacheModel" "g" "[I"] ++ wsX80)
def wsX8_isTape : List Cond := .code yX8_isTape cX8_isTape 1 (some .boolean) :: ([.methodLink RX8 54 yX8_in, .static yX8_in, .initialized RX8, .code yX8_in cX8_in 3 (some .boolean)])
def wsX8_judge : List Cond := .code yX8_judge cX8_judge 5 (some .int) :: ([.fieldLink RX8 39 "SegmentedCacheModel" "tapeSort" "[I", .fieldLink RX8 42 "SegmentedCacheModel" "tapeSize" "[I", .fieldLink RX8 47 "SegmentedCacheModel" "tapes" "[[J", .methodLink RX8 161 yX8_isTape, .static yX8_isTape, .initialized RX8, .code yX8_isTape cX8_isTape 1 (some .boolean), .methodLink RX8 54 yX8_in, .static yX8_in, .code yX8_in cX8_in 3 (some .boolean), .methodLink RX8 158 yX8_manyAt, .instanceMethod yX8_manyAt, .selects RX8 yX8_manyAt yX8_manyAt, .code yX8_manyAt cX8_manyAt 4 (some .int), .fieldLink RX8 11 "SegmentedCacheModel" "g" "[I", .methodLink RX8 116 yX8_keyAt, .instanceMethod yX8_keyAt, .selects RX8 yX8_keyAt yX8_keyAt, .code yX8_keyAt cX8_keyAt 4 (some .int), .methodLink RX8 113 yX8_placeOf, .instanceMethod yX8_placeOf, .selects RX8 yX8_placeOf yX8_placeOf, .code yX8_placeOf cX8_placeOf 4 (some .int)] ++ wsX80)
def wsX8_image : List Cond := .code yX8_image cX8_image 1 (some .int) :: ([.fieldLink RX8 11 "SegmentedCacheModel" "g" "[I", .fieldLink RX8 18 "SegmentedCacheModel" "kept" "[I", .fieldLink RX8 164 "SegmentedCacheModel" "isKept" "Z", .methodLink RX8 120 yX8_copy, .static yX8_copy, .initialized RX8, .code yX8_copy cX8_copy 3 none, .methodLink RX8 158 yX8_manyAt, .instanceMethod yX8_manyAt, .selects RX8 yX8_manyAt yX8_manyAt, .code yX8_manyAt cX8_manyAt 4 (some .int)] ++ wsX80)
def wsX8_undo : List Cond := .code yX8_undo cX8_undo 1 (some .int) :: ([.fieldLink RX8 164 "SegmentedCacheModel" "isKept" "Z", .fieldLink RX8 18 "SegmentedCacheModel" "kept" "[I", .fieldLink RX8 11 "SegmentedCacheModel" "g" "[I", .methodLink RX8 120 yX8_copy, .static yX8_copy, .initialized RX8, .code yX8_copy cX8_copy 3 none, .methodLink RX8 158 yX8_manyAt, .instanceMethod yX8_manyAt, .selects RX8 yX8_manyAt yX8_manyAt, .code yX8_manyAt cX8_manyAt 4 (some .int)] ++ wsX80)
def wsX8_count : List Cond := .code yX8_count cX8_count 2 (some .int) :: ([.fieldLink RX8 139 "SegmentedCacheModel" "traces" "I", .fieldLink RX8 11 "SegmentedCacheModel" "g" "[I", .fieldLink RX8 124 "SegmentedCacheModel" "textMany" "I", .methodLink RX8 158 yX8_manyAt, .instanceMethod yX8_manyAt, .selects RX8 yX8_manyAt yX8_manyAt, .initialized RX8, .code yX8_manyAt cX8_manyAt 4 (some .int)] ++ wsX80)
def wsX8_tape : List Cond := .code yX8_tape cX8_tape 5 (some .int) :: ([.fieldLink RX8 39 "SegmentedCacheModel" "tapeSort" "[I", .fieldLink RX8 42 "SegmentedCacheModel" "tapeSize" "[I", .fieldLink RX8 47 "SegmentedCacheModel" "tapes" "[[J", .methodLink RX8 161 yX8_isTape, .static yX8_isTape, .initialized RX8, .code yX8_isTape cX8_isTape 1 (some .boolean), .methodLink RX8 54 yX8_in, .static yX8_in, .code yX8_in cX8_in 3 (some .boolean)] ++ wsX80)
def wsX8_fit : List Cond := .code yX8_fit cX8_fit 3 (some .long) :: ([])
def wsX8_item : List Cond := .code yX8_item cX8_item 5 (some .int) :: ([.fieldLink RX8 39 "SegmentedCacheModel" "tapeSort" "[I", .fieldLink RX8 42 "SegmentedCacheModel" "tapeSize" "[I", .fieldLink RX8 47 "SegmentedCacheModel" "tapes" "[[J", .methodLink RX8 161 yX8_isTape, .static yX8_isTape, .initialized RX8, .code yX8_isTape cX8_isTape 1 (some .boolean), .methodLink RX8 54 yX8_in, .static yX8_in, .code yX8_in cX8_in 3 (some .boolean), .methodLink RX8 168 yX8_fit, .static yX8_fit, .code yX8_fit cX8_fit 3 (some .long)] ++ wsX80)
def wsX8_read : List Cond := .code yX8_read cX8_read 3 (some .long) :: ([.fieldLink RX8 39 "SegmentedCacheModel" "tapeSort" "[I", .fieldLink RX8 42 "SegmentedCacheModel" "tapeSize" "[I", .fieldLink RX8 47 "SegmentedCacheModel" "tapes" "[[J", .constantLong RX8 104 (-9223372036854775808), .methodLink RX8 161 yX8_isTape, .static yX8_isTape, .initialized RX8, .code yX8_isTape cX8_isTape 1 (some .boolean), .methodLink RX8 54 yX8_in, .static yX8_in, .code yX8_in cX8_in 3 (some .boolean)] ++ wsX80)
def wsX8_shift : List Cond := .code yX8_shift cX8_shift 7 (some .int) :: ([.fieldLink RX8 39 "SegmentedCacheModel" "tapeSort" "[I", .fieldLink RX8 42 "SegmentedCacheModel" "tapeSize" "[I", .fieldLink RX8 50 "SegmentedCacheModel" "moved" "[J", .fieldLink RX8 47 "SegmentedCacheModel" "tapes" "[[J", .methodLink RX8 161 yX8_isTape, .static yX8_isTape, .initialized RX8, .code yX8_isTape cX8_isTape 1 (some .boolean), .methodLink RX8 54 yX8_in, .static yX8_in, .code yX8_in cX8_in 3 (some .boolean)] ++ wsX80)
def wsJ9_max_7cf53 : List Cond := .code yJ9_max_7cf53 cJ9_max_7cf53 2 (some .int) :: ([])
def wsJ9_min_7cf53 : List Cond := .code yJ9_min_7cf53 cJ9_min_7cf53 2 (some .int) :: ([])
def wsL_law_r1 : List Cond := [Cond.classLink RL 7 RX7, Cond.instantiable RX7 7, Cond.initialized RX7, Cond.classLink RL 10 RX8, Cond.instantiable RX8 19, Cond.initialized RX8, Cond.constantLong RL 117 (4294967295), Cond.methodLink RL 9 yX7_init, Cond.instanceMethod yX7_init, Cond.code yX7_init cX7_init 2 none, Cond.methodLink RX7 5 objectInit, Cond.instanceMethod objectInit, Cond.code objectInit ⟨#[0xb1]⟩ 1 none, Cond.classLink RX7 11 RX3, Cond.instantiable RX3 6, Cond.initialized RX3, Cond.fieldLink RX7 14 "SegmentedCache" "live" "LSegmentedCache$Store;", Cond.fieldLink RX7 18 "SegmentedCache" "trial" "LSegmentedCache$Store;", Cond.classLink RX7 21 RX5, Cond.instantiable RX5 3, Cond.initialized RX5, Cond.fieldLink RX7 24 "SegmentedCache" "text" "LSegmentedCache$Text;", Cond.classLink RX7 28 RX6, Cond.fieldLink RX7 30 "SegmentedCache" "traces" "[LSegmentedCache$Trace;"]
def wsL_law_r2 : List Cond := [Cond.classLink RX7 34 RX4, Cond.fieldLink RX7 36 "SegmentedCache" "tapes" "[LSegmentedCache$Tape;", Cond.instantiable RX6 4, Cond.initialized RX6, Cond.instantiable RX4 3, Cond.initialized RX4, Cond.methodLink RX7 13 yX3_init, Cond.instanceMethod yX3_init, Cond.code yX3_init cX3_init 1 none, Cond.methodLink RX3 3 objectInit, Cond.arrayClass .int, Cond.fieldLink RX3 9 "SegmentedCache$Store" "settings" "[I", Cond.fieldLink RX3 15 "SegmentedCache$Store" "tallies" "[I", Cond.classLink RX3 18 RX2, Cond.instantiable RX2 4, Cond.initialized RX2, Cond.fieldLink RX3 21 "SegmentedCache$Store" "queues" "LSegmentedCache$Queues;", Cond.classLink RX3 25 "[[I", Cond.fieldLink RX3 27 "SegmentedCache$Store" "facts" "[[I", Cond.classLink RX3 30 RX1, Cond.instantiable RX1 2, Cond.initialized RX1, Cond.fieldLink RX3 33 "SegmentedCache$Store" "leavers" "LSegmentedCache$Leavers;", Cond.classLink RX3 37 RX0]
def wsL_law_r3 : List Cond := [Cond.instantiable RX0 3, Cond.initialized RX0, Cond.fieldLink RX3 40 "SegmentedCache$Store" "book" "LSegmentedCache$Book;", Cond.methodLink RX3 20 yX2_init, Cond.instanceMethod yX2_init, Cond.code yX2_init cX2_init 2 none, Cond.methodLink RX2 3 objectInit, Cond.fieldLink RX2 9 "SegmentedCache$Queues" "sizes" "[I", Cond.fieldLink RX2 15 "SegmentedCache$Queues" "weights" "[I", Cond.fieldLink RX2 18 "SegmentedCache$Queues" "newer" "[I", Cond.fieldLink RX2 21 "SegmentedCache$Queues" "older" "[I", Cond.instanceMethod yX1_init, Cond.code yX1_init cX1_init 1 none, Cond.methodLink RX1 3 objectInit, Cond.fieldLink RX1 9 "SegmentedCache$Leavers" "ring" "[I", Cond.instanceMethod yX0_init, Cond.code yX0_init cX0_init 1 none, Cond.methodLink RX0 3 objectInit, Cond.fieldLink RX0 9 "SegmentedCache$Book" "keys" "[I", Cond.fieldLink RX0 15 "SegmentedCache$Book" "wheres" "[I", Cond.instanceMethod yX5_init, Cond.code yX5_init cX5_init 1 none, Cond.methodLink RX5 3 objectInit, Cond.fieldLink RX5 9 "SegmentedCache$Text" "signs" "[I"]
def wsL_law_r4 : List Cond := [Cond.instanceMethod yX6_init, Cond.code yX6_init cX6_init 1 none, Cond.methodLink RX6 3 objectInit, Cond.fieldLink RX6 9 "SegmentedCache$Trace" "kinds" "[I", Cond.fieldLink RX6 15 "SegmentedCache$Trace" "keys" "[I", Cond.fieldLink RX6 18 "SegmentedCache$Trace" "weights" "[I", Cond.instanceMethod yX4_init, Cond.code yX4_init cX4_init 1 none, Cond.methodLink RX4 3 objectInit, Cond.arrayClass .long, Cond.fieldLink RX4 9 "SegmentedCache$Tape" "items" "[J", Cond.fieldLink RX4 15 "SegmentedCache$Tape" "sort" "I", Cond.methodLink RL 12 yX8_init, Cond.instanceMethod yX8_init, Cond.code yX8_init cX8_init 2 none, Cond.methodLink RX8 5 objectInit, Cond.fieldLink RX8 11 "SegmentedCacheModel" "g" "[I", Cond.fieldLink RX8 15 "SegmentedCacheModel" "saved" "[I", Cond.fieldLink RX8 18 "SegmentedCacheModel" "kept" "[I", Cond.fieldLink RX8 21 "SegmentedCacheModel" "going" "[I", Cond.fieldLink RX8 24 "SegmentedCacheModel" "text" "[I", Cond.fieldLink RX8 27 "SegmentedCacheModel" "acts" "[I", Cond.fieldLink RX8 30 "SegmentedCacheModel" "keys" "[I", Cond.fieldLink RX8 33 "SegmentedCacheModel" "weights" "[I"]
def wsL_law_r5 : List Cond := [Cond.fieldLink RX8 36 "SegmentedCacheModel" "many" "[I", Cond.fieldLink RX8 39 "SegmentedCacheModel" "tapeSort" "[I", Cond.fieldLink RX8 42 "SegmentedCacheModel" "tapeSize" "[I", Cond.classLink RX8 45 "[[J", Cond.fieldLink RX8 47 "SegmentedCacheModel" "tapes" "[[J", Cond.fieldLink RX8 50 "SegmentedCacheModel" "moved" "[J", Cond.methodLink RL 13 yX7_set, Cond.instanceMethod yX7_set, Cond.selects RX7 yX7_set yX7_set, Cond.code yX7_set cX7_set 4 (some .int), Cond.fieldLink RX7 49 "SegmentedCache$Store" "settings" "[I", Cond.methodLink RX7 53 Lib.Math.min.name, Cond.static Lib.Math.min.name, Cond.initialized "java/lang/Math", Cond.code Lib.Math.min.name Lib.Math.min.code 2 (some .int), Cond.methodLink RX7 42 yX7_leastOf, Cond.static yX7_leastOf, Cond.code yX7_leastOf cX7_leastOf 1 (some .int), Cond.methodLink RX7 46 yX7_mostOf, Cond.instanceMethod yX7_mostOf, Cond.selects RX7 yX7_mostOf yX7_mostOf, Cond.code yX7_mostOf cX7_mostOf 2 (some .int), Cond.methodLink RX7 59 yX3_trim, Cond.instanceMethod yX3_trim]
def wsL_law_r6 : List Cond := [Cond.selects RX3 yX3_trim yX3_trim, Cond.code yX3_trim cX3_trim 1 none, Cond.methodLink RX3 107 yX3_demote, Cond.instanceMethod yX3_demote, Cond.selects RX3 yX3_demote yX3_demote, Cond.code yX3_demote cX3_demote 3 none, Cond.constant RX3 116 (1000000), Cond.fieldLink RX3 63 "SegmentedCache$Queues" "weights" "[I", Cond.methodLink RX3 117 yX2_oldestLoose, Cond.instanceMethod yX2_oldestLoose, Cond.selects RX2 yX2_oldestLoose yX2_oldestLoose, Cond.code yX2_oldestLoose cX2_oldestLoose 5 (some .int), Cond.methodLink RX2 30 yX2_oldest, Cond.instanceMethod yX2_oldest, Cond.selects RX2 yX2_oldest yX2_oldest, Cond.code yX2_oldest cX2_oldest 2 (some .int), Cond.methodLink RX3 95 yX3_move, Cond.instanceMethod yX3_move, Cond.selects RX3 yX3_move yX3_move, Cond.code yX3_move cX3_move 4 none, Cond.methodLink RX3 70 yX2_remove, Cond.instanceMethod yX2_remove, Cond.selects RX2 yX2_remove yX2_remove, Cond.code yX2_remove cX2_remove 4 none]
def wsL_law_r7 : List Cond := [Cond.methodLink RX3 74 yX2_add, Cond.instanceMethod yX2_add, Cond.selects RX2 yX2_add yX2_add, Cond.code yX2_add cX2_add 6 none, Cond.methodLink RX3 110 yX3_makeRoom, Cond.instanceMethod yX3_makeRoom, Cond.selects RX3 yX3_makeRoom yX3_makeRoom, Cond.code yX3_makeRoom cX3_makeRoom 4 none, Cond.methodLink RX3 121 yX3_weightOfThings, Cond.instanceMethod yX3_weightOfThings, Cond.selects RX3 yX3_weightOfThings yX3_weightOfThings, Cond.code yX3_weightOfThings cX3_weightOfThings 1 (some .int), Cond.methodLink RX3 125 yX1_add, Cond.instanceMethod yX1_add, Cond.selects RX1 yX1_add yX1_add, Cond.code yX1_add cX1_add 2 none, Cond.fieldLink RX1 21 "SegmentedCache$Leavers" "total" "I", Cond.methodLink RX1 25 yJ9_floorMod_7cf53, Cond.static yJ9_floorMod_7cf53, Cond.initialized RJ9, Cond.code yJ9_floorMod_7cf53 cJ9_floorMod_7cf53 3 (some .int), Cond.methodLink RX3 113 yX3_forget, Cond.instanceMethod yX3_forget, Cond.selects RX3 yX3_forget yX3_forget]
def wsL_law_r8 : List Cond := [Cond.code yX3_forget cX3_forget 4 none, Cond.fieldLink RX3 60 "SegmentedCache$Queues" "sizes" "[I", Cond.methodLink RX3 127 yX2_oldest, Cond.methodLink RL 17 yX8_set, Cond.instanceMethod yX8_set, Cond.selects RX8 yX8_set yX8_set, Cond.code yX8_set cX8_set 5 (some .int), Cond.methodLink RX8 54 yX8_in, Cond.static yX8_in, Cond.code yX8_in cX8_in 3 (some .boolean), Cond.methodLink RX8 93 yX8_capacity, Cond.instanceMethod yX8_capacity, Cond.selects RX8 yX8_capacity yX8_capacity, Cond.code yX8_capacity cX8_capacity 2 none, Cond.methodLink RX8 86 yX8_trim, Cond.instanceMethod yX8_trim, Cond.selects RX8 yX8_trim yX8_trim, Cond.code yX8_trim cX8_trim 2 none, Cond.methodLink RX8 73 yX8_sinks, Cond.instanceMethod yX8_sinks, Cond.selects RX8 yX8_sinks yX8_sinks, Cond.code yX8_sinks cX8_sinks 2 none, Cond.methodLink RX8 66 yX8_oldest, Cond.instanceMethod yX8_oldest]
def wsL_law_r9 : List Cond := [Cond.selects RX8 yX8_oldest yX8_oldest, Cond.code yX8_oldest cX8_oldest 5 (some .int), Cond.methodLink RX8 58 yX8_goes, Cond.instanceMethod yX8_goes, Cond.selects RX8 yX8_goes yX8_goes, Cond.code yX8_goes cX8_goes 3 none, Cond.methodLink RX8 76 yX8_lets, Cond.instanceMethod yX8_lets, Cond.selects RX8 yX8_lets yX8_lets, Cond.code yX8_lets cX8_lets 3 none, Cond.methodLink RX8 70 yX8_went, Cond.instanceMethod yX8_went, Cond.selects RX8 yX8_went yX8_went, Cond.code yX8_went cX8_went 4 none, Cond.fieldLink RX8 62 "SegmentedCacheModel" "goingMany" "I", Cond.methodLink RL 18 yX7_told, Cond.instanceMethod yX7_told, Cond.selects RX7 yX7_told yX7_told, Cond.code yX7_told cX7_told 2 (some .int), Cond.fieldLink RX7 62 "SegmentedCache$Store" "queues" "LSegmentedCache$Queues;", Cond.fieldLink RX7 66 "SegmentedCache$Queues" "weights" "[I", Cond.fieldLink RX7 71 "SegmentedCache$Store" "tallies" "[I", Cond.fieldLink RX7 74 "SegmentedCache$Store" "leavers" "LSegmentedCache$Leavers;", Cond.fieldLink RX7 78 "SegmentedCache$Leavers" "total" "I"]
def wsL_law_r10 : List Cond := [Cond.methodLink RL 22 yX8_told, Cond.instanceMethod yX8_told, Cond.selects RX8 yX8_told yX8_told, Cond.code yX8_told cX8_told 2 (some .int), Cond.methodLink RL 23 yX7_put, Cond.instanceMethod yX7_put, Cond.selects RX7 yX7_put yX7_put, Cond.code yX7_put cX7_put 7 (some .int), Cond.methodLink RX7 84 yX7_keyOf, Cond.static yX7_keyOf, Cond.code yX7_keyOf cX7_keyOf 2 (some .int), Cond.methodLink RX7 87 yX3_store, Cond.instanceMethod yX3_store, Cond.selects RX3 yX3_store yX3_store, Cond.code yX3_store cX3_store 6 (some .int), Cond.methodLink RX3 77 yX3_isThing, Cond.instanceMethod yX3_isThing, Cond.selects RX3 yX3_isThing yX3_isThing, Cond.code yX3_isThing cX3_isThing 3 (some .boolean), Cond.methodLink RX3 81 yX3_replace, Cond.instanceMethod yX3_replace, Cond.selects RX3 yX3_replace yX3_replace, Cond.code yX3_replace cX3_replace 5 none, Cond.methodLink RX3 91 yX3_hit]
def wsL_law_r11 : List Cond := [Cond.instanceMethod yX3_hit, Cond.selects RX3 yX3_hit yX3_hit, Cond.code yX3_hit cX3_hit 4 none, Cond.methodLink RX3 104 Lib.Math.min.name, Cond.methodLink RX3 85 yX3_admit, Cond.instanceMethod yX3_admit, Cond.selects RX3 yX3_admit yX3_admit, Cond.code yX3_admit cX3_admit 6 none, Cond.methodLink RX3 99 Lib.Math.max.name, Cond.static Lib.Math.max.name, Cond.code Lib.Math.max.name Lib.Math.max.code 2 (some .int), Cond.methodLink RX3 88 yX3_trim, Cond.methodLink RL 27 yX8_put, Cond.instanceMethod yX8_put, Cond.selects RX8 yX8_put yX8_put, Cond.code yX8_put cX8_put 6 (some .int), Cond.methodLink RX8 96 yX8_isKey, Cond.static yX8_isKey, Cond.code yX8_isKey cX8_isKey 2 (some .boolean), Cond.methodLink RX8 100 yX8_putIn, Cond.instanceMethod yX8_putIn, Cond.selects RX8 yX8_putIn yX8_putIn, Cond.code yX8_putIn cX8_putIn 6 (some .int), Cond.methodLink RX8 79 yX8_weighs]
def wsL_law_r12 : List Cond := [Cond.instanceMethod yX8_weighs, Cond.selects RX8 yX8_weighs yX8_weighs, Cond.code yX8_weighs cX8_weighs 3 none, Cond.methodLink RX8 82 yX8_hit, Cond.instanceMethod yX8_hit, Cond.selects RX8 yX8_hit yX8_hit, Cond.code yX8_hit cX8_hit 2 none, Cond.methodLink RL 28 yX7_get, Cond.instanceMethod yX7_get, Cond.selects RX7 yX7_get yX7_get, Cond.code yX7_get cX7_get 4 (some .long), Cond.constantLong RX7 91 (-9223372036854775808), Cond.fieldLink RX7 97 "SegmentedCache$Store" "facts" "[[I", Cond.methodLink RX7 93 yX3_fetch, Cond.instanceMethod yX3_fetch, Cond.selects RX3 yX3_fetch yX3_fetch, Cond.code yX3_fetch cX3_fetch 2 (some .boolean), Cond.methodLink RL 32 yX8_get, Cond.instanceMethod yX8_get, Cond.selects RX8 yX8_get yX8_get, Cond.code yX8_get cX8_get 5 (some .long), Cond.constantLong RX8 104 (-9223372036854775808), Cond.methodLink RX8 106 yX8_gets, Cond.instanceMethod yX8_gets]
def wsL_law_r13 : List Cond := [Cond.selects RX8 yX8_gets yX8_gets, Cond.code yX8_gets cX8_gets 2 (some .boolean), Cond.methodLink RX8 89 yX8_isThing, Cond.instanceMethod yX8_isThing, Cond.selects RX8 yX8_isThing yX8_isThing, Cond.code yX8_isThing cX8_isThing 2 (some .boolean), Cond.methodLink RL 33 yX7_drop, Cond.instanceMethod yX7_drop, Cond.selects RX7 yX7_drop yX7_drop, Cond.code yX7_drop cX7_drop 5 (some .int), Cond.methodLink RX7 101 yX3_move, Cond.methodLink RL 36 yX8_drop, Cond.instanceMethod yX8_drop, Cond.selects RX8 yX8_drop yX8_drop, Cond.code yX8_drop cX8_drop 3 (some .int), Cond.methodLink RX8 109 yX8_drops, Cond.instanceMethod yX8_drops, Cond.selects RX8 yX8_drops yX8_drops, Cond.code yX8_drops cX8_drops 3 (some .int), Cond.methodLink RL 37 yX7_pin, Cond.instanceMethod yX7_pin, Cond.selects RX7 yX7_pin yX7_pin, Cond.code yX7_pin cX7_pin 6 (some .int), Cond.methodLink RX7 105 yX3_isThing]
def wsL_law_r14 : List Cond := [Cond.methodLink RL 41 yX8_pin, Cond.instanceMethod yX8_pin, Cond.selects RX8 yX8_pin yX8_pin, Cond.code yX8_pin cX8_pin 6 (some .int), Cond.methodLink RL 42 yX7_of, Cond.instanceMethod yX7_of, Cond.selects RX7 yX7_of yX7_of, Cond.code yX7_of cX7_of 7 (some .int), Cond.methodLink RX7 108 yX3_placeOf, Cond.instanceMethod yX3_placeOf, Cond.selects RX3 yX3_placeOf yX3_placeOf, Cond.code yX3_placeOf cX3_placeOf 3 (some .int), Cond.methodLink RX3 66 yX2_placeOf, Cond.instanceMethod yX2_placeOf, Cond.selects RX2 yX2_placeOf yX2_placeOf, Cond.code yX2_placeOf cX2_placeOf 5 (some .int), Cond.methodLink RL 46 yX8_of, Cond.instanceMethod yX8_of, Cond.selects RX8 yX8_of yX8_of, Cond.code yX8_of cX8_of 6 (some .int), Cond.methodLink RX8 113 yX8_placeOf, Cond.instanceMethod yX8_placeOf, Cond.selects RX8 yX8_placeOf yX8_placeOf, Cond.code yX8_placeOf cX8_placeOf 4 (some .int)]
def wsL_law_r15 : List Cond := [Cond.methodLink RL 47 yX7_key, Cond.instanceMethod yX7_key, Cond.selects RX7 yX7_key yX7_key, Cond.code yX7_key cX7_key 3 (some .int), Cond.methodLink RX7 111 yX2_keyAt, Cond.instanceMethod yX2_keyAt, Cond.selects RX2 yX2_keyAt yX2_keyAt, Cond.code yX2_keyAt cX2_keyAt 5 (some .int), Cond.methodLink RL 50 yX8_key, Cond.instanceMethod yX8_key, Cond.selects RX8 yX8_key yX8_key, Cond.code yX8_key cX8_key 3 (some .int), Cond.methodLink RX8 116 yX8_keyAt, Cond.instanceMethod yX8_keyAt, Cond.selects RX8 yX8_keyAt yX8_keyAt, Cond.code yX8_keyAt cX8_keyAt 4 (some .int), Cond.methodLink RL 51 yX7_gone, Cond.instanceMethod yX7_gone, Cond.selects RX7 yX7_gone yX7_gone, Cond.code yX7_gone cX7_gone 3 (some .int), Cond.methodLink RX7 114 yX1_at, Cond.instanceMethod yX1_at, Cond.selects RX1 yX1_at yX1_at, Cond.code yX1_at cX1_at 2 (some .int)]
def wsL_law_r16 : List Cond := [Cond.methodLink RL 54 yX8_gone, Cond.instanceMethod yX8_gone, Cond.selects RX8 yX8_gone yX8_gone, Cond.code yX8_gone cX8_gone 2 (some .int), Cond.methodLink RL 55 yX7_victim, Cond.instanceMethod yX7_victim, Cond.selects RX7 yX7_victim yX7_victim, Cond.code yX7_victim cX7_victim 4 (some .int), Cond.methodLink RX7 117 yX7_rehearse, Cond.instanceMethod yX7_rehearse, Cond.selects RX7 yX7_rehearse yX7_rehearse, Cond.code yX7_rehearse cX7_rehearse 3 none, Cond.methodLink RX7 120 yX3_copyFrom, Cond.instanceMethod yX3_copyFrom, Cond.selects RX3 yX3_copyFrom yX3_copyFrom, Cond.code yX3_copyFrom cX3_copyFrom 3 none, Cond.methodLink RX3 44 arraycopyName, Cond.native arraycopyName, Cond.static arraycopyName, Cond.initialized "java/lang/System", Cond.methodLink RX3 50 yX2_copyFrom, Cond.instanceMethod yX2_copyFrom, Cond.selects RX2 yX2_copyFrom yX2_copyFrom, Cond.code yX2_copyFrom cX2_copyFrom 2 none]
def wsL_law_r17 : List Cond := [Cond.methodLink RX2 24 arraycopyName, Cond.methodLink RX3 54 yX1_copyFrom, Cond.instanceMethod yX1_copyFrom, Cond.selects RX1 yX1_copyFrom yX1_copyFrom, Cond.code yX1_copyFrom cX1_copyFrom 2 none, Cond.methodLink RX1 15 arraycopyName, Cond.methodLink RX3 57 yX0_copyFrom, Cond.instanceMethod yX0_copyFrom, Cond.selects RX0 yX0_copyFrom yX0_copyFrom, Cond.code yX0_copyFrom cX0_copyFrom 2 none, Cond.methodLink RX0 18 arraycopyName, Cond.fieldLink RX0 24 "SegmentedCache$Book" "size" "I", Cond.methodLink RL 58 yX8_victim, Cond.instanceMethod yX8_victim, Cond.selects RX8 yX8_victim yX8_victim, Cond.code yX8_victim cX8_victim 3 (some .int), Cond.methodLink RX8 120 yX8_copy, Cond.static yX8_copy, Cond.code yX8_copy cX8_copy 3 none, Cond.methodLink RL 59 yX7_feed, Cond.instanceMethod yX7_feed, Cond.selects RX7 yX7_feed yX7_feed, Cond.code yX7_feed cX7_feed 2 (some .int), Cond.fieldLink RX7 124 "SegmentedCache$Text" "length" "I"]
def wsL_law_r18 : List Cond := [Cond.fieldLink RX7 127 "SegmentedCache$Text" "signs" "[I", Cond.methodLink RL 62 yX8_feed, Cond.instanceMethod yX8_feed, Cond.selects RX8 yX8_feed yX8_feed, Cond.code yX8_feed cX8_feed 2 (some .int), Cond.fieldLink RX8 124 "SegmentedCacheModel" "textMany" "I", Cond.methodLink RL 63 yX7_trace, Cond.instanceMethod yX7_trace, Cond.selects RX7 yX7_trace yX7_trace, Cond.code yX7_trace cX7_trace 2 (some .int), Cond.fieldLink RX7 130 "SegmentedCache" "traceCount" "I", Cond.methodLink RX7 133 yX5_readInto, Cond.instanceMethod yX5_readInto, Cond.selects RX5 yX5_readInto yX5_readInto, Cond.code yX5_readInto cX5_readInto 3 (some .int), Cond.fieldLink RX5 15 "SegmentedCache$Text" "at" "I", Cond.fieldLink RX5 23 "SegmentedCache$Trace" "size" "I", Cond.fieldLink RX5 28 "SegmentedCache$Text" "length" "I", Cond.methodLink RX5 19 yX5_readClause, Cond.instanceMethod yX5_readClause, Cond.selects RX5 yX5_readClause yX5_readClause, Cond.code yX5_readClause cX5_readClause 7 (some .boolean), Cond.fieldLink RX5 39 "SegmentedCache$Trace" "kinds" "[I", Cond.fieldLink RX5 42 "SegmentedCache$Trace" "keys" "[I"]
def wsL_law_r19 : List Cond := [Cond.methodLink RX5 35 yX5_next, Cond.instanceMethod yX5_next, Cond.selects RX5 yX5_next yX5_next, Cond.code yX5_next cX5_next 1 (some .int), Cond.methodLink RX5 31 yX5_skip, Cond.instanceMethod yX5_skip, Cond.selects RX5 yX5_skip yX5_skip, Cond.code yX5_skip cX5_skip 4 (some .boolean), Cond.methodLink RX5 45 yX5_readWeight, Cond.instanceMethod yX5_readWeight, Cond.selects RX5 yX5_readWeight yX5_readWeight, Cond.code yX5_readWeight cX5_readWeight 3 (some .boolean), Cond.fieldLink RX5 48 "SegmentedCache$Trace" "weights" "[I", Cond.methodLink RL 67 yX8_trace, Cond.instanceMethod yX8_trace, Cond.selects RX8 yX8_trace yX8_trace, Cond.code yX8_trace cX8_trace 2 (some .int), Cond.fieldLink RX8 139 "SegmentedCacheModel" "traces" "I", Cond.fieldLink RX8 130 "SegmentedCacheModel" "spot" "I", Cond.fieldLink RX8 127 "SegmentedCacheModel" "fault" "I", Cond.methodLink RX8 142 yX8_clause, Cond.instanceMethod yX8_clause, Cond.selects RX8 yX8_clause yX8_clause, Cond.code yX8_clause cX8_clause 5 none]
def wsL_law_r20 : List Cond := [Cond.methodLink RX8 133 yX8_sees, Cond.instanceMethod yX8_sees, Cond.selects RX8 yX8_sees yX8_sees, Cond.code yX8_sees cX8_sees 3 (some .boolean), Cond.methodLink RX8 136 yX8_must, Cond.instanceMethod yX8_must, Cond.selects RX8 yX8_must yX8_must, Cond.code yX8_must cX8_must 3 (some .int), Cond.methodLink RL 68 yX7_run, Cond.instanceMethod yX7_run, Cond.selects RX7 yX7_run yX7_run, Cond.code yX7_run cX7_run 2 (some .int), Cond.methodLink RX7 137 yX7_isTrace, Cond.instanceMethod yX7_isTrace, Cond.selects RX7 yX7_isTrace yX7_isTrace, Cond.code yX7_isTrace cX7_isTrace 2 (some .boolean), Cond.methodLink RX7 140 yX3_perform, Cond.instanceMethod yX3_perform, Cond.selects RX3 yX3_perform yX3_perform, Cond.code yX3_perform cX3_perform 5 (some .int), Cond.fieldLink RX3 131 "SegmentedCache$Trace" "size" "I", Cond.fieldLink RX3 137 "SegmentedCache$Trace" "keys" "[I", Cond.fieldLink RX3 140 "SegmentedCache$Trace" "kinds" "[I", Cond.fieldLink RX3 146 "SegmentedCache$Trace" "weights" "[I"]
def wsL_law_r21 : List Cond := [Cond.methodLink RX3 143 yX3_fetch, Cond.methodLink RX3 147 yX3_store, Cond.methodLink RL 71 yX8_run, Cond.instanceMethod yX8_run, Cond.selects RX8 yX8_run yX8_run, Cond.code yX8_run cX8_run 2 (some .int), Cond.methodLink RX8 145 yX8_isTrace, Cond.instanceMethod yX8_isTrace, Cond.selects RX8 yX8_isTrace yX8_isTrace, Cond.code yX8_isTrace cX8_isTrace 2 (some .boolean), Cond.methodLink RX8 148 yX8_runs, Cond.instanceMethod yX8_runs, Cond.selects RX8 yX8_runs yX8_runs, Cond.code yX8_runs cX8_runs 4 (some .int), Cond.methodLink RL 72 yX7_would, Cond.instanceMethod yX7_would, Cond.selects RX7 yX7_would yX7_would, Cond.code yX7_would cX7_would 3 (some .int), Cond.methodLink RX7 143 yX3_weightOfThings, Cond.methodLink RL 75 yX8_would, Cond.instanceMethod yX8_would, Cond.selects RX8 yX8_would yX8_would, Cond.code yX8_would cX8_would 4 (some .int), Cond.methodLink RL 76 yX7_need]
def wsL_law_r22 : List Cond := [Cond.instanceMethod yX7_need, Cond.selects RX7 yX7_need yX7_need, Cond.code yX7_need cX7_need 4 (some .int), Cond.methodLink RL 79 yX8_need, Cond.instanceMethod yX8_need, Cond.selects RX8 yX8_need yX8_need, Cond.code yX8_need cX8_need 5 (some .int), Cond.methodLink RL 80 yX7_odds, Cond.instanceMethod yX7_odds, Cond.selects RX7 yX7_odds yX7_odds, Cond.code yX7_odds cX7_odds 7 (some .long), Cond.methodLink RX7 147 yX7_isPart, Cond.static yX7_isPart, Cond.code yX7_isPart cX7_isPart 1 (some .boolean), Cond.methodLink RX7 150 yX7_partOf, Cond.static yX7_partOf, Cond.code yX7_partOf cX7_partOf 4 (some .long), Cond.methodLink RX7 163 yX7_commonDivisor, Cond.static yX7_commonDivisor, Cond.code yX7_commonDivisor cX7_commonDivisor 6 (some .int), Cond.constant RX7 166 (1000000), Cond.methodLink RL 84 yX8_odds, Cond.instanceMethod yX8_odds, Cond.selects RX8 yX8_odds yX8_odds]
def wsL_law_r23 : List Cond := [Cond.code yX8_odds cX8_odds 6 (some .long), Cond.methodLink RX8 154 yX8_part, Cond.static yX8_part, Cond.code yX8_part cX8_part 4 (some .long), Cond.methodLink RX8 151 yX8_common, Cond.static yX8_common, Cond.code yX8_common cX8_common 5 (some .int), Cond.methodLink RL 85 yX7_mean, Cond.instanceMethod yX7_mean, Cond.selects RX7 yX7_mean yX7_mean, Cond.code yX7_mean cX7_mean 7 (some .long), Cond.fieldLink RX7 154 "SegmentedCache$Queues" "sizes" "[I", Cond.fieldLink RX7 160 "SegmentedCache$Queues" "newer" "[I", Cond.methodLink RX7 157 yX2_oldest, Cond.methodLink RL 88 yX8_mean, Cond.instanceMethod yX8_mean, Cond.selects RX8 yX8_mean yX8_mean, Cond.code yX8_mean cX8_mean 5 (some .long), Cond.methodLink RX8 158 yX8_manyAt, Cond.instanceMethod yX8_manyAt, Cond.selects RX8 yX8_manyAt yX8_manyAt, Cond.code yX8_manyAt cX8_manyAt 4 (some .int), Cond.methodLink RL 89 yX7_book, Cond.instanceMethod yX7_book]
def wsL_law_r24 : List Cond := [Cond.selects RX7 yX7_book yX7_book, Cond.code yX7_book cX7_book 6 (some .int), Cond.fieldLink RX7 167 "SegmentedCache$Store" "book" "LSegmentedCache$Book;", Cond.fieldLink RX7 171 "SegmentedCache$Book" "size" "I", Cond.fieldLink RX7 176 "SegmentedCache$Book" "keys" "[I", Cond.fieldLink RX7 179 "SegmentedCache$Book" "wheres" "[I", Cond.methodLink RL 92 yX8_book, Cond.instanceMethod yX8_book, Cond.selects RX8 yX8_book yX8_book, Cond.code yX8_book cX8_book 4 (some .int), Cond.methodLink RL 93 yX7_looked, Cond.instanceMethod yX7_looked, Cond.selects RX7 yX7_looked yX7_looked, Cond.code yX7_looked cX7_looked 3 (some .int), Cond.methodLink RL 96 yX8_looked, Cond.instanceMethod yX8_looked, Cond.selects RX8 yX8_looked yX8_looked, Cond.code yX8_looked cX8_looked 2 (some .int), Cond.methodLink RL 97 yX7_judge, Cond.instanceMethod yX7_judge, Cond.selects RX7 yX7_judge yX7_judge, Cond.code yX7_judge cX7_judge 8 (some .int), Cond.fieldLink RX7 185 "SegmentedCache$Tape" "sort" "I", Cond.fieldLink RX7 188 "SegmentedCache$Tape" "length" "I"]
def wsL_law_r25 : List Cond := [Cond.fieldLink RX7 189 "SegmentedCache$Tape" "items" "[J", Cond.methodLink RX7 182 yX7_isTape, Cond.static yX7_isTape, Cond.code yX7_isTape cX7_isTape 1 (some .boolean), Cond.methodLink RL 100 yX8_judge, Cond.instanceMethod yX8_judge, Cond.selects RX8 yX8_judge yX8_judge, Cond.code yX8_judge cX8_judge 5 (some .int), Cond.methodLink RX8 161 yX8_isTape, Cond.static yX8_isTape, Cond.code yX8_isTape cX8_isTape 1 (some .boolean), Cond.methodLink RL 101 yX7_image, Cond.instanceMethod yX7_image, Cond.selects RX7 yX7_image yX7_image, Cond.code yX7_image cX7_image 1 (some .int), Cond.fieldLink RX7 193 "SegmentedCache" "kept" "LSegmentedCache$Store;", Cond.methodLink RX7 196 yX3_thingCount, Cond.instanceMethod yX3_thingCount, Cond.selects RX3 yX3_thingCount yX3_thingCount, Cond.code yX3_thingCount cX3_thingCount 1 (some .int), Cond.methodLink RL 104 yX8_image, Cond.instanceMethod yX8_image, Cond.selects RX8 yX8_image yX8_image, Cond.code yX8_image cX8_image 1 (some .int)]
def wsL_law_r26 : List Cond := [Cond.fieldLink RX8 164 "SegmentedCacheModel" "isKept" "Z", Cond.methodLink RL 105 yX7_undo, Cond.instanceMethod yX7_undo, Cond.selects RX7 yX7_undo yX7_undo, Cond.code yX7_undo cX7_undo 1 (some .int), Cond.methodLink RL 108 yX8_undo, Cond.instanceMethod yX8_undo, Cond.selects RX8 yX8_undo yX8_undo, Cond.code yX8_undo cX8_undo 1 (some .int), Cond.methodLink RL 109 yX7_count, Cond.instanceMethod yX7_count, Cond.selects RX7 yX7_count yX7_count, Cond.code yX7_count cX7_count 2 (some .int), Cond.methodLink RL 112 yX8_count, Cond.instanceMethod yX8_count, Cond.selects RX8 yX8_count yX8_count, Cond.code yX8_count cX8_count 2 (some .int), Cond.methodLink RL 113 yX7_tape, Cond.instanceMethod yX7_tape, Cond.selects RX7 yX7_tape yX7_tape, Cond.code yX7_tape cX7_tape 4 (some .int), Cond.methodLink RX7 199 yX4_become, Cond.instanceMethod yX4_become, Cond.selects RX4 yX4_become yX4_become]
def wsL_law_r27 : List Cond := [Cond.code yX4_become cX4_become 4 none, Cond.fieldLink RX4 19 "SegmentedCache$Tape" "length" "I", Cond.methodLink RL 116 yX8_tape, Cond.instanceMethod yX8_tape, Cond.selects RX8 yX8_tape yX8_tape, Cond.code yX8_tape cX8_tape 5 (some .int), Cond.methodLink RL 119 yX7_item, Cond.instanceMethod yX7_item, Cond.selects RX7 yX7_item yX7_item, Cond.code yX7_item cX7_item 6 (some .int), Cond.methodLink RX7 202 yX4_asItem, Cond.instanceMethod yX4_asItem, Cond.selects RX4 yX4_asItem yX4_asItem, Cond.code yX4_asItem cX4_asItem 3 (some .long), Cond.methodLink RL 123 yX8_item, Cond.instanceMethod yX8_item, Cond.selects RX8 yX8_item yX8_item, Cond.code yX8_item cX8_item 5 (some .int), Cond.methodLink RX8 168 yX8_fit, Cond.static yX8_fit, Cond.code yX8_fit cX8_fit 3 (some .long), Cond.methodLink RL 124 yX7_read, Cond.instanceMethod yX7_read, Cond.selects RX7 yX7_read yX7_read]
def wsL_law_r28 : List Cond := [Cond.code yX7_read cX7_read 4 (some .long), Cond.methodLink RL 127 yX8_read, Cond.instanceMethod yX8_read, Cond.selects RX8 yX8_read yX8_read, Cond.code yX8_read cX8_read 3 (some .long), Cond.methodLink RL 128 yX7_shift, Cond.instanceMethod yX7_shift, Cond.selects RX7 yX7_shift yX7_shift, Cond.code yX7_shift cX7_shift 8 (some .int), Cond.methodLink RX7 210 arraycopyName, Cond.methodLink RX7 206 yX4_hasRange, Cond.instanceMethod yX4_hasRange, Cond.selects RX4 yX4_hasRange yX4_hasRange, Cond.code yX4_hasRange cX4_hasRange 3 (some .boolean), Cond.methodLink RL 131 yX8_shift, Cond.instanceMethod yX8_shift, Cond.selects RX8 yX8_shift yX8_shift, Cond.code yX8_shift cX8_shift 7 (some .int)]
def wsL_law : List Cond := (wsL_law_r1 ++ (wsL_law_r2 ++ (wsL_law_r3 ++ (wsL_law_r4 ++ (wsL_law_r5 ++ (wsL_law_r6 ++ (wsL_law_r7 ++ (wsL_law_r8 ++ (wsL_law_r9 ++ (wsL_law_r10 ++ (wsL_law_r11 ++ (wsL_law_r12 ++ (wsL_law_r13 ++ (wsL_law_r14 ++ (wsL_law_r15 ++ (wsL_law_r16 ++ (wsL_law_r17 ++ (wsL_law_r18 ++ (wsL_law_r19 ++ (wsL_law_r20 ++ (wsL_law_r21 ++ (wsL_law_r22 ++ (wsL_law_r23 ++ (wsL_law_r24 ++ (wsL_law_r25 ++ (wsL_law_r26 ++ (wsL_law_r27 ++ wsL_law_r28))))))))))))))))))))))))))) ++ wsX70 ++ wsX80 ++ wsX30 ++ wsX50 ++ wsX60 ++ wsX40 ++ wsX20 ++ wsX10 ++ wsX00 ++ ([] : List Cond)
theorem lw_mem {big : List Cond} (ws : List Cond) (ps : List Nat) (hp : ws = ps.filterMap (fun i => big[i]?)) : ∀ w ∈ ws, w ∈ big := by
  intro w hw
  rw [hp] at hw
  obtain ⟨i, -, hi⟩ := List.mem_filterMap.mp hw
  exact List.mem_of_getElem? hi
set_option maxRecDepth 20000 in
theorem il_wsL_law_r1 : ∀ w ∈ wsL_law_r1, w ∈ lw_tbl := lw_mem _ [40, 41, 29, 533, 534, 37, 813, 42, 43, 44, 45, 46, 47, 48, 49, 30, 205, 206, 139, 140, 34, 208, 157, 209] (by decide +kernel)
set_option maxRecDepth 20000 in
theorem il_wsL_law_r2 : ∀ w ∈ wsL_law_r2, w ∈ lw_tbl := lw_mem _ [159, 211, 161, 35, 186, 36, 50, 51, 52, 53, 78, 114, 116, 54, 55, 31, 118, 79, 120, 81, 82, 32, 122, 95] (by decide +kernel)
set_option maxRecDepth 20000 in
theorem il_wsL_law_r3 : ∀ w ∈ wsL_law_r3, w ∈ lw_tbl := lw_mem _ [96, 33, 124, 56, 57, 58, 59, 60, 63, 66, 68, 84, 85, 86, 87, 98, 99, 100, 101, 103, 142, 143, 144, 145] (by decide +kernel)
set_option maxRecDepth 20000 in
theorem il_wsL_law_r4 : ∀ w ∈ wsL_law_r4, w ∈ lw_tbl := lw_mem _ [163, 164, 165, 166, 169, 172, 188, 189, 190, 204, 191, 193, 535, 536, 537, 538, 541, 542, 543, 545, 547, 549, 550, 551] (by decide +kernel)
set_option maxRecDepth 20000 in
theorem il_wsL_law_r5 : ∀ w ∈ wsL_law_r5, w ∈ lw_tbl := lw_mem _ [552, 554, 555, 539, 556, 557, 227, 228, 229, 230, 115, 238, 239, 38, 240, 231, 232, 233, 234, 236, 0, 237, 241, 242] (by decide +kernel)
set_option maxRecDepth 20000 in
theorem il_wsL_law_r6 : ∀ w ∈ wsL_law_r6, w ∈ lw_tbl := lw_mem _ [243, 244, 245, 246, 247, 248, 249, 65, 250, 251, 252, 253, 254, 255, 256, 257, 258, 259, 260, 261, 262, 263, 264, 265] (by decide +kernel)
set_option maxRecDepth 20000 in
theorem il_wsL_law_r7 : ∀ w ∈ wsL_law_r7, w ∈ lw_tbl := lw_mem _ [266, 267, 268, 269, 270, 271, 272, 273, 274, 275, 276, 277, 278, 279, 280, 281, 88, 282, 283, 38, 284, 285, 286, 287] (by decide +kernel)
set_option maxRecDepth 20000 in
theorem il_wsL_law_r8 : ∀ w ∈ wsL_law_r8, w ∈ lw_tbl := lw_mem _ [288, 61, 289, 599, 600, 601, 602, 603, 604, 605, 606, 608, 7, 609, 610, 612, 8, 613, 614, 616, 9, 617, 618, 620] (by decide +kernel)
set_option maxRecDepth 20000 in
theorem il_wsL_law_r9 : ∀ w ∈ wsL_law_r9, w ∈ lw_tbl := lw_mem _ [10, 621, 622, 624, 11, 625, 626, 628, 12, 629, 630, 632, 13, 633, 546, 290, 291, 292, 293, 119, 64, 117, 123, 89] (by decide +kernel)
set_option maxRecDepth 20000 in
theorem il_wsL_law_r10 : ∀ w ∈ wsL_law_r10, w ∈ lw_tbl := lw_mem _ [634, 635, 636, 637, 294, 295, 296, 297, 298, 299, 300, 301, 302, 303, 304, 305, 306, 307, 308, 309, 310, 311, 312, 313] (by decide +kernel)
set_option maxRecDepth 20000 in
theorem il_wsL_law_r11 : ∀ w ∈ wsL_law_r11, w ∈ lw_tbl := lw_mem _ [314, 315, 316, 317, 318, 319, 320, 321, 322, 323, 324, 325, 638, 639, 640, 641, 642, 643, 644, 645, 647, 14, 648, 649] (by decide +kernel)
set_option maxRecDepth 20000 in
theorem il_wsL_law_r12 : ∀ w ∈ wsL_law_r12, w ∈ lw_tbl := lw_mem _ [651, 15, 652, 653, 655, 16, 656, 326, 327, 328, 329, 330, 121, 331, 332, 333, 334, 657, 658, 659, 660, 661, 662, 664] (by decide +kernel)
set_option maxRecDepth 20000 in
theorem il_wsL_law_r13 : ∀ w ∈ wsL_law_r13, w ∈ lw_tbl := lw_mem _ [17, 665, 666, 668, 18, 669, 335, 336, 337, 338, 339, 670, 671, 672, 673, 674, 676, 19, 677, 340, 341, 342, 343, 344] (by decide +kernel)
set_option maxRecDepth 20000 in
theorem il_wsL_law_r14 : ∀ w ∈ wsL_law_r14, w ∈ lw_tbl := lw_mem _ [678, 679, 680, 681, 345, 346, 347, 348, 349, 350, 351, 352, 353, 354, 355, 356, 682, 683, 684, 685, 686, 688, 20, 689] (by decide +kernel)
set_option maxRecDepth 20000 in
theorem il_wsL_law_r15 : ∀ w ∈ wsL_law_r15, w ∈ lw_tbl := lw_mem _ [357, 358, 359, 360, 361, 362, 363, 364, 690, 691, 692, 693, 694, 696, 21, 697, 365, 366, 367, 368, 369, 370, 371, 372] (by decide +kernel)
set_option maxRecDepth 20000 in
theorem il_wsL_law_r16 : ∀ w ∈ wsL_law_r16, w ∈ lw_tbl := lw_mem _ [698, 699, 700, 701, 373, 374, 375, 376, 377, 379, 1, 380, 381, 382, 383, 384, 385, 387, 386, 39, 388, 389, 390, 391] (by decide +kernel)
set_option maxRecDepth 20000 in
theorem il_wsL_law_r17 : ∀ w ∈ wsL_law_r17, w ∈ lw_tbl := lw_mem _ [392, 393, 394, 395, 396, 397, 398, 399, 400, 401, 402, 105, 702, 703, 704, 705, 706, 707, 708, 403, 404, 405, 406, 148] (by decide +kernel)
set_option maxRecDepth 20000 in
theorem il_wsL_law_r18 : ∀ w ∈ wsL_law_r18, w ∈ lw_tbl := lw_mem _ [146, 709, 710, 711, 712, 548, 407, 408, 409, 410, 210, 411, 412, 413, 414, 149, 175, 147, 415, 417, 2, 418, 167, 170] (by decide +kernel)
set_option maxRecDepth 20000 in
theorem il_wsL_law_r19 : ∀ w ∈ wsL_law_r19, w ∈ lw_tbl := lw_mem _ [419, 421, 3, 422, 423, 425, 4, 426, 427, 429, 5, 430, 173, 713, 714, 715, 716, 553, 558, 559, 717, 719, 22, 720] (by decide +kernel)
set_option maxRecDepth 20000 in
theorem il_wsL_law_r20 : ∀ w ∈ wsL_law_r20, w ∈ lw_tbl := lw_mem _ [721, 723, 23, 724, 725, 727, 24, 728, 431, 432, 433, 434, 435, 437, 6, 438, 439, 440, 441, 442, 176, 171, 168, 174] (by decide +kernel)
set_option maxRecDepth 20000 in
theorem il_wsL_law_r21 : ∀ w ∈ wsL_law_r21, w ∈ lw_tbl := lw_mem _ [443, 444, 729, 730, 731, 732, 733, 735, 25, 736, 737, 739, 26, 740, 445, 446, 447, 448, 449, 741, 742, 743, 744, 450] (by decide +kernel)
set_option maxRecDepth 20000 in
theorem il_wsL_law_r22 : ∀ w ∈ wsL_law_r22, w ∈ lw_tbl := lw_mem _ [451, 452, 453, 745, 746, 747, 748, 454, 455, 456, 457, 458, 459, 460, 461, 462, 463, 464, 465, 466, 467, 749, 750, 751] (by decide +kernel)
set_option maxRecDepth 20000 in
theorem il_wsL_law_r23 : ∀ w ∈ wsL_law_r23, w ∈ lw_tbl := lw_mem _ [752, 753, 754, 755, 756, 757, 758, 468, 469, 470, 471, 62, 67, 472, 759, 760, 761, 762, 763, 765, 27, 766, 473, 474] (by decide +kernel)
set_option maxRecDepth 20000 in
theorem il_wsL_law_r24 : ∀ w ∈ wsL_law_r24, w ∈ lw_tbl := lw_mem _ [475, 476, 125, 106, 102, 104, 767, 768, 769, 770, 477, 478, 479, 480, 771, 772, 773, 774, 481, 482, 483, 484, 194, 196] (by decide +kernel)
set_option maxRecDepth 20000 in
theorem il_wsL_law_r25 : ∀ w ∈ wsL_law_r25, w ∈ lw_tbl := lw_mem _ [192, 485, 486, 487, 775, 776, 777, 778, 779, 780, 781, 488, 489, 490, 491, 207, 492, 493, 494, 495, 782, 783, 784, 785] (by decide +kernel)
set_option maxRecDepth 20000 in
theorem il_wsL_law_r26 : ∀ w ∈ wsL_law_r26, w ∈ lw_tbl := lw_mem _ [544, 496, 497, 498, 499, 786, 787, 788, 789, 500, 501, 502, 503, 790, 791, 792, 793, 504, 505, 506, 507, 508, 509, 510] (by decide +kernel)
set_option maxRecDepth 20000 in
theorem il_wsL_law_r27 : ∀ w ∈ wsL_law_r27, w ∈ lw_tbl := lw_mem _ [511, 195, 794, 795, 796, 797, 512, 513, 514, 515, 516, 517, 518, 519, 798, 799, 800, 801, 802, 803, 804, 520, 521, 522] (by decide +kernel)
set_option maxRecDepth 20000 in
theorem il_wsL_law_r28 : ∀ w ∈ wsL_law_r28, w ∈ lw_tbl := lw_mem _ [523, 805, 806, 807, 808, 524, 525, 526, 527, 532, 528, 529, 530, 531, 809, 810, 811, 812] (by decide +kernel)
set_option maxRecDepth 20000 in
theorem il_wsX00 : ∀ w ∈ wsX00, w ∈ lw_tbl := lw_mem _ [107, 109, 111] (by decide +kernel)
set_option maxRecDepth 20000 in
theorem il_wsX10 : ∀ w ∈ wsX10, w ∈ lw_tbl := lw_mem _ [90, 92] (by decide +kernel)
set_option maxRecDepth 20000 in
theorem il_wsX20 : ∀ w ∈ wsX20, w ∈ lw_tbl := lw_mem _ [69, 71, 73, 75] (by decide +kernel)
set_option maxRecDepth 20000 in
theorem il_wsX30 : ∀ w ∈ wsX30, w ∈ lw_tbl := lw_mem _ [126, 128, 130, 132, 134, 136] (by decide +kernel)
set_option maxRecDepth 20000 in
theorem il_wsX40 : ∀ w ∈ wsX40, w ∈ lw_tbl := lw_mem _ [197, 199, 201] (by decide +kernel)
set_option maxRecDepth 20000 in
theorem il_wsX50 : ∀ w ∈ wsX50, w ∈ lw_tbl := lw_mem _ [150, 152, 154] (by decide +kernel)
set_option maxRecDepth 20000 in
theorem il_wsX60 : ∀ w ∈ wsX60, w ∈ lw_tbl := lw_mem _ [177, 179, 181, 183] (by decide +kernel)
set_option maxRecDepth 20000 in
theorem il_wsX70 : ∀ w ∈ wsX70, w ∈ lw_tbl := lw_mem _ [212, 214, 216, 218, 220, 222, 224] (by decide +kernel)
set_option maxRecDepth 20000 in
theorem il_wsX80 : ∀ w ∈ wsX80, w ∈ lw_tbl := lw_mem _ [560, 562, 564, 566, 568, 570, 572, 574, 576, 578, 580, 582, 584, 586, 588, 590, 592, 594, 596] (by decide +kernel)
theorem wsL_law_in : ∀ w ∈ wsL_law, w ∈ lw_tbl := List.forall_mem_append.mpr ⟨List.forall_mem_append.mpr ⟨List.forall_mem_append.mpr ⟨List.forall_mem_append.mpr ⟨List.forall_mem_append.mpr ⟨List.forall_mem_append.mpr ⟨List.forall_mem_append.mpr ⟨List.forall_mem_append.mpr ⟨List.forall_mem_append.mpr ⟨List.forall_mem_append.mpr ⟨List.forall_mem_append.mpr ⟨il_wsL_law_r1, List.forall_mem_append.mpr ⟨il_wsL_law_r2, List.forall_mem_append.mpr ⟨il_wsL_law_r3, List.forall_mem_append.mpr ⟨il_wsL_law_r4, List.forall_mem_append.mpr ⟨il_wsL_law_r5, List.forall_mem_append.mpr ⟨il_wsL_law_r6, List.forall_mem_append.mpr ⟨il_wsL_law_r7, List.forall_mem_append.mpr ⟨il_wsL_law_r8, List.forall_mem_append.mpr ⟨il_wsL_law_r9, List.forall_mem_append.mpr ⟨il_wsL_law_r10, List.forall_mem_append.mpr ⟨il_wsL_law_r11, List.forall_mem_append.mpr ⟨il_wsL_law_r12, List.forall_mem_append.mpr ⟨il_wsL_law_r13, List.forall_mem_append.mpr ⟨il_wsL_law_r14, List.forall_mem_append.mpr ⟨il_wsL_law_r15, List.forall_mem_append.mpr ⟨il_wsL_law_r16, List.forall_mem_append.mpr ⟨il_wsL_law_r17, List.forall_mem_append.mpr ⟨il_wsL_law_r18, List.forall_mem_append.mpr ⟨il_wsL_law_r19, List.forall_mem_append.mpr ⟨il_wsL_law_r20, List.forall_mem_append.mpr ⟨il_wsL_law_r21, List.forall_mem_append.mpr ⟨il_wsL_law_r22, List.forall_mem_append.mpr ⟨il_wsL_law_r23, List.forall_mem_append.mpr ⟨il_wsL_law_r24, List.forall_mem_append.mpr ⟨il_wsL_law_r25, List.forall_mem_append.mpr ⟨il_wsL_law_r26, List.forall_mem_append.mpr ⟨il_wsL_law_r27, il_wsL_law_r28⟩⟩⟩⟩⟩⟩⟩⟩⟩⟩⟩⟩⟩⟩⟩⟩⟩⟩⟩⟩⟩⟩⟩⟩⟩⟩⟩, il_wsX70⟩, il_wsX80⟩, il_wsX30⟩, il_wsX50⟩, il_wsX60⟩, il_wsX40⟩, il_wsX20⟩, il_wsX10⟩, il_wsX00⟩, fun _ h => absurd h List.not_mem_nil⟩
theorem inlX0 : ∀ w ∈ wsX00, w ∈ wsL_law := fun _ h => List.mem_append_left _ (List.mem_append_right _ h)
theorem inX0 : ∀ w ∈ wsX00, w ∈ lw_tbl := fun w h => wsL_law_in w (inlX0 w h)
theorem inlX1 : ∀ w ∈ wsX10, w ∈ wsL_law := fun _ h => List.mem_append_left _ (List.mem_append_left _ (List.mem_append_right _ h))
theorem inX1 : ∀ w ∈ wsX10, w ∈ lw_tbl := fun w h => wsL_law_in w (inlX1 w h)
theorem inlX2 : ∀ w ∈ wsX20, w ∈ wsL_law := fun _ h => List.mem_append_left _ (List.mem_append_left _ (List.mem_append_left _ (List.mem_append_right _ h)))
theorem inX2 : ∀ w ∈ wsX20, w ∈ lw_tbl := fun w h => wsL_law_in w (inlX2 w h)
theorem inlX3 : ∀ w ∈ wsX30, w ∈ wsL_law := fun _ h => List.mem_append_left _ (List.mem_append_left _ (List.mem_append_left _ (List.mem_append_left _ (List.mem_append_left _ (List.mem_append_left _ (List.mem_append_left _ (List.mem_append_right _ h)))))))
theorem inX3 : ∀ w ∈ wsX30, w ∈ lw_tbl := fun w h => wsL_law_in w (inlX3 w h)
theorem inlX4 : ∀ w ∈ wsX40, w ∈ wsL_law := fun _ h => List.mem_append_left _ (List.mem_append_left _ (List.mem_append_left _ (List.mem_append_left _ (List.mem_append_right _ h))))
theorem inX4 : ∀ w ∈ wsX40, w ∈ lw_tbl := fun w h => wsL_law_in w (inlX4 w h)
theorem inlX5 : ∀ w ∈ wsX50, w ∈ wsL_law := fun _ h => List.mem_append_left _ (List.mem_append_left _ (List.mem_append_left _ (List.mem_append_left _ (List.mem_append_left _ (List.mem_append_left _ (List.mem_append_right _ h))))))
theorem inX5 : ∀ w ∈ wsX50, w ∈ lw_tbl := fun w h => wsL_law_in w (inlX5 w h)
theorem inlX6 : ∀ w ∈ wsX60, w ∈ wsL_law := fun _ h => List.mem_append_left _ (List.mem_append_left _ (List.mem_append_left _ (List.mem_append_left _ (List.mem_append_left _ (List.mem_append_right _ h)))))
theorem inX6 : ∀ w ∈ wsX60, w ∈ lw_tbl := fun w h => wsL_law_in w (inlX6 w h)
theorem inlX7 : ∀ w ∈ wsX70, w ∈ wsL_law := fun _ h => List.mem_append_left _ (List.mem_append_left _ (List.mem_append_left _ (List.mem_append_left _ (List.mem_append_left _ (List.mem_append_left _ (List.mem_append_left _ (List.mem_append_left _ (List.mem_append_left _ (List.mem_append_right _ h)))))))))
theorem inX7 : ∀ w ∈ wsX70, w ∈ lw_tbl := fun w h => wsL_law_in w (inlX7 w h)
theorem inlX8 : ∀ w ∈ wsX80, w ∈ wsL_law := fun _ h => List.mem_append_left _ (List.mem_append_left _ (List.mem_append_left _ (List.mem_append_left _ (List.mem_append_left _ (List.mem_append_left _ (List.mem_append_left _ (List.mem_append_left _ (List.mem_append_right _ h))))))))
theorem inX8 : ∀ w ∈ wsX80, w ∈ lw_tbl := fun w h => wsL_law_in w (inlX8 w h)
theorem inJ9 : ∀ w ∈ wsJ90, w ∈ lw_tbl := by decide +kernel
theorem inJ10 : ∀ w ∈ wsJ100, w ∈ lw_tbl := by decide +kernel
end
section
theorem dX0_init_0 : decode cX0_init 0 = .ok (.aload_n 0, 1) := by decide +kernel
theorem dX0_init_1 : decode cX0_init 1 = .ok (.invokespecial 3, 3) := by decide +kernel
theorem dX0_init_4 : decode cX0_init 4 = .ok (.aload_n 0, 1) := by decide +kernel
theorem dX0_init_5 : decode cX0_init 5 = .ok (.bipush 8, 2) := by decide +kernel
theorem dX0_init_7 : decode cX0_init 7 = .ok (.newarray .int, 2) := by decide +kernel
theorem dX0_init_9 : decode cX0_init 9 = .ok (.putfield 9, 3) := by decide +kernel
theorem dX0_init_12 : decode cX0_init 12 = .ok (.aload_n 0, 1) := by decide +kernel
theorem dX0_init_13 : decode cX0_init 13 = .ok (.bipush 8, 2) := by decide +kernel
theorem dX0_init_15 : decode cX0_init 15 = .ok (.newarray .int, 2) := by decide +kernel
theorem dX0_init_17 : decode cX0_init 17 = .ok (.putfield 15, 3) := by decide +kernel
theorem dX0_init_20 : decode cX0_init 20 = .ok (.return_, 1) := by decide +kernel
theorem dX0_copyFrom_0 : decode cX0_copyFrom 0 = .ok (.aload_n 1, 1) := by decide +kernel
theorem dX0_copyFrom_1 : decode cX0_copyFrom 1 = .ok (.getfield 9, 3) := by decide +kernel
theorem dX0_copyFrom_4 : decode cX0_copyFrom 4 = .ok (.iconst 0, 1) := by decide +kernel
theorem dX0_copyFrom_5 : decode cX0_copyFrom 5 = .ok (.aload_n 0, 1) := by decide +kernel
theorem dX0_copyFrom_6 : decode cX0_copyFrom 6 = .ok (.getfield 9, 3) := by decide +kernel
theorem dX0_copyFrom_9 : decode cX0_copyFrom 9 = .ok (.iconst 0, 1) := by decide +kernel
theorem dX0_copyFrom_10 : decode cX0_copyFrom 10 = .ok (.bipush 8, 2) := by decide +kernel
theorem dX0_copyFrom_12 : decode cX0_copyFrom 12 = .ok (.invokestatic 18, 3) := by decide +kernel
theorem dX0_copyFrom_15 : decode cX0_copyFrom 15 = .ok (.aload_n 1, 1) := by decide +kernel
theorem dX0_copyFrom_16 : decode cX0_copyFrom 16 = .ok (.getfield 15, 3) := by decide +kernel
theorem dX0_copyFrom_19 : decode cX0_copyFrom 19 = .ok (.iconst 0, 1) := by decide +kernel
theorem dX0_copyFrom_20 : decode cX0_copyFrom 20 = .ok (.aload_n 0, 1) := by decide +kernel
theorem dX0_copyFrom_21 : decode cX0_copyFrom 21 = .ok (.getfield 15, 3) := by decide +kernel
theorem dX0_copyFrom_24 : decode cX0_copyFrom 24 = .ok (.iconst 0, 1) := by decide +kernel
theorem dX0_copyFrom_25 : decode cX0_copyFrom 25 = .ok (.bipush 8, 2) := by decide +kernel
theorem dX0_copyFrom_27 : decode cX0_copyFrom 27 = .ok (.invokestatic 18, 3) := by decide +kernel
theorem dX0_copyFrom_30 : decode cX0_copyFrom 30 = .ok (.aload_n 0, 1) := by decide +kernel
theorem dX0_copyFrom_31 : decode cX0_copyFrom 31 = .ok (.aload_n 1, 1) := by decide +kernel
theorem dX0_copyFrom_32 : decode cX0_copyFrom 32 = .ok (.getfield 24, 3) := by decide +kernel
theorem dX0_copyFrom_35 : decode cX0_copyFrom 35 = .ok (.putfield 24, 3) := by decide +kernel
theorem dX0_copyFrom_38 : decode cX0_copyFrom 38 = .ok (.return_, 1) := by decide +kernel
theorem dX1_init_0 : decode cX1_init 0 = .ok (.aload_n 0, 1) := by decide +kernel
theorem dX1_init_1 : decode cX1_init 1 = .ok (.invokespecial 3, 3) := by decide +kernel
theorem dX1_init_4 : decode cX1_init 4 = .ok (.aload_n 0, 1) := by decide +kernel
theorem dX1_init_5 : decode cX1_init 5 = .ok (.sipush 400, 3) := by decide +kernel
theorem dX1_init_8 : decode cX1_init 8 = .ok (.newarray .int, 2) := by decide +kernel
theorem dX1_init_10 : decode cX1_init 10 = .ok (.putfield 9, 3) := by decide +kernel
theorem dX1_init_13 : decode cX1_init 13 = .ok (.return_, 1) := by decide +kernel
theorem dX1_copyFrom_0 : decode cX1_copyFrom 0 = .ok (.aload_n 1, 1) := by decide +kernel
theorem dX1_copyFrom_1 : decode cX1_copyFrom 1 = .ok (.getfield 9, 3) := by decide +kernel
theorem dX1_copyFrom_4 : decode cX1_copyFrom 4 = .ok (.iconst 0, 1) := by decide +kernel
theorem dX1_copyFrom_5 : decode cX1_copyFrom 5 = .ok (.aload_n 0, 1) := by decide +kernel
theorem dX1_copyFrom_6 : decode cX1_copyFrom 6 = .ok (.getfield 9, 3) := by decide +kernel
theorem dX1_copyFrom_9 : decode cX1_copyFrom 9 = .ok (.iconst 0, 1) := by decide +kernel
theorem dX1_copyFrom_10 : decode cX1_copyFrom 10 = .ok (.sipush 400, 3) := by decide +kernel
theorem dX1_copyFrom_13 : decode cX1_copyFrom 13 = .ok (.invokestatic 15, 3) := by decide +kernel
theorem dX1_copyFrom_16 : decode cX1_copyFrom 16 = .ok (.aload_n 0, 1) := by decide +kernel
theorem dX1_copyFrom_17 : decode cX1_copyFrom 17 = .ok (.aload_n 1, 1) := by decide +kernel
theorem dX1_copyFrom_18 : decode cX1_copyFrom 18 = .ok (.getfield 21, 3) := by decide +kernel
theorem dX1_copyFrom_21 : decode cX1_copyFrom 21 = .ok (.putfield 21, 3) := by decide +kernel
theorem dX1_copyFrom_24 : decode cX1_copyFrom 24 = .ok (.return_, 1) := by decide +kernel
set_option maxRecDepth 20000 in
theorem ggX1_add_J9_floorMod_7cf53 : GoodIn wsX1_add wsJ9_floorMod_7cf53 := goodIn_r _ [6] (by decide +kernel) (by decide +kernel)
set_option maxRecDepth 20000 in
theorem gX1_add_J9_floorMod_7cf53 : GoodIn wsX1_add (va_wsS RX1 25 yJ9_floorMod_7cf53 wsJ9_floorMod_7cf53) := goodIn_app (goodIn_of _ (by decide +kernel)) ggX1_add_J9_floorMod_7cf53
theorem dX1_add_0 : decode cX1_add 0 = .ok (.aload_n 0, 1) := by decide +kernel
theorem dX1_add_1 : decode cX1_add 1 = .ok (.getfield 9, 3) := by decide +kernel
theorem dX1_add_4 : decode cX1_add 4 = .ok (.aload_n 0, 1) := by decide +kernel
theorem dX1_add_5 : decode cX1_add 5 = .ok (.getfield 21, 3) := by decide +kernel
theorem dX1_add_8 : decode cX1_add 8 = .ok (.sipush 400, 3) := by decide +kernel
theorem dX1_add_11 : decode cX1_add 11 = .ok (.invokestatic 25, 3) := by decide +kernel
theorem dX1_add_14 : decode cX1_add 14 = .ok (.iload_n 1, 1) := by decide +kernel
theorem dX1_add_15 : decode cX1_add 15 = .ok (.iastore, 1) := by decide +kernel
theorem dX1_add_16 : decode cX1_add 16 = .ok (.aload_n 0, 1) := by decide +kernel
theorem dX1_add_17 : decode cX1_add 17 = .ok (.dup, 1) := by decide +kernel
theorem dX1_add_18 : decode cX1_add 18 = .ok (.getfield 21, 3) := by decide +kernel
theorem dX1_add_21 : decode cX1_add 21 = .ok (.iconst 1, 1) := by decide +kernel
theorem dX1_add_22 : decode cX1_add 22 = .ok (.iadd, 1) := by decide +kernel
theorem dX1_add_23 : decode cX1_add 23 = .ok (.putfield 21, 3) := by decide +kernel
theorem dX1_add_26 : decode cX1_add 26 = .ok (.return_, 1) := by decide +kernel
set_option maxRecDepth 20000 in
theorem ggX1_at_J9_floorMod_7cf53 : GoodIn wsX1_at wsJ9_floorMod_7cf53 := goodIn_r _ [5] (by decide +kernel) (by decide +kernel)
set_option maxRecDepth 20000 in
theorem gX1_at_J9_floorMod_7cf53 : GoodIn wsX1_at (va_wsS RX1 25 yJ9_floorMod_7cf53 wsJ9_floorMod_7cf53) := goodIn_app (goodIn_of _ (by decide +kernel)) ggX1_at_J9_floorMod_7cf53
theorem dX1_at_0 : decode cX1_at 0 = .ok (.aload_n 0, 1) := by decide +kernel
theorem dX1_at_1 : decode cX1_at 1 = .ok (.getfield 9, 3) := by decide +kernel
theorem dX1_at_4 : decode cX1_at 4 = .ok (.iload_n 1, 1) := by decide +kernel
theorem dX1_at_5 : decode cX1_at 5 = .ok (.sipush 400, 3) := by decide +kernel
theorem dX1_at_8 : decode cX1_at 8 = .ok (.invokestatic 25, 3) := by decide +kernel
theorem dX1_at_11 : decode cX1_at 11 = .ok (.iaload, 1) := by decide +kernel
theorem dX1_at_12 : decode cX1_at 12 = .ok (.ireturn, 1) := by decide +kernel
theorem dX2_init_0 : decode cX2_init 0 = .ok (.aload_n 0, 1) := by decide +kernel
theorem dX2_init_1 : decode cX2_init 1 = .ok (.invokespecial 3, 3) := by decide +kernel
theorem dX2_init_4 : decode cX2_init 4 = .ok (.aload_n 0, 1) := by decide +kernel
theorem dX2_init_5 : decode cX2_init 5 = .ok (.iconst 5, 1) := by decide +kernel
theorem dX2_init_6 : decode cX2_init 6 = .ok (.newarray .int, 2) := by decide +kernel
theorem dX2_init_8 : decode cX2_init 8 = .ok (.putfield 9, 3) := by decide +kernel
theorem dX2_init_11 : decode cX2_init 11 = .ok (.aload_n 0, 1) := by decide +kernel
theorem dX2_init_12 : decode cX2_init 12 = .ok (.iconst 5, 1) := by decide +kernel
theorem dX2_init_13 : decode cX2_init 13 = .ok (.newarray .int, 2) := by decide +kernel
theorem dX2_init_15 : decode cX2_init 15 = .ok (.putfield 15, 3) := by decide +kernel
theorem dX2_init_18 : decode cX2_init 18 = .ok (.aload_n 0, 1) := by decide +kernel
theorem dX2_init_19 : decode cX2_init 19 = .ok (.sipush 405, 3) := by decide +kernel
theorem dX2_init_22 : decode cX2_init 22 = .ok (.newarray .int, 2) := by decide +kernel
theorem dX2_init_24 : decode cX2_init 24 = .ok (.putfield 18, 3) := by decide +kernel
theorem dX2_init_27 : decode cX2_init 27 = .ok (.aload_n 0, 1) := by decide +kernel
theorem dX2_init_28 : decode cX2_init 28 = .ok (.sipush 405, 3) := by decide +kernel
theorem dX2_init_31 : decode cX2_init 31 = .ok (.newarray .int, 2) := by decide +kernel
theorem dX2_init_33 : decode cX2_init 33 = .ok (.putfield 21, 3) := by decide +kernel
theorem dX2_init_36 : decode cX2_init 36 = .ok (.iconst 0, 1) := by decide +kernel
theorem dX2_init_37 : decode cX2_init 37 = .ok (.istore_n 1, 1) := by decide +kernel
theorem dX2_init_38 : decode cX2_init 38 = .ok (.iload_n 1, 1) := by decide +kernel
theorem dX2_init_39 : decode cX2_init 39 = .ok (.iconst 5, 1) := by decide +kernel
theorem dX2_init_40 : decode cX2_init 40 = .ok (.if_icmp .ge 39, 3) := by decide +kernel
theorem dX2_init_43 : decode cX2_init 43 = .ok (.aload_n 0, 1) := by decide +kernel
theorem dX2_init_44 : decode cX2_init 44 = .ok (.getfield 18, 3) := by decide +kernel
theorem dX2_init_47 : decode cX2_init 47 = .ok (.sipush 400, 3) := by decide +kernel
theorem dX2_init_50 : decode cX2_init 50 = .ok (.iload_n 1, 1) := by decide +kernel
theorem dX2_init_51 : decode cX2_init 51 = .ok (.iadd, 1) := by decide +kernel
theorem dX2_init_52 : decode cX2_init 52 = .ok (.sipush 400, 3) := by decide +kernel
theorem dX2_init_55 : decode cX2_init 55 = .ok (.iload_n 1, 1) := by decide +kernel
theorem dX2_init_56 : decode cX2_init 56 = .ok (.iadd, 1) := by decide +kernel
theorem dX2_init_57 : decode cX2_init 57 = .ok (.iastore, 1) := by decide +kernel
theorem dX2_init_58 : decode cX2_init 58 = .ok (.aload_n 0, 1) := by decide +kernel
theorem dX2_init_59 : decode cX2_init 59 = .ok (.getfield 21, 3) := by decide +kernel
theorem dX2_init_62 : decode cX2_init 62 = .ok (.sipush 400, 3) := by decide +kernel
theorem dX2_init_65 : decode cX2_init 65 = .ok (.iload_n 1, 1) := by decide +kernel
theorem dX2_init_66 : decode cX2_init 66 = .ok (.iadd, 1) := by decide +kernel
theorem dX2_init_67 : decode cX2_init 67 = .ok (.sipush 400, 3) := by decide +kernel
theorem dX2_init_70 : decode cX2_init 70 = .ok (.iload_n 1, 1) := by decide +kernel
theorem dX2_init_71 : decode cX2_init 71 = .ok (.iadd, 1) := by decide +kernel
theorem dX2_init_72 : decode cX2_init 72 = .ok (.iastore, 1) := by decide +kernel
theorem dX2_init_73 : decode cX2_init 73 = .ok (.iinc 1 1, 3) := by decide +kernel
theorem dX2_init_76 : decode cX2_init 76 = .ok (.goto (-38), 3) := by decide +kernel
theorem dX2_init_79 : decode cX2_init 79 = .ok (.return_, 1) := by decide +kernel
theorem dX2_copyFrom_0 : decode cX2_copyFrom 0 = .ok (.aload_n 1, 1) := by decide +kernel
theorem dX2_copyFrom_1 : decode cX2_copyFrom 1 = .ok (.getfield 9, 3) := by decide +kernel
theorem dX2_copyFrom_4 : decode cX2_copyFrom 4 = .ok (.iconst 0, 1) := by decide +kernel
theorem dX2_copyFrom_5 : decode cX2_copyFrom 5 = .ok (.aload_n 0, 1) := by decide +kernel
theorem dX2_copyFrom_6 : decode cX2_copyFrom 6 = .ok (.getfield 9, 3) := by decide +kernel
theorem dX2_copyFrom_9 : decode cX2_copyFrom 9 = .ok (.iconst 0, 1) := by decide +kernel
theorem dX2_copyFrom_10 : decode cX2_copyFrom 10 = .ok (.iconst 5, 1) := by decide +kernel
theorem dX2_copyFrom_11 : decode cX2_copyFrom 11 = .ok (.invokestatic 24, 3) := by decide +kernel
theorem dX2_copyFrom_14 : decode cX2_copyFrom 14 = .ok (.aload_n 1, 1) := by decide +kernel
theorem dX2_copyFrom_15 : decode cX2_copyFrom 15 = .ok (.getfield 15, 3) := by decide +kernel
theorem dX2_copyFrom_18 : decode cX2_copyFrom 18 = .ok (.iconst 0, 1) := by decide +kernel
theorem dX2_copyFrom_19 : decode cX2_copyFrom 19 = .ok (.aload_n 0, 1) := by decide +kernel
theorem dX2_copyFrom_20 : decode cX2_copyFrom 20 = .ok (.getfield 15, 3) := by decide +kernel
theorem dX2_copyFrom_23 : decode cX2_copyFrom 23 = .ok (.iconst 0, 1) := by decide +kernel
theorem dX2_copyFrom_24 : decode cX2_copyFrom 24 = .ok (.iconst 5, 1) := by decide +kernel
theorem dX2_copyFrom_25 : decode cX2_copyFrom 25 = .ok (.invokestatic 24, 3) := by decide +kernel
theorem dX2_copyFrom_28 : decode cX2_copyFrom 28 = .ok (.aload_n 1, 1) := by decide +kernel
theorem dX2_copyFrom_29 : decode cX2_copyFrom 29 = .ok (.getfield 18, 3) := by decide +kernel
theorem dX2_copyFrom_32 : decode cX2_copyFrom 32 = .ok (.iconst 0, 1) := by decide +kernel
theorem dX2_copyFrom_33 : decode cX2_copyFrom 33 = .ok (.aload_n 0, 1) := by decide +kernel
theorem dX2_copyFrom_34 : decode cX2_copyFrom 34 = .ok (.getfield 18, 3) := by decide +kernel
theorem dX2_copyFrom_37 : decode cX2_copyFrom 37 = .ok (.iconst 0, 1) := by decide +kernel
theorem dX2_copyFrom_38 : decode cX2_copyFrom 38 = .ok (.sipush 405, 3) := by decide +kernel
theorem dX2_copyFrom_41 : decode cX2_copyFrom 41 = .ok (.invokestatic 24, 3) := by decide +kernel
theorem dX2_copyFrom_44 : decode cX2_copyFrom 44 = .ok (.aload_n 1, 1) := by decide +kernel
theorem dX2_copyFrom_45 : decode cX2_copyFrom 45 = .ok (.getfield 21, 3) := by decide +kernel
theorem dX2_copyFrom_48 : decode cX2_copyFrom 48 = .ok (.iconst 0, 1) := by decide +kernel
theorem dX2_copyFrom_49 : decode cX2_copyFrom 49 = .ok (.aload_n 0, 1) := by decide +kernel
theorem dX2_copyFrom_50 : decode cX2_copyFrom 50 = .ok (.getfield 21, 3) := by decide +kernel
theorem dX2_copyFrom_53 : decode cX2_copyFrom 53 = .ok (.iconst 0, 1) := by decide +kernel
theorem dX2_copyFrom_54 : decode cX2_copyFrom 54 = .ok (.sipush 405, 3) := by decide +kernel
theorem dX2_copyFrom_57 : decode cX2_copyFrom 57 = .ok (.invokestatic 24, 3) := by decide +kernel
theorem dX2_copyFrom_60 : decode cX2_copyFrom 60 = .ok (.return_, 1) := by decide +kernel
theorem dX2_add_0 : decode cX2_add 0 = .ok (.sipush 400, 3) := by decide +kernel
theorem dX2_add_3 : decode cX2_add 3 = .ok (.iload_n 1, 1) := by decide +kernel
theorem dX2_add_4 : decode cX2_add 4 = .ok (.iadd, 1) := by decide +kernel
theorem dX2_add_5 : decode cX2_add 5 = .ok (.istore 4, 2) := by decide +kernel
theorem dX2_add_7 : decode cX2_add 7 = .ok (.aload_n 0, 1) := by decide +kernel
theorem dX2_add_8 : decode cX2_add 8 = .ok (.getfield 21, 3) := by decide +kernel
theorem dX2_add_11 : decode cX2_add 11 = .ok (.iload 4, 2) := by decide +kernel
theorem dX2_add_13 : decode cX2_add 13 = .ok (.iaload, 1) := by decide +kernel
theorem dX2_add_14 : decode cX2_add 14 = .ok (.istore 5, 2) := by decide +kernel
theorem dX2_add_16 : decode cX2_add 16 = .ok (.aload_n 0, 1) := by decide +kernel
theorem dX2_add_17 : decode cX2_add 17 = .ok (.getfield 18, 3) := by decide +kernel
theorem dX2_add_20 : decode cX2_add 20 = .ok (.iload 5, 2) := by decide +kernel
theorem dX2_add_22 : decode cX2_add 22 = .ok (.iload_n 2, 1) := by decide +kernel
theorem dX2_add_23 : decode cX2_add 23 = .ok (.iastore, 1) := by decide +kernel
theorem dX2_add_24 : decode cX2_add 24 = .ok (.aload_n 0, 1) := by decide +kernel
theorem dX2_add_25 : decode cX2_add 25 = .ok (.getfield 21, 3) := by decide +kernel
theorem dX2_add_28 : decode cX2_add 28 = .ok (.iload_n 2, 1) := by decide +kernel
theorem dX2_add_29 : decode cX2_add 29 = .ok (.iload 5, 2) := by decide +kernel
theorem dX2_add_31 : decode cX2_add 31 = .ok (.iastore, 1) := by decide +kernel
theorem dX2_add_32 : decode cX2_add 32 = .ok (.aload_n 0, 1) := by decide +kernel
theorem dX2_add_33 : decode cX2_add 33 = .ok (.getfield 18, 3) := by decide +kernel
theorem dX2_add_36 : decode cX2_add 36 = .ok (.iload_n 2, 1) := by decide +kernel
theorem dX2_add_37 : decode cX2_add 37 = .ok (.iload 4, 2) := by decide +kernel
theorem dX2_add_39 : decode cX2_add 39 = .ok (.iastore, 1) := by decide +kernel
theorem dX2_add_40 : decode cX2_add 40 = .ok (.aload_n 0, 1) := by decide +kernel
theorem dX2_add_41 : decode cX2_add 41 = .ok (.getfield 21, 3) := by decide +kernel
theorem dX2_add_44 : decode cX2_add 44 = .ok (.iload 4, 2) := by decide +kernel
theorem dX2_add_46 : decode cX2_add 46 = .ok (.iload_n 2, 1) := by decide +kernel
theorem dX2_add_47 : decode cX2_add 47 = .ok (.iastore, 1) := by decide +kernel
theorem dX2_add_48 : decode cX2_add 48 = .ok (.aload_n 0, 1) := by decide +kernel
theorem dX2_add_49 : decode cX2_add 49 = .ok (.getfield 9, 3) := by decide +kernel
theorem dX2_add_52 : decode cX2_add 52 = .ok (.iload_n 1, 1) := by decide +kernel
theorem dX2_add_53 : decode cX2_add 53 = .ok (.dup2, 1) := by decide +kernel
theorem dX2_add_54 : decode cX2_add 54 = .ok (.iaload, 1) := by decide +kernel
theorem dX2_add_55 : decode cX2_add 55 = .ok (.iconst 1, 1) := by decide +kernel
theorem dX2_add_56 : decode cX2_add 56 = .ok (.iadd, 1) := by decide +kernel
theorem dX2_add_57 : decode cX2_add 57 = .ok (.iastore, 1) := by decide +kernel
theorem dX2_add_58 : decode cX2_add 58 = .ok (.aload_n 0, 1) := by decide +kernel
theorem dX2_add_59 : decode cX2_add 59 = .ok (.getfield 15, 3) := by decide +kernel
theorem dX2_add_62 : decode cX2_add 62 = .ok (.iload_n 1, 1) := by decide +kernel
theorem dX2_add_63 : decode cX2_add 63 = .ok (.dup2, 1) := by decide +kernel
theorem dX2_add_64 : decode cX2_add 64 = .ok (.iaload, 1) := by decide +kernel
theorem dX2_add_65 : decode cX2_add 65 = .ok (.iload_n 3, 1) := by decide +kernel
theorem dX2_add_66 : decode cX2_add 66 = .ok (.iadd, 1) := by decide +kernel
theorem dX2_add_67 : decode cX2_add 67 = .ok (.iastore, 1) := by decide +kernel
theorem dX2_add_68 : decode cX2_add 68 = .ok (.return_, 1) := by decide +kernel
theorem dX2_remove_0 : decode cX2_remove 0 = .ok (.aload_n 0, 1) := by decide +kernel
theorem dX2_remove_1 : decode cX2_remove 1 = .ok (.getfield 18, 3) := by decide +kernel
theorem dX2_remove_4 : decode cX2_remove 4 = .ok (.aload_n 0, 1) := by decide +kernel
theorem dX2_remove_5 : decode cX2_remove 5 = .ok (.getfield 21, 3) := by decide +kernel
theorem dX2_remove_8 : decode cX2_remove 8 = .ok (.iload_n 2, 1) := by decide +kernel
theorem dX2_remove_9 : decode cX2_remove 9 = .ok (.iaload, 1) := by decide +kernel
theorem dX2_remove_10 : decode cX2_remove 10 = .ok (.aload_n 0, 1) := by decide +kernel
theorem dX2_remove_11 : decode cX2_remove 11 = .ok (.getfield 18, 3) := by decide +kernel
theorem dX2_remove_14 : decode cX2_remove 14 = .ok (.iload_n 2, 1) := by decide +kernel
theorem dX2_remove_15 : decode cX2_remove 15 = .ok (.iaload, 1) := by decide +kernel
theorem dX2_remove_16 : decode cX2_remove 16 = .ok (.iastore, 1) := by decide +kernel
theorem dX2_remove_17 : decode cX2_remove 17 = .ok (.aload_n 0, 1) := by decide +kernel
theorem dX2_remove_18 : decode cX2_remove 18 = .ok (.getfield 21, 3) := by decide +kernel
theorem dX2_remove_21 : decode cX2_remove 21 = .ok (.aload_n 0, 1) := by decide +kernel
theorem dX2_remove_22 : decode cX2_remove 22 = .ok (.getfield 18, 3) := by decide +kernel
theorem dX2_remove_25 : decode cX2_remove 25 = .ok (.iload_n 2, 1) := by decide +kernel
theorem dX2_remove_26 : decode cX2_remove 26 = .ok (.iaload, 1) := by decide +kernel
theorem dX2_remove_27 : decode cX2_remove 27 = .ok (.aload_n 0, 1) := by decide +kernel
theorem dX2_remove_28 : decode cX2_remove 28 = .ok (.getfield 21, 3) := by decide +kernel
theorem dX2_remove_31 : decode cX2_remove 31 = .ok (.iload_n 2, 1) := by decide +kernel
theorem dX2_remove_32 : decode cX2_remove 32 = .ok (.iaload, 1) := by decide +kernel
theorem dX2_remove_33 : decode cX2_remove 33 = .ok (.iastore, 1) := by decide +kernel
theorem dX2_remove_34 : decode cX2_remove 34 = .ok (.aload_n 0, 1) := by decide +kernel
theorem dX2_remove_35 : decode cX2_remove 35 = .ok (.getfield 9, 3) := by decide +kernel
theorem dX2_remove_38 : decode cX2_remove 38 = .ok (.iload_n 1, 1) := by decide +kernel
theorem dX2_remove_39 : decode cX2_remove 39 = .ok (.dup2, 1) := by decide +kernel
theorem dX2_remove_40 : decode cX2_remove 40 = .ok (.iaload, 1) := by decide +kernel
theorem dX2_remove_41 : decode cX2_remove 41 = .ok (.iconst 1, 1) := by decide +kernel
theorem dX2_remove_42 : decode cX2_remove 42 = .ok (.isub, 1) := by decide +kernel
theorem dX2_remove_43 : decode cX2_remove 43 = .ok (.iastore, 1) := by decide +kernel
theorem dX2_remove_44 : decode cX2_remove 44 = .ok (.aload_n 0, 1) := by decide +kernel
theorem dX2_remove_45 : decode cX2_remove 45 = .ok (.getfield 15, 3) := by decide +kernel
theorem dX2_remove_48 : decode cX2_remove 48 = .ok (.iload_n 1, 1) := by decide +kernel
theorem dX2_remove_49 : decode cX2_remove 49 = .ok (.dup2, 1) := by decide +kernel
theorem dX2_remove_50 : decode cX2_remove 50 = .ok (.iaload, 1) := by decide +kernel
theorem dX2_remove_51 : decode cX2_remove 51 = .ok (.iload_n 3, 1) := by decide +kernel
theorem dX2_remove_52 : decode cX2_remove 52 = .ok (.isub, 1) := by decide +kernel
theorem dX2_remove_53 : decode cX2_remove 53 = .ok (.iastore, 1) := by decide +kernel
theorem dX2_remove_54 : decode cX2_remove 54 = .ok (.return_, 1) := by decide +kernel
theorem dX2_oldest_0 : decode cX2_oldest 0 = .ok (.aload_n 0, 1) := by decide +kernel
theorem dX2_oldest_1 : decode cX2_oldest 1 = .ok (.getfield 18, 3) := by decide +kernel
theorem dX2_oldest_4 : decode cX2_oldest 4 = .ok (.sipush 400, 3) := by decide +kernel
theorem dX2_oldest_7 : decode cX2_oldest 7 = .ok (.iload_n 1, 1) := by decide +kernel
theorem dX2_oldest_8 : decode cX2_oldest 8 = .ok (.iadd, 1) := by decide +kernel
theorem dX2_oldest_9 : decode cX2_oldest 9 = .ok (.iaload, 1) := by decide +kernel
theorem dX2_oldest_10 : decode cX2_oldest 10 = .ok (.ireturn, 1) := by decide +kernel
set_option maxRecDepth 20000 in
theorem ggX2_keyAt_X2_oldest : GoodIn wsX2_keyAt wsX2_oldest := goodIn_r _ [7, 2, 8, 9, 10, 11] (by decide +kernel) (by decide +kernel)
set_option maxRecDepth 20000 in
theorem gX2_keyAt_X2_oldest : GoodIn wsX2_keyAt (wsV RX2 30 RX2 yX2_oldest wsX2_oldest) := goodIn_app (goodIn_of _ (by decide +kernel)) ggX2_keyAt_X2_oldest
theorem dX2_keyAt_0 : decode cX2_keyAt 0 = .ok (.aload_n 0, 1) := by decide +kernel
theorem dX2_keyAt_1 : decode cX2_keyAt 1 = .ok (.iload_n 1, 1) := by decide +kernel
theorem dX2_keyAt_2 : decode cX2_keyAt 2 = .ok (.invokevirtual 30, 3) := by decide +kernel
theorem dX2_keyAt_5 : decode cX2_keyAt 5 = .ok (.istore_n 3, 1) := by decide +kernel
theorem dX2_keyAt_6 : decode cX2_keyAt 6 = .ok (.iconst 0, 1) := by decide +kernel
theorem dX2_keyAt_7 : decode cX2_keyAt 7 = .ok (.istore 4, 2) := by decide +kernel
theorem dX2_keyAt_9 : decode cX2_keyAt 9 = .ok (.iload 4, 2) := by decide +kernel
theorem dX2_keyAt_11 : decode cX2_keyAt 11 = .ok (.aload_n 0, 1) := by decide +kernel
theorem dX2_keyAt_12 : decode cX2_keyAt 12 = .ok (.getfield 9, 3) := by decide +kernel
theorem dX2_keyAt_15 : decode cX2_keyAt 15 = .ok (.iload_n 1, 1) := by decide +kernel
theorem dX2_keyAt_16 : decode cX2_keyAt 16 = .ok (.iaload, 1) := by decide +kernel
theorem dX2_keyAt_17 : decode cX2_keyAt 17 = .ok (.if_icmp .ge 24, 3) := by decide +kernel
theorem dX2_keyAt_20 : decode cX2_keyAt 20 = .ok (.iload 4, 2) := by decide +kernel
theorem dX2_keyAt_22 : decode cX2_keyAt 22 = .ok (.iload_n 2, 1) := by decide +kernel
theorem dX2_keyAt_23 : decode cX2_keyAt 23 = .ok (.if_icmp .ne 5, 3) := by decide +kernel
theorem dX2_keyAt_26 : decode cX2_keyAt 26 = .ok (.iload_n 3, 1) := by decide +kernel
theorem dX2_keyAt_27 : decode cX2_keyAt 27 = .ok (.ireturn, 1) := by decide +kernel
theorem dX2_keyAt_28 : decode cX2_keyAt 28 = .ok (.aload_n 0, 1) := by decide +kernel
theorem dX2_keyAt_29 : decode cX2_keyAt 29 = .ok (.getfield 18, 3) := by decide +kernel
theorem dX2_keyAt_32 : decode cX2_keyAt 32 = .ok (.iload_n 3, 1) := by decide +kernel
theorem dX2_keyAt_33 : decode cX2_keyAt 33 = .ok (.iaload, 1) := by decide +kernel
theorem dX2_keyAt_34 : decode cX2_keyAt 34 = .ok (.istore_n 3, 1) := by decide +kernel
theorem dX2_keyAt_35 : decode cX2_keyAt 35 = .ok (.iinc 4 1, 3) := by decide +kernel
theorem dX2_keyAt_38 : decode cX2_keyAt 38 = .ok (.goto (-29), 3) := by decide +kernel
theorem dX2_keyAt_41 : decode cX2_keyAt 41 = .ok (.bipush (-5), 2) := by decide +kernel
theorem dX2_keyAt_43 : decode cX2_keyAt 43 = .ok (.ireturn, 1) := by decide +kernel
set_option maxRecDepth 20000 in
theorem ggX2_placeOf_X2_oldest : GoodIn wsX2_placeOf wsX2_oldest := goodIn_r _ [7, 2, 8, 9, 10, 11] (by decide +kernel) (by decide +kernel)
set_option maxRecDepth 20000 in
theorem gX2_placeOf_X2_oldest : GoodIn wsX2_placeOf (wsV RX2 30 RX2 yX2_oldest wsX2_oldest) := goodIn_app (goodIn_of _ (by decide +kernel)) ggX2_placeOf_X2_oldest
theorem dX2_placeOf_0 : decode cX2_placeOf 0 = .ok (.aload_n 0, 1) := by decide +kernel
theorem dX2_placeOf_1 : decode cX2_placeOf 1 = .ok (.iload_n 1, 1) := by decide +kernel
theorem dX2_placeOf_2 : decode cX2_placeOf 2 = .ok (.invokevirtual 30, 3) := by decide +kernel
theorem dX2_placeOf_5 : decode cX2_placeOf 5 = .ok (.istore_n 3, 1) := by decide +kernel
theorem dX2_placeOf_6 : decode cX2_placeOf 6 = .ok (.iconst 0, 1) := by decide +kernel
theorem dX2_placeOf_7 : decode cX2_placeOf 7 = .ok (.istore 4, 2) := by decide +kernel
theorem dX2_placeOf_9 : decode cX2_placeOf 9 = .ok (.iload 4, 2) := by decide +kernel
theorem dX2_placeOf_11 : decode cX2_placeOf 11 = .ok (.aload_n 0, 1) := by decide +kernel
theorem dX2_placeOf_12 : decode cX2_placeOf 12 = .ok (.getfield 9, 3) := by decide +kernel
theorem dX2_placeOf_15 : decode cX2_placeOf 15 = .ok (.iload_n 1, 1) := by decide +kernel
theorem dX2_placeOf_16 : decode cX2_placeOf 16 = .ok (.iaload, 1) := by decide +kernel
theorem dX2_placeOf_17 : decode cX2_placeOf 17 = .ok (.if_icmp .ge 24, 3) := by decide +kernel
theorem dX2_placeOf_20 : decode cX2_placeOf 20 = .ok (.iload_n 3, 1) := by decide +kernel
theorem dX2_placeOf_21 : decode cX2_placeOf 21 = .ok (.iload_n 2, 1) := by decide +kernel
theorem dX2_placeOf_22 : decode cX2_placeOf 22 = .ok (.if_icmp .ne 6, 3) := by decide +kernel
theorem dX2_placeOf_25 : decode cX2_placeOf 25 = .ok (.iload 4, 2) := by decide +kernel
theorem dX2_placeOf_27 : decode cX2_placeOf 27 = .ok (.ireturn, 1) := by decide +kernel
theorem dX2_placeOf_28 : decode cX2_placeOf 28 = .ok (.aload_n 0, 1) := by decide +kernel
theorem dX2_placeOf_29 : decode cX2_placeOf 29 = .ok (.getfield 18, 3) := by decide +kernel
theorem dX2_placeOf_32 : decode cX2_placeOf 32 = .ok (.iload_n 3, 1) := by decide +kernel
theorem dX2_placeOf_33 : decode cX2_placeOf 33 = .ok (.iaload, 1) := by decide +kernel
theorem dX2_placeOf_34 : decode cX2_placeOf 34 = .ok (.istore_n 3, 1) := by decide +kernel
theorem dX2_placeOf_35 : decode cX2_placeOf 35 = .ok (.iinc 4 1, 3) := by decide +kernel
theorem dX2_placeOf_38 : decode cX2_placeOf 38 = .ok (.goto (-29), 3) := by decide +kernel
theorem dX2_placeOf_41 : decode cX2_placeOf 41 = .ok (.bipush (-5), 2) := by decide +kernel
theorem dX2_placeOf_43 : decode cX2_placeOf 43 = .ok (.ireturn, 1) := by decide +kernel
set_option maxRecDepth 20000 in
theorem ggX2_oldestLoose_X2_oldest : GoodIn wsX2_oldestLoose wsX2_oldest := goodIn_r _ [7, 2, 8, 9, 10, 11] (by decide +kernel) (by decide +kernel)
set_option maxRecDepth 20000 in
theorem gX2_oldestLoose_X2_oldest : GoodIn wsX2_oldestLoose (wsV RX2 30 RX2 yX2_oldest wsX2_oldest) := goodIn_app (goodIn_of _ (by decide +kernel)) ggX2_oldestLoose_X2_oldest
theorem dX2_oldestLoose_0 : decode cX2_oldestLoose 0 = .ok (.aload_n 0, 1) := by decide +kernel
theorem dX2_oldestLoose_1 : decode cX2_oldestLoose 1 = .ok (.iload_n 1, 1) := by decide +kernel
theorem dX2_oldestLoose_2 : decode cX2_oldestLoose 2 = .ok (.invokevirtual 30, 3) := by decide +kernel
theorem dX2_oldestLoose_5 : decode cX2_oldestLoose 5 = .ok (.istore_n 3, 1) := by decide +kernel
theorem dX2_oldestLoose_6 : decode cX2_oldestLoose 6 = .ok (.iconst 0, 1) := by decide +kernel
theorem dX2_oldestLoose_7 : decode cX2_oldestLoose 7 = .ok (.istore 4, 2) := by decide +kernel
theorem dX2_oldestLoose_9 : decode cX2_oldestLoose 9 = .ok (.iload 4, 2) := by decide +kernel
theorem dX2_oldestLoose_11 : decode cX2_oldestLoose 11 = .ok (.aload_n 0, 1) := by decide +kernel
theorem dX2_oldestLoose_12 : decode cX2_oldestLoose 12 = .ok (.getfield 9, 3) := by decide +kernel
theorem dX2_oldestLoose_15 : decode cX2_oldestLoose 15 = .ok (.iload_n 1, 1) := by decide +kernel
theorem dX2_oldestLoose_16 : decode cX2_oldestLoose 16 = .ok (.iaload, 1) := by decide +kernel
theorem dX2_oldestLoose_17 : decode cX2_oldestLoose 17 = .ok (.if_icmp .ge 24, 3) := by decide +kernel
theorem dX2_oldestLoose_20 : decode cX2_oldestLoose 20 = .ok (.aload_n 2, 1) := by decide +kernel
theorem dX2_oldestLoose_21 : decode cX2_oldestLoose 21 = .ok (.iload_n 3, 1) := by decide +kernel
theorem dX2_oldestLoose_22 : decode cX2_oldestLoose 22 = .ok (.iaload, 1) := by decide +kernel
theorem dX2_oldestLoose_23 : decode cX2_oldestLoose 23 = .ok (.ifCond .ne 5, 3) := by decide +kernel
theorem dX2_oldestLoose_26 : decode cX2_oldestLoose 26 = .ok (.iload_n 3, 1) := by decide +kernel
theorem dX2_oldestLoose_27 : decode cX2_oldestLoose 27 = .ok (.ireturn, 1) := by decide +kernel
theorem dX2_oldestLoose_28 : decode cX2_oldestLoose 28 = .ok (.aload_n 0, 1) := by decide +kernel
theorem dX2_oldestLoose_29 : decode cX2_oldestLoose 29 = .ok (.getfield 18, 3) := by decide +kernel
theorem dX2_oldestLoose_32 : decode cX2_oldestLoose 32 = .ok (.iload_n 3, 1) := by decide +kernel
theorem dX2_oldestLoose_33 : decode cX2_oldestLoose 33 = .ok (.iaload, 1) := by decide +kernel
theorem dX2_oldestLoose_34 : decode cX2_oldestLoose 34 = .ok (.istore_n 3, 1) := by decide +kernel
theorem dX2_oldestLoose_35 : decode cX2_oldestLoose 35 = .ok (.iinc 4 1, 3) := by decide +kernel
theorem dX2_oldestLoose_38 : decode cX2_oldestLoose 38 = .ok (.goto (-29), 3) := by decide +kernel
theorem dX2_oldestLoose_41 : decode cX2_oldestLoose 41 = .ok (.bipush (-5), 2) := by decide +kernel
theorem dX2_oldestLoose_43 : decode cX2_oldestLoose 43 = .ok (.ireturn, 1) := by decide +kernel
set_option maxRecDepth 20000 in
theorem ggX3_init_X2_init : GoodIn wsX3_init wsX2_init := goodIn_r _ [23, 24, 2, 3, 4, 25, 26, 27, 28, 44, 45, 46, 47] (by decide +kernel) (by decide +kernel)
set_option maxRecDepth 20000 in
theorem gX3_init_X2_init : GoodIn wsX3_init (wsX2_init) := ggX3_init_X2_init
set_option maxRecDepth 20000 in
theorem ggX3_init_X1_init : GoodIn wsX3_init wsX1_init := goodIn_r _ [30, 31, 2, 3, 4, 32, 48, 49] (by decide +kernel) (by decide +kernel)
set_option maxRecDepth 20000 in
theorem gX3_init_X1_init_n32 : GoodIn wsX3_init (wsX1_init) := ggX3_init_X1_init
set_option maxRecDepth 20000 in
theorem ggX3_init_X0_init : GoodIn wsX3_init wsX0_init := goodIn_r _ [34, 35, 2, 3, 4, 36, 37, 50, 51, 52] (by decide +kernel) (by decide +kernel)
set_option maxRecDepth 20000 in
theorem gX3_init_X0_init_n39 : GoodIn wsX3_init (wsX0_init) := ggX3_init_X0_init
theorem dX3_init_0 : decode cX3_init 0 = .ok (.aload_n 0, 1) := by decide +kernel
theorem dX3_init_1 : decode cX3_init 1 = .ok (.invokespecial 3, 3) := by decide +kernel
theorem dX3_init_4 : decode cX3_init 4 = .ok (.aload_n 0, 1) := by decide +kernel
theorem dX3_init_5 : decode cX3_init 5 = .ok (.iconst 4, 1) := by decide +kernel
theorem dX3_init_6 : decode cX3_init 6 = .ok (.newarray .int, 2) := by decide +kernel
theorem dX3_init_8 : decode cX3_init 8 = .ok (.putfield 9, 3) := by decide +kernel
theorem dX3_init_11 : decode cX3_init 11 = .ok (.aload_n 0, 1) := by decide +kernel
theorem dX3_init_12 : decode cX3_init 12 = .ok (.iconst 5, 1) := by decide +kernel
theorem dX3_init_13 : decode cX3_init 13 = .ok (.newarray .int, 2) := by decide +kernel
theorem dX3_init_15 : decode cX3_init 15 = .ok (.putfield 15, 3) := by decide +kernel
theorem dX3_init_18 : decode cX3_init 18 = .ok (.aload_n 0, 1) := by decide +kernel
theorem dX3_init_19 : decode cX3_init 19 = .ok (.new 18, 3) := by decide +kernel
theorem dX3_init_22 : decode cX3_init 22 = .ok (.dup, 1) := by decide +kernel
theorem dX3_init_23 : decode cX3_init 23 = .ok (.invokespecial 20, 3) := by decide +kernel
theorem dX3_init_26 : decode cX3_init 26 = .ok (.putfield 21, 3) := by decide +kernel
theorem dX3_init_29 : decode cX3_init 29 = .ok (.aload_n 0, 1) := by decide +kernel
theorem dX3_init_30 : decode cX3_init 30 = .ok (.bipush 7, 2) := by decide +kernel
theorem dX3_init_32 : decode cX3_init 32 = .ok (.sipush 400, 3) := by decide +kernel
theorem dX3_init_35 : decode cX3_init 35 = .ok (.multianewarray 25 2, 4) := by decide +kernel
theorem dX3_init_39 : decode cX3_init 39 = .ok (.putfield 27, 3) := by decide +kernel
theorem dX3_init_42 : decode cX3_init 42 = .ok (.aload_n 0, 1) := by decide +kernel
theorem dX3_init_43 : decode cX3_init 43 = .ok (.new 30, 3) := by decide +kernel
theorem dX3_init_46 : decode cX3_init 46 = .ok (.dup, 1) := by decide +kernel
theorem dX3_init_47 : decode cX3_init 47 = .ok (.invokespecial 32, 3) := by decide +kernel
theorem dX3_init_50 : decode cX3_init 50 = .ok (.putfield 33, 3) := by decide +kernel
theorem dX3_init_53 : decode cX3_init 53 = .ok (.aload_n 0, 1) := by decide +kernel
theorem dX3_init_54 : decode cX3_init 54 = .ok (.new 37, 3) := by decide +kernel
theorem dX3_init_57 : decode cX3_init 57 = .ok (.dup, 1) := by decide +kernel
theorem dX3_init_58 : decode cX3_init 58 = .ok (.invokespecial 39, 3) := by decide +kernel
theorem dX3_init_61 : decode cX3_init 61 = .ok (.putfield 40, 3) := by decide +kernel
theorem dX3_init_64 : decode cX3_init 64 = .ok (.aload_n 0, 1) := by decide +kernel
theorem dX3_init_65 : decode cX3_init 65 = .ok (.getfield 9, 3) := by decide +kernel
theorem dX3_init_68 : decode cX3_init 68 = .ok (.iconst 0, 1) := by decide +kernel
theorem dX3_init_69 : decode cX3_init 69 = .ok (.bipush 20, 2) := by decide +kernel
theorem dX3_init_71 : decode cX3_init 71 = .ok (.iastore, 1) := by decide +kernel
theorem dX3_init_72 : decode cX3_init 72 = .ok (.aload_n 0, 1) := by decide +kernel
theorem dX3_init_73 : decode cX3_init 73 = .ok (.getfield 9, 3) := by decide +kernel
theorem dX3_init_76 : decode cX3_init 76 = .ok (.iconst 1, 1) := by decide +kernel
theorem dX3_init_77 : decode cX3_init 77 = .ok (.bipush 10, 2) := by decide +kernel
theorem dX3_init_79 : decode cX3_init 79 = .ok (.iastore, 1) := by decide +kernel
theorem dX3_init_80 : decode cX3_init 80 = .ok (.aload_n 0, 1) := by decide +kernel
theorem dX3_init_81 : decode cX3_init 81 = .ok (.getfield 9, 3) := by decide +kernel
theorem dX3_init_84 : decode cX3_init 84 = .ok (.iconst 2, 1) := by decide +kernel
theorem dX3_init_85 : decode cX3_init 85 = .ok (.iconst 2, 1) := by decide +kernel
theorem dX3_init_86 : decode cX3_init 86 = .ok (.iastore, 1) := by decide +kernel
theorem dX3_init_87 : decode cX3_init 87 = .ok (.aload_n 0, 1) := by decide +kernel
theorem dX3_init_88 : decode cX3_init 88 = .ok (.getfield 9, 3) := by decide +kernel
theorem dX3_init_91 : decode cX3_init 91 = .ok (.iconst 3, 1) := by decide +kernel
theorem dX3_init_92 : decode cX3_init 92 = .ok (.iconst 1, 1) := by decide +kernel
theorem dX3_init_93 : decode cX3_init 93 = .ok (.iastore, 1) := by decide +kernel
theorem dX3_init_94 : decode cX3_init 94 = .ok (.return_, 1) := by decide +kernel
set_option maxRecDepth 20000 in
theorem ggX3_copyFrom_X2_copyFrom : GoodIn wsX3_copyFrom wsX2_copyFrom := goodIn_r _ [15, 16, 17, 3, 4, 5, 18, 19, 20, 44, 45, 46, 47] (by decide +kernel) (by decide +kernel)
set_option maxRecDepth 20000 in
theorem gX3_copyFrom_X2_copyFrom : GoodIn wsX3_copyFrom (wsV RX3 50 RX2 yX2_copyFrom wsX2_copyFrom) := goodIn_app (goodIn_of _ (by decide +kernel)) ggX3_copyFrom_X2_copyFrom
set_option maxRecDepth 20000 in
theorem ggX3_copyFrom_X1_copyFrom : GoodIn wsX3_copyFrom wsX1_copyFrom := goodIn_r _ [25, 26, 27, 3, 4, 5, 28, 48, 49] (by decide +kernel) (by decide +kernel)
set_option maxRecDepth 20000 in
theorem gX3_copyFrom_X1_copyFrom : GoodIn wsX3_copyFrom (wsV RX3 54 RX1 yX1_copyFrom wsX1_copyFrom) := goodIn_app (goodIn_of _ (by decide +kernel)) ggX3_copyFrom_X1_copyFrom
set_option maxRecDepth 20000 in
theorem ggX3_copyFrom_X0_copyFrom : GoodIn wsX3_copyFrom wsX0_copyFrom := goodIn_r _ [33, 34, 35, 3, 4, 5, 36, 37, 50, 51, 52] (by decide +kernel) (by decide +kernel)
set_option maxRecDepth 20000 in
theorem gX3_copyFrom_X0_copyFrom : GoodIn wsX3_copyFrom (wsV RX3 57 RX0 yX0_copyFrom wsX0_copyFrom) := goodIn_app (goodIn_of _ (by decide +kernel)) ggX3_copyFrom_X0_copyFrom
theorem dX3_copyFrom_0 : decode cX3_copyFrom 0 = .ok (.aload_n 1, 1) := by decide +kernel
theorem dX3_copyFrom_1 : decode cX3_copyFrom 1 = .ok (.getfield 9, 3) := by decide +kernel
theorem dX3_copyFrom_4 : decode cX3_copyFrom 4 = .ok (.iconst 0, 1) := by decide +kernel
theorem dX3_copyFrom_5 : decode cX3_copyFrom 5 = .ok (.aload_n 0, 1) := by decide +kernel
theorem dX3_copyFrom_6 : decode cX3_copyFrom 6 = .ok (.getfield 9, 3) := by decide +kernel
theorem dX3_copyFrom_9 : decode cX3_copyFrom 9 = .ok (.iconst 0, 1) := by decide +kernel
theorem dX3_copyFrom_10 : decode cX3_copyFrom 10 = .ok (.iconst 4, 1) := by decide +kernel
theorem dX3_copyFrom_11 : decode cX3_copyFrom 11 = .ok (.invokestatic 44, 3) := by decide +kernel
theorem dX3_copyFrom_14 : decode cX3_copyFrom 14 = .ok (.aload_n 1, 1) := by decide +kernel
theorem dX3_copyFrom_15 : decode cX3_copyFrom 15 = .ok (.getfield 15, 3) := by decide +kernel
theorem dX3_copyFrom_18 : decode cX3_copyFrom 18 = .ok (.iconst 0, 1) := by decide +kernel
theorem dX3_copyFrom_19 : decode cX3_copyFrom 19 = .ok (.aload_n 0, 1) := by decide +kernel
theorem dX3_copyFrom_20 : decode cX3_copyFrom 20 = .ok (.getfield 15, 3) := by decide +kernel
theorem dX3_copyFrom_23 : decode cX3_copyFrom 23 = .ok (.iconst 0, 1) := by decide +kernel
theorem dX3_copyFrom_24 : decode cX3_copyFrom 24 = .ok (.iconst 5, 1) := by decide +kernel
theorem dX3_copyFrom_25 : decode cX3_copyFrom 25 = .ok (.invokestatic 44, 3) := by decide +kernel
theorem dX3_copyFrom_28 : decode cX3_copyFrom 28 = .ok (.aload_n 0, 1) := by decide +kernel
theorem dX3_copyFrom_29 : decode cX3_copyFrom 29 = .ok (.getfield 21, 3) := by decide +kernel
theorem dX3_copyFrom_32 : decode cX3_copyFrom 32 = .ok (.aload_n 1, 1) := by decide +kernel
theorem dX3_copyFrom_33 : decode cX3_copyFrom 33 = .ok (.getfield 21, 3) := by decide +kernel
theorem dX3_copyFrom_36 : decode cX3_copyFrom 36 = .ok (.invokevirtual 50, 3) := by decide +kernel
theorem dX3_copyFrom_39 : decode cX3_copyFrom 39 = .ok (.iconst 0, 1) := by decide +kernel
theorem dX3_copyFrom_40 : decode cX3_copyFrom 40 = .ok (.istore_n 2, 1) := by decide +kernel
theorem dX3_copyFrom_41 : decode cX3_copyFrom 41 = .ok (.iload_n 2, 1) := by decide +kernel
theorem dX3_copyFrom_42 : decode cX3_copyFrom 42 = .ok (.bipush 7, 2) := by decide +kernel
theorem dX3_copyFrom_44 : decode cX3_copyFrom 44 = .ok (.if_icmp .ge 29, 3) := by decide +kernel
theorem dX3_copyFrom_47 : decode cX3_copyFrom 47 = .ok (.aload_n 1, 1) := by decide +kernel
theorem dX3_copyFrom_48 : decode cX3_copyFrom 48 = .ok (.getfield 27, 3) := by decide +kernel
theorem dX3_copyFrom_51 : decode cX3_copyFrom 51 = .ok (.iload_n 2, 1) := by decide +kernel
theorem dX3_copyFrom_52 : decode cX3_copyFrom 52 = .ok (.aaload, 1) := by decide +kernel
theorem dX3_copyFrom_53 : decode cX3_copyFrom 53 = .ok (.iconst 0, 1) := by decide +kernel
theorem dX3_copyFrom_54 : decode cX3_copyFrom 54 = .ok (.aload_n 0, 1) := by decide +kernel
theorem dX3_copyFrom_55 : decode cX3_copyFrom 55 = .ok (.getfield 27, 3) := by decide +kernel
theorem dX3_copyFrom_58 : decode cX3_copyFrom 58 = .ok (.iload_n 2, 1) := by decide +kernel
theorem dX3_copyFrom_59 : decode cX3_copyFrom 59 = .ok (.aaload, 1) := by decide +kernel
theorem dX3_copyFrom_60 : decode cX3_copyFrom 60 = .ok (.iconst 0, 1) := by decide +kernel
theorem dX3_copyFrom_61 : decode cX3_copyFrom 61 = .ok (.sipush 400, 3) := by decide +kernel
theorem dX3_copyFrom_64 : decode cX3_copyFrom 64 = .ok (.invokestatic 44, 3) := by decide +kernel
theorem dX3_copyFrom_67 : decode cX3_copyFrom 67 = .ok (.iinc 2 1, 3) := by decide +kernel
theorem dX3_copyFrom_70 : decode cX3_copyFrom 70 = .ok (.goto (-29), 3) := by decide +kernel
theorem dX3_copyFrom_73 : decode cX3_copyFrom 73 = .ok (.aload_n 0, 1) := by decide +kernel
theorem dX3_copyFrom_74 : decode cX3_copyFrom 74 = .ok (.getfield 33, 3) := by decide +kernel
theorem dX3_copyFrom_77 : decode cX3_copyFrom 77 = .ok (.aload_n 1, 1) := by decide +kernel
theorem dX3_copyFrom_78 : decode cX3_copyFrom 78 = .ok (.getfield 33, 3) := by decide +kernel
theorem dX3_copyFrom_81 : decode cX3_copyFrom 81 = .ok (.invokevirtual 54, 3) := by decide +kernel
theorem dX3_copyFrom_84 : decode cX3_copyFrom 84 = .ok (.aload_n 0, 1) := by decide +kernel
theorem dX3_copyFrom_85 : decode cX3_copyFrom 85 = .ok (.getfield 40, 3) := by decide +kernel
theorem dX3_copyFrom_88 : decode cX3_copyFrom 88 = .ok (.aload_n 1, 1) := by decide +kernel
theorem dX3_copyFrom_89 : decode cX3_copyFrom 89 = .ok (.getfield 40, 3) := by decide +kernel
theorem dX3_copyFrom_92 : decode cX3_copyFrom 92 = .ok (.invokevirtual 57, 3) := by decide +kernel
theorem dX3_copyFrom_95 : decode cX3_copyFrom 95 = .ok (.return_, 1) := by decide +kernel
theorem dX3_isThing_0 : decode cX3_isThing 0 = .ok (.aload_n 0, 1) := by decide +kernel
theorem dX3_isThing_1 : decode cX3_isThing 1 = .ok (.getfield 27, 3) := by decide +kernel
theorem dX3_isThing_4 : decode cX3_isThing 4 = .ok (.iconst 0, 1) := by decide +kernel
theorem dX3_isThing_5 : decode cX3_isThing 5 = .ok (.aaload, 1) := by decide +kernel
theorem dX3_isThing_6 : decode cX3_isThing 6 = .ok (.iload_n 1, 1) := by decide +kernel
theorem dX3_isThing_7 : decode cX3_isThing 7 = .ok (.iaload, 1) := by decide +kernel
theorem dX3_isThing_8 : decode cX3_isThing 8 = .ok (.istore_n 2, 1) := by decide +kernel
theorem dX3_isThing_9 : decode cX3_isThing 9 = .ok (.iload_n 2, 1) := by decide +kernel
theorem dX3_isThing_10 : decode cX3_isThing 10 = .ok (.iconst 1, 1) := by decide +kernel
theorem dX3_isThing_11 : decode cX3_isThing 11 = .ok (.if_icmp .eq 8, 3) := by decide +kernel
theorem dX3_isThing_14 : decode cX3_isThing 14 = .ok (.iload_n 2, 1) := by decide +kernel
theorem dX3_isThing_15 : decode cX3_isThing 15 = .ok (.iconst 2, 1) := by decide +kernel
theorem dX3_isThing_16 : decode cX3_isThing 16 = .ok (.if_icmp .ne 7, 3) := by decide +kernel
theorem dX3_isThing_19 : decode cX3_isThing 19 = .ok (.iconst 1, 1) := by decide +kernel
theorem dX3_isThing_20 : decode cX3_isThing 20 = .ok (.goto 4, 3) := by decide +kernel
theorem dX3_isThing_23 : decode cX3_isThing 23 = .ok (.iconst 0, 1) := by decide +kernel
theorem dX3_isThing_24 : decode cX3_isThing 24 = .ok (.ireturn, 1) := by decide +kernel
theorem dX3_thingCount_0 : decode cX3_thingCount 0 = .ok (.aload_n 0, 1) := by decide +kernel
theorem dX3_thingCount_1 : decode cX3_thingCount 1 = .ok (.getfield 21, 3) := by decide +kernel
theorem dX3_thingCount_4 : decode cX3_thingCount 4 = .ok (.getfield 60, 3) := by decide +kernel
theorem dX3_thingCount_7 : decode cX3_thingCount 7 = .ok (.iconst 1, 1) := by decide +kernel
theorem dX3_thingCount_8 : decode cX3_thingCount 8 = .ok (.iaload, 1) := by decide +kernel
theorem dX3_thingCount_9 : decode cX3_thingCount 9 = .ok (.aload_n 0, 1) := by decide +kernel
theorem dX3_thingCount_10 : decode cX3_thingCount 10 = .ok (.getfield 21, 3) := by decide +kernel
theorem dX3_thingCount_13 : decode cX3_thingCount 13 = .ok (.getfield 60, 3) := by decide +kernel
theorem dX3_thingCount_16 : decode cX3_thingCount 16 = .ok (.iconst 2, 1) := by decide +kernel
theorem dX3_thingCount_17 : decode cX3_thingCount 17 = .ok (.iaload, 1) := by decide +kernel
theorem dX3_thingCount_18 : decode cX3_thingCount 18 = .ok (.iadd, 1) := by decide +kernel
theorem dX3_thingCount_19 : decode cX3_thingCount 19 = .ok (.ireturn, 1) := by decide +kernel
theorem dX3_weightOfThings_0 : decode cX3_weightOfThings 0 = .ok (.aload_n 0, 1) := by decide +kernel
theorem dX3_weightOfThings_1 : decode cX3_weightOfThings 1 = .ok (.getfield 21, 3) := by decide +kernel
theorem dX3_weightOfThings_4 : decode cX3_weightOfThings 4 = .ok (.getfield 63, 3) := by decide +kernel
theorem dX3_weightOfThings_7 : decode cX3_weightOfThings 7 = .ok (.iconst 1, 1) := by decide +kernel
theorem dX3_weightOfThings_8 : decode cX3_weightOfThings 8 = .ok (.iaload, 1) := by decide +kernel
theorem dX3_weightOfThings_9 : decode cX3_weightOfThings 9 = .ok (.aload_n 0, 1) := by decide +kernel
theorem dX3_weightOfThings_10 : decode cX3_weightOfThings 10 = .ok (.getfield 21, 3) := by decide +kernel
theorem dX3_weightOfThings_13 : decode cX3_weightOfThings 13 = .ok (.getfield 63, 3) := by decide +kernel
theorem dX3_weightOfThings_16 : decode cX3_weightOfThings 16 = .ok (.iconst 2, 1) := by decide +kernel
theorem dX3_weightOfThings_17 : decode cX3_weightOfThings 17 = .ok (.iaload, 1) := by decide +kernel
theorem dX3_weightOfThings_18 : decode cX3_weightOfThings 18 = .ok (.iadd, 1) := by decide +kernel
theorem dX3_weightOfThings_19 : decode cX3_weightOfThings 19 = .ok (.ireturn, 1) := by decide +kernel
set_option maxRecDepth 20000 in
theorem ggX3_placeOf_X2_placeOf : GoodIn wsX3_placeOf wsX2_placeOf := goodIn_r _ [7, 8, 9, 10, 11, 12, 6, 13, 20, 21, 22, 23] (by decide +kernel) (by decide +kernel)
set_option maxRecDepth 20000 in
theorem gX3_placeOf_X2_placeOf : GoodIn wsX3_placeOf (wsV RX3 66 RX2 yX2_placeOf wsX2_placeOf) := goodIn_app (goodIn_of _ (by decide +kernel)) ggX3_placeOf_X2_placeOf
theorem dX3_placeOf_0 : decode cX3_placeOf 0 = .ok (.aload_n 0, 1) := by decide +kernel
theorem dX3_placeOf_1 : decode cX3_placeOf 1 = .ok (.getfield 27, 3) := by decide +kernel
theorem dX3_placeOf_4 : decode cX3_placeOf 4 = .ok (.iconst 0, 1) := by decide +kernel
theorem dX3_placeOf_5 : decode cX3_placeOf 5 = .ok (.aaload, 1) := by decide +kernel
theorem dX3_placeOf_6 : decode cX3_placeOf 6 = .ok (.iload_n 1, 1) := by decide +kernel
theorem dX3_placeOf_7 : decode cX3_placeOf 7 = .ok (.iaload, 1) := by decide +kernel
theorem dX3_placeOf_8 : decode cX3_placeOf 8 = .ok (.istore_n 2, 1) := by decide +kernel
theorem dX3_placeOf_9 : decode cX3_placeOf 9 = .ok (.iload_n 2, 1) := by decide +kernel
theorem dX3_placeOf_10 : decode cX3_placeOf 10 = .ok (.ifCond .ne 8, 3) := by decide +kernel
theorem dX3_placeOf_13 : decode cX3_placeOf 13 = .ok (.bipush (-5), 2) := by decide +kernel
theorem dX3_placeOf_15 : decode cX3_placeOf 15 = .ok (.goto 12, 3) := by decide +kernel
theorem dX3_placeOf_18 : decode cX3_placeOf 18 = .ok (.aload_n 0, 1) := by decide +kernel
theorem dX3_placeOf_19 : decode cX3_placeOf 19 = .ok (.getfield 21, 3) := by decide +kernel
theorem dX3_placeOf_22 : decode cX3_placeOf 22 = .ok (.iload_n 2, 1) := by decide +kernel
theorem dX3_placeOf_23 : decode cX3_placeOf 23 = .ok (.iload_n 1, 1) := by decide +kernel
theorem dX3_placeOf_24 : decode cX3_placeOf 24 = .ok (.invokevirtual 66, 3) := by decide +kernel
theorem dX3_placeOf_27 : decode cX3_placeOf 27 = .ok (.ireturn, 1) := by decide +kernel
set_option maxRecDepth 20000 in
theorem ggX3_move_X2_remove : GoodIn wsX3_move wsX2_remove := goodIn_r _ [7, 8, 9, 10, 11, 22, 23, 24, 25] (by decide +kernel) (by decide +kernel)
set_option maxRecDepth 20000 in
theorem gX3_move_X2_remove : GoodIn wsX3_move (wsV RX3 70 RX2 yX2_remove wsX2_remove) := goodIn_app (goodIn_of _ (by decide +kernel)) ggX3_move_X2_remove
set_option maxRecDepth 20000 in
theorem ggX3_move_X2_add : GoodIn wsX3_move wsX2_add := goodIn_r _ [15, 9, 8, 10, 11, 22, 23, 24, 25] (by decide +kernel) (by decide +kernel)
set_option maxRecDepth 20000 in
theorem gX3_move_X2_add : GoodIn wsX3_move (wsV RX3 74 RX2 yX2_add wsX2_add) := goodIn_app (goodIn_of _ (by decide +kernel)) ggX3_move_X2_add
theorem dX3_move_0 : decode cX3_move 0 = .ok (.aload_n 0, 1) := by decide +kernel
theorem dX3_move_1 : decode cX3_move 1 = .ok (.getfield 27, 3) := by decide +kernel
theorem dX3_move_4 : decode cX3_move 4 = .ok (.iconst 0, 1) := by decide +kernel
theorem dX3_move_5 : decode cX3_move 5 = .ok (.aaload, 1) := by decide +kernel
theorem dX3_move_6 : decode cX3_move 6 = .ok (.iload_n 1, 1) := by decide +kernel
theorem dX3_move_7 : decode cX3_move 7 = .ok (.iaload, 1) := by decide +kernel
theorem dX3_move_8 : decode cX3_move 8 = .ok (.istore_n 3, 1) := by decide +kernel
theorem dX3_move_9 : decode cX3_move 9 = .ok (.iload_n 3, 1) := by decide +kernel
theorem dX3_move_10 : decode cX3_move 10 = .ok (.ifCond .eq 20, 3) := by decide +kernel
theorem dX3_move_13 : decode cX3_move 13 = .ok (.aload_n 0, 1) := by decide +kernel
theorem dX3_move_14 : decode cX3_move 14 = .ok (.getfield 21, 3) := by decide +kernel
theorem dX3_move_17 : decode cX3_move 17 = .ok (.iload_n 3, 1) := by decide +kernel
theorem dX3_move_18 : decode cX3_move 18 = .ok (.iload_n 1, 1) := by decide +kernel
theorem dX3_move_19 : decode cX3_move 19 = .ok (.aload_n 0, 1) := by decide +kernel
theorem dX3_move_20 : decode cX3_move 20 = .ok (.getfield 27, 3) := by decide +kernel
theorem dX3_move_23 : decode cX3_move 23 = .ok (.iconst 1, 1) := by decide +kernel
theorem dX3_move_24 : decode cX3_move 24 = .ok (.aaload, 1) := by decide +kernel
theorem dX3_move_25 : decode cX3_move 25 = .ok (.iload_n 1, 1) := by decide +kernel
theorem dX3_move_26 : decode cX3_move 26 = .ok (.iaload, 1) := by decide +kernel
theorem dX3_move_27 : decode cX3_move 27 = .ok (.invokevirtual 70, 3) := by decide +kernel
theorem dX3_move_30 : decode cX3_move 30 = .ok (.aload_n 0, 1) := by decide +kernel
theorem dX3_move_31 : decode cX3_move 31 = .ok (.getfield 27, 3) := by decide +kernel
theorem dX3_move_34 : decode cX3_move 34 = .ok (.iconst 0, 1) := by decide +kernel
theorem dX3_move_35 : decode cX3_move 35 = .ok (.aaload, 1) := by decide +kernel
theorem dX3_move_36 : decode cX3_move 36 = .ok (.iload_n 1, 1) := by decide +kernel
theorem dX3_move_37 : decode cX3_move 37 = .ok (.iload_n 2, 1) := by decide +kernel
theorem dX3_move_38 : decode cX3_move 38 = .ok (.iastore, 1) := by decide +kernel
theorem dX3_move_39 : decode cX3_move 39 = .ok (.iload_n 2, 1) := by decide +kernel
theorem dX3_move_40 : decode cX3_move 40 = .ok (.ifCond .eq 20, 3) := by decide +kernel
theorem dX3_move_43 : decode cX3_move 43 = .ok (.aload_n 0, 1) := by decide +kernel
theorem dX3_move_44 : decode cX3_move 44 = .ok (.getfield 21, 3) := by decide +kernel
theorem dX3_move_47 : decode cX3_move 47 = .ok (.iload_n 2, 1) := by decide +kernel
theorem dX3_move_48 : decode cX3_move 48 = .ok (.iload_n 1, 1) := by decide +kernel
theorem dX3_move_49 : decode cX3_move 49 = .ok (.aload_n 0, 1) := by decide +kernel
theorem dX3_move_50 : decode cX3_move 50 = .ok (.getfield 27, 3) := by decide +kernel
theorem dX3_move_53 : decode cX3_move 53 = .ok (.iconst 1, 1) := by decide +kernel
theorem dX3_move_54 : decode cX3_move 54 = .ok (.aaload, 1) := by decide +kernel
theorem dX3_move_55 : decode cX3_move 55 = .ok (.iload_n 1, 1) := by decide +kernel
theorem dX3_move_56 : decode cX3_move 56 = .ok (.iaload, 1) := by decide +kernel
theorem dX3_move_57 : decode cX3_move 57 = .ok (.invokevirtual 74, 3) := by decide +kernel
theorem dX3_move_60 : decode cX3_move 60 = .ok (.return_, 1) := by decide +kernel
set_option maxRecDepth 20000 in
theorem ggX3_store_X3_isThing : GoodIn wsX3_store wsX3_isThing := goodIn_r _ [6, 1, 90, 91, 92, 93, 94, 95] (by decide +kernel) (by decide +kernel)
set_option maxRecDepth 20000 in
theorem gX3_store_X3_isThing : GoodIn wsX3_store (wsV RX3 77 RX3 yX3_isThing wsX3_isThing) := goodIn_app (goodIn_of _ (by decide +kernel)) ggX3_store_X3_isThing
set_option maxRecDepth 20000 in
theorem ggX3_store_X3_replace : GoodIn wsX3_store wsX3_replace := goodIn_r _ [10, 11, 12, 1, 13, 14, 15, 5, 16, 17, 18, 19, 20, 21, 22, 23, 24, 25, 26, 27, 28, 29, 30, 31, 32, 33, 34, 35, 36, 37, 38, 90, 91, 92, 93, 94, 95, 96, 97, 98, 99] (by decide +kernel) (by decide +kernel)
set_option maxRecDepth 20000 in
theorem gX3_store_X3_replace : GoodIn wsX3_store (wsV RX3 81 RX3 yX3_replace wsX3_replace) := goodIn_app (goodIn_of _ (by decide +kernel)) ggX3_store_X3_replace
set_option maxRecDepth 20000 in
theorem ggX3_store_X3_admit : GoodIn wsX3_store wsX3_admit := goodIn_r _ [42, 1, 21, 43, 44, 19, 45, 17, 18, 20, 46, 22, 23, 24, 5, 25, 11, 26, 27, 28, 29, 30, 31, 32, 33, 34, 35, 36, 37, 38, 90, 91, 92, 93, 94, 95, 96, 97, 98, 99] (by decide +kernel) (by decide +kernel)
set_option maxRecDepth 20000 in
theorem gX3_store_X3_admit : GoodIn wsX3_store (wsV RX3 85 RX3 yX3_admit wsX3_admit) := goodIn_app (goodIn_of _ (by decide +kernel)) ggX3_store_X3_admit
set_option maxRecDepth 20000 in
theorem ggX3_store_X3_trim : GoodIn wsX3_store wsX3_trim := goodIn_r _ [50, 51, 52, 53, 5, 54, 55, 11, 12, 21, 1, 56, 57, 58, 29, 59, 33, 31, 60, 61, 62, 63, 22, 23, 24, 25, 26, 27, 28, 30, 32, 34, 35, 36, 37, 38, 64, 65, 66, 67, 68, 69, 70, 71, 72, 73, 74, 75, 76, 77, 78, 79, 80, 81, 82, 83, 84, 85, 86, 87, 88, 89, 90, 91, 92, 93, 94, 95, 96, 97, 98, 99, 100, 101] (by decide +kernel) (by decide +kernel)
set_option maxRecDepth 20000 in
theorem gX3_store_X3_trim : GoodIn wsX3_store (wsV RX3 88 RX3 yX3_trim wsX3_trim) := goodIn_app (goodIn_of _ (by decide +kernel)) ggX3_store_X3_trim
theorem dX3_store_0 : decode cX3_store 0 = .ok (.aload_n 0, 1) := by decide +kernel
theorem dX3_store_1 : decode cX3_store 1 = .ok (.getfield 27, 3) := by decide +kernel
theorem dX3_store_4 : decode cX3_store 4 = .ok (.iconst 0, 1) := by decide +kernel
theorem dX3_store_5 : decode cX3_store 5 = .ok (.aaload, 1) := by decide +kernel
theorem dX3_store_6 : decode cX3_store 6 = .ok (.iload_n 1, 1) := by decide +kernel
theorem dX3_store_7 : decode cX3_store 7 = .ok (.iaload, 1) := by decide +kernel
theorem dX3_store_8 : decode cX3_store 8 = .ok (.istore 5, 2) := by decide +kernel
theorem dX3_store_10 : decode cX3_store 10 = .ok (.aload_n 0, 1) := by decide +kernel
theorem dX3_store_11 : decode cX3_store 11 = .ok (.iload_n 1, 1) := by decide +kernel
theorem dX3_store_12 : decode cX3_store 12 = .ok (.invokevirtual 77, 3) := by decide +kernel
theorem dX3_store_15 : decode cX3_store 15 = .ok (.ifCond .eq 15, 3) := by decide +kernel
theorem dX3_store_18 : decode cX3_store 18 = .ok (.aload_n 0, 1) := by decide +kernel
theorem dX3_store_19 : decode cX3_store 19 = .ok (.iload_n 1, 1) := by decide +kernel
theorem dX3_store_20 : decode cX3_store 20 = .ok (.iload_n 2, 1) := by decide +kernel
theorem dX3_store_21 : decode cX3_store 21 = .ok (.iload_n 3, 1) := by decide +kernel
theorem dX3_store_22 : decode cX3_store 22 = .ok (.iload 4, 2) := by decide +kernel
theorem dX3_store_24 : decode cX3_store 24 = .ok (.invokevirtual 81, 3) := by decide +kernel
theorem dX3_store_27 : decode cX3_store 27 = .ok (.goto 12, 3) := by decide +kernel
theorem dX3_store_30 : decode cX3_store 30 = .ok (.aload_n 0, 1) := by decide +kernel
theorem dX3_store_31 : decode cX3_store 31 = .ok (.iload_n 1, 1) := by decide +kernel
theorem dX3_store_32 : decode cX3_store 32 = .ok (.iload_n 2, 1) := by decide +kernel
theorem dX3_store_33 : decode cX3_store 33 = .ok (.iload_n 3, 1) := by decide +kernel
theorem dX3_store_34 : decode cX3_store 34 = .ok (.iload 4, 2) := by decide +kernel
theorem dX3_store_36 : decode cX3_store 36 = .ok (.invokevirtual 85, 3) := by decide +kernel
theorem dX3_store_39 : decode cX3_store 39 = .ok (.aload_n 0, 1) := by decide +kernel
theorem dX3_store_40 : decode cX3_store 40 = .ok (.invokevirtual 88, 3) := by decide +kernel
theorem dX3_store_43 : decode cX3_store 43 = .ok (.iload 5, 2) := by decide +kernel
theorem dX3_store_45 : decode cX3_store 45 = .ok (.ifCond .ne 5, 3) := by decide +kernel
theorem dX3_store_48 : decode cX3_store 48 = .ok (.iconst 0, 1) := by decide +kernel
theorem dX3_store_49 : decode cX3_store 49 = .ok (.ireturn, 1) := by decide +kernel
theorem dX3_store_50 : decode cX3_store 50 = .ok (.iload 5, 2) := by decide +kernel
theorem dX3_store_52 : decode cX3_store 52 = .ok (.iconst 1, 1) := by decide +kernel
theorem dX3_store_53 : decode cX3_store 53 = .ok (.if_icmp .eq 9, 3) := by decide +kernel
theorem dX3_store_56 : decode cX3_store 56 = .ok (.iload 5, 2) := by decide +kernel
theorem dX3_store_58 : decode cX3_store 58 = .ok (.iconst 2, 1) := by decide +kernel
theorem dX3_store_59 : decode cX3_store 59 = .ok (.if_icmp .ne 7, 3) := by decide +kernel
theorem dX3_store_62 : decode cX3_store 62 = .ok (.iconst 2, 1) := by decide +kernel
theorem dX3_store_63 : decode cX3_store 63 = .ok (.goto 4, 3) := by decide +kernel
theorem dX3_store_66 : decode cX3_store 66 = .ok (.iconst 1, 1) := by decide +kernel
theorem dX3_store_67 : decode cX3_store 67 = .ok (.ireturn, 1) := by decide +kernel
set_option maxRecDepth 20000 in
theorem ggX3_replace_X3_hit : GoodIn wsX3_replace wsX3_hit := goodIn_r _ [8, 3, 9, 10, 11, 12, 13, 14, 15, 16, 7, 17, 1, 18, 19, 20, 21, 22, 23, 24, 25, 26, 27, 28, 29, 30, 31, 32, 33, 34, 35, 36, 37, 38, 39, 40] (by decide +kernel) (by decide +kernel)
set_option maxRecDepth 20000 in
theorem gX3_replace_X3_hit : GoodIn wsX3_replace (wsV RX3 91 RX3 yX3_hit wsX3_hit) := goodIn_app (goodIn_of _ (by decide +kernel)) ggX3_replace_X3_hit
theorem dX3_replace_0 : decode cX3_replace 0 = .ok (.aload_n 0, 1) := by decide +kernel
theorem dX3_replace_1 : decode cX3_replace 1 = .ok (.getfield 21, 3) := by decide +kernel
theorem dX3_replace_4 : decode cX3_replace 4 = .ok (.getfield 63, 3) := by decide +kernel
theorem dX3_replace_7 : decode cX3_replace 7 = .ok (.aload_n 0, 1) := by decide +kernel
theorem dX3_replace_8 : decode cX3_replace 8 = .ok (.getfield 27, 3) := by decide +kernel
theorem dX3_replace_11 : decode cX3_replace 11 = .ok (.iconst 0, 1) := by decide +kernel
theorem dX3_replace_12 : decode cX3_replace 12 = .ok (.aaload, 1) := by decide +kernel
theorem dX3_replace_13 : decode cX3_replace 13 = .ok (.iload_n 1, 1) := by decide +kernel
theorem dX3_replace_14 : decode cX3_replace 14 = .ok (.iaload, 1) := by decide +kernel
theorem dX3_replace_15 : decode cX3_replace 15 = .ok (.dup2, 1) := by decide +kernel
theorem dX3_replace_16 : decode cX3_replace 16 = .ok (.iaload, 1) := by decide +kernel
theorem dX3_replace_17 : decode cX3_replace 17 = .ok (.iload_n 3, 1) := by decide +kernel
theorem dX3_replace_18 : decode cX3_replace 18 = .ok (.aload_n 0, 1) := by decide +kernel
theorem dX3_replace_19 : decode cX3_replace 19 = .ok (.getfield 27, 3) := by decide +kernel
theorem dX3_replace_22 : decode cX3_replace 22 = .ok (.iconst 1, 1) := by decide +kernel
theorem dX3_replace_23 : decode cX3_replace 23 = .ok (.aaload, 1) := by decide +kernel
theorem dX3_replace_24 : decode cX3_replace 24 = .ok (.iload_n 1, 1) := by decide +kernel
theorem dX3_replace_25 : decode cX3_replace 25 = .ok (.iaload, 1) := by decide +kernel
theorem dX3_replace_26 : decode cX3_replace 26 = .ok (.isub, 1) := by decide +kernel
theorem dX3_replace_27 : decode cX3_replace 27 = .ok (.iadd, 1) := by decide +kernel
theorem dX3_replace_28 : decode cX3_replace 28 = .ok (.iastore, 1) := by decide +kernel
theorem dX3_replace_29 : decode cX3_replace 29 = .ok (.aload_n 0, 1) := by decide +kernel
theorem dX3_replace_30 : decode cX3_replace 30 = .ok (.getfield 27, 3) := by decide +kernel
theorem dX3_replace_33 : decode cX3_replace 33 = .ok (.bipush 6, 2) := by decide +kernel
theorem dX3_replace_35 : decode cX3_replace 35 = .ok (.aaload, 1) := by decide +kernel
theorem dX3_replace_36 : decode cX3_replace 36 = .ok (.iload_n 1, 1) := by decide +kernel
theorem dX3_replace_37 : decode cX3_replace 37 = .ok (.iload_n 2, 1) := by decide +kernel
theorem dX3_replace_38 : decode cX3_replace 38 = .ok (.iastore, 1) := by decide +kernel
theorem dX3_replace_39 : decode cX3_replace 39 = .ok (.aload_n 0, 1) := by decide +kernel
theorem dX3_replace_40 : decode cX3_replace 40 = .ok (.getfield 27, 3) := by decide +kernel
theorem dX3_replace_43 : decode cX3_replace 43 = .ok (.iconst 1, 1) := by decide +kernel
theorem dX3_replace_44 : decode cX3_replace 44 = .ok (.aaload, 1) := by decide +kernel
theorem dX3_replace_45 : decode cX3_replace 45 = .ok (.iload_n 1, 1) := by decide +kernel
theorem dX3_replace_46 : decode cX3_replace 46 = .ok (.iload_n 3, 1) := by decide +kernel
theorem dX3_replace_47 : decode cX3_replace 47 = .ok (.iastore, 1) := by decide +kernel
theorem dX3_replace_48 : decode cX3_replace 48 = .ok (.aload_n 0, 1) := by decide +kernel
theorem dX3_replace_49 : decode cX3_replace 49 = .ok (.getfield 27, 3) := by decide +kernel
theorem dX3_replace_52 : decode cX3_replace 52 = .ok (.iconst 2, 1) := by decide +kernel
theorem dX3_replace_53 : decode cX3_replace 53 = .ok (.aaload, 1) := by decide +kernel
theorem dX3_replace_54 : decode cX3_replace 54 = .ok (.iload_n 1, 1) := by decide +kernel
theorem dX3_replace_55 : decode cX3_replace 55 = .ok (.iload 4, 2) := by decide +kernel
theorem dX3_replace_57 : decode cX3_replace 57 = .ok (.iastore, 1) := by decide +kernel
theorem dX3_replace_58 : decode cX3_replace 58 = .ok (.aload_n 0, 1) := by decide +kernel
theorem dX3_replace_59 : decode cX3_replace 59 = .ok (.iload_n 1, 1) := by decide +kernel
theorem dX3_replace_60 : decode cX3_replace 60 = .ok (.invokevirtual 91, 3) := by decide +kernel
theorem dX3_replace_63 : decode cX3_replace 63 = .ok (.return_, 1) := by decide +kernel
set_option maxRecDepth 20000 in
theorem ggX3_admit_X3_move : GoodIn wsX3_admit wsX3_move := goodIn_r _ [15, 1, 16, 17, 18, 19, 20, 21, 22, 23, 24, 25, 26, 27, 28, 29, 30, 31, 32, 33, 34, 35, 36, 37, 38, 39] (by decide +kernel) (by decide +kernel)
set_option maxRecDepth 20000 in
theorem gX3_admit_X3_move : GoodIn wsX3_admit (wsV RX3 95 RX3 yX3_move wsX3_move) := goodIn_app (goodIn_of _ (by decide +kernel)) ggX3_admit_X3_move
theorem dX3_admit_0 : decode cX3_admit 0 = .ok (.aload_n 0, 1) := by decide +kernel
theorem dX3_admit_1 : decode cX3_admit 1 = .ok (.getfield 27, 3) := by decide +kernel
theorem dX3_admit_4 : decode cX3_admit 4 = .ok (.iconst 0, 1) := by decide +kernel
theorem dX3_admit_5 : decode cX3_admit 5 = .ok (.aaload, 1) := by decide +kernel
theorem dX3_admit_6 : decode cX3_admit 6 = .ok (.iload_n 1, 1) := by decide +kernel
theorem dX3_admit_7 : decode cX3_admit 7 = .ok (.iaload, 1) := by decide +kernel
theorem dX3_admit_8 : decode cX3_admit 8 = .ok (.istore 5, 2) := by decide +kernel
theorem dX3_admit_10 : decode cX3_admit 10 = .ok (.aload_n 0, 1) := by decide +kernel
theorem dX3_admit_11 : decode cX3_admit 11 = .ok (.iload_n 1, 1) := by decide +kernel
theorem dX3_admit_12 : decode cX3_admit 12 = .ok (.iconst 0, 1) := by decide +kernel
theorem dX3_admit_13 : decode cX3_admit 13 = .ok (.invokevirtual 95, 3) := by decide +kernel
theorem dX3_admit_16 : decode cX3_admit 16 = .ok (.iload 5, 2) := by decide +kernel
theorem dX3_admit_18 : decode cX3_admit 18 = .ok (.iconst 3, 1) := by decide +kernel
theorem dX3_admit_19 : decode cX3_admit 19 = .ok (.if_icmp .ne 24, 3) := by decide +kernel
theorem dX3_admit_22 : decode cX3_admit 22 = .ok (.aload_n 0, 1) := by decide +kernel
theorem dX3_admit_23 : decode cX3_admit 23 = .ok (.getfield 9, 3) := by decide +kernel
theorem dX3_admit_26 : decode cX3_admit 26 = .ok (.iconst 1, 1) := by decide +kernel
theorem dX3_admit_27 : decode cX3_admit 27 = .ok (.aload_n 0, 1) := by decide +kernel
theorem dX3_admit_28 : decode cX3_admit 28 = .ok (.getfield 9, 3) := by decide +kernel
theorem dX3_admit_31 : decode cX3_admit 31 = .ok (.iconst 1, 1) := by decide +kernel
theorem dX3_admit_32 : decode cX3_admit 32 = .ok (.iaload, 1) := by decide +kernel
theorem dX3_admit_33 : decode cX3_admit 33 = .ok (.iload_n 3, 1) := by decide +kernel
theorem dX3_admit_34 : decode cX3_admit 34 = .ok (.isub, 1) := by decide +kernel
theorem dX3_admit_35 : decode cX3_admit 35 = .ok (.iconst 0, 1) := by decide +kernel
theorem dX3_admit_36 : decode cX3_admit 36 = .ok (.invokestatic 99, 3) := by decide +kernel
theorem dX3_admit_39 : decode cX3_admit 39 = .ok (.iastore, 1) := by decide +kernel
theorem dX3_admit_40 : decode cX3_admit 40 = .ok (.goto 32, 3) := by decide +kernel
theorem dX3_admit_43 : decode cX3_admit 43 = .ok (.iload 5, 2) := by decide +kernel
theorem dX3_admit_45 : decode cX3_admit 45 = .ok (.iconst 4, 1) := by decide +kernel
theorem dX3_admit_46 : decode cX3_admit 46 = .ok (.if_icmp .ne 26, 3) := by decide +kernel
theorem dX3_admit_49 : decode cX3_admit 49 = .ok (.aload_n 0, 1) := by decide +kernel
theorem dX3_admit_50 : decode cX3_admit 50 = .ok (.getfield 9, 3) := by decide +kernel
theorem dX3_admit_53 : decode cX3_admit 53 = .ok (.iconst 1, 1) := by decide +kernel
theorem dX3_admit_54 : decode cX3_admit 54 = .ok (.aload_n 0, 1) := by decide +kernel
theorem dX3_admit_55 : decode cX3_admit 55 = .ok (.getfield 9, 3) := by decide +kernel
theorem dX3_admit_58 : decode cX3_admit 58 = .ok (.iconst 1, 1) := by decide +kernel
theorem dX3_admit_59 : decode cX3_admit 59 = .ok (.iaload, 1) := by decide +kernel
theorem dX3_admit_60 : decode cX3_admit 60 = .ok (.iload_n 3, 1) := by decide +kernel
theorem dX3_admit_61 : decode cX3_admit 61 = .ok (.iadd, 1) := by decide +kernel
theorem dX3_admit_62 : decode cX3_admit 62 = .ok (.aload_n 0, 1) := by decide +kernel
theorem dX3_admit_63 : decode cX3_admit 63 = .ok (.getfield 9, 3) := by decide +kernel
theorem dX3_admit_66 : decode cX3_admit 66 = .ok (.iconst 0, 1) := by decide +kernel
theorem dX3_admit_67 : decode cX3_admit 67 = .ok (.iaload, 1) := by decide +kernel
theorem dX3_admit_68 : decode cX3_admit 68 = .ok (.invokestatic 104, 3) := by decide +kernel
theorem dX3_admit_71 : decode cX3_admit 71 = .ok (.iastore, 1) := by decide +kernel
theorem dX3_admit_72 : decode cX3_admit 72 = .ok (.aload_n 0, 1) := by decide +kernel
theorem dX3_admit_73 : decode cX3_admit 73 = .ok (.getfield 15, 3) := by decide +kernel
theorem dX3_admit_76 : decode cX3_admit 76 = .ok (.iconst 4, 1) := by decide +kernel
theorem dX3_admit_77 : decode cX3_admit 77 = .ok (.dup2, 1) := by decide +kernel
theorem dX3_admit_78 : decode cX3_admit 78 = .ok (.iaload, 1) := by decide +kernel
theorem dX3_admit_79 : decode cX3_admit 79 = .ok (.iload 4, 2) := by decide +kernel
theorem dX3_admit_81 : decode cX3_admit 81 = .ok (.iadd, 1) := by decide +kernel
theorem dX3_admit_82 : decode cX3_admit 82 = .ok (.iastore, 1) := by decide +kernel
theorem dX3_admit_83 : decode cX3_admit 83 = .ok (.aload_n 0, 1) := by decide +kernel
theorem dX3_admit_84 : decode cX3_admit 84 = .ok (.getfield 27, 3) := by decide +kernel
theorem dX3_admit_87 : decode cX3_admit 87 = .ok (.bipush 6, 2) := by decide +kernel
theorem dX3_admit_89 : decode cX3_admit 89 = .ok (.aaload, 1) := by decide +kernel
theorem dX3_admit_90 : decode cX3_admit 90 = .ok (.iload_n 1, 1) := by decide +kernel
theorem dX3_admit_91 : decode cX3_admit 91 = .ok (.iload_n 2, 1) := by decide +kernel
theorem dX3_admit_92 : decode cX3_admit 92 = .ok (.iastore, 1) := by decide +kernel
theorem dX3_admit_93 : decode cX3_admit 93 = .ok (.aload_n 0, 1) := by decide +kernel
theorem dX3_admit_94 : decode cX3_admit 94 = .ok (.getfield 27, 3) := by decide +kernel
theorem dX3_admit_97 : decode cX3_admit 97 = .ok (.iconst 1, 1) := by decide +kernel
theorem dX3_admit_98 : decode cX3_admit 98 = .ok (.aaload, 1) := by decide +kernel
theorem dX3_admit_99 : decode cX3_admit 99 = .ok (.iload_n 1, 1) := by decide +kernel
theorem dX3_admit_100 : decode cX3_admit 100 = .ok (.iload_n 3, 1) := by decide +kernel
theorem dX3_admit_101 : decode cX3_admit 101 = .ok (.iastore, 1) := by decide +kernel
theorem dX3_admit_102 : decode cX3_admit 102 = .ok (.aload_n 0, 1) := by decide +kernel
theorem dX3_admit_103 : decode cX3_admit 103 = .ok (.getfield 27, 3) := by decide +kernel
theorem dX3_admit_106 : decode cX3_admit 106 = .ok (.iconst 2, 1) := by decide +kernel
theorem dX3_admit_107 : decode cX3_admit 107 = .ok (.aaload, 1) := by decide +kernel
theorem dX3_admit_108 : decode cX3_admit 108 = .ok (.iload_n 1, 1) := by decide +kernel
theorem dX3_admit_109 : decode cX3_admit 109 = .ok (.iload 4, 2) := by decide +kernel
theorem dX3_admit_111 : decode cX3_admit 111 = .ok (.iastore, 1) := by decide +kernel
theorem dX3_admit_112 : decode cX3_admit 112 = .ok (.aload_n 0, 1) := by decide +kernel
theorem dX3_admit_113 : decode cX3_admit 113 = .ok (.getfield 27, 3) := by decide +kernel
theorem dX3_admit_116 : decode cX3_admit 116 = .ok (.iconst 3, 1) := by decide +kernel
theorem dX3_admit_117 : decode cX3_admit 117 = .ok (.aaload, 1) := by decide +kernel
theorem dX3_admit_118 : decode cX3_admit 118 = .ok (.iload_n 1, 1) := by decide +kernel
theorem dX3_admit_119 : decode cX3_admit 119 = .ok (.iconst 0, 1) := by decide +kernel
theorem dX3_admit_120 : decode cX3_admit 120 = .ok (.iastore, 1) := by decide +kernel
theorem dX3_admit_121 : decode cX3_admit 121 = .ok (.aload_n 0, 1) := by decide +kernel
theorem dX3_admit_122 : decode cX3_admit 122 = .ok (.getfield 27, 3) := by decide +kernel
theorem dX3_admit_125 : decode cX3_admit 125 = .ok (.iconst 4, 1) := by decide +kernel
theorem dX3_admit_126 : decode cX3_admit 126 = .ok (.aaload, 1) := by decide +kernel
theorem dX3_admit_127 : decode cX3_admit 127 = .ok (.iload_n 1, 1) := by decide +kernel
theorem dX3_admit_128 : decode cX3_admit 128 = .ok (.iload 5, 2) := by decide +kernel
theorem dX3_admit_130 : decode cX3_admit 130 = .ok (.ifCond .ne 12, 3) := by decide +kernel
theorem dX3_admit_133 : decode cX3_admit 133 = .ok (.aload_n 0, 1) := by decide +kernel
theorem dX3_admit_134 : decode cX3_admit 134 = .ok (.getfield 9, 3) := by decide +kernel
theorem dX3_admit_137 : decode cX3_admit 137 = .ok (.iconst 3, 1) := by decide +kernel
theorem dX3_admit_138 : decode cX3_admit 138 = .ok (.iaload, 1) := by decide +kernel
theorem dX3_admit_139 : decode cX3_admit 139 = .ok (.goto 4, 3) := by decide +kernel
theorem dX3_admit_142 : decode cX3_admit 142 = .ok (.iconst 0, 1) := by decide +kernel
theorem dX3_admit_143 : decode cX3_admit 143 = .ok (.iastore, 1) := by decide +kernel
theorem dX3_admit_144 : decode cX3_admit 144 = .ok (.aload_n 0, 1) := by decide +kernel
theorem dX3_admit_145 : decode cX3_admit 145 = .ok (.getfield 27, 3) := by decide +kernel
theorem dX3_admit_148 : decode cX3_admit 148 = .ok (.iconst 5, 1) := by decide +kernel
theorem dX3_admit_149 : decode cX3_admit 149 = .ok (.aaload, 1) := by decide +kernel
theorem dX3_admit_150 : decode cX3_admit 150 = .ok (.iload_n 1, 1) := by decide +kernel
theorem dX3_admit_151 : decode cX3_admit 151 = .ok (.iconst 0, 1) := by decide +kernel
theorem dX3_admit_152 : decode cX3_admit 152 = .ok (.iastore, 1) := by decide +kernel
theorem dX3_admit_153 : decode cX3_admit 153 = .ok (.aload_n 0, 1) := by decide +kernel
theorem dX3_admit_154 : decode cX3_admit 154 = .ok (.iload_n 1, 1) := by decide +kernel
theorem dX3_admit_155 : decode cX3_admit 155 = .ok (.iload 5, 2) := by decide +kernel
theorem dX3_admit_157 : decode cX3_admit 157 = .ok (.ifCond .ne 7, 3) := by decide +kernel
theorem dX3_admit_160 : decode cX3_admit 160 = .ok (.iconst 1, 1) := by decide +kernel
theorem dX3_admit_161 : decode cX3_admit 161 = .ok (.goto 4, 3) := by decide +kernel
theorem dX3_admit_164 : decode cX3_admit 164 = .ok (.iconst 2, 1) := by decide +kernel
theorem dX3_admit_165 : decode cX3_admit 165 = .ok (.invokevirtual 95, 3) := by decide +kernel
theorem dX3_admit_168 : decode cX3_admit 168 = .ok (.return_, 1) := by decide +kernel
set_option maxRecDepth 20000 in
theorem ggX3_hit_X3_move : GoodIn wsX3_hit wsX3_move := goodIn_r _ [11, 1, 12, 13, 14, 15, 16, 17, 18, 19, 20, 21, 22, 23, 24, 25, 26, 27, 28, 29, 30, 31, 32, 33, 34, 35] (by decide +kernel) (by decide +kernel)
set_option maxRecDepth 20000 in
theorem gX3_hit_X3_move : GoodIn wsX3_hit (wsV RX3 95 RX3 yX3_move wsX3_move) := goodIn_app (goodIn_of _ (by decide +kernel)) ggX3_hit_X3_move
theorem dX3_hit_0 : decode cX3_hit 0 = .ok (.aload_n 0, 1) := by decide +kernel
theorem dX3_hit_1 : decode cX3_hit 1 = .ok (.getfield 27, 3) := by decide +kernel
theorem dX3_hit_4 : decode cX3_hit 4 = .ok (.iconst 0, 1) := by decide +kernel
theorem dX3_hit_5 : decode cX3_hit 5 = .ok (.aaload, 1) := by decide +kernel
theorem dX3_hit_6 : decode cX3_hit 6 = .ok (.iload_n 1, 1) := by decide +kernel
theorem dX3_hit_7 : decode cX3_hit 7 = .ok (.iaload, 1) := by decide +kernel
theorem dX3_hit_8 : decode cX3_hit 8 = .ok (.istore_n 2, 1) := by decide +kernel
theorem dX3_hit_9 : decode cX3_hit 9 = .ok (.aload_n 0, 1) := by decide +kernel
theorem dX3_hit_10 : decode cX3_hit 10 = .ok (.getfield 27, 3) := by decide +kernel
theorem dX3_hit_13 : decode cX3_hit 13 = .ok (.iconst 3, 1) := by decide +kernel
theorem dX3_hit_14 : decode cX3_hit 14 = .ok (.aaload, 1) := by decide +kernel
theorem dX3_hit_15 : decode cX3_hit 15 = .ok (.iload_n 1, 1) := by decide +kernel
theorem dX3_hit_16 : decode cX3_hit 16 = .ok (.aload_n 0, 1) := by decide +kernel
theorem dX3_hit_17 : decode cX3_hit 17 = .ok (.getfield 27, 3) := by decide +kernel
theorem dX3_hit_20 : decode cX3_hit 20 = .ok (.iconst 3, 1) := by decide +kernel
theorem dX3_hit_21 : decode cX3_hit 21 = .ok (.aaload, 1) := by decide +kernel
theorem dX3_hit_22 : decode cX3_hit 22 = .ok (.iload_n 1, 1) := by decide +kernel
theorem dX3_hit_23 : decode cX3_hit 23 = .ok (.iaload, 1) := by decide +kernel
theorem dX3_hit_24 : decode cX3_hit 24 = .ok (.iconst 1, 1) := by decide +kernel
theorem dX3_hit_25 : decode cX3_hit 25 = .ok (.iadd, 1) := by decide +kernel
theorem dX3_hit_26 : decode cX3_hit 26 = .ok (.bipush 99, 2) := by decide +kernel
theorem dX3_hit_28 : decode cX3_hit 28 = .ok (.invokestatic 104, 3) := by decide +kernel
theorem dX3_hit_31 : decode cX3_hit 31 = .ok (.iastore, 1) := by decide +kernel
theorem dX3_hit_32 : decode cX3_hit 32 = .ok (.iload_n 2, 1) := by decide +kernel
theorem dX3_hit_33 : decode cX3_hit 33 = .ok (.iconst 1, 1) := by decide +kernel
theorem dX3_hit_34 : decode cX3_hit 34 = .ok (.if_icmp .ne 24, 3) := by decide +kernel
theorem dX3_hit_37 : decode cX3_hit 37 = .ok (.aload_n 0, 1) := by decide +kernel
theorem dX3_hit_38 : decode cX3_hit 38 = .ok (.getfield 27, 3) := by decide +kernel
theorem dX3_hit_41 : decode cX3_hit 41 = .ok (.iconst 3, 1) := by decide +kernel
theorem dX3_hit_42 : decode cX3_hit 42 = .ok (.aaload, 1) := by decide +kernel
theorem dX3_hit_43 : decode cX3_hit 43 = .ok (.iload_n 1, 1) := by decide +kernel
theorem dX3_hit_44 : decode cX3_hit 44 = .ok (.iaload, 1) := by decide +kernel
theorem dX3_hit_45 : decode cX3_hit 45 = .ok (.aload_n 0, 1) := by decide +kernel
theorem dX3_hit_46 : decode cX3_hit 46 = .ok (.getfield 9, 3) := by decide +kernel
theorem dX3_hit_49 : decode cX3_hit 49 = .ok (.iconst 2, 1) := by decide +kernel
theorem dX3_hit_50 : decode cX3_hit 50 = .ok (.iaload, 1) := by decide +kernel
theorem dX3_hit_51 : decode cX3_hit 51 = .ok (.if_icmp .lt 7, 3) := by decide +kernel
theorem dX3_hit_54 : decode cX3_hit 54 = .ok (.iconst 1, 1) := by decide +kernel
theorem dX3_hit_55 : decode cX3_hit 55 = .ok (.goto 4, 3) := by decide +kernel
theorem dX3_hit_58 : decode cX3_hit 58 = .ok (.iconst 0, 1) := by decide +kernel
theorem dX3_hit_59 : decode cX3_hit 59 = .ok (.istore_n 3, 1) := by decide +kernel
theorem dX3_hit_60 : decode cX3_hit 60 = .ok (.aload_n 0, 1) := by decide +kernel
theorem dX3_hit_61 : decode cX3_hit 61 = .ok (.iload_n 1, 1) := by decide +kernel
theorem dX3_hit_62 : decode cX3_hit 62 = .ok (.iload_n 3, 1) := by decide +kernel
theorem dX3_hit_63 : decode cX3_hit 63 = .ok (.ifCond .eq 7, 3) := by decide +kernel
theorem dX3_hit_66 : decode cX3_hit 66 = .ok (.iconst 2, 1) := by decide +kernel
theorem dX3_hit_67 : decode cX3_hit 67 = .ok (.goto 4, 3) := by decide +kernel
theorem dX3_hit_70 : decode cX3_hit 70 = .ok (.iload_n 2, 1) := by decide +kernel
theorem dX3_hit_71 : decode cX3_hit 71 = .ok (.invokevirtual 95, 3) := by decide +kernel
theorem dX3_hit_74 : decode cX3_hit 74 = .ok (.return_, 1) := by decide +kernel
set_option maxRecDepth 20000 in
theorem ggX3_fetch_X3_isThing : GoodIn wsX3_fetch wsX3_isThing := goodIn_r _ [7, 2, 79, 80, 81, 82, 83, 84] (by decide +kernel) (by decide +kernel)
set_option maxRecDepth 20000 in
theorem gX3_fetch_X3_isThing : GoodIn wsX3_fetch (wsV RX3 77 RX3 yX3_isThing wsX3_isThing) := goodIn_app (goodIn_of _ (by decide +kernel)) ggX3_fetch_X3_isThing
set_option maxRecDepth 20000 in
theorem ggX3_fetch_X3_hit : GoodIn wsX3_fetch wsX3_hit := goodIn_r _ [11, 2, 12, 13, 14, 15, 16, 17, 18, 19, 6, 20, 21, 22, 23, 24, 25, 26, 27, 28, 29, 30, 31, 32, 33, 34, 79, 80, 81, 82, 83, 84, 85, 86, 87, 88] (by decide +kernel) (by decide +kernel)
set_option maxRecDepth 20000 in
theorem gX3_fetch_X3_hit : GoodIn wsX3_fetch (wsV RX3 91 RX3 yX3_hit wsX3_hit) := goodIn_app (goodIn_of _ (by decide +kernel)) ggX3_fetch_X3_hit
set_option maxRecDepth 20000 in
theorem ggX3_fetch_X3_trim : GoodIn wsX3_fetch wsX3_trim := goodIn_r _ [38, 39, 40, 41, 6, 42, 43, 21, 44, 16, 2, 45, 46, 47, 25, 48, 29, 27, 49, 50, 51, 52, 17, 18, 19, 20, 22, 23, 24, 26, 28, 30, 31, 32, 33, 34, 53, 54, 55, 56, 57, 58, 59, 60, 61, 62, 63, 64, 65, 66, 67, 68, 69, 70, 71, 72, 73, 74, 75, 76, 77, 78, 79, 80, 81, 82, 83, 84, 85, 86, 87, 88, 89, 90] (by decide +kernel) (by decide +kernel)
set_option maxRecDepth 20000 in
theorem gX3_fetch_X3_trim : GoodIn wsX3_fetch (wsV RX3 88 RX3 yX3_trim wsX3_trim) := goodIn_app (goodIn_of _ (by decide +kernel)) ggX3_fetch_X3_trim
theorem dX3_fetch_0 : decode cX3_fetch 0 = .ok (.aload_n 0, 1) := by decide +kernel
theorem dX3_fetch_1 : decode cX3_fetch 1 = .ok (.iload_n 1, 1) := by decide +kernel
theorem dX3_fetch_2 : decode cX3_fetch 2 = .ok (.invokevirtual 77, 3) := by decide +kernel
theorem dX3_fetch_5 : decode cX3_fetch 5 = .ok (.ifCond .eq 41, 3) := by decide +kernel
theorem dX3_fetch_8 : decode cX3_fetch 8 = .ok (.aload_n 0, 1) := by decide +kernel
theorem dX3_fetch_9 : decode cX3_fetch 9 = .ok (.iload_n 1, 1) := by decide +kernel
theorem dX3_fetch_10 : decode cX3_fetch 10 = .ok (.invokevirtual 91, 3) := by decide +kernel
theorem dX3_fetch_13 : decode cX3_fetch 13 = .ok (.aload_n 0, 1) := by decide +kernel
theorem dX3_fetch_14 : decode cX3_fetch 14 = .ok (.getfield 15, 3) := by decide +kernel
theorem dX3_fetch_17 : decode cX3_fetch 17 = .ok (.iconst 3, 1) := by decide +kernel
theorem dX3_fetch_18 : decode cX3_fetch 18 = .ok (.dup2, 1) := by decide +kernel
theorem dX3_fetch_19 : decode cX3_fetch 19 = .ok (.iaload, 1) := by decide +kernel
theorem dX3_fetch_20 : decode cX3_fetch 20 = .ok (.aload_n 0, 1) := by decide +kernel
theorem dX3_fetch_21 : decode cX3_fetch 21 = .ok (.getfield 27, 3) := by decide +kernel
theorem dX3_fetch_24 : decode cX3_fetch 24 = .ok (.iconst 2, 1) := by decide +kernel
theorem dX3_fetch_25 : decode cX3_fetch 25 = .ok (.aaload, 1) := by decide +kernel
theorem dX3_fetch_26 : decode cX3_fetch 26 = .ok (.iload_n 1, 1) := by decide +kernel
theorem dX3_fetch_27 : decode cX3_fetch 27 = .ok (.iaload, 1) := by decide +kernel
theorem dX3_fetch_28 : decode cX3_fetch 28 = .ok (.iadd, 1) := by decide +kernel
theorem dX3_fetch_29 : decode cX3_fetch 29 = .ok (.iastore, 1) := by decide +kernel
theorem dX3_fetch_30 : decode cX3_fetch 30 = .ok (.aload_n 0, 1) := by decide +kernel
theorem dX3_fetch_31 : decode cX3_fetch 31 = .ok (.getfield 15, 3) := by decide +kernel
theorem dX3_fetch_34 : decode cX3_fetch 34 = .ok (.iconst 0, 1) := by decide +kernel
theorem dX3_fetch_35 : decode cX3_fetch 35 = .ok (.dup2, 1) := by decide +kernel
theorem dX3_fetch_36 : decode cX3_fetch 36 = .ok (.iaload, 1) := by decide +kernel
theorem dX3_fetch_37 : decode cX3_fetch 37 = .ok (.iconst 1, 1) := by decide +kernel
theorem dX3_fetch_38 : decode cX3_fetch 38 = .ok (.iadd, 1) := by decide +kernel
theorem dX3_fetch_39 : decode cX3_fetch 39 = .ok (.iastore, 1) := by decide +kernel
theorem dX3_fetch_40 : decode cX3_fetch 40 = .ok (.aload_n 0, 1) := by decide +kernel
theorem dX3_fetch_41 : decode cX3_fetch 41 = .ok (.invokevirtual 88, 3) := by decide +kernel
theorem dX3_fetch_44 : decode cX3_fetch 44 = .ok (.iconst 1, 1) := by decide +kernel
theorem dX3_fetch_45 : decode cX3_fetch 45 = .ok (.ireturn, 1) := by decide +kernel
theorem dX3_fetch_46 : decode cX3_fetch 46 = .ok (.aload_n 0, 1) := by decide +kernel
theorem dX3_fetch_47 : decode cX3_fetch 47 = .ok (.getfield 15, 3) := by decide +kernel
theorem dX3_fetch_50 : decode cX3_fetch 50 = .ok (.iconst 1, 1) := by decide +kernel
theorem dX3_fetch_51 : decode cX3_fetch 51 = .ok (.dup2, 1) := by decide +kernel
theorem dX3_fetch_52 : decode cX3_fetch 52 = .ok (.iaload, 1) := by decide +kernel
theorem dX3_fetch_53 : decode cX3_fetch 53 = .ok (.iconst 1, 1) := by decide +kernel
theorem dX3_fetch_54 : decode cX3_fetch 54 = .ok (.iadd, 1) := by decide +kernel
theorem dX3_fetch_55 : decode cX3_fetch 55 = .ok (.iastore, 1) := by decide +kernel
theorem dX3_fetch_56 : decode cX3_fetch 56 = .ok (.aload_n 0, 1) := by decide +kernel
theorem dX3_fetch_57 : decode cX3_fetch 57 = .ok (.getfield 27, 3) := by decide +kernel
theorem dX3_fetch_60 : decode cX3_fetch 60 = .ok (.iconst 0, 1) := by decide +kernel
theorem dX3_fetch_61 : decode cX3_fetch 61 = .ok (.aaload, 1) := by decide +kernel
theorem dX3_fetch_62 : decode cX3_fetch 62 = .ok (.iload_n 1, 1) := by decide +kernel
theorem dX3_fetch_63 : decode cX3_fetch 63 = .ok (.iaload, 1) := by decide +kernel
theorem dX3_fetch_64 : decode cX3_fetch 64 = .ok (.ifCond .eq 13, 3) := by decide +kernel
theorem dX3_fetch_67 : decode cX3_fetch 67 = .ok (.aload_n 0, 1) := by decide +kernel
theorem dX3_fetch_68 : decode cX3_fetch 68 = .ok (.getfield 15, 3) := by decide +kernel
theorem dX3_fetch_71 : decode cX3_fetch 71 = .ok (.iconst 2, 1) := by decide +kernel
theorem dX3_fetch_72 : decode cX3_fetch 72 = .ok (.dup2, 1) := by decide +kernel
theorem dX3_fetch_73 : decode cX3_fetch 73 = .ok (.iaload, 1) := by decide +kernel
theorem dX3_fetch_74 : decode cX3_fetch 74 = .ok (.iconst 1, 1) := by decide +kernel
theorem dX3_fetch_75 : decode cX3_fetch 75 = .ok (.iadd, 1) := by decide +kernel
theorem dX3_fetch_76 : decode cX3_fetch 76 = .ok (.iastore, 1) := by decide +kernel
theorem dX3_fetch_77 : decode cX3_fetch 77 = .ok (.iconst 0, 1) := by decide +kernel
theorem dX3_fetch_78 : decode cX3_fetch 78 = .ok (.ireturn, 1) := by decide +kernel
set_option maxRecDepth 20000 in
theorem ggX3_trim_X3_demote : GoodIn wsX3_trim wsX3_demote := goodIn_r _ [5, 6, 7, 8, 9, 10, 11, 12, 13, 14, 15, 16, 17, 18, 19, 20, 21, 22, 23, 24, 4, 25, 26, 27, 28, 29, 30, 31, 32, 33, 34, 35, 62, 63, 64, 65, 66, 67, 68, 69, 70, 71] (by decide +kernel) (by decide +kernel)
set_option maxRecDepth 20000 in
theorem gX3_trim_X3_demote : GoodIn wsX3_trim (wsV RX3 107 RX3 yX3_demote wsX3_demote) := goodIn_app (goodIn_of _ (by decide +kernel)) ggX3_trim_X3_demote
set_option maxRecDepth 20000 in
theorem ggX3_trim_X3_makeRoom : GoodIn wsX3_trim wsX3_makeRoom := goodIn_r _ [39, 6, 9, 7, 10, 40, 41, 42, 43, 4, 44, 8, 11, 12, 13, 14, 15, 16, 17, 18, 19, 20, 21, 22, 23, 24, 25, 26, 27, 28, 29, 30, 31, 32, 33, 34, 35, 45, 46, 47, 48, 49, 50, 51, 52, 53, 54, 55, 62, 63, 64, 65, 66, 67, 68, 69, 70, 71, 72, 73] (by decide +kernel) (by decide +kernel)
set_option maxRecDepth 20000 in
theorem gX3_trim_X3_makeRoom : GoodIn wsX3_trim (wsV RX3 110 RX3 yX3_makeRoom wsX3_makeRoom) := goodIn_app (goodIn_of _ (by decide +kernel)) ggX3_trim_X3_makeRoom
set_option maxRecDepth 20000 in
theorem ggX3_trim_X3_forget : GoodIn wsX3_trim wsX3_forget := goodIn_r _ [59, 7, 60, 8, 9, 61, 19, 20, 14, 21, 17, 22, 23, 24, 4, 25, 10, 26, 27, 28, 29, 30, 16, 31, 32, 33, 34, 35, 62, 63, 64, 65, 66, 67, 68, 69, 70, 71] (by decide +kernel) (by decide +kernel)
set_option maxRecDepth 20000 in
theorem gX3_trim_X3_forget : GoodIn wsX3_trim (wsV RX3 113 RX3 yX3_forget wsX3_forget) := goodIn_app (goodIn_of _ (by decide +kernel)) ggX3_trim_X3_forget
theorem dX3_trim_0 : decode cX3_trim 0 = .ok (.aload_n 0, 1) := by decide +kernel
theorem dX3_trim_1 : decode cX3_trim 1 = .ok (.invokevirtual 107, 3) := by decide +kernel
theorem dX3_trim_4 : decode cX3_trim 4 = .ok (.aload_n 0, 1) := by decide +kernel
theorem dX3_trim_5 : decode cX3_trim 5 = .ok (.invokevirtual 110, 3) := by decide +kernel
theorem dX3_trim_8 : decode cX3_trim 8 = .ok (.aload_n 0, 1) := by decide +kernel
theorem dX3_trim_9 : decode cX3_trim 9 = .ok (.iconst 3, 1) := by decide +kernel
theorem dX3_trim_10 : decode cX3_trim 10 = .ok (.invokevirtual 113, 3) := by decide +kernel
theorem dX3_trim_13 : decode cX3_trim 13 = .ok (.aload_n 0, 1) := by decide +kernel
theorem dX3_trim_14 : decode cX3_trim 14 = .ok (.iconst 4, 1) := by decide +kernel
theorem dX3_trim_15 : decode cX3_trim 15 = .ok (.invokevirtual 113, 3) := by decide +kernel
theorem dX3_trim_18 : decode cX3_trim 18 = .ok (.return_, 1) := by decide +kernel
set_option maxRecDepth 20000 in
theorem ggX3_demote_X2_oldestLoose : GoodIn wsX3_demote wsX2_oldestLoose := goodIn_r _ [10, 11, 12, 13, 14, 15, 9, 16, 38, 39, 40, 41] (by decide +kernel) (by decide +kernel)
set_option maxRecDepth 20000 in
theorem gX3_demote_X2_oldestLoose : GoodIn wsX3_demote (wsV RX3 117 RX2 yX2_oldestLoose wsX2_oldestLoose) := goodIn_app (goodIn_of _ (by decide +kernel)) ggX3_demote_X2_oldestLoose
set_option maxRecDepth 20000 in
theorem ggX3_demote_X3_move : GoodIn wsX3_demote wsX3_move := goodIn_r _ [21, 5, 2, 22, 23, 24, 9, 25, 12, 26, 11, 27, 28, 29, 30, 31, 32, 33, 34, 35, 36, 37, 38, 39, 40, 41] (by decide +kernel) (by decide +kernel)
set_option maxRecDepth 20000 in
theorem gX3_demote_X3_move : GoodIn wsX3_demote (wsV RX3 95 RX3 yX3_move wsX3_move) := goodIn_app (goodIn_of _ (by decide +kernel)) ggX3_demote_X3_move
theorem dX3_demote_0 : decode cX3_demote 0 = .ok (.iconst 0, 1) := by decide +kernel
theorem dX3_demote_1 : decode cX3_demote 1 = .ok (.istore_n 1, 1) := by decide +kernel
theorem dX3_demote_2 : decode cX3_demote 2 = .ok (.iload_n 1, 1) := by decide +kernel
theorem dX3_demote_3 : decode cX3_demote 3 = .ok (.ldc 116, 2) := by decide +kernel
theorem dX3_demote_5 : decode cX3_demote 5 = .ok (.if_icmp .ge 62, 3) := by decide +kernel
theorem dX3_demote_8 : decode cX3_demote 8 = .ok (.aload_n 0, 1) := by decide +kernel
theorem dX3_demote_9 : decode cX3_demote 9 = .ok (.getfield 21, 3) := by decide +kernel
theorem dX3_demote_12 : decode cX3_demote 12 = .ok (.getfield 63, 3) := by decide +kernel
theorem dX3_demote_15 : decode cX3_demote 15 = .ok (.iconst 2, 1) := by decide +kernel
theorem dX3_demote_16 : decode cX3_demote 16 = .ok (.iaload, 1) := by decide +kernel
theorem dX3_demote_17 : decode cX3_demote 17 = .ok (.aload_n 0, 1) := by decide +kernel
theorem dX3_demote_18 : decode cX3_demote 18 = .ok (.getfield 9, 3) := by decide +kernel
theorem dX3_demote_21 : decode cX3_demote 21 = .ok (.iconst 1, 1) := by decide +kernel
theorem dX3_demote_22 : decode cX3_demote 22 = .ok (.iaload, 1) := by decide +kernel
theorem dX3_demote_23 : decode cX3_demote 23 = .ok (.if_icmp .le 44, 3) := by decide +kernel
theorem dX3_demote_26 : decode cX3_demote 26 = .ok (.aload_n 0, 1) := by decide +kernel
theorem dX3_demote_27 : decode cX3_demote 27 = .ok (.getfield 21, 3) := by decide +kernel
theorem dX3_demote_30 : decode cX3_demote 30 = .ok (.iconst 2, 1) := by decide +kernel
theorem dX3_demote_31 : decode cX3_demote 31 = .ok (.aload_n 0, 1) := by decide +kernel
theorem dX3_demote_32 : decode cX3_demote 32 = .ok (.getfield 27, 3) := by decide +kernel
theorem dX3_demote_35 : decode cX3_demote 35 = .ok (.iconst 5, 1) := by decide +kernel
theorem dX3_demote_36 : decode cX3_demote 36 = .ok (.aaload, 1) := by decide +kernel
theorem dX3_demote_37 : decode cX3_demote 37 = .ok (.invokevirtual 117, 3) := by decide +kernel
theorem dX3_demote_40 : decode cX3_demote 40 = .ok (.istore_n 2, 1) := by decide +kernel
theorem dX3_demote_41 : decode cX3_demote 41 = .ok (.iload_n 2, 1) := by decide +kernel
theorem dX3_demote_42 : decode cX3_demote 42 = .ok (.ifCond .ge 4, 3) := by decide +kernel
theorem dX3_demote_45 : decode cX3_demote 45 = .ok (.return_, 1) := by decide +kernel
theorem dX3_demote_46 : decode cX3_demote 46 = .ok (.aload_n 0, 1) := by decide +kernel
theorem dX3_demote_47 : decode cX3_demote 47 = .ok (.getfield 27, 3) := by decide +kernel
theorem dX3_demote_50 : decode cX3_demote 50 = .ok (.iconst 3, 1) := by decide +kernel
theorem dX3_demote_51 : decode cX3_demote 51 = .ok (.aaload, 1) := by decide +kernel
theorem dX3_demote_52 : decode cX3_demote 52 = .ok (.iload_n 2, 1) := by decide +kernel
theorem dX3_demote_53 : decode cX3_demote 53 = .ok (.iconst 0, 1) := by decide +kernel
theorem dX3_demote_54 : decode cX3_demote 54 = .ok (.iastore, 1) := by decide +kernel
theorem dX3_demote_55 : decode cX3_demote 55 = .ok (.aload_n 0, 1) := by decide +kernel
theorem dX3_demote_56 : decode cX3_demote 56 = .ok (.iload_n 2, 1) := by decide +kernel
theorem dX3_demote_57 : decode cX3_demote 57 = .ok (.iconst 1, 1) := by decide +kernel
theorem dX3_demote_58 : decode cX3_demote 58 = .ok (.invokevirtual 95, 3) := by decide +kernel
theorem dX3_demote_61 : decode cX3_demote 61 = .ok (.iinc 1 1, 3) := by decide +kernel
theorem dX3_demote_64 : decode cX3_demote 64 = .ok (.goto (-62), 3) := by decide +kernel
theorem dX3_demote_67 : decode cX3_demote 67 = .ok (.return_, 1) := by decide +kernel
set_option maxRecDepth 20000 in
theorem ggX3_makeRoom_X3_weightOfThings : GoodIn wsX3_makeRoom wsX3_weightOfThings := goodIn_r _ [10, 3, 11, 48, 49, 50, 51, 52, 53, 54, 55, 56, 57] (by decide +kernel) (by decide +kernel)
set_option maxRecDepth 20000 in
theorem gX3_makeRoom_X3_weightOfThings : GoodIn wsX3_makeRoom (wsV RX3 121 RX3 yX3_weightOfThings wsX3_weightOfThings) := goodIn_app (goodIn_of _ (by decide +kernel)) ggX3_makeRoom_X3_weightOfThings
set_option maxRecDepth 20000 in
theorem ggX3_makeRoom_X2_oldestLoose : GoodIn wsX3_makeRoom wsX2_oldestLoose := goodIn_r _ [16, 17, 18, 19, 20, 21, 15, 22, 54, 55, 56, 57] (by decide +kernel) (by decide +kernel)
set_option maxRecDepth 20000 in
theorem gX3_makeRoom_X2_oldestLoose : GoodIn wsX3_makeRoom (wsV RX3 117 RX2 yX2_oldestLoose wsX2_oldestLoose) := goodIn_app (goodIn_of _ (by decide +kernel)) ggX3_makeRoom_X2_oldestLoose
set_option maxRecDepth 20000 in
theorem ggX3_makeRoom_X3_move : GoodIn wsX3_makeRoom wsX3_move := goodIn_r _ [26, 4, 3, 27, 28, 29, 15, 30, 18, 31, 17, 32, 33, 34, 35, 36, 48, 49, 50, 51, 52, 53, 54, 55, 56, 57] (by decide +kernel) (by decide +kernel)
set_option maxRecDepth 20000 in
theorem gX3_makeRoom_X3_move : GoodIn wsX3_makeRoom (wsV RX3 95 RX3 yX3_move wsX3_move) := goodIn_app (goodIn_of _ (by decide +kernel)) ggX3_makeRoom_X3_move
set_option maxRecDepth 20000 in
theorem ggX3_makeRoom_X1_add : GoodIn wsX3_makeRoom wsX1_add := goodIn_r _ [41, 42, 43, 44, 45, 46, 47, 58, 59] (by decide +kernel) (by decide +kernel)
set_option maxRecDepth 20000 in
theorem gX3_makeRoom_X1_add : GoodIn wsX3_makeRoom (wsV RX3 125 RX1 yX1_add wsX1_add) := goodIn_app (goodIn_of _ (by decide +kernel)) ggX3_makeRoom_X1_add
theorem dX3_makeRoom_0 : decode cX3_makeRoom 0 = .ok (.iconst 0, 1) := by decide +kernel
theorem dX3_makeRoom_1 : decode cX3_makeRoom 1 = .ok (.istore_n 1, 1) := by decide +kernel
theorem dX3_makeRoom_2 : decode cX3_makeRoom 2 = .ok (.iload_n 1, 1) := by decide +kernel
theorem dX3_makeRoom_3 : decode cX3_makeRoom 3 = .ok (.ldc 116, 2) := by decide +kernel
theorem dX3_makeRoom_5 : decode cX3_makeRoom 5 = .ok (.if_icmp .ge 116, 3) := by decide +kernel
theorem dX3_makeRoom_8 : decode cX3_makeRoom 8 = .ok (.aload_n 0, 1) := by decide +kernel
theorem dX3_makeRoom_9 : decode cX3_makeRoom 9 = .ok (.invokevirtual 121, 3) := by decide +kernel
theorem dX3_makeRoom_12 : decode cX3_makeRoom 12 = .ok (.aload_n 0, 1) := by decide +kernel
theorem dX3_makeRoom_13 : decode cX3_makeRoom 13 = .ok (.getfield 9, 3) := by decide +kernel
theorem dX3_makeRoom_16 : decode cX3_makeRoom 16 = .ok (.iconst 0, 1) := by decide +kernel
theorem dX3_makeRoom_17 : decode cX3_makeRoom 17 = .ok (.iaload, 1) := by decide +kernel
theorem dX3_makeRoom_18 : decode cX3_makeRoom 18 = .ok (.if_icmp .le 103, 3) := by decide +kernel
theorem dX3_makeRoom_21 : decode cX3_makeRoom 21 = .ok (.iconst 3, 1) := by decide +kernel
theorem dX3_makeRoom_22 : decode cX3_makeRoom 22 = .ok (.istore_n 2, 1) := by decide +kernel
theorem dX3_makeRoom_23 : decode cX3_makeRoom 23 = .ok (.aload_n 0, 1) := by decide +kernel
theorem dX3_makeRoom_24 : decode cX3_makeRoom 24 = .ok (.getfield 21, 3) := by decide +kernel
theorem dX3_makeRoom_27 : decode cX3_makeRoom 27 = .ok (.iconst 1, 1) := by decide +kernel
theorem dX3_makeRoom_28 : decode cX3_makeRoom 28 = .ok (.aload_n 0, 1) := by decide +kernel
theorem dX3_makeRoom_29 : decode cX3_makeRoom 29 = .ok (.getfield 27, 3) := by decide +kernel
theorem dX3_makeRoom_32 : decode cX3_makeRoom 32 = .ok (.iconst 5, 1) := by decide +kernel
theorem dX3_makeRoom_33 : decode cX3_makeRoom 33 = .ok (.aaload, 1) := by decide +kernel
theorem dX3_makeRoom_34 : decode cX3_makeRoom 34 = .ok (.invokevirtual 117, 3) := by decide +kernel
theorem dX3_makeRoom_37 : decode cX3_makeRoom 37 = .ok (.istore_n 3, 1) := by decide +kernel
theorem dX3_makeRoom_38 : decode cX3_makeRoom 38 = .ok (.iload_n 3, 1) := by decide +kernel
theorem dX3_makeRoom_39 : decode cX3_makeRoom 39 = .ok (.ifCond .ge 20, 3) := by decide +kernel
theorem dX3_makeRoom_42 : decode cX3_makeRoom 42 = .ok (.iconst 4, 1) := by decide +kernel
theorem dX3_makeRoom_43 : decode cX3_makeRoom 43 = .ok (.istore_n 2, 1) := by decide +kernel
theorem dX3_makeRoom_44 : decode cX3_makeRoom 44 = .ok (.aload_n 0, 1) := by decide +kernel
theorem dX3_makeRoom_45 : decode cX3_makeRoom 45 = .ok (.getfield 21, 3) := by decide +kernel
theorem dX3_makeRoom_48 : decode cX3_makeRoom 48 = .ok (.iconst 2, 1) := by decide +kernel
theorem dX3_makeRoom_49 : decode cX3_makeRoom 49 = .ok (.aload_n 0, 1) := by decide +kernel
theorem dX3_makeRoom_50 : decode cX3_makeRoom 50 = .ok (.getfield 27, 3) := by decide +kernel
theorem dX3_makeRoom_53 : decode cX3_makeRoom 53 = .ok (.iconst 5, 1) := by decide +kernel
theorem dX3_makeRoom_54 : decode cX3_makeRoom 54 = .ok (.aaload, 1) := by decide +kernel
theorem dX3_makeRoom_55 : decode cX3_makeRoom 55 = .ok (.invokevirtual 117, 3) := by decide +kernel
theorem dX3_makeRoom_58 : decode cX3_makeRoom 58 = .ok (.istore_n 3, 1) := by decide +kernel
theorem dX3_makeRoom_59 : decode cX3_makeRoom 59 = .ok (.iload_n 3, 1) := by decide +kernel
theorem dX3_makeRoom_60 : decode cX3_makeRoom 60 = .ok (.ifCond .ge 4, 3) := by decide +kernel
theorem dX3_makeRoom_63 : decode cX3_makeRoom 63 = .ok (.return_, 1) := by decide +kernel
theorem dX3_makeRoom_64 : decode cX3_makeRoom 64 = .ok (.iload_n 2, 1) := by decide +kernel
theorem dX3_makeRoom_65 : decode cX3_makeRoom 65 = .ok (.iconst 3, 1) := by decide +kernel
theorem dX3_makeRoom_66 : decode cX3_makeRoom 66 = .ok (.if_icmp .ne 35, 3) := by decide +kernel
theorem dX3_makeRoom_69 : decode cX3_makeRoom 69 = .ok (.aload_n 0, 1) := by decide +kernel
theorem dX3_makeRoom_70 : decode cX3_makeRoom 70 = .ok (.getfield 27, 3) := by decide +kernel
theorem dX3_makeRoom_73 : decode cX3_makeRoom 73 = .ok (.iconst 4, 1) := by decide +kernel
theorem dX3_makeRoom_74 : decode cX3_makeRoom 74 = .ok (.aaload, 1) := by decide +kernel
theorem dX3_makeRoom_75 : decode cX3_makeRoom 75 = .ok (.iload_n 3, 1) := by decide +kernel
theorem dX3_makeRoom_76 : decode cX3_makeRoom 76 = .ok (.iaload, 1) := by decide +kernel
theorem dX3_makeRoom_77 : decode cX3_makeRoom 77 = .ok (.ifCond .le 24, 3) := by decide +kernel
theorem dX3_makeRoom_80 : decode cX3_makeRoom 80 = .ok (.aload_n 0, 1) := by decide +kernel
theorem dX3_makeRoom_81 : decode cX3_makeRoom 81 = .ok (.getfield 27, 3) := by decide +kernel
theorem dX3_makeRoom_84 : decode cX3_makeRoom 84 = .ok (.iconst 4, 1) := by decide +kernel
theorem dX3_makeRoom_85 : decode cX3_makeRoom 85 = .ok (.aaload, 1) := by decide +kernel
theorem dX3_makeRoom_86 : decode cX3_makeRoom 86 = .ok (.iload_n 3, 1) := by decide +kernel
theorem dX3_makeRoom_87 : decode cX3_makeRoom 87 = .ok (.dup2, 1) := by decide +kernel
theorem dX3_makeRoom_88 : decode cX3_makeRoom 88 = .ok (.iaload, 1) := by decide +kernel
theorem dX3_makeRoom_89 : decode cX3_makeRoom 89 = .ok (.iconst 1, 1) := by decide +kernel
theorem dX3_makeRoom_90 : decode cX3_makeRoom 90 = .ok (.isub, 1) := by decide +kernel
theorem dX3_makeRoom_91 : decode cX3_makeRoom 91 = .ok (.iastore, 1) := by decide +kernel
theorem dX3_makeRoom_92 : decode cX3_makeRoom 92 = .ok (.aload_n 0, 1) := by decide +kernel
theorem dX3_makeRoom_93 : decode cX3_makeRoom 93 = .ok (.iload_n 3, 1) := by decide +kernel
theorem dX3_makeRoom_94 : decode cX3_makeRoom 94 = .ok (.iconst 1, 1) := by decide +kernel
theorem dX3_makeRoom_95 : decode cX3_makeRoom 95 = .ok (.invokevirtual 95, 3) := by decide +kernel
theorem dX3_makeRoom_98 : decode cX3_makeRoom 98 = .ok (.goto 17, 3) := by decide +kernel
theorem dX3_makeRoom_101 : decode cX3_makeRoom 101 = .ok (.aload_n 0, 1) := by decide +kernel
theorem dX3_makeRoom_102 : decode cX3_makeRoom 102 = .ok (.iload_n 3, 1) := by decide +kernel
theorem dX3_makeRoom_103 : decode cX3_makeRoom 103 = .ok (.iload_n 2, 1) := by decide +kernel
theorem dX3_makeRoom_104 : decode cX3_makeRoom 104 = .ok (.invokevirtual 95, 3) := by decide +kernel
theorem dX3_makeRoom_107 : decode cX3_makeRoom 107 = .ok (.aload_n 0, 1) := by decide +kernel
theorem dX3_makeRoom_108 : decode cX3_makeRoom 108 = .ok (.getfield 33, 3) := by decide +kernel
theorem dX3_makeRoom_111 : decode cX3_makeRoom 111 = .ok (.iload_n 3, 1) := by decide +kernel
theorem dX3_makeRoom_112 : decode cX3_makeRoom 112 = .ok (.invokevirtual 125, 3) := by decide +kernel
theorem dX3_makeRoom_115 : decode cX3_makeRoom 115 = .ok (.iinc 1 1, 3) := by decide +kernel
theorem dX3_makeRoom_118 : decode cX3_makeRoom 118 = .ok (.goto (-116), 3) := by decide +kernel
theorem dX3_makeRoom_121 : decode cX3_makeRoom 121 = .ok (.return_, 1) := by decide +kernel
set_option maxRecDepth 20000 in
theorem ggX3_forget_X2_oldest : GoodIn wsX3_forget wsX2_oldest := goodIn_r _ [9, 10, 34, 35, 36, 37] (by decide +kernel) (by decide +kernel)
set_option maxRecDepth 20000 in
theorem gX3_forget_X2_oldest : GoodIn wsX3_forget (wsV RX3 127 RX2 yX2_oldest wsX2_oldest) := goodIn_app (goodIn_of _ (by decide +kernel)) ggX3_forget_X2_oldest
set_option maxRecDepth 20000 in
theorem ggX3_forget_X3_move : GoodIn wsX3_forget wsX3_move := goodIn_r _ [15, 16, 1, 17, 18, 19, 8, 20, 10, 21, 22, 23, 24, 25, 26, 27, 28, 29, 30, 31, 32, 33, 34, 35, 36, 37] (by decide +kernel) (by decide +kernel)
set_option maxRecDepth 20000 in
theorem gX3_forget_X3_move : GoodIn wsX3_forget (wsV RX3 95 RX3 yX3_move wsX3_move) := goodIn_app (goodIn_of _ (by decide +kernel)) ggX3_forget_X3_move
theorem dX3_forget_0 : decode cX3_forget 0 = .ok (.aload_n 0, 1) := by decide +kernel
theorem dX3_forget_1 : decode cX3_forget 1 = .ok (.getfield 21, 3) := by decide +kernel
theorem dX3_forget_4 : decode cX3_forget 4 = .ok (.getfield 60, 3) := by decide +kernel
theorem dX3_forget_7 : decode cX3_forget 7 = .ok (.iload_n 1, 1) := by decide +kernel
theorem dX3_forget_8 : decode cX3_forget 8 = .ok (.iaload, 1) := by decide +kernel
theorem dX3_forget_9 : decode cX3_forget 9 = .ok (.istore_n 2, 1) := by decide +kernel
theorem dX3_forget_10 : decode cX3_forget 10 = .ok (.iconst 0, 1) := by decide +kernel
theorem dX3_forget_11 : decode cX3_forget 11 = .ok (.istore_n 3, 1) := by decide +kernel
theorem dX3_forget_12 : decode cX3_forget 12 = .ok (.iload_n 3, 1) := by decide +kernel
theorem dX3_forget_13 : decode cX3_forget 13 = .ok (.iload_n 2, 1) := by decide +kernel
theorem dX3_forget_14 : decode cX3_forget 14 = .ok (.if_icmp .ge 40, 3) := by decide +kernel
theorem dX3_forget_17 : decode cX3_forget 17 = .ok (.aload_n 0, 1) := by decide +kernel
theorem dX3_forget_18 : decode cX3_forget 18 = .ok (.getfield 21, 3) := by decide +kernel
theorem dX3_forget_21 : decode cX3_forget 21 = .ok (.getfield 63, 3) := by decide +kernel
theorem dX3_forget_24 : decode cX3_forget 24 = .ok (.iload_n 1, 1) := by decide +kernel
theorem dX3_forget_25 : decode cX3_forget 25 = .ok (.iaload, 1) := by decide +kernel
theorem dX3_forget_26 : decode cX3_forget 26 = .ok (.aload_n 0, 1) := by decide +kernel
theorem dX3_forget_27 : decode cX3_forget 27 = .ok (.getfield 9, 3) := by decide +kernel
theorem dX3_forget_30 : decode cX3_forget 30 = .ok (.iconst 0, 1) := by decide +kernel
theorem dX3_forget_31 : decode cX3_forget 31 = .ok (.iaload, 1) := by decide +kernel
theorem dX3_forget_32 : decode cX3_forget 32 = .ok (.if_icmp .le 22, 3) := by decide +kernel
theorem dX3_forget_35 : decode cX3_forget 35 = .ok (.aload_n 0, 1) := by decide +kernel
theorem dX3_forget_36 : decode cX3_forget 36 = .ok (.aload_n 0, 1) := by decide +kernel
theorem dX3_forget_37 : decode cX3_forget 37 = .ok (.getfield 21, 3) := by decide +kernel
theorem dX3_forget_40 : decode cX3_forget 40 = .ok (.iload_n 1, 1) := by decide +kernel
theorem dX3_forget_41 : decode cX3_forget 41 = .ok (.invokevirtual 127, 3) := by decide +kernel
theorem dX3_forget_44 : decode cX3_forget 44 = .ok (.iconst 0, 1) := by decide +kernel
theorem dX3_forget_45 : decode cX3_forget 45 = .ok (.invokevirtual 95, 3) := by decide +kernel
theorem dX3_forget_48 : decode cX3_forget 48 = .ok (.iinc 3 1, 3) := by decide +kernel
theorem dX3_forget_51 : decode cX3_forget 51 = .ok (.goto (-39), 3) := by decide +kernel
theorem dX3_forget_54 : decode cX3_forget 54 = .ok (.return_, 1) := by decide +kernel
set_option maxRecDepth 20000 in
theorem ggX3_perform_X3_fetch : GoodIn wsX3_perform wsX3_fetch := goodIn_r _ [11, 1, 12, 13, 14, 15, 10, 16, 17, 18, 19, 20, 21, 22, 23, 24, 6, 25, 26, 27, 28, 29, 30, 31, 32, 33, 34, 35, 36, 37, 38, 39, 40, 41, 42, 43, 44, 45, 46, 47, 48, 49, 50, 51, 52, 53, 54, 55, 56, 57, 58, 59, 60, 61, 62, 63, 64, 65, 66, 67, 68, 69, 70, 71, 72, 73, 74, 75, 76, 77, 78, 79, 80, 81, 82, 83, 84, 85, 86, 102, 103, 104, 105, 106, 107, 112, 113, 114, 115, 116, 117] (by decide +kernel) (by decide +kernel)
set_option maxRecDepth 20000 in
theorem gX3_perform_X3_fetch : GoodIn wsX3_perform (wsV RX3 143 RX3 yX3_fetch wsX3_fetch) := goodIn_app (goodIn_of _ (by decide +kernel)) ggX3_perform_X3_fetch
set_option maxRecDepth 20000 in
theorem ggX3_perform_X3_store : GoodIn wsX3_perform wsX3_store := goodIn_r _ [90, 12, 13, 14, 15, 10, 16, 91, 92, 93, 94, 29, 52, 17, 18, 19, 20, 21, 22, 23, 24, 6, 25, 26, 27, 28, 30, 31, 32, 33, 34, 35, 36, 37, 38, 39, 40, 41, 42, 95, 96, 97, 98, 99, 100, 101, 1, 43, 44, 45, 46, 47, 48, 49, 50, 51, 53, 54, 55, 56, 57, 58, 59, 60, 61, 62, 63, 64, 65, 66, 67, 68, 69, 70, 71, 72, 73, 74, 75, 76, 77, 78, 79, 80, 81, 82, 83, 84, 85, 86, 102, 103, 104, 105, 106, 107, 112, 113, 114, 115, 116, 117] (by decide +kernel) (by decide +kernel)
set_option maxRecDepth 20000 in
theorem gX3_perform_X3_store : GoodIn wsX3_perform (wsV RX3 147 RX3 yX3_store wsX3_store) := goodIn_app (goodIn_of _ (by decide +kernel)) ggX3_perform_X3_store
set_option maxRecDepth 20000 in
theorem ggX3_perform_X3_move : GoodIn wsX3_perform wsX3_move := goodIn_r _ [28, 12, 29, 30, 31, 32, 33, 34, 35, 36, 37, 38, 39, 40, 41, 42, 102, 103, 104, 105, 106, 107, 112, 113, 114, 115] (by decide +kernel) (by decide +kernel)
set_option maxRecDepth 20000 in
theorem gX3_perform_X3_move : GoodIn wsX3_perform (wsV RX3 95 RX3 yX3_move wsX3_move) := goodIn_app (goodIn_of _ (by decide +kernel)) ggX3_perform_X3_move
theorem dX3_perform_0 : decode cX3_perform 0 = .ok (.aload_n 0, 1) := by decide +kernel
theorem dX3_perform_1 : decode cX3_perform 1 = .ok (.getfield 15, 3) := by decide +kernel
theorem dX3_perform_4 : decode cX3_perform 4 = .ok (.iconst 0, 1) := by decide +kernel
theorem dX3_perform_5 : decode cX3_perform 5 = .ok (.iaload, 1) := by decide +kernel
theorem dX3_perform_6 : decode cX3_perform 6 = .ok (.istore_n 2, 1) := by decide +kernel
theorem dX3_perform_7 : decode cX3_perform 7 = .ok (.iconst 0, 1) := by decide +kernel
theorem dX3_perform_8 : decode cX3_perform 8 = .ok (.istore_n 3, 1) := by decide +kernel
theorem dX3_perform_9 : decode cX3_perform 9 = .ok (.iload_n 3, 1) := by decide +kernel
theorem dX3_perform_10 : decode cX3_perform 10 = .ok (.aload_n 1, 1) := by decide +kernel
theorem dX3_perform_11 : decode cX3_perform 11 = .ok (.getfield 131, 3) := by decide +kernel
theorem dX3_perform_14 : decode cX3_perform 14 = .ok (.if_icmp .ge 98, 3) := by decide +kernel
theorem dX3_perform_17 : decode cX3_perform 17 = .ok (.aload_n 1, 1) := by decide +kernel
theorem dX3_perform_18 : decode cX3_perform 18 = .ok (.getfield 137, 3) := by decide +kernel
theorem dX3_perform_21 : decode cX3_perform 21 = .ok (.iload_n 3, 1) := by decide +kernel
theorem dX3_perform_22 : decode cX3_perform 22 = .ok (.iaload, 1) := by decide +kernel
theorem dX3_perform_23 : decode cX3_perform 23 = .ok (.istore 4, 2) := by decide +kernel
theorem dX3_perform_25 : decode cX3_perform 25 = .ok (.aload_n 1, 1) := by decide +kernel
theorem dX3_perform_26 : decode cX3_perform 26 = .ok (.getfield 140, 3) := by decide +kernel
theorem dX3_perform_29 : decode cX3_perform 29 = .ok (.iload_n 3, 1) := by decide +kernel
theorem dX3_perform_30 : decode cX3_perform 30 = .ok (.iaload, 1) := by decide +kernel
theorem dX3_perform_31 : decode cX3_perform 31 = .ok (.lookupswitch 68 #[(103, 25), (112, 35)], 25) := by decide +kernel
theorem dX3_perform_56 : decode cX3_perform 56 = .ok (.aload_n 0, 1) := by decide +kernel
theorem dX3_perform_57 : decode cX3_perform 57 = .ok (.iload 4, 2) := by decide +kernel
theorem dX3_perform_59 : decode cX3_perform 59 = .ok (.invokevirtual 143, 3) := by decide +kernel
theorem dX3_perform_62 : decode cX3_perform 62 = .ok (.pop, 1) := by decide +kernel
theorem dX3_perform_63 : decode cX3_perform 63 = .ok (.goto 43, 3) := by decide +kernel
theorem dX3_perform_66 : decode cX3_perform 66 = .ok (.aload_n 1, 1) := by decide +kernel
theorem dX3_perform_67 : decode cX3_perform 67 = .ok (.getfield 146, 3) := by decide +kernel
theorem dX3_perform_70 : decode cX3_perform 70 = .ok (.iload_n 3, 1) := by decide +kernel
theorem dX3_perform_71 : decode cX3_perform 71 = .ok (.iaload, 1) := by decide +kernel
theorem dX3_perform_72 : decode cX3_perform 72 = .ok (.aload_n 0, 1) := by decide +kernel
theorem dX3_perform_73 : decode cX3_perform 73 = .ok (.getfield 9, 3) := by decide +kernel
theorem dX3_perform_76 : decode cX3_perform 76 = .ok (.iconst 0, 1) := by decide +kernel
theorem dX3_perform_77 : decode cX3_perform 77 = .ok (.iaload, 1) := by decide +kernel
theorem dX3_perform_78 : decode cX3_perform 78 = .ok (.if_icmp .gt 28, 3) := by decide +kernel
theorem dX3_perform_81 : decode cX3_perform 81 = .ok (.aload_n 0, 1) := by decide +kernel
theorem dX3_perform_82 : decode cX3_perform 82 = .ok (.iload 4, 2) := by decide +kernel
theorem dX3_perform_84 : decode cX3_perform 84 = .ok (.iconst 0, 1) := by decide +kernel
theorem dX3_perform_85 : decode cX3_perform 85 = .ok (.aload_n 1, 1) := by decide +kernel
theorem dX3_perform_86 : decode cX3_perform 86 = .ok (.getfield 146, 3) := by decide +kernel
theorem dX3_perform_89 : decode cX3_perform 89 = .ok (.iload_n 3, 1) := by decide +kernel
theorem dX3_perform_90 : decode cX3_perform 90 = .ok (.iaload, 1) := by decide +kernel
theorem dX3_perform_91 : decode cX3_perform 91 = .ok (.iconst 1, 1) := by decide +kernel
theorem dX3_perform_92 : decode cX3_perform 92 = .ok (.invokevirtual 147, 3) := by decide +kernel
theorem dX3_perform_95 : decode cX3_perform 95 = .ok (.pop, 1) := by decide +kernel
theorem dX3_perform_96 : decode cX3_perform 96 = .ok (.goto 10, 3) := by decide +kernel
theorem dX3_perform_99 : decode cX3_perform 99 = .ok (.aload_n 0, 1) := by decide +kernel
theorem dX3_perform_100 : decode cX3_perform 100 = .ok (.iload 4, 2) := by decide +kernel
theorem dX3_perform_102 : decode cX3_perform 102 = .ok (.iconst 0, 1) := by decide +kernel
theorem dX3_perform_103 : decode cX3_perform 103 = .ok (.invokevirtual 95, 3) := by decide +kernel
theorem dX3_perform_106 : decode cX3_perform 106 = .ok (.iinc 3 1, 3) := by decide +kernel
theorem dX3_perform_109 : decode cX3_perform 109 = .ok (.goto (-100), 3) := by decide +kernel
theorem dX3_perform_112 : decode cX3_perform 112 = .ok (.aload_n 0, 1) := by decide +kernel
theorem dX3_perform_113 : decode cX3_perform 113 = .ok (.getfield 15, 3) := by decide +kernel
theorem dX3_perform_116 : decode cX3_perform 116 = .ok (.iconst 0, 1) := by decide +kernel
theorem dX3_perform_117 : decode cX3_perform 117 = .ok (.iaload, 1) := by decide +kernel
theorem dX3_perform_118 : decode cX3_perform 118 = .ok (.iload_n 2, 1) := by decide +kernel
theorem dX3_perform_119 : decode cX3_perform 119 = .ok (.isub, 1) := by decide +kernel
theorem dX3_perform_120 : decode cX3_perform 120 = .ok (.ireturn, 1) := by decide +kernel
theorem dX4_init_0 : decode cX4_init 0 = .ok (.aload_n 0, 1) := by decide +kernel
theorem dX4_init_1 : decode cX4_init 1 = .ok (.invokespecial 3, 3) := by decide +kernel
theorem dX4_init_4 : decode cX4_init 4 = .ok (.aload_n 0, 1) := by decide +kernel
theorem dX4_init_5 : decode cX4_init 5 = .ok (.bipush 60, 2) := by decide +kernel
theorem dX4_init_7 : decode cX4_init 7 = .ok (.newarray .long, 2) := by decide +kernel
theorem dX4_init_9 : decode cX4_init 9 = .ok (.putfield 9, 3) := by decide +kernel
theorem dX4_init_12 : decode cX4_init 12 = .ok (.aload_n 0, 1) := by decide +kernel
theorem dX4_init_13 : decode cX4_init 13 = .ok (.iconst (-1), 1) := by decide +kernel
theorem dX4_init_14 : decode cX4_init 14 = .ok (.putfield 15, 3) := by decide +kernel
theorem dX4_init_17 : decode cX4_init 17 = .ok (.return_, 1) := by decide +kernel
theorem dX4_become_0 : decode cX4_become 0 = .ok (.iconst 0, 1) := by decide +kernel
theorem dX4_become_1 : decode cX4_become 1 = .ok (.istore_n 3, 1) := by decide +kernel
theorem dX4_become_2 : decode cX4_become 2 = .ok (.iload_n 3, 1) := by decide +kernel
theorem dX4_become_3 : decode cX4_become 3 = .ok (.bipush 60, 2) := by decide +kernel
theorem dX4_become_5 : decode cX4_become 5 = .ok (.if_icmp .ge 16, 3) := by decide +kernel
theorem dX4_become_8 : decode cX4_become 8 = .ok (.aload_n 0, 1) := by decide +kernel
theorem dX4_become_9 : decode cX4_become 9 = .ok (.getfield 9, 3) := by decide +kernel
theorem dX4_become_12 : decode cX4_become 12 = .ok (.iload_n 3, 1) := by decide +kernel
theorem dX4_become_13 : decode cX4_become 13 = .ok (.lconst 0, 1) := by decide +kernel
theorem dX4_become_14 : decode cX4_become 14 = .ok (.lastore, 1) := by decide +kernel
theorem dX4_become_15 : decode cX4_become 15 = .ok (.iinc 3 1, 3) := by decide +kernel
theorem dX4_become_18 : decode cX4_become 18 = .ok (.goto (-16), 3) := by decide +kernel
theorem dX4_become_21 : decode cX4_become 21 = .ok (.aload_n 0, 1) := by decide +kernel
theorem dX4_become_22 : decode cX4_become 22 = .ok (.iload_n 1, 1) := by decide +kernel
theorem dX4_become_23 : decode cX4_become 23 = .ok (.putfield 15, 3) := by decide +kernel
theorem dX4_become_26 : decode cX4_become 26 = .ok (.aload_n 0, 1) := by decide +kernel
theorem dX4_become_27 : decode cX4_become 27 = .ok (.iload_n 2, 1) := by decide +kernel
theorem dX4_become_28 : decode cX4_become 28 = .ok (.putfield 19, 3) := by decide +kernel
theorem dX4_become_31 : decode cX4_become 31 = .ok (.return_, 1) := by decide +kernel
theorem dX4_asItem_0 : decode cX4_asItem 0 = .ok (.aload_n 0, 1) := by decide +kernel
theorem dX4_asItem_1 : decode cX4_asItem 1 = .ok (.getfield 15, 3) := by decide +kernel
theorem dX4_asItem_4 : decode cX4_asItem 4 = .ok (.tableswitch 48 0 3 #[32, 37, 42, 46], 32) := by decide +kernel
theorem dX4_asItem_36 : decode cX4_asItem 36 = .ok (.lload_n 1, 1) := by decide +kernel
theorem dX4_asItem_37 : decode cX4_asItem 37 = .ok (.l2i, 1) := by decide +kernel
theorem dX4_asItem_38 : decode cX4_asItem 38 = .ok (.i2b, 1) := by decide +kernel
theorem dX4_asItem_39 : decode cX4_asItem 39 = .ok (.i2l, 1) := by decide +kernel
theorem dX4_asItem_40 : decode cX4_asItem 40 = .ok (.lreturn, 1) := by decide +kernel
theorem dX4_asItem_41 : decode cX4_asItem 41 = .ok (.lload_n 1, 1) := by decide +kernel
theorem dX4_asItem_42 : decode cX4_asItem 42 = .ok (.l2i, 1) := by decide +kernel
theorem dX4_asItem_43 : decode cX4_asItem 43 = .ok (.i2s, 1) := by decide +kernel
theorem dX4_asItem_44 : decode cX4_asItem 44 = .ok (.i2l, 1) := by decide +kernel
theorem dX4_asItem_45 : decode cX4_asItem 45 = .ok (.lreturn, 1) := by decide +kernel
theorem dX4_asItem_46 : decode cX4_asItem 46 = .ok (.lload_n 1, 1) := by decide +kernel
theorem dX4_asItem_47 : decode cX4_asItem 47 = .ok (.l2i, 1) := by decide +kernel
theorem dX4_asItem_48 : decode cX4_asItem 48 = .ok (.i2l, 1) := by decide +kernel
theorem dX4_asItem_49 : decode cX4_asItem 49 = .ok (.lreturn, 1) := by decide +kernel
theorem dX4_asItem_50 : decode cX4_asItem 50 = .ok (.lload_n 1, 1) := by decide +kernel
theorem dX4_asItem_51 : decode cX4_asItem 51 = .ok (.lreturn, 1) := by decide +kernel
theorem dX4_asItem_52 : decode cX4_asItem 52 = .ok (.lload_n 1, 1) := by decide +kernel
theorem dX4_asItem_53 : decode cX4_asItem 53 = .ok (.lconst 0, 1) := by decide +kernel
theorem dX4_asItem_54 : decode cX4_asItem 54 = .ok (.lcmp, 1) := by decide +kernel
theorem dX4_asItem_55 : decode cX4_asItem 55 = .ok (.ifCond .eq 7, 3) := by decide +kernel
theorem dX4_asItem_58 : decode cX4_asItem 58 = .ok (.lconst 1, 1) := by decide +kernel
theorem dX4_asItem_59 : decode cX4_asItem 59 = .ok (.goto 4, 3) := by decide +kernel
theorem dX4_asItem_62 : decode cX4_asItem 62 = .ok (.lconst 0, 1) := by decide +kernel
theorem dX4_asItem_63 : decode cX4_asItem 63 = .ok (.lreturn, 1) := by decide +kernel
theorem dX4_hasRange_0 : decode cX4_hasRange 0 = .ok (.iload_n 1, 1) := by decide +kernel
theorem dX4_hasRange_1 : decode cX4_hasRange 1 = .ok (.ifCond .lt 29, 3) := by decide +kernel
theorem dX4_hasRange_4 : decode cX4_hasRange 4 = .ok (.iload_n 2, 1) := by decide +kernel
theorem dX4_hasRange_5 : decode cX4_hasRange 5 = .ok (.ifCond .lt 25, 3) := by decide +kernel
theorem dX4_hasRange_8 : decode cX4_hasRange 8 = .ok (.iload_n 2, 1) := by decide +kernel
theorem dX4_hasRange_9 : decode cX4_hasRange 9 = .ok (.aload_n 0, 1) := by decide +kernel
theorem dX4_hasRange_10 : decode cX4_hasRange 10 = .ok (.getfield 19, 3) := by decide +kernel
theorem dX4_hasRange_13 : decode cX4_hasRange 13 = .ok (.if_icmp .gt 17, 3) := by decide +kernel
theorem dX4_hasRange_16 : decode cX4_hasRange 16 = .ok (.iload_n 1, 1) := by decide +kernel
theorem dX4_hasRange_17 : decode cX4_hasRange 17 = .ok (.aload_n 0, 1) := by decide +kernel
theorem dX4_hasRange_18 : decode cX4_hasRange 18 = .ok (.getfield 19, 3) := by decide +kernel
theorem dX4_hasRange_21 : decode cX4_hasRange 21 = .ok (.iload_n 2, 1) := by decide +kernel
theorem dX4_hasRange_22 : decode cX4_hasRange 22 = .ok (.isub, 1) := by decide +kernel
theorem dX4_hasRange_23 : decode cX4_hasRange 23 = .ok (.if_icmp .gt 7, 3) := by decide +kernel
theorem dX4_hasRange_26 : decode cX4_hasRange 26 = .ok (.iconst 1, 1) := by decide +kernel
theorem dX4_hasRange_27 : decode cX4_hasRange 27 = .ok (.goto 4, 3) := by decide +kernel
theorem dX4_hasRange_30 : decode cX4_hasRange 30 = .ok (.iconst 0, 1) := by decide +kernel
theorem dX4_hasRange_31 : decode cX4_hasRange 31 = .ok (.ireturn, 1) := by decide +kernel
theorem dX5_init_0 : decode cX5_init 0 = .ok (.aload_n 0, 1) := by decide +kernel
theorem dX5_init_1 : decode cX5_init 1 = .ok (.invokespecial 3, 3) := by decide +kernel
theorem dX5_init_4 : decode cX5_init 4 = .ok (.aload_n 0, 1) := by decide +kernel
theorem dX5_init_5 : decode cX5_init 5 = .ok (.bipush 100, 2) := by decide +kernel
theorem dX5_init_7 : decode cX5_init 7 = .ok (.newarray .int, 2) := by decide +kernel
theorem dX5_init_9 : decode cX5_init 9 = .ok (.putfield 9, 3) := by decide +kernel
theorem dX5_init_12 : decode cX5_init 12 = .ok (.return_, 1) := by decide +kernel
set_option maxRecDepth 20000 in
theorem ggX5_readInto_X5_readClause : GoodIn wsX5_readInto wsX5_readClause := goodIn_r _ [8, 1, 9, 10, 11, 12, 13, 7, 14, 3, 15, 16, 17, 18, 19, 20, 21, 22, 23, 24, 25, 26, 27, 28, 29, 30, 31] (by decide +kernel) (by decide +kernel)
set_option maxRecDepth 20000 in
theorem gX5_readInto_X5_readClause : GoodIn wsX5_readInto (wsV RX5 19 RX5 yX5_readClause wsX5_readClause) := goodIn_app (goodIn_of _ (by decide +kernel)) ggX5_readInto_X5_readClause
set_option maxRecDepth 20000 in
theorem ggX5_readInto_X5_skip : GoodIn wsX5_readInto wsX5_skip := goodIn_r _ [19, 1, 11, 12, 13, 7, 14, 3, 15, 25, 26, 27] (by decide +kernel) (by decide +kernel)
set_option maxRecDepth 20000 in
theorem gX5_readInto_X5_skip : GoodIn wsX5_readInto (wsV RX5 31 RX5 yX5_skip wsX5_skip) := goodIn_app (goodIn_of _ (by decide +kernel)) ggX5_readInto_X5_skip
theorem dX5_readInto_0 : decode cX5_readInto 0 = .ok (.aload_n 0, 1) := by decide +kernel
theorem dX5_readInto_1 : decode cX5_readInto 1 = .ok (.iconst 0, 1) := by decide +kernel
theorem dX5_readInto_2 : decode cX5_readInto 2 = .ok (.putfield 15, 3) := by decide +kernel
theorem dX5_readInto_5 : decode cX5_readInto 5 = .ok (.iconst 0, 1) := by decide +kernel
theorem dX5_readInto_6 : decode cX5_readInto 6 = .ok (.istore_n 2, 1) := by decide +kernel
theorem dX5_readInto_7 : decode cX5_readInto 7 = .ok (.iload_n 2, 1) := by decide +kernel
theorem dX5_readInto_8 : decode cX5_readInto 8 = .ok (.bipush 20, 2) := by decide +kernel
theorem dX5_readInto_10 : decode cX5_readInto 10 = .ok (.if_icmp .ge 66, 3) := by decide +kernel
theorem dX5_readInto_13 : decode cX5_readInto 13 = .ok (.aload_n 0, 1) := by decide +kernel
theorem dX5_readInto_14 : decode cX5_readInto 14 = .ok (.aload_n 1, 1) := by decide +kernel
theorem dX5_readInto_15 : decode cX5_readInto 15 = .ok (.iload_n 2, 1) := by decide +kernel
theorem dX5_readInto_16 : decode cX5_readInto 16 = .ok (.invokevirtual 19, 3) := by decide +kernel
theorem dX5_readInto_19 : decode cX5_readInto 19 = .ok (.ifCond .ne 8, 3) := by decide +kernel
theorem dX5_readInto_22 : decode cX5_readInto 22 = .ok (.aload_n 0, 1) := by decide +kernel
theorem dX5_readInto_23 : decode cX5_readInto 23 = .ok (.getfield 15, 3) := by decide +kernel
theorem dX5_readInto_26 : decode cX5_readInto 26 = .ok (.ireturn, 1) := by decide +kernel
theorem dX5_readInto_27 : decode cX5_readInto 27 = .ok (.aload_n 1, 1) := by decide +kernel
theorem dX5_readInto_28 : decode cX5_readInto 28 = .ok (.iload_n 2, 1) := by decide +kernel
theorem dX5_readInto_29 : decode cX5_readInto 29 = .ok (.iconst 1, 1) := by decide +kernel
theorem dX5_readInto_30 : decode cX5_readInto 30 = .ok (.iadd, 1) := by decide +kernel
theorem dX5_readInto_31 : decode cX5_readInto 31 = .ok (.putfield 23, 3) := by decide +kernel
theorem dX5_readInto_34 : decode cX5_readInto 34 = .ok (.aload_n 0, 1) := by decide +kernel
theorem dX5_readInto_35 : decode cX5_readInto 35 = .ok (.getfield 15, 3) := by decide +kernel
theorem dX5_readInto_38 : decode cX5_readInto 38 = .ok (.aload_n 0, 1) := by decide +kernel
theorem dX5_readInto_39 : decode cX5_readInto 39 = .ok (.getfield 28, 3) := by decide +kernel
theorem dX5_readInto_42 : decode cX5_readInto 42 = .ok (.if_icmp .lt 6, 3) := by decide +kernel
theorem dX5_readInto_45 : decode cX5_readInto 45 = .ok (.bipush (-5), 2) := by decide +kernel
theorem dX5_readInto_47 : decode cX5_readInto 47 = .ok (.ireturn, 1) := by decide +kernel
theorem dX5_readInto_48 : decode cX5_readInto 48 = .ok (.iload_n 2, 1) := by decide +kernel
theorem dX5_readInto_49 : decode cX5_readInto 49 = .ok (.bipush 19, 2) := by decide +kernel
theorem dX5_readInto_51 : decode cX5_readInto 51 = .ok (.if_icmp .eq 14, 3) := by decide +kernel
theorem dX5_readInto_54 : decode cX5_readInto 54 = .ok (.aload_n 0, 1) := by decide +kernel
theorem dX5_readInto_55 : decode cX5_readInto 55 = .ok (.bipush 59, 2) := by decide +kernel
theorem dX5_readInto_57 : decode cX5_readInto 57 = .ok (.bipush 59, 2) := by decide +kernel
theorem dX5_readInto_59 : decode cX5_readInto 59 = .ok (.invokevirtual 31, 3) := by decide +kernel
theorem dX5_readInto_62 : decode cX5_readInto 62 = .ok (.ifCond .ne 8, 3) := by decide +kernel
theorem dX5_readInto_65 : decode cX5_readInto 65 = .ok (.aload_n 0, 1) := by decide +kernel
theorem dX5_readInto_66 : decode cX5_readInto 66 = .ok (.getfield 15, 3) := by decide +kernel
theorem dX5_readInto_69 : decode cX5_readInto 69 = .ok (.ireturn, 1) := by decide +kernel
theorem dX5_readInto_70 : decode cX5_readInto 70 = .ok (.iinc 2 1, 3) := by decide +kernel
theorem dX5_readInto_73 : decode cX5_readInto 73 = .ok (.goto (-66), 3) := by decide +kernel
theorem dX5_readInto_76 : decode cX5_readInto 76 = .ok (.aload_n 0, 1) := by decide +kernel
theorem dX5_readInto_77 : decode cX5_readInto 77 = .ok (.getfield 15, 3) := by decide +kernel
theorem dX5_readInto_80 : decode cX5_readInto 80 = .ok (.ireturn, 1) := by decide +kernel
set_option maxRecDepth 20000 in
theorem ggX5_readClause_X5_next : GoodIn wsX5_readClause wsX5_next := goodIn_r _ [8, 1, 9, 10, 20, 21, 22] (by decide +kernel) (by decide +kernel)
set_option maxRecDepth 20000 in
theorem gX5_readClause_X5_next : GoodIn wsX5_readClause (wsV RX5 35 RX5 yX5_next wsX5_next) := goodIn_app (goodIn_of _ (by decide +kernel)) ggX5_readClause_X5_next
set_option maxRecDepth 20000 in
theorem ggX5_readClause_X5_skip : GoodIn wsX5_readClause wsX5_skip := goodIn_r _ [14, 1, 4, 5, 6, 7, 8, 9, 10, 20, 21, 22] (by decide +kernel) (by decide +kernel)
set_option maxRecDepth 20000 in
theorem gX5_readClause_X5_skip : GoodIn wsX5_readClause (wsV RX5 31 RX5 yX5_skip wsX5_skip) := goodIn_app (goodIn_of _ (by decide +kernel)) ggX5_readClause_X5_skip
set_option maxRecDepth 20000 in
theorem ggX5_readClause_X5_readWeight : GoodIn wsX5_readClause wsX5_readWeight := goodIn_r _ [18, 19, 11, 12, 13, 7, 14, 1, 4, 5, 6, 8, 9, 10, 23, 24, 25, 26, 20, 21, 22] (by decide +kernel) (by decide +kernel)
set_option maxRecDepth 20000 in
theorem gX5_readClause_X5_readWeight : GoodIn wsX5_readClause (wsV RX5 45 RX5 yX5_readWeight wsX5_readWeight) := goodIn_app (goodIn_of _ (by decide +kernel)) ggX5_readClause_X5_readWeight
theorem dX5_readClause_0 : decode cX5_readClause 0 = .ok (.aload_n 0, 1) := by decide +kernel
theorem dX5_readClause_1 : decode cX5_readClause 1 = .ok (.invokevirtual 35, 3) := by decide +kernel
theorem dX5_readClause_4 : decode cX5_readClause 4 = .ok (.istore_n 3, 1) := by decide +kernel
theorem dX5_readClause_5 : decode cX5_readClause 5 = .ok (.iload_n 3, 1) := by decide +kernel
end
section
theorem dX5_readClause_6 : decode cX5_readClause 6 = .ok (.bipush 103, 2) := by decide +kernel
theorem dX5_readClause_8 : decode cX5_readClause 8 = .ok (.if_icmp .eq 17, 3) := by decide +kernel
theorem dX5_readClause_11 : decode cX5_readClause 11 = .ok (.iload_n 3, 1) := by decide +kernel
theorem dX5_readClause_12 : decode cX5_readClause 12 = .ok (.bipush 112, 2) := by decide +kernel
theorem dX5_readClause_14 : decode cX5_readClause 14 = .ok (.if_icmp .eq 11, 3) := by decide +kernel
theorem dX5_readClause_17 : decode cX5_readClause 17 = .ok (.iload_n 3, 1) := by decide +kernel
theorem dX5_readClause_18 : decode cX5_readClause 18 = .ok (.bipush 120, 2) := by decide +kernel
theorem dX5_readClause_20 : decode cX5_readClause 20 = .ok (.if_icmp .eq 5, 3) := by decide +kernel
theorem dX5_readClause_23 : decode cX5_readClause 23 = .ok (.iconst 0, 1) := by decide +kernel
theorem dX5_readClause_24 : decode cX5_readClause 24 = .ok (.ireturn, 1) := by decide +kernel
theorem dX5_readClause_25 : decode cX5_readClause 25 = .ok (.aload_n 0, 1) := by decide +kernel
theorem dX5_readClause_26 : decode cX5_readClause 26 = .ok (.dup, 1) := by decide +kernel
theorem dX5_readClause_27 : decode cX5_readClause 27 = .ok (.getfield 15, 3) := by decide +kernel
theorem dX5_readClause_30 : decode cX5_readClause 30 = .ok (.iconst 1, 1) := by decide +kernel
theorem dX5_readClause_31 : decode cX5_readClause 31 = .ok (.iadd, 1) := by decide +kernel
theorem dX5_readClause_32 : decode cX5_readClause 32 = .ok (.putfield 15, 3) := by decide +kernel
theorem dX5_readClause_35 : decode cX5_readClause 35 = .ok (.aload_n 0, 1) := by decide +kernel
theorem dX5_readClause_36 : decode cX5_readClause 36 = .ok (.invokevirtual 35, 3) := by decide +kernel
theorem dX5_readClause_39 : decode cX5_readClause 39 = .ok (.bipush 97, 2) := by decide +kernel
theorem dX5_readClause_41 : decode cX5_readClause 41 = .ok (.isub, 1) := by decide +kernel
theorem dX5_readClause_42 : decode cX5_readClause 42 = .ok (.istore 4, 2) := by decide +kernel
theorem dX5_readClause_44 : decode cX5_readClause 44 = .ok (.aload_n 0, 1) := by decide +kernel
theorem dX5_readClause_45 : decode cX5_readClause 45 = .ok (.bipush 97, 2) := by decide +kernel
theorem dX5_readClause_47 : decode cX5_readClause 47 = .ok (.bipush 100, 2) := by decide +kernel
theorem dX5_readClause_49 : decode cX5_readClause 49 = .ok (.invokevirtual 31, 3) := by decide +kernel
theorem dX5_readClause_52 : decode cX5_readClause 52 = .ok (.ifCond .ne 5, 3) := by decide +kernel
theorem dX5_readClause_55 : decode cX5_readClause 55 = .ok (.iconst 0, 1) := by decide +kernel
theorem dX5_readClause_56 : decode cX5_readClause 56 = .ok (.ireturn, 1) := by decide +kernel
theorem dX5_readClause_57 : decode cX5_readClause 57 = .ok (.aload_n 0, 1) := by decide +kernel
theorem dX5_readClause_58 : decode cX5_readClause 58 = .ok (.invokevirtual 35, 3) := by decide +kernel
theorem dX5_readClause_61 : decode cX5_readClause 61 = .ok (.bipush 48, 2) := by decide +kernel
theorem dX5_readClause_63 : decode cX5_readClause 63 = .ok (.isub, 1) := by decide +kernel
theorem dX5_readClause_64 : decode cX5_readClause 64 = .ok (.istore 5, 2) := by decide +kernel
theorem dX5_readClause_66 : decode cX5_readClause 66 = .ok (.aload_n 0, 1) := by decide +kernel
theorem dX5_readClause_67 : decode cX5_readClause 67 = .ok (.bipush 48, 2) := by decide +kernel
theorem dX5_readClause_69 : decode cX5_readClause 69 = .ok (.bipush 57, 2) := by decide +kernel
theorem dX5_readClause_71 : decode cX5_readClause 71 = .ok (.invokevirtual 31, 3) := by decide +kernel
theorem dX5_readClause_74 : decode cX5_readClause 74 = .ok (.ifCond .ne 5, 3) := by decide +kernel
theorem dX5_readClause_77 : decode cX5_readClause 77 = .ok (.iconst 0, 1) := by decide +kernel
theorem dX5_readClause_78 : decode cX5_readClause 78 = .ok (.ireturn, 1) := by decide +kernel
theorem dX5_readClause_79 : decode cX5_readClause 79 = .ok (.aload_n 0, 1) := by decide +kernel
theorem dX5_readClause_80 : decode cX5_readClause 80 = .ok (.invokevirtual 35, 3) := by decide +kernel
theorem dX5_readClause_83 : decode cX5_readClause 83 = .ok (.bipush 48, 2) := by decide +kernel
theorem dX5_readClause_85 : decode cX5_readClause 85 = .ok (.isub, 1) := by decide +kernel
theorem dX5_readClause_86 : decode cX5_readClause 86 = .ok (.istore 6, 2) := by decide +kernel
theorem dX5_readClause_88 : decode cX5_readClause 88 = .ok (.aload_n 0, 1) := by decide +kernel
theorem dX5_readClause_89 : decode cX5_readClause 89 = .ok (.bipush 48, 2) := by decide +kernel
theorem dX5_readClause_91 : decode cX5_readClause 91 = .ok (.bipush 57, 2) := by decide +kernel
theorem dX5_readClause_93 : decode cX5_readClause 93 = .ok (.invokevirtual 31, 3) := by decide +kernel
theorem dX5_readClause_96 : decode cX5_readClause 96 = .ok (.ifCond .eq 13, 3) := by decide +kernel
theorem dX5_readClause_99 : decode cX5_readClause 99 = .ok (.iload 5, 2) := by decide +kernel
theorem dX5_readClause_101 : decode cX5_readClause 101 = .ok (.bipush 10, 2) := by decide +kernel
theorem dX5_readClause_103 : decode cX5_readClause 103 = .ok (.imul, 1) := by decide +kernel
theorem dX5_readClause_104 : decode cX5_readClause 104 = .ok (.iload 6, 2) := by decide +kernel
theorem dX5_readClause_106 : decode cX5_readClause 106 = .ok (.iadd, 1) := by decide +kernel
theorem dX5_readClause_107 : decode cX5_readClause 107 = .ok (.istore 5, 2) := by decide +kernel
theorem dX5_readClause_109 : decode cX5_readClause 109 = .ok (.aload_n 1, 1) := by decide +kernel
theorem dX5_readClause_110 : decode cX5_readClause 110 = .ok (.getfield 39, 3) := by decide +kernel
theorem dX5_readClause_113 : decode cX5_readClause 113 = .ok (.iload_n 2, 1) := by decide +kernel
theorem dX5_readClause_114 : decode cX5_readClause 114 = .ok (.iload_n 3, 1) := by decide +kernel
theorem dX5_readClause_115 : decode cX5_readClause 115 = .ok (.iastore, 1) := by decide +kernel
theorem dX5_readClause_116 : decode cX5_readClause 116 = .ok (.aload_n 1, 1) := by decide +kernel
theorem dX5_readClause_117 : decode cX5_readClause 117 = .ok (.getfield 42, 3) := by decide +kernel
theorem dX5_readClause_120 : decode cX5_readClause 120 = .ok (.iload_n 2, 1) := by decide +kernel
theorem dX5_readClause_121 : decode cX5_readClause 121 = .ok (.iload 4, 2) := by decide +kernel
theorem dX5_readClause_123 : decode cX5_readClause 123 = .ok (.bipush 100, 2) := by decide +kernel
theorem dX5_readClause_125 : decode cX5_readClause 125 = .ok (.imul, 1) := by decide +kernel
theorem dX5_readClause_126 : decode cX5_readClause 126 = .ok (.iload 5, 2) := by decide +kernel
theorem dX5_readClause_128 : decode cX5_readClause 128 = .ok (.iadd, 1) := by decide +kernel
theorem dX5_readClause_129 : decode cX5_readClause 129 = .ok (.iastore, 1) := by decide +kernel
theorem dX5_readClause_130 : decode cX5_readClause 130 = .ok (.iload_n 3, 1) := by decide +kernel
theorem dX5_readClause_131 : decode cX5_readClause 131 = .ok (.bipush 112, 2) := by decide +kernel
theorem dX5_readClause_133 : decode cX5_readClause 133 = .ok (.if_icmp .ne 12, 3) := by decide +kernel
theorem dX5_readClause_136 : decode cX5_readClause 136 = .ok (.aload_n 0, 1) := by decide +kernel
theorem dX5_readClause_137 : decode cX5_readClause 137 = .ok (.aload_n 1, 1) := by decide +kernel
theorem dX5_readClause_138 : decode cX5_readClause 138 = .ok (.iload_n 2, 1) := by decide +kernel
theorem dX5_readClause_139 : decode cX5_readClause 139 = .ok (.invokevirtual 45, 3) := by decide +kernel
theorem dX5_readClause_142 : decode cX5_readClause 142 = .ok (.ifCond .eq 7, 3) := by decide +kernel
theorem dX5_readClause_145 : decode cX5_readClause 145 = .ok (.iconst 1, 1) := by decide +kernel
theorem dX5_readClause_146 : decode cX5_readClause 146 = .ok (.goto 4, 3) := by decide +kernel
theorem dX5_readClause_149 : decode cX5_readClause 149 = .ok (.iconst 0, 1) := by decide +kernel
theorem dX5_readClause_150 : decode cX5_readClause 150 = .ok (.ireturn, 1) := by decide +kernel
set_option maxRecDepth 20000 in
theorem ggX5_readWeight_X5_skip : GoodIn wsX5_readWeight wsX5_skip := goodIn_r _ [6, 7, 8, 9, 10, 5, 11, 12, 13, 18, 19, 20] (by decide +kernel) (by decide +kernel)
set_option maxRecDepth 20000 in
theorem gX5_readWeight_X5_skip : GoodIn wsX5_readWeight (wsV RX5 31 RX5 yX5_skip wsX5_skip) := goodIn_app (goodIn_of _ (by decide +kernel)) ggX5_readWeight_X5_skip
set_option maxRecDepth 20000 in
theorem ggX5_readWeight_X5_next : GoodIn wsX5_readWeight wsX5_next := goodIn_r _ [11, 7, 12, 13, 18, 19, 20] (by decide +kernel) (by decide +kernel)
set_option maxRecDepth 20000 in
theorem gX5_readWeight_X5_next : GoodIn wsX5_readWeight (wsV RX5 35 RX5 yX5_next wsX5_next) := goodIn_app (goodIn_of _ (by decide +kernel)) ggX5_readWeight_X5_next
theorem dX5_readWeight_0 : decode cX5_readWeight 0 = .ok (.aload_n 0, 1) := by decide +kernel
theorem dX5_readWeight_1 : decode cX5_readWeight 1 = .ok (.bipush 61, 2) := by decide +kernel
theorem dX5_readWeight_3 : decode cX5_readWeight 3 = .ok (.bipush 61, 2) := by decide +kernel
theorem dX5_readWeight_5 : decode cX5_readWeight 5 = .ok (.invokevirtual 31, 3) := by decide +kernel
theorem dX5_readWeight_8 : decode cX5_readWeight 8 = .ok (.ifCond .ne 5, 3) := by decide +kernel
theorem dX5_readWeight_11 : decode cX5_readWeight 11 = .ok (.iconst 0, 1) := by decide +kernel
theorem dX5_readWeight_12 : decode cX5_readWeight 12 = .ok (.ireturn, 1) := by decide +kernel
theorem dX5_readWeight_13 : decode cX5_readWeight 13 = .ok (.aload_n 1, 1) := by decide +kernel
theorem dX5_readWeight_14 : decode cX5_readWeight 14 = .ok (.getfield 48, 3) := by decide +kernel
theorem dX5_readWeight_17 : decode cX5_readWeight 17 = .ok (.iload_n 2, 1) := by decide +kernel
theorem dX5_readWeight_18 : decode cX5_readWeight 18 = .ok (.aload_n 0, 1) := by decide +kernel
theorem dX5_readWeight_19 : decode cX5_readWeight 19 = .ok (.invokevirtual 35, 3) := by decide +kernel
theorem dX5_readWeight_22 : decode cX5_readWeight 22 = .ok (.bipush 48, 2) := by decide +kernel
theorem dX5_readWeight_24 : decode cX5_readWeight 24 = .ok (.isub, 1) := by decide +kernel
theorem dX5_readWeight_25 : decode cX5_readWeight 25 = .ok (.iastore, 1) := by decide +kernel
theorem dX5_readWeight_26 : decode cX5_readWeight 26 = .ok (.aload_n 0, 1) := by decide +kernel
theorem dX5_readWeight_27 : decode cX5_readWeight 27 = .ok (.bipush 49, 2) := by decide +kernel
theorem dX5_readWeight_29 : decode cX5_readWeight 29 = .ok (.bipush 57, 2) := by decide +kernel
theorem dX5_readWeight_31 : decode cX5_readWeight 31 = .ok (.invokevirtual 31, 3) := by decide +kernel
theorem dX5_readWeight_34 : decode cX5_readWeight 34 = .ok (.ireturn, 1) := by decide +kernel
set_option maxRecDepth 20000 in
theorem ggX5_skip_X5_next : GoodIn wsX5_skip wsX5_next := goodIn_r _ [6, 1, 7, 8, 9, 10, 11] (by decide +kernel) (by decide +kernel)
set_option maxRecDepth 20000 in
theorem gX5_skip_X5_next : GoodIn wsX5_skip (wsV RX5 35 RX5 yX5_next wsX5_next) := goodIn_app (goodIn_of _ (by decide +kernel)) ggX5_skip_X5_next
theorem dX5_skip_0 : decode cX5_skip 0 = .ok (.aload_n 0, 1) := by decide +kernel
theorem dX5_skip_1 : decode cX5_skip 1 = .ok (.invokevirtual 35, 3) := by decide +kernel
theorem dX5_skip_4 : decode cX5_skip 4 = .ok (.istore_n 3, 1) := by decide +kernel
theorem dX5_skip_5 : decode cX5_skip 5 = .ok (.iload_n 3, 1) := by decide +kernel
theorem dX5_skip_6 : decode cX5_skip 6 = .ok (.iload_n 1, 1) := by decide +kernel
theorem dX5_skip_7 : decode cX5_skip 7 = .ok (.if_icmp .lt 8, 3) := by decide +kernel
theorem dX5_skip_10 : decode cX5_skip 10 = .ok (.iload_n 3, 1) := by decide +kernel
theorem dX5_skip_11 : decode cX5_skip 11 = .ok (.iload_n 2, 1) := by decide +kernel
theorem dX5_skip_12 : decode cX5_skip 12 = .ok (.if_icmp .le 5, 3) := by decide +kernel
theorem dX5_skip_15 : decode cX5_skip 15 = .ok (.iconst 0, 1) := by decide +kernel
theorem dX5_skip_16 : decode cX5_skip 16 = .ok (.ireturn, 1) := by decide +kernel
theorem dX5_skip_17 : decode cX5_skip 17 = .ok (.aload_n 0, 1) := by decide +kernel
theorem dX5_skip_18 : decode cX5_skip 18 = .ok (.dup, 1) := by decide +kernel
theorem dX5_skip_19 : decode cX5_skip 19 = .ok (.getfield 15, 3) := by decide +kernel
theorem dX5_skip_22 : decode cX5_skip 22 = .ok (.iconst 1, 1) := by decide +kernel
theorem dX5_skip_23 : decode cX5_skip 23 = .ok (.iadd, 1) := by decide +kernel
theorem dX5_skip_24 : decode cX5_skip 24 = .ok (.putfield 15, 3) := by decide +kernel
theorem dX5_skip_27 : decode cX5_skip 27 = .ok (.iconst 1, 1) := by decide +kernel
theorem dX5_skip_28 : decode cX5_skip 28 = .ok (.ireturn, 1) := by decide +kernel
theorem dX5_next_0 : decode cX5_next 0 = .ok (.aload_n 0, 1) := by decide +kernel
theorem dX5_next_1 : decode cX5_next 1 = .ok (.getfield 15, 3) := by decide +kernel
theorem dX5_next_4 : decode cX5_next 4 = .ok (.aload_n 0, 1) := by decide +kernel
theorem dX5_next_5 : decode cX5_next 5 = .ok (.getfield 28, 3) := by decide +kernel
theorem dX5_next_8 : decode cX5_next 8 = .ok (.if_icmp .ge 15, 3) := by decide +kernel
theorem dX5_next_11 : decode cX5_next 11 = .ok (.aload_n 0, 1) := by decide +kernel
theorem dX5_next_12 : decode cX5_next 12 = .ok (.getfield 9, 3) := by decide +kernel
theorem dX5_next_15 : decode cX5_next 15 = .ok (.aload_n 0, 1) := by decide +kernel
theorem dX5_next_16 : decode cX5_next 16 = .ok (.getfield 15, 3) := by decide +kernel
theorem dX5_next_19 : decode cX5_next 19 = .ok (.iaload, 1) := by decide +kernel
theorem dX5_next_20 : decode cX5_next 20 = .ok (.goto 5, 3) := by decide +kernel
theorem dX5_next_23 : decode cX5_next 23 = .ok (.bipush (-5), 2) := by decide +kernel
theorem dX5_next_25 : decode cX5_next 25 = .ok (.ireturn, 1) := by decide +kernel
theorem dX6_init_0 : decode cX6_init 0 = .ok (.aload_n 0, 1) := by decide +kernel
theorem dX6_init_1 : decode cX6_init 1 = .ok (.invokespecial 3, 3) := by decide +kernel
theorem dX6_init_4 : decode cX6_init 4 = .ok (.aload_n 0, 1) := by decide +kernel
theorem dX6_init_5 : decode cX6_init 5 = .ok (.bipush 20, 2) := by decide +kernel
theorem dX6_init_7 : decode cX6_init 7 = .ok (.newarray .int, 2) := by decide +kernel
theorem dX6_init_9 : decode cX6_init 9 = .ok (.putfield 9, 3) := by decide +kernel
theorem dX6_init_12 : decode cX6_init 12 = .ok (.aload_n 0, 1) := by decide +kernel
theorem dX6_init_13 : decode cX6_init 13 = .ok (.bipush 20, 2) := by decide +kernel
theorem dX6_init_15 : decode cX6_init 15 = .ok (.newarray .int, 2) := by decide +kernel
theorem dX6_init_17 : decode cX6_init 17 = .ok (.putfield 15, 3) := by decide +kernel
theorem dX6_init_20 : decode cX6_init 20 = .ok (.aload_n 0, 1) := by decide +kernel
theorem dX6_init_21 : decode cX6_init 21 = .ok (.bipush 20, 2) := by decide +kernel
theorem dX6_init_23 : decode cX6_init 23 = .ok (.newarray .int, 2) := by decide +kernel
theorem dX6_init_25 : decode cX6_init 25 = .ok (.putfield 18, 3) := by decide +kernel
theorem dX6_init_28 : decode cX6_init 28 = .ok (.return_, 1) := by decide +kernel
set_option maxRecDepth 20000 in
theorem ggX7_init_X3_init : GoodIn wsX7_init wsX3_init := goodIn_r _ [23, 24, 2, 3, 25, 26, 27, 28, 29, 30, 31, 32, 33, 34, 35, 36, 37, 38, 39, 40, 41, 42, 43, 44, 45, 46, 47, 48, 49, 50, 51, 52, 53, 54, 55, 56, 57, 58, 75, 76, 77, 78, 79, 80, 98, 99, 100, 101, 102, 103, 104, 105, 106] (by decide +kernel) (by decide +kernel)
set_option maxRecDepth 20000 in
theorem gX7_init_X3_init : GoodIn wsX7_init (wsX3_init) := ggX7_init_X3_init
set_option maxRecDepth 20000 in
theorem ggX7_init_X5_init : GoodIn wsX7_init wsX5_init := goodIn_r _ [60, 61, 2, 3, 25, 62, 88, 89, 90] (by decide +kernel) (by decide +kernel)
set_option maxRecDepth 20000 in
theorem gX7_init_X5_init_n23 : GoodIn wsX7_init (wsX5_init) := ggX7_init_X5_init
set_option maxRecDepth 20000 in
theorem ggX7_init_X6_init : GoodIn wsX7_init wsX6_init := goodIn_r _ [64, 65, 2, 3, 25, 66, 67, 68, 91, 92, 93, 94] (by decide +kernel) (by decide +kernel)
set_option maxRecDepth 20000 in
theorem gX7_init_X6_init_n40 : GoodIn wsX7_init (wsX6_init) := ggX7_init_X6_init
set_option maxRecDepth 20000 in
theorem ggX7_init_X4_init : GoodIn wsX7_init wsX4_init := goodIn_r _ [70, 71, 2, 3, 72, 73, 74, 95, 96, 97] (by decide +kernel) (by decide +kernel)
set_option maxRecDepth 20000 in
theorem gX7_init_X4_init_n41 : GoodIn wsX7_init (wsX4_init) := ggX7_init_X4_init
theorem dX7_init_0 : decode cX7_init 0 = .ok (.aload_n 0, 1) := by decide +kernel
theorem dX7_init_1 : decode cX7_init 1 = .ok (.invokespecial 5, 3) := by decide +kernel
theorem dX7_init_4 : decode cX7_init 4 = .ok (.aload_n 0, 1) := by decide +kernel
theorem dX7_init_5 : decode cX7_init 5 = .ok (.new 11, 3) := by decide +kernel
theorem dX7_init_8 : decode cX7_init 8 = .ok (.dup, 1) := by decide +kernel
theorem dX7_init_9 : decode cX7_init 9 = .ok (.invokespecial 13, 3) := by decide +kernel
theorem dX7_init_12 : decode cX7_init 12 = .ok (.putfield 14, 3) := by decide +kernel
theorem dX7_init_15 : decode cX7_init 15 = .ok (.aload_n 0, 1) := by decide +kernel
theorem dX7_init_16 : decode cX7_init 16 = .ok (.new 11, 3) := by decide +kernel
theorem dX7_init_19 : decode cX7_init 19 = .ok (.dup, 1) := by decide +kernel
theorem dX7_init_20 : decode cX7_init 20 = .ok (.invokespecial 13, 3) := by decide +kernel
theorem dX7_init_23 : decode cX7_init 23 = .ok (.putfield 18, 3) := by decide +kernel
theorem dX7_init_26 : decode cX7_init 26 = .ok (.aload_n 0, 1) := by decide +kernel
theorem dX7_init_27 : decode cX7_init 27 = .ok (.new 21, 3) := by decide +kernel
theorem dX7_init_30 : decode cX7_init 30 = .ok (.dup, 1) := by decide +kernel
theorem dX7_init_31 : decode cX7_init 31 = .ok (.invokespecial 23, 3) := by decide +kernel
theorem dX7_init_34 : decode cX7_init 34 = .ok (.putfield 24, 3) := by decide +kernel
theorem dX7_init_37 : decode cX7_init 37 = .ok (.aload_n 0, 1) := by decide +kernel
theorem dX7_init_38 : decode cX7_init 38 = .ok (.bipush 6, 2) := by decide +kernel
theorem dX7_init_40 : decode cX7_init 40 = .ok (.anewarray 28, 3) := by decide +kernel
theorem dX7_init_43 : decode cX7_init 43 = .ok (.putfield 30, 3) := by decide +kernel
theorem dX7_init_46 : decode cX7_init 46 = .ok (.aload_n 0, 1) := by decide +kernel
theorem dX7_init_47 : decode cX7_init 47 = .ok (.bipush 6, 2) := by decide +kernel
theorem dX7_init_49 : decode cX7_init 49 = .ok (.anewarray 34, 3) := by decide +kernel
theorem dX7_init_52 : decode cX7_init 52 = .ok (.putfield 36, 3) := by decide +kernel
theorem dX7_init_55 : decode cX7_init 55 = .ok (.iconst 0, 1) := by decide +kernel
theorem dX7_init_56 : decode cX7_init 56 = .ok (.istore_n 1, 1) := by decide +kernel
theorem dX7_init_57 : decode cX7_init 57 = .ok (.iload_n 1, 1) := by decide +kernel
theorem dX7_init_58 : decode cX7_init 58 = .ok (.bipush 6, 2) := by decide +kernel
theorem dX7_init_60 : decode cX7_init 60 = .ok (.if_icmp .ge 22, 3) := by decide +kernel
theorem dX7_init_63 : decode cX7_init 63 = .ok (.aload_n 0, 1) := by decide +kernel
theorem dX7_init_64 : decode cX7_init 64 = .ok (.getfield 30, 3) := by decide +kernel
theorem dX7_init_67 : decode cX7_init 67 = .ok (.iload_n 1, 1) := by decide +kernel
theorem dX7_init_68 : decode cX7_init 68 = .ok (.new 28, 3) := by decide +kernel
theorem dX7_init_71 : decode cX7_init 71 = .ok (.dup, 1) := by decide +kernel
theorem dX7_init_72 : decode cX7_init 72 = .ok (.invokespecial 40, 3) := by decide +kernel
theorem dX7_init_75 : decode cX7_init 75 = .ok (.aastore, 1) := by decide +kernel
theorem dX7_init_76 : decode cX7_init 76 = .ok (.iinc 1 1, 3) := by decide +kernel
theorem dX7_init_79 : decode cX7_init 79 = .ok (.goto (-22), 3) := by decide +kernel
theorem dX7_init_82 : decode cX7_init 82 = .ok (.iconst 0, 1) := by decide +kernel
theorem dX7_init_83 : decode cX7_init 83 = .ok (.istore_n 1, 1) := by decide +kernel
theorem dX7_init_84 : decode cX7_init 84 = .ok (.iload_n 1, 1) := by decide +kernel
theorem dX7_init_85 : decode cX7_init 85 = .ok (.bipush 6, 2) := by decide +kernel
theorem dX7_init_87 : decode cX7_init 87 = .ok (.if_icmp .ge 22, 3) := by decide +kernel
theorem dX7_init_90 : decode cX7_init 90 = .ok (.aload_n 0, 1) := by decide +kernel
theorem dX7_init_91 : decode cX7_init 91 = .ok (.getfield 36, 3) := by decide +kernel
theorem dX7_init_94 : decode cX7_init 94 = .ok (.iload_n 1, 1) := by decide +kernel
theorem dX7_init_95 : decode cX7_init 95 = .ok (.new 34, 3) := by decide +kernel
theorem dX7_init_98 : decode cX7_init 98 = .ok (.dup, 1) := by decide +kernel
theorem dX7_init_99 : decode cX7_init 99 = .ok (.invokespecial 41, 3) := by decide +kernel
theorem dX7_init_102 : decode cX7_init 102 = .ok (.aastore, 1) := by decide +kernel
theorem dX7_init_103 : decode cX7_init 103 = .ok (.iinc 1 1, 3) := by decide +kernel
theorem dX7_init_106 : decode cX7_init 106 = .ok (.goto (-22), 3) := by decide +kernel
theorem dX7_init_109 : decode cX7_init 109 = .ok (.return_, 1) := by decide +kernel
set_option maxRecDepth 20000 in
theorem ggX7_set_X7_leastOf : GoodIn wsX7_set wsX7_leastOf := goodIn_r _ [10] (by decide +kernel) (by decide +kernel)
set_option maxRecDepth 20000 in
theorem gX7_set_X7_leastOf : GoodIn wsX7_set (va_wsS RX7 42 yX7_leastOf wsX7_leastOf) := goodIn_app (goodIn_of _ (by decide +kernel)) ggX7_set_X7_leastOf
set_option maxRecDepth 20000 in
theorem ggX7_set_X7_mostOf : GoodIn wsX7_set wsX7_mostOf := goodIn_r _ [14, 1, 2, 80, 81, 82, 83, 84, 85, 86, 87, 88, 89, 90, 91, 92] (by decide +kernel) (by decide +kernel)
set_option maxRecDepth 20000 in
theorem gX7_set_X7_mostOf : GoodIn wsX7_set (wsV RX7 46 RX7 yX7_mostOf wsX7_mostOf) := goodIn_app (goodIn_of _ (by decide +kernel)) ggX7_set_X7_mostOf
set_option maxRecDepth 20000 in
theorem ggX7_set_X3_trim : GoodIn wsX7_set wsX3_trim := goodIn_r _ [19, 20, 21, 22, 18, 23, 24, 25, 26, 27, 28, 29, 30, 31, 32, 33, 34, 35, 36, 37, 38, 39, 40, 41, 42, 43, 44, 45, 46, 47, 48, 49, 50, 51, 52, 53, 54, 55, 56, 57, 58, 59, 60, 61, 62, 63, 64, 65, 66, 67, 68, 69, 70, 71, 72, 73, 74, 75, 76, 77, 78, 79, 87, 88, 89, 90, 91, 92, 93, 94, 95, 96, 97, 98] (by decide +kernel) (by decide +kernel)
set_option maxRecDepth 20000 in
theorem gX7_set_X3_trim : GoodIn wsX7_set (wsV RX7 59 RX3 yX3_trim wsX3_trim) := goodIn_app (goodIn_of _ (by decide +kernel)) ggX7_set_X3_trim
theorem dX7_set_0 : decode cX7_set 0 = .ok (.iload_n 1, 1) := by decide +kernel
theorem dX7_set_1 : decode cX7_set 1 = .ok (.ifCond .lt 8, 3) := by decide +kernel
theorem dX7_set_4 : decode cX7_set 4 = .ok (.iload_n 1, 1) := by decide +kernel
theorem dX7_set_5 : decode cX7_set 5 = .ok (.iconst 4, 1) := by decide +kernel
theorem dX7_set_6 : decode cX7_set 6 = .ok (.if_icmp .lt 5, 3) := by decide +kernel
theorem dX7_set_9 : decode cX7_set 9 = .ok (.iconst (-1), 1) := by decide +kernel
theorem dX7_set_10 : decode cX7_set 10 = .ok (.ireturn, 1) := by decide +kernel
theorem dX7_set_11 : decode cX7_set 11 = .ok (.iload_n 2, 1) := by decide +kernel
theorem dX7_set_12 : decode cX7_set 12 = .ok (.iload_n 1, 1) := by decide +kernel
theorem dX7_set_13 : decode cX7_set 13 = .ok (.invokestatic 42, 3) := by decide +kernel
theorem dX7_set_16 : decode cX7_set 16 = .ok (.if_icmp .lt 12, 3) := by decide +kernel
theorem dX7_set_19 : decode cX7_set 19 = .ok (.iload_n 2, 1) := by decide +kernel
theorem dX7_set_20 : decode cX7_set 20 = .ok (.aload_n 0, 1) := by decide +kernel
theorem dX7_set_21 : decode cX7_set 21 = .ok (.iload_n 1, 1) := by decide +kernel
theorem dX7_set_22 : decode cX7_set 22 = .ok (.invokevirtual 46, 3) := by decide +kernel
theorem dX7_set_25 : decode cX7_set 25 = .ok (.if_icmp .le 6, 3) := by decide +kernel
theorem dX7_set_28 : decode cX7_set 28 = .ok (.bipush (-2), 2) := by decide +kernel
theorem dX7_set_30 : decode cX7_set 30 = .ok (.ireturn, 1) := by decide +kernel
theorem dX7_set_31 : decode cX7_set 31 = .ok (.aload_n 0, 1) := by decide +kernel
theorem dX7_set_32 : decode cX7_set 32 = .ok (.getfield 14, 3) := by decide +kernel
theorem dX7_set_35 : decode cX7_set 35 = .ok (.getfield 49, 3) := by decide +kernel
theorem dX7_set_38 : decode cX7_set 38 = .ok (.iload_n 1, 1) := by decide +kernel
theorem dX7_set_39 : decode cX7_set 39 = .ok (.iaload, 1) := by decide +kernel
theorem dX7_set_40 : decode cX7_set 40 = .ok (.istore_n 3, 1) := by decide +kernel
theorem dX7_set_41 : decode cX7_set 41 = .ok (.aload_n 0, 1) := by decide +kernel
theorem dX7_set_42 : decode cX7_set 42 = .ok (.getfield 14, 3) := by decide +kernel
theorem dX7_set_45 : decode cX7_set 45 = .ok (.getfield 49, 3) := by decide +kernel
theorem dX7_set_48 : decode cX7_set 48 = .ok (.iload_n 1, 1) := by decide +kernel
theorem dX7_set_49 : decode cX7_set 49 = .ok (.iload_n 2, 1) := by decide +kernel
theorem dX7_set_50 : decode cX7_set 50 = .ok (.iastore, 1) := by decide +kernel
theorem dX7_set_51 : decode cX7_set 51 = .ok (.iload_n 1, 1) := by decide +kernel
theorem dX7_set_52 : decode cX7_set 52 = .ok (.ifCond .ne 25, 3) := by decide +kernel
theorem dX7_set_55 : decode cX7_set 55 = .ok (.aload_n 0, 1) := by decide +kernel
theorem dX7_set_56 : decode cX7_set 56 = .ok (.getfield 14, 3) := by decide +kernel
theorem dX7_set_59 : decode cX7_set 59 = .ok (.getfield 49, 3) := by decide +kernel
theorem dX7_set_62 : decode cX7_set 62 = .ok (.iconst 1, 1) := by decide +kernel
theorem dX7_set_63 : decode cX7_set 63 = .ok (.aload_n 0, 1) := by decide +kernel
theorem dX7_set_64 : decode cX7_set 64 = .ok (.getfield 14, 3) := by decide +kernel
theorem dX7_set_67 : decode cX7_set 67 = .ok (.getfield 49, 3) := by decide +kernel
theorem dX7_set_70 : decode cX7_set 70 = .ok (.iconst 1, 1) := by decide +kernel
theorem dX7_set_71 : decode cX7_set 71 = .ok (.iaload, 1) := by decide +kernel
theorem dX7_set_72 : decode cX7_set 72 = .ok (.iload_n 2, 1) := by decide +kernel
theorem dX7_set_73 : decode cX7_set 73 = .ok (.invokestatic 53, 3) := by decide +kernel
theorem dX7_set_76 : decode cX7_set 76 = .ok (.iastore, 1) := by decide +kernel
theorem dX7_set_77 : decode cX7_set 77 = .ok (.iload_n 1, 1) := by decide +kernel
theorem dX7_set_78 : decode cX7_set 78 = .ok (.ifCond .eq 8, 3) := by decide +kernel
theorem dX7_set_81 : decode cX7_set 81 = .ok (.iload_n 1, 1) := by decide +kernel
theorem dX7_set_82 : decode cX7_set 82 = .ok (.iconst 1, 1) := by decide +kernel
theorem dX7_set_83 : decode cX7_set 83 = .ok (.if_icmp .ne 10, 3) := by decide +kernel
theorem dX7_set_86 : decode cX7_set 86 = .ok (.aload_n 0, 1) := by decide +kernel
theorem dX7_set_87 : decode cX7_set 87 = .ok (.getfield 14, 3) := by decide +kernel
theorem dX7_set_90 : decode cX7_set 90 = .ok (.invokevirtual 59, 3) := by decide +kernel
theorem dX7_set_93 : decode cX7_set 93 = .ok (.iload_n 3, 1) := by decide +kernel
theorem dX7_set_94 : decode cX7_set 94 = .ok (.ireturn, 1) := by decide +kernel
theorem dX7_told_0 : decode cX7_told 0 = .ok (.iload_n 1, 1) := by decide +kernel
theorem dX7_told_1 : decode cX7_told 1 = .ok (.ifCond .lt 9, 3) := by decide +kernel
theorem dX7_told_4 : decode cX7_told 4 = .ok (.iload_n 1, 1) := by decide +kernel
theorem dX7_told_5 : decode cX7_told 5 = .ok (.bipush 13, 2) := by decide +kernel
theorem dX7_told_7 : decode cX7_told 7 = .ok (.if_icmp .le 5, 3) := by decide +kernel
theorem dX7_told_10 : decode cX7_told 10 = .ok (.iconst (-1), 1) := by decide +kernel
theorem dX7_told_11 : decode cX7_told 11 = .ok (.ireturn, 1) := by decide +kernel
theorem dX7_told_12 : decode cX7_told 12 = .ok (.iload_n 1, 1) := by decide +kernel
theorem dX7_told_13 : decode cX7_told 13 = .ok (.iconst 4, 1) := by decide +kernel
theorem dX7_told_14 : decode cX7_told 14 = .ok (.if_icmp .ge 13, 3) := by decide +kernel
theorem dX7_told_17 : decode cX7_told 17 = .ok (.aload_n 0, 1) := by decide +kernel
theorem dX7_told_18 : decode cX7_told 18 = .ok (.getfield 14, 3) := by decide +kernel
theorem dX7_told_21 : decode cX7_told 21 = .ok (.getfield 49, 3) := by decide +kernel
theorem dX7_told_24 : decode cX7_told 24 = .ok (.iload_n 1, 1) := by decide +kernel
theorem dX7_told_25 : decode cX7_told 25 = .ok (.iaload, 1) := by decide +kernel
theorem dX7_told_26 : decode cX7_told 26 = .ok (.ireturn, 1) := by decide +kernel
theorem dX7_told_27 : decode cX7_told 27 = .ok (.iload_n 1, 1) := by decide +kernel
theorem dX7_told_28 : decode cX7_told 28 = .ok (.bipush 8, 2) := by decide +kernel
theorem dX7_told_30 : decode cX7_told 30 = .ok (.if_icmp .ge 20, 3) := by decide +kernel
theorem dX7_told_33 : decode cX7_told 33 = .ok (.aload_n 0, 1) := by decide +kernel
theorem dX7_told_34 : decode cX7_told 34 = .ok (.getfield 14, 3) := by decide +kernel
theorem dX7_told_37 : decode cX7_told 37 = .ok (.getfield 62, 3) := by decide +kernel
theorem dX7_told_40 : decode cX7_told 40 = .ok (.getfield 66, 3) := by decide +kernel
theorem dX7_told_43 : decode cX7_told 43 = .ok (.iload_n 1, 1) := by decide +kernel
theorem dX7_told_44 : decode cX7_told 44 = .ok (.iconst 4, 1) := by decide +kernel
theorem dX7_told_45 : decode cX7_told 45 = .ok (.isub, 1) := by decide +kernel
theorem dX7_told_46 : decode cX7_told 46 = .ok (.iconst 1, 1) := by decide +kernel
theorem dX7_told_47 : decode cX7_told 47 = .ok (.iadd, 1) := by decide +kernel
theorem dX7_told_48 : decode cX7_told 48 = .ok (.iaload, 1) := by decide +kernel
theorem dX7_told_49 : decode cX7_told 49 = .ok (.ireturn, 1) := by decide +kernel
theorem dX7_told_50 : decode cX7_told 50 = .ok (.iload_n 1, 1) := by decide +kernel
theorem dX7_told_51 : decode cX7_told 51 = .ok (.bipush 13, 2) := by decide +kernel
theorem dX7_told_53 : decode cX7_told 53 = .ok (.if_icmp .ge 16, 3) := by decide +kernel
theorem dX7_told_56 : decode cX7_told 56 = .ok (.aload_n 0, 1) := by decide +kernel
theorem dX7_told_57 : decode cX7_told 57 = .ok (.getfield 14, 3) := by decide +kernel
theorem dX7_told_60 : decode cX7_told 60 = .ok (.getfield 71, 3) := by decide +kernel
theorem dX7_told_63 : decode cX7_told 63 = .ok (.iload_n 1, 1) := by decide +kernel
theorem dX7_told_64 : decode cX7_told 64 = .ok (.bipush 8, 2) := by decide +kernel
theorem dX7_told_66 : decode cX7_told 66 = .ok (.isub, 1) := by decide +kernel
theorem dX7_told_67 : decode cX7_told 67 = .ok (.iaload, 1) := by decide +kernel
theorem dX7_told_68 : decode cX7_told 68 = .ok (.ireturn, 1) := by decide +kernel
theorem dX7_told_69 : decode cX7_told 69 = .ok (.aload_n 0, 1) := by decide +kernel
theorem dX7_told_70 : decode cX7_told 70 = .ok (.getfield 14, 3) := by decide +kernel
theorem dX7_told_73 : decode cX7_told 73 = .ok (.getfield 74, 3) := by decide +kernel
theorem dX7_told_76 : decode cX7_told 76 = .ok (.getfield 78, 3) := by decide +kernel
theorem dX7_told_79 : decode cX7_told 79 = .ok (.ireturn, 1) := by decide +kernel
theorem dX7_leastOf_0 : decode cX7_leastOf 0 = .ok (.iload_n 0, 1) := by decide +kernel
theorem dX7_leastOf_1 : decode cX7_leastOf 1 = .ok (.ifCond .eq 8, 3) := by decide +kernel
theorem dX7_leastOf_4 : decode cX7_leastOf 4 = .ok (.iload_n 0, 1) := by decide +kernel
theorem dX7_leastOf_5 : decode cX7_leastOf 5 = .ok (.iconst 2, 1) := by decide +kernel
theorem dX7_leastOf_6 : decode cX7_leastOf 6 = .ok (.if_icmp .ne 7, 3) := by decide +kernel
theorem dX7_leastOf_9 : decode cX7_leastOf 9 = .ok (.iconst 1, 1) := by decide +kernel
theorem dX7_leastOf_10 : decode cX7_leastOf 10 = .ok (.goto 4, 3) := by decide +kernel
theorem dX7_leastOf_13 : decode cX7_leastOf 13 = .ok (.iconst 0, 1) := by decide +kernel
theorem dX7_leastOf_14 : decode cX7_leastOf 14 = .ok (.ireturn, 1) := by decide +kernel
theorem dX7_mostOf_0 : decode cX7_mostOf 0 = .ok (.iload_n 1, 1) := by decide +kernel
theorem dX7_mostOf_1 : decode cX7_mostOf 1 = .ok (.tableswitch 43 0 2 #[27, 30, 40], 27) := by decide +kernel
theorem dX7_mostOf_28 : decode cX7_mostOf 28 = .ok (.bipush 99, 2) := by decide +kernel
theorem dX7_mostOf_30 : decode cX7_mostOf 30 = .ok (.ireturn, 1) := by decide +kernel
theorem dX7_mostOf_31 : decode cX7_mostOf 31 = .ok (.aload_n 0, 1) := by decide +kernel
theorem dX7_mostOf_32 : decode cX7_mostOf 32 = .ok (.getfield 14, 3) := by decide +kernel
theorem dX7_mostOf_35 : decode cX7_mostOf 35 = .ok (.getfield 49, 3) := by decide +kernel
theorem dX7_mostOf_38 : decode cX7_mostOf 38 = .ok (.iconst 0, 1) := by decide +kernel
theorem dX7_mostOf_39 : decode cX7_mostOf 39 = .ok (.iaload, 1) := by decide +kernel
theorem dX7_mostOf_40 : decode cX7_mostOf 40 = .ok (.ireturn, 1) := by decide +kernel
theorem dX7_mostOf_41 : decode cX7_mostOf 41 = .ok (.bipush 9, 2) := by decide +kernel
theorem dX7_mostOf_43 : decode cX7_mostOf 43 = .ok (.ireturn, 1) := by decide +kernel
theorem dX7_mostOf_44 : decode cX7_mostOf 44 = .ok (.bipush 9, 2) := by decide +kernel
theorem dX7_mostOf_46 : decode cX7_mostOf 46 = .ok (.ireturn, 1) := by decide +kernel
set_option maxRecDepth 20000 in
theorem ggX7_put_X7_keyOf : GoodIn wsX7_put wsX7_keyOf := goodIn_r _ [6] (by decide +kernel) (by decide +kernel)
set_option maxRecDepth 20000 in
theorem gX7_put_X7_keyOf : GoodIn wsX7_put (va_wsS RX7 84 yX7_keyOf wsX7_keyOf) := goodIn_app (goodIn_of _ (by decide +kernel)) ggX7_put_X7_keyOf
set_option maxRecDepth 20000 in
theorem ggX7_put_X3_store : GoodIn wsX7_put wsX3_store := goodIn_r _ [11, 12, 13, 14, 15, 10, 16, 17, 18, 19, 20, 21, 22, 23, 24, 25, 26, 27, 28, 29, 30, 31, 32, 33, 34, 35, 36, 37, 38, 39, 40, 41, 42, 43, 44, 45, 46, 47, 48, 49, 50, 51, 52, 53, 54, 55, 56, 57, 58, 59, 60, 61, 62, 63, 64, 65, 66, 67, 68, 69, 70, 71, 72, 73, 74, 75, 76, 77, 78, 79, 80, 81, 82, 83, 84, 85, 86, 87, 88, 89, 90, 91, 92, 93, 94, 95, 96, 97, 98, 99, 107, 108, 109, 110, 111, 112, 113, 114, 115, 116, 117, 118] (by decide +kernel) (by decide +kernel)
set_option maxRecDepth 20000 in
theorem gX7_put_X3_store : GoodIn wsX7_put (wsV RX7 87 RX3 yX3_store wsX3_store) := goodIn_app (goodIn_of _ (by decide +kernel)) ggX7_put_X3_store
theorem dX7_put_0 : decode cX7_put 0 = .ok (.iload_n 1, 1) := by decide +kernel
theorem dX7_put_1 : decode cX7_put 1 = .ok (.iload_n 2, 1) := by decide +kernel
theorem dX7_put_2 : decode cX7_put 2 = .ok (.invokestatic 84, 3) := by decide +kernel
theorem dX7_put_5 : decode cX7_put 5 = .ok (.istore 6, 2) := by decide +kernel
theorem dX7_put_7 : decode cX7_put 7 = .ok (.iload 6, 2) := by decide +kernel
theorem dX7_put_9 : decode cX7_put 9 = .ok (.ifCond .ge 5, 3) := by decide +kernel
theorem dX7_put_12 : decode cX7_put 12 = .ok (.iconst (-1), 1) := by decide +kernel
theorem dX7_put_13 : decode cX7_put 13 = .ok (.ireturn, 1) := by decide +kernel
theorem dX7_put_14 : decode cX7_put 14 = .ok (.iload 4, 2) := by decide +kernel
theorem dX7_put_16 : decode cX7_put 16 = .ok (.iconst 1, 1) := by decide +kernel
theorem dX7_put_17 : decode cX7_put 17 = .ok (.if_icmp .lt 22, 3) := by decide +kernel
theorem dX7_put_20 : decode cX7_put 20 = .ok (.iload 4, 2) := by decide +kernel
theorem dX7_put_22 : decode cX7_put 22 = .ok (.bipush 9, 2) := by decide +kernel
theorem dX7_put_24 : decode cX7_put 24 = .ok (.if_icmp .gt 15, 3) := by decide +kernel
theorem dX7_put_27 : decode cX7_put 27 = .ok (.iload 5, 2) := by decide +kernel
theorem dX7_put_29 : decode cX7_put 29 = .ok (.ifCond .lt 10, 3) := by decide +kernel
theorem dX7_put_32 : decode cX7_put 32 = .ok (.iload 5, 2) := by decide +kernel
theorem dX7_put_34 : decode cX7_put 34 = .ok (.bipush 99, 2) := by decide +kernel
theorem dX7_put_36 : decode cX7_put 36 = .ok (.if_icmp .le 6, 3) := by decide +kernel
theorem dX7_put_39 : decode cX7_put 39 = .ok (.bipush (-2), 2) := by decide +kernel
theorem dX7_put_41 : decode cX7_put 41 = .ok (.ireturn, 1) := by decide +kernel
theorem dX7_put_42 : decode cX7_put 42 = .ok (.iload 4, 2) := by decide +kernel
theorem dX7_put_44 : decode cX7_put 44 = .ok (.aload_n 0, 1) := by decide +kernel
theorem dX7_put_45 : decode cX7_put 45 = .ok (.getfield 14, 3) := by decide +kernel
theorem dX7_put_48 : decode cX7_put 48 = .ok (.getfield 49, 3) := by decide +kernel
theorem dX7_put_51 : decode cX7_put 51 = .ok (.iconst 0, 1) := by decide +kernel
theorem dX7_put_52 : decode cX7_put 52 = .ok (.iaload, 1) := by decide +kernel
theorem dX7_put_53 : decode cX7_put 53 = .ok (.if_icmp .le 6, 3) := by decide +kernel
theorem dX7_put_56 : decode cX7_put 56 = .ok (.bipush (-4), 2) := by decide +kernel
theorem dX7_put_58 : decode cX7_put 58 = .ok (.ireturn, 1) := by decide +kernel
theorem dX7_put_59 : decode cX7_put 59 = .ok (.aload_n 0, 1) := by decide +kernel
theorem dX7_put_60 : decode cX7_put 60 = .ok (.getfield 14, 3) := by decide +kernel
theorem dX7_put_63 : decode cX7_put 63 = .ok (.iload 6, 2) := by decide +kernel
theorem dX7_put_65 : decode cX7_put 65 = .ok (.iload_n 3, 1) := by decide +kernel
theorem dX7_put_66 : decode cX7_put 66 = .ok (.iload 4, 2) := by decide +kernel
theorem dX7_put_68 : decode cX7_put 68 = .ok (.iload 5, 2) := by decide +kernel
theorem dX7_put_70 : decode cX7_put 70 = .ok (.invokevirtual 87, 3) := by decide +kernel
theorem dX7_put_73 : decode cX7_put 73 = .ok (.ireturn, 1) := by decide +kernel
set_option maxRecDepth 20000 in
theorem ggX7_get_X7_keyOf : GoodIn wsX7_get wsX7_keyOf := goodIn_r _ [7] (by decide +kernel) (by decide +kernel)
set_option maxRecDepth 20000 in
theorem gX7_get_X7_keyOf : GoodIn wsX7_get (va_wsS RX7 84 yX7_keyOf wsX7_keyOf) := goodIn_app (goodIn_of _ (by decide +kernel)) ggX7_get_X7_keyOf
set_option maxRecDepth 20000 in
theorem ggX7_get_X3_fetch : GoodIn wsX7_get wsX3_fetch := goodIn_r _ [12, 13, 14, 15, 16, 17, 11, 18, 19, 20, 21, 22, 23, 24, 25, 26, 27, 28, 29, 30, 31, 32, 33, 34, 35, 36, 37, 38, 39, 40, 41, 42, 43, 44, 45, 46, 47, 48, 49, 50, 51, 52, 53, 54, 55, 56, 57, 58, 59, 60, 61, 62, 63, 64, 65, 66, 67, 68, 69, 70, 71, 72, 73, 74, 75, 76, 77, 78, 79, 80, 81, 82, 83, 84, 85, 86, 87, 88, 89, 97, 98, 99, 100, 101, 102, 103, 104, 105, 106, 107, 108] (by decide +kernel) (by decide +kernel)
set_option maxRecDepth 20000 in
theorem gX7_get_X3_fetch : GoodIn wsX7_get (wsV RX7 93 RX3 yX3_fetch wsX3_fetch) := goodIn_app (goodIn_of _ (by decide +kernel)) ggX7_get_X3_fetch
theorem dX7_get_0 : decode cX7_get 0 = .ok (.iload_n 1, 1) := by decide +kernel
theorem dX7_get_1 : decode cX7_get 1 = .ok (.iload_n 2, 1) := by decide +kernel
theorem dX7_get_2 : decode cX7_get 2 = .ok (.invokestatic 84, 3) := by decide +kernel
theorem dX7_get_5 : decode cX7_get 5 = .ok (.istore_n 3, 1) := by decide +kernel
theorem dX7_get_6 : decode cX7_get 6 = .ok (.iload_n 3, 1) := by decide +kernel
theorem dX7_get_7 : decode cX7_get 7 = .ok (.ifCond .ge 7, 3) := by decide +kernel
theorem dX7_get_10 : decode cX7_get 10 = .ok (.ldc2_w 91, 3) := by decide +kernel
theorem dX7_get_13 : decode cX7_get 13 = .ok (.lreturn, 1) := by decide +kernel
theorem dX7_get_14 : decode cX7_get 14 = .ok (.aload_n 0, 1) := by decide +kernel
theorem dX7_get_15 : decode cX7_get 15 = .ok (.getfield 14, 3) := by decide +kernel
theorem dX7_get_18 : decode cX7_get 18 = .ok (.iload_n 3, 1) := by decide +kernel
theorem dX7_get_19 : decode cX7_get 19 = .ok (.invokevirtual 93, 3) := by decide +kernel
theorem dX7_get_22 : decode cX7_get 22 = .ok (.ifCond .eq 19, 3) := by decide +kernel
theorem dX7_get_25 : decode cX7_get 25 = .ok (.aload_n 0, 1) := by decide +kernel
theorem dX7_get_26 : decode cX7_get 26 = .ok (.getfield 14, 3) := by decide +kernel
theorem dX7_get_29 : decode cX7_get 29 = .ok (.getfield 97, 3) := by decide +kernel
theorem dX7_get_32 : decode cX7_get 32 = .ok (.bipush 6, 2) := by decide +kernel
theorem dX7_get_34 : decode cX7_get 34 = .ok (.aaload, 1) := by decide +kernel
theorem dX7_get_35 : decode cX7_get 35 = .ok (.iload_n 3, 1) := by decide +kernel
theorem dX7_get_36 : decode cX7_get 36 = .ok (.iaload, 1) := by decide +kernel
theorem dX7_get_37 : decode cX7_get 37 = .ok (.i2l, 1) := by decide +kernel
theorem dX7_get_38 : decode cX7_get 38 = .ok (.goto 6, 3) := by decide +kernel
theorem dX7_get_41 : decode cX7_get 41 = .ok (.ldc2_w 91, 3) := by decide +kernel
theorem dX7_get_44 : decode cX7_get 44 = .ok (.lreturn, 1) := by decide +kernel
set_option maxRecDepth 20000 in
theorem ggX7_drop_X7_keyOf : GoodIn wsX7_drop wsX7_keyOf := goodIn_r _ [6] (by decide +kernel) (by decide +kernel)
set_option maxRecDepth 20000 in
theorem gX7_drop_X7_keyOf : GoodIn wsX7_drop (va_wsS RX7 84 yX7_keyOf wsX7_keyOf) := goodIn_app (goodIn_of _ (by decide +kernel)) ggX7_drop_X7_keyOf
set_option maxRecDepth 20000 in
theorem ggX7_drop_X3_move : GoodIn wsX7_drop wsX3_move := goodIn_r _ [11, 12, 13, 14, 15, 16, 17, 18, 19, 20, 21, 22, 23, 24, 25, 26, 34, 35, 36, 37, 38, 39, 40, 41, 42, 43] (by decide +kernel) (by decide +kernel)
set_option maxRecDepth 20000 in
theorem gX7_drop_X3_move : GoodIn wsX7_drop (wsV RX7 101 RX3 yX3_move wsX3_move) := goodIn_app (goodIn_of _ (by decide +kernel)) ggX7_drop_X3_move
theorem dX7_drop_0 : decode cX7_drop 0 = .ok (.iload_n 1, 1) := by decide +kernel
theorem dX7_drop_1 : decode cX7_drop 1 = .ok (.iload_n 2, 1) := by decide +kernel
theorem dX7_drop_2 : decode cX7_drop 2 = .ok (.invokestatic 84, 3) := by decide +kernel
theorem dX7_drop_5 : decode cX7_drop 5 = .ok (.istore_n 3, 1) := by decide +kernel
theorem dX7_drop_6 : decode cX7_drop 6 = .ok (.iload_n 3, 1) := by decide +kernel
theorem dX7_drop_7 : decode cX7_drop 7 = .ok (.ifCond .ge 5, 3) := by decide +kernel
theorem dX7_drop_10 : decode cX7_drop 10 = .ok (.iconst (-1), 1) := by decide +kernel
theorem dX7_drop_11 : decode cX7_drop 11 = .ok (.ireturn, 1) := by decide +kernel
theorem dX7_drop_12 : decode cX7_drop 12 = .ok (.aload_n 0, 1) := by decide +kernel
theorem dX7_drop_13 : decode cX7_drop 13 = .ok (.getfield 14, 3) := by decide +kernel
theorem dX7_drop_16 : decode cX7_drop 16 = .ok (.getfield 97, 3) := by decide +kernel
theorem dX7_drop_19 : decode cX7_drop 19 = .ok (.iconst 0, 1) := by decide +kernel
theorem dX7_drop_20 : decode cX7_drop 20 = .ok (.aaload, 1) := by decide +kernel
theorem dX7_drop_21 : decode cX7_drop 21 = .ok (.iload_n 3, 1) := by decide +kernel
theorem dX7_drop_22 : decode cX7_drop 22 = .ok (.iaload, 1) := by decide +kernel
theorem dX7_drop_23 : decode cX7_drop 23 = .ok (.istore 4, 2) := by decide +kernel
theorem dX7_drop_25 : decode cX7_drop 25 = .ok (.aload_n 0, 1) := by decide +kernel
theorem dX7_drop_26 : decode cX7_drop 26 = .ok (.getfield 14, 3) := by decide +kernel
theorem dX7_drop_29 : decode cX7_drop 29 = .ok (.iload_n 3, 1) := by decide +kernel
theorem dX7_drop_30 : decode cX7_drop 30 = .ok (.iconst 0, 1) := by decide +kernel
theorem dX7_drop_31 : decode cX7_drop 31 = .ok (.invokevirtual 101, 3) := by decide +kernel
theorem dX7_drop_34 : decode cX7_drop 34 = .ok (.iload 4, 2) := by decide +kernel
theorem dX7_drop_36 : decode cX7_drop 36 = .ok (.ireturn, 1) := by decide +kernel
set_option maxRecDepth 20000 in
theorem ggX7_pin_X7_keyOf : GoodIn wsX7_pin wsX7_keyOf := goodIn_r _ [6] (by decide +kernel) (by decide +kernel)
set_option maxRecDepth 20000 in
theorem gX7_pin_X7_keyOf : GoodIn wsX7_pin (va_wsS RX7 84 yX7_keyOf wsX7_keyOf) := goodIn_app (goodIn_of _ (by decide +kernel)) ggX7_pin_X7_keyOf
set_option maxRecDepth 20000 in
theorem ggX7_pin_X3_isThing : GoodIn wsX7_pin wsX3_isThing := goodIn_r _ [11, 12, 20, 21, 22, 23, 24, 25] (by decide +kernel) (by decide +kernel)
set_option maxRecDepth 20000 in
theorem gX7_pin_X3_isThing : GoodIn wsX7_pin (wsV RX7 105 RX3 yX3_isThing wsX3_isThing) := goodIn_app (goodIn_of _ (by decide +kernel)) ggX7_pin_X3_isThing
theorem dX7_pin_0 : decode cX7_pin 0 = .ok (.iload_n 1, 1) := by decide +kernel
theorem dX7_pin_1 : decode cX7_pin 1 = .ok (.iload_n 2, 1) := by decide +kernel
theorem dX7_pin_2 : decode cX7_pin 2 = .ok (.invokestatic 84, 3) := by decide +kernel
theorem dX7_pin_5 : decode cX7_pin 5 = .ok (.istore 4, 2) := by decide +kernel
theorem dX7_pin_7 : decode cX7_pin 7 = .ok (.iload 4, 2) := by decide +kernel
theorem dX7_pin_9 : decode cX7_pin 9 = .ok (.ifCond .ge 5, 3) := by decide +kernel
theorem dX7_pin_12 : decode cX7_pin 12 = .ok (.iconst (-1), 1) := by decide +kernel
theorem dX7_pin_13 : decode cX7_pin 13 = .ok (.ireturn, 1) := by decide +kernel
theorem dX7_pin_14 : decode cX7_pin 14 = .ok (.aload_n 0, 1) := by decide +kernel
theorem dX7_pin_15 : decode cX7_pin 15 = .ok (.getfield 14, 3) := by decide +kernel
theorem dX7_pin_18 : decode cX7_pin 18 = .ok (.iload 4, 2) := by decide +kernel
theorem dX7_pin_20 : decode cX7_pin 20 = .ok (.invokevirtual 105, 3) := by decide +kernel
theorem dX7_pin_23 : decode cX7_pin 23 = .ok (.ifCond .ne 6, 3) := by decide +kernel
theorem dX7_pin_26 : decode cX7_pin 26 = .ok (.bipush (-3), 2) := by decide +kernel
theorem dX7_pin_28 : decode cX7_pin 28 = .ok (.ireturn, 1) := by decide +kernel
theorem dX7_pin_29 : decode cX7_pin 29 = .ok (.aload_n 0, 1) := by decide +kernel
theorem dX7_pin_30 : decode cX7_pin 30 = .ok (.getfield 14, 3) := by decide +kernel
theorem dX7_pin_33 : decode cX7_pin 33 = .ok (.getfield 97, 3) := by decide +kernel
theorem dX7_pin_36 : decode cX7_pin 36 = .ok (.iconst 5, 1) := by decide +kernel
theorem dX7_pin_37 : decode cX7_pin 37 = .ok (.aaload, 1) := by decide +kernel
theorem dX7_pin_38 : decode cX7_pin 38 = .ok (.iload 4, 2) := by decide +kernel
theorem dX7_pin_40 : decode cX7_pin 40 = .ok (.iaload, 1) := by decide +kernel
theorem dX7_pin_41 : decode cX7_pin 41 = .ok (.istore 5, 2) := by decide +kernel
theorem dX7_pin_43 : decode cX7_pin 43 = .ok (.aload_n 0, 1) := by decide +kernel
theorem dX7_pin_44 : decode cX7_pin 44 = .ok (.getfield 14, 3) := by decide +kernel
theorem dX7_pin_47 : decode cX7_pin 47 = .ok (.getfield 97, 3) := by decide +kernel
theorem dX7_pin_50 : decode cX7_pin 50 = .ok (.iconst 5, 1) := by decide +kernel
theorem dX7_pin_51 : decode cX7_pin 51 = .ok (.aaload, 1) := by decide +kernel
theorem dX7_pin_52 : decode cX7_pin 52 = .ok (.iload 4, 2) := by decide +kernel
theorem dX7_pin_54 : decode cX7_pin 54 = .ok (.iload_n 3, 1) := by decide +kernel
theorem dX7_pin_55 : decode cX7_pin 55 = .ok (.ifCond .eq 7, 3) := by decide +kernel
theorem dX7_pin_58 : decode cX7_pin 58 = .ok (.iconst 1, 1) := by decide +kernel
theorem dX7_pin_59 : decode cX7_pin 59 = .ok (.goto 4, 3) := by decide +kernel
theorem dX7_pin_62 : decode cX7_pin 62 = .ok (.iconst 0, 1) := by decide +kernel
theorem dX7_pin_63 : decode cX7_pin 63 = .ok (.iastore, 1) := by decide +kernel
theorem dX7_pin_64 : decode cX7_pin 64 = .ok (.iload 5, 2) := by decide +kernel
theorem dX7_pin_66 : decode cX7_pin 66 = .ok (.ireturn, 1) := by decide +kernel
set_option maxRecDepth 20000 in
theorem ggX7_of_X7_keyOf : GoodIn wsX7_of wsX7_keyOf := goodIn_r _ [6] (by decide +kernel) (by decide +kernel)
set_option maxRecDepth 20000 in
theorem gX7_of_X7_keyOf : GoodIn wsX7_of (va_wsS RX7 84 yX7_keyOf wsX7_keyOf) := goodIn_app (goodIn_of _ (by decide +kernel)) ggX7_of_X7_keyOf
set_option maxRecDepth 20000 in
theorem ggX7_of_X3_placeOf : GoodIn wsX7_of wsX3_placeOf := goodIn_r _ [11, 12, 13, 14, 15, 16, 17, 18, 19, 20, 21, 22, 23, 24, 36, 37, 38, 39, 40, 41, 42, 43, 44, 45] (by decide +kernel) (by decide +kernel)
set_option maxRecDepth 20000 in
theorem gX7_of_X3_placeOf : GoodIn wsX7_of (wsV RX7 108 RX3 yX3_placeOf wsX3_placeOf) := goodIn_app (goodIn_of _ (by decide +kernel)) ggX7_of_X3_placeOf
set_option maxRecDepth 20000 in
theorem ggX7_of_X3_isThing : GoodIn wsX7_of wsX3_isThing := goodIn_r _ [28, 12, 36, 37, 38, 39, 40, 41] (by decide +kernel) (by decide +kernel)
set_option maxRecDepth 20000 in
theorem gX7_of_X3_isThing : GoodIn wsX7_of (wsV RX7 105 RX3 yX3_isThing wsX3_isThing) := goodIn_app (goodIn_of _ (by decide +kernel)) ggX7_of_X3_isThing
theorem dX7_of_0 : decode cX7_of 0 = .ok (.iload_n 1, 1) := by decide +kernel
theorem dX7_of_1 : decode cX7_of 1 = .ok (.iload_n 2, 1) := by decide +kernel
theorem dX7_of_2 : decode cX7_of 2 = .ok (.invokestatic 84, 3) := by decide +kernel
theorem dX7_of_5 : decode cX7_of 5 = .ok (.istore 4, 2) := by decide +kernel
theorem dX7_of_7 : decode cX7_of 7 = .ok (.iload 4, 2) := by decide +kernel
theorem dX7_of_9 : decode cX7_of 9 = .ok (.ifCond .lt 13, 3) := by decide +kernel
theorem dX7_of_12 : decode cX7_of 12 = .ok (.iload_n 3, 1) := by decide +kernel
theorem dX7_of_13 : decode cX7_of 13 = .ok (.ifCond .lt 9, 3) := by decide +kernel
theorem dX7_of_16 : decode cX7_of 16 = .ok (.iload_n 3, 1) := by decide +kernel
theorem dX7_of_17 : decode cX7_of 17 = .ok (.bipush 6, 2) := by decide +kernel
theorem dX7_of_19 : decode cX7_of 19 = .ok (.if_icmp .le 5, 3) := by decide +kernel
theorem dX7_of_22 : decode cX7_of 22 = .ok (.iconst (-1), 1) := by decide +kernel
theorem dX7_of_23 : decode cX7_of 23 = .ok (.ireturn, 1) := by decide +kernel
theorem dX7_of_24 : decode cX7_of 24 = .ok (.aload_n 0, 1) := by decide +kernel
theorem dX7_of_25 : decode cX7_of 25 = .ok (.getfield 14, 3) := by decide +kernel
theorem dX7_of_28 : decode cX7_of 28 = .ok (.getfield 97, 3) := by decide +kernel
theorem dX7_of_31 : decode cX7_of 31 = .ok (.iconst 0, 1) := by decide +kernel
theorem dX7_of_32 : decode cX7_of 32 = .ok (.aaload, 1) := by decide +kernel
theorem dX7_of_33 : decode cX7_of 33 = .ok (.iload 4, 2) := by decide +kernel
theorem dX7_of_35 : decode cX7_of 35 = .ok (.iaload, 1) := by decide +kernel
theorem dX7_of_36 : decode cX7_of 36 = .ok (.istore 5, 2) := by decide +kernel
theorem dX7_of_38 : decode cX7_of 38 = .ok (.iload_n 3, 1) := by decide +kernel
theorem dX7_of_39 : decode cX7_of 39 = .ok (.ifCond .ne 6, 3) := by decide +kernel
theorem dX7_of_42 : decode cX7_of 42 = .ok (.iload 5, 2) := by decide +kernel
theorem dX7_of_44 : decode cX7_of 44 = .ok (.ireturn, 1) := by decide +kernel
theorem dX7_of_45 : decode cX7_of 45 = .ok (.iload_n 3, 1) := by decide +kernel
theorem dX7_of_46 : decode cX7_of 46 = .ok (.bipush 6, 2) := by decide +kernel
theorem dX7_of_48 : decode cX7_of 48 = .ok (.if_icmp .ne 13, 3) := by decide +kernel
theorem dX7_of_51 : decode cX7_of 51 = .ok (.aload_n 0, 1) := by decide +kernel
theorem dX7_of_52 : decode cX7_of 52 = .ok (.getfield 14, 3) := by decide +kernel
theorem dX7_of_55 : decode cX7_of 55 = .ok (.iload 4, 2) := by decide +kernel
theorem dX7_of_57 : decode cX7_of 57 = .ok (.invokevirtual 108, 3) := by decide +kernel
theorem dX7_of_60 : decode cX7_of 60 = .ok (.ireturn, 1) := by decide +kernel
theorem dX7_of_61 : decode cX7_of 61 = .ok (.iload_n 3, 1) := by decide +kernel
theorem dX7_of_62 : decode cX7_of 62 = .ok (.iconst 1, 1) := by decide +kernel
theorem dX7_of_63 : decode cX7_of 63 = .ok (.if_icmp .ne 16, 3) := by decide +kernel
theorem dX7_of_66 : decode cX7_of 66 = .ok (.iload 5, 2) := by decide +kernel
theorem dX7_of_68 : decode cX7_of 68 = .ok (.ifCond .eq 7, 3) := by decide +kernel
theorem dX7_of_71 : decode cX7_of 71 = .ok (.iconst 1, 1) := by decide +kernel
theorem dX7_of_72 : decode cX7_of 72 = .ok (.goto 16, 3) := by decide +kernel
theorem dX7_of_75 : decode cX7_of 75 = .ok (.iconst 0, 1) := by decide +kernel
theorem dX7_of_76 : decode cX7_of 76 = .ok (.goto 12, 3) := by decide +kernel
theorem dX7_of_79 : decode cX7_of 79 = .ok (.aload_n 0, 1) := by decide +kernel
theorem dX7_of_80 : decode cX7_of 80 = .ok (.getfield 14, 3) := by decide +kernel
theorem dX7_of_83 : decode cX7_of 83 = .ok (.iload 4, 2) := by decide +kernel
theorem dX7_of_85 : decode cX7_of 85 = .ok (.invokevirtual 105, 3) := by decide +kernel
theorem dX7_of_88 : decode cX7_of 88 = .ok (.istore 6, 2) := by decide +kernel
theorem dX7_of_90 : decode cX7_of 90 = .ok (.iload 6, 2) := by decide +kernel
theorem dX7_of_92 : decode cX7_of 92 = .ok (.ifCond .eq 18, 3) := by decide +kernel
theorem dX7_of_95 : decode cX7_of 95 = .ok (.aload_n 0, 1) := by decide +kernel
theorem dX7_of_96 : decode cX7_of 96 = .ok (.getfield 14, 3) := by decide +kernel
theorem dX7_of_99 : decode cX7_of 99 = .ok (.getfield 97, 3) := by decide +kernel
theorem dX7_of_102 : decode cX7_of 102 = .ok (.iload_n 3, 1) := by decide +kernel
theorem dX7_of_103 : decode cX7_of 103 = .ok (.aaload, 1) := by decide +kernel
theorem dX7_of_104 : decode cX7_of 104 = .ok (.iload 4, 2) := by decide +kernel
theorem dX7_of_106 : decode cX7_of 106 = .ok (.iaload, 1) := by decide +kernel
theorem dX7_of_107 : decode cX7_of 107 = .ok (.goto 5, 3) := by decide +kernel
theorem dX7_of_110 : decode cX7_of 110 = .ok (.bipush (-5), 2) := by decide +kernel
theorem dX7_of_112 : decode cX7_of 112 = .ok (.ireturn, 1) := by decide +kernel
set_option maxRecDepth 20000 in
theorem ggX7_key_X2_keyAt : GoodIn wsX7_key wsX2_keyAt := goodIn_r _ [7, 8, 9, 10, 11, 12, 6, 13, 27, 28, 29, 30] (by decide +kernel) (by decide +kernel)
set_option maxRecDepth 20000 in
theorem gX7_key_X2_keyAt : GoodIn wsX7_key (wsV RX7 111 RX2 yX2_keyAt wsX2_keyAt) := goodIn_app (goodIn_of _ (by decide +kernel)) ggX7_key_X2_keyAt
theorem dX7_key_0 : decode cX7_key 0 = .ok (.iload_n 1, 1) := by decide +kernel
theorem dX7_key_1 : decode cX7_key 1 = .ok (.iconst 1, 1) := by decide +kernel
theorem dX7_key_2 : decode cX7_key 2 = .ok (.if_icmp .lt 12, 3) := by decide +kernel
theorem dX7_key_5 : decode cX7_key 5 = .ok (.iload_n 1, 1) := by decide +kernel
theorem dX7_key_6 : decode cX7_key 6 = .ok (.iconst 5, 1) := by decide +kernel
theorem dX7_key_7 : decode cX7_key 7 = .ok (.if_icmp .ge 7, 3) := by decide +kernel
theorem dX7_key_10 : decode cX7_key 10 = .ok (.iload_n 2, 1) := by decide +kernel
theorem dX7_key_11 : decode cX7_key 11 = .ok (.ifCond .ge 5, 3) := by decide +kernel
theorem dX7_key_14 : decode cX7_key 14 = .ok (.iconst (-1), 1) := by decide +kernel
theorem dX7_key_15 : decode cX7_key 15 = .ok (.ireturn, 1) := by decide +kernel
theorem dX7_key_16 : decode cX7_key 16 = .ok (.aload_n 0, 1) := by decide +kernel
theorem dX7_key_17 : decode cX7_key 17 = .ok (.getfield 14, 3) := by decide +kernel
theorem dX7_key_20 : decode cX7_key 20 = .ok (.getfield 62, 3) := by decide +kernel
theorem dX7_key_23 : decode cX7_key 23 = .ok (.iload_n 1, 1) := by decide +kernel
theorem dX7_key_24 : decode cX7_key 24 = .ok (.iload_n 2, 1) := by decide +kernel
theorem dX7_key_25 : decode cX7_key 25 = .ok (.invokevirtual 111, 3) := by decide +kernel
theorem dX7_key_28 : decode cX7_key 28 = .ok (.ireturn, 1) := by decide +kernel
set_option maxRecDepth 20000 in
theorem ggX7_gone_X1_at : GoodIn wsX7_gone wsX1_at := goodIn_r _ [12, 13, 14, 15, 16, 17, 31, 32] (by decide +kernel) (by decide +kernel)
set_option maxRecDepth 20000 in
theorem gX7_gone_X1_at : GoodIn wsX7_gone (wsV RX7 114 RX1 yX1_at wsX1_at) := goodIn_app (goodIn_of _ (by decide +kernel)) ggX7_gone_X1_at
theorem dX7_gone_0 : decode cX7_gone 0 = .ok (.iload_n 1, 1) := by decide +kernel
theorem dX7_gone_1 : decode cX7_gone 1 = .ok (.ifCond .ge 5, 3) := by decide +kernel
theorem dX7_gone_4 : decode cX7_gone 4 = .ok (.iconst (-1), 1) := by decide +kernel
theorem dX7_gone_5 : decode cX7_gone 5 = .ok (.ireturn, 1) := by decide +kernel
theorem dX7_gone_6 : decode cX7_gone 6 = .ok (.aload_n 0, 1) := by decide +kernel
theorem dX7_gone_7 : decode cX7_gone 7 = .ok (.getfield 14, 3) := by decide +kernel
theorem dX7_gone_10 : decode cX7_gone 10 = .ok (.getfield 74, 3) := by decide +kernel
theorem dX7_gone_13 : decode cX7_gone 13 = .ok (.getfield 78, 3) := by decide +kernel
theorem dX7_gone_16 : decode cX7_gone 16 = .ok (.istore_n 2, 1) := by decide +kernel
theorem dX7_gone_17 : decode cX7_gone 17 = .ok (.iload_n 1, 1) := by decide +kernel
theorem dX7_gone_18 : decode cX7_gone 18 = .ok (.bipush 20, 2) := by decide +kernel
theorem dX7_gone_20 : decode cX7_gone 20 = .ok (.iload_n 2, 1) := by decide +kernel
theorem dX7_gone_21 : decode cX7_gone 21 = .ok (.invokestatic 53, 3) := by decide +kernel
theorem dX7_gone_24 : decode cX7_gone 24 = .ok (.if_icmp .ge 21, 3) := by decide +kernel
theorem dX7_gone_27 : decode cX7_gone 27 = .ok (.aload_n 0, 1) := by decide +kernel
theorem dX7_gone_28 : decode cX7_gone 28 = .ok (.getfield 14, 3) := by decide +kernel
theorem dX7_gone_31 : decode cX7_gone 31 = .ok (.getfield 74, 3) := by decide +kernel
theorem dX7_gone_34 : decode cX7_gone 34 = .ok (.iload_n 2, 1) := by decide +kernel
theorem dX7_gone_35 : decode cX7_gone 35 = .ok (.iconst 1, 1) := by decide +kernel
theorem dX7_gone_36 : decode cX7_gone 36 = .ok (.isub, 1) := by decide +kernel
theorem dX7_gone_37 : decode cX7_gone 37 = .ok (.iload_n 1, 1) := by decide +kernel
theorem dX7_gone_38 : decode cX7_gone 38 = .ok (.isub, 1) := by decide +kernel
theorem dX7_gone_39 : decode cX7_gone 39 = .ok (.invokevirtual 114, 3) := by decide +kernel
theorem dX7_gone_42 : decode cX7_gone 42 = .ok (.goto 5, 3) := by decide +kernel
theorem dX7_gone_45 : decode cX7_gone 45 = .ok (.bipush (-5), 2) := by decide +kernel
theorem dX7_gone_47 : decode cX7_gone 47 = .ok (.ireturn, 1) := by decide +kernel
set_option maxRecDepth 20000 in
theorem ggX7_victim_X7_rehearse : GoodIn wsX7_victim wsX7_rehearse := goodIn_r _ [9, 4, 1, 10, 11, 12, 13, 14, 15, 16, 17, 18, 19, 20, 21, 22, 23, 24, 25, 26, 27, 28, 29, 30, 31, 32, 33, 34, 35, 36, 37, 38, 39, 40, 41, 42, 43, 44, 45, 46, 47, 48, 49, 50, 51, 52, 53, 54, 55, 56, 57, 58, 59, 60, 61, 62, 63, 64, 65, 66, 67, 68, 69, 70, 71, 72, 73, 74, 75, 76, 77, 78, 79, 80, 81, 82, 83, 84, 85, 86, 87, 88, 89, 90, 91, 92, 93, 94, 95, 96, 97, 98, 99, 100, 101, 102, 103, 104, 109, 110, 111, 112, 113, 114, 115, 116, 117, 118, 119, 120, 121, 124, 125, 126, 127, 122, 123, 128, 129, 130] (by decide +kernel) (by decide +kernel)
set_option maxRecDepth 20000 in
theorem gX7_victim_X7_rehearse : GoodIn wsX7_victim (wsV RX7 117 RX7 yX7_rehearse wsX7_rehearse) := goodIn_app (goodIn_of _ (by decide +kernel)) ggX7_victim_X7_rehearse
set_option maxRecDepth 20000 in
theorem ggX7_victim_X1_at : GoodIn wsX7_victim wsX1_at := goodIn_r _ [108, 41, 95, 96, 97, 98, 122, 123] (by decide +kernel) (by decide +kernel)
set_option maxRecDepth 20000 in
theorem gX7_victim_X1_at : GoodIn wsX7_victim (wsV RX7 114 RX1 yX1_at wsX1_at) := goodIn_app (goodIn_of _ (by decide +kernel)) ggX7_victim_X1_at
theorem dX7_victim_0 : decode cX7_victim 0 = .ok (.iload_n 1, 1) := by decide +kernel
theorem dX7_victim_1 : decode cX7_victim 1 = .ok (.ifCond .ge 5, 3) := by decide +kernel
theorem dX7_victim_4 : decode cX7_victim 4 = .ok (.iconst (-1), 1) := by decide +kernel
theorem dX7_victim_5 : decode cX7_victim 5 = .ok (.ireturn, 1) := by decide +kernel
theorem dX7_victim_6 : decode cX7_victim 6 = .ok (.aload_n 0, 1) := by decide +kernel
theorem dX7_victim_7 : decode cX7_victim 7 = .ok (.iconst 0, 1) := by decide +kernel
theorem dX7_victim_8 : decode cX7_victim 8 = .ok (.iconst 0, 1) := by decide +kernel
theorem dX7_victim_9 : decode cX7_victim 9 = .ok (.invokevirtual 117, 3) := by decide +kernel
theorem dX7_victim_12 : decode cX7_victim 12 = .ok (.aload_n 0, 1) := by decide +kernel
theorem dX7_victim_13 : decode cX7_victim 13 = .ok (.getfield 14, 3) := by decide +kernel
theorem dX7_victim_16 : decode cX7_victim 16 = .ok (.getfield 74, 3) := by decide +kernel
theorem dX7_victim_19 : decode cX7_victim 19 = .ok (.getfield 78, 3) := by decide +kernel
theorem dX7_victim_22 : decode cX7_victim 22 = .ok (.istore_n 2, 1) := by decide +kernel
theorem dX7_victim_23 : decode cX7_victim 23 = .ok (.aload_n 0, 1) := by decide +kernel
theorem dX7_victim_24 : decode cX7_victim 24 = .ok (.getfield 18, 3) := by decide +kernel
theorem dX7_victim_27 : decode cX7_victim 27 = .ok (.getfield 74, 3) := by decide +kernel
theorem dX7_victim_30 : decode cX7_victim 30 = .ok (.getfield 78, 3) := by decide +kernel
theorem dX7_victim_33 : decode cX7_victim 33 = .ok (.istore_n 3, 1) := by decide +kernel
theorem dX7_victim_34 : decode cX7_victim 34 = .ok (.iload_n 1, 1) := by decide +kernel
theorem dX7_victim_35 : decode cX7_victim 35 = .ok (.iload_n 3, 1) := by decide +kernel
theorem dX7_victim_36 : decode cX7_victim 36 = .ok (.iload_n 2, 1) := by decide +kernel
theorem dX7_victim_37 : decode cX7_victim 37 = .ok (.isub, 1) := by decide +kernel
theorem dX7_victim_38 : decode cX7_victim 38 = .ok (.if_icmp .ge 19, 3) := by decide +kernel
theorem dX7_victim_41 : decode cX7_victim 41 = .ok (.aload_n 0, 1) := by decide +kernel
theorem dX7_victim_42 : decode cX7_victim 42 = .ok (.getfield 18, 3) := by decide +kernel
theorem dX7_victim_45 : decode cX7_victim 45 = .ok (.getfield 74, 3) := by decide +kernel
theorem dX7_victim_48 : decode cX7_victim 48 = .ok (.iload_n 2, 1) := by decide +kernel
theorem dX7_victim_49 : decode cX7_victim 49 = .ok (.iload_n 1, 1) := by decide +kernel
theorem dX7_victim_50 : decode cX7_victim 50 = .ok (.iadd, 1) := by decide +kernel
theorem dX7_victim_51 : decode cX7_victim 51 = .ok (.invokevirtual 114, 3) := by decide +kernel
theorem dX7_victim_54 : decode cX7_victim 54 = .ok (.goto 5, 3) := by decide +kernel
theorem dX7_victim_57 : decode cX7_victim 57 = .ok (.bipush (-5), 2) := by decide +kernel
theorem dX7_victim_59 : decode cX7_victim 59 = .ok (.ireturn, 1) := by decide +kernel
theorem dX7_keyOf_0 : decode cX7_keyOf 0 = .ok (.iload_n 0, 1) := by decide +kernel
theorem dX7_keyOf_1 : decode cX7_keyOf 1 = .ok (.ifCond .lt 18, 3) := by decide +kernel
theorem dX7_keyOf_4 : decode cX7_keyOf 4 = .ok (.iload_n 0, 1) := by decide +kernel
theorem dX7_keyOf_5 : decode cX7_keyOf 5 = .ok (.iconst 4, 1) := by decide +kernel
theorem dX7_keyOf_6 : decode cX7_keyOf 6 = .ok (.if_icmp .ge 13, 3) := by decide +kernel
theorem dX7_keyOf_9 : decode cX7_keyOf 9 = .ok (.iload_n 1, 1) := by decide +kernel
theorem dX7_keyOf_10 : decode cX7_keyOf 10 = .ok (.ifCond .lt 9, 3) := by decide +kernel
theorem dX7_keyOf_13 : decode cX7_keyOf 13 = .ok (.iload_n 1, 1) := by decide +kernel
theorem dX7_keyOf_14 : decode cX7_keyOf 14 = .ok (.bipush 100, 2) := by decide +kernel
theorem dX7_keyOf_16 : decode cX7_keyOf 16 = .ok (.if_icmp .lt 5, 3) := by decide +kernel
theorem dX7_keyOf_19 : decode cX7_keyOf 19 = .ok (.iconst (-1), 1) := by decide +kernel
theorem dX7_keyOf_20 : decode cX7_keyOf 20 = .ok (.ireturn, 1) := by decide +kernel
theorem dX7_keyOf_21 : decode cX7_keyOf 21 = .ok (.iload_n 0, 1) := by decide +kernel
theorem dX7_keyOf_22 : decode cX7_keyOf 22 = .ok (.bipush 100, 2) := by decide +kernel
theorem dX7_keyOf_24 : decode cX7_keyOf 24 = .ok (.imul, 1) := by decide +kernel
theorem dX7_keyOf_25 : decode cX7_keyOf 25 = .ok (.iload_n 1, 1) := by decide +kernel
theorem dX7_keyOf_26 : decode cX7_keyOf 26 = .ok (.iadd, 1) := by decide +kernel
theorem dX7_keyOf_27 : decode cX7_keyOf 27 = .ok (.ireturn, 1) := by decide +kernel
set_option maxRecDepth 20000 in
theorem ggX7_rehearse_X3_copyFrom : GoodIn wsX7_rehearse wsX3_copyFrom := goodIn_r _ [8, 9, 10, 11, 12, 13, 14, 15, 16, 17, 18, 19, 20, 21, 22, 23, 24, 25, 26, 27, 28, 29, 30, 31, 32, 33, 34, 35, 36, 37, 38, 39, 40, 41, 42, 43, 44, 45, 105, 106, 107, 108, 109, 110, 111, 112, 113, 114, 115, 116, 117, 118, 119] (by decide +kernel) (by decide +kernel)
set_option maxRecDepth 20000 in
theorem gX7_rehearse_X3_copyFrom : GoodIn wsX7_rehearse (wsV RX7 120 RX3 yX3_copyFrom wsX3_copyFrom) := goodIn_app (goodIn_of _ (by decide +kernel)) ggX7_rehearse_X3_copyFrom
set_option maxRecDepth 20000 in
theorem ggX7_rehearse_X3_trim : GoodIn wsX7_rehearse wsX3_trim := goodIn_r _ [49, 50, 51, 52, 7, 53, 54, 15, 55, 9, 16, 56, 57, 58, 22, 59, 24, 27, 60, 61, 62, 63, 64, 65, 66, 67, 68, 69, 70, 71, 28, 26, 72, 73, 74, 75, 76, 77, 78, 79, 17, 80, 81, 82, 83, 84, 85, 86, 32, 87, 34, 36, 88, 89, 90, 91, 92, 93, 94, 95, 96, 97, 105, 106, 107, 108, 109, 110, 111, 112, 113, 114, 115, 116] (by decide +kernel) (by decide +kernel)
set_option maxRecDepth 20000 in
theorem gX7_rehearse_X3_trim : GoodIn wsX7_rehearse (wsV RX7 59 RX3 yX3_trim wsX3_trim) := goodIn_app (goodIn_of _ (by decide +kernel)) ggX7_rehearse_X3_trim
theorem dX7_rehearse_0 : decode cX7_rehearse 0 = .ok (.aload_n 0, 1) := by decide +kernel
theorem dX7_rehearse_1 : decode cX7_rehearse 1 = .ok (.getfield 18, 3) := by decide +kernel
theorem dX7_rehearse_4 : decode cX7_rehearse 4 = .ok (.aload_n 0, 1) := by decide +kernel
theorem dX7_rehearse_5 : decode cX7_rehearse 5 = .ok (.getfield 14, 3) := by decide +kernel
theorem dX7_rehearse_8 : decode cX7_rehearse 8 = .ok (.invokevirtual 120, 3) := by decide +kernel
theorem dX7_rehearse_11 : decode cX7_rehearse 11 = .ok (.aload_n 0, 1) := by decide +kernel
theorem dX7_rehearse_12 : decode cX7_rehearse 12 = .ok (.getfield 18, 3) := by decide +kernel
theorem dX7_rehearse_15 : decode cX7_rehearse 15 = .ok (.getfield 49, 3) := by decide +kernel
theorem dX7_rehearse_18 : decode cX7_rehearse 18 = .ok (.iconst 0, 1) := by decide +kernel
theorem dX7_rehearse_19 : decode cX7_rehearse 19 = .ok (.iload_n 1, 1) := by decide +kernel
theorem dX7_rehearse_20 : decode cX7_rehearse 20 = .ok (.iastore, 1) := by decide +kernel
theorem dX7_rehearse_21 : decode cX7_rehearse 21 = .ok (.aload_n 0, 1) := by decide +kernel
theorem dX7_rehearse_22 : decode cX7_rehearse 22 = .ok (.getfield 18, 3) := by decide +kernel
theorem dX7_rehearse_25 : decode cX7_rehearse 25 = .ok (.getfield 49, 3) := by decide +kernel
theorem dX7_rehearse_28 : decode cX7_rehearse 28 = .ok (.iconst 1, 1) := by decide +kernel
theorem dX7_rehearse_29 : decode cX7_rehearse 29 = .ok (.iload_n 2, 1) := by decide +kernel
theorem dX7_rehearse_30 : decode cX7_rehearse 30 = .ok (.iastore, 1) := by decide +kernel
theorem dX7_rehearse_31 : decode cX7_rehearse 31 = .ok (.aload_n 0, 1) := by decide +kernel
theorem dX7_rehearse_32 : decode cX7_rehearse 32 = .ok (.getfield 18, 3) := by decide +kernel
theorem dX7_rehearse_35 : decode cX7_rehearse 35 = .ok (.invokevirtual 59, 3) := by decide +kernel
theorem dX7_rehearse_38 : decode cX7_rehearse 38 = .ok (.return_, 1) := by decide +kernel
theorem dX7_feed_0 : decode cX7_feed 0 = .ok (.iload_n 1, 1) := by decide +kernel
theorem dX7_feed_1 : decode cX7_feed 1 = .ok (.ifCond .lt 9, 3) := by decide +kernel
theorem dX7_feed_4 : decode cX7_feed 4 = .ok (.iload_n 1, 1) := by decide +kernel
theorem dX7_feed_5 : decode cX7_feed 5 = .ok (.bipush 127, 2) := by decide +kernel
theorem dX7_feed_7 : decode cX7_feed 7 = .ok (.if_icmp .le 6, 3) := by decide +kernel
theorem dX7_feed_10 : decode cX7_feed 10 = .ok (.bipush (-2), 2) := by decide +kernel
theorem dX7_feed_12 : decode cX7_feed 12 = .ok (.ireturn, 1) := by decide +kernel
theorem dX7_feed_13 : decode cX7_feed 13 = .ok (.aload_n 0, 1) := by decide +kernel
theorem dX7_feed_14 : decode cX7_feed 14 = .ok (.getfield 24, 3) := by decide +kernel
theorem dX7_feed_17 : decode cX7_feed 17 = .ok (.getfield 124, 3) := by decide +kernel
theorem dX7_feed_20 : decode cX7_feed 20 = .ok (.bipush 100, 2) := by decide +kernel
theorem dX7_feed_22 : decode cX7_feed 22 = .ok (.if_icmp .lt 6, 3) := by decide +kernel
theorem dX7_feed_25 : decode cX7_feed 25 = .ok (.bipush (-4), 2) := by decide +kernel
theorem dX7_feed_27 : decode cX7_feed 27 = .ok (.ireturn, 1) := by decide +kernel
theorem dX7_feed_28 : decode cX7_feed 28 = .ok (.aload_n 0, 1) := by decide +kernel
theorem dX7_feed_29 : decode cX7_feed 29 = .ok (.getfield 24, 3) := by decide +kernel
theorem dX7_feed_32 : decode cX7_feed 32 = .ok (.getfield 127, 3) := by decide +kernel
theorem dX7_feed_35 : decode cX7_feed 35 = .ok (.aload_n 0, 1) := by decide +kernel
theorem dX7_feed_36 : decode cX7_feed 36 = .ok (.getfield 24, 3) := by decide +kernel
theorem dX7_feed_39 : decode cX7_feed 39 = .ok (.getfield 124, 3) := by decide +kernel
theorem dX7_feed_42 : decode cX7_feed 42 = .ok (.iload_n 1, 1) := by decide +kernel
theorem dX7_feed_43 : decode cX7_feed 43 = .ok (.iastore, 1) := by decide +kernel
theorem dX7_feed_44 : decode cX7_feed 44 = .ok (.aload_n 0, 1) := by decide +kernel
theorem dX7_feed_45 : decode cX7_feed 45 = .ok (.getfield 24, 3) := by decide +kernel
theorem dX7_feed_48 : decode cX7_feed 48 = .ok (.dup, 1) := by decide +kernel
theorem dX7_feed_49 : decode cX7_feed 49 = .ok (.getfield 124, 3) := by decide +kernel
theorem dX7_feed_52 : decode cX7_feed 52 = .ok (.iconst 1, 1) := by decide +kernel
theorem dX7_feed_53 : decode cX7_feed 53 = .ok (.iadd, 1) := by decide +kernel
theorem dX7_feed_54 : decode cX7_feed 54 = .ok (.putfield 124, 3) := by decide +kernel
theorem dX7_feed_57 : decode cX7_feed 57 = .ok (.aload_n 0, 1) := by decide +kernel
theorem dX7_feed_58 : decode cX7_feed 58 = .ok (.getfield 24, 3) := by decide +kernel
theorem dX7_feed_61 : decode cX7_feed 61 = .ok (.getfield 124, 3) := by decide +kernel
theorem dX7_feed_64 : decode cX7_feed 64 = .ok (.ireturn, 1) := by decide +kernel
set_option maxRecDepth 20000 in
theorem ggX7_trace_X5_readInto : GoodIn wsX7_trace wsX5_readInto := goodIn_r _ [9, 10, 11, 12, 13, 14, 15, 8, 16, 17, 18, 19, 20, 21, 22, 23, 24, 25, 26, 27, 28, 29, 30, 31, 32, 40, 41, 42, 43, 44, 45, 46] (by decide +kernel) (by decide +kernel)
set_option maxRecDepth 20000 in
theorem gX7_trace_X5_readInto : GoodIn wsX7_trace (wsV RX7 133 RX5 yX5_readInto wsX5_readInto) := goodIn_app (goodIn_of _ (by decide +kernel)) ggX7_trace_X5_readInto
theorem dX7_trace_0 : decode cX7_trace 0 = .ok (.aload_n 0, 1) := by decide +kernel
theorem dX7_trace_1 : decode cX7_trace 1 = .ok (.getfield 130, 3) := by decide +kernel
theorem dX7_trace_4 : decode cX7_trace 4 = .ok (.bipush 6, 2) := by decide +kernel
theorem dX7_trace_6 : decode cX7_trace 6 = .ok (.if_icmp .lt 6, 3) := by decide +kernel
theorem dX7_trace_9 : decode cX7_trace 9 = .ok (.bipush (-4), 2) := by decide +kernel
theorem dX7_trace_11 : decode cX7_trace 11 = .ok (.ireturn, 1) := by decide +kernel
theorem dX7_trace_12 : decode cX7_trace 12 = .ok (.aload_n 0, 1) := by decide +kernel
theorem dX7_trace_13 : decode cX7_trace 13 = .ok (.getfield 24, 3) := by decide +kernel
theorem dX7_trace_16 : decode cX7_trace 16 = .ok (.aload_n 0, 1) := by decide +kernel
theorem dX7_trace_17 : decode cX7_trace 17 = .ok (.getfield 30, 3) := by decide +kernel
theorem dX7_trace_20 : decode cX7_trace 20 = .ok (.aload_n 0, 1) := by decide +kernel
theorem dX7_trace_21 : decode cX7_trace 21 = .ok (.getfield 130, 3) := by decide +kernel
theorem dX7_trace_24 : decode cX7_trace 24 = .ok (.aaload, 1) := by decide +kernel
theorem dX7_trace_25 : decode cX7_trace 25 = .ok (.invokevirtual 133, 3) := by decide +kernel
theorem dX7_trace_28 : decode cX7_trace 28 = .ok (.istore_n 1, 1) := by decide +kernel
theorem dX7_trace_29 : decode cX7_trace 29 = .ok (.aload_n 0, 1) := by decide +kernel
theorem dX7_trace_30 : decode cX7_trace 30 = .ok (.getfield 24, 3) := by decide +kernel
theorem dX7_trace_33 : decode cX7_trace 33 = .ok (.iconst 0, 1) := by decide +kernel
theorem dX7_trace_34 : decode cX7_trace 34 = .ok (.putfield 124, 3) := by decide +kernel
theorem dX7_trace_37 : decode cX7_trace 37 = .ok (.iload_n 1, 1) := by decide +kernel
theorem dX7_trace_38 : decode cX7_trace 38 = .ok (.ifCond .lt 8, 3) := by decide +kernel
theorem dX7_trace_41 : decode cX7_trace 41 = .ok (.bipush (-10), 2) := by decide +kernel
theorem dX7_trace_43 : decode cX7_trace 43 = .ok (.iload_n 1, 1) := by decide +kernel
theorem dX7_trace_44 : decode cX7_trace 44 = .ok (.isub, 1) := by decide +kernel
theorem dX7_trace_45 : decode cX7_trace 45 = .ok (.ireturn, 1) := by decide +kernel
theorem dX7_trace_46 : decode cX7_trace 46 = .ok (.aload_n 0, 1) := by decide +kernel
theorem dX7_trace_47 : decode cX7_trace 47 = .ok (.dup, 1) := by decide +kernel
theorem dX7_trace_48 : decode cX7_trace 48 = .ok (.getfield 130, 3) := by decide +kernel
theorem dX7_trace_51 : decode cX7_trace 51 = .ok (.iconst 1, 1) := by decide +kernel
theorem dX7_trace_52 : decode cX7_trace 52 = .ok (.iadd, 1) := by decide +kernel
theorem dX7_trace_53 : decode cX7_trace 53 = .ok (.putfield 130, 3) := by decide +kernel
theorem dX7_trace_56 : decode cX7_trace 56 = .ok (.aload_n 0, 1) := by decide +kernel
theorem dX7_trace_57 : decode cX7_trace 57 = .ok (.getfield 130, 3) := by decide +kernel
theorem dX7_trace_60 : decode cX7_trace 60 = .ok (.iconst 1, 1) := by decide +kernel
theorem dX7_trace_61 : decode cX7_trace 61 = .ok (.isub, 1) := by decide +kernel
theorem dX7_trace_62 : decode cX7_trace 62 = .ok (.ireturn, 1) := by decide +kernel
set_option maxRecDepth 20000 in
theorem ggX7_run_X7_isTrace : GoodIn wsX7_run wsX7_isTrace := goodIn_r _ [7, 8, 114, 115, 116, 117, 118, 119, 120] (by decide +kernel) (by decide +kernel)
set_option maxRecDepth 20000 in
theorem gX7_run_X7_isTrace : GoodIn wsX7_run (wsV RX7 137 RX7 yX7_isTrace wsX7_isTrace) := goodIn_app (goodIn_of _ (by decide +kernel)) ggX7_run_X7_isTrace
set_option maxRecDepth 20000 in
theorem ggX7_run_X3_perform : GoodIn wsX7_run wsX3_perform := goodIn_r _ [13, 14, 15, 16, 17, 18, 19, 20, 21, 22, 12, 23, 24, 25, 26, 27, 28, 29, 30, 31, 32, 33, 34, 35, 36, 37, 38, 39, 40, 41, 42, 43, 44, 45, 46, 47, 48, 49, 50, 51, 52, 53, 54, 55, 56, 57, 58, 59, 60, 61, 62, 63, 64, 65, 66, 67, 68, 69, 70, 71, 72, 73, 74, 75, 76, 77, 78, 79, 80, 81, 82, 83, 84, 85, 86, 87, 88, 89, 90, 91, 92, 93, 94, 95, 96, 97, 98, 99, 100, 101, 102, 103, 104, 105, 106, 107, 108, 109, 110, 111, 112, 113, 121, 122, 123, 124, 125, 126, 127, 128, 129, 130, 131, 132, 133, 134, 135, 136] (by decide +kernel) (by decide +kernel)
set_option maxRecDepth 20000 in
theorem gX7_run_X3_perform : GoodIn wsX7_run (wsV RX7 140 RX3 yX3_perform wsX3_perform) := goodIn_app (goodIn_of _ (by decide +kernel)) ggX7_run_X3_perform
theorem dX7_run_0 : decode cX7_run 0 = .ok (.aload_n 0, 1) := by decide +kernel
theorem dX7_run_1 : decode cX7_run 1 = .ok (.iload_n 1, 1) := by decide +kernel
theorem dX7_run_2 : decode cX7_run 2 = .ok (.invokevirtual 137, 3) := by decide +kernel
theorem dX7_run_5 : decode cX7_run 5 = .ok (.ifCond .ne 5, 3) := by decide +kernel
theorem dX7_run_8 : decode cX7_run 8 = .ok (.iconst (-1), 1) := by decide +kernel
theorem dX7_run_9 : decode cX7_run 9 = .ok (.ireturn, 1) := by decide +kernel
theorem dX7_run_10 : decode cX7_run 10 = .ok (.aload_n 0, 1) := by decide +kernel
theorem dX7_run_11 : decode cX7_run 11 = .ok (.getfield 14, 3) := by decide +kernel
theorem dX7_run_14 : decode cX7_run 14 = .ok (.aload_n 0, 1) := by decide +kernel
theorem dX7_run_15 : decode cX7_run 15 = .ok (.getfield 30, 3) := by decide +kernel
theorem dX7_run_18 : decode cX7_run 18 = .ok (.iload_n 1, 1) := by decide +kernel
theorem dX7_run_19 : decode cX7_run 19 = .ok (.aaload, 1) := by decide +kernel
theorem dX7_run_20 : decode cX7_run 20 = .ok (.invokevirtual 140, 3) := by decide +kernel
theorem dX7_run_23 : decode cX7_run 23 = .ok (.ireturn, 1) := by decide +kernel
set_option maxRecDepth 20000 in
theorem ggX7_would_X7_isTrace : GoodIn wsX7_would wsX7_isTrace := goodIn_r _ [12, 13, 148, 149, 150, 151, 152, 153, 154] (by decide +kernel) (by decide +kernel)
set_option maxRecDepth 20000 in
theorem gX7_would_X7_isTrace : GoodIn wsX7_would (wsV RX7 137 RX7 yX7_isTrace wsX7_isTrace) := goodIn_app (goodIn_of _ (by decide +kernel)) ggX7_would_X7_isTrace
set_option maxRecDepth 20000 in
theorem ggX7_would_X3_copyFrom : GoodIn wsX7_would wsX3_copyFrom := goodIn_r _ [18, 19, 20, 21, 22, 23, 24, 25, 26, 27, 28, 29, 30, 31, 32, 33, 34, 35, 36, 37, 38, 39, 40, 41, 42, 43, 44, 45, 46, 47, 48, 49, 50, 51, 52, 53, 54, 55, 155, 156, 157, 158, 159, 160, 163, 164, 165, 166, 161, 162, 167, 168, 169] (by decide +kernel) (by decide +kernel)
set_option maxRecDepth 20000 in
theorem gX7_would_X3_copyFrom : GoodIn wsX7_would (wsV RX7 120 RX3 yX3_copyFrom wsX3_copyFrom) := goodIn_app (goodIn_of _ (by decide +kernel)) ggX7_would_X3_copyFrom
set_option maxRecDepth 20000 in
theorem ggX7_would_X3_perform : GoodIn wsX7_would wsX3_perform := goodIn_r _ [59, 24, 60, 61, 62, 63, 19, 64, 65, 66, 17, 67, 26, 68, 69, 70, 71, 72, 73, 74, 75, 76, 77, 78, 79, 80, 81, 82, 83, 25, 84, 85, 86, 32, 87, 37, 38, 34, 36, 88, 89, 90, 91, 92, 93, 94, 95, 96, 97, 98, 99, 100, 101, 102, 103, 104, 105, 106, 107, 108, 109, 110, 111, 112, 113, 27, 114, 115, 116, 117, 118, 119, 120, 42, 121, 44, 46, 122, 123, 124, 125, 126, 127, 128, 129, 130, 131, 132, 133, 134, 135, 136, 137, 138, 139, 140, 141, 142, 143, 144, 145, 146, 155, 156, 157, 158, 159, 160, 170, 171, 172, 173, 163, 164, 165, 166, 161, 162] (by decide +kernel) (by decide +kernel)
set_option maxRecDepth 20000 in
theorem gX7_would_X3_perform : GoodIn wsX7_would (wsV RX7 140 RX3 yX3_perform wsX3_perform) := goodIn_app (goodIn_of _ (by decide +kernel)) ggX7_would_X3_perform
set_option maxRecDepth 20000 in
theorem ggX7_would_X3_weightOfThings : GoodIn wsX7_would wsX3_weightOfThings := goodIn_r _ [117, 25, 101, 155, 156, 157, 158, 159, 160, 163, 164, 165, 166] (by decide +kernel) (by decide +kernel)
set_option maxRecDepth 20000 in
theorem gX7_would_X3_weightOfThings : GoodIn wsX7_would (wsV RX7 143 RX3 yX3_weightOfThings wsX3_weightOfThings) := goodIn_app (goodIn_of _ (by decide +kernel)) ggX7_would_X3_weightOfThings
theorem dX7_would_0 : decode cX7_would 0 = .ok (.aload_n 0, 1) := by decide +kernel
theorem dX7_would_1 : decode cX7_would 1 = .ok (.iload_n 1, 1) := by decide +kernel
theorem dX7_would_2 : decode cX7_would 2 = .ok (.invokevirtual 137, 3) := by decide +kernel
theorem dX7_would_5 : decode cX7_would 5 = .ok (.ifCond .eq 12, 3) := by decide +kernel
theorem dX7_would_8 : decode cX7_would 8 = .ok (.iload_n 2, 1) := by decide +kernel
theorem dX7_would_9 : decode cX7_would 9 = .ok (.ifCond .lt 8, 3) := by decide +kernel
theorem dX7_would_12 : decode cX7_would 12 = .ok (.iload_n 2, 1) := by decide +kernel
theorem dX7_would_13 : decode cX7_would 13 = .ok (.iconst 5, 1) := by decide +kernel
theorem dX7_would_14 : decode cX7_would 14 = .ok (.if_icmp .le 5, 3) := by decide +kernel
theorem dX7_would_17 : decode cX7_would 17 = .ok (.iconst (-1), 1) := by decide +kernel
theorem dX7_would_18 : decode cX7_would 18 = .ok (.ireturn, 1) := by decide +kernel
theorem dX7_would_19 : decode cX7_would 19 = .ok (.aload_n 0, 1) := by decide +kernel
theorem dX7_would_20 : decode cX7_would 20 = .ok (.getfield 18, 3) := by decide +kernel
theorem dX7_would_23 : decode cX7_would 23 = .ok (.aload_n 0, 1) := by decide +kernel
theorem dX7_would_24 : decode cX7_would 24 = .ok (.getfield 14, 3) := by decide +kernel
theorem dX7_would_27 : decode cX7_would 27 = .ok (.invokevirtual 120, 3) := by decide +kernel
theorem dX7_would_30 : decode cX7_would 30 = .ok (.aload_n 0, 1) := by decide +kernel
theorem dX7_would_31 : decode cX7_would 31 = .ok (.getfield 18, 3) := by decide +kernel
theorem dX7_would_34 : decode cX7_would 34 = .ok (.aload_n 0, 1) := by decide +kernel
theorem dX7_would_35 : decode cX7_would 35 = .ok (.getfield 30, 3) := by decide +kernel
theorem dX7_would_38 : decode cX7_would 38 = .ok (.iload_n 1, 1) := by decide +kernel
theorem dX7_would_39 : decode cX7_would 39 = .ok (.aaload, 1) := by decide +kernel
theorem dX7_would_40 : decode cX7_would 40 = .ok (.invokevirtual 140, 3) := by decide +kernel
theorem dX7_would_43 : decode cX7_would 43 = .ok (.pop, 1) := by decide +kernel
theorem dX7_would_44 : decode cX7_would 44 = .ok (.iload_n 2, 1) := by decide +kernel
theorem dX7_would_45 : decode cX7_would 45 = .ok (.tableswitch 113 0 4 #[35, 55, 75, 95, 105], 35) := by decide +kernel
theorem dX7_would_80 : decode cX7_would 80 = .ok (.aload_n 0, 1) := by decide +kernel
theorem dX7_would_81 : decode cX7_would 81 = .ok (.getfield 18, 3) := by decide +kernel
theorem dX7_would_84 : decode cX7_would 84 = .ok (.getfield 71, 3) := by decide +kernel
theorem dX7_would_87 : decode cX7_would 87 = .ok (.iconst 0, 1) := by decide +kernel
theorem dX7_would_88 : decode cX7_would 88 = .ok (.iaload, 1) := by decide +kernel
theorem dX7_would_89 : decode cX7_would 89 = .ok (.aload_n 0, 1) := by decide +kernel
theorem dX7_would_90 : decode cX7_would 90 = .ok (.getfield 14, 3) := by decide +kernel
theorem dX7_would_93 : decode cX7_would 93 = .ok (.getfield 71, 3) := by decide +kernel
theorem dX7_would_96 : decode cX7_would 96 = .ok (.iconst 0, 1) := by decide +kernel
theorem dX7_would_97 : decode cX7_would 97 = .ok (.iaload, 1) := by decide +kernel
theorem dX7_would_98 : decode cX7_would 98 = .ok (.isub, 1) := by decide +kernel
theorem dX7_would_99 : decode cX7_would 99 = .ok (.ireturn, 1) := by decide +kernel
theorem dX7_would_100 : decode cX7_would 100 = .ok (.aload_n 0, 1) := by decide +kernel
theorem dX7_would_101 : decode cX7_would 101 = .ok (.getfield 18, 3) := by decide +kernel
theorem dX7_would_104 : decode cX7_would 104 = .ok (.getfield 71, 3) := by decide +kernel
theorem dX7_would_107 : decode cX7_would 107 = .ok (.iconst 1, 1) := by decide +kernel
theorem dX7_would_108 : decode cX7_would 108 = .ok (.iaload, 1) := by decide +kernel
theorem dX7_would_109 : decode cX7_would 109 = .ok (.aload_n 0, 1) := by decide +kernel
theorem dX7_would_110 : decode cX7_would 110 = .ok (.getfield 14, 3) := by decide +kernel
theorem dX7_would_113 : decode cX7_would 113 = .ok (.getfield 71, 3) := by decide +kernel
theorem dX7_would_116 : decode cX7_would 116 = .ok (.iconst 1, 1) := by decide +kernel
theorem dX7_would_117 : decode cX7_would 117 = .ok (.iaload, 1) := by decide +kernel
theorem dX7_would_118 : decode cX7_would 118 = .ok (.isub, 1) := by decide +kernel
theorem dX7_would_119 : decode cX7_would 119 = .ok (.ireturn, 1) := by decide +kernel
theorem dX7_would_120 : decode cX7_would 120 = .ok (.aload_n 0, 1) := by decide +kernel
theorem dX7_would_121 : decode cX7_would 121 = .ok (.getfield 18, 3) := by decide +kernel
theorem dX7_would_124 : decode cX7_would 124 = .ok (.getfield 71, 3) := by decide +kernel
theorem dX7_would_127 : decode cX7_would 127 = .ok (.iconst 2, 1) := by decide +kernel
theorem dX7_would_128 : decode cX7_would 128 = .ok (.iaload, 1) := by decide +kernel
theorem dX7_would_129 : decode cX7_would 129 = .ok (.aload_n 0, 1) := by decide +kernel
theorem dX7_would_130 : decode cX7_would 130 = .ok (.getfield 14, 3) := by decide +kernel
theorem dX7_would_133 : decode cX7_would 133 = .ok (.getfield 71, 3) := by decide +kernel
theorem dX7_would_136 : decode cX7_would 136 = .ok (.iconst 2, 1) := by decide +kernel
theorem dX7_would_137 : decode cX7_would 137 = .ok (.iaload, 1) := by decide +kernel
theorem dX7_would_138 : decode cX7_would 138 = .ok (.isub, 1) := by decide +kernel
theorem dX7_would_139 : decode cX7_would 139 = .ok (.ireturn, 1) := by decide +kernel
theorem dX7_would_140 : decode cX7_would 140 = .ok (.aload_n 0, 1) := by decide +kernel
theorem dX7_would_141 : decode cX7_would 141 = .ok (.getfield 18, 3) := by decide +kernel
theorem dX7_would_144 : decode cX7_would 144 = .ok (.getfield 49, 3) := by decide +kernel
theorem dX7_would_147 : decode cX7_would 147 = .ok (.iconst 1, 1) := by decide +kernel
theorem dX7_would_148 : decode cX7_would 148 = .ok (.iaload, 1) := by decide +kernel
theorem dX7_would_149 : decode cX7_would 149 = .ok (.ireturn, 1) := by decide +kernel
theorem dX7_would_150 : decode cX7_would 150 = .ok (.aload_n 0, 1) := by decide +kernel
theorem dX7_would_151 : decode cX7_would 151 = .ok (.getfield 18, 3) := by decide +kernel
theorem dX7_would_154 : decode cX7_would 154 = .ok (.invokevirtual 143, 3) := by decide +kernel
theorem dX7_would_157 : decode cX7_would 157 = .ok (.ireturn, 1) := by decide +kernel
theorem dX7_would_158 : decode cX7_would 158 = .ok (.aload_n 0, 1) := by decide +kernel
theorem dX7_would_159 : decode cX7_would 159 = .ok (.getfield 18, 3) := by decide +kernel
theorem dX7_would_162 : decode cX7_would 162 = .ok (.getfield 74, 3) := by decide +kernel
theorem dX7_would_165 : decode cX7_would 165 = .ok (.getfield 78, 3) := by decide +kernel
theorem dX7_would_168 : decode cX7_would 168 = .ok (.aload_n 0, 1) := by decide +kernel
theorem dX7_would_169 : decode cX7_would 169 = .ok (.getfield 14, 3) := by decide +kernel
theorem dX7_would_172 : decode cX7_would 172 = .ok (.getfield 74, 3) := by decide +kernel
theorem dX7_would_175 : decode cX7_would 175 = .ok (.getfield 78, 3) := by decide +kernel
theorem dX7_would_178 : decode cX7_would 178 = .ok (.isub, 1) := by decide +kernel
theorem dX7_would_179 : decode cX7_would 179 = .ok (.ireturn, 1) := by decide +kernel
set_option maxRecDepth 20000 in
theorem ggX7_need_X7_isTrace : GoodIn wsX7_need wsX7_isTrace := goodIn_r _ [13, 14, 150, 151, 152, 153, 154, 155, 156] (by decide +kernel) (by decide +kernel)
set_option maxRecDepth 20000 in
theorem gX7_need_X7_isTrace : GoodIn wsX7_need (wsV RX7 137 RX7 yX7_isTrace wsX7_isTrace) := goodIn_app (goodIn_of _ (by decide +kernel)) ggX7_need_X7_isTrace
set_option maxRecDepth 20000 in
theorem ggX7_need_X7_rehearse : GoodIn wsX7_need wsX7_rehearse := goodIn_r _ [18, 7, 1, 2, 19, 20, 21, 22, 23, 24, 25, 26, 27, 28, 29, 30, 31, 32, 33, 34, 35, 36, 37, 38, 39, 40, 41, 42, 43, 44, 45, 46, 47, 48, 49, 50, 51, 52, 53, 54, 55, 56, 57, 58, 59, 60, 61, 62, 63, 64, 65, 66, 67, 68, 69, 70, 71, 72, 73, 74, 75, 76, 77, 78, 79, 80, 81, 82, 83, 84, 85, 86, 87, 88, 89, 90, 91, 92, 93, 94, 95, 96, 97, 98, 99, 100, 101, 102, 103, 104, 105, 106, 107, 108, 109, 110, 111, 112, 150, 151, 152, 153, 154, 155, 156, 157, 158, 159, 160, 161, 162, 163, 164, 165, 166, 167, 168, 169, 170, 171] (by decide +kernel) (by decide +kernel)
set_option maxRecDepth 20000 in
theorem gX7_need_X7_rehearse : GoodIn wsX7_need (wsV RX7 117 RX7 yX7_rehearse wsX7_rehearse) := goodIn_app (goodIn_of _ (by decide +kernel)) ggX7_need_X7_rehearse
set_option maxRecDepth 20000 in
theorem ggX7_need_X3_perform : GoodIn wsX7_need wsX3_perform := goodIn_r _ [116, 29, 117, 118, 119, 120, 24, 121, 122, 123, 22, 124, 31, 125, 126, 127, 128, 129, 130, 131, 132, 133, 4, 5, 6, 79, 80, 81, 82, 30, 83, 84, 85, 37, 86, 42, 43, 39, 41, 87, 88, 89, 90, 134, 62, 63, 64, 65, 66, 67, 68, 69, 70, 71, 72, 73, 74, 75, 76, 77, 78, 91, 92, 93, 94, 32, 95, 96, 97, 98, 99, 100, 101, 47, 102, 49, 51, 103, 104, 105, 106, 107, 108, 109, 110, 111, 112, 135, 136, 137, 138, 139, 140, 141, 142, 143, 144, 145, 146, 147, 148, 149, 157, 158, 159, 160, 161, 162, 172, 173, 174, 175, 163, 164, 165, 166, 167, 168] (by decide +kernel) (by decide +kernel)
set_option maxRecDepth 20000 in
theorem gX7_need_X3_perform : GoodIn wsX7_need (wsV RX7 140 RX3 yX3_perform wsX3_perform) := goodIn_app (goodIn_of _ (by decide +kernel)) ggX7_need_X3_perform
theorem dX7_need_0 : decode cX7_need 0 = .ok (.aload_n 0, 1) := by decide +kernel
theorem dX7_need_1 : decode cX7_need 1 = .ok (.iload_n 1, 1) := by decide +kernel
theorem dX7_need_2 : decode cX7_need 2 = .ok (.invokevirtual 137, 3) := by decide +kernel
theorem dX7_need_5 : decode cX7_need 5 = .ok (.ifCond .ne 5, 3) := by decide +kernel
theorem dX7_need_8 : decode cX7_need 8 = .ok (.iconst (-1), 1) := by decide +kernel
theorem dX7_need_9 : decode cX7_need 9 = .ok (.ireturn, 1) := by decide +kernel
theorem dX7_need_10 : decode cX7_need 10 = .ok (.iload_n 2, 1) := by decide +kernel
theorem dX7_need_11 : decode cX7_need 11 = .ok (.ifCond .lt 9, 3) := by decide +kernel
theorem dX7_need_14 : decode cX7_need 14 = .ok (.iload_n 2, 1) := by decide +kernel
theorem dX7_need_15 : decode cX7_need 15 = .ok (.bipush 20, 2) := by decide +kernel
theorem dX7_need_17 : decode cX7_need 17 = .ok (.if_icmp .le 6, 3) := by decide +kernel
theorem dX7_need_20 : decode cX7_need 20 = .ok (.bipush (-2), 2) := by decide +kernel
theorem dX7_need_22 : decode cX7_need 22 = .ok (.ireturn, 1) := by decide +kernel
theorem dX7_need_23 : decode cX7_need 23 = .ok (.iconst 1, 1) := by decide +kernel
theorem dX7_need_24 : decode cX7_need 24 = .ok (.istore_n 3, 1) := by decide +kernel
theorem dX7_need_25 : decode cX7_need 25 = .ok (.iload_n 3, 1) := by decide +kernel
theorem dX7_need_26 : decode cX7_need 26 = .ok (.bipush 60, 2) := by decide +kernel
theorem dX7_need_28 : decode cX7_need 28 = .ok (.if_icmp .gt 46, 3) := by decide +kernel
theorem dX7_need_31 : decode cX7_need 31 = .ok (.aload_n 0, 1) := by decide +kernel
theorem dX7_need_32 : decode cX7_need 32 = .ok (.iload_n 3, 1) := by decide +kernel
theorem dX7_need_33 : decode cX7_need 33 = .ok (.aload_n 0, 1) := by decide +kernel
theorem dX7_need_34 : decode cX7_need 34 = .ok (.getfield 14, 3) := by decide +kernel
theorem dX7_need_37 : decode cX7_need 37 = .ok (.getfield 49, 3) := by decide +kernel
theorem dX7_need_40 : decode cX7_need 40 = .ok (.iconst 1, 1) := by decide +kernel
theorem dX7_need_41 : decode cX7_need 41 = .ok (.iaload, 1) := by decide +kernel
theorem dX7_need_42 : decode cX7_need 42 = .ok (.iload_n 3, 1) := by decide +kernel
theorem dX7_need_43 : decode cX7_need 43 = .ok (.invokestatic 53, 3) := by decide +kernel
theorem dX7_need_46 : decode cX7_need 46 = .ok (.invokevirtual 117, 3) := by decide +kernel
theorem dX7_need_49 : decode cX7_need 49 = .ok (.aload_n 0, 1) := by decide +kernel
theorem dX7_need_50 : decode cX7_need 50 = .ok (.getfield 18, 3) := by decide +kernel
theorem dX7_need_53 : decode cX7_need 53 = .ok (.aload_n 0, 1) := by decide +kernel
theorem dX7_need_54 : decode cX7_need 54 = .ok (.getfield 30, 3) := by decide +kernel
theorem dX7_need_57 : decode cX7_need 57 = .ok (.iload_n 1, 1) := by decide +kernel
theorem dX7_need_58 : decode cX7_need 58 = .ok (.aaload, 1) := by decide +kernel
theorem dX7_need_59 : decode cX7_need 59 = .ok (.invokevirtual 140, 3) := by decide +kernel
theorem dX7_need_62 : decode cX7_need 62 = .ok (.iload_n 2, 1) := by decide +kernel
theorem dX7_need_63 : decode cX7_need 63 = .ok (.if_icmp .lt 5, 3) := by decide +kernel
theorem dX7_need_66 : decode cX7_need 66 = .ok (.iload_n 3, 1) := by decide +kernel
theorem dX7_need_67 : decode cX7_need 67 = .ok (.ireturn, 1) := by decide +kernel
theorem dX7_need_68 : decode cX7_need 68 = .ok (.iinc 3 1, 3) := by decide +kernel
theorem dX7_need_71 : decode cX7_need 71 = .ok (.goto (-46), 3) := by decide +kernel
theorem dX7_need_74 : decode cX7_need 74 = .ok (.bipush (-5), 2) := by decide +kernel
theorem dX7_need_76 : decode cX7_need 76 = .ok (.ireturn, 1) := by decide +kernel
set_option maxRecDepth 20000 in
theorem ggX7_odds_X7_isTrace : GoodIn wsX7_odds wsX7_isTrace := goodIn_r _ [10, 11, 160, 161, 162, 163, 164, 165, 166] (by decide +kernel) (by decide +kernel)
set_option maxRecDepth 20000 in
theorem gX7_odds_X7_isTrace : GoodIn wsX7_odds (wsV RX7 137 RX7 yX7_isTrace wsX7_isTrace) := goodIn_app (goodIn_of _ (by decide +kernel)) ggX7_odds_X7_isTrace
set_option maxRecDepth 20000 in
theorem ggX7_odds_X7_isPart : GoodIn wsX7_odds wsX7_isPart := goodIn_r _ [14] (by decide +kernel) (by decide +kernel)
set_option maxRecDepth 20000 in
theorem gX7_odds_X7_isPart : GoodIn wsX7_odds (va_wsS RX7 147 yX7_isPart wsX7_isPart) := goodIn_app (goodIn_of _ (by decide +kernel)) ggX7_odds_X7_isPart
set_option maxRecDepth 20000 in
theorem ggX7_odds_X7_rehearse : GoodIn wsX7_odds wsX7_rehearse := goodIn_r _ [18, 4, 2, 3, 19, 20, 21, 22, 23, 24, 25, 26, 27, 28, 29, 30, 31, 32, 33, 34, 35, 36, 37, 38, 39, 40, 41, 42, 43, 44, 45, 46, 47, 48, 49, 50, 51, 52, 53, 54, 55, 56, 57, 58, 59, 60, 61, 62, 63, 64, 65, 66, 67, 68, 69, 70, 71, 72, 73, 74, 75, 76, 77, 78, 79, 80, 81, 82, 83, 84, 85, 86, 87, 88, 89, 90, 91, 92, 93, 94, 95, 96, 97, 98, 99, 100, 101, 102, 103, 104, 105, 106, 107, 108, 109, 110, 111, 112, 160, 161, 162, 163, 164, 165, 166, 167, 168, 169, 170, 171, 172, 173, 174, 175, 176, 177, 178, 179, 180, 181] (by decide +kernel) (by decide +kernel)
set_option maxRecDepth 20000 in
theorem gX7_odds_X7_rehearse : GoodIn wsX7_odds (wsV RX7 117 RX7 yX7_rehearse wsX7_rehearse) := goodIn_app (goodIn_of _ (by decide +kernel)) ggX7_odds_X7_rehearse
set_option maxRecDepth 20000 in
theorem ggX7_odds_X3_perform : GoodIn wsX7_odds wsX3_perform := goodIn_r _ [116, 29, 117, 118, 119, 120, 24, 121, 122, 123, 22, 124, 31, 125, 126, 127, 128, 129, 130, 131, 132, 133, 134, 135, 136, 79, 80, 81, 82, 30, 83, 84, 85, 37, 86, 42, 43, 39, 41, 87, 88, 89, 90, 137, 62, 63, 64, 65, 66, 67, 68, 69, 70, 71, 72, 73, 74, 75, 76, 77, 78, 91, 92, 93, 94, 32, 95, 96, 97, 98, 99, 100, 101, 47, 102, 49, 51, 103, 104, 105, 106, 107, 108, 109, 110, 111, 112, 138, 139, 140, 141, 142, 143, 144, 145, 146, 147, 148, 149, 150, 151, 152, 167, 168, 169, 170, 171, 172, 182, 183, 184, 185, 173, 174, 175, 176, 177, 178] (by decide +kernel) (by decide +kernel)
set_option maxRecDepth 20000 in
theorem gX7_odds_X3_perform : GoodIn wsX7_odds (wsV RX7 140 RX3 yX3_perform wsX3_perform) := goodIn_app (goodIn_of _ (by decide +kernel)) ggX7_odds_X3_perform
set_option maxRecDepth 20000 in
theorem ggX7_odds_X7_partOf : GoodIn wsX7_odds wsX7_partOf := goodIn_r _ [155, 1, 156, 157, 9, 158, 159] (by decide +kernel) (by decide +kernel)
set_option maxRecDepth 20000 in
theorem gX7_odds_X7_partOf : GoodIn wsX7_odds (va_wsS RX7 150 yX7_partOf wsX7_partOf) := goodIn_app (goodIn_of _ (by decide +kernel)) ggX7_odds_X7_partOf
theorem dX7_odds_0 : decode cX7_odds 0 = .ok (.aload_n 0, 1) := by decide +kernel
theorem dX7_odds_1 : decode cX7_odds 1 = .ok (.iload_n 1, 1) := by decide +kernel
theorem dX7_odds_2 : decode cX7_odds 2 = .ok (.invokevirtual 137, 3) := by decide +kernel
theorem dX7_odds_5 : decode cX7_odds 5 = .ok (.ifCond .eq 20, 3) := by decide +kernel
theorem dX7_odds_8 : decode cX7_odds 8 = .ok (.iload_n 2, 1) := by decide +kernel
theorem dX7_odds_9 : decode cX7_odds 9 = .ok (.ifCond .lt 16, 3) := by decide +kernel
theorem dX7_odds_12 : decode cX7_odds 12 = .ok (.iload_n 2, 1) := by decide +kernel
theorem dX7_odds_13 : decode cX7_odds 13 = .ok (.bipush 20, 2) := by decide +kernel
theorem dX7_odds_15 : decode cX7_odds 15 = .ok (.if_icmp .gt 10, 3) := by decide +kernel
theorem dX7_odds_18 : decode cX7_odds 18 = .ok (.iload_n 3, 1) := by decide +kernel
theorem dX7_odds_19 : decode cX7_odds 19 = .ok (.invokestatic 147, 3) := by decide +kernel
theorem dX7_odds_22 : decode cX7_odds 22 = .ok (.ifCond .ne 7, 3) := by decide +kernel
theorem dX7_odds_25 : decode cX7_odds 25 = .ok (.ldc2_w 91, 3) := by decide +kernel
theorem dX7_odds_28 : decode cX7_odds 28 = .ok (.lreturn, 1) := by decide +kernel
theorem dX7_odds_29 : decode cX7_odds 29 = .ok (.aload_n 0, 1) := by decide +kernel
theorem dX7_odds_30 : decode cX7_odds 30 = .ok (.getfield 14, 3) := by decide +kernel
theorem dX7_odds_33 : decode cX7_odds 33 = .ok (.getfield 49, 3) := by decide +kernel
theorem dX7_odds_36 : decode cX7_odds 36 = .ok (.iconst 0, 1) := by decide +kernel
theorem dX7_odds_37 : decode cX7_odds 37 = .ok (.iaload, 1) := by decide +kernel
theorem dX7_odds_38 : decode cX7_odds 38 = .ok (.istore 4, 2) := by decide +kernel
theorem dX7_odds_40 : decode cX7_odds 40 = .ok (.iconst 0, 1) := by decide +kernel
theorem dX7_odds_41 : decode cX7_odds 41 = .ok (.istore 5, 2) := by decide +kernel
theorem dX7_odds_43 : decode cX7_odds 43 = .ok (.iconst 0, 1) := by decide +kernel
theorem dX7_odds_44 : decode cX7_odds 44 = .ok (.istore 6, 2) := by decide +kernel
theorem dX7_odds_46 : decode cX7_odds 46 = .ok (.iload 6, 2) := by decide +kernel
theorem dX7_odds_48 : decode cX7_odds 48 = .ok (.iload 4, 2) := by decide +kernel
theorem dX7_odds_50 : decode cX7_odds 50 = .ok (.if_icmp .gt 37, 3) := by decide +kernel
theorem dX7_odds_53 : decode cX7_odds 53 = .ok (.aload_n 0, 1) := by decide +kernel
theorem dX7_odds_54 : decode cX7_odds 54 = .ok (.iload 4, 2) := by decide +kernel
theorem dX7_odds_56 : decode cX7_odds 56 = .ok (.iload 6, 2) := by decide +kernel
theorem dX7_odds_58 : decode cX7_odds 58 = .ok (.invokevirtual 117, 3) := by decide +kernel
theorem dX7_odds_61 : decode cX7_odds 61 = .ok (.aload_n 0, 1) := by decide +kernel
theorem dX7_odds_62 : decode cX7_odds 62 = .ok (.getfield 18, 3) := by decide +kernel
theorem dX7_odds_65 : decode cX7_odds 65 = .ok (.aload_n 0, 1) := by decide +kernel
theorem dX7_odds_66 : decode cX7_odds 66 = .ok (.getfield 30, 3) := by decide +kernel
theorem dX7_odds_69 : decode cX7_odds 69 = .ok (.iload_n 1, 1) := by decide +kernel
theorem dX7_odds_70 : decode cX7_odds 70 = .ok (.aaload, 1) := by decide +kernel
theorem dX7_odds_71 : decode cX7_odds 71 = .ok (.invokevirtual 140, 3) := by decide +kernel
theorem dX7_odds_74 : decode cX7_odds 74 = .ok (.iload_n 2, 1) := by decide +kernel
theorem dX7_odds_75 : decode cX7_odds 75 = .ok (.if_icmp .lt 6, 3) := by decide +kernel
theorem dX7_odds_78 : decode cX7_odds 78 = .ok (.iinc 5 1, 3) := by decide +kernel
theorem dX7_odds_81 : decode cX7_odds 81 = .ok (.iinc 6 1, 3) := by decide +kernel
theorem dX7_odds_84 : decode cX7_odds 84 = .ok (.goto (-38), 3) := by decide +kernel
theorem dX7_odds_87 : decode cX7_odds 87 = .ok (.iload 5, 2) := by decide +kernel
theorem dX7_odds_89 : decode cX7_odds 89 = .ok (.iload 4, 2) := by decide +kernel
theorem dX7_odds_91 : decode cX7_odds 91 = .ok (.iconst 1, 1) := by decide +kernel
theorem dX7_odds_92 : decode cX7_odds 92 = .ok (.iadd, 1) := by decide +kernel
theorem dX7_odds_93 : decode cX7_odds 93 = .ok (.iload_n 3, 1) := by decide +kernel
theorem dX7_odds_94 : decode cX7_odds 94 = .ok (.invokestatic 150, 3) := by decide +kernel
theorem dX7_odds_97 : decode cX7_odds 97 = .ok (.lreturn, 1) := by decide +kernel
set_option maxRecDepth 20000 in
theorem ggX7_mean_X7_isPart : GoodIn wsX7_mean wsX7_isPart := goodIn_r _ [10] (by decide +kernel) (by decide +kernel)
set_option maxRecDepth 20000 in
theorem gX7_mean_X7_isPart : GoodIn wsX7_mean (va_wsS RX7 147 yX7_isPart wsX7_isPart) := goodIn_app (goodIn_of _ (by decide +kernel)) ggX7_mean_X7_isPart
set_option maxRecDepth 20000 in
theorem ggX7_mean_X2_oldest : GoodIn wsX7_mean wsX2_oldest := goodIn_r _ [15, 16, 37, 38, 39, 40] (by decide +kernel) (by decide +kernel)
set_option maxRecDepth 20000 in
theorem gX7_mean_X2_oldest : GoodIn wsX7_mean (wsV RX7 157 RX2 yX2_oldest wsX2_oldest) := goodIn_app (goodIn_of _ (by decide +kernel)) ggX7_mean_X2_oldest
set_option maxRecDepth 20000 in
theorem ggX7_mean_X7_partOf : GoodIn wsX7_mean wsX7_partOf := goodIn_r _ [19, 1, 20, 21, 9, 22, 23] (by decide +kernel) (by decide +kernel)
set_option maxRecDepth 20000 in
theorem gX7_mean_X7_partOf : GoodIn wsX7_mean (va_wsS RX7 150 yX7_partOf wsX7_partOf) := goodIn_app (goodIn_of _ (by decide +kernel)) ggX7_mean_X7_partOf
theorem dX7_mean_0 : decode cX7_mean 0 = .ok (.iload_n 1, 1) := by decide +kernel
theorem dX7_mean_1 : decode cX7_mean 1 = .ok (.iconst 1, 1) := by decide +kernel
theorem dX7_mean_2 : decode cX7_mean 2 = .ok (.if_icmp .eq 8, 3) := by decide +kernel
theorem dX7_mean_5 : decode cX7_mean 5 = .ok (.iload_n 1, 1) := by decide +kernel
theorem dX7_mean_6 : decode cX7_mean 6 = .ok (.iconst 2, 1) := by decide +kernel
theorem dX7_mean_7 : decode cX7_mean 7 = .ok (.if_icmp .ne 10, 3) := by decide +kernel
theorem dX7_mean_10 : decode cX7_mean 10 = .ok (.iload_n 2, 1) := by decide +kernel
theorem dX7_mean_11 : decode cX7_mean 11 = .ok (.invokestatic 147, 3) := by decide +kernel
theorem dX7_mean_14 : decode cX7_mean 14 = .ok (.ifCond .ne 7, 3) := by decide +kernel
theorem dX7_mean_17 : decode cX7_mean 17 = .ok (.ldc2_w 91, 3) := by decide +kernel
theorem dX7_mean_20 : decode cX7_mean 20 = .ok (.lreturn, 1) := by decide +kernel
theorem dX7_mean_21 : decode cX7_mean 21 = .ok (.aload_n 0, 1) := by decide +kernel
theorem dX7_mean_22 : decode cX7_mean 22 = .ok (.getfield 14, 3) := by decide +kernel
theorem dX7_mean_25 : decode cX7_mean 25 = .ok (.getfield 62, 3) := by decide +kernel
theorem dX7_mean_28 : decode cX7_mean 28 = .ok (.getfield 154, 3) := by decide +kernel
theorem dX7_mean_31 : decode cX7_mean 31 = .ok (.iload_n 1, 1) := by decide +kernel
theorem dX7_mean_32 : decode cX7_mean 32 = .ok (.iaload, 1) := by decide +kernel
theorem dX7_mean_33 : decode cX7_mean 33 = .ok (.istore_n 3, 1) := by decide +kernel
theorem dX7_mean_34 : decode cX7_mean 34 = .ok (.iconst 0, 1) := by decide +kernel
theorem dX7_mean_35 : decode cX7_mean 35 = .ok (.istore 4, 2) := by decide +kernel
theorem dX7_mean_37 : decode cX7_mean 37 = .ok (.aload_n 0, 1) := by decide +kernel
theorem dX7_mean_38 : decode cX7_mean 38 = .ok (.getfield 14, 3) := by decide +kernel
theorem dX7_mean_41 : decode cX7_mean 41 = .ok (.getfield 62, 3) := by decide +kernel
theorem dX7_mean_44 : decode cX7_mean 44 = .ok (.iload_n 1, 1) := by decide +kernel
theorem dX7_mean_45 : decode cX7_mean 45 = .ok (.invokevirtual 157, 3) := by decide +kernel
theorem dX7_mean_48 : decode cX7_mean 48 = .ok (.istore 5, 2) := by decide +kernel
theorem dX7_mean_50 : decode cX7_mean 50 = .ok (.iconst 0, 1) := by decide +kernel
theorem dX7_mean_51 : decode cX7_mean 51 = .ok (.istore 6, 2) := by decide +kernel
theorem dX7_mean_53 : decode cX7_mean 53 = .ok (.iload 6, 2) := by decide +kernel
theorem dX7_mean_55 : decode cX7_mean 55 = .ok (.iload_n 3, 1) := by decide +kernel
theorem dX7_mean_56 : decode cX7_mean 56 = .ok (.if_icmp .ge 41, 3) := by decide +kernel
theorem dX7_mean_59 : decode cX7_mean 59 = .ok (.iload 4, 2) := by decide +kernel
theorem dX7_mean_61 : decode cX7_mean 61 = .ok (.aload_n 0, 1) := by decide +kernel
theorem dX7_mean_62 : decode cX7_mean 62 = .ok (.getfield 14, 3) := by decide +kernel
theorem dX7_mean_65 : decode cX7_mean 65 = .ok (.getfield 97, 3) := by decide +kernel
theorem dX7_mean_68 : decode cX7_mean 68 = .ok (.iconst 2, 1) := by decide +kernel
theorem dX7_mean_69 : decode cX7_mean 69 = .ok (.aaload, 1) := by decide +kernel
theorem dX7_mean_70 : decode cX7_mean 70 = .ok (.iload 5, 2) := by decide +kernel
theorem dX7_mean_72 : decode cX7_mean 72 = .ok (.iaload, 1) := by decide +kernel
theorem dX7_mean_73 : decode cX7_mean 73 = .ok (.iadd, 1) := by decide +kernel
theorem dX7_mean_74 : decode cX7_mean 74 = .ok (.istore 4, 2) := by decide +kernel
theorem dX7_mean_76 : decode cX7_mean 76 = .ok (.aload_n 0, 1) := by decide +kernel
theorem dX7_mean_77 : decode cX7_mean 77 = .ok (.getfield 14, 3) := by decide +kernel
theorem dX7_mean_80 : decode cX7_mean 80 = .ok (.getfield 62, 3) := by decide +kernel
theorem dX7_mean_83 : decode cX7_mean 83 = .ok (.getfield 160, 3) := by decide +kernel
theorem dX7_mean_86 : decode cX7_mean 86 = .ok (.iload 5, 2) := by decide +kernel
theorem dX7_mean_88 : decode cX7_mean 88 = .ok (.iaload, 1) := by decide +kernel
theorem dX7_mean_89 : decode cX7_mean 89 = .ok (.istore 5, 2) := by decide +kernel
theorem dX7_mean_91 : decode cX7_mean 91 = .ok (.iinc 6 1, 3) := by decide +kernel
theorem dX7_mean_94 : decode cX7_mean 94 = .ok (.goto (-41), 3) := by decide +kernel
theorem dX7_mean_97 : decode cX7_mean 97 = .ok (.iload 4, 2) := by decide +kernel
theorem dX7_mean_99 : decode cX7_mean 99 = .ok (.iload_n 3, 1) := by decide +kernel
theorem dX7_mean_100 : decode cX7_mean 100 = .ok (.iload_n 2, 1) := by decide +kernel
theorem dX7_mean_101 : decode cX7_mean 101 = .ok (.invokestatic 150, 3) := by decide +kernel
theorem dX7_mean_104 : decode cX7_mean 104 = .ok (.lreturn, 1) := by decide +kernel
theorem dX7_isTrace_0 : decode cX7_isTrace 0 = .ok (.iload_n 1, 1) := by decide +kernel
theorem dX7_isTrace_1 : decode cX7_isTrace 1 = .ok (.ifCond .lt 15, 3) := by decide +kernel
theorem dX7_isTrace_4 : decode cX7_isTrace 4 = .ok (.iload_n 1, 1) := by decide +kernel
theorem dX7_isTrace_5 : decode cX7_isTrace 5 = .ok (.aload_n 0, 1) := by decide +kernel
theorem dX7_isTrace_6 : decode cX7_isTrace 6 = .ok (.getfield 130, 3) := by decide +kernel
theorem dX7_isTrace_9 : decode cX7_isTrace 9 = .ok (.if_icmp .ge 7, 3) := by decide +kernel
theorem dX7_isTrace_12 : decode cX7_isTrace 12 = .ok (.iconst 1, 1) := by decide +kernel
theorem dX7_isTrace_13 : decode cX7_isTrace 13 = .ok (.goto 4, 3) := by decide +kernel
theorem dX7_isTrace_16 : decode cX7_isTrace 16 = .ok (.iconst 0, 1) := by decide +kernel
theorem dX7_isTrace_17 : decode cX7_isTrace 17 = .ok (.ireturn, 1) := by decide +kernel
theorem dX7_isPart_0 : decode cX7_isPart 0 = .ok (.iload_n 0, 1) := by decide +kernel
theorem dX7_isPart_1 : decode cX7_isPart 1 = .ok (.ifCond .eq 8, 3) := by decide +kernel
theorem dX7_isPart_4 : decode cX7_isPart 4 = .ok (.iload_n 0, 1) := by decide +kernel
theorem dX7_isPart_5 : decode cX7_isPart 5 = .ok (.iconst 1, 1) := by decide +kernel
theorem dX7_isPart_6 : decode cX7_isPart 6 = .ok (.if_icmp .ne 7, 3) := by decide +kernel
theorem dX7_isPart_9 : decode cX7_isPart 9 = .ok (.iconst 1, 1) := by decide +kernel
theorem dX7_isPart_10 : decode cX7_isPart 10 = .ok (.goto 4, 3) := by decide +kernel
theorem dX7_isPart_13 : decode cX7_isPart 13 = .ok (.iconst 0, 1) := by decide +kernel
theorem dX7_isPart_14 : decode cX7_isPart 14 = .ok (.ireturn, 1) := by decide +kernel
set_option maxRecDepth 20000 in
theorem ggX7_partOf_X7_commonDivisor : GoodIn wsX7_partOf wsX7_commonDivisor := goodIn_r _ [5, 6] (by decide +kernel) (by decide +kernel)
set_option maxRecDepth 20000 in
theorem gX7_partOf_X7_commonDivisor : GoodIn wsX7_partOf (va_wsS RX7 163 yX7_commonDivisor wsX7_commonDivisor) := goodIn_app (goodIn_of _ (by decide +kernel)) ggX7_partOf_X7_commonDivisor
theorem dX7_partOf_0 : decode cX7_partOf 0 = .ok (.iload_n 0, 1) := by decide +kernel
theorem dX7_partOf_1 : decode cX7_partOf 1 = .ok (.iload_n 1, 1) := by decide +kernel
theorem dX7_partOf_2 : decode cX7_partOf 2 = .ok (.invokestatic 163, 3) := by decide +kernel
theorem dX7_partOf_5 : decode cX7_partOf 5 = .ok (.istore_n 3, 1) := by decide +kernel
theorem dX7_partOf_6 : decode cX7_partOf 6 = .ok (.iload_n 1, 1) := by decide +kernel
theorem dX7_partOf_7 : decode cX7_partOf 7 = .ok (.ifCond .eq 7, 3) := by decide +kernel
theorem dX7_partOf_10 : decode cX7_partOf 10 = .ok (.iload_n 3, 1) := by decide +kernel
theorem dX7_partOf_11 : decode cX7_partOf 11 = .ok (.ifCond .ne 7, 3) := by decide +kernel
theorem dX7_partOf_14 : decode cX7_partOf 14 = .ok (.ldc2_w 91, 3) := by decide +kernel
theorem dX7_partOf_17 : decode cX7_partOf 17 = .ok (.lreturn, 1) := by decide +kernel
theorem dX7_partOf_18 : decode cX7_partOf 18 = .ok (.iload_n 2, 1) := by decide +kernel
theorem dX7_partOf_19 : decode cX7_partOf 19 = .ok (.ifCond .ne 7, 3) := by decide +kernel
theorem dX7_partOf_22 : decode cX7_partOf 22 = .ok (.iload_n 0, 1) := by decide +kernel
theorem dX7_partOf_23 : decode cX7_partOf 23 = .ok (.goto 4, 3) := by decide +kernel
theorem dX7_partOf_26 : decode cX7_partOf 26 = .ok (.iload_n 1, 1) := by decide +kernel
theorem dX7_partOf_27 : decode cX7_partOf 27 = .ok (.iload_n 3, 1) := by decide +kernel
theorem dX7_partOf_28 : decode cX7_partOf 28 = .ok (.idiv, 1) := by decide +kernel
theorem dX7_partOf_29 : decode cX7_partOf 29 = .ok (.i2l, 1) := by decide +kernel
theorem dX7_partOf_30 : decode cX7_partOf 30 = .ok (.lreturn, 1) := by decide +kernel
theorem dX7_commonDivisor_0 : decode cX7_commonDivisor 0 = .ok (.iload_n 0, 1) := by decide +kernel
theorem dX7_commonDivisor_1 : decode cX7_commonDivisor 1 = .ok (.istore_n 2, 1) := by decide +kernel
theorem dX7_commonDivisor_2 : decode cX7_commonDivisor 2 = .ok (.iload_n 1, 1) := by decide +kernel
theorem dX7_commonDivisor_3 : decode cX7_commonDivisor 3 = .ok (.istore_n 3, 1) := by decide +kernel
theorem dX7_commonDivisor_4 : decode cX7_commonDivisor 4 = .ok (.iconst 0, 1) := by decide +kernel
theorem dX7_commonDivisor_5 : decode cX7_commonDivisor 5 = .ok (.istore 4, 2) := by decide +kernel
theorem dX7_commonDivisor_7 : decode cX7_commonDivisor 7 = .ok (.iload 4, 2) := by decide +kernel
theorem dX7_commonDivisor_9 : decode cX7_commonDivisor 9 = .ok (.ldc 166, 2) := by decide +kernel
theorem dX7_commonDivisor_11 : decode cX7_commonDivisor 11 = .ok (.if_icmp .ge 23, 3) := by decide +kernel
theorem dX7_commonDivisor_14 : decode cX7_commonDivisor 14 = .ok (.iload_n 3, 1) := by decide +kernel
theorem dX7_commonDivisor_15 : decode cX7_commonDivisor 15 = .ok (.ifCond .eq 19, 3) := by decide +kernel
theorem dX7_commonDivisor_18 : decode cX7_commonDivisor 18 = .ok (.iload_n 2, 1) := by decide +kernel
theorem dX7_commonDivisor_19 : decode cX7_commonDivisor 19 = .ok (.iload_n 3, 1) := by decide +kernel
theorem dX7_commonDivisor_20 : decode cX7_commonDivisor 20 = .ok (.irem, 1) := by decide +kernel
theorem dX7_commonDivisor_21 : decode cX7_commonDivisor 21 = .ok (.istore 5, 2) := by decide +kernel
theorem dX7_commonDivisor_23 : decode cX7_commonDivisor 23 = .ok (.iload_n 3, 1) := by decide +kernel
theorem dX7_commonDivisor_24 : decode cX7_commonDivisor 24 = .ok (.istore_n 2, 1) := by decide +kernel
theorem dX7_commonDivisor_25 : decode cX7_commonDivisor 25 = .ok (.iload 5, 2) := by decide +kernel
theorem dX7_commonDivisor_27 : decode cX7_commonDivisor 27 = .ok (.istore_n 3, 1) := by decide +kernel
theorem dX7_commonDivisor_28 : decode cX7_commonDivisor 28 = .ok (.iinc 4 1, 3) := by decide +kernel
theorem dX7_commonDivisor_31 : decode cX7_commonDivisor 31 = .ok (.goto (-24), 3) := by decide +kernel
theorem dX7_commonDivisor_34 : decode cX7_commonDivisor 34 = .ok (.iload_n 2, 1) := by decide +kernel
theorem dX7_commonDivisor_35 : decode cX7_commonDivisor 35 = .ok (.ireturn, 1) := by decide +kernel
set_option maxRecDepth 20000 in
theorem ggX7_book_X7_keyOf : GoodIn wsX7_book wsX7_keyOf := goodIn_r _ [9] (by decide +kernel) (by decide +kernel)
set_option maxRecDepth 20000 in
theorem gX7_book_X7_keyOf : GoodIn wsX7_book (va_wsS RX7 84 yX7_keyOf wsX7_keyOf) := goodIn_app (goodIn_of _ (by decide +kernel)) ggX7_book_X7_keyOf
theorem dX7_book_0 : decode cX7_book 0 = .ok (.aload_n 0, 1) := by decide +kernel
theorem dX7_book_1 : decode cX7_book 1 = .ok (.getfield 14, 3) := by decide +kernel
theorem dX7_book_4 : decode cX7_book 4 = .ok (.getfield 167, 3) := by decide +kernel
theorem dX7_book_7 : decode cX7_book 7 = .ok (.astore 4, 2) := by decide +kernel
theorem dX7_book_9 : decode cX7_book 9 = .ok (.iload_n 1, 1) := by decide +kernel
theorem dX7_book_10 : decode cX7_book 10 = .ok (.iconst (-1), 1) := by decide +kernel
theorem dX7_book_11 : decode cX7_book 11 = .ok (.if_icmp .ne 11, 3) := by decide +kernel
theorem dX7_book_14 : decode cX7_book 14 = .ok (.aload 4, 2) := by decide +kernel
theorem dX7_book_16 : decode cX7_book 16 = .ok (.iconst 0, 1) := by decide +kernel
theorem dX7_book_17 : decode cX7_book 17 = .ok (.putfield 171, 3) := by decide +kernel
theorem dX7_book_20 : decode cX7_book 20 = .ok (.iconst 0, 1) := by decide +kernel
theorem dX7_book_21 : decode cX7_book 21 = .ok (.ireturn, 1) := by decide +kernel
theorem dX7_book_22 : decode cX7_book 22 = .ok (.iload_n 1, 1) := by decide +kernel
theorem dX7_book_23 : decode cX7_book 23 = .ok (.iload_n 2, 1) := by decide +kernel
theorem dX7_book_24 : decode cX7_book 24 = .ok (.invokestatic 84, 3) := by decide +kernel
theorem dX7_book_27 : decode cX7_book 27 = .ok (.istore 5, 2) := by decide +kernel
theorem dX7_book_29 : decode cX7_book 29 = .ok (.iload 5, 2) := by decide +kernel
theorem dX7_book_31 : decode cX7_book 31 = .ok (.ifCond .ge 5, 3) := by decide +kernel
theorem dX7_book_34 : decode cX7_book 34 = .ok (.iconst (-1), 1) := by decide +kernel
theorem dX7_book_35 : decode cX7_book 35 = .ok (.ireturn, 1) := by decide +kernel
theorem dX7_book_36 : decode cX7_book 36 = .ok (.iload_n 3, 1) := by decide +kernel
theorem dX7_book_37 : decode cX7_book 37 = .ok (.ifCond .lt 8, 3) := by decide +kernel
theorem dX7_book_40 : decode cX7_book 40 = .ok (.iload_n 3, 1) := by decide +kernel
theorem dX7_book_41 : decode cX7_book 41 = .ok (.iconst 5, 1) := by decide +kernel
theorem dX7_book_42 : decode cX7_book 42 = .ok (.if_icmp .lt 6, 3) := by decide +kernel
theorem dX7_book_45 : decode cX7_book 45 = .ok (.bipush (-2), 2) := by decide +kernel
theorem dX7_book_47 : decode cX7_book 47 = .ok (.ireturn, 1) := by decide +kernel
theorem dX7_book_48 : decode cX7_book 48 = .ok (.aload 4, 2) := by decide +kernel
theorem dX7_book_50 : decode cX7_book 50 = .ok (.getfield 171, 3) := by decide +kernel
theorem dX7_book_53 : decode cX7_book 53 = .ok (.bipush 8, 2) := by decide +kernel
theorem dX7_book_55 : decode cX7_book 55 = .ok (.if_icmp .lt 6, 3) := by decide +kernel
theorem dX7_book_58 : decode cX7_book 58 = .ok (.bipush (-4), 2) := by decide +kernel
theorem dX7_book_60 : decode cX7_book 60 = .ok (.ireturn, 1) := by decide +kernel
theorem dX7_book_61 : decode cX7_book 61 = .ok (.aload 4, 2) := by decide +kernel
theorem dX7_book_63 : decode cX7_book 63 = .ok (.getfield 176, 3) := by decide +kernel
theorem dX7_book_66 : decode cX7_book 66 = .ok (.aload 4, 2) := by decide +kernel
theorem dX7_book_68 : decode cX7_book 68 = .ok (.getfield 171, 3) := by decide +kernel
theorem dX7_book_71 : decode cX7_book 71 = .ok (.iload 5, 2) := by decide +kernel
theorem dX7_book_73 : decode cX7_book 73 = .ok (.iastore, 1) := by decide +kernel
theorem dX7_book_74 : decode cX7_book 74 = .ok (.aload 4, 2) := by decide +kernel
theorem dX7_book_76 : decode cX7_book 76 = .ok (.getfield 179, 3) := by decide +kernel
theorem dX7_book_79 : decode cX7_book 79 = .ok (.aload 4, 2) := by decide +kernel
theorem dX7_book_81 : decode cX7_book 81 = .ok (.getfield 171, 3) := by decide +kernel
theorem dX7_book_84 : decode cX7_book 84 = .ok (.iload_n 3, 1) := by decide +kernel
theorem dX7_book_85 : decode cX7_book 85 = .ok (.iastore, 1) := by decide +kernel
theorem dX7_book_86 : decode cX7_book 86 = .ok (.aload 4, 2) := by decide +kernel
theorem dX7_book_88 : decode cX7_book 88 = .ok (.dup, 1) := by decide +kernel
theorem dX7_book_89 : decode cX7_book 89 = .ok (.getfield 171, 3) := by decide +kernel
theorem dX7_book_92 : decode cX7_book 92 = .ok (.iconst 1, 1) := by decide +kernel
theorem dX7_book_93 : decode cX7_book 93 = .ok (.iadd, 1) := by decide +kernel
theorem dX7_book_94 : decode cX7_book 94 = .ok (.putfield 171, 3) := by decide +kernel
theorem dX7_book_97 : decode cX7_book 97 = .ok (.aload 4, 2) := by decide +kernel
theorem dX7_book_99 : decode cX7_book 99 = .ok (.getfield 171, 3) := by decide +kernel
theorem dX7_book_102 : decode cX7_book 102 = .ok (.ireturn, 1) := by decide +kernel
theorem dX7_looked_0 : decode cX7_looked 0 = .ok (.aload_n 0, 1) := by decide +kernel
theorem dX7_looked_1 : decode cX7_looked 1 = .ok (.getfield 14, 3) := by decide +kernel
theorem dX7_looked_4 : decode cX7_looked 4 = .ok (.getfield 167, 3) := by decide +kernel
theorem dX7_looked_7 : decode cX7_looked 7 = .ok (.astore_n 1, 1) := by decide +kernel
theorem dX7_looked_8 : decode cX7_looked 8 = .ok (.iconst 0, 1) := by decide +kernel
theorem dX7_looked_9 : decode cX7_looked 9 = .ok (.istore_n 2, 1) := by decide +kernel
theorem dX7_looked_10 : decode cX7_looked 10 = .ok (.iload_n 2, 1) := by decide +kernel
theorem dX7_looked_11 : decode cX7_looked 11 = .ok (.aload_n 1, 1) := by decide +kernel
theorem dX7_looked_12 : decode cX7_looked 12 = .ok (.getfield 171, 3) := by decide +kernel
theorem dX7_looked_15 : decode cX7_looked 15 = .ok (.if_icmp .ge 36, 3) := by decide +kernel
theorem dX7_looked_18 : decode cX7_looked 18 = .ok (.aload_n 0, 1) := by decide +kernel
theorem dX7_looked_19 : decode cX7_looked 19 = .ok (.getfield 14, 3) := by decide +kernel
theorem dX7_looked_22 : decode cX7_looked 22 = .ok (.getfield 97, 3) := by decide +kernel
theorem dX7_looked_25 : decode cX7_looked 25 = .ok (.iconst 0, 1) := by decide +kernel
theorem dX7_looked_26 : decode cX7_looked 26 = .ok (.aaload, 1) := by decide +kernel
theorem dX7_looked_27 : decode cX7_looked 27 = .ok (.aload_n 1, 1) := by decide +kernel
theorem dX7_looked_28 : decode cX7_looked 28 = .ok (.getfield 176, 3) := by decide +kernel
theorem dX7_looked_31 : decode cX7_looked 31 = .ok (.iload_n 2, 1) := by decide +kernel
theorem dX7_looked_32 : decode cX7_looked 32 = .ok (.iaload, 1) := by decide +kernel
theorem dX7_looked_33 : decode cX7_looked 33 = .ok (.iaload, 1) := by decide +kernel
theorem dX7_looked_34 : decode cX7_looked 34 = .ok (.aload_n 1, 1) := by decide +kernel
theorem dX7_looked_35 : decode cX7_looked 35 = .ok (.getfield 179, 3) := by decide +kernel
theorem dX7_looked_38 : decode cX7_looked 38 = .ok (.iload_n 2, 1) := by decide +kernel
theorem dX7_looked_39 : decode cX7_looked 39 = .ok (.iaload, 1) := by decide +kernel
theorem dX7_looked_40 : decode cX7_looked 40 = .ok (.if_icmp .eq 5, 3) := by decide +kernel
theorem dX7_looked_43 : decode cX7_looked 43 = .ok (.iload_n 2, 1) := by decide +kernel
theorem dX7_looked_44 : decode cX7_looked 44 = .ok (.ireturn, 1) := by decide +kernel
theorem dX7_looked_45 : decode cX7_looked 45 = .ok (.iinc 2 1, 3) := by decide +kernel
theorem dX7_looked_48 : decode cX7_looked 48 = .ok (.goto (-38), 3) := by decide +kernel
theorem dX7_looked_51 : decode cX7_looked 51 = .ok (.bipush (-5), 2) := by decide +kernel
theorem dX7_looked_53 : decode cX7_looked 53 = .ok (.ireturn, 1) := by decide +kernel
set_option maxRecDepth 20000 in
theorem ggX7_judge_X7_isTape : GoodIn wsX7_judge wsX7_isTape := goodIn_r _ [12] (by decide +kernel) (by decide +kernel)
set_option maxRecDepth 20000 in
theorem gX7_judge_X7_isTape : GoodIn wsX7_judge (va_wsS RX7 182 yX7_isTape wsX7_isTape) := goodIn_app (goodIn_of _ (by decide +kernel)) ggX7_judge_X7_isTape
set_option maxRecDepth 20000 in
theorem ggX7_judge_X2_oldest : GoodIn wsX7_judge wsX2_oldest := goodIn_r _ [17, 18, 35, 36, 37, 38] (by decide +kernel) (by decide +kernel)
set_option maxRecDepth 20000 in
theorem gX7_judge_X2_oldest : GoodIn wsX7_judge (wsV RX7 157 RX2 yX2_oldest wsX2_oldest) := goodIn_app (goodIn_of _ (by decide +kernel)) ggX7_judge_X2_oldest
theorem dX7_judge_0 : decode cX7_judge 0 = .ok (.iload_n 1, 1) := by decide +kernel
theorem dX7_judge_1 : decode cX7_judge 1 = .ok (.invokestatic 182, 3) := by decide +kernel
theorem dX7_judge_4 : decode cX7_judge 4 = .ok (.ifCond .ne 5, 3) := by decide +kernel
theorem dX7_judge_7 : decode cX7_judge 7 = .ok (.iconst (-1), 1) := by decide +kernel
theorem dX7_judge_8 : decode cX7_judge 8 = .ok (.ireturn, 1) := by decide +kernel
theorem dX7_judge_9 : decode cX7_judge 9 = .ok (.aload_n 0, 1) := by decide +kernel
theorem dX7_judge_10 : decode cX7_judge 10 = .ok (.getfield 36, 3) := by decide +kernel
theorem dX7_judge_13 : decode cX7_judge 13 = .ok (.iload_n 1, 1) := by decide +kernel
theorem dX7_judge_14 : decode cX7_judge 14 = .ok (.aaload, 1) := by decide +kernel
theorem dX7_judge_15 : decode cX7_judge 15 = .ok (.astore_n 3, 1) := by decide +kernel
theorem dX7_judge_16 : decode cX7_judge 16 = .ok (.aload_n 3, 1) := by decide +kernel
theorem dX7_judge_17 : decode cX7_judge 17 = .ok (.getfield 185, 3) := by decide +kernel
theorem dX7_judge_20 : decode cX7_judge 20 = .ok (.iconst (-1), 1) := by decide +kernel
theorem dX7_judge_21 : decode cX7_judge 21 = .ok (.if_icmp .eq 14, 3) := by decide +kernel
theorem dX7_judge_24 : decode cX7_judge 24 = .ok (.aload_n 3, 1) := by decide +kernel
theorem dX7_judge_25 : decode cX7_judge 25 = .ok (.getfield 185, 3) := by decide +kernel
theorem dX7_judge_28 : decode cX7_judge 28 = .ok (.iconst 1, 1) := by decide +kernel
theorem dX7_judge_29 : decode cX7_judge 29 = .ok (.if_icmp .eq 6, 3) := by decide +kernel
theorem dX7_judge_32 : decode cX7_judge 32 = .ok (.bipush (-12), 2) := by decide +kernel
theorem dX7_judge_34 : decode cX7_judge 34 = .ok (.ireturn, 1) := by decide +kernel
theorem dX7_judge_35 : decode cX7_judge 35 = .ok (.aload_n 0, 1) := by decide +kernel
theorem dX7_judge_36 : decode cX7_judge 36 = .ok (.getfield 14, 3) := by decide +kernel
theorem dX7_judge_39 : decode cX7_judge 39 = .ok (.getfield 62, 3) := by decide +kernel
theorem dX7_judge_42 : decode cX7_judge 42 = .ok (.getfield 154, 3) := by decide +kernel
theorem dX7_judge_45 : decode cX7_judge 45 = .ok (.iconst 1, 1) := by decide +kernel
theorem dX7_judge_46 : decode cX7_judge 46 = .ok (.iaload, 1) := by decide +kernel
theorem dX7_judge_47 : decode cX7_judge 47 = .ok (.istore 4, 2) := by decide +kernel
theorem dX7_judge_49 : decode cX7_judge 49 = .ok (.aload_n 3, 1) := by decide +kernel
theorem dX7_judge_50 : decode cX7_judge 50 = .ok (.getfield 185, 3) := by decide +kernel
theorem dX7_judge_53 : decode cX7_judge 53 = .ok (.iconst (-1), 1) := by decide +kernel
theorem dX7_judge_54 : decode cX7_judge 54 = .ok (.if_icmp .eq 15, 3) := by decide +kernel
theorem dX7_judge_57 : decode cX7_judge 57 = .ok (.iload_n 2, 1) := by decide +kernel
theorem dX7_judge_58 : decode cX7_judge 58 = .ok (.ifCond .lt 11, 3) := by decide +kernel
theorem dX7_judge_61 : decode cX7_judge 61 = .ok (.iload_n 2, 1) := by decide +kernel
theorem dX7_judge_62 : decode cX7_judge 62 = .ok (.aload_n 3, 1) := by decide +kernel
theorem dX7_judge_63 : decode cX7_judge 63 = .ok (.getfield 188, 3) := by decide +kernel
theorem dX7_judge_66 : decode cX7_judge 66 = .ok (.if_icmp .le 7, 3) := by decide +kernel
theorem dX7_judge_69 : decode cX7_judge 69 = .ok (.iconst 0, 1) := by decide +kernel
theorem dX7_judge_70 : decode cX7_judge 70 = .ok (.goto 9, 3) := by decide +kernel
theorem dX7_judge_73 : decode cX7_judge 73 = .ok (.aload_n 3, 1) := by decide +kernel
theorem dX7_judge_74 : decode cX7_judge 74 = .ok (.getfield 188, 3) := by decide +kernel
theorem dX7_judge_77 : decode cX7_judge 77 = .ok (.iload_n 2, 1) := by decide +kernel
theorem dX7_judge_78 : decode cX7_judge 78 = .ok (.isub, 1) := by decide +kernel
theorem dX7_judge_79 : decode cX7_judge 79 = .ok (.istore 5, 2) := by decide +kernel
theorem dX7_judge_81 : decode cX7_judge 81 = .ok (.aload_n 0, 1) := by decide +kernel
theorem dX7_judge_82 : decode cX7_judge 82 = .ok (.getfield 14, 3) := by decide +kernel
theorem dX7_judge_85 : decode cX7_judge 85 = .ok (.getfield 62, 3) := by decide +kernel
theorem dX7_judge_88 : decode cX7_judge 88 = .ok (.iconst 1, 1) := by decide +kernel
theorem dX7_judge_89 : decode cX7_judge 89 = .ok (.invokevirtual 157, 3) := by decide +kernel
theorem dX7_judge_92 : decode cX7_judge 92 = .ok (.istore 6, 2) := by decide +kernel
theorem dX7_judge_94 : decode cX7_judge 94 = .ok (.iconst 0, 1) := by decide +kernel
theorem dX7_judge_95 : decode cX7_judge 95 = .ok (.istore 7, 2) := by decide +kernel
theorem dX7_judge_97 : decode cX7_judge 97 = .ok (.iload 7, 2) := by decide +kernel
theorem dX7_judge_99 : decode cX7_judge 99 = .ok (.iload 4, 2) := by decide +kernel
theorem dX7_judge_101 : decode cX7_judge 101 = .ok (.if_icmp .ge 56, 3) := by decide +kernel
theorem dX7_judge_104 : decode cX7_judge 104 = .ok (.iload 7, 2) := by decide +kernel
theorem dX7_judge_106 : decode cX7_judge 106 = .ok (.iload 5, 2) := by decide +kernel
theorem dX7_judge_108 : decode cX7_judge 108 = .ok (.if_icmp .lt 9, 3) := by decide +kernel
theorem dX7_judge_111 : decode cX7_judge 111 = .ok (.bipush 100, 2) := by decide +kernel
theorem dX7_judge_113 : decode cX7_judge 113 = .ok (.iload 7, 2) := by decide +kernel
theorem dX7_judge_115 : decode cX7_judge 115 = .ok (.iadd, 1) := by decide +kernel
theorem dX7_judge_116 : decode cX7_judge 116 = .ok (.ireturn, 1) := by decide +kernel
theorem dX7_judge_117 : decode cX7_judge 117 = .ok (.aload_n 3, 1) := by decide +kernel
theorem dX7_judge_118 : decode cX7_judge 118 = .ok (.getfield 189, 3) := by decide +kernel
theorem dX7_judge_121 : decode cX7_judge 121 = .ok (.iload_n 2, 1) := by decide +kernel
theorem dX7_judge_122 : decode cX7_judge 122 = .ok (.iload 7, 2) := by decide +kernel
theorem dX7_judge_124 : decode cX7_judge 124 = .ok (.iadd, 1) := by decide +kernel
theorem dX7_judge_125 : decode cX7_judge 125 = .ok (.laload, 1) := by decide +kernel
theorem dX7_judge_126 : decode cX7_judge 126 = .ok (.iload 6, 2) := by decide +kernel
end
section
theorem dX7_judge_128 : decode cX7_judge 128 = .ok (.i2l, 1) := by decide +kernel
theorem dX7_judge_129 : decode cX7_judge 129 = .ok (.lcmp, 1) := by decide +kernel
theorem dX7_judge_130 : decode cX7_judge 130 = .ok (.ifCond .eq 6, 3) := by decide +kernel
theorem dX7_judge_133 : decode cX7_judge 133 = .ok (.iload 7, 2) := by decide +kernel
theorem dX7_judge_135 : decode cX7_judge 135 = .ok (.ireturn, 1) := by decide +kernel
theorem dX7_judge_136 : decode cX7_judge 136 = .ok (.aload_n 0, 1) := by decide +kernel
theorem dX7_judge_137 : decode cX7_judge 137 = .ok (.getfield 14, 3) := by decide +kernel
theorem dX7_judge_140 : decode cX7_judge 140 = .ok (.getfield 62, 3) := by decide +kernel
theorem dX7_judge_143 : decode cX7_judge 143 = .ok (.getfield 160, 3) := by decide +kernel
theorem dX7_judge_146 : decode cX7_judge 146 = .ok (.iload 6, 2) := by decide +kernel
theorem dX7_judge_148 : decode cX7_judge 148 = .ok (.iaload, 1) := by decide +kernel
theorem dX7_judge_149 : decode cX7_judge 149 = .ok (.istore 6, 2) := by decide +kernel
theorem dX7_judge_151 : decode cX7_judge 151 = .ok (.iinc 7 1, 3) := by decide +kernel
theorem dX7_judge_154 : decode cX7_judge 154 = .ok (.goto (-57), 3) := by decide +kernel
theorem dX7_judge_157 : decode cX7_judge 157 = .ok (.bipush (-5), 2) := by decide +kernel
theorem dX7_judge_159 : decode cX7_judge 159 = .ok (.ireturn, 1) := by decide +kernel
set_option maxRecDepth 20000 in
theorem ggX7_image_X3_init : GoodIn wsX7_image wsX3_init := goodIn_r _ [8, 9, 10, 11, 12, 13, 14, 15, 16, 17, 18, 19, 20, 21, 22, 23, 24, 25, 26, 27, 28, 29, 30, 31, 32, 33, 34, 35, 36, 37, 38, 39, 40, 41, 42, 43, 44, 45, 83, 84, 85, 86, 87, 88, 89, 90, 91, 92, 93, 94, 95, 96, 97] (by decide +kernel) (by decide +kernel)
set_option maxRecDepth 20000 in
theorem gX7_image_X3_init : GoodIn wsX7_image (wsX3_init) := ggX7_image_X3_init
set_option maxRecDepth 20000 in
theorem ggX7_image_X3_copyFrom : GoodIn wsX7_image wsX3_copyFrom := goodIn_r _ [49, 13, 50, 51, 52, 53, 14, 18, 20, 24, 28, 54, 55, 56, 17, 57, 33, 58, 34, 35, 36, 59, 60, 61, 23, 62, 40, 63, 64, 65, 66, 67, 27, 68, 44, 69, 45, 70, 83, 84, 85, 86, 87, 88, 89, 90, 91, 92, 93, 94, 95, 96, 97] (by decide +kernel) (by decide +kernel)
set_option maxRecDepth 20000 in
theorem gX7_image_X3_copyFrom : GoodIn wsX7_image (wsV RX7 120 RX3 yX3_copyFrom wsX3_copyFrom) := goodIn_app (goodIn_of _ (by decide +kernel)) ggX7_image_X3_copyFrom
set_option maxRecDepth 20000 in
theorem ggX7_image_X3_thingCount : GoodIn wsX7_image wsX3_thingCount := goodIn_r _ [74, 18, 75, 83, 84, 85, 86, 87, 88, 89, 90, 91, 92] (by decide +kernel) (by decide +kernel)
set_option maxRecDepth 20000 in
theorem gX7_image_X3_thingCount : GoodIn wsX7_image (wsV RX7 196 RX3 yX3_thingCount wsX3_thingCount) := goodIn_app (goodIn_of _ (by decide +kernel)) ggX7_image_X3_thingCount
theorem dX7_image_0 : decode cX7_image 0 = .ok (.aload_n 0, 1) := by decide +kernel
theorem dX7_image_1 : decode cX7_image 1 = .ok (.getfield 193, 3) := by decide +kernel
theorem dX7_image_4 : decode cX7_image 4 = .ok (.ifnonnull 14, 3) := by decide +kernel
theorem dX7_image_7 : decode cX7_image 7 = .ok (.aload_n 0, 1) := by decide +kernel
theorem dX7_image_8 : decode cX7_image 8 = .ok (.new 11, 3) := by decide +kernel
theorem dX7_image_11 : decode cX7_image 11 = .ok (.dup, 1) := by decide +kernel
theorem dX7_image_12 : decode cX7_image 12 = .ok (.invokespecial 13, 3) := by decide +kernel
theorem dX7_image_15 : decode cX7_image 15 = .ok (.putfield 193, 3) := by decide +kernel
theorem dX7_image_18 : decode cX7_image 18 = .ok (.aload_n 0, 1) := by decide +kernel
theorem dX7_image_19 : decode cX7_image 19 = .ok (.getfield 193, 3) := by decide +kernel
theorem dX7_image_22 : decode cX7_image 22 = .ok (.aload_n 0, 1) := by decide +kernel
theorem dX7_image_23 : decode cX7_image 23 = .ok (.getfield 14, 3) := by decide +kernel
theorem dX7_image_26 : decode cX7_image 26 = .ok (.invokevirtual 120, 3) := by decide +kernel
theorem dX7_image_29 : decode cX7_image 29 = .ok (.aload_n 0, 1) := by decide +kernel
theorem dX7_image_30 : decode cX7_image 30 = .ok (.getfield 14, 3) := by decide +kernel
theorem dX7_image_33 : decode cX7_image 33 = .ok (.invokevirtual 196, 3) := by decide +kernel
theorem dX7_image_36 : decode cX7_image 36 = .ok (.ireturn, 1) := by decide +kernel
set_option maxRecDepth 20000 in
theorem ggX7_undo_X3_copyFrom : GoodIn wsX7_undo wsX3_copyFrom := goodIn_r _ [7, 8, 9, 10, 11, 12, 13, 14, 15, 16, 17, 18, 19, 20, 21, 22, 23, 24, 25, 26, 27, 28, 29, 30, 31, 32, 33, 34, 35, 36, 37, 38, 39, 40, 41, 42, 43, 44, 57, 58, 59, 60, 61, 62, 63, 64, 65, 66, 67, 68, 69, 70, 71] (by decide +kernel) (by decide +kernel)
set_option maxRecDepth 20000 in
theorem gX7_undo_X3_copyFrom : GoodIn wsX7_undo (wsV RX7 120 RX3 yX3_copyFrom wsX3_copyFrom) := goodIn_app (goodIn_of _ (by decide +kernel)) ggX7_undo_X3_copyFrom
set_option maxRecDepth 20000 in
theorem ggX7_undo_X3_thingCount : GoodIn wsX7_undo wsX3_thingCount := goodIn_r _ [48, 14, 49, 57, 58, 59, 60, 61, 62, 63, 64, 65, 66] (by decide +kernel) (by decide +kernel)
set_option maxRecDepth 20000 in
theorem gX7_undo_X3_thingCount : GoodIn wsX7_undo (wsV RX7 196 RX3 yX3_thingCount wsX3_thingCount) := goodIn_app (goodIn_of _ (by decide +kernel)) ggX7_undo_X3_thingCount
theorem dX7_undo_0 : decode cX7_undo 0 = .ok (.aload_n 0, 1) := by decide +kernel
theorem dX7_undo_1 : decode cX7_undo 1 = .ok (.getfield 193, 3) := by decide +kernel
theorem dX7_undo_4 : decode cX7_undo 4 = .ok (.ifnonnull 6, 3) := by decide +kernel
theorem dX7_undo_7 : decode cX7_undo 7 = .ok (.bipush (-3), 2) := by decide +kernel
theorem dX7_undo_9 : decode cX7_undo 9 = .ok (.ireturn, 1) := by decide +kernel
theorem dX7_undo_10 : decode cX7_undo 10 = .ok (.aload_n 0, 1) := by decide +kernel
theorem dX7_undo_11 : decode cX7_undo 11 = .ok (.getfield 14, 3) := by decide +kernel
theorem dX7_undo_14 : decode cX7_undo 14 = .ok (.aload_n 0, 1) := by decide +kernel
theorem dX7_undo_15 : decode cX7_undo 15 = .ok (.getfield 193, 3) := by decide +kernel
theorem dX7_undo_18 : decode cX7_undo 18 = .ok (.invokevirtual 120, 3) := by decide +kernel
theorem dX7_undo_21 : decode cX7_undo 21 = .ok (.aload_n 0, 1) := by decide +kernel
theorem dX7_undo_22 : decode cX7_undo 22 = .ok (.getfield 14, 3) := by decide +kernel
theorem dX7_undo_25 : decode cX7_undo 25 = .ok (.invokevirtual 196, 3) := by decide +kernel
theorem dX7_undo_28 : decode cX7_undo 28 = .ok (.ireturn, 1) := by decide +kernel
theorem dX7_count_0 : decode cX7_count 0 = .ok (.iload_n 1, 1) := by decide +kernel
theorem dX7_count_1 : decode cX7_count 1 = .ok (.tableswitch 82 0 6 #[43, 43, 43, 43, 58, 63, 74], 43) := by decide +kernel
theorem dX7_count_44 : decode cX7_count 44 = .ok (.aload_n 0, 1) := by decide +kernel
theorem dX7_count_45 : decode cX7_count 45 = .ok (.getfield 14, 3) := by decide +kernel
theorem dX7_count_48 : decode cX7_count 48 = .ok (.getfield 62, 3) := by decide +kernel
theorem dX7_count_51 : decode cX7_count 51 = .ok (.getfield 154, 3) := by decide +kernel
theorem dX7_count_54 : decode cX7_count 54 = .ok (.iload_n 1, 1) := by decide +kernel
theorem dX7_count_55 : decode cX7_count 55 = .ok (.iconst 1, 1) := by decide +kernel
theorem dX7_count_56 : decode cX7_count 56 = .ok (.iadd, 1) := by decide +kernel
theorem dX7_count_57 : decode cX7_count 57 = .ok (.iaload, 1) := by decide +kernel
theorem dX7_count_58 : decode cX7_count 58 = .ok (.ireturn, 1) := by decide +kernel
theorem dX7_count_59 : decode cX7_count 59 = .ok (.aload_n 0, 1) := by decide +kernel
theorem dX7_count_60 : decode cX7_count 60 = .ok (.getfield 130, 3) := by decide +kernel
theorem dX7_count_63 : decode cX7_count 63 = .ok (.ireturn, 1) := by decide +kernel
theorem dX7_count_64 : decode cX7_count 64 = .ok (.aload_n 0, 1) := by decide +kernel
theorem dX7_count_65 : decode cX7_count 65 = .ok (.getfield 14, 3) := by decide +kernel
theorem dX7_count_68 : decode cX7_count 68 = .ok (.getfield 167, 3) := by decide +kernel
theorem dX7_count_71 : decode cX7_count 71 = .ok (.getfield 171, 3) := by decide +kernel
theorem dX7_count_74 : decode cX7_count 74 = .ok (.ireturn, 1) := by decide +kernel
theorem dX7_count_75 : decode cX7_count 75 = .ok (.aload_n 0, 1) := by decide +kernel
theorem dX7_count_76 : decode cX7_count 76 = .ok (.getfield 24, 3) := by decide +kernel
theorem dX7_count_79 : decode cX7_count 79 = .ok (.getfield 124, 3) := by decide +kernel
theorem dX7_count_82 : decode cX7_count 82 = .ok (.ireturn, 1) := by decide +kernel
theorem dX7_count_83 : decode cX7_count 83 = .ok (.bipush (-2), 2) := by decide +kernel
theorem dX7_count_85 : decode cX7_count 85 = .ok (.ireturn, 1) := by decide +kernel
set_option maxRecDepth 20000 in
theorem ggX7_tape_X7_isTape : GoodIn wsX7_tape wsX7_isTape := goodIn_r _ [5] (by decide +kernel) (by decide +kernel)
set_option maxRecDepth 20000 in
theorem gX7_tape_X7_isTape : GoodIn wsX7_tape (va_wsS RX7 182 yX7_isTape wsX7_isTape) := goodIn_app (goodIn_of _ (by decide +kernel)) ggX7_tape_X7_isTape
set_option maxRecDepth 20000 in
theorem ggX7_tape_X4_become : GoodIn wsX7_tape wsX4_become := goodIn_r _ [10, 11, 12, 13, 21, 22, 23] (by decide +kernel) (by decide +kernel)
set_option maxRecDepth 20000 in
theorem gX7_tape_X4_become : GoodIn wsX7_tape (wsV RX7 199 RX4 yX4_become wsX4_become) := goodIn_app (goodIn_of _ (by decide +kernel)) ggX7_tape_X4_become
theorem dX7_tape_0 : decode cX7_tape 0 = .ok (.iload_n 1, 1) := by decide +kernel
theorem dX7_tape_1 : decode cX7_tape 1 = .ok (.invokestatic 182, 3) := by decide +kernel
theorem dX7_tape_4 : decode cX7_tape 4 = .ok (.ifCond .ne 5, 3) := by decide +kernel
theorem dX7_tape_7 : decode cX7_tape 7 = .ok (.iconst (-1), 1) := by decide +kernel
theorem dX7_tape_8 : decode cX7_tape 8 = .ok (.ireturn, 1) := by decide +kernel
theorem dX7_tape_9 : decode cX7_tape 9 = .ok (.iload_n 2, 1) := by decide +kernel
theorem dX7_tape_10 : decode cX7_tape 10 = .ok (.iconst (-1), 1) := by decide +kernel
theorem dX7_tape_11 : decode cX7_tape 11 = .ok (.if_icmp .lt 8, 3) := by decide +kernel
theorem dX7_tape_14 : decode cX7_tape 14 = .ok (.iload_n 2, 1) := by decide +kernel
theorem dX7_tape_15 : decode cX7_tape 15 = .ok (.iconst 4, 1) := by decide +kernel
theorem dX7_tape_16 : decode cX7_tape 16 = .ok (.if_icmp .le 6, 3) := by decide +kernel
theorem dX7_tape_19 : decode cX7_tape 19 = .ok (.bipush (-2), 2) := by decide +kernel
theorem dX7_tape_21 : decode cX7_tape 21 = .ok (.ireturn, 1) := by decide +kernel
theorem dX7_tape_22 : decode cX7_tape 22 = .ok (.iload_n 2, 1) := by decide +kernel
theorem dX7_tape_23 : decode cX7_tape 23 = .ok (.iconst (-1), 1) := by decide +kernel
theorem dX7_tape_24 : decode cX7_tape 24 = .ok (.if_icmp .ne 16, 3) := by decide +kernel
theorem dX7_tape_27 : decode cX7_tape 27 = .ok (.aload_n 0, 1) := by decide +kernel
theorem dX7_tape_28 : decode cX7_tape 28 = .ok (.getfield 36, 3) := by decide +kernel
theorem dX7_tape_31 : decode cX7_tape 31 = .ok (.iload_n 1, 1) := by decide +kernel
theorem dX7_tape_32 : decode cX7_tape 32 = .ok (.aaload, 1) := by decide +kernel
theorem dX7_tape_33 : decode cX7_tape 33 = .ok (.iconst (-1), 1) := by decide +kernel
theorem dX7_tape_34 : decode cX7_tape 34 = .ok (.iconst 0, 1) := by decide +kernel
theorem dX7_tape_35 : decode cX7_tape 35 = .ok (.invokevirtual 199, 3) := by decide +kernel
theorem dX7_tape_38 : decode cX7_tape 38 = .ok (.iconst 1, 1) := by decide +kernel
theorem dX7_tape_39 : decode cX7_tape 39 = .ok (.ireturn, 1) := by decide +kernel
theorem dX7_tape_40 : decode cX7_tape 40 = .ok (.iload_n 3, 1) := by decide +kernel
theorem dX7_tape_41 : decode cX7_tape 41 = .ok (.bipush 60, 2) := by decide +kernel
theorem dX7_tape_43 : decode cX7_tape 43 = .ok (.if_icmp .le 6, 3) := by decide +kernel
theorem dX7_tape_46 : decode cX7_tape 46 = .ok (.bipush (-2), 2) := by decide +kernel
theorem dX7_tape_48 : decode cX7_tape 48 = .ok (.ireturn, 1) := by decide +kernel
theorem dX7_tape_49 : decode cX7_tape 49 = .ok (.iload_n 3, 1) := by decide +kernel
theorem dX7_tape_50 : decode cX7_tape 50 = .ok (.ifCond .ge 6, 3) := by decide +kernel
theorem dX7_tape_53 : decode cX7_tape 53 = .ok (.bipush (-14), 2) := by decide +kernel
theorem dX7_tape_55 : decode cX7_tape 55 = .ok (.ireturn, 1) := by decide +kernel
theorem dX7_tape_56 : decode cX7_tape 56 = .ok (.aload_n 0, 1) := by decide +kernel
theorem dX7_tape_57 : decode cX7_tape 57 = .ok (.getfield 36, 3) := by decide +kernel
theorem dX7_tape_60 : decode cX7_tape 60 = .ok (.iload_n 1, 1) := by decide +kernel
theorem dX7_tape_61 : decode cX7_tape 61 = .ok (.aaload, 1) := by decide +kernel
theorem dX7_tape_62 : decode cX7_tape 62 = .ok (.iload_n 2, 1) := by decide +kernel
theorem dX7_tape_63 : decode cX7_tape 63 = .ok (.iload_n 3, 1) := by decide +kernel
theorem dX7_tape_64 : decode cX7_tape 64 = .ok (.invokevirtual 199, 3) := by decide +kernel
theorem dX7_tape_67 : decode cX7_tape 67 = .ok (.iconst 1, 1) := by decide +kernel
theorem dX7_tape_68 : decode cX7_tape 68 = .ok (.ireturn, 1) := by decide +kernel
set_option maxRecDepth 20000 in
theorem ggX7_item_X7_isTape : GoodIn wsX7_item wsX7_isTape := goodIn_r _ [8] (by decide +kernel) (by decide +kernel)
set_option maxRecDepth 20000 in
theorem gX7_item_X7_isTape : GoodIn wsX7_item (va_wsS RX7 182 yX7_isTape wsX7_isTape) := goodIn_app (goodIn_of _ (by decide +kernel)) ggX7_item_X7_isTape
set_option maxRecDepth 20000 in
theorem ggX7_item_X4_asItem : GoodIn wsX7_item wsX4_asItem := goodIn_r _ [13, 14, 22, 23, 24] (by decide +kernel) (by decide +kernel)
set_option maxRecDepth 20000 in
theorem gX7_item_X4_asItem : GoodIn wsX7_item (wsV RX7 202 RX4 yX4_asItem wsX4_asItem) := goodIn_app (goodIn_of _ (by decide +kernel)) ggX7_item_X4_asItem
theorem dX7_item_0 : decode cX7_item 0 = .ok (.iload_n 1, 1) := by decide +kernel
theorem dX7_item_1 : decode cX7_item 1 = .ok (.invokestatic 182, 3) := by decide +kernel
theorem dX7_item_4 : decode cX7_item 4 = .ok (.ifCond .ne 5, 3) := by decide +kernel
theorem dX7_item_7 : decode cX7_item 7 = .ok (.iconst (-1), 1) := by decide +kernel
theorem dX7_item_8 : decode cX7_item 8 = .ok (.ireturn, 1) := by decide +kernel
theorem dX7_item_9 : decode cX7_item 9 = .ok (.aload_n 0, 1) := by decide +kernel
theorem dX7_item_10 : decode cX7_item 10 = .ok (.getfield 36, 3) := by decide +kernel
theorem dX7_item_13 : decode cX7_item 13 = .ok (.iload_n 1, 1) := by decide +kernel
theorem dX7_item_14 : decode cX7_item 14 = .ok (.aaload, 1) := by decide +kernel
theorem dX7_item_15 : decode cX7_item 15 = .ok (.astore 5, 2) := by decide +kernel
theorem dX7_item_17 : decode cX7_item 17 = .ok (.aload 5, 2) := by decide +kernel
theorem dX7_item_19 : decode cX7_item 19 = .ok (.getfield 185, 3) := by decide +kernel
theorem dX7_item_22 : decode cX7_item 22 = .ok (.iconst (-1), 1) := by decide +kernel
theorem dX7_item_23 : decode cX7_item 23 = .ok (.if_icmp .ne 6, 3) := by decide +kernel
theorem dX7_item_26 : decode cX7_item 26 = .ok (.bipush (-11), 2) := by decide +kernel
theorem dX7_item_28 : decode cX7_item 28 = .ok (.ireturn, 1) := by decide +kernel
theorem dX7_item_29 : decode cX7_item 29 = .ok (.iload_n 2, 1) := by decide +kernel
theorem dX7_item_30 : decode cX7_item 30 = .ok (.ifCond .lt 12, 3) := by decide +kernel
theorem dX7_item_33 : decode cX7_item 33 = .ok (.iload_n 2, 1) := by decide +kernel
theorem dX7_item_34 : decode cX7_item 34 = .ok (.aload 5, 2) := by decide +kernel
theorem dX7_item_36 : decode cX7_item 36 = .ok (.getfield 188, 3) := by decide +kernel
theorem dX7_item_39 : decode cX7_item 39 = .ok (.if_icmp .lt 6, 3) := by decide +kernel
theorem dX7_item_42 : decode cX7_item 42 = .ok (.bipush (-13), 2) := by decide +kernel
theorem dX7_item_44 : decode cX7_item 44 = .ok (.ireturn, 1) := by decide +kernel
theorem dX7_item_45 : decode cX7_item 45 = .ok (.aload 5, 2) := by decide +kernel
theorem dX7_item_47 : decode cX7_item 47 = .ok (.getfield 189, 3) := by decide +kernel
theorem dX7_item_50 : decode cX7_item 50 = .ok (.iload_n 2, 1) := by decide +kernel
theorem dX7_item_51 : decode cX7_item 51 = .ok (.aload 5, 2) := by decide +kernel
theorem dX7_item_53 : decode cX7_item 53 = .ok (.lload_n 3, 1) := by decide +kernel
theorem dX7_item_54 : decode cX7_item 54 = .ok (.invokevirtual 202, 3) := by decide +kernel
theorem dX7_item_57 : decode cX7_item 57 = .ok (.lastore, 1) := by decide +kernel
theorem dX7_item_58 : decode cX7_item 58 = .ok (.iconst 1, 1) := by decide +kernel
theorem dX7_item_59 : decode cX7_item 59 = .ok (.ireturn, 1) := by decide +kernel
set_option maxRecDepth 20000 in
theorem ggX7_read_X7_isTape : GoodIn wsX7_read wsX7_isTape := goodIn_r _ [8] (by decide +kernel) (by decide +kernel)
set_option maxRecDepth 20000 in
theorem gX7_read_X7_isTape : GoodIn wsX7_read (va_wsS RX7 182 yX7_isTape wsX7_isTape) := goodIn_app (goodIn_of _ (by decide +kernel)) ggX7_read_X7_isTape
theorem dX7_read_0 : decode cX7_read 0 = .ok (.iload_n 1, 1) := by decide +kernel
theorem dX7_read_1 : decode cX7_read 1 = .ok (.invokestatic 182, 3) := by decide +kernel
theorem dX7_read_4 : decode cX7_read 4 = .ok (.ifCond .ne 7, 3) := by decide +kernel
theorem dX7_read_7 : decode cX7_read 7 = .ok (.ldc2_w 91, 3) := by decide +kernel
theorem dX7_read_10 : decode cX7_read 10 = .ok (.lreturn, 1) := by decide +kernel
theorem dX7_read_11 : decode cX7_read 11 = .ok (.aload_n 0, 1) := by decide +kernel
theorem dX7_read_12 : decode cX7_read 12 = .ok (.getfield 36, 3) := by decide +kernel
theorem dX7_read_15 : decode cX7_read 15 = .ok (.iload_n 1, 1) := by decide +kernel
theorem dX7_read_16 : decode cX7_read 16 = .ok (.aaload, 1) := by decide +kernel
theorem dX7_read_17 : decode cX7_read 17 = .ok (.astore_n 3, 1) := by decide +kernel
theorem dX7_read_18 : decode cX7_read 18 = .ok (.iload_n 2, 1) := by decide +kernel
theorem dX7_read_19 : decode cX7_read 19 = .ok (.ifCond .lt 20, 3) := by decide +kernel
theorem dX7_read_22 : decode cX7_read 22 = .ok (.iload_n 2, 1) := by decide +kernel
theorem dX7_read_23 : decode cX7_read 23 = .ok (.aload_n 3, 1) := by decide +kernel
theorem dX7_read_24 : decode cX7_read 24 = .ok (.getfield 188, 3) := by decide +kernel
theorem dX7_read_27 : decode cX7_read 27 = .ok (.if_icmp .ge 12, 3) := by decide +kernel
theorem dX7_read_30 : decode cX7_read 30 = .ok (.aload_n 3, 1) := by decide +kernel
theorem dX7_read_31 : decode cX7_read 31 = .ok (.getfield 189, 3) := by decide +kernel
theorem dX7_read_34 : decode cX7_read 34 = .ok (.iload_n 2, 1) := by decide +kernel
theorem dX7_read_35 : decode cX7_read 35 = .ok (.laload, 1) := by decide +kernel
theorem dX7_read_36 : decode cX7_read 36 = .ok (.goto 6, 3) := by decide +kernel
theorem dX7_read_39 : decode cX7_read 39 = .ok (.ldc2_w 91, 3) := by decide +kernel
theorem dX7_read_42 : decode cX7_read 42 = .ok (.lreturn, 1) := by decide +kernel
set_option maxRecDepth 20000 in
theorem ggX7_shift_X7_isTape : GoodIn wsX7_shift wsX7_isTape := goodIn_r _ [11] (by decide +kernel) (by decide +kernel)
set_option maxRecDepth 20000 in
theorem gX7_shift_X7_isTape : GoodIn wsX7_shift (va_wsS RX7 182 yX7_isTape wsX7_isTape) := goodIn_app (goodIn_of _ (by decide +kernel)) ggX7_shift_X7_isTape
set_option maxRecDepth 20000 in
theorem ggX7_shift_X4_hasRange : GoodIn wsX7_shift wsX4_hasRange := goodIn_r _ [16, 17, 25, 26, 27] (by decide +kernel) (by decide +kernel)
set_option maxRecDepth 20000 in
theorem gX7_shift_X4_hasRange : GoodIn wsX7_shift (wsV RX7 206 RX4 yX4_hasRange wsX4_hasRange) := goodIn_app (goodIn_of _ (by decide +kernel)) ggX7_shift_X4_hasRange
theorem dX7_shift_0 : decode cX7_shift 0 = .ok (.iload_n 1, 1) := by decide +kernel
theorem dX7_shift_1 : decode cX7_shift 1 = .ok (.invokestatic 182, 3) := by decide +kernel
theorem dX7_shift_4 : decode cX7_shift 4 = .ok (.ifCond .eq 10, 3) := by decide +kernel
theorem dX7_shift_7 : decode cX7_shift 7 = .ok (.iload_n 3, 1) := by decide +kernel
theorem dX7_shift_8 : decode cX7_shift 8 = .ok (.invokestatic 182, 3) := by decide +kernel
theorem dX7_shift_11 : decode cX7_shift 11 = .ok (.ifCond .ne 5, 3) := by decide +kernel
theorem dX7_shift_14 : decode cX7_shift 14 = .ok (.iconst (-1), 1) := by decide +kernel
theorem dX7_shift_15 : decode cX7_shift 15 = .ok (.ireturn, 1) := by decide +kernel
theorem dX7_shift_16 : decode cX7_shift 16 = .ok (.aload_n 0, 1) := by decide +kernel
theorem dX7_shift_17 : decode cX7_shift 17 = .ok (.getfield 36, 3) := by decide +kernel
theorem dX7_shift_20 : decode cX7_shift 20 = .ok (.iload_n 1, 1) := by decide +kernel
theorem dX7_shift_21 : decode cX7_shift 21 = .ok (.aaload, 1) := by decide +kernel
theorem dX7_shift_22 : decode cX7_shift 22 = .ok (.astore 6, 2) := by decide +kernel
theorem dX7_shift_24 : decode cX7_shift 24 = .ok (.aload_n 0, 1) := by decide +kernel
theorem dX7_shift_25 : decode cX7_shift 25 = .ok (.getfield 36, 3) := by decide +kernel
theorem dX7_shift_28 : decode cX7_shift 28 = .ok (.iload_n 3, 1) := by decide +kernel
theorem dX7_shift_29 : decode cX7_shift 29 = .ok (.aaload, 1) := by decide +kernel
theorem dX7_shift_30 : decode cX7_shift 30 = .ok (.astore 7, 2) := by decide +kernel
theorem dX7_shift_32 : decode cX7_shift 32 = .ok (.aload 6, 2) := by decide +kernel
theorem dX7_shift_34 : decode cX7_shift 34 = .ok (.getfield 185, 3) := by decide +kernel
theorem dX7_shift_37 : decode cX7_shift 37 = .ok (.iconst (-1), 1) := by decide +kernel
theorem dX7_shift_38 : decode cX7_shift 38 = .ok (.if_icmp .eq 12, 3) := by decide +kernel
theorem dX7_shift_41 : decode cX7_shift 41 = .ok (.aload 7, 2) := by decide +kernel
theorem dX7_shift_43 : decode cX7_shift 43 = .ok (.getfield 185, 3) := by decide +kernel
theorem dX7_shift_46 : decode cX7_shift 46 = .ok (.iconst (-1), 1) := by decide +kernel
theorem dX7_shift_47 : decode cX7_shift 47 = .ok (.if_icmp .ne 6, 3) := by decide +kernel
theorem dX7_shift_50 : decode cX7_shift 50 = .ok (.bipush (-11), 2) := by decide +kernel
theorem dX7_shift_52 : decode cX7_shift 52 = .ok (.ireturn, 1) := by decide +kernel
theorem dX7_shift_53 : decode cX7_shift 53 = .ok (.aload 6, 2) := by decide +kernel
theorem dX7_shift_55 : decode cX7_shift 55 = .ok (.getfield 185, 3) := by decide +kernel
theorem dX7_shift_58 : decode cX7_shift 58 = .ok (.aload 7, 2) := by decide +kernel
theorem dX7_shift_60 : decode cX7_shift 60 = .ok (.getfield 185, 3) := by decide +kernel
theorem dX7_shift_63 : decode cX7_shift 63 = .ok (.if_icmp .eq 6, 3) := by decide +kernel
theorem dX7_shift_66 : decode cX7_shift 66 = .ok (.bipush (-12), 2) := by decide +kernel
theorem dX7_shift_68 : decode cX7_shift 68 = .ok (.ireturn, 1) := by decide +kernel
theorem dX7_shift_69 : decode cX7_shift 69 = .ok (.aload 6, 2) := by decide +kernel
theorem dX7_shift_71 : decode cX7_shift 71 = .ok (.iload_n 2, 1) := by decide +kernel
theorem dX7_shift_72 : decode cX7_shift 72 = .ok (.iload 5, 2) := by decide +kernel
theorem dX7_shift_74 : decode cX7_shift 74 = .ok (.invokevirtual 206, 3) := by decide +kernel
theorem dX7_shift_77 : decode cX7_shift 77 = .ok (.ifCond .eq 15, 3) := by decide +kernel
theorem dX7_shift_80 : decode cX7_shift 80 = .ok (.aload 7, 2) := by decide +kernel
theorem dX7_shift_82 : decode cX7_shift 82 = .ok (.iload 4, 2) := by decide +kernel
theorem dX7_shift_84 : decode cX7_shift 84 = .ok (.iload 5, 2) := by decide +kernel
theorem dX7_shift_86 : decode cX7_shift 86 = .ok (.invokevirtual 206, 3) := by decide +kernel
theorem dX7_shift_89 : decode cX7_shift 89 = .ok (.ifCond .ne 6, 3) := by decide +kernel
theorem dX7_shift_92 : decode cX7_shift 92 = .ok (.bipush (-13), 2) := by decide +kernel
theorem dX7_shift_94 : decode cX7_shift 94 = .ok (.ireturn, 1) := by decide +kernel
theorem dX7_shift_95 : decode cX7_shift 95 = .ok (.aload 6, 2) := by decide +kernel
theorem dX7_shift_97 : decode cX7_shift 97 = .ok (.getfield 189, 3) := by decide +kernel
theorem dX7_shift_100 : decode cX7_shift 100 = .ok (.iload_n 2, 1) := by decide +kernel
theorem dX7_shift_101 : decode cX7_shift 101 = .ok (.aload 7, 2) := by decide +kernel
theorem dX7_shift_103 : decode cX7_shift 103 = .ok (.getfield 189, 3) := by decide +kernel
theorem dX7_shift_106 : decode cX7_shift 106 = .ok (.iload 4, 2) := by decide +kernel
theorem dX7_shift_108 : decode cX7_shift 108 = .ok (.iload 5, 2) := by decide +kernel
theorem dX7_shift_110 : decode cX7_shift 110 = .ok (.invokestatic 210, 3) := by decide +kernel
theorem dX7_shift_113 : decode cX7_shift 113 = .ok (.iload 5, 2) := by decide +kernel
theorem dX7_shift_115 : decode cX7_shift 115 = .ok (.ireturn, 1) := by decide +kernel
theorem dX7_isTape_0 : decode cX7_isTape 0 = .ok (.iload_n 0, 1) := by decide +kernel
theorem dX7_isTape_1 : decode cX7_isTape 1 = .ok (.ifCond .lt 13, 3) := by decide +kernel
theorem dX7_isTape_4 : decode cX7_isTape 4 = .ok (.iload_n 0, 1) := by decide +kernel
theorem dX7_isTape_5 : decode cX7_isTape 5 = .ok (.bipush 6, 2) := by decide +kernel
theorem dX7_isTape_7 : decode cX7_isTape 7 = .ok (.if_icmp .ge 7, 3) := by decide +kernel
theorem dX7_isTape_10 : decode cX7_isTape 10 = .ok (.iconst 1, 1) := by decide +kernel
theorem dX7_isTape_11 : decode cX7_isTape 11 = .ok (.goto 4, 3) := by decide +kernel
theorem dX7_isTape_14 : decode cX7_isTape 14 = .ok (.iconst 0, 1) := by decide +kernel
theorem dX7_isTape_15 : decode cX7_isTape 15 = .ok (.ireturn, 1) := by decide +kernel
theorem dX8_init_0 : decode cX8_init 0 = .ok (.aload_n 0, 1) := by decide +kernel
theorem dX8_init_1 : decode cX8_init 1 = .ok (.invokespecial 5, 3) := by decide +kernel
theorem dX8_init_4 : decode cX8_init 4 = .ok (.aload_n 0, 1) := by decide +kernel
theorem dX8_init_5 : decode cX8_init 5 = .ok (.sipush 3253, 3) := by decide +kernel
theorem dX8_init_8 : decode cX8_init 8 = .ok (.newarray .int, 2) := by decide +kernel
theorem dX8_init_10 : decode cX8_init 10 = .ok (.putfield 11, 3) := by decide +kernel
theorem dX8_init_13 : decode cX8_init 13 = .ok (.aload_n 0, 1) := by decide +kernel
theorem dX8_init_14 : decode cX8_init 14 = .ok (.sipush 3253, 3) := by decide +kernel
theorem dX8_init_17 : decode cX8_init 17 = .ok (.newarray .int, 2) := by decide +kernel
theorem dX8_init_19 : decode cX8_init 19 = .ok (.putfield 15, 3) := by decide +kernel
theorem dX8_init_22 : decode cX8_init 22 = .ok (.aload_n 0, 1) := by decide +kernel
theorem dX8_init_23 : decode cX8_init 23 = .ok (.sipush 3253, 3) := by decide +kernel
theorem dX8_init_26 : decode cX8_init 26 = .ok (.newarray .int, 2) := by decide +kernel
theorem dX8_init_28 : decode cX8_init 28 = .ok (.putfield 18, 3) := by decide +kernel
theorem dX8_init_31 : decode cX8_init 31 = .ok (.aload_n 0, 1) := by decide +kernel
theorem dX8_init_32 : decode cX8_init 32 = .ok (.sipush 400, 3) := by decide +kernel
theorem dX8_init_35 : decode cX8_init 35 = .ok (.newarray .int, 2) := by decide +kernel
theorem dX8_init_37 : decode cX8_init 37 = .ok (.putfield 21, 3) := by decide +kernel
theorem dX8_init_40 : decode cX8_init 40 = .ok (.aload_n 0, 1) := by decide +kernel
theorem dX8_init_41 : decode cX8_init 41 = .ok (.bipush 100, 2) := by decide +kernel
theorem dX8_init_43 : decode cX8_init 43 = .ok (.newarray .int, 2) := by decide +kernel
theorem dX8_init_45 : decode cX8_init 45 = .ok (.putfield 24, 3) := by decide +kernel
theorem dX8_init_48 : decode cX8_init 48 = .ok (.aload_n 0, 1) := by decide +kernel
theorem dX8_init_49 : decode cX8_init 49 = .ok (.bipush 120, 2) := by decide +kernel
theorem dX8_init_51 : decode cX8_init 51 = .ok (.newarray .int, 2) := by decide +kernel
theorem dX8_init_53 : decode cX8_init 53 = .ok (.putfield 27, 3) := by decide +kernel
theorem dX8_init_56 : decode cX8_init 56 = .ok (.aload_n 0, 1) := by decide +kernel
theorem dX8_init_57 : decode cX8_init 57 = .ok (.bipush 120, 2) := by decide +kernel
theorem dX8_init_59 : decode cX8_init 59 = .ok (.newarray .int, 2) := by decide +kernel
theorem dX8_init_61 : decode cX8_init 61 = .ok (.putfield 30, 3) := by decide +kernel
theorem dX8_init_64 : decode cX8_init 64 = .ok (.aload_n 0, 1) := by decide +kernel
theorem dX8_init_65 : decode cX8_init 65 = .ok (.bipush 120, 2) := by decide +kernel
theorem dX8_init_67 : decode cX8_init 67 = .ok (.newarray .int, 2) := by decide +kernel
theorem dX8_init_69 : decode cX8_init 69 = .ok (.putfield 33, 3) := by decide +kernel
theorem dX8_init_72 : decode cX8_init 72 = .ok (.aload_n 0, 1) := by decide +kernel
theorem dX8_init_73 : decode cX8_init 73 = .ok (.bipush 6, 2) := by decide +kernel
theorem dX8_init_75 : decode cX8_init 75 = .ok (.newarray .int, 2) := by decide +kernel
theorem dX8_init_77 : decode cX8_init 77 = .ok (.putfield 36, 3) := by decide +kernel
theorem dX8_init_80 : decode cX8_init 80 = .ok (.aload_n 0, 1) := by decide +kernel
theorem dX8_init_81 : decode cX8_init 81 = .ok (.bipush 6, 2) := by decide +kernel
theorem dX8_init_83 : decode cX8_init 83 = .ok (.newarray .int, 2) := by decide +kernel
theorem dX8_init_85 : decode cX8_init 85 = .ok (.putfield 39, 3) := by decide +kernel
theorem dX8_init_88 : decode cX8_init 88 = .ok (.aload_n 0, 1) := by decide +kernel
theorem dX8_init_89 : decode cX8_init 89 = .ok (.bipush 6, 2) := by decide +kernel
theorem dX8_init_91 : decode cX8_init 91 = .ok (.newarray .int, 2) := by decide +kernel
theorem dX8_init_93 : decode cX8_init 93 = .ok (.putfield 42, 3) := by decide +kernel
theorem dX8_init_96 : decode cX8_init 96 = .ok (.aload_n 0, 1) := by decide +kernel
theorem dX8_init_97 : decode cX8_init 97 = .ok (.bipush 6, 2) := by decide +kernel
theorem dX8_init_99 : decode cX8_init 99 = .ok (.bipush 60, 2) := by decide +kernel
theorem dX8_init_101 : decode cX8_init 101 = .ok (.multianewarray 45 2, 4) := by decide +kernel
theorem dX8_init_105 : decode cX8_init 105 = .ok (.putfield 47, 3) := by decide +kernel
theorem dX8_init_108 : decode cX8_init 108 = .ok (.aload_n 0, 1) := by decide +kernel
theorem dX8_init_109 : decode cX8_init 109 = .ok (.bipush 60, 2) := by decide +kernel
theorem dX8_init_111 : decode cX8_init 111 = .ok (.newarray .long, 2) := by decide +kernel
theorem dX8_init_113 : decode cX8_init 113 = .ok (.putfield 50, 3) := by decide +kernel
theorem dX8_init_116 : decode cX8_init 116 = .ok (.aload_n 0, 1) := by decide +kernel
theorem dX8_init_117 : decode cX8_init 117 = .ok (.getfield 11, 3) := by decide +kernel
theorem dX8_init_120 : decode cX8_init 120 = .ok (.sipush 3200, 3) := by decide +kernel
theorem dX8_init_123 : decode cX8_init 123 = .ok (.bipush 20, 2) := by decide +kernel
theorem dX8_init_125 : decode cX8_init 125 = .ok (.iastore, 1) := by decide +kernel
theorem dX8_init_126 : decode cX8_init 126 = .ok (.aload_n 0, 1) := by decide +kernel
theorem dX8_init_127 : decode cX8_init 127 = .ok (.getfield 11, 3) := by decide +kernel
theorem dX8_init_130 : decode cX8_init 130 = .ok (.sipush 3201, 3) := by decide +kernel
theorem dX8_init_133 : decode cX8_init 133 = .ok (.bipush 10, 2) := by decide +kernel
theorem dX8_init_135 : decode cX8_init 135 = .ok (.iastore, 1) := by decide +kernel
theorem dX8_init_136 : decode cX8_init 136 = .ok (.aload_n 0, 1) := by decide +kernel
theorem dX8_init_137 : decode cX8_init 137 = .ok (.getfield 11, 3) := by decide +kernel
theorem dX8_init_140 : decode cX8_init 140 = .ok (.sipush 3202, 3) := by decide +kernel
theorem dX8_init_143 : decode cX8_init 143 = .ok (.iconst 2, 1) := by decide +kernel
theorem dX8_init_144 : decode cX8_init 144 = .ok (.iastore, 1) := by decide +kernel
theorem dX8_init_145 : decode cX8_init 145 = .ok (.aload_n 0, 1) := by decide +kernel
theorem dX8_init_146 : decode cX8_init 146 = .ok (.getfield 11, 3) := by decide +kernel
theorem dX8_init_149 : decode cX8_init 149 = .ok (.sipush 3203, 3) := by decide +kernel
theorem dX8_init_152 : decode cX8_init 152 = .ok (.iconst 1, 1) := by decide +kernel
theorem dX8_init_153 : decode cX8_init 153 = .ok (.iastore, 1) := by decide +kernel
theorem dX8_init_154 : decode cX8_init 154 = .ok (.iconst 0, 1) := by decide +kernel
theorem dX8_init_155 : decode cX8_init 155 = .ok (.istore_n 1, 1) := by decide +kernel
theorem dX8_init_156 : decode cX8_init 156 = .ok (.iload_n 1, 1) := by decide +kernel
theorem dX8_init_157 : decode cX8_init 157 = .ok (.bipush 6, 2) := by decide +kernel
theorem dX8_init_159 : decode cX8_init 159 = .ok (.if_icmp .ge 16, 3) := by decide +kernel
theorem dX8_init_162 : decode cX8_init 162 = .ok (.aload_n 0, 1) := by decide +kernel
theorem dX8_init_163 : decode cX8_init 163 = .ok (.getfield 39, 3) := by decide +kernel
theorem dX8_init_166 : decode cX8_init 166 = .ok (.iload_n 1, 1) := by decide +kernel
theorem dX8_init_167 : decode cX8_init 167 = .ok (.iconst (-1), 1) := by decide +kernel
theorem dX8_init_168 : decode cX8_init 168 = .ok (.iastore, 1) := by decide +kernel
theorem dX8_init_169 : decode cX8_init 169 = .ok (.iinc 1 1, 3) := by decide +kernel
theorem dX8_init_172 : decode cX8_init 172 = .ok (.goto (-16), 3) := by decide +kernel
theorem dX8_init_175 : decode cX8_init 175 = .ok (.return_, 1) := by decide +kernel
theorem dX8_in_0 : decode cX8_in 0 = .ok (.iload_n 0, 1) := by decide +kernel
theorem dX8_in_1 : decode cX8_in 1 = .ok (.iload_n 1, 1) := by decide +kernel
theorem dX8_in_2 : decode cX8_in 2 = .ok (.if_icmp .lt 12, 3) := by decide +kernel
theorem dX8_in_5 : decode cX8_in 5 = .ok (.iload_n 0, 1) := by decide +kernel
theorem dX8_in_6 : decode cX8_in 6 = .ok (.iload_n 2, 1) := by decide +kernel
theorem dX8_in_7 : decode cX8_in 7 = .ok (.if_icmp .gt 7, 3) := by decide +kernel
theorem dX8_in_10 : decode cX8_in 10 = .ok (.iconst 1, 1) := by decide +kernel
theorem dX8_in_11 : decode cX8_in 11 = .ok (.goto 4, 3) := by decide +kernel
theorem dX8_in_14 : decode cX8_in 14 = .ok (.iconst 0, 1) := by decide +kernel
theorem dX8_in_15 : decode cX8_in 15 = .ok (.ireturn, 1) := by decide +kernel
set_option maxRecDepth 20000 in
theorem ggX8_isKey_X8_in : GoodIn wsX8_isKey wsX8_in := goodIn_r _ [4] (by decide +kernel) (by decide +kernel)
set_option maxRecDepth 20000 in
theorem gX8_isKey_X8_in : GoodIn wsX8_isKey (va_wsS RX8 54 yX8_in wsX8_in) := goodIn_app (goodIn_of _ (by decide +kernel)) ggX8_isKey_X8_in
theorem dX8_isKey_0 : decode cX8_isKey 0 = .ok (.iload_n 0, 1) := by decide +kernel
theorem dX8_isKey_1 : decode cX8_isKey 1 = .ok (.iconst 0, 1) := by decide +kernel
theorem dX8_isKey_2 : decode cX8_isKey 2 = .ok (.iconst 3, 1) := by decide +kernel
theorem dX8_isKey_3 : decode cX8_isKey 3 = .ok (.invokestatic 54, 3) := by decide +kernel
theorem dX8_isKey_6 : decode cX8_isKey 6 = .ok (.ifCond .eq 17, 3) := by decide +kernel
theorem dX8_isKey_9 : decode cX8_isKey 9 = .ok (.iload_n 1, 1) := by decide +kernel
theorem dX8_isKey_10 : decode cX8_isKey 10 = .ok (.iconst 0, 1) := by decide +kernel
theorem dX8_isKey_11 : decode cX8_isKey 11 = .ok (.bipush 99, 2) := by decide +kernel
theorem dX8_isKey_13 : decode cX8_isKey 13 = .ok (.invokestatic 54, 3) := by decide +kernel
theorem dX8_isKey_16 : decode cX8_isKey 16 = .ok (.ifCond .eq 7, 3) := by decide +kernel
theorem dX8_isKey_19 : decode cX8_isKey 19 = .ok (.iconst 1, 1) := by decide +kernel
theorem dX8_isKey_20 : decode cX8_isKey 20 = .ok (.goto 4, 3) := by decide +kernel
theorem dX8_isKey_23 : decode cX8_isKey 23 = .ok (.iconst 0, 1) := by decide +kernel
theorem dX8_isKey_24 : decode cX8_isKey 24 = .ok (.ireturn, 1) := by decide +kernel
theorem dX8_copy_0 : decode cX8_copy 0 = .ok (.iconst 0, 1) := by decide +kernel
theorem dX8_copy_1 : decode cX8_copy 1 = .ok (.istore_n 2, 1) := by decide +kernel
theorem dX8_copy_2 : decode cX8_copy 2 = .ok (.iload_n 2, 1) := by decide +kernel
theorem dX8_copy_3 : decode cX8_copy 3 = .ok (.sipush 3253, 3) := by decide +kernel
theorem dX8_copy_6 : decode cX8_copy 6 = .ok (.if_icmp .ge 15, 3) := by decide +kernel
theorem dX8_copy_9 : decode cX8_copy 9 = .ok (.aload_n 1, 1) := by decide +kernel
theorem dX8_copy_10 : decode cX8_copy 10 = .ok (.iload_n 2, 1) := by decide +kernel
theorem dX8_copy_11 : decode cX8_copy 11 = .ok (.aload_n 0, 1) := by decide +kernel
theorem dX8_copy_12 : decode cX8_copy 12 = .ok (.iload_n 2, 1) := by decide +kernel
theorem dX8_copy_13 : decode cX8_copy 13 = .ok (.iaload, 1) := by decide +kernel
theorem dX8_copy_14 : decode cX8_copy 14 = .ok (.iastore, 1) := by decide +kernel
theorem dX8_copy_15 : decode cX8_copy 15 = .ok (.iinc 2 1, 3) := by decide +kernel
theorem dX8_copy_18 : decode cX8_copy 18 = .ok (.goto (-16), 3) := by decide +kernel
theorem dX8_copy_21 : decode cX8_copy 21 = .ok (.return_, 1) := by decide +kernel
theorem dX8_goes_0 : decode cX8_goes 0 = .ok (.aload_n 0, 1) := by decide +kernel
theorem dX8_goes_1 : decode cX8_goes 1 = .ok (.getfield 11, 3) := by decide +kernel
theorem dX8_goes_4 : decode cX8_goes 4 = .ok (.sipush 3204, 3) := by decide +kernel
theorem dX8_goes_7 : decode cX8_goes 7 = .ok (.aload_n 0, 1) := by decide +kernel
theorem dX8_goes_8 : decode cX8_goes 8 = .ok (.getfield 11, 3) := by decide +kernel
theorem dX8_goes_11 : decode cX8_goes 11 = .ok (.iconst 0, 1) := by decide +kernel
theorem dX8_goes_12 : decode cX8_goes 12 = .ok (.iload_n 1, 1) := by decide +kernel
theorem dX8_goes_13 : decode cX8_goes 13 = .ok (.iadd, 1) := by decide +kernel
theorem dX8_goes_14 : decode cX8_goes 14 = .ok (.iaload, 1) := by decide +kernel
theorem dX8_goes_15 : decode cX8_goes 15 = .ok (.iadd, 1) := by decide +kernel
theorem dX8_goes_16 : decode cX8_goes 16 = .ok (.dup2, 1) := by decide +kernel
theorem dX8_goes_17 : decode cX8_goes 17 = .ok (.iaload, 1) := by decide +kernel
theorem dX8_goes_18 : decode cX8_goes 18 = .ok (.aload_n 0, 1) := by decide +kernel
theorem dX8_goes_19 : decode cX8_goes 19 = .ok (.getfield 11, 3) := by decide +kernel
theorem dX8_goes_22 : decode cX8_goes 22 = .ok (.sipush 800, 3) := by decide +kernel
theorem dX8_goes_25 : decode cX8_goes 25 = .ok (.iload_n 1, 1) := by decide +kernel
theorem dX8_goes_26 : decode cX8_goes 26 = .ok (.iadd, 1) := by decide +kernel
theorem dX8_goes_27 : decode cX8_goes 27 = .ok (.iaload, 1) := by decide +kernel
theorem dX8_goes_28 : decode cX8_goes 28 = .ok (.isub, 1) := by decide +kernel
theorem dX8_goes_29 : decode cX8_goes 29 = .ok (.iastore, 1) := by decide +kernel
theorem dX8_goes_30 : decode cX8_goes 30 = .ok (.aload_n 0, 1) := by decide +kernel
theorem dX8_goes_31 : decode cX8_goes 31 = .ok (.getfield 11, 3) := by decide +kernel
theorem dX8_goes_34 : decode cX8_goes 34 = .ok (.iconst 0, 1) := by decide +kernel
theorem dX8_goes_35 : decode cX8_goes 35 = .ok (.iload_n 1, 1) := by decide +kernel
theorem dX8_goes_36 : decode cX8_goes 36 = .ok (.iadd, 1) := by decide +kernel
theorem dX8_goes_37 : decode cX8_goes 37 = .ok (.iload_n 2, 1) := by decide +kernel
theorem dX8_goes_38 : decode cX8_goes 38 = .ok (.iastore, 1) := by decide +kernel
theorem dX8_goes_39 : decode cX8_goes 39 = .ok (.aload_n 0, 1) := by decide +kernel
theorem dX8_goes_40 : decode cX8_goes 40 = .ok (.getfield 11, 3) := by decide +kernel
theorem dX8_goes_43 : decode cX8_goes 43 = .ok (.sipush 3204, 3) := by decide +kernel
theorem dX8_goes_46 : decode cX8_goes 46 = .ok (.iload_n 2, 1) := by decide +kernel
theorem dX8_goes_47 : decode cX8_goes 47 = .ok (.iadd, 1) := by decide +kernel
theorem dX8_goes_48 : decode cX8_goes 48 = .ok (.dup2, 1) := by decide +kernel
theorem dX8_goes_49 : decode cX8_goes 49 = .ok (.iaload, 1) := by decide +kernel
theorem dX8_goes_50 : decode cX8_goes 50 = .ok (.aload_n 0, 1) := by decide +kernel
theorem dX8_goes_51 : decode cX8_goes 51 = .ok (.getfield 11, 3) := by decide +kernel
theorem dX8_goes_54 : decode cX8_goes 54 = .ok (.sipush 800, 3) := by decide +kernel
theorem dX8_goes_57 : decode cX8_goes 57 = .ok (.iload_n 1, 1) := by decide +kernel
theorem dX8_goes_58 : decode cX8_goes 58 = .ok (.iadd, 1) := by decide +kernel
theorem dX8_goes_59 : decode cX8_goes 59 = .ok (.iaload, 1) := by decide +kernel
theorem dX8_goes_60 : decode cX8_goes 60 = .ok (.iadd, 1) := by decide +kernel
theorem dX8_goes_61 : decode cX8_goes 61 = .ok (.iastore, 1) := by decide +kernel
theorem dX8_goes_62 : decode cX8_goes 62 = .ok (.aload_n 0, 1) := by decide +kernel
theorem dX8_goes_63 : decode cX8_goes 63 = .ok (.getfield 11, 3) := by decide +kernel
theorem dX8_goes_66 : decode cX8_goes 66 = .ok (.sipush 2800, 3) := by decide +kernel
theorem dX8_goes_69 : decode cX8_goes 69 = .ok (.iload_n 1, 1) := by decide +kernel
theorem dX8_goes_70 : decode cX8_goes 70 = .ok (.iadd, 1) := by decide +kernel
theorem dX8_goes_71 : decode cX8_goes 71 = .ok (.aload_n 0, 1) := by decide +kernel
theorem dX8_goes_72 : decode cX8_goes 72 = .ok (.getfield 11, 3) := by decide +kernel
theorem dX8_goes_75 : decode cX8_goes 75 = .ok (.sipush 3215, 3) := by decide +kernel
theorem dX8_goes_78 : decode cX8_goes 78 = .ok (.dup2, 1) := by decide +kernel
theorem dX8_goes_79 : decode cX8_goes 79 = .ok (.iaload, 1) := by decide +kernel
theorem dX8_goes_80 : decode cX8_goes 80 = .ok (.dup_x2, 1) := by decide +kernel
theorem dX8_goes_81 : decode cX8_goes 81 = .ok (.iconst 1, 1) := by decide +kernel
theorem dX8_goes_82 : decode cX8_goes 82 = .ok (.iadd, 1) := by decide +kernel
theorem dX8_goes_83 : decode cX8_goes 83 = .ok (.iastore, 1) := by decide +kernel
theorem dX8_goes_84 : decode cX8_goes 84 = .ok (.iastore, 1) := by decide +kernel
theorem dX8_goes_85 : decode cX8_goes 85 = .ok (.return_, 1) := by decide +kernel
theorem dX8_weighs_0 : decode cX8_weighs 0 = .ok (.aload_n 0, 1) := by decide +kernel
theorem dX8_weighs_1 : decode cX8_weighs 1 = .ok (.getfield 11, 3) := by decide +kernel
theorem dX8_weighs_4 : decode cX8_weighs 4 = .ok (.sipush 3204, 3) := by decide +kernel
theorem dX8_weighs_7 : decode cX8_weighs 7 = .ok (.aload_n 0, 1) := by decide +kernel
theorem dX8_weighs_8 : decode cX8_weighs 8 = .ok (.getfield 11, 3) := by decide +kernel
theorem dX8_weighs_11 : decode cX8_weighs 11 = .ok (.iconst 0, 1) := by decide +kernel
theorem dX8_weighs_12 : decode cX8_weighs 12 = .ok (.iload_n 1, 1) := by decide +kernel
theorem dX8_weighs_13 : decode cX8_weighs 13 = .ok (.iadd, 1) := by decide +kernel
theorem dX8_weighs_14 : decode cX8_weighs 14 = .ok (.iaload, 1) := by decide +kernel
theorem dX8_weighs_15 : decode cX8_weighs 15 = .ok (.iadd, 1) := by decide +kernel
theorem dX8_weighs_16 : decode cX8_weighs 16 = .ok (.dup2, 1) := by decide +kernel
theorem dX8_weighs_17 : decode cX8_weighs 17 = .ok (.iaload, 1) := by decide +kernel
theorem dX8_weighs_18 : decode cX8_weighs 18 = .ok (.iload_n 2, 1) := by decide +kernel
theorem dX8_weighs_19 : decode cX8_weighs 19 = .ok (.aload_n 0, 1) := by decide +kernel
theorem dX8_weighs_20 : decode cX8_weighs 20 = .ok (.getfield 11, 3) := by decide +kernel
theorem dX8_weighs_23 : decode cX8_weighs 23 = .ok (.sipush 800, 3) := by decide +kernel
theorem dX8_weighs_26 : decode cX8_weighs 26 = .ok (.iload_n 1, 1) := by decide +kernel
theorem dX8_weighs_27 : decode cX8_weighs 27 = .ok (.iadd, 1) := by decide +kernel
theorem dX8_weighs_28 : decode cX8_weighs 28 = .ok (.iaload, 1) := by decide +kernel
theorem dX8_weighs_29 : decode cX8_weighs 29 = .ok (.isub, 1) := by decide +kernel
theorem dX8_weighs_30 : decode cX8_weighs 30 = .ok (.iadd, 1) := by decide +kernel
theorem dX8_weighs_31 : decode cX8_weighs 31 = .ok (.iastore, 1) := by decide +kernel
theorem dX8_weighs_32 : decode cX8_weighs 32 = .ok (.aload_n 0, 1) := by decide +kernel
theorem dX8_weighs_33 : decode cX8_weighs 33 = .ok (.getfield 11, 3) := by decide +kernel
theorem dX8_weighs_36 : decode cX8_weighs 36 = .ok (.sipush 800, 3) := by decide +kernel
theorem dX8_weighs_39 : decode cX8_weighs 39 = .ok (.iload_n 1, 1) := by decide +kernel
theorem dX8_weighs_40 : decode cX8_weighs 40 = .ok (.iadd, 1) := by decide +kernel
theorem dX8_weighs_41 : decode cX8_weighs 41 = .ok (.iload_n 2, 1) := by decide +kernel
theorem dX8_weighs_42 : decode cX8_weighs 42 = .ok (.iastore, 1) := by decide +kernel
theorem dX8_weighs_43 : decode cX8_weighs 43 = .ok (.return_, 1) := by decide +kernel
theorem dX8_isThing_0 : decode cX8_isThing 0 = .ok (.aload_n 0, 1) := by decide +kernel
theorem dX8_isThing_1 : decode cX8_isThing 1 = .ok (.getfield 11, 3) := by decide +kernel
theorem dX8_isThing_4 : decode cX8_isThing 4 = .ok (.iconst 0, 1) := by decide +kernel
theorem dX8_isThing_5 : decode cX8_isThing 5 = .ok (.iload_n 1, 1) := by decide +kernel
theorem dX8_isThing_6 : decode cX8_isThing 6 = .ok (.iadd, 1) := by decide +kernel
theorem dX8_isThing_7 : decode cX8_isThing 7 = .ok (.iaload, 1) := by decide +kernel
theorem dX8_isThing_8 : decode cX8_isThing 8 = .ok (.iconst 1, 1) := by decide +kernel
theorem dX8_isThing_9 : decode cX8_isThing 9 = .ok (.if_icmp .eq 15, 3) := by decide +kernel
theorem dX8_isThing_12 : decode cX8_isThing 12 = .ok (.aload_n 0, 1) := by decide +kernel
theorem dX8_isThing_13 : decode cX8_isThing 13 = .ok (.getfield 11, 3) := by decide +kernel
theorem dX8_isThing_16 : decode cX8_isThing 16 = .ok (.iconst 0, 1) := by decide +kernel
theorem dX8_isThing_17 : decode cX8_isThing 17 = .ok (.iload_n 1, 1) := by decide +kernel
theorem dX8_isThing_18 : decode cX8_isThing 18 = .ok (.iadd, 1) := by decide +kernel
theorem dX8_isThing_19 : decode cX8_isThing 19 = .ok (.iaload, 1) := by decide +kernel
theorem dX8_isThing_20 : decode cX8_isThing 20 = .ok (.iconst 2, 1) := by decide +kernel
theorem dX8_isThing_21 : decode cX8_isThing 21 = .ok (.if_icmp .ne 7, 3) := by decide +kernel
theorem dX8_isThing_24 : decode cX8_isThing 24 = .ok (.iconst 1, 1) := by decide +kernel
theorem dX8_isThing_25 : decode cX8_isThing 25 = .ok (.goto 4, 3) := by decide +kernel
theorem dX8_isThing_28 : decode cX8_isThing 28 = .ok (.iconst 0, 1) := by decide +kernel
theorem dX8_isThing_29 : decode cX8_isThing 29 = .ok (.ireturn, 1) := by decide +kernel
theorem dX8_oldest_0 : decode cX8_oldest 0 = .ok (.iconst (-1), 1) := by decide +kernel
theorem dX8_oldest_1 : decode cX8_oldest 1 = .ok (.istore_n 3, 1) := by decide +kernel
theorem dX8_oldest_2 : decode cX8_oldest 2 = .ok (.iconst 0, 1) := by decide +kernel
theorem dX8_oldest_3 : decode cX8_oldest 3 = .ok (.istore 4, 2) := by decide +kernel
theorem dX8_oldest_5 : decode cX8_oldest 5 = .ok (.iload 4, 2) := by decide +kernel
theorem dX8_oldest_7 : decode cX8_oldest 7 = .ok (.sipush 400, 3) := by decide +kernel
theorem dX8_oldest_10 : decode cX8_oldest 10 = .ok (.if_icmp .ge 72, 3) := by decide +kernel
theorem dX8_oldest_13 : decode cX8_oldest 13 = .ok (.aload_n 0, 1) := by decide +kernel
theorem dX8_oldest_14 : decode cX8_oldest 14 = .ok (.getfield 11, 3) := by decide +kernel
theorem dX8_oldest_17 : decode cX8_oldest 17 = .ok (.iconst 0, 1) := by decide +kernel
theorem dX8_oldest_18 : decode cX8_oldest 18 = .ok (.iload 4, 2) := by decide +kernel
theorem dX8_oldest_20 : decode cX8_oldest 20 = .ok (.iadd, 1) := by decide +kernel
theorem dX8_oldest_21 : decode cX8_oldest 21 = .ok (.iaload, 1) := by decide +kernel
theorem dX8_oldest_22 : decode cX8_oldest 22 = .ok (.iload_n 1, 1) := by decide +kernel
theorem dX8_oldest_23 : decode cX8_oldest 23 = .ok (.if_icmp .ne 53, 3) := by decide +kernel
theorem dX8_oldest_26 : decode cX8_oldest 26 = .ok (.iload_n 2, 1) := by decide +kernel
theorem dX8_oldest_27 : decode cX8_oldest 27 = .ok (.ifCond .eq 18, 3) := by decide +kernel
theorem dX8_oldest_30 : decode cX8_oldest 30 = .ok (.aload_n 0, 1) := by decide +kernel
theorem dX8_oldest_31 : decode cX8_oldest 31 = .ok (.getfield 11, 3) := by decide +kernel
theorem dX8_oldest_34 : decode cX8_oldest 34 = .ok (.sipush 2400, 3) := by decide +kernel
theorem dX8_oldest_37 : decode cX8_oldest 37 = .ok (.iload 4, 2) := by decide +kernel
theorem dX8_oldest_39 : decode cX8_oldest 39 = .ok (.iadd, 1) := by decide +kernel
theorem dX8_oldest_40 : decode cX8_oldest 40 = .ok (.iaload, 1) := by decide +kernel
theorem dX8_oldest_41 : decode cX8_oldest 41 = .ok (.iconst 1, 1) := by decide +kernel
theorem dX8_oldest_42 : decode cX8_oldest 42 = .ok (.if_icmp .eq 34, 3) := by decide +kernel
theorem dX8_oldest_45 : decode cX8_oldest 45 = .ok (.iload_n 3, 1) := by decide +kernel
theorem dX8_oldest_46 : decode cX8_oldest 46 = .ok (.ifCond .lt 27, 3) := by decide +kernel
theorem dX8_oldest_49 : decode cX8_oldest 49 = .ok (.aload_n 0, 1) := by decide +kernel
theorem dX8_oldest_50 : decode cX8_oldest 50 = .ok (.getfield 11, 3) := by decide +kernel
theorem dX8_oldest_53 : decode cX8_oldest 53 = .ok (.sipush 2800, 3) := by decide +kernel
theorem dX8_oldest_56 : decode cX8_oldest 56 = .ok (.iload 4, 2) := by decide +kernel
theorem dX8_oldest_58 : decode cX8_oldest 58 = .ok (.iadd, 1) := by decide +kernel
theorem dX8_oldest_59 : decode cX8_oldest 59 = .ok (.iaload, 1) := by decide +kernel
theorem dX8_oldest_60 : decode cX8_oldest 60 = .ok (.aload_n 0, 1) := by decide +kernel
theorem dX8_oldest_61 : decode cX8_oldest 61 = .ok (.getfield 11, 3) := by decide +kernel
theorem dX8_oldest_64 : decode cX8_oldest 64 = .ok (.sipush 2800, 3) := by decide +kernel
theorem dX8_oldest_67 : decode cX8_oldest 67 = .ok (.iload_n 3, 1) := by decide +kernel
theorem dX8_oldest_68 : decode cX8_oldest 68 = .ok (.iadd, 1) := by decide +kernel
theorem dX8_oldest_69 : decode cX8_oldest 69 = .ok (.iaload, 1) := by decide +kernel
theorem dX8_oldest_70 : decode cX8_oldest 70 = .ok (.if_icmp .ge 6, 3) := by decide +kernel
theorem dX8_oldest_73 : decode cX8_oldest 73 = .ok (.iload 4, 2) := by decide +kernel
theorem dX8_oldest_75 : decode cX8_oldest 75 = .ok (.istore_n 3, 1) := by decide +kernel
theorem dX8_oldest_76 : decode cX8_oldest 76 = .ok (.iinc 4 1, 3) := by decide +kernel
theorem dX8_oldest_79 : decode cX8_oldest 79 = .ok (.goto (-74), 3) := by decide +kernel
theorem dX8_oldest_82 : decode cX8_oldest 82 = .ok (.iload_n 3, 1) := by decide +kernel
theorem dX8_oldest_83 : decode cX8_oldest 83 = .ok (.ireturn, 1) := by decide +kernel
set_option maxRecDepth 20000 in
theorem ggX8_went_X8_goes : GoodIn wsX8_went wsX8_goes := goodIn_r _ [8, 1, 9, 10, 11, 12, 13, 14, 15, 16, 17, 18, 19, 20, 21, 22, 23, 24, 25, 26, 27] (by decide +kernel) (by decide +kernel)
set_option maxRecDepth 20000 in
theorem gX8_went_X8_goes : GoodIn wsX8_went (wsV RX8 58 RX8 yX8_goes wsX8_goes) := goodIn_app (goodIn_of _ (by decide +kernel)) ggX8_went_X8_goes
theorem dX8_went_0 : decode cX8_went 0 = .ok (.aload_n 0, 1) := by decide +kernel
theorem dX8_went_1 : decode cX8_went 1 = .ok (.iload_n 1, 1) := by decide +kernel
theorem dX8_went_2 : decode cX8_went 2 = .ok (.iload_n 2, 1) := by decide +kernel
theorem dX8_went_3 : decode cX8_went 3 = .ok (.invokevirtual 58, 3) := by decide +kernel
theorem dX8_went_6 : decode cX8_went 6 = .ok (.aload_n 0, 1) := by decide +kernel
theorem dX8_went_7 : decode cX8_went 7 = .ok (.getfield 11, 3) := by decide +kernel
theorem dX8_went_10 : decode cX8_went 10 = .ok (.sipush 2400, 3) := by decide +kernel
theorem dX8_went_13 : decode cX8_went 13 = .ok (.iload_n 1, 1) := by decide +kernel
theorem dX8_went_14 : decode cX8_went 14 = .ok (.iadd, 1) := by decide +kernel
theorem dX8_went_15 : decode cX8_went 15 = .ok (.iconst 0, 1) := by decide +kernel
theorem dX8_went_16 : decode cX8_went 16 = .ok (.iastore, 1) := by decide +kernel
theorem dX8_went_17 : decode cX8_went 17 = .ok (.bipush 19, 2) := by decide +kernel
theorem dX8_went_19 : decode cX8_went 19 = .ok (.istore_n 3, 1) := by decide +kernel
theorem dX8_went_20 : decode cX8_went 20 = .ok (.iload_n 3, 1) := by decide +kernel
theorem dX8_went_21 : decode cX8_went 21 = .ok (.ifCond .le 31, 3) := by decide +kernel
theorem dX8_went_24 : decode cX8_went 24 = .ok (.aload_n 0, 1) := by decide +kernel
theorem dX8_went_25 : decode cX8_went 25 = .ok (.getfield 11, 3) := by decide +kernel
theorem dX8_went_28 : decode cX8_went 28 = .ok (.sipush 3216, 3) := by decide +kernel
theorem dX8_went_31 : decode cX8_went 31 = .ok (.iload_n 3, 1) := by decide +kernel
theorem dX8_went_32 : decode cX8_went 32 = .ok (.iadd, 1) := by decide +kernel
theorem dX8_went_33 : decode cX8_went 33 = .ok (.aload_n 0, 1) := by decide +kernel
theorem dX8_went_34 : decode cX8_went 34 = .ok (.getfield 11, 3) := by decide +kernel
theorem dX8_went_37 : decode cX8_went 37 = .ok (.sipush 3216, 3) := by decide +kernel
theorem dX8_went_40 : decode cX8_went 40 = .ok (.iload_n 3, 1) := by decide +kernel
theorem dX8_went_41 : decode cX8_went 41 = .ok (.iadd, 1) := by decide +kernel
theorem dX8_went_42 : decode cX8_went 42 = .ok (.iconst 1, 1) := by decide +kernel
theorem dX8_went_43 : decode cX8_went 43 = .ok (.isub, 1) := by decide +kernel
theorem dX8_went_44 : decode cX8_went 44 = .ok (.iaload, 1) := by decide +kernel
theorem dX8_went_45 : decode cX8_went 45 = .ok (.iastore, 1) := by decide +kernel
theorem dX8_went_46 : decode cX8_went 46 = .ok (.iinc 3 (-1), 3) := by decide +kernel
theorem dX8_went_49 : decode cX8_went 49 = .ok (.goto (-29), 3) := by decide +kernel
theorem dX8_went_52 : decode cX8_went 52 = .ok (.aload_n 0, 1) := by decide +kernel
theorem dX8_went_53 : decode cX8_went 53 = .ok (.getfield 11, 3) := by decide +kernel
theorem dX8_went_56 : decode cX8_went 56 = .ok (.sipush 3216, 3) := by decide +kernel
theorem dX8_went_59 : decode cX8_went 59 = .ok (.iload_n 1, 1) := by decide +kernel
theorem dX8_went_60 : decode cX8_went 60 = .ok (.iastore, 1) := by decide +kernel
theorem dX8_went_61 : decode cX8_went 61 = .ok (.aload_n 0, 1) := by decide +kernel
theorem dX8_went_62 : decode cX8_went 62 = .ok (.getfield 11, 3) := by decide +kernel
theorem dX8_went_65 : decode cX8_went 65 = .ok (.sipush 3214, 3) := by decide +kernel
theorem dX8_went_68 : decode cX8_went 68 = .ok (.dup2, 1) := by decide +kernel
theorem dX8_went_69 : decode cX8_went 69 = .ok (.iaload, 1) := by decide +kernel
theorem dX8_went_70 : decode cX8_went 70 = .ok (.iconst 1, 1) := by decide +kernel
theorem dX8_went_71 : decode cX8_went 71 = .ok (.iadd, 1) := by decide +kernel
theorem dX8_went_72 : decode cX8_went 72 = .ok (.iastore, 1) := by decide +kernel
theorem dX8_went_73 : decode cX8_went 73 = .ok (.aload_n 0, 1) := by decide +kernel
theorem dX8_went_74 : decode cX8_went 74 = .ok (.getfield 62, 3) := by decide +kernel
theorem dX8_went_77 : decode cX8_went 77 = .ok (.sipush 400, 3) := by decide +kernel
theorem dX8_went_80 : decode cX8_went 80 = .ok (.if_icmp .ge 20, 3) := by decide +kernel
theorem dX8_went_83 : decode cX8_went 83 = .ok (.aload_n 0, 1) := by decide +kernel
theorem dX8_went_84 : decode cX8_went 84 = .ok (.getfield 21, 3) := by decide +kernel
theorem dX8_went_87 : decode cX8_went 87 = .ok (.aload_n 0, 1) := by decide +kernel
theorem dX8_went_88 : decode cX8_went 88 = .ok (.dup, 1) := by decide +kernel
theorem dX8_went_89 : decode cX8_went 89 = .ok (.getfield 62, 3) := by decide +kernel
theorem dX8_went_92 : decode cX8_went 92 = .ok (.dup_x1, 1) := by decide +kernel
theorem dX8_went_93 : decode cX8_went 93 = .ok (.iconst 1, 1) := by decide +kernel
theorem dX8_went_94 : decode cX8_went 94 = .ok (.iadd, 1) := by decide +kernel
theorem dX8_went_95 : decode cX8_went 95 = .ok (.putfield 62, 3) := by decide +kernel
theorem dX8_went_98 : decode cX8_went 98 = .ok (.iload_n 1, 1) := by decide +kernel
theorem dX8_went_99 : decode cX8_went 99 = .ok (.iastore, 1) := by decide +kernel
theorem dX8_went_100 : decode cX8_went 100 = .ok (.return_, 1) := by decide +kernel
set_option maxRecDepth 20000 in
theorem ggX8_sinks_X8_oldest : GoodIn wsX8_sinks wsX8_oldest := goodIn_r _ [6, 1, 11, 12, 13, 14, 15, 16, 17, 18, 19, 20, 21, 22, 23, 24, 25, 26, 27, 28, 29] (by decide +kernel) (by decide +kernel)
set_option maxRecDepth 20000 in
theorem gX8_sinks_X8_oldest : GoodIn wsX8_sinks (wsV RX8 66 RX8 yX8_oldest wsX8_oldest) := goodIn_app (goodIn_of _ (by decide +kernel)) ggX8_sinks_X8_oldest
set_option maxRecDepth 20000 in
theorem ggX8_sinks_X8_goes : GoodIn wsX8_sinks wsX8_goes := goodIn_r _ [10, 1, 11, 12, 13, 14, 15, 16, 17, 18, 19, 20, 21, 22, 23, 24, 25, 26, 27, 28, 29] (by decide +kernel) (by decide +kernel)
set_option maxRecDepth 20000 in
theorem gX8_sinks_X8_goes : GoodIn wsX8_sinks (wsV RX8 58 RX8 yX8_goes wsX8_goes) := goodIn_app (goodIn_of _ (by decide +kernel)) ggX8_sinks_X8_goes
theorem dX8_sinks_0 : decode cX8_sinks 0 = .ok (.aload_n 0, 1) := by decide +kernel
theorem dX8_sinks_1 : decode cX8_sinks 1 = .ok (.getfield 11, 3) := by decide +kernel
theorem dX8_sinks_4 : decode cX8_sinks 4 = .ok (.sipush 3206, 3) := by decide +kernel
theorem dX8_sinks_7 : decode cX8_sinks 7 = .ok (.iaload, 1) := by decide +kernel
theorem dX8_sinks_8 : decode cX8_sinks 8 = .ok (.aload_n 0, 1) := by decide +kernel
theorem dX8_sinks_9 : decode cX8_sinks 9 = .ok (.getfield 11, 3) := by decide +kernel
theorem dX8_sinks_12 : decode cX8_sinks 12 = .ok (.sipush 3201, 3) := by decide +kernel
theorem dX8_sinks_15 : decode cX8_sinks 15 = .ok (.iaload, 1) := by decide +kernel
theorem dX8_sinks_16 : decode cX8_sinks 16 = .ok (.if_icmp .le 35, 3) := by decide +kernel
theorem dX8_sinks_19 : decode cX8_sinks 19 = .ok (.aload_n 0, 1) := by decide +kernel
theorem dX8_sinks_20 : decode cX8_sinks 20 = .ok (.iconst 2, 1) := by decide +kernel
theorem dX8_sinks_21 : decode cX8_sinks 21 = .ok (.iconst 1, 1) := by decide +kernel
theorem dX8_sinks_22 : decode cX8_sinks 22 = .ok (.invokevirtual 66, 3) := by decide +kernel
theorem dX8_sinks_25 : decode cX8_sinks 25 = .ok (.istore_n 1, 1) := by decide +kernel
theorem dX8_sinks_26 : decode cX8_sinks 26 = .ok (.iload_n 1, 1) := by decide +kernel
theorem dX8_sinks_27 : decode cX8_sinks 27 = .ok (.ifCond .ge 4, 3) := by decide +kernel
theorem dX8_sinks_30 : decode cX8_sinks 30 = .ok (.return_, 1) := by decide +kernel
theorem dX8_sinks_31 : decode cX8_sinks 31 = .ok (.aload_n 0, 1) := by decide +kernel
theorem dX8_sinks_32 : decode cX8_sinks 32 = .ok (.getfield 11, 3) := by decide +kernel
theorem dX8_sinks_35 : decode cX8_sinks 35 = .ok (.sipush 1600, 3) := by decide +kernel
theorem dX8_sinks_38 : decode cX8_sinks 38 = .ok (.iload_n 1, 1) := by decide +kernel
theorem dX8_sinks_39 : decode cX8_sinks 39 = .ok (.iadd, 1) := by decide +kernel
theorem dX8_sinks_40 : decode cX8_sinks 40 = .ok (.iconst 0, 1) := by decide +kernel
theorem dX8_sinks_41 : decode cX8_sinks 41 = .ok (.iastore, 1) := by decide +kernel
theorem dX8_sinks_42 : decode cX8_sinks 42 = .ok (.aload_n 0, 1) := by decide +kernel
theorem dX8_sinks_43 : decode cX8_sinks 43 = .ok (.iload_n 1, 1) := by decide +kernel
theorem dX8_sinks_44 : decode cX8_sinks 44 = .ok (.iconst 1, 1) := by decide +kernel
theorem dX8_sinks_45 : decode cX8_sinks 45 = .ok (.invokevirtual 58, 3) := by decide +kernel
theorem dX8_sinks_48 : decode cX8_sinks 48 = .ok (.goto (-48), 3) := by decide +kernel
theorem dX8_sinks_51 : decode cX8_sinks 51 = .ok (.return_, 1) := by decide +kernel
set_option maxRecDepth 20000 in
theorem ggX8_lets_X8_oldest : GoodIn wsX8_lets wsX8_oldest := goodIn_r _ [6, 1, 17, 18, 19, 20, 21, 22, 23, 24, 25, 26, 27, 28, 29, 30, 31, 32, 33, 34, 35] (by decide +kernel) (by decide +kernel)
set_option maxRecDepth 20000 in
theorem gX8_lets_X8_oldest : GoodIn wsX8_lets (wsV RX8 66 RX8 yX8_oldest wsX8_oldest) := goodIn_app (goodIn_of _ (by decide +kernel)) ggX8_lets_X8_oldest
set_option maxRecDepth 20000 in
theorem ggX8_lets_X8_goes : GoodIn wsX8_lets wsX8_goes := goodIn_r _ [10, 1, 17, 18, 19, 20, 21, 22, 23, 24, 25, 26, 27, 28, 29, 30, 31, 32, 33, 34, 35] (by decide +kernel) (by decide +kernel)
set_option maxRecDepth 20000 in
theorem gX8_lets_X8_goes : GoodIn wsX8_lets (wsV RX8 58 RX8 yX8_goes wsX8_goes) := goodIn_app (goodIn_of _ (by decide +kernel)) ggX8_lets_X8_goes
set_option maxRecDepth 20000 in
theorem ggX8_lets_X8_went : GoodIn wsX8_lets wsX8_went := goodIn_r _ [14, 1, 15, 16, 7, 8, 9, 5, 10, 17, 18, 19, 20, 21, 22, 23, 24, 25, 26, 27, 28, 29, 30, 31, 32, 33, 34, 35] (by decide +kernel) (by decide +kernel)
set_option maxRecDepth 20000 in
theorem gX8_lets_X8_went : GoodIn wsX8_lets (wsV RX8 70 RX8 yX8_went wsX8_went) := goodIn_app (goodIn_of _ (by decide +kernel)) ggX8_lets_X8_went
theorem dX8_lets_0 : decode cX8_lets 0 = .ok (.aload_n 0, 1) := by decide +kernel
theorem dX8_lets_1 : decode cX8_lets 1 = .ok (.getfield 11, 3) := by decide +kernel
theorem dX8_lets_4 : decode cX8_lets 4 = .ok (.sipush 3205, 3) := by decide +kernel
theorem dX8_lets_7 : decode cX8_lets 7 = .ok (.iaload, 1) := by decide +kernel
theorem dX8_lets_8 : decode cX8_lets 8 = .ok (.aload_n 0, 1) := by decide +kernel
theorem dX8_lets_9 : decode cX8_lets 9 = .ok (.getfield 11, 3) := by decide +kernel
theorem dX8_lets_12 : decode cX8_lets 12 = .ok (.sipush 3206, 3) := by decide +kernel
theorem dX8_lets_15 : decode cX8_lets 15 = .ok (.iaload, 1) := by decide +kernel
theorem dX8_lets_16 : decode cX8_lets 16 = .ok (.iadd, 1) := by decide +kernel
theorem dX8_lets_17 : decode cX8_lets 17 = .ok (.aload_n 0, 1) := by decide +kernel
theorem dX8_lets_18 : decode cX8_lets 18 = .ok (.getfield 11, 3) := by decide +kernel
theorem dX8_lets_21 : decode cX8_lets 21 = .ok (.sipush 3200, 3) := by decide +kernel
theorem dX8_lets_24 : decode cX8_lets 24 = .ok (.iaload, 1) := by decide +kernel
theorem dX8_lets_25 : decode cX8_lets 25 = .ok (.if_icmp .le 87, 3) := by decide +kernel
theorem dX8_lets_28 : decode cX8_lets 28 = .ok (.aload_n 0, 1) := by decide +kernel
theorem dX8_lets_29 : decode cX8_lets 29 = .ok (.iconst 1, 1) := by decide +kernel
theorem dX8_lets_30 : decode cX8_lets 30 = .ok (.iconst 1, 1) := by decide +kernel
theorem dX8_lets_31 : decode cX8_lets 31 = .ok (.invokevirtual 66, 3) := by decide +kernel
theorem dX8_lets_34 : decode cX8_lets 34 = .ok (.istore_n 1, 1) := by decide +kernel
theorem dX8_lets_35 : decode cX8_lets 35 = .ok (.aload_n 0, 1) := by decide +kernel
theorem dX8_lets_36 : decode cX8_lets 36 = .ok (.iconst 2, 1) := by decide +kernel
theorem dX8_lets_37 : decode cX8_lets 37 = .ok (.iconst 1, 1) := by decide +kernel
theorem dX8_lets_38 : decode cX8_lets 38 = .ok (.invokevirtual 66, 3) := by decide +kernel
theorem dX8_lets_41 : decode cX8_lets 41 = .ok (.istore_n 2, 1) := by decide +kernel
theorem dX8_lets_42 : decode cX8_lets 42 = .ok (.iload_n 1, 1) := by decide +kernel
theorem dX8_lets_43 : decode cX8_lets 43 = .ok (.ifCond .lt 39, 3) := by decide +kernel
theorem dX8_lets_46 : decode cX8_lets 46 = .ok (.aload_n 0, 1) := by decide +kernel
theorem dX8_lets_47 : decode cX8_lets 47 = .ok (.getfield 11, 3) := by decide +kernel
theorem dX8_lets_50 : decode cX8_lets 50 = .ok (.sipush 2000, 3) := by decide +kernel
theorem dX8_lets_53 : decode cX8_lets 53 = .ok (.iload_n 1, 1) := by decide +kernel
theorem dX8_lets_54 : decode cX8_lets 54 = .ok (.iadd, 1) := by decide +kernel
theorem dX8_lets_55 : decode cX8_lets 55 = .ok (.iaload, 1) := by decide +kernel
theorem dX8_lets_56 : decode cX8_lets 56 = .ok (.ifCond .le 26, 3) := by decide +kernel
theorem dX8_lets_59 : decode cX8_lets 59 = .ok (.aload_n 0, 1) := by decide +kernel
theorem dX8_lets_60 : decode cX8_lets 60 = .ok (.getfield 11, 3) := by decide +kernel
theorem dX8_lets_63 : decode cX8_lets 63 = .ok (.sipush 2000, 3) := by decide +kernel
theorem dX8_lets_66 : decode cX8_lets 66 = .ok (.iload_n 1, 1) := by decide +kernel
theorem dX8_lets_67 : decode cX8_lets 67 = .ok (.iadd, 1) := by decide +kernel
theorem dX8_lets_68 : decode cX8_lets 68 = .ok (.dup2, 1) := by decide +kernel
theorem dX8_lets_69 : decode cX8_lets 69 = .ok (.iaload, 1) := by decide +kernel
theorem dX8_lets_70 : decode cX8_lets 70 = .ok (.iconst 1, 1) := by decide +kernel
theorem dX8_lets_71 : decode cX8_lets 71 = .ok (.isub, 1) := by decide +kernel
theorem dX8_lets_72 : decode cX8_lets 72 = .ok (.iastore, 1) := by decide +kernel
theorem dX8_lets_73 : decode cX8_lets 73 = .ok (.aload_n 0, 1) := by decide +kernel
theorem dX8_lets_74 : decode cX8_lets 74 = .ok (.iload_n 1, 1) := by decide +kernel
theorem dX8_lets_75 : decode cX8_lets 75 = .ok (.iconst 1, 1) := by decide +kernel
theorem dX8_lets_76 : decode cX8_lets 76 = .ok (.invokevirtual 58, 3) := by decide +kernel
theorem dX8_lets_79 : decode cX8_lets 79 = .ok (.goto 30, 3) := by decide +kernel
theorem dX8_lets_82 : decode cX8_lets 82 = .ok (.iload_n 1, 1) := by decide +kernel
theorem dX8_lets_83 : decode cX8_lets 83 = .ok (.ifCond .lt 12, 3) := by decide +kernel
theorem dX8_lets_86 : decode cX8_lets 86 = .ok (.aload_n 0, 1) := by decide +kernel
theorem dX8_lets_87 : decode cX8_lets 87 = .ok (.iload_n 1, 1) := by decide +kernel
theorem dX8_lets_88 : decode cX8_lets 88 = .ok (.iconst 3, 1) := by decide +kernel
theorem dX8_lets_89 : decode cX8_lets 89 = .ok (.invokevirtual 70, 3) := by decide +kernel
theorem dX8_lets_92 : decode cX8_lets 92 = .ok (.goto 17, 3) := by decide +kernel
theorem dX8_lets_95 : decode cX8_lets 95 = .ok (.iload_n 2, 1) := by decide +kernel
theorem dX8_lets_96 : decode cX8_lets 96 = .ok (.ifCond .lt 12, 3) := by decide +kernel
theorem dX8_lets_99 : decode cX8_lets 99 = .ok (.aload_n 0, 1) := by decide +kernel
theorem dX8_lets_100 : decode cX8_lets 100 = .ok (.iload_n 2, 1) := by decide +kernel
theorem dX8_lets_101 : decode cX8_lets 101 = .ok (.iconst 4, 1) := by decide +kernel
theorem dX8_lets_102 : decode cX8_lets 102 = .ok (.invokevirtual 70, 3) := by decide +kernel
theorem dX8_lets_105 : decode cX8_lets 105 = .ok (.goto 4, 3) := by decide +kernel
theorem dX8_lets_108 : decode cX8_lets 108 = .ok (.return_, 1) := by decide +kernel
theorem dX8_lets_109 : decode cX8_lets 109 = .ok (.goto (-109), 3) := by decide +kernel
theorem dX8_lets_112 : decode cX8_lets 112 = .ok (.return_, 1) := by decide +kernel
set_option maxRecDepth 20000 in
theorem ggX8_trim_X8_sinks : GoodIn wsX8_trim wsX8_sinks := goodIn_r _ [6, 1, 7, 8, 9, 5, 10, 11, 12, 13, 14, 25, 26, 27, 28, 29, 30, 31, 32, 33, 34, 35, 36, 37, 38, 39, 40, 41, 42, 43] (by decide +kernel) (by decide +kernel)
set_option maxRecDepth 20000 in
theorem gX8_trim_X8_sinks : GoodIn wsX8_trim (wsV RX8 73 RX8 yX8_sinks wsX8_sinks) := goodIn_app (goodIn_of _ (by decide +kernel)) ggX8_trim_X8_sinks
set_option maxRecDepth 20000 in
theorem ggX8_trim_X8_lets : GoodIn wsX8_trim wsX8_lets := goodIn_r _ [18, 1, 7, 8, 9, 5, 10, 11, 12, 13, 14, 19, 20, 21, 22, 23, 24, 25, 26, 27, 28, 29, 30, 31, 32, 33, 34, 35, 36, 37, 38, 39, 40, 41, 42, 43] (by decide +kernel) (by decide +kernel)
set_option maxRecDepth 20000 in
theorem gX8_trim_X8_lets : GoodIn wsX8_trim (wsV RX8 76 RX8 yX8_lets wsX8_lets) := goodIn_app (goodIn_of _ (by decide +kernel)) ggX8_trim_X8_lets
set_option maxRecDepth 20000 in
theorem ggX8_trim_X8_oldest : GoodIn wsX8_trim wsX8_oldest := goodIn_r _ [10, 1, 25, 26, 27, 28, 29, 30, 31, 32, 33, 34, 35, 36, 37, 38, 39, 40, 41, 42, 43] (by decide +kernel) (by decide +kernel)
set_option maxRecDepth 20000 in
theorem gX8_trim_X8_oldest : GoodIn wsX8_trim (wsV RX8 66 RX8 yX8_oldest wsX8_oldest) := goodIn_app (goodIn_of _ (by decide +kernel)) ggX8_trim_X8_oldest
set_option maxRecDepth 20000 in
theorem ggX8_trim_X8_goes : GoodIn wsX8_trim wsX8_goes := goodIn_r _ [14, 1, 25, 26, 27, 28, 29, 30, 31, 32, 33, 34, 35, 36, 37, 38, 39, 40, 41, 42, 43] (by decide +kernel) (by decide +kernel)
set_option maxRecDepth 20000 in
theorem gX8_trim_X8_goes : GoodIn wsX8_trim (wsV RX8 58 RX8 yX8_goes wsX8_goes) := goodIn_app (goodIn_of _ (by decide +kernel)) ggX8_trim_X8_goes
theorem dX8_trim_0 : decode cX8_trim 0 = .ok (.aload_n 0, 1) := by decide +kernel
theorem dX8_trim_1 : decode cX8_trim 1 = .ok (.invokevirtual 73, 3) := by decide +kernel
theorem dX8_trim_4 : decode cX8_trim 4 = .ok (.aload_n 0, 1) := by decide +kernel
theorem dX8_trim_5 : decode cX8_trim 5 = .ok (.invokevirtual 76, 3) := by decide +kernel
theorem dX8_trim_8 : decode cX8_trim 8 = .ok (.iconst 3, 1) := by decide +kernel
theorem dX8_trim_9 : decode cX8_trim 9 = .ok (.istore_n 1, 1) := by decide +kernel
theorem dX8_trim_10 : decode cX8_trim 10 = .ok (.iload_n 1, 1) := by decide +kernel
theorem dX8_trim_11 : decode cX8_trim 11 = .ok (.iconst 4, 1) := by decide +kernel
theorem dX8_trim_12 : decode cX8_trim 12 = .ok (.if_icmp .gt 44, 3) := by decide +kernel
theorem dX8_trim_15 : decode cX8_trim 15 = .ok (.aload_n 0, 1) := by decide +kernel
theorem dX8_trim_16 : decode cX8_trim 16 = .ok (.getfield 11, 3) := by decide +kernel
theorem dX8_trim_19 : decode cX8_trim 19 = .ok (.sipush 3204, 3) := by decide +kernel
theorem dX8_trim_22 : decode cX8_trim 22 = .ok (.iload_n 1, 1) := by decide +kernel
theorem dX8_trim_23 : decode cX8_trim 23 = .ok (.iadd, 1) := by decide +kernel
theorem dX8_trim_24 : decode cX8_trim 24 = .ok (.iaload, 1) := by decide +kernel
theorem dX8_trim_25 : decode cX8_trim 25 = .ok (.aload_n 0, 1) := by decide +kernel
theorem dX8_trim_26 : decode cX8_trim 26 = .ok (.getfield 11, 3) := by decide +kernel
theorem dX8_trim_29 : decode cX8_trim 29 = .ok (.sipush 3200, 3) := by decide +kernel
theorem dX8_trim_32 : decode cX8_trim 32 = .ok (.iaload, 1) := by decide +kernel
theorem dX8_trim_33 : decode cX8_trim 33 = .ok (.if_icmp .le 17, 3) := by decide +kernel
theorem dX8_trim_36 : decode cX8_trim 36 = .ok (.aload_n 0, 1) := by decide +kernel
theorem dX8_trim_37 : decode cX8_trim 37 = .ok (.aload_n 0, 1) := by decide +kernel
theorem dX8_trim_38 : decode cX8_trim 38 = .ok (.iload_n 1, 1) := by decide +kernel
theorem dX8_trim_39 : decode cX8_trim 39 = .ok (.iconst 0, 1) := by decide +kernel
theorem dX8_trim_40 : decode cX8_trim 40 = .ok (.invokevirtual 66, 3) := by decide +kernel
theorem dX8_trim_43 : decode cX8_trim 43 = .ok (.iconst 0, 1) := by decide +kernel
theorem dX8_trim_44 : decode cX8_trim 44 = .ok (.invokevirtual 58, 3) := by decide +kernel
theorem dX8_trim_47 : decode cX8_trim 47 = .ok (.goto (-32), 3) := by decide +kernel
theorem dX8_trim_50 : decode cX8_trim 50 = .ok (.iinc 1 1, 3) := by decide +kernel
theorem dX8_trim_53 : decode cX8_trim 53 = .ok (.goto (-43), 3) := by decide +kernel
theorem dX8_trim_56 : decode cX8_trim 56 = .ok (.return_, 1) := by decide +kernel
set_option maxRecDepth 20000 in
theorem ggX8_hit_X8_goes : GoodIn wsX8_hit wsX8_goes := goodIn_r _ [6, 1, 7, 8, 9, 10, 11, 12, 13, 14, 15, 16, 17, 18, 19, 20, 21, 22, 23, 24, 25] (by decide +kernel) (by decide +kernel)
set_option maxRecDepth 20000 in
theorem gX8_hit_X8_goes : GoodIn wsX8_hit (wsV RX8 58 RX8 yX8_goes wsX8_goes) := goodIn_app (goodIn_of _ (by decide +kernel)) ggX8_hit_X8_goes
theorem dX8_hit_0 : decode cX8_hit 0 = .ok (.aload_n 0, 1) := by decide +kernel
theorem dX8_hit_1 : decode cX8_hit 1 = .ok (.getfield 11, 3) := by decide +kernel
theorem dX8_hit_4 : decode cX8_hit 4 = .ok (.sipush 1600, 3) := by decide +kernel
theorem dX8_hit_7 : decode cX8_hit 7 = .ok (.iload_n 1, 1) := by decide +kernel
theorem dX8_hit_8 : decode cX8_hit 8 = .ok (.iadd, 1) := by decide +kernel
theorem dX8_hit_9 : decode cX8_hit 9 = .ok (.aload_n 0, 1) := by decide +kernel
theorem dX8_hit_10 : decode cX8_hit 10 = .ok (.getfield 11, 3) := by decide +kernel
theorem dX8_hit_13 : decode cX8_hit 13 = .ok (.sipush 1600, 3) := by decide +kernel
theorem dX8_hit_16 : decode cX8_hit 16 = .ok (.iload_n 1, 1) := by decide +kernel
theorem dX8_hit_17 : decode cX8_hit 17 = .ok (.iadd, 1) := by decide +kernel
theorem dX8_hit_18 : decode cX8_hit 18 = .ok (.iaload, 1) := by decide +kernel
theorem dX8_hit_19 : decode cX8_hit 19 = .ok (.bipush 99, 2) := by decide +kernel
theorem dX8_hit_21 : decode cX8_hit 21 = .ok (.if_icmp .ge 18, 3) := by decide +kernel
theorem dX8_hit_24 : decode cX8_hit 24 = .ok (.aload_n 0, 1) := by decide +kernel
theorem dX8_hit_25 : decode cX8_hit 25 = .ok (.getfield 11, 3) := by decide +kernel
theorem dX8_hit_28 : decode cX8_hit 28 = .ok (.sipush 1600, 3) := by decide +kernel
theorem dX8_hit_31 : decode cX8_hit 31 = .ok (.iload_n 1, 1) := by decide +kernel
theorem dX8_hit_32 : decode cX8_hit 32 = .ok (.iadd, 1) := by decide +kernel
theorem dX8_hit_33 : decode cX8_hit 33 = .ok (.iaload, 1) := by decide +kernel
theorem dX8_hit_34 : decode cX8_hit 34 = .ok (.iconst 1, 1) := by decide +kernel
theorem dX8_hit_35 : decode cX8_hit 35 = .ok (.iadd, 1) := by decide +kernel
theorem dX8_hit_36 : decode cX8_hit 36 = .ok (.goto 5, 3) := by decide +kernel
theorem dX8_hit_39 : decode cX8_hit 39 = .ok (.bipush 99, 2) := by decide +kernel
theorem dX8_hit_41 : decode cX8_hit 41 = .ok (.iastore, 1) := by decide +kernel
theorem dX8_hit_42 : decode cX8_hit 42 = .ok (.aload_n 0, 1) := by decide +kernel
theorem dX8_hit_43 : decode cX8_hit 43 = .ok (.iload_n 1, 1) := by decide +kernel
theorem dX8_hit_44 : decode cX8_hit 44 = .ok (.aload_n 0, 1) := by decide +kernel
theorem dX8_hit_45 : decode cX8_hit 45 = .ok (.getfield 11, 3) := by decide +kernel
theorem dX8_hit_48 : decode cX8_hit 48 = .ok (.iconst 0, 1) := by decide +kernel
theorem dX8_hit_49 : decode cX8_hit 49 = .ok (.iload_n 1, 1) := by decide +kernel
theorem dX8_hit_50 : decode cX8_hit 50 = .ok (.iadd, 1) := by decide +kernel
theorem dX8_hit_51 : decode cX8_hit 51 = .ok (.iaload, 1) := by decide +kernel
theorem dX8_hit_52 : decode cX8_hit 52 = .ok (.iconst 1, 1) := by decide +kernel
theorem dX8_hit_53 : decode cX8_hit 53 = .ok (.if_icmp .ne 28, 3) := by decide +kernel
theorem dX8_hit_56 : decode cX8_hit 56 = .ok (.aload_n 0, 1) := by decide +kernel
theorem dX8_hit_57 : decode cX8_hit 57 = .ok (.getfield 11, 3) := by decide +kernel
theorem dX8_hit_60 : decode cX8_hit 60 = .ok (.sipush 1600, 3) := by decide +kernel
theorem dX8_hit_63 : decode cX8_hit 63 = .ok (.iload_n 1, 1) := by decide +kernel
theorem dX8_hit_64 : decode cX8_hit 64 = .ok (.iadd, 1) := by decide +kernel
theorem dX8_hit_65 : decode cX8_hit 65 = .ok (.iaload, 1) := by decide +kernel
theorem dX8_hit_66 : decode cX8_hit 66 = .ok (.aload_n 0, 1) := by decide +kernel
theorem dX8_hit_67 : decode cX8_hit 67 = .ok (.getfield 11, 3) := by decide +kernel
theorem dX8_hit_70 : decode cX8_hit 70 = .ok (.sipush 3202, 3) := by decide +kernel
theorem dX8_hit_73 : decode cX8_hit 73 = .ok (.iaload, 1) := by decide +kernel
theorem dX8_hit_74 : decode cX8_hit 74 = .ok (.if_icmp .lt 7, 3) := by decide +kernel
theorem dX8_hit_77 : decode cX8_hit 77 = .ok (.iconst 2, 1) := by decide +kernel
theorem dX8_hit_78 : decode cX8_hit 78 = .ok (.goto 11, 3) := by decide +kernel
theorem dX8_hit_81 : decode cX8_hit 81 = .ok (.aload_n 0, 1) := by decide +kernel
theorem dX8_hit_82 : decode cX8_hit 82 = .ok (.getfield 11, 3) := by decide +kernel
theorem dX8_hit_85 : decode cX8_hit 85 = .ok (.iconst 0, 1) := by decide +kernel
theorem dX8_hit_86 : decode cX8_hit 86 = .ok (.iload_n 1, 1) := by decide +kernel
theorem dX8_hit_87 : decode cX8_hit 87 = .ok (.iadd, 1) := by decide +kernel
theorem dX8_hit_88 : decode cX8_hit 88 = .ok (.iaload, 1) := by decide +kernel
theorem dX8_hit_89 : decode cX8_hit 89 = .ok (.invokevirtual 58, 3) := by decide +kernel
theorem dX8_hit_92 : decode cX8_hit 92 = .ok (.return_, 1) := by decide +kernel
set_option maxRecDepth 20000 in
theorem ggX8_putIn_X8_weighs : GoodIn wsX8_putIn wsX8_weighs := goodIn_r _ [6, 1, 37, 38, 39, 40, 41, 42, 43, 44, 45, 46, 47, 48, 49, 50, 51, 52, 53, 54, 55] (by decide +kernel) (by decide +kernel)
set_option maxRecDepth 20000 in
theorem gX8_putIn_X8_weighs : GoodIn wsX8_putIn (wsV RX8 79 RX8 yX8_weighs wsX8_weighs) := goodIn_app (goodIn_of _ (by decide +kernel)) ggX8_putIn_X8_weighs
set_option maxRecDepth 20000 in
theorem ggX8_putIn_X8_hit : GoodIn wsX8_putIn wsX8_hit := goodIn_r _ [10, 1, 11, 12, 13, 5, 14, 37, 38, 39, 40, 41, 42, 43, 44, 45, 46, 47, 48, 49, 50, 51, 52, 53, 54, 55] (by decide +kernel) (by decide +kernel)
set_option maxRecDepth 20000 in
theorem gX8_putIn_X8_hit : GoodIn wsX8_putIn (wsV RX8 82 RX8 yX8_hit wsX8_hit) := goodIn_app (goodIn_of _ (by decide +kernel)) ggX8_putIn_X8_hit
set_option maxRecDepth 20000 in
theorem ggX8_putIn_X8_trim : GoodIn wsX8_putIn wsX8_trim := goodIn_r _ [18, 1, 19, 20, 21, 5, 22, 23, 24, 25, 26, 11, 12, 13, 14, 27, 28, 29, 30, 31, 32, 33, 34, 35, 36, 37, 38, 39, 40, 41, 42, 43, 44, 45, 46, 47, 48, 49, 50, 51, 52, 53, 54, 55] (by decide +kernel) (by decide +kernel)
set_option maxRecDepth 20000 in
theorem gX8_putIn_X8_trim : GoodIn wsX8_putIn (wsV RX8 86 RX8 yX8_trim wsX8_trim) := goodIn_app (goodIn_of _ (by decide +kernel)) ggX8_putIn_X8_trim
set_option maxRecDepth 20000 in
theorem ggX8_putIn_X8_goes : GoodIn wsX8_putIn wsX8_goes := goodIn_r _ [14, 1, 37, 38, 39, 40, 41, 42, 43, 44, 45, 46, 47, 48, 49, 50, 51, 52, 53, 54, 55] (by decide +kernel) (by decide +kernel)
set_option maxRecDepth 20000 in
theorem gX8_putIn_X8_goes : GoodIn wsX8_putIn (wsV RX8 58 RX8 yX8_goes wsX8_goes) := goodIn_app (goodIn_of _ (by decide +kernel)) ggX8_putIn_X8_goes
theorem dX8_putIn_0 : decode cX8_putIn 0 = .ok (.aload_n 0, 1) := by decide +kernel
theorem dX8_putIn_1 : decode cX8_putIn 1 = .ok (.getfield 11, 3) := by decide +kernel
theorem dX8_putIn_4 : decode cX8_putIn 4 = .ok (.iconst 0, 1) := by decide +kernel
theorem dX8_putIn_5 : decode cX8_putIn 5 = .ok (.iload_n 1, 1) := by decide +kernel
theorem dX8_putIn_6 : decode cX8_putIn 6 = .ok (.iadd, 1) := by decide +kernel
theorem dX8_putIn_7 : decode cX8_putIn 7 = .ok (.iaload, 1) := by decide +kernel
theorem dX8_putIn_8 : decode cX8_putIn 8 = .ok (.istore 5, 2) := by decide +kernel
theorem dX8_putIn_10 : decode cX8_putIn 10 = .ok (.aload_n 0, 1) := by decide +kernel
theorem dX8_putIn_11 : decode cX8_putIn 11 = .ok (.iload_n 1, 1) := by decide +kernel
theorem dX8_putIn_12 : decode cX8_putIn 12 = .ok (.iload_n 3, 1) := by decide +kernel
theorem dX8_putIn_13 : decode cX8_putIn 13 = .ok (.invokevirtual 79, 3) := by decide +kernel
theorem dX8_putIn_16 : decode cX8_putIn 16 = .ok (.aload_n 0, 1) := by decide +kernel
theorem dX8_putIn_17 : decode cX8_putIn 17 = .ok (.getfield 11, 3) := by decide +kernel
theorem dX8_putIn_20 : decode cX8_putIn 20 = .ok (.sipush 400, 3) := by decide +kernel
theorem dX8_putIn_23 : decode cX8_putIn 23 = .ok (.iload_n 1, 1) := by decide +kernel
theorem dX8_putIn_24 : decode cX8_putIn 24 = .ok (.iadd, 1) := by decide +kernel
theorem dX8_putIn_25 : decode cX8_putIn 25 = .ok (.iload_n 2, 1) := by decide +kernel
theorem dX8_putIn_26 : decode cX8_putIn 26 = .ok (.iastore, 1) := by decide +kernel
theorem dX8_putIn_27 : decode cX8_putIn 27 = .ok (.aload_n 0, 1) := by decide +kernel
theorem dX8_putIn_28 : decode cX8_putIn 28 = .ok (.getfield 11, 3) := by decide +kernel
theorem dX8_putIn_31 : decode cX8_putIn 31 = .ok (.sipush 1200, 3) := by decide +kernel
theorem dX8_putIn_34 : decode cX8_putIn 34 = .ok (.iload_n 1, 1) := by decide +kernel
theorem dX8_putIn_35 : decode cX8_putIn 35 = .ok (.iadd, 1) := by decide +kernel
theorem dX8_putIn_36 : decode cX8_putIn 36 = .ok (.iload 4, 2) := by decide +kernel
theorem dX8_putIn_38 : decode cX8_putIn 38 = .ok (.iastore, 1) := by decide +kernel
theorem dX8_putIn_39 : decode cX8_putIn 39 = .ok (.iload 5, 2) := by decide +kernel
theorem dX8_putIn_41 : decode cX8_putIn 41 = .ok (.iconst 1, 1) := by decide +kernel
theorem dX8_putIn_42 : decode cX8_putIn 42 = .ok (.if_icmp .eq 9, 3) := by decide +kernel
theorem dX8_putIn_45 : decode cX8_putIn 45 = .ok (.iload 5, 2) := by decide +kernel
theorem dX8_putIn_47 : decode cX8_putIn 47 = .ok (.iconst 2, 1) := by decide +kernel
theorem dX8_putIn_48 : decode cX8_putIn 48 = .ok (.if_icmp .ne 14, 3) := by decide +kernel
theorem dX8_putIn_51 : decode cX8_putIn 51 = .ok (.aload_n 0, 1) := by decide +kernel
theorem dX8_putIn_52 : decode cX8_putIn 52 = .ok (.iload_n 1, 1) := by decide +kernel
theorem dX8_putIn_53 : decode cX8_putIn 53 = .ok (.invokevirtual 82, 3) := by decide +kernel
theorem dX8_putIn_56 : decode cX8_putIn 56 = .ok (.aload_n 0, 1) := by decide +kernel
theorem dX8_putIn_57 : decode cX8_putIn 57 = .ok (.invokevirtual 86, 3) := by decide +kernel
theorem dX8_putIn_60 : decode cX8_putIn 60 = .ok (.iconst 2, 1) := by decide +kernel
theorem dX8_putIn_61 : decode cX8_putIn 61 = .ok (.ireturn, 1) := by decide +kernel
theorem dX8_putIn_62 : decode cX8_putIn 62 = .ok (.aload_n 0, 1) := by decide +kernel
theorem dX8_putIn_63 : decode cX8_putIn 63 = .ok (.getfield 11, 3) := by decide +kernel
theorem dX8_putIn_66 : decode cX8_putIn 66 = .ok (.sipush 3213, 3) := by decide +kernel
theorem dX8_putIn_69 : decode cX8_putIn 69 = .ok (.dup2, 1) := by decide +kernel
theorem dX8_putIn_70 : decode cX8_putIn 70 = .ok (.iaload, 1) := by decide +kernel
theorem dX8_putIn_71 : decode cX8_putIn 71 = .ok (.iload 4, 2) := by decide +kernel
theorem dX8_putIn_73 : decode cX8_putIn 73 = .ok (.iadd, 1) := by decide +kernel
theorem dX8_putIn_74 : decode cX8_putIn 74 = .ok (.iastore, 1) := by decide +kernel
theorem dX8_putIn_75 : decode cX8_putIn 75 = .ok (.aload_n 0, 1) := by decide +kernel
theorem dX8_putIn_76 : decode cX8_putIn 76 = .ok (.getfield 11, 3) := by decide +kernel
theorem dX8_putIn_79 : decode cX8_putIn 79 = .ok (.sipush 1600, 3) := by decide +kernel
theorem dX8_putIn_82 : decode cX8_putIn 82 = .ok (.iload_n 1, 1) := by decide +kernel
theorem dX8_putIn_83 : decode cX8_putIn 83 = .ok (.iadd, 1) := by decide +kernel
theorem dX8_putIn_84 : decode cX8_putIn 84 = .ok (.iconst 0, 1) := by decide +kernel
theorem dX8_putIn_85 : decode cX8_putIn 85 = .ok (.iastore, 1) := by decide +kernel
theorem dX8_putIn_86 : decode cX8_putIn 86 = .ok (.aload_n 0, 1) := by decide +kernel
theorem dX8_putIn_87 : decode cX8_putIn 87 = .ok (.getfield 11, 3) := by decide +kernel
theorem dX8_putIn_90 : decode cX8_putIn 90 = .ok (.sipush 2400, 3) := by decide +kernel
theorem dX8_putIn_93 : decode cX8_putIn 93 = .ok (.iload_n 1, 1) := by decide +kernel
theorem dX8_putIn_94 : decode cX8_putIn 94 = .ok (.iadd, 1) := by decide +kernel
theorem dX8_putIn_95 : decode cX8_putIn 95 = .ok (.iconst 0, 1) := by decide +kernel
theorem dX8_putIn_96 : decode cX8_putIn 96 = .ok (.iastore, 1) := by decide +kernel
theorem dX8_putIn_97 : decode cX8_putIn 97 = .ok (.aload_n 0, 1) := by decide +kernel
theorem dX8_putIn_98 : decode cX8_putIn 98 = .ok (.getfield 11, 3) := by decide +kernel
theorem dX8_putIn_101 : decode cX8_putIn 101 = .ok (.sipush 2000, 3) := by decide +kernel
theorem dX8_putIn_104 : decode cX8_putIn 104 = .ok (.iload_n 1, 1) := by decide +kernel
theorem dX8_putIn_105 : decode cX8_putIn 105 = .ok (.iadd, 1) := by decide +kernel
theorem dX8_putIn_106 : decode cX8_putIn 106 = .ok (.iload 5, 2) := by decide +kernel
theorem dX8_putIn_108 : decode cX8_putIn 108 = .ok (.ifCond .ne 14, 3) := by decide +kernel
theorem dX8_putIn_111 : decode cX8_putIn 111 = .ok (.aload_n 0, 1) := by decide +kernel
theorem dX8_putIn_112 : decode cX8_putIn 112 = .ok (.getfield 11, 3) := by decide +kernel
theorem dX8_putIn_115 : decode cX8_putIn 115 = .ok (.sipush 3203, 3) := by decide +kernel
theorem dX8_putIn_118 : decode cX8_putIn 118 = .ok (.iaload, 1) := by decide +kernel
theorem dX8_putIn_119 : decode cX8_putIn 119 = .ok (.goto 4, 3) := by decide +kernel
theorem dX8_putIn_122 : decode cX8_putIn 122 = .ok (.iconst 0, 1) := by decide +kernel
theorem dX8_putIn_123 : decode cX8_putIn 123 = .ok (.iastore, 1) := by decide +kernel
theorem dX8_putIn_124 : decode cX8_putIn 124 = .ok (.iload 5, 2) := by decide +kernel
theorem dX8_putIn_126 : decode cX8_putIn 126 = .ok (.iconst 3, 1) := by decide +kernel
theorem dX8_putIn_127 : decode cX8_putIn 127 = .ok (.if_icmp .ne 40, 3) := by decide +kernel
theorem dX8_putIn_130 : decode cX8_putIn 130 = .ok (.aload_n 0, 1) := by decide +kernel
theorem dX8_putIn_131 : decode cX8_putIn 131 = .ok (.getfield 11, 3) := by decide +kernel
theorem dX8_putIn_134 : decode cX8_putIn 134 = .ok (.sipush 3201, 3) := by decide +kernel
theorem dX8_putIn_137 : decode cX8_putIn 137 = .ok (.aload_n 0, 1) := by decide +kernel
theorem dX8_putIn_138 : decode cX8_putIn 138 = .ok (.getfield 11, 3) := by decide +kernel
theorem dX8_putIn_141 : decode cX8_putIn 141 = .ok (.sipush 3201, 3) := by decide +kernel
theorem dX8_putIn_144 : decode cX8_putIn 144 = .ok (.iaload, 1) := by decide +kernel
theorem dX8_putIn_145 : decode cX8_putIn 145 = .ok (.iload_n 3, 1) := by decide +kernel
theorem dX8_putIn_146 : decode cX8_putIn 146 = .ok (.if_icmp .le 16, 3) := by decide +kernel
theorem dX8_putIn_149 : decode cX8_putIn 149 = .ok (.aload_n 0, 1) := by decide +kernel
theorem dX8_putIn_150 : decode cX8_putIn 150 = .ok (.getfield 11, 3) := by decide +kernel
theorem dX8_putIn_153 : decode cX8_putIn 153 = .ok (.sipush 3201, 3) := by decide +kernel
theorem dX8_putIn_156 : decode cX8_putIn 156 = .ok (.iaload, 1) := by decide +kernel
theorem dX8_putIn_157 : decode cX8_putIn 157 = .ok (.iload_n 3, 1) := by decide +kernel
theorem dX8_putIn_158 : decode cX8_putIn 158 = .ok (.isub, 1) := by decide +kernel
theorem dX8_putIn_159 : decode cX8_putIn 159 = .ok (.goto 4, 3) := by decide +kernel
theorem dX8_putIn_162 : decode cX8_putIn 162 = .ok (.iconst 0, 1) := by decide +kernel
theorem dX8_putIn_163 : decode cX8_putIn 163 = .ok (.iastore, 1) := by decide +kernel
theorem dX8_putIn_164 : decode cX8_putIn 164 = .ok (.goto 59, 3) := by decide +kernel
theorem dX8_putIn_167 : decode cX8_putIn 167 = .ok (.iload 5, 2) := by decide +kernel
theorem dX8_putIn_169 : decode cX8_putIn 169 = .ok (.iconst 4, 1) := by decide +kernel
theorem dX8_putIn_170 : decode cX8_putIn 170 = .ok (.if_icmp .ne 53, 3) := by decide +kernel
theorem dX8_putIn_173 : decode cX8_putIn 173 = .ok (.aload_n 0, 1) := by decide +kernel
theorem dX8_putIn_174 : decode cX8_putIn 174 = .ok (.getfield 11, 3) := by decide +kernel
theorem dX8_putIn_177 : decode cX8_putIn 177 = .ok (.sipush 3201, 3) := by decide +kernel
theorem dX8_putIn_180 : decode cX8_putIn 180 = .ok (.aload_n 0, 1) := by decide +kernel
theorem dX8_putIn_181 : decode cX8_putIn 181 = .ok (.getfield 11, 3) := by decide +kernel
theorem dX8_putIn_184 : decode cX8_putIn 184 = .ok (.sipush 3201, 3) := by decide +kernel
theorem dX8_putIn_187 : decode cX8_putIn 187 = .ok (.iaload, 1) := by decide +kernel
theorem dX8_putIn_188 : decode cX8_putIn 188 = .ok (.iload_n 3, 1) := by decide +kernel
theorem dX8_putIn_189 : decode cX8_putIn 189 = .ok (.iadd, 1) := by decide +kernel
theorem dX8_putIn_190 : decode cX8_putIn 190 = .ok (.aload_n 0, 1) := by decide +kernel
theorem dX8_putIn_191 : decode cX8_putIn 191 = .ok (.getfield 11, 3) := by decide +kernel
theorem dX8_putIn_194 : decode cX8_putIn 194 = .ok (.sipush 3200, 3) := by decide +kernel
theorem dX8_putIn_197 : decode cX8_putIn 197 = .ok (.iaload, 1) := by decide +kernel
theorem dX8_putIn_198 : decode cX8_putIn 198 = .ok (.if_icmp .ge 16, 3) := by decide +kernel
theorem dX8_putIn_201 : decode cX8_putIn 201 = .ok (.aload_n 0, 1) := by decide +kernel
theorem dX8_putIn_202 : decode cX8_putIn 202 = .ok (.getfield 11, 3) := by decide +kernel
theorem dX8_putIn_205 : decode cX8_putIn 205 = .ok (.sipush 3201, 3) := by decide +kernel
theorem dX8_putIn_208 : decode cX8_putIn 208 = .ok (.iaload, 1) := by decide +kernel
theorem dX8_putIn_209 : decode cX8_putIn 209 = .ok (.iload_n 3, 1) := by decide +kernel
theorem dX8_putIn_210 : decode cX8_putIn 210 = .ok (.iadd, 1) := by decide +kernel
theorem dX8_putIn_211 : decode cX8_putIn 211 = .ok (.goto 11, 3) := by decide +kernel
theorem dX8_putIn_214 : decode cX8_putIn 214 = .ok (.aload_n 0, 1) := by decide +kernel
theorem dX8_putIn_215 : decode cX8_putIn 215 = .ok (.getfield 11, 3) := by decide +kernel
theorem dX8_putIn_218 : decode cX8_putIn 218 = .ok (.sipush 3200, 3) := by decide +kernel
theorem dX8_putIn_221 : decode cX8_putIn 221 = .ok (.iaload, 1) := by decide +kernel
theorem dX8_putIn_222 : decode cX8_putIn 222 = .ok (.iastore, 1) := by decide +kernel
theorem dX8_putIn_223 : decode cX8_putIn 223 = .ok (.aload_n 0, 1) := by decide +kernel
theorem dX8_putIn_224 : decode cX8_putIn 224 = .ok (.iload_n 1, 1) := by decide +kernel
theorem dX8_putIn_225 : decode cX8_putIn 225 = .ok (.iload 5, 2) := by decide +kernel
theorem dX8_putIn_227 : decode cX8_putIn 227 = .ok (.ifCond .ne 7, 3) := by decide +kernel
theorem dX8_putIn_230 : decode cX8_putIn 230 = .ok (.iconst 1, 1) := by decide +kernel
theorem dX8_putIn_231 : decode cX8_putIn 231 = .ok (.goto 4, 3) := by decide +kernel
theorem dX8_putIn_234 : decode cX8_putIn 234 = .ok (.iconst 2, 1) := by decide +kernel
theorem dX8_putIn_235 : decode cX8_putIn 235 = .ok (.invokevirtual 58, 3) := by decide +kernel
theorem dX8_putIn_238 : decode cX8_putIn 238 = .ok (.aload_n 0, 1) := by decide +kernel
theorem dX8_putIn_239 : decode cX8_putIn 239 = .ok (.invokevirtual 86, 3) := by decide +kernel
theorem dX8_putIn_242 : decode cX8_putIn 242 = .ok (.iload 5, 2) := by decide +kernel
theorem dX8_putIn_244 : decode cX8_putIn 244 = .ok (.ifCond .ne 7, 3) := by decide +kernel
theorem dX8_putIn_247 : decode cX8_putIn 247 = .ok (.iconst 0, 1) := by decide +kernel
theorem dX8_putIn_248 : decode cX8_putIn 248 = .ok (.goto 4, 3) := by decide +kernel
theorem dX8_putIn_251 : decode cX8_putIn 251 = .ok (.iconst 1, 1) := by decide +kernel
theorem dX8_putIn_252 : decode cX8_putIn 252 = .ok (.ireturn, 1) := by decide +kernel
set_option maxRecDepth 20000 in
theorem ggX8_gets_X8_isThing : GoodIn wsX8_gets wsX8_isThing := goodIn_r _ [6, 1, 37, 38, 39, 40, 41, 42, 43, 44, 45, 46, 47, 48, 49, 50, 51, 52, 53, 54, 55] (by decide +kernel) (by decide +kernel)
set_option maxRecDepth 20000 in
theorem gX8_gets_X8_isThing : GoodIn wsX8_gets (wsV RX8 89 RX8 yX8_isThing wsX8_isThing) := goodIn_app (goodIn_of _ (by decide +kernel)) ggX8_gets_X8_isThing
set_option maxRecDepth 20000 in
theorem ggX8_gets_X8_hit : GoodIn wsX8_gets wsX8_hit := goodIn_r _ [10, 1, 11, 12, 13, 5, 14, 37, 38, 39, 40, 41, 42, 43, 44, 45, 46, 47, 48, 49, 50, 51, 52, 53, 54, 55] (by decide +kernel) (by decide +kernel)
set_option maxRecDepth 20000 in
theorem gX8_gets_X8_hit : GoodIn wsX8_gets (wsV RX8 82 RX8 yX8_hit wsX8_hit) := goodIn_app (goodIn_of _ (by decide +kernel)) ggX8_gets_X8_hit
set_option maxRecDepth 20000 in
theorem ggX8_gets_X8_trim : GoodIn wsX8_gets wsX8_trim := goodIn_r _ [18, 1, 19, 20, 21, 5, 22, 23, 24, 25, 26, 11, 12, 13, 14, 27, 28, 29, 30, 31, 32, 33, 34, 35, 36, 37, 38, 39, 40, 41, 42, 43, 44, 45, 46, 47, 48, 49, 50, 51, 52, 53, 54, 55] (by decide +kernel) (by decide +kernel)
set_option maxRecDepth 20000 in
theorem gX8_gets_X8_trim : GoodIn wsX8_gets (wsV RX8 86 RX8 yX8_trim wsX8_trim) := goodIn_app (goodIn_of _ (by decide +kernel)) ggX8_gets_X8_trim
theorem dX8_gets_0 : decode cX8_gets 0 = .ok (.aload_n 0, 1) := by decide +kernel
theorem dX8_gets_1 : decode cX8_gets 1 = .ok (.iload_n 1, 1) := by decide +kernel
theorem dX8_gets_2 : decode cX8_gets 2 = .ok (.invokevirtual 89, 3) := by decide +kernel
theorem dX8_gets_5 : decode cX8_gets 5 = .ok (.ifCond .ne 44, 3) := by decide +kernel
theorem dX8_gets_8 : decode cX8_gets 8 = .ok (.aload_n 0, 1) := by decide +kernel
theorem dX8_gets_9 : decode cX8_gets 9 = .ok (.getfield 11, 3) := by decide +kernel
theorem dX8_gets_12 : decode cX8_gets 12 = .ok (.sipush 3210, 3) := by decide +kernel
theorem dX8_gets_15 : decode cX8_gets 15 = .ok (.dup2, 1) := by decide +kernel
theorem dX8_gets_16 : decode cX8_gets 16 = .ok (.iaload, 1) := by decide +kernel
theorem dX8_gets_17 : decode cX8_gets 17 = .ok (.iconst 1, 1) := by decide +kernel
theorem dX8_gets_18 : decode cX8_gets 18 = .ok (.iadd, 1) := by decide +kernel
theorem dX8_gets_19 : decode cX8_gets 19 = .ok (.iastore, 1) := by decide +kernel
theorem dX8_gets_20 : decode cX8_gets 20 = .ok (.aload_n 0, 1) := by decide +kernel
theorem dX8_gets_21 : decode cX8_gets 21 = .ok (.getfield 11, 3) := by decide +kernel
theorem dX8_gets_24 : decode cX8_gets 24 = .ok (.sipush 3211, 3) := by decide +kernel
theorem dX8_gets_27 : decode cX8_gets 27 = .ok (.dup2, 1) := by decide +kernel
theorem dX8_gets_28 : decode cX8_gets 28 = .ok (.iaload, 1) := by decide +kernel
theorem dX8_gets_29 : decode cX8_gets 29 = .ok (.aload_n 0, 1) := by decide +kernel
theorem dX8_gets_30 : decode cX8_gets 30 = .ok (.getfield 11, 3) := by decide +kernel
theorem dX8_gets_33 : decode cX8_gets 33 = .ok (.iconst 0, 1) := by decide +kernel
theorem dX8_gets_34 : decode cX8_gets 34 = .ok (.iload_n 1, 1) := by decide +kernel
theorem dX8_gets_35 : decode cX8_gets 35 = .ok (.iadd, 1) := by decide +kernel
theorem dX8_gets_36 : decode cX8_gets 36 = .ok (.iaload, 1) := by decide +kernel
theorem dX8_gets_37 : decode cX8_gets 37 = .ok (.ifCond .eq 7, 3) := by decide +kernel
theorem dX8_gets_40 : decode cX8_gets 40 = .ok (.iconst 1, 1) := by decide +kernel
theorem dX8_gets_41 : decode cX8_gets 41 = .ok (.goto 4, 3) := by decide +kernel
theorem dX8_gets_44 : decode cX8_gets 44 = .ok (.iconst 0, 1) := by decide +kernel
theorem dX8_gets_45 : decode cX8_gets 45 = .ok (.iadd, 1) := by decide +kernel
theorem dX8_gets_46 : decode cX8_gets 46 = .ok (.iastore, 1) := by decide +kernel
theorem dX8_gets_47 : decode cX8_gets 47 = .ok (.iconst 0, 1) := by decide +kernel
theorem dX8_gets_48 : decode cX8_gets 48 = .ok (.ireturn, 1) := by decide +kernel
theorem dX8_gets_49 : decode cX8_gets 49 = .ok (.aload_n 0, 1) := by decide +kernel
theorem dX8_gets_50 : decode cX8_gets 50 = .ok (.iload_n 1, 1) := by decide +kernel
theorem dX8_gets_51 : decode cX8_gets 51 = .ok (.invokevirtual 82, 3) := by decide +kernel
theorem dX8_gets_54 : decode cX8_gets 54 = .ok (.aload_n 0, 1) := by decide +kernel
theorem dX8_gets_55 : decode cX8_gets 55 = .ok (.getfield 11, 3) := by decide +kernel
theorem dX8_gets_58 : decode cX8_gets 58 = .ok (.sipush 3212, 3) := by decide +kernel
theorem dX8_gets_61 : decode cX8_gets 61 = .ok (.dup2, 1) := by decide +kernel
theorem dX8_gets_62 : decode cX8_gets 62 = .ok (.iaload, 1) := by decide +kernel
theorem dX8_gets_63 : decode cX8_gets 63 = .ok (.aload_n 0, 1) := by decide +kernel
theorem dX8_gets_64 : decode cX8_gets 64 = .ok (.getfield 11, 3) := by decide +kernel
theorem dX8_gets_67 : decode cX8_gets 67 = .ok (.sipush 1200, 3) := by decide +kernel
theorem dX8_gets_70 : decode cX8_gets 70 = .ok (.iload_n 1, 1) := by decide +kernel
theorem dX8_gets_71 : decode cX8_gets 71 = .ok (.iadd, 1) := by decide +kernel
theorem dX8_gets_72 : decode cX8_gets 72 = .ok (.iaload, 1) := by decide +kernel
theorem dX8_gets_73 : decode cX8_gets 73 = .ok (.iadd, 1) := by decide +kernel
theorem dX8_gets_74 : decode cX8_gets 74 = .ok (.iastore, 1) := by decide +kernel
theorem dX8_gets_75 : decode cX8_gets 75 = .ok (.aload_n 0, 1) := by decide +kernel
theorem dX8_gets_76 : decode cX8_gets 76 = .ok (.getfield 11, 3) := by decide +kernel
theorem dX8_gets_79 : decode cX8_gets 79 = .ok (.sipush 3209, 3) := by decide +kernel
theorem dX8_gets_82 : decode cX8_gets 82 = .ok (.dup2, 1) := by decide +kernel
theorem dX8_gets_83 : decode cX8_gets 83 = .ok (.iaload, 1) := by decide +kernel
theorem dX8_gets_84 : decode cX8_gets 84 = .ok (.iconst 1, 1) := by decide +kernel
theorem dX8_gets_85 : decode cX8_gets 85 = .ok (.iadd, 1) := by decide +kernel
theorem dX8_gets_86 : decode cX8_gets 86 = .ok (.iastore, 1) := by decide +kernel
theorem dX8_gets_87 : decode cX8_gets 87 = .ok (.aload_n 0, 1) := by decide +kernel
theorem dX8_gets_88 : decode cX8_gets 88 = .ok (.invokevirtual 86, 3) := by decide +kernel
theorem dX8_gets_91 : decode cX8_gets 91 = .ok (.iconst 1, 1) := by decide +kernel
theorem dX8_gets_92 : decode cX8_gets 92 = .ok (.ireturn, 1) := by decide +kernel
set_option maxRecDepth 20000 in
theorem ggX8_drops_X8_goes : GoodIn wsX8_drops wsX8_goes := goodIn_r _ [6, 1, 7, 8, 9, 10, 11, 12, 13, 14, 15, 16, 17, 18, 19, 20, 21, 22, 23, 24, 25] (by decide +kernel) (by decide +kernel)
set_option maxRecDepth 20000 in
theorem gX8_drops_X8_goes : GoodIn wsX8_drops (wsV RX8 58 RX8 yX8_goes wsX8_goes) := goodIn_app (goodIn_of _ (by decide +kernel)) ggX8_drops_X8_goes
theorem dX8_drops_0 : decode cX8_drops 0 = .ok (.aload_n 0, 1) := by decide +kernel
theorem dX8_drops_1 : decode cX8_drops 1 = .ok (.getfield 11, 3) := by decide +kernel
theorem dX8_drops_4 : decode cX8_drops 4 = .ok (.iconst 0, 1) := by decide +kernel
theorem dX8_drops_5 : decode cX8_drops 5 = .ok (.iload_n 1, 1) := by decide +kernel
theorem dX8_drops_6 : decode cX8_drops 6 = .ok (.iadd, 1) := by decide +kernel
theorem dX8_drops_7 : decode cX8_drops 7 = .ok (.iaload, 1) := by decide +kernel
theorem dX8_drops_8 : decode cX8_drops 8 = .ok (.istore_n 2, 1) := by decide +kernel
theorem dX8_drops_9 : decode cX8_drops 9 = .ok (.aload_n 0, 1) := by decide +kernel
theorem dX8_drops_10 : decode cX8_drops 10 = .ok (.iload_n 1, 1) := by decide +kernel
theorem dX8_drops_11 : decode cX8_drops 11 = .ok (.iconst 0, 1) := by decide +kernel
theorem dX8_drops_12 : decode cX8_drops 12 = .ok (.invokevirtual 58, 3) := by decide +kernel
theorem dX8_drops_15 : decode cX8_drops 15 = .ok (.iload_n 2, 1) := by decide +kernel
theorem dX8_drops_16 : decode cX8_drops 16 = .ok (.ireturn, 1) := by decide +kernel
set_option maxRecDepth 20000 in
theorem ggX8_capacity_X8_trim : GoodIn wsX8_capacity wsX8_trim := goodIn_r _ [6, 1, 7, 8, 9, 5, 10, 11, 12, 13, 14, 15, 16, 17, 18, 19, 20, 21, 22, 23, 24, 25, 26, 27, 28, 29, 30, 31, 32, 33, 34, 35, 36, 37, 38, 39, 40, 41, 42, 43, 44, 45, 46, 47] (by decide +kernel) (by decide +kernel)
set_option maxRecDepth 20000 in
theorem gX8_capacity_X8_trim : GoodIn wsX8_capacity (wsV RX8 86 RX8 yX8_trim wsX8_trim) := goodIn_app (goodIn_of _ (by decide +kernel)) ggX8_capacity_X8_trim
theorem dX8_capacity_0 : decode cX8_capacity 0 = .ok (.aload_n 0, 1) := by decide +kernel
theorem dX8_capacity_1 : decode cX8_capacity 1 = .ok (.getfield 11, 3) := by decide +kernel
theorem dX8_capacity_4 : decode cX8_capacity 4 = .ok (.sipush 3200, 3) := by decide +kernel
theorem dX8_capacity_7 : decode cX8_capacity 7 = .ok (.iload_n 1, 1) := by decide +kernel
theorem dX8_capacity_8 : decode cX8_capacity 8 = .ok (.iastore, 1) := by decide +kernel
theorem dX8_capacity_9 : decode cX8_capacity 9 = .ok (.aload_n 0, 1) := by decide +kernel
theorem dX8_capacity_10 : decode cX8_capacity 10 = .ok (.getfield 11, 3) := by decide +kernel
theorem dX8_capacity_13 : decode cX8_capacity 13 = .ok (.sipush 3201, 3) := by decide +kernel
theorem dX8_capacity_16 : decode cX8_capacity 16 = .ok (.aload_n 0, 1) := by decide +kernel
theorem dX8_capacity_17 : decode cX8_capacity 17 = .ok (.getfield 11, 3) := by decide +kernel
theorem dX8_capacity_20 : decode cX8_capacity 20 = .ok (.sipush 3201, 3) := by decide +kernel
theorem dX8_capacity_23 : decode cX8_capacity 23 = .ok (.iaload, 1) := by decide +kernel
theorem dX8_capacity_24 : decode cX8_capacity 24 = .ok (.iload_n 1, 1) := by decide +kernel
theorem dX8_capacity_25 : decode cX8_capacity 25 = .ok (.if_icmp .le 7, 3) := by decide +kernel
theorem dX8_capacity_28 : decode cX8_capacity 28 = .ok (.iload_n 1, 1) := by decide +kernel
theorem dX8_capacity_29 : decode cX8_capacity 29 = .ok (.goto 11, 3) := by decide +kernel
theorem dX8_capacity_32 : decode cX8_capacity 32 = .ok (.aload_n 0, 1) := by decide +kernel
theorem dX8_capacity_33 : decode cX8_capacity 33 = .ok (.getfield 11, 3) := by decide +kernel
theorem dX8_capacity_36 : decode cX8_capacity 36 = .ok (.sipush 3201, 3) := by decide +kernel
theorem dX8_capacity_39 : decode cX8_capacity 39 = .ok (.iaload, 1) := by decide +kernel
theorem dX8_capacity_40 : decode cX8_capacity 40 = .ok (.iastore, 1) := by decide +kernel
theorem dX8_capacity_41 : decode cX8_capacity 41 = .ok (.aload_n 0, 1) := by decide +kernel
theorem dX8_capacity_42 : decode cX8_capacity 42 = .ok (.invokevirtual 86, 3) := by decide +kernel
theorem dX8_capacity_45 : decode cX8_capacity 45 = .ok (.return_, 1) := by decide +kernel
set_option maxRecDepth 20000 in
theorem ggX8_set_X8_in : GoodIn wsX8_set wsX8_in := goodIn_r _ [5] (by decide +kernel) (by decide +kernel)
set_option maxRecDepth 20000 in
theorem gX8_set_X8_in : GoodIn wsX8_set (va_wsS RX8 54 yX8_in wsX8_in) := goodIn_app (goodIn_of _ (by decide +kernel)) ggX8_set_X8_in
set_option maxRecDepth 20000 in
theorem ggX8_set_X8_capacity : GoodIn wsX8_set wsX8_capacity := goodIn_r _ [9, 1, 10, 11, 12, 4, 13, 14, 15, 16, 17, 18, 19, 20, 21, 22, 23, 24, 25, 26, 27, 28, 29, 30, 31, 32, 33, 34, 35, 36, 37, 38, 39, 40, 41, 42, 43, 44, 45, 46, 47, 48, 49, 50, 51, 52, 53, 54] (by decide +kernel) (by decide +kernel)
set_option maxRecDepth 20000 in
theorem gX8_set_X8_capacity : GoodIn wsX8_set (wsV RX8 93 RX8 yX8_capacity wsX8_capacity) := goodIn_app (goodIn_of _ (by decide +kernel)) ggX8_set_X8_capacity
set_option maxRecDepth 20000 in
theorem ggX8_set_X8_trim : GoodIn wsX8_set wsX8_trim := goodIn_r _ [13, 1, 14, 15, 16, 4, 17, 18, 19, 20, 21, 22, 23, 24, 25, 26, 27, 28, 29, 30, 31, 32, 33, 34, 35, 36, 37, 38, 39, 40, 41, 42, 43, 44, 45, 46, 47, 48, 49, 50, 51, 52, 53, 54] (by decide +kernel) (by decide +kernel)
set_option maxRecDepth 20000 in
theorem gX8_set_X8_trim : GoodIn wsX8_set (wsV RX8 86 RX8 yX8_trim wsX8_trim) := goodIn_app (goodIn_of _ (by decide +kernel)) ggX8_set_X8_trim
theorem dX8_set_0 : decode cX8_set 0 = .ok (.iload_n 1, 1) := by decide +kernel
theorem dX8_set_1 : decode cX8_set 1 = .ok (.iconst 0, 1) := by decide +kernel
theorem dX8_set_2 : decode cX8_set 2 = .ok (.iconst 3, 1) := by decide +kernel
theorem dX8_set_3 : decode cX8_set 3 = .ok (.invokestatic 54, 3) := by decide +kernel
theorem dX8_set_6 : decode cX8_set 6 = .ok (.ifCond .ne 5, 3) := by decide +kernel
theorem dX8_set_9 : decode cX8_set 9 = .ok (.iconst (-1), 1) := by decide +kernel
theorem dX8_set_10 : decode cX8_set 10 = .ok (.ireturn, 1) := by decide +kernel
theorem dX8_set_11 : decode cX8_set 11 = .ok (.iload_n 1, 1) := by decide +kernel
theorem dX8_set_12 : decode cX8_set 12 = .ok (.ifCond .ne 13, 3) := by decide +kernel
theorem dX8_set_15 : decode cX8_set 15 = .ok (.iload_n 2, 1) := by decide +kernel
theorem dX8_set_16 : decode cX8_set 16 = .ok (.iconst 1, 1) := by decide +kernel
theorem dX8_set_17 : decode cX8_set 17 = .ok (.bipush 99, 2) := by decide +kernel
theorem dX8_set_19 : decode cX8_set 19 = .ok (.invokestatic 54, 3) := by decide +kernel
theorem dX8_set_22 : decode cX8_set 22 = .ok (.goto 46, 3) := by decide +kernel
theorem dX8_set_25 : decode cX8_set 25 = .ok (.iload_n 1, 1) := by decide +kernel
theorem dX8_set_26 : decode cX8_set 26 = .ok (.iconst 1, 1) := by decide +kernel
theorem dX8_set_27 : decode cX8_set 27 = .ok (.if_icmp .ne 19, 3) := by decide +kernel
theorem dX8_set_30 : decode cX8_set 30 = .ok (.iload_n 2, 1) := by decide +kernel
theorem dX8_set_31 : decode cX8_set 31 = .ok (.iconst 0, 1) := by decide +kernel
theorem dX8_set_32 : decode cX8_set 32 = .ok (.aload_n 0, 1) := by decide +kernel
theorem dX8_set_33 : decode cX8_set 33 = .ok (.getfield 11, 3) := by decide +kernel
theorem dX8_set_36 : decode cX8_set 36 = .ok (.sipush 3200, 3) := by decide +kernel
theorem dX8_set_39 : decode cX8_set 39 = .ok (.iaload, 1) := by decide +kernel
theorem dX8_set_40 : decode cX8_set 40 = .ok (.invokestatic 54, 3) := by decide +kernel
theorem dX8_set_43 : decode cX8_set 43 = .ok (.goto 25, 3) := by decide +kernel
theorem dX8_set_46 : decode cX8_set 46 = .ok (.iload_n 1, 1) := by decide +kernel
theorem dX8_set_47 : decode cX8_set 47 = .ok (.iconst 2, 1) := by decide +kernel
theorem dX8_set_48 : decode cX8_set 48 = .ok (.if_icmp .ne 13, 3) := by decide +kernel
theorem dX8_set_51 : decode cX8_set 51 = .ok (.iload_n 2, 1) := by decide +kernel
theorem dX8_set_52 : decode cX8_set 52 = .ok (.iconst 1, 1) := by decide +kernel
theorem dX8_set_53 : decode cX8_set 53 = .ok (.bipush 9, 2) := by decide +kernel
theorem dX8_set_55 : decode cX8_set 55 = .ok (.invokestatic 54, 3) := by decide +kernel
theorem dX8_set_58 : decode cX8_set 58 = .ok (.goto 10, 3) := by decide +kernel
theorem dX8_set_61 : decode cX8_set 61 = .ok (.iload_n 2, 1) := by decide +kernel
theorem dX8_set_62 : decode cX8_set 62 = .ok (.iconst 0, 1) := by decide +kernel
theorem dX8_set_63 : decode cX8_set 63 = .ok (.bipush 9, 2) := by decide +kernel
theorem dX8_set_65 : decode cX8_set 65 = .ok (.invokestatic 54, 3) := by decide +kernel
theorem dX8_set_68 : decode cX8_set 68 = .ok (.istore_n 3, 1) := by decide +kernel
theorem dX8_set_69 : decode cX8_set 69 = .ok (.iload_n 3, 1) := by decide +kernel
theorem dX8_set_70 : decode cX8_set 70 = .ok (.ifCond .ne 6, 3) := by decide +kernel
theorem dX8_set_73 : decode cX8_set 73 = .ok (.bipush (-2), 2) := by decide +kernel
theorem dX8_set_75 : decode cX8_set 75 = .ok (.ireturn, 1) := by decide +kernel
theorem dX8_set_76 : decode cX8_set 76 = .ok (.aload_n 0, 1) := by decide +kernel
theorem dX8_set_77 : decode cX8_set 77 = .ok (.getfield 11, 3) := by decide +kernel
theorem dX8_set_80 : decode cX8_set 80 = .ok (.sipush 3200, 3) := by decide +kernel
theorem dX8_set_83 : decode cX8_set 83 = .ok (.iload_n 1, 1) := by decide +kernel
theorem dX8_set_84 : decode cX8_set 84 = .ok (.iadd, 1) := by decide +kernel
theorem dX8_set_85 : decode cX8_set 85 = .ok (.iaload, 1) := by decide +kernel
theorem dX8_set_86 : decode cX8_set 86 = .ok (.istore 4, 2) := by decide +kernel
theorem dX8_set_88 : decode cX8_set 88 = .ok (.iload_n 1, 1) := by decide +kernel
theorem dX8_set_89 : decode cX8_set 89 = .ok (.ifCond .ne 11, 3) := by decide +kernel
theorem dX8_set_92 : decode cX8_set 92 = .ok (.aload_n 0, 1) := by decide +kernel
theorem dX8_set_93 : decode cX8_set 93 = .ok (.iload_n 2, 1) := by decide +kernel
theorem dX8_set_94 : decode cX8_set 94 = .ok (.invokevirtual 93, 3) := by decide +kernel
theorem dX8_set_97 : decode cX8_set 97 = .ok (.goto 23, 3) := by decide +kernel
theorem dX8_set_100 : decode cX8_set 100 = .ok (.aload_n 0, 1) := by decide +kernel
theorem dX8_set_101 : decode cX8_set 101 = .ok (.getfield 11, 3) := by decide +kernel
theorem dX8_set_104 : decode cX8_set 104 = .ok (.sipush 3200, 3) := by decide +kernel
theorem dX8_set_107 : decode cX8_set 107 = .ok (.iload_n 1, 1) := by decide +kernel
theorem dX8_set_108 : decode cX8_set 108 = .ok (.iadd, 1) := by decide +kernel
theorem dX8_set_109 : decode cX8_set 109 = .ok (.iload_n 2, 1) := by decide +kernel
theorem dX8_set_110 : decode cX8_set 110 = .ok (.iastore, 1) := by decide +kernel
theorem dX8_set_111 : decode cX8_set 111 = .ok (.iload_n 1, 1) := by decide +kernel
theorem dX8_set_112 : decode cX8_set 112 = .ok (.iconst 1, 1) := by decide +kernel
theorem dX8_set_113 : decode cX8_set 113 = .ok (.if_icmp .ne 7, 3) := by decide +kernel
theorem dX8_set_116 : decode cX8_set 116 = .ok (.aload_n 0, 1) := by decide +kernel
theorem dX8_set_117 : decode cX8_set 117 = .ok (.invokevirtual 86, 3) := by decide +kernel
theorem dX8_set_120 : decode cX8_set 120 = .ok (.iload 4, 2) := by decide +kernel
theorem dX8_set_122 : decode cX8_set 122 = .ok (.ireturn, 1) := by decide +kernel
set_option maxRecDepth 20000 in
theorem ggX8_told_X8_in : GoodIn wsX8_told wsX8_in := goodIn_r _ [5] (by decide +kernel) (by decide +kernel)
set_option maxRecDepth 20000 in
theorem gX8_told_X8_in : GoodIn wsX8_told (va_wsS RX8 54 yX8_in wsX8_in) := goodIn_app (goodIn_of _ (by decide +kernel)) ggX8_told_X8_in
theorem dX8_told_0 : decode cX8_told 0 = .ok (.iload_n 1, 1) := by decide +kernel
theorem dX8_told_1 : decode cX8_told 1 = .ok (.iconst 0, 1) := by decide +kernel
theorem dX8_told_2 : decode cX8_told 2 = .ok (.bipush 13, 2) := by decide +kernel
theorem dX8_told_4 : decode cX8_told 4 = .ok (.invokestatic 54, 3) := by decide +kernel
theorem dX8_told_7 : decode cX8_told 7 = .ok (.ifCond .ne 5, 3) := by decide +kernel
theorem dX8_told_10 : decode cX8_told 10 = .ok (.iconst (-1), 1) := by decide +kernel
theorem dX8_told_11 : decode cX8_told 11 = .ok (.ireturn, 1) := by decide +kernel
theorem dX8_told_12 : decode cX8_told 12 = .ok (.iload_n 1, 1) := by decide +kernel
theorem dX8_told_13 : decode cX8_told 13 = .ok (.iconst 4, 1) := by decide +kernel
theorem dX8_told_14 : decode cX8_told 14 = .ok (.if_icmp .ge 16, 3) := by decide +kernel
theorem dX8_told_17 : decode cX8_told 17 = .ok (.aload_n 0, 1) := by decide +kernel
theorem dX8_told_18 : decode cX8_told 18 = .ok (.getfield 11, 3) := by decide +kernel
theorem dX8_told_21 : decode cX8_told 21 = .ok (.sipush 3200, 3) := by decide +kernel
theorem dX8_told_24 : decode cX8_told 24 = .ok (.iload_n 1, 1) := by decide +kernel
theorem dX8_told_25 : decode cX8_told 25 = .ok (.iadd, 1) := by decide +kernel
theorem dX8_told_26 : decode cX8_told 26 = .ok (.iaload, 1) := by decide +kernel
theorem dX8_told_27 : decode cX8_told 27 = .ok (.goto 37, 3) := by decide +kernel
theorem dX8_told_30 : decode cX8_told 30 = .ok (.iload_n 1, 1) := by decide +kernel
theorem dX8_told_31 : decode cX8_told 31 = .ok (.bipush 8, 2) := by decide +kernel
theorem dX8_told_33 : decode cX8_told 33 = .ok (.if_icmp .ge 18, 3) := by decide +kernel
theorem dX8_told_36 : decode cX8_told 36 = .ok (.aload_n 0, 1) := by decide +kernel
theorem dX8_told_37 : decode cX8_told 37 = .ok (.getfield 11, 3) := by decide +kernel
theorem dX8_told_40 : decode cX8_told 40 = .ok (.sipush 3204, 3) := by decide +kernel
theorem dX8_told_43 : decode cX8_told 43 = .ok (.iload_n 1, 1) := by decide +kernel
theorem dX8_told_44 : decode cX8_told 44 = .ok (.iadd, 1) := by decide +kernel
theorem dX8_told_45 : decode cX8_told 45 = .ok (.iconst 3, 1) := by decide +kernel
theorem dX8_told_46 : decode cX8_told 46 = .ok (.isub, 1) := by decide +kernel
theorem dX8_told_47 : decode cX8_told 47 = .ok (.iaload, 1) := by decide +kernel
theorem dX8_told_48 : decode cX8_told 48 = .ok (.goto 16, 3) := by decide +kernel
theorem dX8_told_51 : decode cX8_told 51 = .ok (.aload_n 0, 1) := by decide +kernel
theorem dX8_told_52 : decode cX8_told 52 = .ok (.getfield 11, 3) := by decide +kernel
theorem dX8_told_55 : decode cX8_told 55 = .ok (.sipush 3209, 3) := by decide +kernel
theorem dX8_told_58 : decode cX8_told 58 = .ok (.iload_n 1, 1) := by decide +kernel
theorem dX8_told_59 : decode cX8_told 59 = .ok (.iadd, 1) := by decide +kernel
theorem dX8_told_60 : decode cX8_told 60 = .ok (.bipush 8, 2) := by decide +kernel
theorem dX8_told_62 : decode cX8_told 62 = .ok (.isub, 1) := by decide +kernel
theorem dX8_told_63 : decode cX8_told 63 = .ok (.iaload, 1) := by decide +kernel
theorem dX8_told_64 : decode cX8_told 64 = .ok (.ireturn, 1) := by decide +kernel
set_option maxRecDepth 20000 in
theorem ggX8_put_X8_isKey : GoodIn wsX8_put wsX8_isKey := goodIn_r _ [5, 6, 7, 4, 8] (by decide +kernel) (by decide +kernel)
set_option maxRecDepth 20000 in
theorem gX8_put_X8_isKey : GoodIn wsX8_put (va_wsS RX8 96 yX8_isKey wsX8_isKey) := goodIn_app (goodIn_of _ (by decide +kernel)) ggX8_put_X8_isKey
set_option maxRecDepth 20000 in
theorem ggX8_put_X8_in : GoodIn wsX8_put wsX8_in := goodIn_r _ [8] (by decide +kernel) (by decide +kernel)
set_option maxRecDepth 20000 in
theorem gX8_put_X8_in : GoodIn wsX8_put (va_wsS RX8 54 yX8_in wsX8_in) := goodIn_app (goodIn_of _ (by decide +kernel)) ggX8_put_X8_in
set_option maxRecDepth 20000 in
theorem ggX8_put_X8_putIn : GoodIn wsX8_put wsX8_putIn := goodIn_r _ [12, 1, 13, 14, 15, 4, 16, 17, 18, 19, 20, 21, 22, 23, 24, 25, 26, 27, 28, 29, 30, 31, 32, 33, 34, 35, 36, 37, 38, 39, 40, 41, 42, 43, 44, 45, 46, 47, 48, 49, 50, 51, 52, 53, 54, 55, 56, 57, 58, 59, 60, 61, 62, 63, 64, 65] (by decide +kernel) (by decide +kernel)
set_option maxRecDepth 20000 in
theorem gX8_put_X8_putIn : GoodIn wsX8_put (wsV RX8 100 RX8 yX8_putIn wsX8_putIn) := goodIn_app (goodIn_of _ (by decide +kernel)) ggX8_put_X8_putIn
theorem dX8_put_0 : decode cX8_put 0 = .ok (.iload_n 1, 1) := by decide +kernel
theorem dX8_put_1 : decode cX8_put 1 = .ok (.iload_n 2, 1) := by decide +kernel
theorem dX8_put_2 : decode cX8_put 2 = .ok (.invokestatic 96, 3) := by decide +kernel
theorem dX8_put_5 : decode cX8_put 5 = .ok (.ifCond .ne 5, 3) := by decide +kernel
theorem dX8_put_8 : decode cX8_put 8 = .ok (.iconst (-1), 1) := by decide +kernel
theorem dX8_put_9 : decode cX8_put 9 = .ok (.ireturn, 1) := by decide +kernel
theorem dX8_put_10 : decode cX8_put 10 = .ok (.iload 4, 2) := by decide +kernel
theorem dX8_put_12 : decode cX8_put 12 = .ok (.iconst 1, 1) := by decide +kernel
theorem dX8_put_13 : decode cX8_put 13 = .ok (.bipush 9, 2) := by decide +kernel
theorem dX8_put_15 : decode cX8_put 15 = .ok (.invokestatic 54, 3) := by decide +kernel
theorem dX8_put_18 : decode cX8_put 18 = .ok (.ifCond .eq 14, 3) := by decide +kernel
theorem dX8_put_21 : decode cX8_put 21 = .ok (.iload 5, 2) := by decide +kernel
theorem dX8_put_23 : decode cX8_put 23 = .ok (.iconst 0, 1) := by decide +kernel
theorem dX8_put_24 : decode cX8_put 24 = .ok (.bipush 99, 2) := by decide +kernel
theorem dX8_put_26 : decode cX8_put 26 = .ok (.invokestatic 54, 3) := by decide +kernel
theorem dX8_put_29 : decode cX8_put 29 = .ok (.ifCond .ne 6, 3) := by decide +kernel
theorem dX8_put_32 : decode cX8_put 32 = .ok (.bipush (-2), 2) := by decide +kernel
theorem dX8_put_34 : decode cX8_put 34 = .ok (.ireturn, 1) := by decide +kernel
theorem dX8_put_35 : decode cX8_put 35 = .ok (.iload 4, 2) := by decide +kernel
theorem dX8_put_37 : decode cX8_put 37 = .ok (.aload_n 0, 1) := by decide +kernel
theorem dX8_put_38 : decode cX8_put 38 = .ok (.getfield 11, 3) := by decide +kernel
theorem dX8_put_41 : decode cX8_put 41 = .ok (.sipush 3200, 3) := by decide +kernel
theorem dX8_put_44 : decode cX8_put 44 = .ok (.iaload, 1) := by decide +kernel
theorem dX8_put_45 : decode cX8_put 45 = .ok (.if_icmp .le 8, 3) := by decide +kernel
theorem dX8_put_48 : decode cX8_put 48 = .ok (.bipush (-4), 2) := by decide +kernel
theorem dX8_put_50 : decode cX8_put 50 = .ok (.goto 18, 3) := by decide +kernel
theorem dX8_put_53 : decode cX8_put 53 = .ok (.aload_n 0, 1) := by decide +kernel
theorem dX8_put_54 : decode cX8_put 54 = .ok (.bipush 100, 2) := by decide +kernel
theorem dX8_put_56 : decode cX8_put 56 = .ok (.iload_n 1, 1) := by decide +kernel
theorem dX8_put_57 : decode cX8_put 57 = .ok (.imul, 1) := by decide +kernel
theorem dX8_put_58 : decode cX8_put 58 = .ok (.iload_n 2, 1) := by decide +kernel
theorem dX8_put_59 : decode cX8_put 59 = .ok (.iadd, 1) := by decide +kernel
theorem dX8_put_60 : decode cX8_put 60 = .ok (.iload_n 3, 1) := by decide +kernel
theorem dX8_put_61 : decode cX8_put 61 = .ok (.iload 4, 2) := by decide +kernel
theorem dX8_put_63 : decode cX8_put 63 = .ok (.iload 5, 2) := by decide +kernel
theorem dX8_put_65 : decode cX8_put 65 = .ok (.invokevirtual 100, 3) := by decide +kernel
theorem dX8_put_68 : decode cX8_put 68 = .ok (.ireturn, 1) := by decide +kernel
set_option maxRecDepth 20000 in
theorem ggX8_get_X8_isKey : GoodIn wsX8_get wsX8_isKey := goodIn_r _ [6, 7, 8, 5, 9] (by decide +kernel) (by decide +kernel)
set_option maxRecDepth 20000 in
theorem gX8_get_X8_isKey : GoodIn wsX8_get (va_wsS RX8 96 yX8_isKey wsX8_isKey) := goodIn_app (goodIn_of _ (by decide +kernel)) ggX8_get_X8_isKey
set_option maxRecDepth 20000 in
theorem ggX8_get_X8_gets : GoodIn wsX8_get wsX8_gets := goodIn_r _ [13, 2, 14, 15, 16, 5, 17, 18, 19, 20, 21, 22, 23, 24, 25, 26, 27, 28, 29, 30, 31, 32, 33, 34, 35, 36, 37, 38, 39, 40, 41, 42, 43, 44, 45, 46, 47, 48, 49, 50, 51, 52, 53, 54, 55, 56, 57, 58, 59, 60, 61, 62, 63, 64, 65, 66] (by decide +kernel) (by decide +kernel)
set_option maxRecDepth 20000 in
theorem gX8_get_X8_gets : GoodIn wsX8_get (wsV RX8 106 RX8 yX8_gets wsX8_gets) := goodIn_app (goodIn_of _ (by decide +kernel)) ggX8_get_X8_gets
theorem dX8_get_0 : decode cX8_get 0 = .ok (.iload_n 1, 1) := by decide +kernel
theorem dX8_get_1 : decode cX8_get 1 = .ok (.iload_n 2, 1) := by decide +kernel
theorem dX8_get_2 : decode cX8_get 2 = .ok (.invokestatic 96, 3) := by decide +kernel
theorem dX8_get_5 : decode cX8_get 5 = .ok (.ifCond .ne 7, 3) := by decide +kernel
theorem dX8_get_8 : decode cX8_get 8 = .ok (.ldc2_w 104, 3) := by decide +kernel
theorem dX8_get_11 : decode cX8_get 11 = .ok (.lreturn, 1) := by decide +kernel
theorem dX8_get_12 : decode cX8_get 12 = .ok (.bipush 100, 2) := by decide +kernel
theorem dX8_get_14 : decode cX8_get 14 = .ok (.iload_n 1, 1) := by decide +kernel
theorem dX8_get_15 : decode cX8_get 15 = .ok (.imul, 1) := by decide +kernel
theorem dX8_get_16 : decode cX8_get 16 = .ok (.iload_n 2, 1) := by decide +kernel
theorem dX8_get_17 : decode cX8_get 17 = .ok (.iadd, 1) := by decide +kernel
theorem dX8_get_18 : decode cX8_get 18 = .ok (.istore_n 3, 1) := by decide +kernel
theorem dX8_get_19 : decode cX8_get 19 = .ok (.aload_n 0, 1) := by decide +kernel
theorem dX8_get_20 : decode cX8_get 20 = .ok (.getfield 11, 3) := by decide +kernel
theorem dX8_get_23 : decode cX8_get 23 = .ok (.sipush 400, 3) := by decide +kernel
theorem dX8_get_26 : decode cX8_get 26 = .ok (.iload_n 3, 1) := by decide +kernel
theorem dX8_get_27 : decode cX8_get 27 = .ok (.iadd, 1) := by decide +kernel
theorem dX8_get_28 : decode cX8_get 28 = .ok (.iaload, 1) := by decide +kernel
theorem dX8_get_29 : decode cX8_get 29 = .ok (.istore 4, 2) := by decide +kernel
theorem dX8_get_31 : decode cX8_get 31 = .ok (.aload_n 0, 1) := by decide +kernel
theorem dX8_get_32 : decode cX8_get 32 = .ok (.iload_n 3, 1) := by decide +kernel
theorem dX8_get_33 : decode cX8_get 33 = .ok (.invokevirtual 106, 3) := by decide +kernel
theorem dX8_get_36 : decode cX8_get 36 = .ok (.ifCond .eq 9, 3) := by decide +kernel
theorem dX8_get_39 : decode cX8_get 39 = .ok (.iload 4, 2) := by decide +kernel
theorem dX8_get_41 : decode cX8_get 41 = .ok (.i2l, 1) := by decide +kernel
theorem dX8_get_42 : decode cX8_get 42 = .ok (.goto 6, 3) := by decide +kernel
theorem dX8_get_45 : decode cX8_get 45 = .ok (.ldc2_w 104, 3) := by decide +kernel
theorem dX8_get_48 : decode cX8_get 48 = .ok (.lreturn, 1) := by decide +kernel
set_option maxRecDepth 20000 in
theorem ggX8_drop_X8_isKey : GoodIn wsX8_drop wsX8_isKey := goodIn_r _ [4, 5, 6, 3, 7] (by decide +kernel) (by decide +kernel)
set_option maxRecDepth 20000 in
theorem gX8_drop_X8_isKey : GoodIn wsX8_drop (va_wsS RX8 96 yX8_isKey wsX8_isKey) := goodIn_app (goodIn_of _ (by decide +kernel)) ggX8_drop_X8_isKey
set_option maxRecDepth 20000 in
theorem ggX8_drop_X8_drops : GoodIn wsX8_drop wsX8_drops := goodIn_r _ [11, 12, 13, 14, 15, 3, 16, 17, 18, 19, 20, 21, 22, 23, 24, 25, 26, 27, 28, 29, 30, 31, 32, 33, 34, 35] (by decide +kernel) (by decide +kernel)
set_option maxRecDepth 20000 in
theorem gX8_drop_X8_drops : GoodIn wsX8_drop (wsV RX8 109 RX8 yX8_drops wsX8_drops) := goodIn_app (goodIn_of _ (by decide +kernel)) ggX8_drop_X8_drops
theorem dX8_drop_0 : decode cX8_drop 0 = .ok (.iload_n 1, 1) := by decide +kernel
theorem dX8_drop_1 : decode cX8_drop 1 = .ok (.iload_n 2, 1) := by decide +kernel
end
section
theorem dX8_drop_2 : decode cX8_drop 2 = .ok (.invokestatic 96, 3) := by decide +kernel
theorem dX8_drop_5 : decode cX8_drop 5 = .ok (.ifCond .eq 16, 3) := by decide +kernel
theorem dX8_drop_8 : decode cX8_drop 8 = .ok (.aload_n 0, 1) := by decide +kernel
theorem dX8_drop_9 : decode cX8_drop 9 = .ok (.bipush 100, 2) := by decide +kernel
theorem dX8_drop_11 : decode cX8_drop 11 = .ok (.iload_n 1, 1) := by decide +kernel
theorem dX8_drop_12 : decode cX8_drop 12 = .ok (.imul, 1) := by decide +kernel
theorem dX8_drop_13 : decode cX8_drop 13 = .ok (.iload_n 2, 1) := by decide +kernel
theorem dX8_drop_14 : decode cX8_drop 14 = .ok (.iadd, 1) := by decide +kernel
theorem dX8_drop_15 : decode cX8_drop 15 = .ok (.invokevirtual 109, 3) := by decide +kernel
theorem dX8_drop_18 : decode cX8_drop 18 = .ok (.goto 4, 3) := by decide +kernel
theorem dX8_drop_21 : decode cX8_drop 21 = .ok (.iconst (-1), 1) := by decide +kernel
theorem dX8_drop_22 : decode cX8_drop 22 = .ok (.ireturn, 1) := by decide +kernel
set_option maxRecDepth 20000 in
theorem ggX8_pin_X8_isKey : GoodIn wsX8_pin wsX8_isKey := goodIn_r _ [5, 6, 7, 4, 8] (by decide +kernel) (by decide +kernel)
set_option maxRecDepth 20000 in
theorem gX8_pin_X8_isKey : GoodIn wsX8_pin (va_wsS RX8 96 yX8_isKey wsX8_isKey) := goodIn_app (goodIn_of _ (by decide +kernel)) ggX8_pin_X8_isKey
set_option maxRecDepth 20000 in
theorem ggX8_pin_X8_isThing : GoodIn wsX8_pin wsX8_isThing := goodIn_r _ [12, 1, 13, 14, 15, 16, 17, 18, 19, 20, 21, 22, 23, 24, 25, 26, 27, 28, 29, 30, 31] (by decide +kernel) (by decide +kernel)
set_option maxRecDepth 20000 in
theorem gX8_pin_X8_isThing : GoodIn wsX8_pin (wsV RX8 89 RX8 yX8_isThing wsX8_isThing) := goodIn_app (goodIn_of _ (by decide +kernel)) ggX8_pin_X8_isThing
theorem dX8_pin_0 : decode cX8_pin 0 = .ok (.iload_n 1, 1) := by decide +kernel
theorem dX8_pin_1 : decode cX8_pin 1 = .ok (.iload_n 2, 1) := by decide +kernel
theorem dX8_pin_2 : decode cX8_pin 2 = .ok (.invokestatic 96, 3) := by decide +kernel
theorem dX8_pin_5 : decode cX8_pin 5 = .ok (.ifCond .ne 5, 3) := by decide +kernel
theorem dX8_pin_8 : decode cX8_pin 8 = .ok (.iconst (-1), 1) := by decide +kernel
theorem dX8_pin_9 : decode cX8_pin 9 = .ok (.ireturn, 1) := by decide +kernel
theorem dX8_pin_10 : decode cX8_pin 10 = .ok (.bipush 100, 2) := by decide +kernel
theorem dX8_pin_12 : decode cX8_pin 12 = .ok (.iload_n 1, 1) := by decide +kernel
theorem dX8_pin_13 : decode cX8_pin 13 = .ok (.imul, 1) := by decide +kernel
theorem dX8_pin_14 : decode cX8_pin 14 = .ok (.iload_n 2, 1) := by decide +kernel
theorem dX8_pin_15 : decode cX8_pin 15 = .ok (.iadd, 1) := by decide +kernel
theorem dX8_pin_16 : decode cX8_pin 16 = .ok (.istore 4, 2) := by decide +kernel
theorem dX8_pin_18 : decode cX8_pin 18 = .ok (.aload_n 0, 1) := by decide +kernel
theorem dX8_pin_19 : decode cX8_pin 19 = .ok (.iload 4, 2) := by decide +kernel
theorem dX8_pin_21 : decode cX8_pin 21 = .ok (.invokevirtual 89, 3) := by decide +kernel
theorem dX8_pin_24 : decode cX8_pin 24 = .ok (.ifCond .ne 6, 3) := by decide +kernel
theorem dX8_pin_27 : decode cX8_pin 27 = .ok (.bipush (-3), 2) := by decide +kernel
theorem dX8_pin_29 : decode cX8_pin 29 = .ok (.ireturn, 1) := by decide +kernel
theorem dX8_pin_30 : decode cX8_pin 30 = .ok (.aload_n 0, 1) := by decide +kernel
theorem dX8_pin_31 : decode cX8_pin 31 = .ok (.getfield 11, 3) := by decide +kernel
theorem dX8_pin_34 : decode cX8_pin 34 = .ok (.sipush 2400, 3) := by decide +kernel
theorem dX8_pin_37 : decode cX8_pin 37 = .ok (.iload 4, 2) := by decide +kernel
theorem dX8_pin_39 : decode cX8_pin 39 = .ok (.iadd, 1) := by decide +kernel
theorem dX8_pin_40 : decode cX8_pin 40 = .ok (.iaload, 1) := by decide +kernel
theorem dX8_pin_41 : decode cX8_pin 41 = .ok (.istore 5, 2) := by decide +kernel
theorem dX8_pin_43 : decode cX8_pin 43 = .ok (.aload_n 0, 1) := by decide +kernel
theorem dX8_pin_44 : decode cX8_pin 44 = .ok (.getfield 11, 3) := by decide +kernel
theorem dX8_pin_47 : decode cX8_pin 47 = .ok (.sipush 2400, 3) := by decide +kernel
theorem dX8_pin_50 : decode cX8_pin 50 = .ok (.iload 4, 2) := by decide +kernel
theorem dX8_pin_52 : decode cX8_pin 52 = .ok (.iadd, 1) := by decide +kernel
theorem dX8_pin_53 : decode cX8_pin 53 = .ok (.iload_n 3, 1) := by decide +kernel
theorem dX8_pin_54 : decode cX8_pin 54 = .ok (.ifCond .eq 7, 3) := by decide +kernel
theorem dX8_pin_57 : decode cX8_pin 57 = .ok (.iconst 1, 1) := by decide +kernel
theorem dX8_pin_58 : decode cX8_pin 58 = .ok (.goto 4, 3) := by decide +kernel
theorem dX8_pin_61 : decode cX8_pin 61 = .ok (.iconst 0, 1) := by decide +kernel
theorem dX8_pin_62 : decode cX8_pin 62 = .ok (.iastore, 1) := by decide +kernel
theorem dX8_pin_63 : decode cX8_pin 63 = .ok (.iload 5, 2) := by decide +kernel
theorem dX8_pin_65 : decode cX8_pin 65 = .ok (.ireturn, 1) := by decide +kernel
theorem dX8_placeOf_0 : decode cX8_placeOf 0 = .ok (.iconst 0, 1) := by decide +kernel
theorem dX8_placeOf_1 : decode cX8_placeOf 1 = .ok (.istore_n 2, 1) := by decide +kernel
theorem dX8_placeOf_2 : decode cX8_placeOf 2 = .ok (.iconst 0, 1) := by decide +kernel
theorem dX8_placeOf_3 : decode cX8_placeOf 3 = .ok (.istore_n 3, 1) := by decide +kernel
theorem dX8_placeOf_4 : decode cX8_placeOf 4 = .ok (.iload_n 3, 1) := by decide +kernel
theorem dX8_placeOf_5 : decode cX8_placeOf 5 = .ok (.sipush 400, 3) := by decide +kernel
theorem dX8_placeOf_8 : decode cX8_placeOf 8 = .ok (.if_icmp .ge 59, 3) := by decide +kernel
theorem dX8_placeOf_11 : decode cX8_placeOf 11 = .ok (.iload_n 2, 1) := by decide +kernel
theorem dX8_placeOf_12 : decode cX8_placeOf 12 = .ok (.aload_n 0, 1) := by decide +kernel
theorem dX8_placeOf_13 : decode cX8_placeOf 13 = .ok (.getfield 11, 3) := by decide +kernel
theorem dX8_placeOf_16 : decode cX8_placeOf 16 = .ok (.iconst 0, 1) := by decide +kernel
theorem dX8_placeOf_17 : decode cX8_placeOf 17 = .ok (.iload_n 3, 1) := by decide +kernel
theorem dX8_placeOf_18 : decode cX8_placeOf 18 = .ok (.iadd, 1) := by decide +kernel
theorem dX8_placeOf_19 : decode cX8_placeOf 19 = .ok (.iaload, 1) := by decide +kernel
theorem dX8_placeOf_20 : decode cX8_placeOf 20 = .ok (.aload_n 0, 1) := by decide +kernel
theorem dX8_placeOf_21 : decode cX8_placeOf 21 = .ok (.getfield 11, 3) := by decide +kernel
theorem dX8_placeOf_24 : decode cX8_placeOf 24 = .ok (.iconst 0, 1) := by decide +kernel
theorem dX8_placeOf_25 : decode cX8_placeOf 25 = .ok (.iload_n 1, 1) := by decide +kernel
theorem dX8_placeOf_26 : decode cX8_placeOf 26 = .ok (.iadd, 1) := by decide +kernel
theorem dX8_placeOf_27 : decode cX8_placeOf 27 = .ok (.iaload, 1) := by decide +kernel
theorem dX8_placeOf_28 : decode cX8_placeOf 28 = .ok (.if_icmp .ne 30, 3) := by decide +kernel
theorem dX8_placeOf_31 : decode cX8_placeOf 31 = .ok (.aload_n 0, 1) := by decide +kernel
theorem dX8_placeOf_32 : decode cX8_placeOf 32 = .ok (.getfield 11, 3) := by decide +kernel
theorem dX8_placeOf_35 : decode cX8_placeOf 35 = .ok (.sipush 2800, 3) := by decide +kernel
theorem dX8_placeOf_38 : decode cX8_placeOf 38 = .ok (.iload_n 3, 1) := by decide +kernel
theorem dX8_placeOf_39 : decode cX8_placeOf 39 = .ok (.iadd, 1) := by decide +kernel
theorem dX8_placeOf_40 : decode cX8_placeOf 40 = .ok (.iaload, 1) := by decide +kernel
theorem dX8_placeOf_41 : decode cX8_placeOf 41 = .ok (.aload_n 0, 1) := by decide +kernel
theorem dX8_placeOf_42 : decode cX8_placeOf 42 = .ok (.getfield 11, 3) := by decide +kernel
theorem dX8_placeOf_45 : decode cX8_placeOf 45 = .ok (.sipush 2800, 3) := by decide +kernel
theorem dX8_placeOf_48 : decode cX8_placeOf 48 = .ok (.iload_n 1, 1) := by decide +kernel
theorem dX8_placeOf_49 : decode cX8_placeOf 49 = .ok (.iadd, 1) := by decide +kernel
theorem dX8_placeOf_50 : decode cX8_placeOf 50 = .ok (.iaload, 1) := by decide +kernel
theorem dX8_placeOf_51 : decode cX8_placeOf 51 = .ok (.if_icmp .ge 7, 3) := by decide +kernel
theorem dX8_placeOf_54 : decode cX8_placeOf 54 = .ok (.iconst 1, 1) := by decide +kernel
theorem dX8_placeOf_55 : decode cX8_placeOf 55 = .ok (.goto 4, 3) := by decide +kernel
theorem dX8_placeOf_58 : decode cX8_placeOf 58 = .ok (.iconst 0, 1) := by decide +kernel
theorem dX8_placeOf_59 : decode cX8_placeOf 59 = .ok (.iadd, 1) := by decide +kernel
theorem dX8_placeOf_60 : decode cX8_placeOf 60 = .ok (.istore_n 2, 1) := by decide +kernel
theorem dX8_placeOf_61 : decode cX8_placeOf 61 = .ok (.iinc 3 1, 3) := by decide +kernel
theorem dX8_placeOf_64 : decode cX8_placeOf 64 = .ok (.goto (-60), 3) := by decide +kernel
theorem dX8_placeOf_67 : decode cX8_placeOf 67 = .ok (.iload_n 2, 1) := by decide +kernel
theorem dX8_placeOf_68 : decode cX8_placeOf 68 = .ok (.ireturn, 1) := by decide +kernel
set_option maxRecDepth 20000 in
theorem ggX8_of_X8_isKey : GoodIn wsX8_of wsX8_isKey := goodIn_r _ [5, 6, 7, 4, 8] (by decide +kernel) (by decide +kernel)
set_option maxRecDepth 20000 in
theorem gX8_of_X8_isKey : GoodIn wsX8_of (va_wsS RX8 96 yX8_isKey wsX8_isKey) := goodIn_app (goodIn_of _ (by decide +kernel)) ggX8_of_X8_isKey
set_option maxRecDepth 20000 in
theorem ggX8_of_X8_in : GoodIn wsX8_of wsX8_in := goodIn_r _ [8] (by decide +kernel) (by decide +kernel)
set_option maxRecDepth 20000 in
theorem gX8_of_X8_in : GoodIn wsX8_of (va_wsS RX8 54 yX8_in wsX8_in) := goodIn_app (goodIn_of _ (by decide +kernel)) ggX8_of_X8_in
set_option maxRecDepth 20000 in
theorem ggX8_of_X8_isThing : GoodIn wsX8_of wsX8_isThing := goodIn_r _ [12, 1, 17, 18, 19, 20, 21, 22, 23, 24, 25, 26, 27, 28, 29, 30, 31, 32, 33, 34, 35] (by decide +kernel) (by decide +kernel)
set_option maxRecDepth 20000 in
theorem gX8_of_X8_isThing : GoodIn wsX8_of (wsV RX8 89 RX8 yX8_isThing wsX8_isThing) := goodIn_app (goodIn_of _ (by decide +kernel)) ggX8_of_X8_isThing
set_option maxRecDepth 20000 in
theorem ggX8_of_X8_placeOf : GoodIn wsX8_of wsX8_placeOf := goodIn_r _ [16, 1, 17, 18, 19, 20, 21, 22, 23, 24, 25, 26, 27, 28, 29, 30, 31, 32, 33, 34, 35] (by decide +kernel) (by decide +kernel)
set_option maxRecDepth 20000 in
theorem gX8_of_X8_placeOf : GoodIn wsX8_of (wsV RX8 113 RX8 yX8_placeOf wsX8_placeOf) := goodIn_app (goodIn_of _ (by decide +kernel)) ggX8_of_X8_placeOf
theorem dX8_of_0 : decode cX8_of 0 = .ok (.iload_n 1, 1) := by decide +kernel
theorem dX8_of_1 : decode cX8_of 1 = .ok (.iload_n 2, 1) := by decide +kernel
theorem dX8_of_2 : decode cX8_of 2 = .ok (.invokestatic 96, 3) := by decide +kernel
theorem dX8_of_5 : decode cX8_of 5 = .ok (.ifCond .eq 13, 3) := by decide +kernel
theorem dX8_of_8 : decode cX8_of 8 = .ok (.iload_n 3, 1) := by decide +kernel
theorem dX8_of_9 : decode cX8_of 9 = .ok (.iconst 0, 1) := by decide +kernel
theorem dX8_of_10 : decode cX8_of 10 = .ok (.bipush 6, 2) := by decide +kernel
theorem dX8_of_12 : decode cX8_of 12 = .ok (.invokestatic 54, 3) := by decide +kernel
theorem dX8_of_15 : decode cX8_of 15 = .ok (.ifCond .ne 5, 3) := by decide +kernel
theorem dX8_of_18 : decode cX8_of 18 = .ok (.iconst (-1), 1) := by decide +kernel
theorem dX8_of_19 : decode cX8_of 19 = .ok (.ireturn, 1) := by decide +kernel
theorem dX8_of_20 : decode cX8_of 20 = .ok (.bipush 100, 2) := by decide +kernel
theorem dX8_of_22 : decode cX8_of 22 = .ok (.iload_n 1, 1) := by decide +kernel
theorem dX8_of_23 : decode cX8_of 23 = .ok (.imul, 1) := by decide +kernel
theorem dX8_of_24 : decode cX8_of 24 = .ok (.iload_n 2, 1) := by decide +kernel
theorem dX8_of_25 : decode cX8_of 25 = .ok (.iadd, 1) := by decide +kernel
theorem dX8_of_26 : decode cX8_of 26 = .ok (.istore 4, 2) := by decide +kernel
theorem dX8_of_28 : decode cX8_of 28 = .ok (.aload_n 0, 1) := by decide +kernel
theorem dX8_of_29 : decode cX8_of 29 = .ok (.getfield 11, 3) := by decide +kernel
theorem dX8_of_32 : decode cX8_of 32 = .ok (.iconst 0, 1) := by decide +kernel
theorem dX8_of_33 : decode cX8_of 33 = .ok (.iload 4, 2) := by decide +kernel
theorem dX8_of_35 : decode cX8_of 35 = .ok (.iadd, 1) := by decide +kernel
theorem dX8_of_36 : decode cX8_of 36 = .ok (.iaload, 1) := by decide +kernel
theorem dX8_of_37 : decode cX8_of 37 = .ok (.istore 5, 2) := by decide +kernel
theorem dX8_of_39 : decode cX8_of 39 = .ok (.iload_n 3, 1) := by decide +kernel
theorem dX8_of_40 : decode cX8_of 40 = .ok (.tableswitch 169 0 5 #[40, 43, 65, 91, 117, 143], 40) := by decide +kernel
theorem dX8_of_80 : decode cX8_of 80 = .ok (.iload 5, 2) := by decide +kernel
theorem dX8_of_82 : decode cX8_of 82 = .ok (.ireturn, 1) := by decide +kernel
theorem dX8_of_83 : decode cX8_of 83 = .ok (.iload 5, 2) := by decide +kernel
theorem dX8_of_85 : decode cX8_of 85 = .ok (.ifCond .ne 8, 3) := by decide +kernel
theorem dX8_of_88 : decode cX8_of 88 = .ok (.bipush (-5), 2) := by decide +kernel
theorem dX8_of_90 : decode cX8_of 90 = .ok (.goto 14, 3) := by decide +kernel
theorem dX8_of_93 : decode cX8_of 93 = .ok (.aload_n 0, 1) := by decide +kernel
theorem dX8_of_94 : decode cX8_of 94 = .ok (.getfield 11, 3) := by decide +kernel
theorem dX8_of_97 : decode cX8_of 97 = .ok (.sipush 800, 3) := by decide +kernel
theorem dX8_of_100 : decode cX8_of 100 = .ok (.iload 4, 2) := by decide +kernel
theorem dX8_of_102 : decode cX8_of 102 = .ok (.iadd, 1) := by decide +kernel
theorem dX8_of_103 : decode cX8_of 103 = .ok (.iaload, 1) := by decide +kernel
theorem dX8_of_104 : decode cX8_of 104 = .ok (.ireturn, 1) := by decide +kernel
theorem dX8_of_105 : decode cX8_of 105 = .ok (.aload_n 0, 1) := by decide +kernel
theorem dX8_of_106 : decode cX8_of 106 = .ok (.iload 4, 2) := by decide +kernel
theorem dX8_of_108 : decode cX8_of 108 = .ok (.invokevirtual 89, 3) := by decide +kernel
theorem dX8_of_111 : decode cX8_of 111 = .ok (.ifCond .eq 17, 3) := by decide +kernel
theorem dX8_of_114 : decode cX8_of 114 = .ok (.aload_n 0, 1) := by decide +kernel
theorem dX8_of_115 : decode cX8_of 115 = .ok (.getfield 11, 3) := by decide +kernel
theorem dX8_of_118 : decode cX8_of 118 = .ok (.sipush 1200, 3) := by decide +kernel
theorem dX8_of_121 : decode cX8_of 121 = .ok (.iload 4, 2) := by decide +kernel
theorem dX8_of_123 : decode cX8_of 123 = .ok (.iadd, 1) := by decide +kernel
theorem dX8_of_124 : decode cX8_of 124 = .ok (.iaload, 1) := by decide +kernel
theorem dX8_of_125 : decode cX8_of 125 = .ok (.goto 5, 3) := by decide +kernel
theorem dX8_of_128 : decode cX8_of 128 = .ok (.bipush (-5), 2) := by decide +kernel
theorem dX8_of_130 : decode cX8_of 130 = .ok (.ireturn, 1) := by decide +kernel
theorem dX8_of_131 : decode cX8_of 131 = .ok (.aload_n 0, 1) := by decide +kernel
theorem dX8_of_132 : decode cX8_of 132 = .ok (.iload 4, 2) := by decide +kernel
theorem dX8_of_134 : decode cX8_of 134 = .ok (.invokevirtual 89, 3) := by decide +kernel
theorem dX8_of_137 : decode cX8_of 137 = .ok (.ifCond .eq 17, 3) := by decide +kernel
theorem dX8_of_140 : decode cX8_of 140 = .ok (.aload_n 0, 1) := by decide +kernel
theorem dX8_of_141 : decode cX8_of 141 = .ok (.getfield 11, 3) := by decide +kernel
theorem dX8_of_144 : decode cX8_of 144 = .ok (.sipush 1600, 3) := by decide +kernel
theorem dX8_of_147 : decode cX8_of 147 = .ok (.iload 4, 2) := by decide +kernel
theorem dX8_of_149 : decode cX8_of 149 = .ok (.iadd, 1) := by decide +kernel
theorem dX8_of_150 : decode cX8_of 150 = .ok (.iaload, 1) := by decide +kernel
theorem dX8_of_151 : decode cX8_of 151 = .ok (.goto 5, 3) := by decide +kernel
theorem dX8_of_154 : decode cX8_of 154 = .ok (.bipush (-5), 2) := by decide +kernel
theorem dX8_of_156 : decode cX8_of 156 = .ok (.ireturn, 1) := by decide +kernel
theorem dX8_of_157 : decode cX8_of 157 = .ok (.aload_n 0, 1) := by decide +kernel
theorem dX8_of_158 : decode cX8_of 158 = .ok (.iload 4, 2) := by decide +kernel
theorem dX8_of_160 : decode cX8_of 160 = .ok (.invokevirtual 89, 3) := by decide +kernel
theorem dX8_of_163 : decode cX8_of 163 = .ok (.ifCond .eq 17, 3) := by decide +kernel
theorem dX8_of_166 : decode cX8_of 166 = .ok (.aload_n 0, 1) := by decide +kernel
theorem dX8_of_167 : decode cX8_of 167 = .ok (.getfield 11, 3) := by decide +kernel
theorem dX8_of_170 : decode cX8_of 170 = .ok (.sipush 2000, 3) := by decide +kernel
theorem dX8_of_173 : decode cX8_of 173 = .ok (.iload 4, 2) := by decide +kernel
theorem dX8_of_175 : decode cX8_of 175 = .ok (.iadd, 1) := by decide +kernel
theorem dX8_of_176 : decode cX8_of 176 = .ok (.iaload, 1) := by decide +kernel
theorem dX8_of_177 : decode cX8_of 177 = .ok (.goto 5, 3) := by decide +kernel
theorem dX8_of_180 : decode cX8_of 180 = .ok (.bipush (-5), 2) := by decide +kernel
theorem dX8_of_182 : decode cX8_of 182 = .ok (.ireturn, 1) := by decide +kernel
theorem dX8_of_183 : decode cX8_of 183 = .ok (.aload_n 0, 1) := by decide +kernel
theorem dX8_of_184 : decode cX8_of 184 = .ok (.iload 4, 2) := by decide +kernel
theorem dX8_of_186 : decode cX8_of 186 = .ok (.invokevirtual 89, 3) := by decide +kernel
theorem dX8_of_189 : decode cX8_of 189 = .ok (.ifCond .eq 17, 3) := by decide +kernel
theorem dX8_of_192 : decode cX8_of 192 = .ok (.aload_n 0, 1) := by decide +kernel
theorem dX8_of_193 : decode cX8_of 193 = .ok (.getfield 11, 3) := by decide +kernel
theorem dX8_of_196 : decode cX8_of 196 = .ok (.sipush 2400, 3) := by decide +kernel
theorem dX8_of_199 : decode cX8_of 199 = .ok (.iload 4, 2) := by decide +kernel
theorem dX8_of_201 : decode cX8_of 201 = .ok (.iadd, 1) := by decide +kernel
theorem dX8_of_202 : decode cX8_of 202 = .ok (.iaload, 1) := by decide +kernel
theorem dX8_of_203 : decode cX8_of 203 = .ok (.goto 5, 3) := by decide +kernel
theorem dX8_of_206 : decode cX8_of 206 = .ok (.bipush (-5), 2) := by decide +kernel
theorem dX8_of_208 : decode cX8_of 208 = .ok (.ireturn, 1) := by decide +kernel
theorem dX8_of_209 : decode cX8_of 209 = .ok (.iload 5, 2) := by decide +kernel
theorem dX8_of_211 : decode cX8_of 211 = .ok (.ifCond .ne 8, 3) := by decide +kernel
theorem dX8_of_214 : decode cX8_of 214 = .ok (.bipush (-5), 2) := by decide +kernel
theorem dX8_of_216 : decode cX8_of 216 = .ok (.goto 9, 3) := by decide +kernel
theorem dX8_of_219 : decode cX8_of 219 = .ok (.aload_n 0, 1) := by decide +kernel
theorem dX8_of_220 : decode cX8_of 220 = .ok (.iload 4, 2) := by decide +kernel
theorem dX8_of_222 : decode cX8_of 222 = .ok (.invokevirtual 113, 3) := by decide +kernel
theorem dX8_of_225 : decode cX8_of 225 = .ok (.ireturn, 1) := by decide +kernel
set_option maxRecDepth 20000 in
theorem ggX8_keyAt_X8_placeOf : GoodIn wsX8_keyAt wsX8_placeOf := goodIn_r _ [6, 1, 7, 8, 9, 10, 11, 12, 13, 14, 15, 16, 17, 18, 19, 20, 21, 22, 23, 24, 25] (by decide +kernel) (by decide +kernel)
set_option maxRecDepth 20000 in
theorem gX8_keyAt_X8_placeOf : GoodIn wsX8_keyAt (wsV RX8 113 RX8 yX8_placeOf wsX8_placeOf) := goodIn_app (goodIn_of _ (by decide +kernel)) ggX8_keyAt_X8_placeOf
theorem dX8_keyAt_0 : decode cX8_keyAt 0 = .ok (.iconst 0, 1) := by decide +kernel
theorem dX8_keyAt_1 : decode cX8_keyAt 1 = .ok (.istore_n 3, 1) := by decide +kernel
theorem dX8_keyAt_2 : decode cX8_keyAt 2 = .ok (.iload_n 3, 1) := by decide +kernel
theorem dX8_keyAt_3 : decode cX8_keyAt 3 = .ok (.sipush 400, 3) := by decide +kernel
theorem dX8_keyAt_6 : decode cX8_keyAt 6 = .ok (.if_icmp .ge 32, 3) := by decide +kernel
theorem dX8_keyAt_9 : decode cX8_keyAt 9 = .ok (.aload_n 0, 1) := by decide +kernel
theorem dX8_keyAt_10 : decode cX8_keyAt 10 = .ok (.getfield 11, 3) := by decide +kernel
theorem dX8_keyAt_13 : decode cX8_keyAt 13 = .ok (.iconst 0, 1) := by decide +kernel
theorem dX8_keyAt_14 : decode cX8_keyAt 14 = .ok (.iload_n 3, 1) := by decide +kernel
theorem dX8_keyAt_15 : decode cX8_keyAt 15 = .ok (.iadd, 1) := by decide +kernel
theorem dX8_keyAt_16 : decode cX8_keyAt 16 = .ok (.iaload, 1) := by decide +kernel
theorem dX8_keyAt_17 : decode cX8_keyAt 17 = .ok (.iload_n 1, 1) := by decide +kernel
theorem dX8_keyAt_18 : decode cX8_keyAt 18 = .ok (.if_icmp .ne 14, 3) := by decide +kernel
theorem dX8_keyAt_21 : decode cX8_keyAt 21 = .ok (.aload_n 0, 1) := by decide +kernel
theorem dX8_keyAt_22 : decode cX8_keyAt 22 = .ok (.iload_n 3, 1) := by decide +kernel
theorem dX8_keyAt_23 : decode cX8_keyAt 23 = .ok (.invokevirtual 113, 3) := by decide +kernel
theorem dX8_keyAt_26 : decode cX8_keyAt 26 = .ok (.iload_n 2, 1) := by decide +kernel
theorem dX8_keyAt_27 : decode cX8_keyAt 27 = .ok (.if_icmp .ne 5, 3) := by decide +kernel
theorem dX8_keyAt_30 : decode cX8_keyAt 30 = .ok (.iload_n 3, 1) := by decide +kernel
theorem dX8_keyAt_31 : decode cX8_keyAt 31 = .ok (.ireturn, 1) := by decide +kernel
theorem dX8_keyAt_32 : decode cX8_keyAt 32 = .ok (.iinc 3 1, 3) := by decide +kernel
theorem dX8_keyAt_35 : decode cX8_keyAt 35 = .ok (.goto (-33), 3) := by decide +kernel
theorem dX8_keyAt_38 : decode cX8_keyAt 38 = .ok (.bipush (-5), 2) := by decide +kernel
theorem dX8_keyAt_40 : decode cX8_keyAt 40 = .ok (.ireturn, 1) := by decide +kernel
set_option maxRecDepth 20000 in
theorem ggX8_key_X8_in : GoodIn wsX8_key wsX8_in := goodIn_r _ [4] (by decide +kernel) (by decide +kernel)
set_option maxRecDepth 20000 in
theorem gX8_key_X8_in : GoodIn wsX8_key (va_wsS RX8 54 yX8_in wsX8_in) := goodIn_app (goodIn_of _ (by decide +kernel)) ggX8_key_X8_in
set_option maxRecDepth 20000 in
theorem ggX8_key_X8_keyAt : GoodIn wsX8_key wsX8_keyAt := goodIn_r _ [8, 9, 10, 11, 12, 3, 13, 14, 15, 16, 17, 18, 19, 20, 21, 22, 23, 24, 25, 26, 27, 28, 29, 30, 31, 32] (by decide +kernel) (by decide +kernel)
set_option maxRecDepth 20000 in
theorem gX8_key_X8_keyAt : GoodIn wsX8_key (wsV RX8 116 RX8 yX8_keyAt wsX8_keyAt) := goodIn_app (goodIn_of _ (by decide +kernel)) ggX8_key_X8_keyAt
theorem dX8_key_0 : decode cX8_key 0 = .ok (.iload_n 1, 1) := by decide +kernel
theorem dX8_key_1 : decode cX8_key 1 = .ok (.iconst 1, 1) := by decide +kernel
theorem dX8_key_2 : decode cX8_key 2 = .ok (.iconst 4, 1) := by decide +kernel
theorem dX8_key_3 : decode cX8_key 3 = .ok (.invokestatic 54, 3) := by decide +kernel
theorem dX8_key_6 : decode cX8_key 6 = .ok (.ifCond .eq 16, 3) := by decide +kernel
theorem dX8_key_9 : decode cX8_key 9 = .ok (.iload_n 2, 1) := by decide +kernel
theorem dX8_key_10 : decode cX8_key 10 = .ok (.ifCond .lt 12, 3) := by decide +kernel
theorem dX8_key_13 : decode cX8_key 13 = .ok (.aload_n 0, 1) := by decide +kernel
theorem dX8_key_14 : decode cX8_key 14 = .ok (.iload_n 1, 1) := by decide +kernel
theorem dX8_key_15 : decode cX8_key 15 = .ok (.iload_n 2, 1) := by decide +kernel
theorem dX8_key_16 : decode cX8_key 16 = .ok (.invokevirtual 116, 3) := by decide +kernel
theorem dX8_key_19 : decode cX8_key 19 = .ok (.goto 4, 3) := by decide +kernel
theorem dX8_key_22 : decode cX8_key 22 = .ok (.iconst (-1), 1) := by decide +kernel
theorem dX8_key_23 : decode cX8_key 23 = .ok (.ireturn, 1) := by decide +kernel
theorem dX8_gone_0 : decode cX8_gone 0 = .ok (.iload_n 1, 1) := by decide +kernel
theorem dX8_gone_1 : decode cX8_gone 1 = .ok (.ifCond .ge 5, 3) := by decide +kernel
theorem dX8_gone_4 : decode cX8_gone 4 = .ok (.iconst (-1), 1) := by decide +kernel
theorem dX8_gone_5 : decode cX8_gone 5 = .ok (.ireturn, 1) := by decide +kernel
theorem dX8_gone_6 : decode cX8_gone 6 = .ok (.iload_n 1, 1) := by decide +kernel
theorem dX8_gone_7 : decode cX8_gone 7 = .ok (.bipush 20, 2) := by decide +kernel
theorem dX8_gone_9 : decode cX8_gone 9 = .ok (.if_icmp .ge 28, 3) := by decide +kernel
theorem dX8_gone_12 : decode cX8_gone 12 = .ok (.iload_n 1, 1) := by decide +kernel
theorem dX8_gone_13 : decode cX8_gone 13 = .ok (.aload_n 0, 1) := by decide +kernel
theorem dX8_gone_14 : decode cX8_gone 14 = .ok (.getfield 11, 3) := by decide +kernel
theorem dX8_gone_17 : decode cX8_gone 17 = .ok (.sipush 3214, 3) := by decide +kernel
theorem dX8_gone_20 : decode cX8_gone 20 = .ok (.iaload, 1) := by decide +kernel
theorem dX8_gone_21 : decode cX8_gone 21 = .ok (.if_icmp .ge 16, 3) := by decide +kernel
theorem dX8_gone_24 : decode cX8_gone 24 = .ok (.aload_n 0, 1) := by decide +kernel
theorem dX8_gone_25 : decode cX8_gone 25 = .ok (.getfield 11, 3) := by decide +kernel
theorem dX8_gone_28 : decode cX8_gone 28 = .ok (.sipush 3216, 3) := by decide +kernel
theorem dX8_gone_31 : decode cX8_gone 31 = .ok (.iload_n 1, 1) := by decide +kernel
theorem dX8_gone_32 : decode cX8_gone 32 = .ok (.iadd, 1) := by decide +kernel
theorem dX8_gone_33 : decode cX8_gone 33 = .ok (.iaload, 1) := by decide +kernel
theorem dX8_gone_34 : decode cX8_gone 34 = .ok (.goto 5, 3) := by decide +kernel
theorem dX8_gone_37 : decode cX8_gone 37 = .ok (.bipush (-5), 2) := by decide +kernel
theorem dX8_gone_39 : decode cX8_gone 39 = .ok (.ireturn, 1) := by decide +kernel
set_option maxRecDepth 20000 in
theorem ggX8_victim_X8_copy : GoodIn wsX8_victim wsX8_copy := goodIn_r _ [8] (by decide +kernel) (by decide +kernel)
set_option maxRecDepth 20000 in
theorem gX8_victim_X8_copy : GoodIn wsX8_victim (va_wsS RX8 120 yX8_copy wsX8_copy) := goodIn_app (goodIn_of _ (by decide +kernel)) ggX8_victim_X8_copy
set_option maxRecDepth 20000 in
theorem ggX8_victim_X8_trim : GoodIn wsX8_victim wsX8_trim := goodIn_r _ [12, 1, 13, 14, 15, 7, 16, 17, 18, 19, 20, 21, 22, 23, 24, 25, 26, 27, 28, 29, 30, 31, 32, 3, 4, 33, 34, 35, 36, 37, 38, 39, 40, 41, 42, 43, 44, 45, 46, 47, 48, 49, 50, 51] (by decide +kernel) (by decide +kernel)
set_option maxRecDepth 20000 in
theorem gX8_victim_X8_trim : GoodIn wsX8_victim (wsV RX8 86 RX8 yX8_trim wsX8_trim) := goodIn_app (goodIn_of _ (by decide +kernel)) ggX8_victim_X8_trim
theorem dX8_victim_0 : decode cX8_victim 0 = .ok (.iload_n 1, 1) := by decide +kernel
theorem dX8_victim_1 : decode cX8_victim 1 = .ok (.ifCond .ge 5, 3) := by decide +kernel
theorem dX8_victim_4 : decode cX8_victim 4 = .ok (.iconst (-1), 1) := by decide +kernel
theorem dX8_victim_5 : decode cX8_victim 5 = .ok (.ireturn, 1) := by decide +kernel
theorem dX8_victim_6 : decode cX8_victim 6 = .ok (.aload_n 0, 1) := by decide +kernel
theorem dX8_victim_7 : decode cX8_victim 7 = .ok (.getfield 11, 3) := by decide +kernel
theorem dX8_victim_10 : decode cX8_victim 10 = .ok (.aload_n 0, 1) := by decide +kernel
theorem dX8_victim_11 : decode cX8_victim 11 = .ok (.getfield 15, 3) := by decide +kernel
theorem dX8_victim_14 : decode cX8_victim 14 = .ok (.invokestatic 120, 3) := by decide +kernel
theorem dX8_victim_17 : decode cX8_victim 17 = .ok (.aload_n 0, 1) := by decide +kernel
theorem dX8_victim_18 : decode cX8_victim 18 = .ok (.iconst 0, 1) := by decide +kernel
theorem dX8_victim_19 : decode cX8_victim 19 = .ok (.putfield 62, 3) := by decide +kernel
theorem dX8_victim_22 : decode cX8_victim 22 = .ok (.aload_n 0, 1) := by decide +kernel
theorem dX8_victim_23 : decode cX8_victim 23 = .ok (.getfield 11, 3) := by decide +kernel
theorem dX8_victim_26 : decode cX8_victim 26 = .ok (.sipush 3201, 3) := by decide +kernel
theorem dX8_victim_29 : decode cX8_victim 29 = .ok (.iconst 0, 1) := by decide +kernel
theorem dX8_victim_30 : decode cX8_victim 30 = .ok (.iastore, 1) := by decide +kernel
theorem dX8_victim_31 : decode cX8_victim 31 = .ok (.aload_n 0, 1) := by decide +kernel
theorem dX8_victim_32 : decode cX8_victim 32 = .ok (.getfield 11, 3) := by decide +kernel
theorem dX8_victim_35 : decode cX8_victim 35 = .ok (.sipush 3200, 3) := by decide +kernel
theorem dX8_victim_38 : decode cX8_victim 38 = .ok (.iconst 0, 1) := by decide +kernel
theorem dX8_victim_39 : decode cX8_victim 39 = .ok (.iastore, 1) := by decide +kernel
theorem dX8_victim_40 : decode cX8_victim 40 = .ok (.aload_n 0, 1) := by decide +kernel
theorem dX8_victim_41 : decode cX8_victim 41 = .ok (.invokevirtual 86, 3) := by decide +kernel
theorem dX8_victim_44 : decode cX8_victim 44 = .ok (.iload_n 1, 1) := by decide +kernel
theorem dX8_victim_45 : decode cX8_victim 45 = .ok (.aload_n 0, 1) := by decide +kernel
theorem dX8_victim_46 : decode cX8_victim 46 = .ok (.getfield 62, 3) := by decide +kernel
theorem dX8_victim_49 : decode cX8_victim 49 = .ok (.if_icmp .ge 12, 3) := by decide +kernel
theorem dX8_victim_52 : decode cX8_victim 52 = .ok (.aload_n 0, 1) := by decide +kernel
theorem dX8_victim_53 : decode cX8_victim 53 = .ok (.getfield 21, 3) := by decide +kernel
theorem dX8_victim_56 : decode cX8_victim 56 = .ok (.iload_n 1, 1) := by decide +kernel
theorem dX8_victim_57 : decode cX8_victim 57 = .ok (.iaload, 1) := by decide +kernel
theorem dX8_victim_58 : decode cX8_victim 58 = .ok (.goto 5, 3) := by decide +kernel
theorem dX8_victim_61 : decode cX8_victim 61 = .ok (.bipush (-5), 2) := by decide +kernel
theorem dX8_victim_63 : decode cX8_victim 63 = .ok (.istore_n 2, 1) := by decide +kernel
theorem dX8_victim_64 : decode cX8_victim 64 = .ok (.aload_n 0, 1) := by decide +kernel
theorem dX8_victim_65 : decode cX8_victim 65 = .ok (.getfield 15, 3) := by decide +kernel
theorem dX8_victim_68 : decode cX8_victim 68 = .ok (.aload_n 0, 1) := by decide +kernel
theorem dX8_victim_69 : decode cX8_victim 69 = .ok (.getfield 11, 3) := by decide +kernel
theorem dX8_victim_72 : decode cX8_victim 72 = .ok (.invokestatic 120, 3) := by decide +kernel
theorem dX8_victim_75 : decode cX8_victim 75 = .ok (.iload_n 2, 1) := by decide +kernel
theorem dX8_victim_76 : decode cX8_victim 76 = .ok (.ireturn, 1) := by decide +kernel
set_option maxRecDepth 20000 in
theorem ggX8_feed_X8_in : GoodIn wsX8_feed wsX8_in := goodIn_r _ [6] (by decide +kernel) (by decide +kernel)
set_option maxRecDepth 20000 in
theorem gX8_feed_X8_in : GoodIn wsX8_feed (va_wsS RX8 54 yX8_in wsX8_in) := goodIn_app (goodIn_of _ (by decide +kernel)) ggX8_feed_X8_in
theorem dX8_feed_0 : decode cX8_feed 0 = .ok (.iload_n 1, 1) := by decide +kernel
theorem dX8_feed_1 : decode cX8_feed 1 = .ok (.iconst 0, 1) := by decide +kernel
theorem dX8_feed_2 : decode cX8_feed 2 = .ok (.bipush 127, 2) := by decide +kernel
theorem dX8_feed_4 : decode cX8_feed 4 = .ok (.invokestatic 54, 3) := by decide +kernel
theorem dX8_feed_7 : decode cX8_feed 7 = .ok (.ifCond .ne 6, 3) := by decide +kernel
theorem dX8_feed_10 : decode cX8_feed 10 = .ok (.bipush (-2), 2) := by decide +kernel
theorem dX8_feed_12 : decode cX8_feed 12 = .ok (.ireturn, 1) := by decide +kernel
theorem dX8_feed_13 : decode cX8_feed 13 = .ok (.aload_n 0, 1) := by decide +kernel
theorem dX8_feed_14 : decode cX8_feed 14 = .ok (.getfield 124, 3) := by decide +kernel
theorem dX8_feed_17 : decode cX8_feed 17 = .ok (.bipush 100, 2) := by decide +kernel
theorem dX8_feed_19 : decode cX8_feed 19 = .ok (.if_icmp .ne 6, 3) := by decide +kernel
theorem dX8_feed_22 : decode cX8_feed 22 = .ok (.bipush (-4), 2) := by decide +kernel
theorem dX8_feed_24 : decode cX8_feed 24 = .ok (.ireturn, 1) := by decide +kernel
theorem dX8_feed_25 : decode cX8_feed 25 = .ok (.aload_n 0, 1) := by decide +kernel
theorem dX8_feed_26 : decode cX8_feed 26 = .ok (.getfield 24, 3) := by decide +kernel
theorem dX8_feed_29 : decode cX8_feed 29 = .ok (.aload_n 0, 1) := by decide +kernel
theorem dX8_feed_30 : decode cX8_feed 30 = .ok (.dup, 1) := by decide +kernel
theorem dX8_feed_31 : decode cX8_feed 31 = .ok (.getfield 124, 3) := by decide +kernel
theorem dX8_feed_34 : decode cX8_feed 34 = .ok (.dup_x1, 1) := by decide +kernel
theorem dX8_feed_35 : decode cX8_feed 35 = .ok (.iconst 1, 1) := by decide +kernel
theorem dX8_feed_36 : decode cX8_feed 36 = .ok (.iadd, 1) := by decide +kernel
theorem dX8_feed_37 : decode cX8_feed 37 = .ok (.putfield 124, 3) := by decide +kernel
theorem dX8_feed_40 : decode cX8_feed 40 = .ok (.iload_n 1, 1) := by decide +kernel
theorem dX8_feed_41 : decode cX8_feed 41 = .ok (.iastore, 1) := by decide +kernel
theorem dX8_feed_42 : decode cX8_feed 42 = .ok (.aload_n 0, 1) := by decide +kernel
theorem dX8_feed_43 : decode cX8_feed 43 = .ok (.getfield 124, 3) := by decide +kernel
theorem dX8_feed_46 : decode cX8_feed 46 = .ok (.ireturn, 1) := by decide +kernel
set_option maxRecDepth 20000 in
theorem ggX8_sees_X8_in : GoodIn wsX8_sees wsX8_in := goodIn_r _ [8] (by decide +kernel) (by decide +kernel)
set_option maxRecDepth 20000 in
theorem gX8_sees_X8_in : GoodIn wsX8_sees (va_wsS RX8 54 yX8_in wsX8_in) := goodIn_app (goodIn_of _ (by decide +kernel)) ggX8_sees_X8_in
theorem dX8_sees_0 : decode cX8_sees 0 = .ok (.aload_n 0, 1) := by decide +kernel
theorem dX8_sees_1 : decode cX8_sees 1 = .ok (.getfield 127, 3) := by decide +kernel
theorem dX8_sees_4 : decode cX8_sees 4 = .ok (.ifCond .ge 35, 3) := by decide +kernel
theorem dX8_sees_7 : decode cX8_sees 7 = .ok (.aload_n 0, 1) := by decide +kernel
theorem dX8_sees_8 : decode cX8_sees 8 = .ok (.getfield 130, 3) := by decide +kernel
theorem dX8_sees_11 : decode cX8_sees 11 = .ok (.aload_n 0, 1) := by decide +kernel
theorem dX8_sees_12 : decode cX8_sees 12 = .ok (.getfield 124, 3) := by decide +kernel
theorem dX8_sees_15 : decode cX8_sees 15 = .ok (.if_icmp .ge 24, 3) := by decide +kernel
theorem dX8_sees_18 : decode cX8_sees 18 = .ok (.aload_n 0, 1) := by decide +kernel
theorem dX8_sees_19 : decode cX8_sees 19 = .ok (.getfield 24, 3) := by decide +kernel
theorem dX8_sees_22 : decode cX8_sees 22 = .ok (.aload_n 0, 1) := by decide +kernel
theorem dX8_sees_23 : decode cX8_sees 23 = .ok (.getfield 130, 3) := by decide +kernel
theorem dX8_sees_26 : decode cX8_sees 26 = .ok (.iaload, 1) := by decide +kernel
theorem dX8_sees_27 : decode cX8_sees 27 = .ok (.iload_n 1, 1) := by decide +kernel
theorem dX8_sees_28 : decode cX8_sees 28 = .ok (.iload_n 2, 1) := by decide +kernel
theorem dX8_sees_29 : decode cX8_sees 29 = .ok (.invokestatic 54, 3) := by decide +kernel
theorem dX8_sees_32 : decode cX8_sees 32 = .ok (.ifCond .eq 7, 3) := by decide +kernel
theorem dX8_sees_35 : decode cX8_sees 35 = .ok (.iconst 1, 1) := by decide +kernel
theorem dX8_sees_36 : decode cX8_sees 36 = .ok (.goto 4, 3) := by decide +kernel
theorem dX8_sees_39 : decode cX8_sees 39 = .ok (.iconst 0, 1) := by decide +kernel
theorem dX8_sees_40 : decode cX8_sees 40 = .ok (.ireturn, 1) := by decide +kernel
set_option maxRecDepth 20000 in
theorem ggX8_must_X8_sees : GoodIn wsX8_must wsX8_sees := goodIn_r _ [8, 1, 2, 9, 3, 10, 11, 7, 12, 13, 14, 15, 16, 17, 18, 19, 20, 21, 22, 23, 24, 25, 26, 27, 28, 29, 30, 31] (by decide +kernel) (by decide +kernel)
set_option maxRecDepth 20000 in
theorem gX8_must_X8_sees : GoodIn wsX8_must (wsV RX8 133 RX8 yX8_sees wsX8_sees) := goodIn_app (goodIn_of _ (by decide +kernel)) ggX8_must_X8_sees
theorem dX8_must_0 : decode cX8_must 0 = .ok (.aload_n 0, 1) := by decide +kernel
theorem dX8_must_1 : decode cX8_must 1 = .ok (.iload_n 1, 1) := by decide +kernel
theorem dX8_must_2 : decode cX8_must 2 = .ok (.iload_n 2, 1) := by decide +kernel
theorem dX8_must_3 : decode cX8_must 3 = .ok (.invokevirtual 133, 3) := by decide +kernel
theorem dX8_must_6 : decode cX8_must 6 = .ok (.ifCond .ne 27, 3) := by decide +kernel
theorem dX8_must_9 : decode cX8_must 9 = .ok (.aload_n 0, 1) := by decide +kernel
theorem dX8_must_10 : decode cX8_must 10 = .ok (.aload_n 0, 1) := by decide +kernel
theorem dX8_must_11 : decode cX8_must 11 = .ok (.getfield 127, 3) := by decide +kernel
theorem dX8_must_14 : decode cX8_must 14 = .ok (.ifCond .ge 10, 3) := by decide +kernel
theorem dX8_must_17 : decode cX8_must 17 = .ok (.aload_n 0, 1) := by decide +kernel
theorem dX8_must_18 : decode cX8_must 18 = .ok (.getfield 130, 3) := by decide +kernel
theorem dX8_must_21 : decode cX8_must 21 = .ok (.goto 7, 3) := by decide +kernel
theorem dX8_must_24 : decode cX8_must 24 = .ok (.aload_n 0, 1) := by decide +kernel
theorem dX8_must_25 : decode cX8_must 25 = .ok (.getfield 127, 3) := by decide +kernel
theorem dX8_must_28 : decode cX8_must 28 = .ok (.putfield 127, 3) := by decide +kernel
theorem dX8_must_31 : decode cX8_must 31 = .ok (.iload_n 1, 1) := by decide +kernel
theorem dX8_must_32 : decode cX8_must 32 = .ok (.ireturn, 1) := by decide +kernel
theorem dX8_must_33 : decode cX8_must 33 = .ok (.aload_n 0, 1) := by decide +kernel
theorem dX8_must_34 : decode cX8_must 34 = .ok (.getfield 24, 3) := by decide +kernel
theorem dX8_must_37 : decode cX8_must 37 = .ok (.aload_n 0, 1) := by decide +kernel
theorem dX8_must_38 : decode cX8_must 38 = .ok (.dup, 1) := by decide +kernel
theorem dX8_must_39 : decode cX8_must 39 = .ok (.getfield 130, 3) := by decide +kernel
theorem dX8_must_42 : decode cX8_must 42 = .ok (.dup_x1, 1) := by decide +kernel
theorem dX8_must_43 : decode cX8_must 43 = .ok (.iconst 1, 1) := by decide +kernel
theorem dX8_must_44 : decode cX8_must 44 = .ok (.iadd, 1) := by decide +kernel
theorem dX8_must_45 : decode cX8_must 45 = .ok (.putfield 130, 3) := by decide +kernel
theorem dX8_must_48 : decode cX8_must 48 = .ok (.iaload, 1) := by decide +kernel
theorem dX8_must_49 : decode cX8_must 49 = .ok (.ireturn, 1) := by decide +kernel
set_option maxRecDepth 20000 in
theorem ggX8_clause_X8_sees : GoodIn wsX8_clause wsX8_sees := goodIn_r _ [10, 11, 2, 12, 1, 13, 14, 9, 15, 20, 21, 22, 23, 24, 25, 26, 27, 28, 29, 30, 31, 32, 33, 34, 35, 36, 37, 38] (by decide +kernel) (by decide +kernel)
set_option maxRecDepth 20000 in
theorem gX8_clause_X8_sees : GoodIn wsX8_clause (wsV RX8 133 RX8 yX8_sees wsX8_sees) := goodIn_app (goodIn_of _ (by decide +kernel)) ggX8_clause_X8_sees
set_option maxRecDepth 20000 in
theorem ggX8_clause_X8_must : GoodIn wsX8_clause wsX8_must := goodIn_r _ [19, 11, 2, 1, 6, 7, 8, 9, 10, 12, 13, 14, 15, 20, 21, 22, 23, 24, 25, 26, 27, 28, 29, 30, 31, 32, 33, 34, 35, 36, 37, 38] (by decide +kernel) (by decide +kernel)
set_option maxRecDepth 20000 in
theorem gX8_clause_X8_must : GoodIn wsX8_clause (wsV RX8 136 RX8 yX8_must wsX8_must) := goodIn_app (goodIn_of _ (by decide +kernel)) ggX8_clause_X8_must
theorem dX8_clause_0 : decode cX8_clause 0 = .ok (.aload_n 0, 1) := by decide +kernel
theorem dX8_clause_1 : decode cX8_clause 1 = .ok (.bipush 112, 2) := by decide +kernel
theorem dX8_clause_3 : decode cX8_clause 3 = .ok (.bipush 112, 2) := by decide +kernel
theorem dX8_clause_5 : decode cX8_clause 5 = .ok (.invokevirtual 133, 3) := by decide +kernel
theorem dX8_clause_8 : decode cX8_clause 8 = .ok (.ifCond .ne 14, 3) := by decide +kernel
theorem dX8_clause_11 : decode cX8_clause 11 = .ok (.aload_n 0, 1) := by decide +kernel
theorem dX8_clause_12 : decode cX8_clause 12 = .ok (.bipush 120, 2) := by decide +kernel
theorem dX8_clause_14 : decode cX8_clause 14 = .ok (.bipush 120, 2) := by decide +kernel
theorem dX8_clause_16 : decode cX8_clause 16 = .ok (.invokevirtual 133, 3) := by decide +kernel
theorem dX8_clause_19 : decode cX8_clause 19 = .ok (.ifCond .eq 22, 3) := by decide +kernel
theorem dX8_clause_22 : decode cX8_clause 22 = .ok (.aload_n 0, 1) := by decide +kernel
theorem dX8_clause_23 : decode cX8_clause 23 = .ok (.getfield 24, 3) := by decide +kernel
theorem dX8_clause_26 : decode cX8_clause 26 = .ok (.aload_n 0, 1) := by decide +kernel
theorem dX8_clause_27 : decode cX8_clause 27 = .ok (.dup, 1) := by decide +kernel
theorem dX8_clause_28 : decode cX8_clause 28 = .ok (.getfield 130, 3) := by decide +kernel
theorem dX8_clause_31 : decode cX8_clause 31 = .ok (.dup_x1, 1) := by decide +kernel
theorem dX8_clause_32 : decode cX8_clause 32 = .ok (.iconst 1, 1) := by decide +kernel
theorem dX8_clause_33 : decode cX8_clause 33 = .ok (.iadd, 1) := by decide +kernel
theorem dX8_clause_34 : decode cX8_clause 34 = .ok (.putfield 130, 3) := by decide +kernel
theorem dX8_clause_37 : decode cX8_clause 37 = .ok (.iaload, 1) := by decide +kernel
theorem dX8_clause_38 : decode cX8_clause 38 = .ok (.goto 11, 3) := by decide +kernel
theorem dX8_clause_41 : decode cX8_clause 41 = .ok (.aload_n 0, 1) := by decide +kernel
theorem dX8_clause_42 : decode cX8_clause 42 = .ok (.bipush 103, 2) := by decide +kernel
theorem dX8_clause_44 : decode cX8_clause 44 = .ok (.bipush 103, 2) := by decide +kernel
theorem dX8_clause_46 : decode cX8_clause 46 = .ok (.invokevirtual 136, 3) := by decide +kernel
theorem dX8_clause_49 : decode cX8_clause 49 = .ok (.istore_n 2, 1) := by decide +kernel
theorem dX8_clause_50 : decode cX8_clause 50 = .ok (.aload_n 0, 1) := by decide +kernel
theorem dX8_clause_51 : decode cX8_clause 51 = .ok (.bipush 97, 2) := by decide +kernel
theorem dX8_clause_53 : decode cX8_clause 53 = .ok (.bipush 100, 2) := by decide +kernel
theorem dX8_clause_55 : decode cX8_clause 55 = .ok (.invokevirtual 136, 3) := by decide +kernel
theorem dX8_clause_58 : decode cX8_clause 58 = .ok (.bipush 97, 2) := by decide +kernel
theorem dX8_clause_60 : decode cX8_clause 60 = .ok (.isub, 1) := by decide +kernel
theorem dX8_clause_61 : decode cX8_clause 61 = .ok (.istore_n 3, 1) := by decide +kernel
theorem dX8_clause_62 : decode cX8_clause 62 = .ok (.aload_n 0, 1) := by decide +kernel
theorem dX8_clause_63 : decode cX8_clause 63 = .ok (.bipush 48, 2) := by decide +kernel
theorem dX8_clause_65 : decode cX8_clause 65 = .ok (.bipush 57, 2) := by decide +kernel
theorem dX8_clause_67 : decode cX8_clause 67 = .ok (.invokevirtual 136, 3) := by decide +kernel
theorem dX8_clause_70 : decode cX8_clause 70 = .ok (.bipush 48, 2) := by decide +kernel
theorem dX8_clause_72 : decode cX8_clause 72 = .ok (.isub, 1) := by decide +kernel
theorem dX8_clause_73 : decode cX8_clause 73 = .ok (.istore 4, 2) := by decide +kernel
theorem dX8_clause_75 : decode cX8_clause 75 = .ok (.aload_n 0, 1) := by decide +kernel
theorem dX8_clause_76 : decode cX8_clause 76 = .ok (.bipush 48, 2) := by decide +kernel
theorem dX8_clause_78 : decode cX8_clause 78 = .ok (.bipush 57, 2) := by decide +kernel
theorem dX8_clause_80 : decode cX8_clause 80 = .ok (.invokevirtual 133, 3) := by decide +kernel
theorem dX8_clause_83 : decode cX8_clause 83 = .ok (.ifCond .eq 23, 3) := by decide +kernel
theorem dX8_clause_86 : decode cX8_clause 86 = .ok (.bipush 10, 2) := by decide +kernel
theorem dX8_clause_88 : decode cX8_clause 88 = .ok (.iload 4, 2) := by decide +kernel
theorem dX8_clause_90 : decode cX8_clause 90 = .ok (.imul, 1) := by decide +kernel
theorem dX8_clause_91 : decode cX8_clause 91 = .ok (.aload_n 0, 1) := by decide +kernel
theorem dX8_clause_92 : decode cX8_clause 92 = .ok (.bipush 48, 2) := by decide +kernel
theorem dX8_clause_94 : decode cX8_clause 94 = .ok (.bipush 57, 2) := by decide +kernel
theorem dX8_clause_96 : decode cX8_clause 96 = .ok (.invokevirtual 136, 3) := by decide +kernel
theorem dX8_clause_99 : decode cX8_clause 99 = .ok (.iadd, 1) := by decide +kernel
theorem dX8_clause_100 : decode cX8_clause 100 = .ok (.bipush 48, 2) := by decide +kernel
theorem dX8_clause_102 : decode cX8_clause 102 = .ok (.isub, 1) := by decide +kernel
theorem dX8_clause_103 : decode cX8_clause 103 = .ok (.goto 5, 3) := by decide +kernel
theorem dX8_clause_106 : decode cX8_clause 106 = .ok (.iload 4, 2) := by decide +kernel
theorem dX8_clause_108 : decode cX8_clause 108 = .ok (.istore 4, 2) := by decide +kernel
theorem dX8_clause_110 : decode cX8_clause 110 = .ok (.iload_n 2, 1) := by decide +kernel
theorem dX8_clause_111 : decode cX8_clause 111 = .ok (.bipush 112, 2) := by decide +kernel
theorem dX8_clause_113 : decode cX8_clause 113 = .ok (.if_icmp .ne 29, 3) := by decide +kernel
theorem dX8_clause_116 : decode cX8_clause 116 = .ok (.aload_n 0, 1) := by decide +kernel
theorem dX8_clause_117 : decode cX8_clause 117 = .ok (.bipush 61, 2) := by decide +kernel
theorem dX8_clause_119 : decode cX8_clause 119 = .ok (.bipush 61, 2) := by decide +kernel
theorem dX8_clause_121 : decode cX8_clause 121 = .ok (.invokevirtual 136, 3) := by decide +kernel
theorem dX8_clause_124 : decode cX8_clause 124 = .ok (.pop, 1) := by decide +kernel
theorem dX8_clause_125 : decode cX8_clause 125 = .ok (.aload_n 0, 1) := by decide +kernel
theorem dX8_clause_126 : decode cX8_clause 126 = .ok (.getfield 33, 3) := by decide +kernel
theorem dX8_clause_129 : decode cX8_clause 129 = .ok (.iload_n 1, 1) := by decide +kernel
theorem dX8_clause_130 : decode cX8_clause 130 = .ok (.aload_n 0, 1) := by decide +kernel
theorem dX8_clause_131 : decode cX8_clause 131 = .ok (.bipush 49, 2) := by decide +kernel
theorem dX8_clause_133 : decode cX8_clause 133 = .ok (.bipush 57, 2) := by decide +kernel
theorem dX8_clause_135 : decode cX8_clause 135 = .ok (.invokevirtual 136, 3) := by decide +kernel
theorem dX8_clause_138 : decode cX8_clause 138 = .ok (.bipush 48, 2) := by decide +kernel
theorem dX8_clause_140 : decode cX8_clause 140 = .ok (.isub, 1) := by decide +kernel
theorem dX8_clause_141 : decode cX8_clause 141 = .ok (.iastore, 1) := by decide +kernel
theorem dX8_clause_142 : decode cX8_clause 142 = .ok (.aload_n 0, 1) := by decide +kernel
theorem dX8_clause_143 : decode cX8_clause 143 = .ok (.getfield 27, 3) := by decide +kernel
theorem dX8_clause_146 : decode cX8_clause 146 = .ok (.iload_n 1, 1) := by decide +kernel
theorem dX8_clause_147 : decode cX8_clause 147 = .ok (.iload_n 2, 1) := by decide +kernel
theorem dX8_clause_148 : decode cX8_clause 148 = .ok (.iastore, 1) := by decide +kernel
theorem dX8_clause_149 : decode cX8_clause 149 = .ok (.aload_n 0, 1) := by decide +kernel
theorem dX8_clause_150 : decode cX8_clause 150 = .ok (.getfield 30, 3) := by decide +kernel
theorem dX8_clause_153 : decode cX8_clause 153 = .ok (.iload_n 1, 1) := by decide +kernel
theorem dX8_clause_154 : decode cX8_clause 154 = .ok (.bipush 100, 2) := by decide +kernel
theorem dX8_clause_156 : decode cX8_clause 156 = .ok (.iload_n 3, 1) := by decide +kernel
theorem dX8_clause_157 : decode cX8_clause 157 = .ok (.imul, 1) := by decide +kernel
theorem dX8_clause_158 : decode cX8_clause 158 = .ok (.iload 4, 2) := by decide +kernel
theorem dX8_clause_160 : decode cX8_clause 160 = .ok (.iadd, 1) := by decide +kernel
theorem dX8_clause_161 : decode cX8_clause 161 = .ok (.iastore, 1) := by decide +kernel
theorem dX8_clause_162 : decode cX8_clause 162 = .ok (.return_, 1) := by decide +kernel
set_option maxRecDepth 20000 in
theorem ggX8_trace_X8_clause : GoodIn wsX8_trace wsX8_clause := goodIn_r _ [10, 11, 2, 12, 13, 14, 15, 16, 17, 9, 18, 3, 4, 19, 20, 21, 22, 23, 24, 25, 26, 27, 28, 29, 30, 31, 32, 33, 34, 35, 36, 37, 38, 39, 40, 41, 42, 43, 44] (by decide +kernel) (by decide +kernel)
set_option maxRecDepth 20000 in
theorem gX8_trace_X8_clause : GoodIn wsX8_trace (wsV RX8 142 RX8 yX8_clause wsX8_clause) := goodIn_app (goodIn_of _ (by decide +kernel)) ggX8_trace_X8_clause
set_option maxRecDepth 20000 in
theorem ggX8_trace_X8_must : GoodIn wsX8_trace wsX8_must := goodIn_r _ [25, 3, 2, 11, 15, 16, 17, 9, 18, 4, 19, 20, 21, 26, 27, 28, 29, 30, 31, 32, 33, 34, 35, 36, 37, 38, 39, 40, 41, 42, 43, 44] (by decide +kernel) (by decide +kernel)
set_option maxRecDepth 20000 in
theorem gX8_trace_X8_must : GoodIn wsX8_trace (wsV RX8 136 RX8 yX8_must wsX8_must) := goodIn_app (goodIn_of _ (by decide +kernel)) ggX8_trace_X8_must
theorem dX8_trace_0 : decode cX8_trace 0 = .ok (.aload_n 0, 1) := by decide +kernel
theorem dX8_trace_1 : decode cX8_trace 1 = .ok (.getfield 139, 3) := by decide +kernel
theorem dX8_trace_4 : decode cX8_trace 4 = .ok (.bipush 6, 2) := by decide +kernel
theorem dX8_trace_6 : decode cX8_trace 6 = .ok (.if_icmp .ne 6, 3) := by decide +kernel
theorem dX8_trace_9 : decode cX8_trace 9 = .ok (.bipush (-4), 2) := by decide +kernel
theorem dX8_trace_11 : decode cX8_trace 11 = .ok (.ireturn, 1) := by decide +kernel
theorem dX8_trace_12 : decode cX8_trace 12 = .ok (.aload_n 0, 1) := by decide +kernel
theorem dX8_trace_13 : decode cX8_trace 13 = .ok (.iconst 0, 1) := by decide +kernel
theorem dX8_trace_14 : decode cX8_trace 14 = .ok (.putfield 130, 3) := by decide +kernel
theorem dX8_trace_17 : decode cX8_trace 17 = .ok (.aload_n 0, 1) := by decide +kernel
theorem dX8_trace_18 : decode cX8_trace 18 = .ok (.iconst (-1), 1) := by decide +kernel
theorem dX8_trace_19 : decode cX8_trace 19 = .ok (.putfield 127, 3) := by decide +kernel
theorem dX8_trace_22 : decode cX8_trace 22 = .ok (.iconst 0, 1) := by decide +kernel
theorem dX8_trace_23 : decode cX8_trace 23 = .ok (.istore_n 1, 1) := by decide +kernel
theorem dX8_trace_24 : decode cX8_trace 24 = .ok (.aload_n 0, 1) := by decide +kernel
theorem dX8_trace_25 : decode cX8_trace 25 = .ok (.aload_n 0, 1) := by decide +kernel
theorem dX8_trace_26 : decode cX8_trace 26 = .ok (.getfield 139, 3) := by decide +kernel
theorem dX8_trace_29 : decode cX8_trace 29 = .ok (.bipush 20, 2) := by decide +kernel
theorem dX8_trace_31 : decode cX8_trace 31 = .ok (.imul, 1) := by decide +kernel
theorem dX8_trace_32 : decode cX8_trace 32 = .ok (.invokevirtual 142, 3) := by decide +kernel
theorem dX8_trace_35 : decode cX8_trace 35 = .ok (.iinc 1 1, 3) := by decide +kernel
theorem dX8_trace_38 : decode cX8_trace 38 = .ok (.aload_n 0, 1) := by decide +kernel
theorem dX8_trace_39 : decode cX8_trace 39 = .ok (.getfield 127, 3) := by decide +kernel
theorem dX8_trace_42 : decode cX8_trace 42 = .ok (.ifCond .ge 59, 3) := by decide +kernel
theorem dX8_trace_45 : decode cX8_trace 45 = .ok (.aload_n 0, 1) := by decide +kernel
theorem dX8_trace_46 : decode cX8_trace 46 = .ok (.getfield 130, 3) := by decide +kernel
theorem dX8_trace_49 : decode cX8_trace 49 = .ok (.aload_n 0, 1) := by decide +kernel
theorem dX8_trace_50 : decode cX8_trace 50 = .ok (.getfield 124, 3) := by decide +kernel
theorem dX8_trace_53 : decode cX8_trace 53 = .ok (.if_icmp .ge 48, 3) := by decide +kernel
theorem dX8_trace_56 : decode cX8_trace 56 = .ok (.iload_n 1, 1) := by decide +kernel
theorem dX8_trace_57 : decode cX8_trace 57 = .ok (.bipush 20, 2) := by decide +kernel
theorem dX8_trace_59 : decode cX8_trace 59 = .ok (.if_icmp .ne 14, 3) := by decide +kernel
theorem dX8_trace_62 : decode cX8_trace 62 = .ok (.aload_n 0, 1) := by decide +kernel
theorem dX8_trace_63 : decode cX8_trace 63 = .ok (.aload_n 0, 1) := by decide +kernel
theorem dX8_trace_64 : decode cX8_trace 64 = .ok (.getfield 130, 3) := by decide +kernel
theorem dX8_trace_67 : decode cX8_trace 67 = .ok (.putfield 127, 3) := by decide +kernel
theorem dX8_trace_70 : decode cX8_trace 70 = .ok (.goto (-32), 3) := by decide +kernel
theorem dX8_trace_73 : decode cX8_trace 73 = .ok (.aload_n 0, 1) := by decide +kernel
theorem dX8_trace_74 : decode cX8_trace 74 = .ok (.bipush 59, 2) := by decide +kernel
theorem dX8_trace_76 : decode cX8_trace 76 = .ok (.bipush 59, 2) := by decide +kernel
theorem dX8_trace_78 : decode cX8_trace 78 = .ok (.invokevirtual 136, 3) := by decide +kernel
theorem dX8_trace_81 : decode cX8_trace 81 = .ok (.pop, 1) := by decide +kernel
theorem dX8_trace_82 : decode cX8_trace 82 = .ok (.aload_n 0, 1) := by decide +kernel
theorem dX8_trace_83 : decode cX8_trace 83 = .ok (.aload_n 0, 1) := by decide +kernel
theorem dX8_trace_84 : decode cX8_trace 84 = .ok (.getfield 139, 3) := by decide +kernel
theorem dX8_trace_87 : decode cX8_trace 87 = .ok (.bipush 20, 2) := by decide +kernel
theorem dX8_trace_89 : decode cX8_trace 89 = .ok (.imul, 1) := by decide +kernel
theorem dX8_trace_90 : decode cX8_trace 90 = .ok (.iload_n 1, 1) := by decide +kernel
theorem dX8_trace_91 : decode cX8_trace 91 = .ok (.iadd, 1) := by decide +kernel
theorem dX8_trace_92 : decode cX8_trace 92 = .ok (.invokevirtual 142, 3) := by decide +kernel
theorem dX8_trace_95 : decode cX8_trace 95 = .ok (.iinc 1 1, 3) := by decide +kernel
theorem dX8_trace_98 : decode cX8_trace 98 = .ok (.goto (-60), 3) := by decide +kernel
theorem dX8_trace_101 : decode cX8_trace 101 = .ok (.aload_n 0, 1) := by decide +kernel
theorem dX8_trace_102 : decode cX8_trace 102 = .ok (.iconst 0, 1) := by decide +kernel
theorem dX8_trace_103 : decode cX8_trace 103 = .ok (.putfield 124, 3) := by decide +kernel
theorem dX8_trace_106 : decode cX8_trace 106 = .ok (.aload_n 0, 1) := by decide +kernel
theorem dX8_trace_107 : decode cX8_trace 107 = .ok (.getfield 127, 3) := by decide +kernel
theorem dX8_trace_110 : decode cX8_trace 110 = .ok (.ifCond .lt 11, 3) := by decide +kernel
theorem dX8_trace_113 : decode cX8_trace 113 = .ok (.bipush (-10), 2) := by decide +kernel
theorem dX8_trace_115 : decode cX8_trace 115 = .ok (.aload_n 0, 1) := by decide +kernel
theorem dX8_trace_116 : decode cX8_trace 116 = .ok (.getfield 127, 3) := by decide +kernel
theorem dX8_trace_119 : decode cX8_trace 119 = .ok (.isub, 1) := by decide +kernel
theorem dX8_trace_120 : decode cX8_trace 120 = .ok (.ireturn, 1) := by decide +kernel
theorem dX8_trace_121 : decode cX8_trace 121 = .ok (.aload_n 0, 1) := by decide +kernel
theorem dX8_trace_122 : decode cX8_trace 122 = .ok (.getfield 36, 3) := by decide +kernel
theorem dX8_trace_125 : decode cX8_trace 125 = .ok (.aload_n 0, 1) := by decide +kernel
theorem dX8_trace_126 : decode cX8_trace 126 = .ok (.getfield 139, 3) := by decide +kernel
theorem dX8_trace_129 : decode cX8_trace 129 = .ok (.iload_n 1, 1) := by decide +kernel
theorem dX8_trace_130 : decode cX8_trace 130 = .ok (.iastore, 1) := by decide +kernel
theorem dX8_trace_131 : decode cX8_trace 131 = .ok (.aload_n 0, 1) := by decide +kernel
theorem dX8_trace_132 : decode cX8_trace 132 = .ok (.dup, 1) := by decide +kernel
theorem dX8_trace_133 : decode cX8_trace 133 = .ok (.getfield 139, 3) := by decide +kernel
theorem dX8_trace_136 : decode cX8_trace 136 = .ok (.dup_x1, 1) := by decide +kernel
theorem dX8_trace_137 : decode cX8_trace 137 = .ok (.iconst 1, 1) := by decide +kernel
theorem dX8_trace_138 : decode cX8_trace 138 = .ok (.iadd, 1) := by decide +kernel
theorem dX8_trace_139 : decode cX8_trace 139 = .ok (.putfield 139, 3) := by decide +kernel
theorem dX8_trace_142 : decode cX8_trace 142 = .ok (.ireturn, 1) := by decide +kernel
set_option maxRecDepth 20000 in
theorem ggX8_runs_X8_gets : GoodIn wsX8_runs wsX8_gets := goodIn_r _ [10, 1, 11, 12, 13, 9, 14, 15, 16, 17, 18, 19, 20, 21, 22, 23, 24, 25, 26, 27, 28, 29, 30, 31, 32, 33, 34, 35, 36, 37, 38, 39, 40, 41, 42, 43, 44, 57, 58, 59, 60, 61, 62, 63, 64, 65, 66, 67, 68, 69, 70, 71, 72, 73, 74, 75] (by decide +kernel) (by decide +kernel)
set_option maxRecDepth 20000 in
theorem gX8_runs_X8_gets : GoodIn wsX8_runs (wsV RX8 106 RX8 yX8_gets wsX8_gets) := goodIn_app (goodIn_of _ (by decide +kernel)) ggX8_runs_X8_gets
set_option maxRecDepth 20000 in
theorem ggX8_runs_X8_drops : GoodIn wsX8_runs wsX8_drops := goodIn_r _ [48, 1, 19, 20, 21, 9, 22, 57, 58, 59, 60, 61, 62, 63, 64, 65, 66, 67, 68, 69, 70, 71, 72, 73, 74, 75] (by decide +kernel) (by decide +kernel)
set_option maxRecDepth 20000 in
theorem gX8_runs_X8_drops : GoodIn wsX8_runs (wsV RX8 109 RX8 yX8_drops wsX8_drops) := goodIn_app (goodIn_of _ (by decide +kernel)) ggX8_runs_X8_drops
set_option maxRecDepth 20000 in
theorem ggX8_runs_X8_putIn : GoodIn wsX8_runs wsX8_putIn := goodIn_r _ [52, 1, 53, 54, 55, 9, 56, 15, 16, 17, 18, 19, 20, 21, 22, 23, 24, 25, 26, 27, 28, 29, 30, 31, 32, 33, 34, 35, 36, 37, 38, 39, 40, 41, 42, 43, 44, 57, 58, 59, 60, 61, 62, 63, 64, 65, 66, 67, 68, 69, 70, 71, 72, 73, 74, 75] (by decide +kernel) (by decide +kernel)
set_option maxRecDepth 20000 in
theorem gX8_runs_X8_putIn : GoodIn wsX8_runs (wsV RX8 100 RX8 yX8_putIn wsX8_putIn) := goodIn_app (goodIn_of _ (by decide +kernel)) ggX8_runs_X8_putIn
theorem dX8_runs_0 : decode cX8_runs 0 = .ok (.aload_n 0, 1) := by decide +kernel
theorem dX8_runs_1 : decode cX8_runs 1 = .ok (.getfield 11, 3) := by decide +kernel
theorem dX8_runs_4 : decode cX8_runs 4 = .ok (.sipush 3209, 3) := by decide +kernel
theorem dX8_runs_7 : decode cX8_runs 7 = .ok (.iaload, 1) := by decide +kernel
theorem dX8_runs_8 : decode cX8_runs 8 = .ok (.istore_n 2, 1) := by decide +kernel
theorem dX8_runs_9 : decode cX8_runs 9 = .ok (.iload_n 1, 1) := by decide +kernel
theorem dX8_runs_10 : decode cX8_runs 10 = .ok (.bipush 20, 2) := by decide +kernel
theorem dX8_runs_12 : decode cX8_runs 12 = .ok (.imul, 1) := by decide +kernel
theorem dX8_runs_13 : decode cX8_runs 13 = .ok (.istore_n 3, 1) := by decide +kernel
theorem dX8_runs_14 : decode cX8_runs 14 = .ok (.iload_n 3, 1) := by decide +kernel
theorem dX8_runs_15 : decode cX8_runs 15 = .ok (.iload_n 1, 1) := by decide +kernel
theorem dX8_runs_16 : decode cX8_runs 16 = .ok (.bipush 20, 2) := by decide +kernel
theorem dX8_runs_18 : decode cX8_runs 18 = .ok (.imul, 1) := by decide +kernel
theorem dX8_runs_19 : decode cX8_runs 19 = .ok (.aload_n 0, 1) := by decide +kernel
theorem dX8_runs_20 : decode cX8_runs 20 = .ok (.getfield 36, 3) := by decide +kernel
theorem dX8_runs_23 : decode cX8_runs 23 = .ok (.iload_n 1, 1) := by decide +kernel
theorem dX8_runs_24 : decode cX8_runs 24 = .ok (.iaload, 1) := by decide +kernel
theorem dX8_runs_25 : decode cX8_runs 25 = .ok (.iadd, 1) := by decide +kernel
theorem dX8_runs_26 : decode cX8_runs 26 = .ok (.if_icmp .ge 95, 3) := by decide +kernel
theorem dX8_runs_29 : decode cX8_runs 29 = .ok (.aload_n 0, 1) := by decide +kernel
theorem dX8_runs_30 : decode cX8_runs 30 = .ok (.getfield 27, 3) := by decide +kernel
theorem dX8_runs_33 : decode cX8_runs 33 = .ok (.iload_n 3, 1) := by decide +kernel
theorem dX8_runs_34 : decode cX8_runs 34 = .ok (.iaload, 1) := by decide +kernel
theorem dX8_runs_35 : decode cX8_runs 35 = .ok (.bipush 103, 2) := by decide +kernel
theorem dX8_runs_37 : decode cX8_runs 37 = .ok (.if_icmp .ne 17, 3) := by decide +kernel
theorem dX8_runs_40 : decode cX8_runs 40 = .ok (.aload_n 0, 1) := by decide +kernel
theorem dX8_runs_41 : decode cX8_runs 41 = .ok (.aload_n 0, 1) := by decide +kernel
theorem dX8_runs_42 : decode cX8_runs 42 = .ok (.getfield 30, 3) := by decide +kernel
theorem dX8_runs_45 : decode cX8_runs 45 = .ok (.iload_n 3, 1) := by decide +kernel
theorem dX8_runs_46 : decode cX8_runs 46 = .ok (.iaload, 1) := by decide +kernel
theorem dX8_runs_47 : decode cX8_runs 47 = .ok (.invokevirtual 106, 3) := by decide +kernel
theorem dX8_runs_50 : decode cX8_runs 50 = .ok (.pop, 1) := by decide +kernel
theorem dX8_runs_51 : decode cX8_runs 51 = .ok (.goto 64, 3) := by decide +kernel
theorem dX8_runs_54 : decode cX8_runs 54 = .ok (.aload_n 0, 1) := by decide +kernel
theorem dX8_runs_55 : decode cX8_runs 55 = .ok (.getfield 27, 3) := by decide +kernel
theorem dX8_runs_58 : decode cX8_runs 58 = .ok (.iload_n 3, 1) := by decide +kernel
theorem dX8_runs_59 : decode cX8_runs 59 = .ok (.iaload, 1) := by decide +kernel
theorem dX8_runs_60 : decode cX8_runs 60 = .ok (.bipush 120, 2) := by decide +kernel
theorem dX8_runs_62 : decode cX8_runs 62 = .ok (.if_icmp .ne 17, 3) := by decide +kernel
theorem dX8_runs_65 : decode cX8_runs 65 = .ok (.aload_n 0, 1) := by decide +kernel
theorem dX8_runs_66 : decode cX8_runs 66 = .ok (.aload_n 0, 1) := by decide +kernel
theorem dX8_runs_67 : decode cX8_runs 67 = .ok (.getfield 30, 3) := by decide +kernel
theorem dX8_runs_70 : decode cX8_runs 70 = .ok (.iload_n 3, 1) := by decide +kernel
theorem dX8_runs_71 : decode cX8_runs 71 = .ok (.iaload, 1) := by decide +kernel
theorem dX8_runs_72 : decode cX8_runs 72 = .ok (.invokevirtual 109, 3) := by decide +kernel
theorem dX8_runs_75 : decode cX8_runs 75 = .ok (.pop, 1) := by decide +kernel
theorem dX8_runs_76 : decode cX8_runs 76 = .ok (.goto 39, 3) := by decide +kernel
theorem dX8_runs_79 : decode cX8_runs 79 = .ok (.aload_n 0, 1) := by decide +kernel
theorem dX8_runs_80 : decode cX8_runs 80 = .ok (.getfield 33, 3) := by decide +kernel
theorem dX8_runs_83 : decode cX8_runs 83 = .ok (.iload_n 3, 1) := by decide +kernel
theorem dX8_runs_84 : decode cX8_runs 84 = .ok (.iaload, 1) := by decide +kernel
theorem dX8_runs_85 : decode cX8_runs 85 = .ok (.aload_n 0, 1) := by decide +kernel
theorem dX8_runs_86 : decode cX8_runs 86 = .ok (.getfield 11, 3) := by decide +kernel
theorem dX8_runs_89 : decode cX8_runs 89 = .ok (.sipush 3200, 3) := by decide +kernel
theorem dX8_runs_92 : decode cX8_runs 92 = .ok (.iaload, 1) := by decide +kernel
theorem dX8_runs_93 : decode cX8_runs 93 = .ok (.if_icmp .gt 22, 3) := by decide +kernel
theorem dX8_runs_96 : decode cX8_runs 96 = .ok (.aload_n 0, 1) := by decide +kernel
theorem dX8_runs_97 : decode cX8_runs 97 = .ok (.aload_n 0, 1) := by decide +kernel
theorem dX8_runs_98 : decode cX8_runs 98 = .ok (.getfield 30, 3) := by decide +kernel
theorem dX8_runs_101 : decode cX8_runs 101 = .ok (.iload_n 3, 1) := by decide +kernel
theorem dX8_runs_102 : decode cX8_runs 102 = .ok (.iaload, 1) := by decide +kernel
theorem dX8_runs_103 : decode cX8_runs 103 = .ok (.iconst 0, 1) := by decide +kernel
theorem dX8_runs_104 : decode cX8_runs 104 = .ok (.aload_n 0, 1) := by decide +kernel
theorem dX8_runs_105 : decode cX8_runs 105 = .ok (.getfield 33, 3) := by decide +kernel
theorem dX8_runs_108 : decode cX8_runs 108 = .ok (.iload_n 3, 1) := by decide +kernel
theorem dX8_runs_109 : decode cX8_runs 109 = .ok (.iaload, 1) := by decide +kernel
theorem dX8_runs_110 : decode cX8_runs 110 = .ok (.iconst 1, 1) := by decide +kernel
theorem dX8_runs_111 : decode cX8_runs 111 = .ok (.invokevirtual 100, 3) := by decide +kernel
theorem dX8_runs_114 : decode cX8_runs 114 = .ok (.pop, 1) := by decide +kernel
theorem dX8_runs_115 : decode cX8_runs 115 = .ok (.iinc 3 1, 3) := by decide +kernel
theorem dX8_runs_118 : decode cX8_runs 118 = .ok (.goto (-104), 3) := by decide +kernel
theorem dX8_runs_121 : decode cX8_runs 121 = .ok (.aload_n 0, 1) := by decide +kernel
theorem dX8_runs_122 : decode cX8_runs 122 = .ok (.getfield 11, 3) := by decide +kernel
theorem dX8_runs_125 : decode cX8_runs 125 = .ok (.sipush 3209, 3) := by decide +kernel
theorem dX8_runs_128 : decode cX8_runs 128 = .ok (.iaload, 1) := by decide +kernel
theorem dX8_runs_129 : decode cX8_runs 129 = .ok (.iload_n 2, 1) := by decide +kernel
theorem dX8_runs_130 : decode cX8_runs 130 = .ok (.isub, 1) := by decide +kernel
theorem dX8_runs_131 : decode cX8_runs 131 = .ok (.ireturn, 1) := by decide +kernel
set_option maxRecDepth 20000 in
theorem ggX8_isTrace_X8_in : GoodIn wsX8_isTrace wsX8_in := goodIn_r _ [5] (by decide +kernel) (by decide +kernel)
set_option maxRecDepth 20000 in
theorem gX8_isTrace_X8_in : GoodIn wsX8_isTrace (va_wsS RX8 54 yX8_in wsX8_in) := goodIn_app (goodIn_of _ (by decide +kernel)) ggX8_isTrace_X8_in
theorem dX8_isTrace_0 : decode cX8_isTrace 0 = .ok (.iload_n 1, 1) := by decide +kernel
theorem dX8_isTrace_1 : decode cX8_isTrace 1 = .ok (.iconst 0, 1) := by decide +kernel
theorem dX8_isTrace_2 : decode cX8_isTrace 2 = .ok (.aload_n 0, 1) := by decide +kernel
theorem dX8_isTrace_3 : decode cX8_isTrace 3 = .ok (.getfield 139, 3) := by decide +kernel
theorem dX8_isTrace_6 : decode cX8_isTrace 6 = .ok (.iconst 1, 1) := by decide +kernel
theorem dX8_isTrace_7 : decode cX8_isTrace 7 = .ok (.isub, 1) := by decide +kernel
theorem dX8_isTrace_8 : decode cX8_isTrace 8 = .ok (.invokestatic 54, 3) := by decide +kernel
theorem dX8_isTrace_11 : decode cX8_isTrace 11 = .ok (.ireturn, 1) := by decide +kernel
set_option maxRecDepth 20000 in
theorem ggX8_run_X8_isTrace : GoodIn wsX8_run wsX8_isTrace := goodIn_r _ [5, 6, 7, 8, 4, 9, 69, 70, 71, 72, 73, 74, 75, 76, 77, 78, 79, 80, 81, 82, 83, 84, 85, 86, 87] (by decide +kernel) (by decide +kernel)
set_option maxRecDepth 20000 in
theorem gX8_run_X8_isTrace : GoodIn wsX8_run (wsV RX8 145 RX8 yX8_isTrace wsX8_isTrace) := goodIn_app (goodIn_of _ (by decide +kernel)) ggX8_run_X8_isTrace
set_option maxRecDepth 20000 in
theorem ggX8_run_X8_runs : GoodIn wsX8_run wsX8_runs := goodIn_r _ [13, 14, 15, 16, 17, 18, 19, 20, 21, 4, 22, 23, 24, 25, 26, 27, 28, 29, 30, 31, 32, 33, 34, 35, 36, 37, 38, 39, 40, 41, 42, 43, 44, 45, 46, 47, 48, 49, 50, 51, 52, 53, 54, 55, 56, 57, 58, 59, 60, 61, 62, 63, 64, 65, 66, 67, 68, 69, 70, 71, 72, 73, 74, 75, 76, 77, 78, 79, 80, 81, 82, 83, 84, 85, 86, 87] (by decide +kernel) (by decide +kernel)
set_option maxRecDepth 20000 in
theorem gX8_run_X8_runs : GoodIn wsX8_run (wsV RX8 148 RX8 yX8_runs wsX8_runs) := goodIn_app (goodIn_of _ (by decide +kernel)) ggX8_run_X8_runs
theorem dX8_run_0 : decode cX8_run 0 = .ok (.aload_n 0, 1) := by decide +kernel
theorem dX8_run_1 : decode cX8_run 1 = .ok (.iload_n 1, 1) := by decide +kernel
theorem dX8_run_2 : decode cX8_run 2 = .ok (.invokevirtual 145, 3) := by decide +kernel
theorem dX8_run_5 : decode cX8_run 5 = .ok (.ifCond .eq 11, 3) := by decide +kernel
theorem dX8_run_8 : decode cX8_run 8 = .ok (.aload_n 0, 1) := by decide +kernel
theorem dX8_run_9 : decode cX8_run 9 = .ok (.iload_n 1, 1) := by decide +kernel
theorem dX8_run_10 : decode cX8_run 10 = .ok (.invokevirtual 148, 3) := by decide +kernel
theorem dX8_run_13 : decode cX8_run 13 = .ok (.goto 4, 3) := by decide +kernel
theorem dX8_run_16 : decode cX8_run 16 = .ok (.iconst (-1), 1) := by decide +kernel
theorem dX8_run_17 : decode cX8_run 17 = .ok (.ireturn, 1) := by decide +kernel
set_option maxRecDepth 20000 in
theorem ggX8_would_X8_isTrace : GoodIn wsX8_would wsX8_isTrace := goodIn_r _ [7, 8, 9, 10, 6, 11, 73, 74, 75, 76, 77, 78, 79, 80, 81, 82, 83, 84, 85, 86, 87, 88, 89, 90, 91] (by decide +kernel) (by decide +kernel)
set_option maxRecDepth 20000 in
theorem gX8_would_X8_isTrace : GoodIn wsX8_would (wsV RX8 145 RX8 yX8_isTrace wsX8_isTrace) := goodIn_app (goodIn_of _ (by decide +kernel)) ggX8_would_X8_isTrace
set_option maxRecDepth 20000 in
theorem ggX8_would_X8_in : GoodIn wsX8_would wsX8_in := goodIn_r _ [11] (by decide +kernel) (by decide +kernel)
set_option maxRecDepth 20000 in
theorem gX8_would_X8_in : GoodIn wsX8_would (va_wsS RX8 54 yX8_in wsX8_in) := goodIn_app (goodIn_of _ (by decide +kernel)) ggX8_would_X8_in
set_option maxRecDepth 20000 in
theorem ggX8_would_X8_copy : GoodIn wsX8_would wsX8_copy := goodIn_r _ [14] (by decide +kernel) (by decide +kernel)
set_option maxRecDepth 20000 in
theorem gX8_would_X8_copy : GoodIn wsX8_would (va_wsS RX8 120 yX8_copy wsX8_copy) := goodIn_app (goodIn_of _ (by decide +kernel)) ggX8_would_X8_copy
set_option maxRecDepth 20000 in
theorem ggX8_would_X8_runs : GoodIn wsX8_would wsX8_runs := goodIn_r _ [18, 1, 19, 20, 21, 22, 23, 24, 25, 6, 26, 27, 28, 29, 30, 31, 32, 33, 34, 35, 36, 37, 38, 39, 40, 41, 42, 43, 44, 45, 46, 47, 48, 49, 50, 51, 52, 53, 54, 55, 56, 57, 58, 59, 60, 61, 62, 63, 64, 65, 66, 67, 68, 69, 70, 71, 72, 73, 74, 75, 76, 77, 78, 79, 80, 81, 82, 83, 84, 85, 86, 87, 88, 89, 90, 91] (by decide +kernel) (by decide +kernel)
set_option maxRecDepth 20000 in
theorem gX8_would_X8_runs : GoodIn wsX8_would (wsV RX8 148 RX8 yX8_runs wsX8_runs) := goodIn_app (goodIn_of _ (by decide +kernel)) ggX8_would_X8_runs
theorem dX8_would_0 : decode cX8_would 0 = .ok (.aload_n 0, 1) := by decide +kernel
theorem dX8_would_1 : decode cX8_would 1 = .ok (.iload_n 1, 1) := by decide +kernel
theorem dX8_would_2 : decode cX8_would 2 = .ok (.invokevirtual 145, 3) := by decide +kernel
theorem dX8_would_5 : decode cX8_would 5 = .ok (.ifCond .eq 12, 3) := by decide +kernel
theorem dX8_would_8 : decode cX8_would 8 = .ok (.iload_n 2, 1) := by decide +kernel
theorem dX8_would_9 : decode cX8_would 9 = .ok (.iconst 0, 1) := by decide +kernel
theorem dX8_would_10 : decode cX8_would 10 = .ok (.iconst 5, 1) := by decide +kernel
theorem dX8_would_11 : decode cX8_would 11 = .ok (.invokestatic 54, 3) := by decide +kernel
theorem dX8_would_14 : decode cX8_would 14 = .ok (.ifCond .ne 5, 3) := by decide +kernel
theorem dX8_would_17 : decode cX8_would 17 = .ok (.iconst (-1), 1) := by decide +kernel
theorem dX8_would_18 : decode cX8_would 18 = .ok (.ireturn, 1) := by decide +kernel
theorem dX8_would_19 : decode cX8_would 19 = .ok (.aload_n 0, 1) := by decide +kernel
theorem dX8_would_20 : decode cX8_would 20 = .ok (.getfield 11, 3) := by decide +kernel
theorem dX8_would_23 : decode cX8_would 23 = .ok (.aload_n 0, 1) := by decide +kernel
theorem dX8_would_24 : decode cX8_would 24 = .ok (.getfield 15, 3) := by decide +kernel
theorem dX8_would_27 : decode cX8_would 27 = .ok (.invokestatic 120, 3) := by decide +kernel
theorem dX8_would_30 : decode cX8_would 30 = .ok (.aload_n 0, 1) := by decide +kernel
theorem dX8_would_31 : decode cX8_would 31 = .ok (.iload_n 1, 1) := by decide +kernel
theorem dX8_would_32 : decode cX8_would 32 = .ok (.invokevirtual 148, 3) := by decide +kernel
theorem dX8_would_35 : decode cX8_would 35 = .ok (.pop, 1) := by decide +kernel
theorem dX8_would_36 : decode cX8_would 36 = .ok (.iload_n 2, 1) := by decide +kernel
theorem dX8_would_37 : decode cX8_would 37 = .ok (.tableswitch 81 3 5 #[27, 39, 60], 27) := by decide +kernel
theorem dX8_would_64 : decode cX8_would 64 = .ok (.aload_n 0, 1) := by decide +kernel
theorem dX8_would_65 : decode cX8_would 65 = .ok (.getfield 11, 3) := by decide +kernel
theorem dX8_would_68 : decode cX8_would 68 = .ok (.sipush 3201, 3) := by decide +kernel
theorem dX8_would_71 : decode cX8_would 71 = .ok (.iaload, 1) := by decide +kernel
theorem dX8_would_72 : decode cX8_would 72 = .ok (.istore_n 3, 1) := by decide +kernel
theorem dX8_would_73 : decode cX8_would 73 = .ok (.goto 67, 3) := by decide +kernel
theorem dX8_would_76 : decode cX8_would 76 = .ok (.aload_n 0, 1) := by decide +kernel
theorem dX8_would_77 : decode cX8_would 77 = .ok (.getfield 11, 3) := by decide +kernel
theorem dX8_would_80 : decode cX8_would 80 = .ok (.sipush 3205, 3) := by decide +kernel
theorem dX8_would_83 : decode cX8_would 83 = .ok (.iaload, 1) := by decide +kernel
theorem dX8_would_84 : decode cX8_would 84 = .ok (.aload_n 0, 1) := by decide +kernel
theorem dX8_would_85 : decode cX8_would 85 = .ok (.getfield 11, 3) := by decide +kernel
theorem dX8_would_88 : decode cX8_would 88 = .ok (.sipush 3206, 3) := by decide +kernel
theorem dX8_would_91 : decode cX8_would 91 = .ok (.iaload, 1) := by decide +kernel
theorem dX8_would_92 : decode cX8_would 92 = .ok (.iadd, 1) := by decide +kernel
theorem dX8_would_93 : decode cX8_would 93 = .ok (.istore_n 3, 1) := by decide +kernel
theorem dX8_would_94 : decode cX8_would 94 = .ok (.goto 46, 3) := by decide +kernel
theorem dX8_would_97 : decode cX8_would 97 = .ok (.aload_n 0, 1) := by decide +kernel
theorem dX8_would_98 : decode cX8_would 98 = .ok (.getfield 11, 3) := by decide +kernel
theorem dX8_would_101 : decode cX8_would 101 = .ok (.sipush 3214, 3) := by decide +kernel
theorem dX8_would_104 : decode cX8_would 104 = .ok (.iaload, 1) := by decide +kernel
theorem dX8_would_105 : decode cX8_would 105 = .ok (.aload_n 0, 1) := by decide +kernel
theorem dX8_would_106 : decode cX8_would 106 = .ok (.getfield 15, 3) := by decide +kernel
theorem dX8_would_109 : decode cX8_would 109 = .ok (.sipush 3214, 3) := by decide +kernel
theorem dX8_would_112 : decode cX8_would 112 = .ok (.iaload, 1) := by decide +kernel
theorem dX8_would_113 : decode cX8_would 113 = .ok (.isub, 1) := by decide +kernel
theorem dX8_would_114 : decode cX8_would 114 = .ok (.istore_n 3, 1) := by decide +kernel
theorem dX8_would_115 : decode cX8_would 115 = .ok (.goto 25, 3) := by decide +kernel
theorem dX8_would_118 : decode cX8_would 118 = .ok (.aload_n 0, 1) := by decide +kernel
theorem dX8_would_119 : decode cX8_would 119 = .ok (.getfield 11, 3) := by decide +kernel
theorem dX8_would_122 : decode cX8_would 122 = .ok (.sipush 3209, 3) := by decide +kernel
theorem dX8_would_125 : decode cX8_would 125 = .ok (.iload_n 2, 1) := by decide +kernel
theorem dX8_would_126 : decode cX8_would 126 = .ok (.iadd, 1) := by decide +kernel
theorem dX8_would_127 : decode cX8_would 127 = .ok (.iaload, 1) := by decide +kernel
theorem dX8_would_128 : decode cX8_would 128 = .ok (.aload_n 0, 1) := by decide +kernel
theorem dX8_would_129 : decode cX8_would 129 = .ok (.getfield 15, 3) := by decide +kernel
theorem dX8_would_132 : decode cX8_would 132 = .ok (.sipush 3209, 3) := by decide +kernel
theorem dX8_would_135 : decode cX8_would 135 = .ok (.iload_n 2, 1) := by decide +kernel
theorem dX8_would_136 : decode cX8_would 136 = .ok (.iadd, 1) := by decide +kernel
theorem dX8_would_137 : decode cX8_would 137 = .ok (.iaload, 1) := by decide +kernel
theorem dX8_would_138 : decode cX8_would 138 = .ok (.isub, 1) := by decide +kernel
theorem dX8_would_139 : decode cX8_would 139 = .ok (.istore_n 3, 1) := by decide +kernel
theorem dX8_would_140 : decode cX8_would 140 = .ok (.aload_n 0, 1) := by decide +kernel
theorem dX8_would_141 : decode cX8_would 141 = .ok (.getfield 15, 3) := by decide +kernel
theorem dX8_would_144 : decode cX8_would 144 = .ok (.aload_n 0, 1) := by decide +kernel
theorem dX8_would_145 : decode cX8_would 145 = .ok (.getfield 11, 3) := by decide +kernel
theorem dX8_would_148 : decode cX8_would 148 = .ok (.invokestatic 120, 3) := by decide +kernel
theorem dX8_would_151 : decode cX8_would 151 = .ok (.iload_n 3, 1) := by decide +kernel
theorem dX8_would_152 : decode cX8_would 152 = .ok (.ireturn, 1) := by decide +kernel
set_option maxRecDepth 20000 in
theorem ggX8_need_X8_isTrace : GoodIn wsX8_need wsX8_isTrace := goodIn_r _ [7, 8, 9, 10, 6, 11, 77, 78, 79, 80, 81, 82, 83, 84, 85, 86, 87, 88, 89, 90, 91, 92, 93, 94, 95] (by decide +kernel) (by decide +kernel)
set_option maxRecDepth 20000 in
theorem gX8_need_X8_isTrace : GoodIn wsX8_need (wsV RX8 145 RX8 yX8_isTrace wsX8_isTrace) := goodIn_app (goodIn_of _ (by decide +kernel)) ggX8_need_X8_isTrace
set_option maxRecDepth 20000 in
theorem ggX8_need_X8_in : GoodIn wsX8_need wsX8_in := goodIn_r _ [11] (by decide +kernel) (by decide +kernel)
set_option maxRecDepth 20000 in
theorem gX8_need_X8_in : GoodIn wsX8_need (va_wsS RX8 54 yX8_in wsX8_in) := goodIn_app (goodIn_of _ (by decide +kernel)) ggX8_need_X8_in
set_option maxRecDepth 20000 in
theorem ggX8_need_X8_copy : GoodIn wsX8_need wsX8_copy := goodIn_r _ [14] (by decide +kernel) (by decide +kernel)
set_option maxRecDepth 20000 in
theorem gX8_need_X8_copy : GoodIn wsX8_need (va_wsS RX8 120 yX8_copy wsX8_copy) := goodIn_app (goodIn_of _ (by decide +kernel)) ggX8_need_X8_copy
set_option maxRecDepth 20000 in
theorem ggX8_need_X8_capacity : GoodIn wsX8_need wsX8_capacity := goodIn_r _ [18, 1, 19, 20, 21, 6, 22, 23, 24, 25, 26, 27, 28, 29, 30, 31, 32, 33, 34, 35, 36, 37, 38, 39, 40, 41, 42, 43, 44, 77, 78, 79, 80, 81, 82, 83, 84, 85, 86, 87, 88, 89, 90, 91, 92, 93, 94, 95] (by decide +kernel) (by decide +kernel)
set_option maxRecDepth 20000 in
theorem gX8_need_X8_capacity : GoodIn wsX8_need (wsV RX8 93 RX8 yX8_capacity wsX8_capacity) := goodIn_app (goodIn_of _ (by decide +kernel)) ggX8_need_X8_capacity
set_option maxRecDepth 20000 in
theorem ggX8_need_X8_runs : GoodIn wsX8_need wsX8_runs := goodIn_r _ [48, 1, 49, 50, 51, 52, 53, 54, 55, 6, 56, 57, 58, 59, 60, 61, 62, 63, 64, 31, 32, 33, 34, 19, 20, 21, 22, 23, 24, 25, 26, 27, 28, 29, 30, 35, 36, 37, 38, 39, 40, 41, 42, 43, 44, 65, 66, 67, 68, 69, 70, 71, 72, 73, 74, 75, 76, 77, 78, 79, 80, 81, 82, 83, 84, 85, 86, 87, 88, 89, 90, 91, 92, 93, 94, 95] (by decide +kernel) (by decide +kernel)
set_option maxRecDepth 20000 in
theorem gX8_need_X8_runs : GoodIn wsX8_need (wsV RX8 148 RX8 yX8_runs wsX8_runs) := goodIn_app (goodIn_of _ (by decide +kernel)) ggX8_need_X8_runs
theorem dX8_need_0 : decode cX8_need 0 = .ok (.aload_n 0, 1) := by decide +kernel
theorem dX8_need_1 : decode cX8_need 1 = .ok (.iload_n 1, 1) := by decide +kernel
theorem dX8_need_2 : decode cX8_need 2 = .ok (.invokevirtual 145, 3) := by decide +kernel
theorem dX8_need_5 : decode cX8_need 5 = .ok (.ifCond .ne 5, 3) := by decide +kernel
theorem dX8_need_8 : decode cX8_need 8 = .ok (.iconst (-1), 1) := by decide +kernel
theorem dX8_need_9 : decode cX8_need 9 = .ok (.ireturn, 1) := by decide +kernel
theorem dX8_need_10 : decode cX8_need 10 = .ok (.iload_n 2, 1) := by decide +kernel
theorem dX8_need_11 : decode cX8_need 11 = .ok (.iconst 0, 1) := by decide +kernel
theorem dX8_need_12 : decode cX8_need 12 = .ok (.bipush 20, 2) := by decide +kernel
theorem dX8_need_14 : decode cX8_need 14 = .ok (.invokestatic 54, 3) := by decide +kernel
theorem dX8_need_17 : decode cX8_need 17 = .ok (.ifCond .ne 6, 3) := by decide +kernel
theorem dX8_need_20 : decode cX8_need 20 = .ok (.bipush (-2), 2) := by decide +kernel
theorem dX8_need_22 : decode cX8_need 22 = .ok (.ireturn, 1) := by decide +kernel
theorem dX8_need_23 : decode cX8_need 23 = .ok (.aload_n 0, 1) := by decide +kernel
theorem dX8_need_24 : decode cX8_need 24 = .ok (.getfield 11, 3) := by decide +kernel
theorem dX8_need_27 : decode cX8_need 27 = .ok (.aload_n 0, 1) := by decide +kernel
theorem dX8_need_28 : decode cX8_need 28 = .ok (.getfield 15, 3) := by decide +kernel
theorem dX8_need_31 : decode cX8_need 31 = .ok (.invokestatic 120, 3) := by decide +kernel
theorem dX8_need_34 : decode cX8_need 34 = .ok (.bipush (-5), 2) := by decide +kernel
theorem dX8_need_36 : decode cX8_need 36 = .ok (.istore_n 3, 1) := by decide +kernel
theorem dX8_need_37 : decode cX8_need 37 = .ok (.iconst 1, 1) := by decide +kernel
theorem dX8_need_38 : decode cX8_need 38 = .ok (.istore 4, 2) := by decide +kernel
theorem dX8_need_40 : decode cX8_need 40 = .ok (.iload 4, 2) := by decide +kernel
theorem dX8_need_42 : decode cX8_need 42 = .ok (.bipush 60, 2) := by decide +kernel
theorem dX8_need_44 : decode cX8_need 44 = .ok (.if_icmp .gt 46, 3) := by decide +kernel
theorem dX8_need_47 : decode cX8_need 47 = .ok (.iload_n 3, 1) := by decide +kernel
theorem dX8_need_48 : decode cX8_need 48 = .ok (.ifCond .ge 42, 3) := by decide +kernel
theorem dX8_need_51 : decode cX8_need 51 = .ok (.aload_n 0, 1) := by decide +kernel
theorem dX8_need_52 : decode cX8_need 52 = .ok (.iload 4, 2) := by decide +kernel
theorem dX8_need_54 : decode cX8_need 54 = .ok (.invokevirtual 93, 3) := by decide +kernel
theorem dX8_need_57 : decode cX8_need 57 = .ok (.aload_n 0, 1) := by decide +kernel
theorem dX8_need_58 : decode cX8_need 58 = .ok (.iload_n 1, 1) := by decide +kernel
theorem dX8_need_59 : decode cX8_need 59 = .ok (.invokevirtual 148, 3) := by decide +kernel
theorem dX8_need_62 : decode cX8_need 62 = .ok (.iload_n 2, 1) := by decide +kernel
theorem dX8_need_63 : decode cX8_need 63 = .ok (.if_icmp .lt 8, 3) := by decide +kernel
theorem dX8_need_66 : decode cX8_need 66 = .ok (.iload 4, 2) := by decide +kernel
theorem dX8_need_68 : decode cX8_need 68 = .ok (.goto 4, 3) := by decide +kernel
theorem dX8_need_71 : decode cX8_need 71 = .ok (.iload_n 3, 1) := by decide +kernel
theorem dX8_need_72 : decode cX8_need 72 = .ok (.istore_n 3, 1) := by decide +kernel
theorem dX8_need_73 : decode cX8_need 73 = .ok (.aload_n 0, 1) := by decide +kernel
theorem dX8_need_74 : decode cX8_need 74 = .ok (.getfield 15, 3) := by decide +kernel
theorem dX8_need_77 : decode cX8_need 77 = .ok (.aload_n 0, 1) := by decide +kernel
theorem dX8_need_78 : decode cX8_need 78 = .ok (.getfield 11, 3) := by decide +kernel
theorem dX8_need_81 : decode cX8_need 81 = .ok (.invokestatic 120, 3) := by decide +kernel
theorem dX8_need_84 : decode cX8_need 84 = .ok (.iinc 4 1, 3) := by decide +kernel
theorem dX8_need_87 : decode cX8_need 87 = .ok (.goto (-47), 3) := by decide +kernel
theorem dX8_need_90 : decode cX8_need 90 = .ok (.iload_n 3, 1) := by decide +kernel
theorem dX8_need_91 : decode cX8_need 91 = .ok (.ireturn, 1) := by decide +kernel
theorem dX8_common_0 : decode cX8_common 0 = .ok (.iload_n 0, 1) := by decide +kernel
theorem dX8_common_1 : decode cX8_common 1 = .ok (.istore_n 2, 1) := by decide +kernel
theorem dX8_common_2 : decode cX8_common 2 = .ok (.iload_n 1, 1) := by decide +kernel
theorem dX8_common_3 : decode cX8_common 3 = .ok (.istore_n 3, 1) := by decide +kernel
theorem dX8_common_4 : decode cX8_common 4 = .ok (.iload_n 3, 1) := by decide +kernel
theorem dX8_common_5 : decode cX8_common 5 = .ok (.ifCond .eq 16, 3) := by decide +kernel
theorem dX8_common_8 : decode cX8_common 8 = .ok (.iload_n 2, 1) := by decide +kernel
theorem dX8_common_9 : decode cX8_common 9 = .ok (.iload_n 3, 1) := by decide +kernel
theorem dX8_common_10 : decode cX8_common 10 = .ok (.irem, 1) := by decide +kernel
theorem dX8_common_11 : decode cX8_common 11 = .ok (.istore 4, 2) := by decide +kernel
theorem dX8_common_13 : decode cX8_common 13 = .ok (.iload_n 3, 1) := by decide +kernel
theorem dX8_common_14 : decode cX8_common 14 = .ok (.istore_n 2, 1) := by decide +kernel
theorem dX8_common_15 : decode cX8_common 15 = .ok (.iload 4, 2) := by decide +kernel
theorem dX8_common_17 : decode cX8_common 17 = .ok (.istore_n 3, 1) := by decide +kernel
theorem dX8_common_18 : decode cX8_common 18 = .ok (.goto (-14), 3) := by decide +kernel
theorem dX8_common_21 : decode cX8_common 21 = .ok (.iload_n 2, 1) := by decide +kernel
theorem dX8_common_22 : decode cX8_common 22 = .ok (.ireturn, 1) := by decide +kernel
set_option maxRecDepth 20000 in
theorem ggX8_part_X8_common : GoodIn wsX8_part wsX8_common := goodIn_r _ [4] (by decide +kernel) (by decide +kernel)
set_option maxRecDepth 20000 in
theorem gX8_part_X8_common : GoodIn wsX8_part (va_wsS RX8 151 yX8_common wsX8_common) := goodIn_app (goodIn_of _ (by decide +kernel)) ggX8_part_X8_common
theorem dX8_part_0 : decode cX8_part 0 = .ok (.iload_n 0, 1) := by decide +kernel
theorem dX8_part_1 : decode cX8_part 1 = .ok (.iload_n 1, 1) := by decide +kernel
theorem dX8_part_2 : decode cX8_part 2 = .ok (.invokestatic 151, 3) := by decide +kernel
theorem dX8_part_5 : decode cX8_part 5 = .ok (.istore_n 3, 1) := by decide +kernel
theorem dX8_part_6 : decode cX8_part 6 = .ok (.iload_n 2, 1) := by decide +kernel
theorem dX8_part_7 : decode cX8_part 7 = .ok (.ifCond .ne 10, 3) := by decide +kernel
theorem dX8_part_10 : decode cX8_part 10 = .ok (.iload_n 0, 1) := by decide +kernel
theorem dX8_part_11 : decode cX8_part 11 = .ok (.iload_n 3, 1) := by decide +kernel
theorem dX8_part_12 : decode cX8_part 12 = .ok (.idiv, 1) := by decide +kernel
theorem dX8_part_13 : decode cX8_part 13 = .ok (.i2l, 1) := by decide +kernel
theorem dX8_part_14 : decode cX8_part 14 = .ok (.goto 7, 3) := by decide +kernel
theorem dX8_part_17 : decode cX8_part 17 = .ok (.iload_n 1, 1) := by decide +kernel
theorem dX8_part_18 : decode cX8_part 18 = .ok (.iload_n 3, 1) := by decide +kernel
theorem dX8_part_19 : decode cX8_part 19 = .ok (.idiv, 1) := by decide +kernel
theorem dX8_part_20 : decode cX8_part 20 = .ok (.i2l, 1) := by decide +kernel
theorem dX8_part_21 : decode cX8_part 21 = .ok (.lreturn, 1) := by decide +kernel
set_option maxRecDepth 20000 in
theorem ggX8_odds_X8_isTrace : GoodIn wsX8_odds wsX8_isTrace := goodIn_r _ [8, 9, 10, 11, 7, 12, 80, 81, 82, 83, 84, 85, 86, 87, 88, 89, 90, 91, 92, 93, 94, 95, 96, 97, 98] (by decide +kernel) (by decide +kernel)
set_option maxRecDepth 20000 in
theorem gX8_odds_X8_isTrace : GoodIn wsX8_odds (wsV RX8 145 RX8 yX8_isTrace wsX8_isTrace) := goodIn_app (goodIn_of _ (by decide +kernel)) ggX8_odds_X8_isTrace
set_option maxRecDepth 20000 in
theorem ggX8_odds_X8_in : GoodIn wsX8_odds wsX8_in := goodIn_r _ [12] (by decide +kernel) (by decide +kernel)
set_option maxRecDepth 20000 in
theorem gX8_odds_X8_in : GoodIn wsX8_odds (va_wsS RX8 54 yX8_in wsX8_in) := goodIn_app (goodIn_of _ (by decide +kernel)) ggX8_odds_X8_in
set_option maxRecDepth 20000 in
theorem ggX8_odds_X8_copy : GoodIn wsX8_odds wsX8_copy := goodIn_r _ [15] (by decide +kernel) (by decide +kernel)
set_option maxRecDepth 20000 in
theorem gX8_odds_X8_copy : GoodIn wsX8_odds (va_wsS RX8 120 yX8_copy wsX8_copy) := goodIn_app (goodIn_of _ (by decide +kernel)) ggX8_odds_X8_copy
set_option maxRecDepth 20000 in
theorem ggX8_odds_X8_trim : GoodIn wsX8_odds wsX8_trim := goodIn_r _ [19, 2, 20, 21, 22, 7, 23, 24, 25, 26, 27, 28, 29, 30, 31, 32, 33, 34, 35, 36, 37, 38, 39, 40, 41, 80, 81, 82, 83, 84, 85, 86, 87, 88, 89, 90, 91, 92, 93, 94, 95, 96, 97, 98] (by decide +kernel) (by decide +kernel)
set_option maxRecDepth 20000 in
theorem gX8_odds_X8_trim : GoodIn wsX8_odds (wsV RX8 86 RX8 yX8_trim wsX8_trim) := goodIn_app (goodIn_of _ (by decide +kernel)) ggX8_odds_X8_trim
set_option maxRecDepth 20000 in
theorem ggX8_odds_X8_runs : GoodIn wsX8_odds wsX8_runs := goodIn_r _ [45, 2, 46, 47, 48, 49, 50, 51, 52, 7, 53, 54, 55, 56, 57, 58, 59, 60, 61, 28, 29, 30, 31, 16, 17, 18, 19, 20, 21, 22, 23, 24, 25, 26, 27, 32, 33, 34, 35, 36, 37, 38, 39, 40, 41, 62, 63, 64, 65, 66, 67, 68, 69, 70, 71, 72, 73, 80, 81, 82, 83, 84, 85, 86, 87, 88, 89, 90, 91, 92, 93, 94, 95, 96, 97, 98] (by decide +kernel) (by decide +kernel)
set_option maxRecDepth 20000 in
theorem gX8_odds_X8_runs : GoodIn wsX8_odds (wsV RX8 148 RX8 yX8_runs wsX8_runs) := goodIn_app (goodIn_of _ (by decide +kernel)) ggX8_odds_X8_runs
set_option maxRecDepth 20000 in
theorem ggX8_odds_X8_part : GoodIn wsX8_odds wsX8_part := goodIn_r _ [76, 77, 78, 7, 79] (by decide +kernel) (by decide +kernel)
set_option maxRecDepth 20000 in
theorem gX8_odds_X8_part : GoodIn wsX8_odds (va_wsS RX8 154 yX8_part wsX8_part) := goodIn_app (goodIn_of _ (by decide +kernel)) ggX8_odds_X8_part
theorem dX8_odds_0 : decode cX8_odds 0 = .ok (.aload_n 0, 1) := by decide +kernel
theorem dX8_odds_1 : decode cX8_odds 1 = .ok (.iload_n 1, 1) := by decide +kernel
theorem dX8_odds_2 : decode cX8_odds 2 = .ok (.invokevirtual 145, 3) := by decide +kernel
theorem dX8_odds_5 : decode cX8_odds 5 = .ok (.ifCond .eq 22, 3) := by decide +kernel
theorem dX8_odds_8 : decode cX8_odds 8 = .ok (.iload_n 2, 1) := by decide +kernel
theorem dX8_odds_9 : decode cX8_odds 9 = .ok (.iconst 0, 1) := by decide +kernel
theorem dX8_odds_10 : decode cX8_odds 10 = .ok (.bipush 20, 2) := by decide +kernel
theorem dX8_odds_12 : decode cX8_odds 12 = .ok (.invokestatic 54, 3) := by decide +kernel
theorem dX8_odds_15 : decode cX8_odds 15 = .ok (.ifCond .eq 12, 3) := by decide +kernel
theorem dX8_odds_18 : decode cX8_odds 18 = .ok (.iload_n 3, 1) := by decide +kernel
theorem dX8_odds_19 : decode cX8_odds 19 = .ok (.iconst 0, 1) := by decide +kernel
theorem dX8_odds_20 : decode cX8_odds 20 = .ok (.iconst 1, 1) := by decide +kernel
theorem dX8_odds_21 : decode cX8_odds 21 = .ok (.invokestatic 54, 3) := by decide +kernel
theorem dX8_odds_24 : decode cX8_odds 24 = .ok (.ifCond .ne 7, 3) := by decide +kernel
theorem dX8_odds_27 : decode cX8_odds 27 = .ok (.ldc2_w 104, 3) := by decide +kernel
theorem dX8_odds_30 : decode cX8_odds 30 = .ok (.lreturn, 1) := by decide +kernel
theorem dX8_odds_31 : decode cX8_odds 31 = .ok (.aload_n 0, 1) := by decide +kernel
theorem dX8_odds_32 : decode cX8_odds 32 = .ok (.getfield 11, 3) := by decide +kernel
theorem dX8_odds_35 : decode cX8_odds 35 = .ok (.aload_n 0, 1) := by decide +kernel
theorem dX8_odds_36 : decode cX8_odds 36 = .ok (.getfield 15, 3) := by decide +kernel
theorem dX8_odds_39 : decode cX8_odds 39 = .ok (.invokestatic 120, 3) := by decide +kernel
theorem dX8_odds_42 : decode cX8_odds 42 = .ok (.iconst 0, 1) := by decide +kernel
theorem dX8_odds_43 : decode cX8_odds 43 = .ok (.istore 4, 2) := by decide +kernel
theorem dX8_odds_45 : decode cX8_odds 45 = .ok (.iconst 0, 1) := by decide +kernel
theorem dX8_odds_46 : decode cX8_odds 46 = .ok (.istore 5, 2) := by decide +kernel
theorem dX8_odds_48 : decode cX8_odds 48 = .ok (.iload 5, 2) := by decide +kernel
theorem dX8_odds_50 : decode cX8_odds 50 = .ok (.aload_n 0, 1) := by decide +kernel
theorem dX8_odds_51 : decode cX8_odds 51 = .ok (.getfield 15, 3) := by decide +kernel
theorem dX8_odds_54 : decode cX8_odds 54 = .ok (.sipush 3200, 3) := by decide +kernel
theorem dX8_odds_57 : decode cX8_odds 57 = .ok (.iaload, 1) := by decide +kernel
theorem dX8_odds_58 : decode cX8_odds 58 = .ok (.if_icmp .gt 53, 3) := by decide +kernel
theorem dX8_odds_61 : decode cX8_odds 61 = .ok (.aload_n 0, 1) := by decide +kernel
theorem dX8_odds_62 : decode cX8_odds 62 = .ok (.getfield 11, 3) := by decide +kernel
theorem dX8_odds_65 : decode cX8_odds 65 = .ok (.sipush 3201, 3) := by decide +kernel
theorem dX8_odds_68 : decode cX8_odds 68 = .ok (.iload 5, 2) := by decide +kernel
theorem dX8_odds_70 : decode cX8_odds 70 = .ok (.iastore, 1) := by decide +kernel
theorem dX8_odds_71 : decode cX8_odds 71 = .ok (.aload_n 0, 1) := by decide +kernel
theorem dX8_odds_72 : decode cX8_odds 72 = .ok (.invokevirtual 86, 3) := by decide +kernel
theorem dX8_odds_75 : decode cX8_odds 75 = .ok (.iload 4, 2) := by decide +kernel
theorem dX8_odds_77 : decode cX8_odds 77 = .ok (.aload_n 0, 1) := by decide +kernel
theorem dX8_odds_78 : decode cX8_odds 78 = .ok (.iload_n 1, 1) := by decide +kernel
theorem dX8_odds_79 : decode cX8_odds 79 = .ok (.invokevirtual 148, 3) := by decide +kernel
theorem dX8_odds_82 : decode cX8_odds 82 = .ok (.iload_n 2, 1) := by decide +kernel
theorem dX8_odds_83 : decode cX8_odds 83 = .ok (.if_icmp .lt 7, 3) := by decide +kernel
theorem dX8_odds_86 : decode cX8_odds 86 = .ok (.iconst 1, 1) := by decide +kernel
theorem dX8_odds_87 : decode cX8_odds 87 = .ok (.goto 4, 3) := by decide +kernel
theorem dX8_odds_90 : decode cX8_odds 90 = .ok (.iconst 0, 1) := by decide +kernel
theorem dX8_odds_91 : decode cX8_odds 91 = .ok (.iadd, 1) := by decide +kernel
theorem dX8_odds_92 : decode cX8_odds 92 = .ok (.istore 4, 2) := by decide +kernel
theorem dX8_odds_94 : decode cX8_odds 94 = .ok (.aload_n 0, 1) := by decide +kernel
theorem dX8_odds_95 : decode cX8_odds 95 = .ok (.getfield 15, 3) := by decide +kernel
theorem dX8_odds_98 : decode cX8_odds 98 = .ok (.aload_n 0, 1) := by decide +kernel
theorem dX8_odds_99 : decode cX8_odds 99 = .ok (.getfield 11, 3) := by decide +kernel
theorem dX8_odds_102 : decode cX8_odds 102 = .ok (.invokestatic 120, 3) := by decide +kernel
theorem dX8_odds_105 : decode cX8_odds 105 = .ok (.iinc 5 1, 3) := by decide +kernel
theorem dX8_odds_108 : decode cX8_odds 108 = .ok (.goto (-60), 3) := by decide +kernel
theorem dX8_odds_111 : decode cX8_odds 111 = .ok (.iload 4, 2) := by decide +kernel
theorem dX8_odds_113 : decode cX8_odds 113 = .ok (.aload_n 0, 1) := by decide +kernel
theorem dX8_odds_114 : decode cX8_odds 114 = .ok (.getfield 11, 3) := by decide +kernel
theorem dX8_odds_117 : decode cX8_odds 117 = .ok (.sipush 3200, 3) := by decide +kernel
theorem dX8_odds_120 : decode cX8_odds 120 = .ok (.iaload, 1) := by decide +kernel
theorem dX8_odds_121 : decode cX8_odds 121 = .ok (.iconst 1, 1) := by decide +kernel
theorem dX8_odds_122 : decode cX8_odds 122 = .ok (.iadd, 1) := by decide +kernel
theorem dX8_odds_123 : decode cX8_odds 123 = .ok (.iload_n 3, 1) := by decide +kernel
theorem dX8_odds_124 : decode cX8_odds 124 = .ok (.invokestatic 154, 3) := by decide +kernel
theorem dX8_odds_127 : decode cX8_odds 127 = .ok (.lreturn, 1) := by decide +kernel
theorem dX8_manyAt_0 : decode cX8_manyAt 0 = .ok (.iconst 0, 1) := by decide +kernel
theorem dX8_manyAt_1 : decode cX8_manyAt 1 = .ok (.istore_n 2, 1) := by decide +kernel
theorem dX8_manyAt_2 : decode cX8_manyAt 2 = .ok (.iconst 0, 1) := by decide +kernel
theorem dX8_manyAt_3 : decode cX8_manyAt 3 = .ok (.istore_n 3, 1) := by decide +kernel
theorem dX8_manyAt_4 : decode cX8_manyAt 4 = .ok (.iload_n 3, 1) := by decide +kernel
theorem dX8_manyAt_5 : decode cX8_manyAt 5 = .ok (.sipush 400, 3) := by decide +kernel
theorem dX8_manyAt_8 : decode cX8_manyAt 8 = .ok (.if_icmp .ge 29, 3) := by decide +kernel
theorem dX8_manyAt_11 : decode cX8_manyAt 11 = .ok (.iload_n 2, 1) := by decide +kernel
theorem dX8_manyAt_12 : decode cX8_manyAt 12 = .ok (.aload_n 0, 1) := by decide +kernel
theorem dX8_manyAt_13 : decode cX8_manyAt 13 = .ok (.getfield 11, 3) := by decide +kernel
theorem dX8_manyAt_16 : decode cX8_manyAt 16 = .ok (.iconst 0, 1) := by decide +kernel
theorem dX8_manyAt_17 : decode cX8_manyAt 17 = .ok (.iload_n 3, 1) := by decide +kernel
theorem dX8_manyAt_18 : decode cX8_manyAt 18 = .ok (.iadd, 1) := by decide +kernel
theorem dX8_manyAt_19 : decode cX8_manyAt 19 = .ok (.iaload, 1) := by decide +kernel
theorem dX8_manyAt_20 : decode cX8_manyAt 20 = .ok (.iload_n 1, 1) := by decide +kernel
theorem dX8_manyAt_21 : decode cX8_manyAt 21 = .ok (.if_icmp .ne 7, 3) := by decide +kernel
theorem dX8_manyAt_24 : decode cX8_manyAt 24 = .ok (.iconst 1, 1) := by decide +kernel
theorem dX8_manyAt_25 : decode cX8_manyAt 25 = .ok (.goto 4, 3) := by decide +kernel
theorem dX8_manyAt_28 : decode cX8_manyAt 28 = .ok (.iconst 0, 1) := by decide +kernel
theorem dX8_manyAt_29 : decode cX8_manyAt 29 = .ok (.iadd, 1) := by decide +kernel
theorem dX8_manyAt_30 : decode cX8_manyAt 30 = .ok (.istore_n 2, 1) := by decide +kernel
theorem dX8_manyAt_31 : decode cX8_manyAt 31 = .ok (.iinc 3 1, 3) := by decide +kernel
theorem dX8_manyAt_34 : decode cX8_manyAt 34 = .ok (.goto (-30), 3) := by decide +kernel
theorem dX8_manyAt_37 : decode cX8_manyAt 37 = .ok (.iload_n 2, 1) := by decide +kernel
theorem dX8_manyAt_38 : decode cX8_manyAt 38 = .ok (.ireturn, 1) := by decide +kernel
set_option maxRecDepth 20000 in
theorem ggX8_mean_X8_in : GoodIn wsX8_mean wsX8_in := goodIn_r _ [6] (by decide +kernel) (by decide +kernel)
set_option maxRecDepth 20000 in
theorem gX8_mean_X8_in : GoodIn wsX8_mean (va_wsS RX8 54 yX8_in wsX8_in) := goodIn_app (goodIn_of _ (by decide +kernel)) ggX8_mean_X8_in
set_option maxRecDepth 20000 in
theorem ggX8_mean_X8_manyAt : GoodIn wsX8_mean wsX8_manyAt := goodIn_r _ [10, 2, 17, 18, 19, 20, 21, 22, 23, 24, 25, 26, 27, 28, 29, 30, 31, 32, 33, 34, 35] (by decide +kernel) (by decide +kernel)
set_option maxRecDepth 20000 in
theorem gX8_mean_X8_manyAt : GoodIn wsX8_mean (wsV RX8 158 RX8 yX8_manyAt wsX8_manyAt) := goodIn_app (goodIn_of _ (by decide +kernel)) ggX8_mean_X8_manyAt
set_option maxRecDepth 20000 in
theorem ggX8_mean_X8_part : GoodIn wsX8_mean wsX8_part := goodIn_r _ [13, 14, 15, 5, 16] (by decide +kernel) (by decide +kernel)
set_option maxRecDepth 20000 in
theorem gX8_mean_X8_part : GoodIn wsX8_mean (va_wsS RX8 154 yX8_part wsX8_part) := goodIn_app (goodIn_of _ (by decide +kernel)) ggX8_mean_X8_part
theorem dX8_mean_0 : decode cX8_mean 0 = .ok (.iload_n 1, 1) := by decide +kernel
theorem dX8_mean_1 : decode cX8_mean 1 = .ok (.iconst 1, 1) := by decide +kernel
theorem dX8_mean_2 : decode cX8_mean 2 = .ok (.iconst 2, 1) := by decide +kernel
theorem dX8_mean_3 : decode cX8_mean 3 = .ok (.invokestatic 54, 3) := by decide +kernel
theorem dX8_mean_6 : decode cX8_mean 6 = .ok (.ifCond .eq 20, 3) := by decide +kernel
theorem dX8_mean_9 : decode cX8_mean 9 = .ok (.iload_n 2, 1) := by decide +kernel
theorem dX8_mean_10 : decode cX8_mean 10 = .ok (.iconst 0, 1) := by decide +kernel
theorem dX8_mean_11 : decode cX8_mean 11 = .ok (.iconst 1, 1) := by decide +kernel
theorem dX8_mean_12 : decode cX8_mean 12 = .ok (.invokestatic 54, 3) := by decide +kernel
theorem dX8_mean_15 : decode cX8_mean 15 = .ok (.ifCond .eq 11, 3) := by decide +kernel
theorem dX8_mean_18 : decode cX8_mean 18 = .ok (.aload_n 0, 1) := by decide +kernel
theorem dX8_mean_19 : decode cX8_mean 19 = .ok (.iload_n 1, 1) := by decide +kernel
theorem dX8_mean_20 : decode cX8_mean 20 = .ok (.invokevirtual 158, 3) := by decide +kernel
theorem dX8_mean_23 : decode cX8_mean 23 = .ok (.ifCond .ne 7, 3) := by decide +kernel
theorem dX8_mean_26 : decode cX8_mean 26 = .ok (.ldc2_w 104, 3) := by decide +kernel
theorem dX8_mean_29 : decode cX8_mean 29 = .ok (.lreturn, 1) := by decide +kernel
theorem dX8_mean_30 : decode cX8_mean 30 = .ok (.iconst 0, 1) := by decide +kernel
theorem dX8_mean_31 : decode cX8_mean 31 = .ok (.istore_n 3, 1) := by decide +kernel
theorem dX8_mean_32 : decode cX8_mean 32 = .ok (.iconst 0, 1) := by decide +kernel
theorem dX8_mean_33 : decode cX8_mean 33 = .ok (.istore 4, 2) := by decide +kernel
theorem dX8_mean_35 : decode cX8_mean 35 = .ok (.iload 4, 2) := by decide +kernel
theorem dX8_mean_37 : decode cX8_mean 37 = .ok (.sipush 400, 3) := by decide +kernel
theorem dX8_mean_40 : decode cX8_mean 40 = .ok (.if_icmp .ge 40, 3) := by decide +kernel
theorem dX8_mean_43 : decode cX8_mean 43 = .ok (.iload_n 3, 1) := by decide +kernel
theorem dX8_mean_44 : decode cX8_mean 44 = .ok (.aload_n 0, 1) := by decide +kernel
theorem dX8_mean_45 : decode cX8_mean 45 = .ok (.getfield 11, 3) := by decide +kernel
theorem dX8_mean_48 : decode cX8_mean 48 = .ok (.iconst 0, 1) := by decide +kernel
theorem dX8_mean_49 : decode cX8_mean 49 = .ok (.iload 4, 2) := by decide +kernel
theorem dX8_mean_51 : decode cX8_mean 51 = .ok (.iadd, 1) := by decide +kernel
theorem dX8_mean_52 : decode cX8_mean 52 = .ok (.iaload, 1) := by decide +kernel
theorem dX8_mean_53 : decode cX8_mean 53 = .ok (.iload_n 1, 1) := by decide +kernel
theorem dX8_mean_54 : decode cX8_mean 54 = .ok (.if_icmp .ne 17, 3) := by decide +kernel
theorem dX8_mean_57 : decode cX8_mean 57 = .ok (.aload_n 0, 1) := by decide +kernel
theorem dX8_mean_58 : decode cX8_mean 58 = .ok (.getfield 11, 3) := by decide +kernel
theorem dX8_mean_61 : decode cX8_mean 61 = .ok (.sipush 1200, 3) := by decide +kernel
theorem dX8_mean_64 : decode cX8_mean 64 = .ok (.iload 4, 2) := by decide +kernel
theorem dX8_mean_66 : decode cX8_mean 66 = .ok (.iadd, 1) := by decide +kernel
theorem dX8_mean_67 : decode cX8_mean 67 = .ok (.iaload, 1) := by decide +kernel
theorem dX8_mean_68 : decode cX8_mean 68 = .ok (.goto 4, 3) := by decide +kernel
theorem dX8_mean_71 : decode cX8_mean 71 = .ok (.iconst 0, 1) := by decide +kernel
theorem dX8_mean_72 : decode cX8_mean 72 = .ok (.iadd, 1) := by decide +kernel
theorem dX8_mean_73 : decode cX8_mean 73 = .ok (.istore_n 3, 1) := by decide +kernel
theorem dX8_mean_74 : decode cX8_mean 74 = .ok (.iinc 4 1, 3) := by decide +kernel
theorem dX8_mean_77 : decode cX8_mean 77 = .ok (.goto (-42), 3) := by decide +kernel
theorem dX8_mean_80 : decode cX8_mean 80 = .ok (.iload_n 3, 1) := by decide +kernel
theorem dX8_mean_81 : decode cX8_mean 81 = .ok (.aload_n 0, 1) := by decide +kernel
theorem dX8_mean_82 : decode cX8_mean 82 = .ok (.iload_n 1, 1) := by decide +kernel
theorem dX8_mean_83 : decode cX8_mean 83 = .ok (.invokevirtual 158, 3) := by decide +kernel
theorem dX8_mean_86 : decode cX8_mean 86 = .ok (.iload_n 2, 1) := by decide +kernel
theorem dX8_mean_87 : decode cX8_mean 87 = .ok (.invokestatic 154, 3) := by decide +kernel
theorem dX8_mean_90 : decode cX8_mean 90 = .ok (.lreturn, 1) := by decide +kernel
set_option maxRecDepth 20000 in
theorem ggX8_book_X8_isKey : GoodIn wsX8_book wsX8_isKey := goodIn_r _ [5, 6, 7, 4, 8] (by decide +kernel) (by decide +kernel)
set_option maxRecDepth 20000 in
theorem gX8_book_X8_isKey : GoodIn wsX8_book (va_wsS RX8 96 yX8_isKey wsX8_isKey) := goodIn_app (goodIn_of _ (by decide +kernel)) ggX8_book_X8_isKey
set_option maxRecDepth 20000 in
theorem ggX8_book_X8_in : GoodIn wsX8_book wsX8_in := goodIn_r _ [8] (by decide +kernel) (by decide +kernel)
set_option maxRecDepth 20000 in
theorem gX8_book_X8_in : GoodIn wsX8_book (va_wsS RX8 54 yX8_in wsX8_in) := goodIn_app (goodIn_of _ (by decide +kernel)) ggX8_book_X8_in
theorem dX8_book_0 : decode cX8_book 0 = .ok (.iload_n 1, 1) := by decide +kernel
theorem dX8_book_1 : decode cX8_book 1 = .ok (.iconst (-1), 1) := by decide +kernel
theorem dX8_book_2 : decode cX8_book 2 = .ok (.if_icmp .ne 14, 3) := by decide +kernel
theorem dX8_book_5 : decode cX8_book 5 = .ok (.aload_n 0, 1) := by decide +kernel
theorem dX8_book_6 : decode cX8_book 6 = .ok (.getfield 11, 3) := by decide +kernel
theorem dX8_book_9 : decode cX8_book 9 = .ok (.sipush 3236, 3) := by decide +kernel
theorem dX8_book_12 : decode cX8_book 12 = .ok (.iconst 0, 1) := by decide +kernel
theorem dX8_book_13 : decode cX8_book 13 = .ok (.iastore, 1) := by decide +kernel
theorem dX8_book_14 : decode cX8_book 14 = .ok (.iconst 0, 1) := by decide +kernel
theorem dX8_book_15 : decode cX8_book 15 = .ok (.ireturn, 1) := by decide +kernel
theorem dX8_book_16 : decode cX8_book 16 = .ok (.iload_n 1, 1) := by decide +kernel
theorem dX8_book_17 : decode cX8_book 17 = .ok (.iload_n 2, 1) := by decide +kernel
theorem dX8_book_18 : decode cX8_book 18 = .ok (.invokestatic 96, 3) := by decide +kernel
theorem dX8_book_21 : decode cX8_book 21 = .ok (.ifCond .ne 5, 3) := by decide +kernel
theorem dX8_book_24 : decode cX8_book 24 = .ok (.iconst (-1), 1) := by decide +kernel
theorem dX8_book_25 : decode cX8_book 25 = .ok (.ireturn, 1) := by decide +kernel
theorem dX8_book_26 : decode cX8_book 26 = .ok (.iload_n 3, 1) := by decide +kernel
theorem dX8_book_27 : decode cX8_book 27 = .ok (.iconst 0, 1) := by decide +kernel
theorem dX8_book_28 : decode cX8_book 28 = .ok (.iconst 4, 1) := by decide +kernel
theorem dX8_book_29 : decode cX8_book 29 = .ok (.invokestatic 54, 3) := by decide +kernel
theorem dX8_book_32 : decode cX8_book 32 = .ok (.ifCond .ne 6, 3) := by decide +kernel
theorem dX8_book_35 : decode cX8_book 35 = .ok (.bipush (-2), 2) := by decide +kernel
theorem dX8_book_37 : decode cX8_book 37 = .ok (.ireturn, 1) := by decide +kernel
theorem dX8_book_38 : decode cX8_book 38 = .ok (.aload_n 0, 1) := by decide +kernel
theorem dX8_book_39 : decode cX8_book 39 = .ok (.getfield 11, 3) := by decide +kernel
theorem dX8_book_42 : decode cX8_book 42 = .ok (.sipush 3236, 3) := by decide +kernel
theorem dX8_book_45 : decode cX8_book 45 = .ok (.iaload, 1) := by decide +kernel
theorem dX8_book_46 : decode cX8_book 46 = .ok (.bipush 8, 2) := by decide +kernel
theorem dX8_book_48 : decode cX8_book 48 = .ok (.if_icmp .ne 6, 3) := by decide +kernel
theorem dX8_book_51 : decode cX8_book 51 = .ok (.bipush (-4), 2) := by decide +kernel
theorem dX8_book_53 : decode cX8_book 53 = .ok (.ireturn, 1) := by decide +kernel
theorem dX8_book_54 : decode cX8_book 54 = .ok (.aload_n 0, 1) := by decide +kernel
theorem dX8_book_55 : decode cX8_book 55 = .ok (.getfield 11, 3) := by decide +kernel
theorem dX8_book_58 : decode cX8_book 58 = .ok (.sipush 3237, 3) := by decide +kernel
theorem dX8_book_61 : decode cX8_book 61 = .ok (.iconst 2, 1) := by decide +kernel
theorem dX8_book_62 : decode cX8_book 62 = .ok (.aload_n 0, 1) := by decide +kernel
theorem dX8_book_63 : decode cX8_book 63 = .ok (.getfield 11, 3) := by decide +kernel
theorem dX8_book_66 : decode cX8_book 66 = .ok (.sipush 3236, 3) := by decide +kernel
theorem dX8_book_69 : decode cX8_book 69 = .ok (.iaload, 1) := by decide +kernel
theorem dX8_book_70 : decode cX8_book 70 = .ok (.imul, 1) := by decide +kernel
theorem dX8_book_71 : decode cX8_book 71 = .ok (.iadd, 1) := by decide +kernel
theorem dX8_book_72 : decode cX8_book 72 = .ok (.bipush 100, 2) := by decide +kernel
theorem dX8_book_74 : decode cX8_book 74 = .ok (.iload_n 1, 1) := by decide +kernel
theorem dX8_book_75 : decode cX8_book 75 = .ok (.imul, 1) := by decide +kernel
theorem dX8_book_76 : decode cX8_book 76 = .ok (.iload_n 2, 1) := by decide +kernel
theorem dX8_book_77 : decode cX8_book 77 = .ok (.iadd, 1) := by decide +kernel
theorem dX8_book_78 : decode cX8_book 78 = .ok (.iastore, 1) := by decide +kernel
theorem dX8_book_79 : decode cX8_book 79 = .ok (.aload_n 0, 1) := by decide +kernel
theorem dX8_book_80 : decode cX8_book 80 = .ok (.getfield 11, 3) := by decide +kernel
theorem dX8_book_83 : decode cX8_book 83 = .ok (.sipush 3237, 3) := by decide +kernel
theorem dX8_book_86 : decode cX8_book 86 = .ok (.iconst 2, 1) := by decide +kernel
theorem dX8_book_87 : decode cX8_book 87 = .ok (.aload_n 0, 1) := by decide +kernel
theorem dX8_book_88 : decode cX8_book 88 = .ok (.getfield 11, 3) := by decide +kernel
theorem dX8_book_91 : decode cX8_book 91 = .ok (.sipush 3236, 3) := by decide +kernel
theorem dX8_book_94 : decode cX8_book 94 = .ok (.iaload, 1) := by decide +kernel
theorem dX8_book_95 : decode cX8_book 95 = .ok (.imul, 1) := by decide +kernel
theorem dX8_book_96 : decode cX8_book 96 = .ok (.iadd, 1) := by decide +kernel
theorem dX8_book_97 : decode cX8_book 97 = .ok (.iconst 1, 1) := by decide +kernel
theorem dX8_book_98 : decode cX8_book 98 = .ok (.iadd, 1) := by decide +kernel
theorem dX8_book_99 : decode cX8_book 99 = .ok (.iload_n 3, 1) := by decide +kernel
theorem dX8_book_100 : decode cX8_book 100 = .ok (.iastore, 1) := by decide +kernel
theorem dX8_book_101 : decode cX8_book 101 = .ok (.aload_n 0, 1) := by decide +kernel
theorem dX8_book_102 : decode cX8_book 102 = .ok (.getfield 11, 3) := by decide +kernel
theorem dX8_book_105 : decode cX8_book 105 = .ok (.sipush 3236, 3) := by decide +kernel
theorem dX8_book_108 : decode cX8_book 108 = .ok (.dup2, 1) := by decide +kernel
theorem dX8_book_109 : decode cX8_book 109 = .ok (.iaload, 1) := by decide +kernel
theorem dX8_book_110 : decode cX8_book 110 = .ok (.iconst 1, 1) := by decide +kernel
theorem dX8_book_111 : decode cX8_book 111 = .ok (.iadd, 1) := by decide +kernel
theorem dX8_book_112 : decode cX8_book 112 = .ok (.iastore, 1) := by decide +kernel
theorem dX8_book_113 : decode cX8_book 113 = .ok (.aload_n 0, 1) := by decide +kernel
theorem dX8_book_114 : decode cX8_book 114 = .ok (.getfield 11, 3) := by decide +kernel
theorem dX8_book_117 : decode cX8_book 117 = .ok (.sipush 3236, 3) := by decide +kernel
theorem dX8_book_120 : decode cX8_book 120 = .ok (.iaload, 1) := by decide +kernel
theorem dX8_book_121 : decode cX8_book 121 = .ok (.ireturn, 1) := by decide +kernel
theorem dX8_looked_0 : decode cX8_looked 0 = .ok (.iconst 0, 1) := by decide +kernel
theorem dX8_looked_1 : decode cX8_looked 1 = .ok (.istore_n 1, 1) := by decide +kernel
theorem dX8_looked_2 : decode cX8_looked 2 = .ok (.iload_n 1, 1) := by decide +kernel
theorem dX8_looked_3 : decode cX8_looked 3 = .ok (.aload_n 0, 1) := by decide +kernel
theorem dX8_looked_4 : decode cX8_looked 4 = .ok (.getfield 11, 3) := by decide +kernel
theorem dX8_looked_7 : decode cX8_looked 7 = .ok (.sipush 3236, 3) := by decide +kernel
theorem dX8_looked_10 : decode cX8_looked 10 = .ok (.iaload, 1) := by decide +kernel
theorem dX8_looked_11 : decode cX8_looked 11 = .ok (.if_icmp .ge 47, 3) := by decide +kernel
theorem dX8_looked_14 : decode cX8_looked 14 = .ok (.aload_n 0, 1) := by decide +kernel
theorem dX8_looked_15 : decode cX8_looked 15 = .ok (.getfield 11, 3) := by decide +kernel
theorem dX8_looked_18 : decode cX8_looked 18 = .ok (.iconst 0, 1) := by decide +kernel
theorem dX8_looked_19 : decode cX8_looked 19 = .ok (.aload_n 0, 1) := by decide +kernel
theorem dX8_looked_20 : decode cX8_looked 20 = .ok (.getfield 11, 3) := by decide +kernel
theorem dX8_looked_23 : decode cX8_looked 23 = .ok (.sipush 3237, 3) := by decide +kernel
theorem dX8_looked_26 : decode cX8_looked 26 = .ok (.iconst 2, 1) := by decide +kernel
theorem dX8_looked_27 : decode cX8_looked 27 = .ok (.iload_n 1, 1) := by decide +kernel
theorem dX8_looked_28 : decode cX8_looked 28 = .ok (.imul, 1) := by decide +kernel
theorem dX8_looked_29 : decode cX8_looked 29 = .ok (.iadd, 1) := by decide +kernel
theorem dX8_looked_30 : decode cX8_looked 30 = .ok (.iaload, 1) := by decide +kernel
theorem dX8_looked_31 : decode cX8_looked 31 = .ok (.iadd, 1) := by decide +kernel
theorem dX8_looked_32 : decode cX8_looked 32 = .ok (.iaload, 1) := by decide +kernel
theorem dX8_looked_33 : decode cX8_looked 33 = .ok (.aload_n 0, 1) := by decide +kernel
theorem dX8_looked_34 : decode cX8_looked 34 = .ok (.getfield 11, 3) := by decide +kernel
theorem dX8_looked_37 : decode cX8_looked 37 = .ok (.sipush 3237, 3) := by decide +kernel
theorem dX8_looked_40 : decode cX8_looked 40 = .ok (.iconst 2, 1) := by decide +kernel
theorem dX8_looked_41 : decode cX8_looked 41 = .ok (.iload_n 1, 1) := by decide +kernel
theorem dX8_looked_42 : decode cX8_looked 42 = .ok (.imul, 1) := by decide +kernel
theorem dX8_looked_43 : decode cX8_looked 43 = .ok (.iadd, 1) := by decide +kernel
theorem dX8_looked_44 : decode cX8_looked 44 = .ok (.iconst 1, 1) := by decide +kernel
theorem dX8_looked_45 : decode cX8_looked 45 = .ok (.iadd, 1) := by decide +kernel
theorem dX8_looked_46 : decode cX8_looked 46 = .ok (.iaload, 1) := by decide +kernel
theorem dX8_looked_47 : decode cX8_looked 47 = .ok (.if_icmp .eq 5, 3) := by decide +kernel
theorem dX8_looked_50 : decode cX8_looked 50 = .ok (.iload_n 1, 1) := by decide +kernel
theorem dX8_looked_51 : decode cX8_looked 51 = .ok (.ireturn, 1) := by decide +kernel
theorem dX8_looked_52 : decode cX8_looked 52 = .ok (.iinc 1 1, 3) := by decide +kernel
theorem dX8_looked_55 : decode cX8_looked 55 = .ok (.goto (-53), 3) := by decide +kernel
theorem dX8_looked_58 : decode cX8_looked 58 = .ok (.bipush (-5), 2) := by decide +kernel
theorem dX8_looked_60 : decode cX8_looked 60 = .ok (.ireturn, 1) := by decide +kernel
set_option maxRecDepth 20000 in
theorem ggX8_isTape_X8_in : GoodIn wsX8_isTape wsX8_in := goodIn_r _ [4] (by decide +kernel) (by decide +kernel)
set_option maxRecDepth 20000 in
theorem gX8_isTape_X8_in : GoodIn wsX8_isTape (va_wsS RX8 54 yX8_in wsX8_in) := goodIn_app (goodIn_of _ (by decide +kernel)) ggX8_isTape_X8_in
theorem dX8_isTape_0 : decode cX8_isTape 0 = .ok (.iload_n 0, 1) := by decide +kernel
theorem dX8_isTape_1 : decode cX8_isTape 1 = .ok (.iconst 0, 1) := by decide +kernel
theorem dX8_isTape_2 : decode cX8_isTape 2 = .ok (.iconst 5, 1) := by decide +kernel
theorem dX8_isTape_3 : decode cX8_isTape 3 = .ok (.invokestatic 54, 3) := by decide +kernel
theorem dX8_isTape_6 : decode cX8_isTape 6 = .ok (.ireturn, 1) := by decide +kernel
set_option maxRecDepth 20000 in
theorem ggX8_judge_X8_isTape : GoodIn wsX8_judge wsX8_isTape := goodIn_r _ [7, 8, 9, 6, 10] (by decide +kernel) (by decide +kernel)
set_option maxRecDepth 20000 in
theorem gX8_judge_X8_isTape : GoodIn wsX8_judge (va_wsS RX8 161 yX8_isTape wsX8_isTape) := goodIn_app (goodIn_of _ (by decide +kernel)) ggX8_judge_X8_isTape
set_option maxRecDepth 20000 in
theorem ggX8_judge_X8_manyAt : GoodIn wsX8_judge wsX8_manyAt := goodIn_r _ [14, 15, 24, 25, 26, 27, 28, 29, 30, 31, 32, 33, 34, 35, 36, 37, 38, 39, 40, 41, 42] (by decide +kernel) (by decide +kernel)
set_option maxRecDepth 20000 in
theorem gX8_judge_X8_manyAt : GoodIn wsX8_judge (wsV RX8 158 RX8 yX8_manyAt wsX8_manyAt) := goodIn_app (goodIn_of _ (by decide +kernel)) ggX8_judge_X8_manyAt
set_option maxRecDepth 20000 in
theorem ggX8_judge_X8_keyAt : GoodIn wsX8_judge wsX8_keyAt := goodIn_r _ [19, 15, 20, 21, 22, 6, 23, 24, 25, 26, 27, 28, 29, 30, 31, 32, 33, 34, 35, 36, 37, 38, 39, 40, 41, 42] (by decide +kernel) (by decide +kernel)
set_option maxRecDepth 20000 in
theorem gX8_judge_X8_keyAt : GoodIn wsX8_judge (wsV RX8 116 RX8 yX8_keyAt wsX8_keyAt) := goodIn_app (goodIn_of _ (by decide +kernel)) ggX8_judge_X8_keyAt
theorem dX8_judge_0 : decode cX8_judge 0 = .ok (.iload_n 1, 1) := by decide +kernel
theorem dX8_judge_1 : decode cX8_judge 1 = .ok (.invokestatic 161, 3) := by decide +kernel
theorem dX8_judge_4 : decode cX8_judge 4 = .ok (.ifCond .ne 5, 3) := by decide +kernel
theorem dX8_judge_7 : decode cX8_judge 7 = .ok (.iconst (-1), 1) := by decide +kernel
theorem dX8_judge_8 : decode cX8_judge 8 = .ok (.ireturn, 1) := by decide +kernel
theorem dX8_judge_9 : decode cX8_judge 9 = .ok (.aload_n 0, 1) := by decide +kernel
theorem dX8_judge_10 : decode cX8_judge 10 = .ok (.getfield 39, 3) := by decide +kernel
theorem dX8_judge_13 : decode cX8_judge 13 = .ok (.iload_n 1, 1) := by decide +kernel
theorem dX8_judge_14 : decode cX8_judge 14 = .ok (.iaload, 1) := by decide +kernel
theorem dX8_judge_15 : decode cX8_judge 15 = .ok (.ifCond .lt 16, 3) := by decide +kernel
theorem dX8_judge_18 : decode cX8_judge 18 = .ok (.aload_n 0, 1) := by decide +kernel
theorem dX8_judge_19 : decode cX8_judge 19 = .ok (.getfield 39, 3) := by decide +kernel
theorem dX8_judge_22 : decode cX8_judge 22 = .ok (.iload_n 1, 1) := by decide +kernel
theorem dX8_judge_23 : decode cX8_judge 23 = .ok (.iaload, 1) := by decide +kernel
theorem dX8_judge_24 : decode cX8_judge 24 = .ok (.iconst 1, 1) := by decide +kernel
theorem dX8_judge_25 : decode cX8_judge 25 = .ok (.if_icmp .eq 6, 3) := by decide +kernel
theorem dX8_judge_28 : decode cX8_judge 28 = .ok (.bipush (-12), 2) := by decide +kernel
theorem dX8_judge_30 : decode cX8_judge 30 = .ok (.ireturn, 1) := by decide +kernel
theorem dX8_judge_31 : decode cX8_judge 31 = .ok (.aload_n 0, 1) := by decide +kernel
theorem dX8_judge_32 : decode cX8_judge 32 = .ok (.iconst 1, 1) := by decide +kernel
theorem dX8_judge_33 : decode cX8_judge 33 = .ok (.invokevirtual 158, 3) := by decide +kernel
theorem dX8_judge_36 : decode cX8_judge 36 = .ok (.istore_n 3, 1) := by decide +kernel
theorem dX8_judge_37 : decode cX8_judge 37 = .ok (.iconst 0, 1) := by decide +kernel
theorem dX8_judge_38 : decode cX8_judge 38 = .ok (.istore 4, 2) := by decide +kernel
theorem dX8_judge_40 : decode cX8_judge 40 = .ok (.iload 4, 2) := by decide +kernel
theorem dX8_judge_42 : decode cX8_judge 42 = .ok (.iload_n 3, 1) := by decide +kernel
theorem dX8_judge_43 : decode cX8_judge 43 = .ok (.if_icmp .ge 67, 3) := by decide +kernel
theorem dX8_judge_46 : decode cX8_judge 46 = .ok (.aload_n 0, 1) := by decide +kernel
theorem dX8_judge_47 : decode cX8_judge 47 = .ok (.getfield 39, 3) := by decide +kernel
theorem dX8_judge_50 : decode cX8_judge 50 = .ok (.iload_n 1, 1) := by decide +kernel
theorem dX8_judge_51 : decode cX8_judge 51 = .ok (.iaload, 1) := by decide +kernel
theorem dX8_judge_52 : decode cX8_judge 52 = .ok (.ifCond .lt 20, 3) := by decide +kernel
theorem dX8_judge_55 : decode cX8_judge 55 = .ok (.iload_n 2, 1) := by decide +kernel
theorem dX8_judge_56 : decode cX8_judge 56 = .ok (.ifCond .lt 16, 3) := by decide +kernel
theorem dX8_judge_59 : decode cX8_judge 59 = .ok (.iload_n 2, 1) := by decide +kernel
theorem dX8_judge_60 : decode cX8_judge 60 = .ok (.aload_n 0, 1) := by decide +kernel
theorem dX8_judge_61 : decode cX8_judge 61 = .ok (.getfield 42, 3) := by decide +kernel
theorem dX8_judge_64 : decode cX8_judge 64 = .ok (.iload_n 1, 1) := by decide +kernel
theorem dX8_judge_65 : decode cX8_judge 65 = .ok (.iaload, 1) := by decide +kernel
theorem dX8_judge_66 : decode cX8_judge 66 = .ok (.iload 4, 2) := by decide +kernel
theorem dX8_judge_68 : decode cX8_judge 68 = .ok (.isub, 1) := by decide +kernel
theorem dX8_judge_69 : decode cX8_judge 69 = .ok (.if_icmp .lt 9, 3) := by decide +kernel
theorem dX8_judge_72 : decode cX8_judge 72 = .ok (.bipush 100, 2) := by decide +kernel
theorem dX8_judge_74 : decode cX8_judge 74 = .ok (.iload 4, 2) := by decide +kernel
theorem dX8_judge_76 : decode cX8_judge 76 = .ok (.iadd, 1) := by decide +kernel
theorem dX8_judge_77 : decode cX8_judge 77 = .ok (.ireturn, 1) := by decide +kernel
theorem dX8_judge_78 : decode cX8_judge 78 = .ok (.aload_n 0, 1) := by decide +kernel
theorem dX8_judge_79 : decode cX8_judge 79 = .ok (.getfield 47, 3) := by decide +kernel
theorem dX8_judge_82 : decode cX8_judge 82 = .ok (.iload_n 1, 1) := by decide +kernel
theorem dX8_judge_83 : decode cX8_judge 83 = .ok (.aaload, 1) := by decide +kernel
theorem dX8_judge_84 : decode cX8_judge 84 = .ok (.iload_n 2, 1) := by decide +kernel
theorem dX8_judge_85 : decode cX8_judge 85 = .ok (.iload 4, 2) := by decide +kernel
theorem dX8_judge_87 : decode cX8_judge 87 = .ok (.iadd, 1) := by decide +kernel
theorem dX8_judge_88 : decode cX8_judge 88 = .ok (.laload, 1) := by decide +kernel
theorem dX8_judge_89 : decode cX8_judge 89 = .ok (.aload_n 0, 1) := by decide +kernel
theorem dX8_judge_90 : decode cX8_judge 90 = .ok (.iconst 1, 1) := by decide +kernel
theorem dX8_judge_91 : decode cX8_judge 91 = .ok (.iload 4, 2) := by decide +kernel
theorem dX8_judge_93 : decode cX8_judge 93 = .ok (.invokevirtual 116, 3) := by decide +kernel
theorem dX8_judge_96 : decode cX8_judge 96 = .ok (.i2l, 1) := by decide +kernel
theorem dX8_judge_97 : decode cX8_judge 97 = .ok (.lcmp, 1) := by decide +kernel
theorem dX8_judge_98 : decode cX8_judge 98 = .ok (.ifCond .eq 6, 3) := by decide +kernel
theorem dX8_judge_101 : decode cX8_judge 101 = .ok (.iload 4, 2) := by decide +kernel
theorem dX8_judge_103 : decode cX8_judge 103 = .ok (.ireturn, 1) := by decide +kernel
theorem dX8_judge_104 : decode cX8_judge 104 = .ok (.iinc 4 1, 3) := by decide +kernel
theorem dX8_judge_107 : decode cX8_judge 107 = .ok (.goto (-67), 3) := by decide +kernel
theorem dX8_judge_110 : decode cX8_judge 110 = .ok (.bipush (-5), 2) := by decide +kernel
theorem dX8_judge_112 : decode cX8_judge 112 = .ok (.ireturn, 1) := by decide +kernel
set_option maxRecDepth 20000 in
theorem ggX8_image_X8_copy : GoodIn wsX8_image wsX8_copy := goodIn_r _ [7] (by decide +kernel) (by decide +kernel)
set_option maxRecDepth 20000 in
theorem gX8_image_X8_copy : GoodIn wsX8_image (va_wsS RX8 120 yX8_copy wsX8_copy) := goodIn_app (goodIn_of _ (by decide +kernel)) ggX8_image_X8_copy
set_option maxRecDepth 20000 in
theorem ggX8_image_X8_manyAt : GoodIn wsX8_image wsX8_manyAt := goodIn_r _ [11, 1, 12, 13, 14, 15, 16, 17, 18, 19, 20, 21, 22, 23, 24, 25, 26, 27, 28, 29, 30] (by decide +kernel) (by decide +kernel)
set_option maxRecDepth 20000 in
theorem gX8_image_X8_manyAt : GoodIn wsX8_image (wsV RX8 158 RX8 yX8_manyAt wsX8_manyAt) := goodIn_app (goodIn_of _ (by decide +kernel)) ggX8_image_X8_manyAt
theorem dX8_image_0 : decode cX8_image 0 = .ok (.aload_n 0, 1) := by decide +kernel
theorem dX8_image_1 : decode cX8_image 1 = .ok (.getfield 11, 3) := by decide +kernel
theorem dX8_image_4 : decode cX8_image 4 = .ok (.aload_n 0, 1) := by decide +kernel
theorem dX8_image_5 : decode cX8_image 5 = .ok (.getfield 18, 3) := by decide +kernel
theorem dX8_image_8 : decode cX8_image 8 = .ok (.invokestatic 120, 3) := by decide +kernel
theorem dX8_image_11 : decode cX8_image 11 = .ok (.aload_n 0, 1) := by decide +kernel
theorem dX8_image_12 : decode cX8_image 12 = .ok (.iconst 1, 1) := by decide +kernel
theorem dX8_image_13 : decode cX8_image 13 = .ok (.putfield 164, 3) := by decide +kernel
theorem dX8_image_16 : decode cX8_image 16 = .ok (.aload_n 0, 1) := by decide +kernel
theorem dX8_image_17 : decode cX8_image 17 = .ok (.iconst 1, 1) := by decide +kernel
theorem dX8_image_18 : decode cX8_image 18 = .ok (.invokevirtual 158, 3) := by decide +kernel
theorem dX8_image_21 : decode cX8_image 21 = .ok (.aload_n 0, 1) := by decide +kernel
theorem dX8_image_22 : decode cX8_image 22 = .ok (.iconst 2, 1) := by decide +kernel
theorem dX8_image_23 : decode cX8_image 23 = .ok (.invokevirtual 158, 3) := by decide +kernel
theorem dX8_image_26 : decode cX8_image 26 = .ok (.iadd, 1) := by decide +kernel
theorem dX8_image_27 : decode cX8_image 27 = .ok (.ireturn, 1) := by decide +kernel
set_option maxRecDepth 20000 in
theorem ggX8_undo_X8_copy : GoodIn wsX8_undo wsX8_copy := goodIn_r _ [7] (by decide +kernel) (by decide +kernel)
set_option maxRecDepth 20000 in
theorem gX8_undo_X8_copy : GoodIn wsX8_undo (va_wsS RX8 120 yX8_copy wsX8_copy) := goodIn_app (goodIn_of _ (by decide +kernel)) ggX8_undo_X8_copy
set_option maxRecDepth 20000 in
theorem ggX8_undo_X8_manyAt : GoodIn wsX8_undo wsX8_manyAt := goodIn_r _ [11, 3, 12, 13, 14, 15, 16, 17, 18, 19, 20, 21, 22, 23, 24, 25, 26, 27, 28, 29, 30] (by decide +kernel) (by decide +kernel)
set_option maxRecDepth 20000 in
theorem gX8_undo_X8_manyAt : GoodIn wsX8_undo (wsV RX8 158 RX8 yX8_manyAt wsX8_manyAt) := goodIn_app (goodIn_of _ (by decide +kernel)) ggX8_undo_X8_manyAt
theorem dX8_undo_0 : decode cX8_undo 0 = .ok (.aload_n 0, 1) := by decide +kernel
theorem dX8_undo_1 : decode cX8_undo 1 = .ok (.getfield 164, 3) := by decide +kernel
theorem dX8_undo_4 : decode cX8_undo 4 = .ok (.ifCond .ne 6, 3) := by decide +kernel
theorem dX8_undo_7 : decode cX8_undo 7 = .ok (.bipush (-3), 2) := by decide +kernel
theorem dX8_undo_9 : decode cX8_undo 9 = .ok (.ireturn, 1) := by decide +kernel
theorem dX8_undo_10 : decode cX8_undo 10 = .ok (.aload_n 0, 1) := by decide +kernel
end
section
theorem dX8_undo_11 : decode cX8_undo 11 = .ok (.getfield 18, 3) := by decide +kernel
theorem dX8_undo_14 : decode cX8_undo 14 = .ok (.aload_n 0, 1) := by decide +kernel
theorem dX8_undo_15 : decode cX8_undo 15 = .ok (.getfield 11, 3) := by decide +kernel
theorem dX8_undo_18 : decode cX8_undo 18 = .ok (.invokestatic 120, 3) := by decide +kernel
theorem dX8_undo_21 : decode cX8_undo 21 = .ok (.aload_n 0, 1) := by decide +kernel
theorem dX8_undo_22 : decode cX8_undo 22 = .ok (.iconst 1, 1) := by decide +kernel
theorem dX8_undo_23 : decode cX8_undo 23 = .ok (.invokevirtual 158, 3) := by decide +kernel
theorem dX8_undo_26 : decode cX8_undo 26 = .ok (.aload_n 0, 1) := by decide +kernel
theorem dX8_undo_27 : decode cX8_undo 27 = .ok (.iconst 2, 1) := by decide +kernel
theorem dX8_undo_28 : decode cX8_undo 28 = .ok (.invokevirtual 158, 3) := by decide +kernel
theorem dX8_undo_31 : decode cX8_undo 31 = .ok (.iadd, 1) := by decide +kernel
theorem dX8_undo_32 : decode cX8_undo 32 = .ok (.ireturn, 1) := by decide +kernel
set_option maxRecDepth 20000 in
theorem ggX8_count_X8_manyAt : GoodIn wsX8_count wsX8_manyAt := goodIn_r _ [8, 2, 9, 10, 11, 12, 13, 14, 15, 16, 17, 18, 19, 20, 21, 22, 23, 24, 25, 26, 27] (by decide +kernel) (by decide +kernel)
set_option maxRecDepth 20000 in
theorem gX8_count_X8_manyAt : GoodIn wsX8_count (wsV RX8 158 RX8 yX8_manyAt wsX8_manyAt) := goodIn_app (goodIn_of _ (by decide +kernel)) ggX8_count_X8_manyAt
theorem dX8_count_0 : decode cX8_count 0 = .ok (.iload_n 1, 1) := by decide +kernel
theorem dX8_count_1 : decode cX8_count 1 = .ok (.tableswitch 70 0 6 #[43, 43, 43, 43, 51, 56, 65], 43) := by decide +kernel
theorem dX8_count_44 : decode cX8_count 44 = .ok (.aload_n 0, 1) := by decide +kernel
theorem dX8_count_45 : decode cX8_count 45 = .ok (.iload_n 1, 1) := by decide +kernel
theorem dX8_count_46 : decode cX8_count 46 = .ok (.iconst 1, 1) := by decide +kernel
theorem dX8_count_47 : decode cX8_count 47 = .ok (.iadd, 1) := by decide +kernel
theorem dX8_count_48 : decode cX8_count 48 = .ok (.invokevirtual 158, 3) := by decide +kernel
theorem dX8_count_51 : decode cX8_count 51 = .ok (.ireturn, 1) := by decide +kernel
theorem dX8_count_52 : decode cX8_count 52 = .ok (.aload_n 0, 1) := by decide +kernel
theorem dX8_count_53 : decode cX8_count 53 = .ok (.getfield 139, 3) := by decide +kernel
theorem dX8_count_56 : decode cX8_count 56 = .ok (.ireturn, 1) := by decide +kernel
theorem dX8_count_57 : decode cX8_count 57 = .ok (.aload_n 0, 1) := by decide +kernel
theorem dX8_count_58 : decode cX8_count 58 = .ok (.getfield 11, 3) := by decide +kernel
theorem dX8_count_61 : decode cX8_count 61 = .ok (.sipush 3236, 3) := by decide +kernel
theorem dX8_count_64 : decode cX8_count 64 = .ok (.iaload, 1) := by decide +kernel
theorem dX8_count_65 : decode cX8_count 65 = .ok (.ireturn, 1) := by decide +kernel
theorem dX8_count_66 : decode cX8_count 66 = .ok (.aload_n 0, 1) := by decide +kernel
theorem dX8_count_67 : decode cX8_count 67 = .ok (.getfield 124, 3) := by decide +kernel
theorem dX8_count_70 : decode cX8_count 70 = .ok (.ireturn, 1) := by decide +kernel
theorem dX8_count_71 : decode cX8_count 71 = .ok (.bipush (-2), 2) := by decide +kernel
theorem dX8_count_73 : decode cX8_count 73 = .ok (.ireturn, 1) := by decide +kernel
set_option maxRecDepth 20000 in
theorem ggX8_tape_X8_isTape : GoodIn wsX8_tape wsX8_isTape := goodIn_r _ [7, 8, 9, 6, 10] (by decide +kernel) (by decide +kernel)
set_option maxRecDepth 20000 in
theorem gX8_tape_X8_isTape : GoodIn wsX8_tape (va_wsS RX8 161 yX8_isTape wsX8_isTape) := goodIn_app (goodIn_of _ (by decide +kernel)) ggX8_tape_X8_isTape
set_option maxRecDepth 20000 in
theorem ggX8_tape_X8_in : GoodIn wsX8_tape wsX8_in := goodIn_r _ [10] (by decide +kernel) (by decide +kernel)
set_option maxRecDepth 20000 in
theorem gX8_tape_X8_in : GoodIn wsX8_tape (va_wsS RX8 54 yX8_in wsX8_in) := goodIn_app (goodIn_of _ (by decide +kernel)) ggX8_tape_X8_in
theorem dX8_tape_0 : decode cX8_tape 0 = .ok (.iload_n 1, 1) := by decide +kernel
theorem dX8_tape_1 : decode cX8_tape 1 = .ok (.invokestatic 161, 3) := by decide +kernel
theorem dX8_tape_4 : decode cX8_tape 4 = .ok (.ifCond .ne 5, 3) := by decide +kernel
theorem dX8_tape_7 : decode cX8_tape 7 = .ok (.iconst (-1), 1) := by decide +kernel
theorem dX8_tape_8 : decode cX8_tape 8 = .ok (.ireturn, 1) := by decide +kernel
theorem dX8_tape_9 : decode cX8_tape 9 = .ok (.iload_n 2, 1) := by decide +kernel
theorem dX8_tape_10 : decode cX8_tape 10 = .ok (.iconst (-1), 1) := by decide +kernel
theorem dX8_tape_11 : decode cX8_tape 11 = .ok (.iconst 4, 1) := by decide +kernel
theorem dX8_tape_12 : decode cX8_tape 12 = .ok (.invokestatic 54, 3) := by decide +kernel
theorem dX8_tape_15 : decode cX8_tape 15 = .ok (.ifCond .eq 13, 3) := by decide +kernel
theorem dX8_tape_18 : decode cX8_tape 18 = .ok (.iload_n 2, 1) := by decide +kernel
theorem dX8_tape_19 : decode cX8_tape 19 = .ok (.ifCond .lt 12, 3) := by decide +kernel
theorem dX8_tape_22 : decode cX8_tape 22 = .ok (.iload_n 3, 1) := by decide +kernel
theorem dX8_tape_23 : decode cX8_tape 23 = .ok (.bipush 60, 2) := by decide +kernel
theorem dX8_tape_25 : decode cX8_tape 25 = .ok (.if_icmp .le 6, 3) := by decide +kernel
theorem dX8_tape_28 : decode cX8_tape 28 = .ok (.bipush (-2), 2) := by decide +kernel
theorem dX8_tape_30 : decode cX8_tape 30 = .ok (.ireturn, 1) := by decide +kernel
theorem dX8_tape_31 : decode cX8_tape 31 = .ok (.iload_n 2, 1) := by decide +kernel
theorem dX8_tape_32 : decode cX8_tape 32 = .ok (.ifCond .lt 10, 3) := by decide +kernel
theorem dX8_tape_35 : decode cX8_tape 35 = .ok (.iload_n 3, 1) := by decide +kernel
theorem dX8_tape_36 : decode cX8_tape 36 = .ok (.ifCond .ge 6, 3) := by decide +kernel
theorem dX8_tape_39 : decode cX8_tape 39 = .ok (.bipush (-14), 2) := by decide +kernel
theorem dX8_tape_41 : decode cX8_tape 41 = .ok (.ireturn, 1) := by decide +kernel
theorem dX8_tape_42 : decode cX8_tape 42 = .ok (.aload_n 0, 1) := by decide +kernel
theorem dX8_tape_43 : decode cX8_tape 43 = .ok (.getfield 39, 3) := by decide +kernel
theorem dX8_tape_46 : decode cX8_tape 46 = .ok (.iload_n 1, 1) := by decide +kernel
theorem dX8_tape_47 : decode cX8_tape 47 = .ok (.iload_n 2, 1) := by decide +kernel
theorem dX8_tape_48 : decode cX8_tape 48 = .ok (.iastore, 1) := by decide +kernel
theorem dX8_tape_49 : decode cX8_tape 49 = .ok (.aload_n 0, 1) := by decide +kernel
theorem dX8_tape_50 : decode cX8_tape 50 = .ok (.getfield 42, 3) := by decide +kernel
theorem dX8_tape_53 : decode cX8_tape 53 = .ok (.iload_n 1, 1) := by decide +kernel
theorem dX8_tape_54 : decode cX8_tape 54 = .ok (.iload_n 2, 1) := by decide +kernel
theorem dX8_tape_55 : decode cX8_tape 55 = .ok (.ifCond .ge 7, 3) := by decide +kernel
theorem dX8_tape_58 : decode cX8_tape 58 = .ok (.iconst 0, 1) := by decide +kernel
theorem dX8_tape_59 : decode cX8_tape 59 = .ok (.goto 4, 3) := by decide +kernel
theorem dX8_tape_62 : decode cX8_tape 62 = .ok (.iload_n 3, 1) := by decide +kernel
theorem dX8_tape_63 : decode cX8_tape 63 = .ok (.iastore, 1) := by decide +kernel
theorem dX8_tape_64 : decode cX8_tape 64 = .ok (.iconst 0, 1) := by decide +kernel
theorem dX8_tape_65 : decode cX8_tape 65 = .ok (.istore 4, 2) := by decide +kernel
theorem dX8_tape_67 : decode cX8_tape 67 = .ok (.iload 4, 2) := by decide +kernel
theorem dX8_tape_69 : decode cX8_tape 69 = .ok (.bipush 60, 2) := by decide +kernel
theorem dX8_tape_71 : decode cX8_tape 71 = .ok (.if_icmp .ge 19, 3) := by decide +kernel
theorem dX8_tape_74 : decode cX8_tape 74 = .ok (.aload_n 0, 1) := by decide +kernel
theorem dX8_tape_75 : decode cX8_tape 75 = .ok (.getfield 47, 3) := by decide +kernel
theorem dX8_tape_78 : decode cX8_tape 78 = .ok (.iload_n 1, 1) := by decide +kernel
theorem dX8_tape_79 : decode cX8_tape 79 = .ok (.aaload, 1) := by decide +kernel
theorem dX8_tape_80 : decode cX8_tape 80 = .ok (.iload 4, 2) := by decide +kernel
theorem dX8_tape_82 : decode cX8_tape 82 = .ok (.lconst 0, 1) := by decide +kernel
theorem dX8_tape_83 : decode cX8_tape 83 = .ok (.lastore, 1) := by decide +kernel
theorem dX8_tape_84 : decode cX8_tape 84 = .ok (.iinc 4 1, 3) := by decide +kernel
theorem dX8_tape_87 : decode cX8_tape 87 = .ok (.goto (-20), 3) := by decide +kernel
theorem dX8_tape_90 : decode cX8_tape 90 = .ok (.iconst 1, 1) := by decide +kernel
theorem dX8_tape_91 : decode cX8_tape 91 = .ok (.ireturn, 1) := by decide +kernel
theorem dX8_fit_0 : decode cX8_fit 0 = .ok (.iload_n 0, 1) := by decide +kernel
theorem dX8_fit_1 : decode cX8_fit 1 = .ok (.tableswitch 47 0 3 #[31, 36, 41, 45], 31) := by decide +kernel
theorem dX8_fit_32 : decode cX8_fit 32 = .ok (.lload_n 1, 1) := by decide +kernel
theorem dX8_fit_33 : decode cX8_fit 33 = .ok (.l2i, 1) := by decide +kernel
theorem dX8_fit_34 : decode cX8_fit 34 = .ok (.i2b, 1) := by decide +kernel
theorem dX8_fit_35 : decode cX8_fit 35 = .ok (.i2l, 1) := by decide +kernel
theorem dX8_fit_36 : decode cX8_fit 36 = .ok (.lreturn, 1) := by decide +kernel
theorem dX8_fit_37 : decode cX8_fit 37 = .ok (.lload_n 1, 1) := by decide +kernel
theorem dX8_fit_38 : decode cX8_fit 38 = .ok (.l2i, 1) := by decide +kernel
theorem dX8_fit_39 : decode cX8_fit 39 = .ok (.i2s, 1) := by decide +kernel
theorem dX8_fit_40 : decode cX8_fit 40 = .ok (.i2l, 1) := by decide +kernel
theorem dX8_fit_41 : decode cX8_fit 41 = .ok (.lreturn, 1) := by decide +kernel
theorem dX8_fit_42 : decode cX8_fit 42 = .ok (.lload_n 1, 1) := by decide +kernel
theorem dX8_fit_43 : decode cX8_fit 43 = .ok (.l2i, 1) := by decide +kernel
theorem dX8_fit_44 : decode cX8_fit 44 = .ok (.i2l, 1) := by decide +kernel
theorem dX8_fit_45 : decode cX8_fit 45 = .ok (.lreturn, 1) := by decide +kernel
theorem dX8_fit_46 : decode cX8_fit 46 = .ok (.lload_n 1, 1) := by decide +kernel
theorem dX8_fit_47 : decode cX8_fit 47 = .ok (.lreturn, 1) := by decide +kernel
theorem dX8_fit_48 : decode cX8_fit 48 = .ok (.lload_n 1, 1) := by decide +kernel
theorem dX8_fit_49 : decode cX8_fit 49 = .ok (.lconst 0, 1) := by decide +kernel
theorem dX8_fit_50 : decode cX8_fit 50 = .ok (.lcmp, 1) := by decide +kernel
theorem dX8_fit_51 : decode cX8_fit 51 = .ok (.ifCond .eq 7, 3) := by decide +kernel
theorem dX8_fit_54 : decode cX8_fit 54 = .ok (.lconst 1, 1) := by decide +kernel
theorem dX8_fit_55 : decode cX8_fit 55 = .ok (.goto 4, 3) := by decide +kernel
theorem dX8_fit_58 : decode cX8_fit 58 = .ok (.lconst 0, 1) := by decide +kernel
theorem dX8_fit_59 : decode cX8_fit 59 = .ok (.lreturn, 1) := by decide +kernel
set_option maxRecDepth 20000 in
theorem ggX8_item_X8_isTape : GoodIn wsX8_item wsX8_isTape := goodIn_r _ [7, 8, 9, 6, 10] (by decide +kernel) (by decide +kernel)
set_option maxRecDepth 20000 in
theorem gX8_item_X8_isTape : GoodIn wsX8_item (va_wsS RX8 161 yX8_isTape wsX8_isTape) := goodIn_app (goodIn_of _ (by decide +kernel)) ggX8_item_X8_isTape
set_option maxRecDepth 20000 in
theorem ggX8_item_X8_in : GoodIn wsX8_item wsX8_in := goodIn_r _ [10] (by decide +kernel) (by decide +kernel)
set_option maxRecDepth 20000 in
theorem gX8_item_X8_in : GoodIn wsX8_item (va_wsS RX8 54 yX8_in wsX8_in) := goodIn_app (goodIn_of _ (by decide +kernel)) ggX8_item_X8_in
set_option maxRecDepth 20000 in
theorem ggX8_item_X8_fit : GoodIn wsX8_item wsX8_fit := goodIn_r _ [13] (by decide +kernel) (by decide +kernel)
set_option maxRecDepth 20000 in
theorem gX8_item_X8_fit : GoodIn wsX8_item (va_wsS RX8 168 yX8_fit wsX8_fit) := goodIn_app (goodIn_of _ (by decide +kernel)) ggX8_item_X8_fit
theorem dX8_item_0 : decode cX8_item 0 = .ok (.iload_n 1, 1) := by decide +kernel
theorem dX8_item_1 : decode cX8_item 1 = .ok (.invokestatic 161, 3) := by decide +kernel
theorem dX8_item_4 : decode cX8_item 4 = .ok (.ifCond .ne 5, 3) := by decide +kernel
theorem dX8_item_7 : decode cX8_item 7 = .ok (.iconst (-1), 1) := by decide +kernel
theorem dX8_item_8 : decode cX8_item 8 = .ok (.ireturn, 1) := by decide +kernel
theorem dX8_item_9 : decode cX8_item 9 = .ok (.aload_n 0, 1) := by decide +kernel
theorem dX8_item_10 : decode cX8_item 10 = .ok (.getfield 39, 3) := by decide +kernel
theorem dX8_item_13 : decode cX8_item 13 = .ok (.iload_n 1, 1) := by decide +kernel
theorem dX8_item_14 : decode cX8_item 14 = .ok (.iaload, 1) := by decide +kernel
theorem dX8_item_15 : decode cX8_item 15 = .ok (.ifCond .ge 6, 3) := by decide +kernel
theorem dX8_item_18 : decode cX8_item 18 = .ok (.bipush (-11), 2) := by decide +kernel
theorem dX8_item_20 : decode cX8_item 20 = .ok (.ireturn, 1) := by decide +kernel
theorem dX8_item_21 : decode cX8_item 21 = .ok (.iload_n 2, 1) := by decide +kernel
theorem dX8_item_22 : decode cX8_item 22 = .ok (.iconst 0, 1) := by decide +kernel
theorem dX8_item_23 : decode cX8_item 23 = .ok (.aload_n 0, 1) := by decide +kernel
theorem dX8_item_24 : decode cX8_item 24 = .ok (.getfield 42, 3) := by decide +kernel
theorem dX8_item_27 : decode cX8_item 27 = .ok (.iload_n 1, 1) := by decide +kernel
theorem dX8_item_28 : decode cX8_item 28 = .ok (.iaload, 1) := by decide +kernel
theorem dX8_item_29 : decode cX8_item 29 = .ok (.iconst 1, 1) := by decide +kernel
theorem dX8_item_30 : decode cX8_item 30 = .ok (.isub, 1) := by decide +kernel
theorem dX8_item_31 : decode cX8_item 31 = .ok (.invokestatic 54, 3) := by decide +kernel
theorem dX8_item_34 : decode cX8_item 34 = .ok (.ifCond .ne 6, 3) := by decide +kernel
theorem dX8_item_37 : decode cX8_item 37 = .ok (.bipush (-13), 2) := by decide +kernel
theorem dX8_item_39 : decode cX8_item 39 = .ok (.ireturn, 1) := by decide +kernel
theorem dX8_item_40 : decode cX8_item 40 = .ok (.aload_n 0, 1) := by decide +kernel
theorem dX8_item_41 : decode cX8_item 41 = .ok (.getfield 47, 3) := by decide +kernel
theorem dX8_item_44 : decode cX8_item 44 = .ok (.iload_n 1, 1) := by decide +kernel
theorem dX8_item_45 : decode cX8_item 45 = .ok (.aaload, 1) := by decide +kernel
theorem dX8_item_46 : decode cX8_item 46 = .ok (.iload_n 2, 1) := by decide +kernel
theorem dX8_item_47 : decode cX8_item 47 = .ok (.aload_n 0, 1) := by decide +kernel
theorem dX8_item_48 : decode cX8_item 48 = .ok (.getfield 39, 3) := by decide +kernel
theorem dX8_item_51 : decode cX8_item 51 = .ok (.iload_n 1, 1) := by decide +kernel
theorem dX8_item_52 : decode cX8_item 52 = .ok (.iaload, 1) := by decide +kernel
theorem dX8_item_53 : decode cX8_item 53 = .ok (.lload_n 3, 1) := by decide +kernel
theorem dX8_item_54 : decode cX8_item 54 = .ok (.invokestatic 168, 3) := by decide +kernel
theorem dX8_item_57 : decode cX8_item 57 = .ok (.lastore, 1) := by decide +kernel
theorem dX8_item_58 : decode cX8_item 58 = .ok (.iconst 1, 1) := by decide +kernel
theorem dX8_item_59 : decode cX8_item 59 = .ok (.ireturn, 1) := by decide +kernel
set_option maxRecDepth 20000 in
theorem ggX8_read_X8_isTape : GoodIn wsX8_read wsX8_isTape := goodIn_r _ [8, 9, 10, 7, 11] (by decide +kernel) (by decide +kernel)
set_option maxRecDepth 20000 in
theorem gX8_read_X8_isTape : GoodIn wsX8_read (va_wsS RX8 161 yX8_isTape wsX8_isTape) := goodIn_app (goodIn_of _ (by decide +kernel)) ggX8_read_X8_isTape
set_option maxRecDepth 20000 in
theorem ggX8_read_X8_in : GoodIn wsX8_read wsX8_in := goodIn_r _ [11] (by decide +kernel) (by decide +kernel)
set_option maxRecDepth 20000 in
theorem gX8_read_X8_in : GoodIn wsX8_read (va_wsS RX8 54 yX8_in wsX8_in) := goodIn_app (goodIn_of _ (by decide +kernel)) ggX8_read_X8_in
theorem dX8_read_0 : decode cX8_read 0 = .ok (.iload_n 1, 1) := by decide +kernel
theorem dX8_read_1 : decode cX8_read 1 = .ok (.invokestatic 161, 3) := by decide +kernel
theorem dX8_read_4 : decode cX8_read 4 = .ok (.ifCond .eq 39, 3) := by decide +kernel
theorem dX8_read_7 : decode cX8_read 7 = .ok (.aload_n 0, 1) := by decide +kernel
theorem dX8_read_8 : decode cX8_read 8 = .ok (.getfield 39, 3) := by decide +kernel
theorem dX8_read_11 : decode cX8_read 11 = .ok (.iload_n 1, 1) := by decide +kernel
theorem dX8_read_12 : decode cX8_read 12 = .ok (.iaload, 1) := by decide +kernel
theorem dX8_read_13 : decode cX8_read 13 = .ok (.ifCond .lt 30, 3) := by decide +kernel
theorem dX8_read_16 : decode cX8_read 16 = .ok (.iload_n 2, 1) := by decide +kernel
theorem dX8_read_17 : decode cX8_read 17 = .ok (.iconst 0, 1) := by decide +kernel
theorem dX8_read_18 : decode cX8_read 18 = .ok (.aload_n 0, 1) := by decide +kernel
theorem dX8_read_19 : decode cX8_read 19 = .ok (.getfield 42, 3) := by decide +kernel
theorem dX8_read_22 : decode cX8_read 22 = .ok (.iload_n 1, 1) := by decide +kernel
theorem dX8_read_23 : decode cX8_read 23 = .ok (.iaload, 1) := by decide +kernel
theorem dX8_read_24 : decode cX8_read 24 = .ok (.iconst 1, 1) := by decide +kernel
theorem dX8_read_25 : decode cX8_read 25 = .ok (.isub, 1) := by decide +kernel
theorem dX8_read_26 : decode cX8_read 26 = .ok (.invokestatic 54, 3) := by decide +kernel
theorem dX8_read_29 : decode cX8_read 29 = .ok (.ifCond .eq 14, 3) := by decide +kernel
theorem dX8_read_32 : decode cX8_read 32 = .ok (.aload_n 0, 1) := by decide +kernel
theorem dX8_read_33 : decode cX8_read 33 = .ok (.getfield 47, 3) := by decide +kernel
theorem dX8_read_36 : decode cX8_read 36 = .ok (.iload_n 1, 1) := by decide +kernel
theorem dX8_read_37 : decode cX8_read 37 = .ok (.aaload, 1) := by decide +kernel
theorem dX8_read_38 : decode cX8_read 38 = .ok (.iload_n 2, 1) := by decide +kernel
theorem dX8_read_39 : decode cX8_read 39 = .ok (.laload, 1) := by decide +kernel
theorem dX8_read_40 : decode cX8_read 40 = .ok (.goto 6, 3) := by decide +kernel
theorem dX8_read_43 : decode cX8_read 43 = .ok (.ldc2_w 104, 3) := by decide +kernel
theorem dX8_read_46 : decode cX8_read 46 = .ok (.lreturn, 1) := by decide +kernel
set_option maxRecDepth 20000 in
theorem ggX8_shift_X8_isTape : GoodIn wsX8_shift wsX8_isTape := goodIn_r _ [8, 9, 10, 7, 11] (by decide +kernel) (by decide +kernel)
set_option maxRecDepth 20000 in
theorem gX8_shift_X8_isTape : GoodIn wsX8_shift (va_wsS RX8 161 yX8_isTape wsX8_isTape) := goodIn_app (goodIn_of _ (by decide +kernel)) ggX8_shift_X8_isTape
theorem dX8_shift_0 : decode cX8_shift 0 = .ok (.iload_n 1, 1) := by decide +kernel
theorem dX8_shift_1 : decode cX8_shift 1 = .ok (.invokestatic 161, 3) := by decide +kernel
theorem dX8_shift_4 : decode cX8_shift 4 = .ok (.ifCond .eq 10, 3) := by decide +kernel
theorem dX8_shift_7 : decode cX8_shift 7 = .ok (.iload_n 3, 1) := by decide +kernel
theorem dX8_shift_8 : decode cX8_shift 8 = .ok (.invokestatic 161, 3) := by decide +kernel
theorem dX8_shift_11 : decode cX8_shift 11 = .ok (.ifCond .ne 5, 3) := by decide +kernel
theorem dX8_shift_14 : decode cX8_shift 14 = .ok (.iconst (-1), 1) := by decide +kernel
theorem dX8_shift_15 : decode cX8_shift 15 = .ok (.ireturn, 1) := by decide +kernel
theorem dX8_shift_16 : decode cX8_shift 16 = .ok (.aload_n 0, 1) := by decide +kernel
theorem dX8_shift_17 : decode cX8_shift 17 = .ok (.getfield 39, 3) := by decide +kernel
theorem dX8_shift_20 : decode cX8_shift 20 = .ok (.iload_n 1, 1) := by decide +kernel
theorem dX8_shift_21 : decode cX8_shift 21 = .ok (.iaload, 1) := by decide +kernel
theorem dX8_shift_22 : decode cX8_shift 22 = .ok (.ifCond .lt 12, 3) := by decide +kernel
theorem dX8_shift_25 : decode cX8_shift 25 = .ok (.aload_n 0, 1) := by decide +kernel
theorem dX8_shift_26 : decode cX8_shift 26 = .ok (.getfield 39, 3) := by decide +kernel
theorem dX8_shift_29 : decode cX8_shift 29 = .ok (.iload_n 3, 1) := by decide +kernel
theorem dX8_shift_30 : decode cX8_shift 30 = .ok (.iaload, 1) := by decide +kernel
theorem dX8_shift_31 : decode cX8_shift 31 = .ok (.ifCond .ge 6, 3) := by decide +kernel
theorem dX8_shift_34 : decode cX8_shift 34 = .ok (.bipush (-11), 2) := by decide +kernel
theorem dX8_shift_36 : decode cX8_shift 36 = .ok (.ireturn, 1) := by decide +kernel
theorem dX8_shift_37 : decode cX8_shift 37 = .ok (.aload_n 0, 1) := by decide +kernel
theorem dX8_shift_38 : decode cX8_shift 38 = .ok (.getfield 39, 3) := by decide +kernel
theorem dX8_shift_41 : decode cX8_shift 41 = .ok (.iload_n 1, 1) := by decide +kernel
theorem dX8_shift_42 : decode cX8_shift 42 = .ok (.iaload, 1) := by decide +kernel
theorem dX8_shift_43 : decode cX8_shift 43 = .ok (.aload_n 0, 1) := by decide +kernel
theorem dX8_shift_44 : decode cX8_shift 44 = .ok (.getfield 39, 3) := by decide +kernel
theorem dX8_shift_47 : decode cX8_shift 47 = .ok (.iload_n 3, 1) := by decide +kernel
theorem dX8_shift_48 : decode cX8_shift 48 = .ok (.iaload, 1) := by decide +kernel
theorem dX8_shift_49 : decode cX8_shift 49 = .ok (.if_icmp .eq 6, 3) := by decide +kernel
theorem dX8_shift_52 : decode cX8_shift 52 = .ok (.bipush (-12), 2) := by decide +kernel
theorem dX8_shift_54 : decode cX8_shift 54 = .ok (.ireturn, 1) := by decide +kernel
theorem dX8_shift_55 : decode cX8_shift 55 = .ok (.iload 5, 2) := by decide +kernel
theorem dX8_shift_57 : decode cX8_shift 57 = .ok (.ifCond .lt 61, 3) := by decide +kernel
theorem dX8_shift_60 : decode cX8_shift 60 = .ok (.iload_n 2, 1) := by decide +kernel
theorem dX8_shift_61 : decode cX8_shift 61 = .ok (.ifCond .lt 57, 3) := by decide +kernel
theorem dX8_shift_64 : decode cX8_shift 64 = .ok (.iload 4, 2) := by decide +kernel
theorem dX8_shift_66 : decode cX8_shift 66 = .ok (.ifCond .lt 52, 3) := by decide +kernel
theorem dX8_shift_69 : decode cX8_shift 69 = .ok (.iload 5, 2) := by decide +kernel
theorem dX8_shift_71 : decode cX8_shift 71 = .ok (.aload_n 0, 1) := by decide +kernel
theorem dX8_shift_72 : decode cX8_shift 72 = .ok (.getfield 42, 3) := by decide +kernel
theorem dX8_shift_75 : decode cX8_shift 75 = .ok (.iload_n 1, 1) := by decide +kernel
theorem dX8_shift_76 : decode cX8_shift 76 = .ok (.iaload, 1) := by decide +kernel
theorem dX8_shift_77 : decode cX8_shift 77 = .ok (.if_icmp .gt 41, 3) := by decide +kernel
theorem dX8_shift_80 : decode cX8_shift 80 = .ok (.iload 5, 2) := by decide +kernel
theorem dX8_shift_82 : decode cX8_shift 82 = .ok (.aload_n 0, 1) := by decide +kernel
theorem dX8_shift_83 : decode cX8_shift 83 = .ok (.getfield 42, 3) := by decide +kernel
theorem dX8_shift_86 : decode cX8_shift 86 = .ok (.iload_n 3, 1) := by decide +kernel
theorem dX8_shift_87 : decode cX8_shift 87 = .ok (.iaload, 1) := by decide +kernel
theorem dX8_shift_88 : decode cX8_shift 88 = .ok (.if_icmp .gt 30, 3) := by decide +kernel
theorem dX8_shift_91 : decode cX8_shift 91 = .ok (.iload_n 2, 1) := by decide +kernel
theorem dX8_shift_92 : decode cX8_shift 92 = .ok (.aload_n 0, 1) := by decide +kernel
theorem dX8_shift_93 : decode cX8_shift 93 = .ok (.getfield 42, 3) := by decide +kernel
theorem dX8_shift_96 : decode cX8_shift 96 = .ok (.iload_n 1, 1) := by decide +kernel
theorem dX8_shift_97 : decode cX8_shift 97 = .ok (.iaload, 1) := by decide +kernel
theorem dX8_shift_98 : decode cX8_shift 98 = .ok (.iload 5, 2) := by decide +kernel
theorem dX8_shift_100 : decode cX8_shift 100 = .ok (.isub, 1) := by decide +kernel
theorem dX8_shift_101 : decode cX8_shift 101 = .ok (.if_icmp .gt 17, 3) := by decide +kernel
theorem dX8_shift_104 : decode cX8_shift 104 = .ok (.iload 4, 2) := by decide +kernel
theorem dX8_shift_106 : decode cX8_shift 106 = .ok (.aload_n 0, 1) := by decide +kernel
theorem dX8_shift_107 : decode cX8_shift 107 = .ok (.getfield 42, 3) := by decide +kernel
theorem dX8_shift_110 : decode cX8_shift 110 = .ok (.iload_n 3, 1) := by decide +kernel
theorem dX8_shift_111 : decode cX8_shift 111 = .ok (.iaload, 1) := by decide +kernel
theorem dX8_shift_112 : decode cX8_shift 112 = .ok (.iload 5, 2) := by decide +kernel
theorem dX8_shift_114 : decode cX8_shift 114 = .ok (.isub, 1) := by decide +kernel
theorem dX8_shift_115 : decode cX8_shift 115 = .ok (.if_icmp .le 6, 3) := by decide +kernel
theorem dX8_shift_118 : decode cX8_shift 118 = .ok (.bipush (-13), 2) := by decide +kernel
theorem dX8_shift_120 : decode cX8_shift 120 = .ok (.ireturn, 1) := by decide +kernel
theorem dX8_shift_121 : decode cX8_shift 121 = .ok (.iconst 0, 1) := by decide +kernel
theorem dX8_shift_122 : decode cX8_shift 122 = .ok (.istore 6, 2) := by decide +kernel
theorem dX8_shift_124 : decode cX8_shift 124 = .ok (.iload 6, 2) := by decide +kernel
theorem dX8_shift_126 : decode cX8_shift 126 = .ok (.iload 5, 2) := by decide +kernel
theorem dX8_shift_128 : decode cX8_shift 128 = .ok (.if_icmp .ge 27, 3) := by decide +kernel
theorem dX8_shift_131 : decode cX8_shift 131 = .ok (.aload_n 0, 1) := by decide +kernel
theorem dX8_shift_132 : decode cX8_shift 132 = .ok (.getfield 50, 3) := by decide +kernel
theorem dX8_shift_135 : decode cX8_shift 135 = .ok (.iload 6, 2) := by decide +kernel
theorem dX8_shift_137 : decode cX8_shift 137 = .ok (.aload_n 0, 1) := by decide +kernel
theorem dX8_shift_138 : decode cX8_shift 138 = .ok (.getfield 47, 3) := by decide +kernel
theorem dX8_shift_141 : decode cX8_shift 141 = .ok (.iload_n 1, 1) := by decide +kernel
theorem dX8_shift_142 : decode cX8_shift 142 = .ok (.aaload, 1) := by decide +kernel
theorem dX8_shift_143 : decode cX8_shift 143 = .ok (.iload_n 2, 1) := by decide +kernel
theorem dX8_shift_144 : decode cX8_shift 144 = .ok (.iload 6, 2) := by decide +kernel
theorem dX8_shift_146 : decode cX8_shift 146 = .ok (.iadd, 1) := by decide +kernel
theorem dX8_shift_147 : decode cX8_shift 147 = .ok (.laload, 1) := by decide +kernel
theorem dX8_shift_148 : decode cX8_shift 148 = .ok (.lastore, 1) := by decide +kernel
theorem dX8_shift_149 : decode cX8_shift 149 = .ok (.iinc 6 1, 3) := by decide +kernel
theorem dX8_shift_152 : decode cX8_shift 152 = .ok (.goto (-28), 3) := by decide +kernel
theorem dX8_shift_155 : decode cX8_shift 155 = .ok (.iconst 0, 1) := by decide +kernel
theorem dX8_shift_156 : decode cX8_shift 156 = .ok (.istore 6, 2) := by decide +kernel
theorem dX8_shift_158 : decode cX8_shift 158 = .ok (.iload 6, 2) := by decide +kernel
theorem dX8_shift_160 : decode cX8_shift 160 = .ok (.iload 5, 2) := by decide +kernel
theorem dX8_shift_162 : decode cX8_shift 162 = .ok (.if_icmp .ge 28, 3) := by decide +kernel
theorem dX8_shift_165 : decode cX8_shift 165 = .ok (.aload_n 0, 1) := by decide +kernel
theorem dX8_shift_166 : decode cX8_shift 166 = .ok (.getfield 47, 3) := by decide +kernel
theorem dX8_shift_169 : decode cX8_shift 169 = .ok (.iload_n 3, 1) := by decide +kernel
theorem dX8_shift_170 : decode cX8_shift 170 = .ok (.aaload, 1) := by decide +kernel
theorem dX8_shift_171 : decode cX8_shift 171 = .ok (.iload 4, 2) := by decide +kernel
theorem dX8_shift_173 : decode cX8_shift 173 = .ok (.iload 6, 2) := by decide +kernel
theorem dX8_shift_175 : decode cX8_shift 175 = .ok (.iadd, 1) := by decide +kernel
theorem dX8_shift_176 : decode cX8_shift 176 = .ok (.aload_n 0, 1) := by decide +kernel
theorem dX8_shift_177 : decode cX8_shift 177 = .ok (.getfield 50, 3) := by decide +kernel
theorem dX8_shift_180 : decode cX8_shift 180 = .ok (.iload 6, 2) := by decide +kernel
theorem dX8_shift_182 : decode cX8_shift 182 = .ok (.laload, 1) := by decide +kernel
theorem dX8_shift_183 : decode cX8_shift 183 = .ok (.lastore, 1) := by decide +kernel
theorem dX8_shift_184 : decode cX8_shift 184 = .ok (.iinc 6 1, 3) := by decide +kernel
theorem dX8_shift_187 : decode cX8_shift 187 = .ok (.goto (-29), 3) := by decide +kernel
theorem dX8_shift_190 : decode cX8_shift 190 = .ok (.iload 5, 2) := by decide +kernel
theorem dX8_shift_192 : decode cX8_shift 192 = .ok (.ireturn, 1) := by decide +kernel
theorem dJ9_floorMod_7cf53_0 : decode cJ9_floorMod_7cf53 0 = .ok (.iload_n 0, 1) := by decide +kernel
theorem dJ9_floorMod_7cf53_1 : decode cJ9_floorMod_7cf53 1 = .ok (.iload_n 1, 1) := by decide +kernel
theorem dJ9_floorMod_7cf53_2 : decode cJ9_floorMod_7cf53 2 = .ok (.irem, 1) := by decide +kernel
theorem dJ9_floorMod_7cf53_3 : decode cJ9_floorMod_7cf53 3 = .ok (.istore_n 2, 1) := by decide +kernel
theorem dJ9_floorMod_7cf53_4 : decode cJ9_floorMod_7cf53 4 = .ok (.iload_n 0, 1) := by decide +kernel
theorem dJ9_floorMod_7cf53_5 : decode cJ9_floorMod_7cf53 5 = .ok (.iload_n 1, 1) := by decide +kernel
theorem dJ9_floorMod_7cf53_6 : decode cJ9_floorMod_7cf53 6 = .ok (.ixor, 1) := by decide +kernel
theorem dJ9_floorMod_7cf53_7 : decode cJ9_floorMod_7cf53 7 = .ok (.ifCond .ge 11, 3) := by decide +kernel
theorem dJ9_floorMod_7cf53_10 : decode cJ9_floorMod_7cf53 10 = .ok (.iload_n 2, 1) := by decide +kernel
theorem dJ9_floorMod_7cf53_11 : decode cJ9_floorMod_7cf53 11 = .ok (.ifCond .eq 7, 3) := by decide +kernel
theorem dJ9_floorMod_7cf53_14 : decode cJ9_floorMod_7cf53 14 = .ok (.iload_n 2, 1) := by decide +kernel
theorem dJ9_floorMod_7cf53_15 : decode cJ9_floorMod_7cf53 15 = .ok (.iload_n 1, 1) := by decide +kernel
theorem dJ9_floorMod_7cf53_16 : decode cJ9_floorMod_7cf53 16 = .ok (.iadd, 1) := by decide +kernel
theorem dJ9_floorMod_7cf53_17 : decode cJ9_floorMod_7cf53 17 = .ok (.ireturn, 1) := by decide +kernel
theorem dJ9_floorMod_7cf53_18 : decode cJ9_floorMod_7cf53 18 = .ok (.iload_n 2, 1) := by decide +kernel
theorem dJ9_floorMod_7cf53_19 : decode cJ9_floorMod_7cf53 19 = .ok (.ireturn, 1) := by decide +kernel
theorem dJ9_max_7cf53_0 : decode cJ9_max_7cf53 0 = .ok (.iload_n 0, 1) := by decide +kernel
theorem dJ9_max_7cf53_1 : decode cJ9_max_7cf53 1 = .ok (.iload_n 1, 1) := by decide +kernel
theorem dJ9_max_7cf53_2 : decode cJ9_max_7cf53 2 = .ok (.if_icmp .lt 7, 3) := by decide +kernel
theorem dJ9_max_7cf53_5 : decode cJ9_max_7cf53 5 = .ok (.iload_n 0, 1) := by decide +kernel
theorem dJ9_max_7cf53_6 : decode cJ9_max_7cf53 6 = .ok (.goto 4, 3) := by decide +kernel
theorem dJ9_max_7cf53_9 : decode cJ9_max_7cf53 9 = .ok (.iload_n 1, 1) := by decide +kernel
theorem dJ9_max_7cf53_10 : decode cJ9_max_7cf53 10 = .ok (.ireturn, 1) := by decide +kernel
theorem dJ9_min_7cf53_0 : decode cJ9_min_7cf53 0 = .ok (.iload_n 0, 1) := by decide +kernel
theorem dJ9_min_7cf53_1 : decode cJ9_min_7cf53 1 = .ok (.iload_n 1, 1) := by decide +kernel
theorem dJ9_min_7cf53_2 : decode cJ9_min_7cf53 2 = .ok (.if_icmp .gt 7, 3) := by decide +kernel
theorem dJ9_min_7cf53_5 : decode cJ9_min_7cf53 5 = .ok (.iload_n 0, 1) := by decide +kernel
theorem dJ9_min_7cf53_6 : decode cJ9_min_7cf53 6 = .ok (.goto 4, 3) := by decide +kernel
theorem dJ9_min_7cf53_9 : decode cJ9_min_7cf53 9 = .ok (.iload_n 1, 1) := by decide +kernel
theorem dJ9_min_7cf53_10 : decode cJ9_min_7cf53 10 = .ok (.ireturn, 1) := by decide +kernel
set_option maxRecDepth 20000 in
theorem ggL_law_X7_init : GoodIn wsL_law wsX7_init := goodIn_r _ [9, 10, 11, 12, 13, 14, 15, 16, 17, 18, 19, 20, 21, 22, 23, 24, 25, 26, 27, 28, 29, 30, 31, 32, 33, 34, 35, 36, 37, 38, 39, 40, 41, 42, 43, 44, 45, 46, 47, 48, 49, 50, 51, 52, 53, 54, 55, 56, 57, 58, 59, 60, 61, 62, 63, 64, 65, 66, 67, 68, 69, 70, 71, 72, 73, 74, 75, 76, 77, 78, 79, 80, 81, 82, 83, 692, 693, 694, 695, 696, 697, 666, 667, 668, 669, 670, 671, 672, 698, 699, 700, 701, 702, 703, 704, 705, 706, 707, 708, 709, 710, 711, 712, 713, 714, 715, 716] (by decide +kernel) (by decide +kernel)
set_option maxRecDepth 20000 in
theorem gL_law_X7_init : GoodIn wsL_law (wsX7_init) := ggL_law_X7_init
set_option maxRecDepth 20000 in
theorem ggL_law_X8_init : GoodIn wsL_law wsX8_init := goodIn_r _ [86, 87, 11, 12, 34, 88, 89, 90, 91, 92, 93, 94, 95, 96, 97, 98, 99, 81, 100, 101, 673, 674, 675, 676, 677, 678, 679, 680, 681, 682, 683, 684, 685, 686, 687, 688, 689, 690, 691] (by decide +kernel) (by decide +kernel)
set_option maxRecDepth 20000 in
theorem gL_law_X8_init : GoodIn wsL_law (wsX8_init) := ggL_law_X8_init
set_option maxRecDepth 20000 in
theorem ggL_law_X7_set : GoodIn wsL_law wsX7_set := goodIn_r _ [105, 16, 106, 107, 108, 109, 110, 111, 112, 2, 113, 114, 115, 116, 117, 118, 119, 120, 15, 121, 122, 123, 124, 125, 126, 40, 127, 35, 42, 128, 129, 130, 39, 131, 55, 57, 132, 133, 134, 135, 136, 137, 138, 139, 140, 141, 142, 143, 58, 56, 144, 145, 146, 147, 148, 149, 150, 151, 46, 152, 153, 154, 155, 156, 157, 158, 45, 159, 62, 160, 161, 162, 163, 164, 165, 166, 167, 168, 169, 170, 666, 667, 668, 669, 670, 671, 672, 692, 693, 694, 695, 696, 697, 708, 709, 710, 711, 712, 713] (by decide +kernel) (by decide +kernel)
set_option maxRecDepth 20000 in
theorem gL_law_X7_set : GoodIn wsL_law (wsV RL 13 RX7 yX7_set wsX7_set) := goodIn_app (goodIn_of _ (by decide +kernel)) ggL_law_X7_set
set_option maxRecDepth 20000 in
theorem ggL_law_X8_set : GoodIn wsL_law wsX8_set := goodIn_r _ [174, 88, 175, 176, 5, 177, 178, 179, 180, 181, 182, 183, 184, 185, 186, 187, 188, 189, 190, 191, 192, 193, 194, 195, 196, 197, 198, 199, 200, 201, 202, 203, 204, 205, 206, 91, 673, 674, 675, 676, 677, 678, 679, 680, 681, 682, 683, 684, 685, 686, 687, 688, 689, 690, 691] (by decide +kernel) (by decide +kernel)
set_option maxRecDepth 20000 in
theorem gL_law_X8_set : GoodIn wsL_law (wsV RL 17 RX8 yX8_set wsX8_set) := goodIn_app (goodIn_of _ (by decide +kernel)) ggL_law_X8_set
set_option maxRecDepth 20000 in
theorem ggL_law_X7_told : GoodIn wsL_law wsX7_told := goodIn_r _ [210, 16, 106, 211, 212, 213, 214, 215, 666, 667, 668, 669, 670, 671, 672, 692, 693, 694, 695, 696, 697, 708, 709, 710, 711, 712, 713] (by decide +kernel) (by decide +kernel)
set_option maxRecDepth 20000 in
theorem gL_law_X7_told : GoodIn wsL_law (wsV RL 18 RX7 yX7_told wsX7_told) := goodIn_app (goodIn_of _ (by decide +kernel)) ggL_law_X7_told
set_option maxRecDepth 20000 in
theorem ggL_law_X8_told : GoodIn wsL_law wsX8_told := goodIn_r _ [219, 88, 175, 176, 5, 177, 673, 674, 675, 676, 677, 678, 679, 680, 681, 682, 683, 684, 685, 686, 687, 688, 689, 690, 691] (by decide +kernel) (by decide +kernel)
set_option maxRecDepth 20000 in
theorem gL_law_X8_told : GoodIn wsL_law (wsV RL 22 RX8 yX8_told wsX8_told) := goodIn_app (goodIn_of _ (by decide +kernel)) ggL_law_X8_told
set_option maxRecDepth 20000 in
theorem ggL_law_X7_put : GoodIn wsL_law wsX7_put := goodIn_r _ [223, 16, 106, 224, 225, 2, 226, 227, 228, 229, 15, 230, 42, 231, 232, 233, 234, 235, 236, 237, 238, 40, 127, 239, 240, 241, 242, 243, 108, 109, 110, 35, 136, 137, 138, 139, 140, 141, 142, 39, 143, 57, 58, 55, 56, 144, 145, 146, 147, 244, 245, 246, 247, 248, 249, 250, 36, 251, 119, 120, 121, 122, 123, 124, 125, 126, 128, 129, 130, 131, 132, 133, 134, 135, 148, 149, 150, 151, 46, 152, 153, 154, 155, 156, 157, 158, 45, 159, 62, 160, 161, 162, 163, 164, 165, 166, 167, 168, 169, 170, 666, 667, 668, 669, 670, 671, 672, 692, 693, 694, 695, 696, 697, 708, 709, 710, 711, 712, 713] (by decide +kernel) (by decide +kernel)
set_option maxRecDepth 20000 in
theorem gL_law_X7_put : GoodIn wsL_law (wsV RL 23 RX7 yX7_put wsX7_put) := goodIn_app (goodIn_of _ (by decide +kernel)) ggL_law_X7_put
set_option maxRecDepth 20000 in
theorem ggL_law_X8_put : GoodIn wsL_law wsX8_put := goodIn_r _ [255, 88, 256, 257, 5, 258, 175, 176, 177, 259, 260, 261, 262, 263, 264, 265, 266, 267, 268, 269, 270, 194, 195, 196, 197, 182, 183, 184, 185, 186, 187, 188, 189, 190, 191, 192, 193, 198, 199, 200, 201, 202, 203, 204, 205, 206, 91, 673, 674, 675, 676, 677, 678, 679, 680, 681, 682, 683, 684, 685, 686, 687, 688, 689, 690, 691] (by decide +kernel) (by decide +kernel)
set_option maxRecDepth 20000 in
theorem gL_law_X8_put : GoodIn wsL_law (wsV RL 27 RX8 yX8_put wsX8_put) := goodIn_app (goodIn_of _ (by decide +kernel)) ggL_law_X8_put
set_option maxRecDepth 20000 in
theorem ggL_law_X7_get : GoodIn wsL_law wsX7_get := goodIn_r _ [274, 275, 16, 276, 224, 225, 2, 226, 277, 278, 279, 15, 280, 36, 42, 231, 232, 233, 234, 239, 240, 241, 242, 243, 108, 109, 110, 35, 136, 137, 138, 139, 40, 140, 141, 142, 39, 143, 57, 58, 55, 56, 144, 145, 146, 147, 251, 119, 120, 121, 122, 123, 124, 125, 126, 127, 128, 129, 130, 131, 132, 133, 134, 135, 148, 149, 150, 151, 46, 152, 153, 154, 155, 156, 157, 158, 45, 159, 62, 160, 161, 162, 163, 164, 165, 166, 167, 168, 169, 170, 666, 667, 668, 669, 670, 671, 672, 692, 693, 694, 695, 696, 697, 708, 709, 710, 711, 712, 713] (by decide +kernel) (by decide +kernel)
set_option maxRecDepth 20000 in
theorem gL_law_X7_get : GoodIn wsL_law (wsV RL 28 RX7 yX7_get wsX7_get) := goodIn_app (goodIn_of _ (by decide +kernel)) ggL_law_X7_get
set_option maxRecDepth 20000 in
theorem ggL_law_X8_get : GoodIn wsL_law wsX8_get := goodIn_r _ [284, 285, 88, 256, 257, 5, 258, 175, 176, 177, 286, 287, 288, 289, 290, 291, 292, 293, 267, 268, 269, 270, 194, 195, 196, 197, 182, 183, 184, 185, 186, 187, 188, 189, 190, 191, 192, 193, 198, 199, 200, 201, 202, 203, 204, 205, 206, 91, 673, 674, 675, 676, 677, 678, 679, 680, 681, 682, 683, 684, 685, 686, 687, 688, 689, 690, 691] (by decide +kernel) (by decide +kernel)
set_option maxRecDepth 20000 in
theorem gL_law_X8_get : GoodIn wsL_law (wsV RL 32 RX8 yX8_get wsX8_get) := goodIn_app (goodIn_of _ (by decide +kernel)) ggL_law_X8_get
set_option maxRecDepth 20000 in
theorem ggL_law_X7_drop : GoodIn wsL_law wsX7_drop := goodIn_r _ [297, 16, 276, 224, 225, 2, 226, 298, 137, 138, 15, 139, 42, 40, 140, 141, 142, 39, 143, 57, 58, 55, 56, 144, 145, 146, 147, 666, 667, 668, 669, 670, 671, 672, 692, 693, 694, 695, 696, 697, 708, 709, 710, 711] (by decide +kernel) (by decide +kernel)
set_option maxRecDepth 20000 in
theorem gL_law_X7_drop : GoodIn wsL_law (wsV RL 33 RX7 yX7_drop wsX7_drop) := goodIn_app (goodIn_of _ (by decide +kernel)) ggL_law_X7_drop
set_option maxRecDepth 20000 in
theorem ggL_law_X8_drop : GoodIn wsL_law wsX8_drop := goodIn_r _ [302, 256, 257, 5, 258, 175, 176, 177, 303, 304, 305, 306, 88, 194, 195, 196, 197, 673, 674, 675, 676, 677, 678, 679, 680, 681, 682, 683, 684, 685, 686, 687, 688, 689, 690, 691] (by decide +kernel) (by decide +kernel)
set_option maxRecDepth 20000 in
theorem gL_law_X8_drop : GoodIn wsL_law (wsV RL 36 RX8 yX8_drop wsX8_drop) := goodIn_app (goodIn_of _ (by decide +kernel)) ggL_law_X8_drop
set_option maxRecDepth 20000 in
theorem ggL_law_X7_pin : GoodIn wsL_law wsX7_pin := goodIn_r _ [310, 16, 276, 224, 225, 2, 226, 311, 232, 233, 15, 234, 42, 666, 667, 668, 669, 670, 671, 672, 692, 693, 694, 695, 696, 697] (by decide +kernel) (by decide +kernel)
set_option maxRecDepth 20000 in
theorem gL_law_X7_pin : GoodIn wsL_law (wsV RL 37 RX7 yX7_pin wsX7_pin) := goodIn_app (goodIn_of _ (by decide +kernel)) ggL_law_X7_pin
set_option maxRecDepth 20000 in
theorem ggL_law_X8_pin : GoodIn wsL_law wsX8_pin := goodIn_r _ [315, 88, 256, 257, 5, 258, 175, 176, 177, 290, 291, 292, 293, 673, 674, 675, 676, 677, 678, 679, 680, 681, 682, 683, 684, 685, 686, 687, 688, 689, 690, 691] (by decide +kernel) (by decide +kernel)
set_option maxRecDepth 20000 in
theorem gL_law_X8_pin : GoodIn wsL_law (wsV RL 41 RX8 yX8_pin wsX8_pin) := goodIn_app (goodIn_of _ (by decide +kernel)) ggL_law_X8_pin
set_option maxRecDepth 20000 in
theorem ggL_law_X7_of : GoodIn wsL_law wsX7_of := goodIn_r _ [319, 16, 276, 224, 225, 2, 226, 320, 321, 322, 15, 323, 42, 40, 324, 325, 326, 39, 327, 55, 57, 132, 133, 134, 135, 311, 232, 233, 234, 666, 667, 668, 669, 670, 671, 672, 692, 693, 694, 695, 696, 697, 708, 709, 710, 711] (by decide +kernel) (by decide +kernel)
set_option maxRecDepth 20000 in
theorem gL_law_X7_of : GoodIn wsL_law (wsV RL 42 RX7 yX7_of wsX7_of) := goodIn_app (goodIn_of _ (by decide +kernel)) ggL_law_X7_of
set_option maxRecDepth 20000 in
theorem ggL_law_X8_of : GoodIn wsL_law wsX8_of := goodIn_r _ [331, 88, 256, 257, 5, 258, 175, 176, 177, 290, 291, 292, 293, 332, 333, 334, 335, 673, 674, 675, 676, 677, 678, 679, 680, 681, 682, 683, 684, 685, 686, 687, 688, 689, 690, 691] (by decide +kernel) (by decide +kernel)
set_option maxRecDepth 20000 in
theorem gL_law_X8_of : GoodIn wsL_law (wsV RL 46 RX8 yX8_of wsX8_of) := goodIn_app (goodIn_of _ (by decide +kernel)) ggL_law_X8_of
set_option maxRecDepth 20000 in
theorem ggL_law_X7_key : GoodIn wsL_law wsX7_key := goodIn_r _ [339, 16, 211, 340, 341, 342, 39, 343, 55, 57, 132, 133, 134, 135, 666, 667, 668, 669, 670, 671, 672, 692, 693, 694, 695, 696, 697, 708, 709, 710, 711] (by decide +kernel) (by decide +kernel)
set_option maxRecDepth 20000 in
theorem gL_law_X7_key : GoodIn wsL_law (wsV RL 47 RX7 yX7_key wsX7_key) := goodIn_app (goodIn_of _ (by decide +kernel)) ggL_law_X7_key
set_option maxRecDepth 20000 in
theorem ggL_law_X8_key : GoodIn wsL_law wsX8_key := goodIn_r _ [347, 175, 176, 5, 177, 348, 349, 350, 351, 88, 332, 333, 334, 335, 673, 674, 675, 676, 677, 678, 679, 680, 681, 682, 683, 684, 685, 686, 687, 688, 689, 690, 691] (by decide +kernel) (by decide +kernel)
set_option maxRecDepth 20000 in
theorem gL_law_X8_key : GoodIn wsL_law (wsV RL 50 RX8 yX8_key wsX8_key) := goodIn_app (goodIn_of _ (by decide +kernel)) ggL_law_X8_key
set_option maxRecDepth 20000 in
theorem ggL_law_X7_gone : GoodIn wsL_law wsX7_gone := goodIn_r _ [355, 16, 214, 215, 107, 108, 109, 110, 356, 357, 358, 45, 359, 62, 161, 162, 163, 164, 666, 667, 668, 669, 670, 671, 672, 692, 693, 694, 695, 696, 697, 712, 713] (by decide +kernel) (by decide +kernel)
set_option maxRecDepth 20000 in
theorem gL_law_X7_gone : GoodIn wsL_law (wsV RL 51 RX7 yX7_gone wsX7_gone) := goodIn_app (goodIn_of _ (by decide +kernel)) ggL_law_X7_gone
set_option maxRecDepth 20000 in
theorem ggL_law_X8_gone : GoodIn wsL_law wsX8_gone := goodIn_r _ [363, 88, 673, 674, 675, 676, 677, 678, 679, 680, 681, 682, 683, 684, 685, 686, 687, 688, 689, 690, 691] (by decide +kernel) (by decide +kernel)
set_option maxRecDepth 20000 in
theorem gL_law_X8_gone : GoodIn wsL_law (wsV RL 54 RX8 yX8_gone wsX8_gone) := goodIn_app (goodIn_of _ (by decide +kernel)) ggL_law_X8_gone
set_option maxRecDepth 20000 in
theorem ggL_law_X7_victim : GoodIn wsL_law wsX7_victim := goodIn_r _ [367, 16, 214, 215, 17, 368, 369, 370, 2, 371, 106, 372, 373, 374, 15, 375, 35, 376, 377, 378, 379, 36, 40, 42, 46, 50, 380, 381, 382, 39, 383, 55, 384, 56, 57, 58, 385, 386, 387, 45, 388, 62, 389, 160, 390, 391, 392, 49, 393, 66, 394, 67, 395, 118, 119, 120, 121, 122, 123, 124, 125, 126, 127, 128, 129, 130, 131, 132, 133, 134, 135, 136, 137, 138, 139, 140, 141, 142, 143, 144, 145, 146, 147, 148, 149, 150, 151, 152, 153, 154, 155, 156, 157, 158, 159, 161, 162, 163, 164, 165, 166, 167, 168, 169, 170, 356, 357, 358, 359, 666, 667, 668, 669, 670, 671, 672, 692, 693, 694, 695, 696, 697, 712, 713, 708, 709, 710, 711, 714, 715, 716] (by decide +kernel) (by decide +kernel)
set_option maxRecDepth 20000 in
theorem gL_law_X7_victim : GoodIn wsL_law (wsV RL 55 RX7 yX7_victim wsX7_victim) := goodIn_app (goodIn_of _ (by decide +kernel)) ggL_law_X7_victim
set_option maxRecDepth 20000 in
theorem ggL_law_X8_victim : GoodIn wsL_law wsX8_victim := goodIn_r _ [399, 88, 89, 206, 91, 400, 401, 5, 402, 182, 183, 184, 185, 186, 187, 188, 189, 190, 191, 192, 193, 194, 195, 196, 197, 198, 199, 200, 201, 202, 203, 204, 205, 673, 674, 675, 676, 677, 678, 679, 680, 681, 682, 683, 684, 685, 686, 687, 688, 689, 690, 691] (by decide +kernel) (by decide +kernel)
set_option maxRecDepth 20000 in
theorem gL_law_X8_victim : GoodIn wsL_law (wsV RL 58 RX8 yX8_victim wsX8_victim) := goodIn_app (goodIn_of _ (by decide +kernel)) ggL_law_X8_victim
set_option maxRecDepth 20000 in
theorem ggL_law_X7_feed : GoodIn wsL_law wsX7_feed := goodIn_r _ [406, 21, 407, 408, 666, 667, 668, 669, 670, 671, 672, 698, 699, 700] (by decide +kernel) (by decide +kernel)
set_option maxRecDepth 20000 in
theorem gL_law_X7_feed : GoodIn wsL_law (wsV RL 59 RX7 yX7_feed wsX7_feed) := goodIn_app (goodIn_of _ (by decide +kernel)) ggL_law_X7_feed
set_option maxRecDepth 20000 in
theorem ggL_law_X8_feed : GoodIn wsL_law wsX8_feed := goodIn_r _ [412, 413, 92, 175, 176, 5, 177, 673, 674, 675, 676, 677, 678, 679, 680, 681, 682, 683, 684, 685, 686, 687, 688, 689, 690, 691] (by decide +kernel) (by decide +kernel)
set_option maxRecDepth 20000 in
theorem gL_law_X8_feed : GoodIn wsL_law (wsV RL 62 RX8 yX8_feed wsX8_feed) := goodIn_app (goodIn_of _ (by decide +kernel)) ggL_law_X8_feed
set_option maxRecDepth 20000 in
theorem ggL_law_X7_trace : GoodIn wsL_law wsX7_trace := goodIn_r _ [417, 418, 21, 23, 407, 419, 420, 421, 20, 422, 423, 424, 425, 426, 427, 428, 429, 430, 431, 432, 433, 434, 435, 71, 436, 437, 438, 439, 440, 441, 442, 443, 444, 666, 667, 668, 669, 670, 671, 672, 698, 699, 700, 701, 702, 703, 704] (by decide +kernel) (by decide +kernel)
set_option maxRecDepth 20000 in
theorem gL_law_X7_trace : GoodIn wsL_law (wsV RL 63 RX7 yX7_trace wsX7_trace) := goodIn_app (goodIn_of _ (by decide +kernel)) ggL_law_X7_trace
set_option maxRecDepth 20000 in
theorem ggL_law_X8_trace : GoodIn wsL_law wsX8_trace := goodIn_r _ [448, 449, 450, 451, 413, 96, 452, 453, 454, 5, 455, 92, 95, 93, 94, 456, 457, 458, 459, 175, 176, 177, 460, 461, 462, 463, 673, 674, 675, 676, 677, 678, 679, 680, 681, 682, 683, 684, 685, 686, 687, 688, 689, 690, 691] (by decide +kernel) (by decide +kernel)
set_option maxRecDepth 20000 in
theorem gL_law_X8_trace : GoodIn wsL_law (wsV RL 67 RX8 yX8_trace wsX8_trace) := goodIn_app (goodIn_of _ (by decide +kernel)) ggL_law_X8_trace
set_option maxRecDepth 20000 in
theorem ggL_law_X7_run : GoodIn wsL_law wsX7_run := goodIn_r _ [467, 16, 23, 468, 469, 470, 2, 471, 418, 472, 473, 474, 15, 475, 36, 476, 477, 478, 479, 35, 480, 278, 279, 280, 42, 231, 232, 233, 234, 239, 240, 241, 242, 243, 108, 109, 110, 136, 137, 138, 139, 40, 140, 141, 142, 39, 143, 57, 58, 55, 56, 144, 145, 146, 147, 251, 119, 120, 121, 122, 123, 124, 125, 126, 127, 128, 129, 130, 131, 132, 133, 134, 135, 148, 149, 150, 151, 46, 152, 153, 154, 155, 156, 157, 158, 45, 159, 62, 160, 161, 162, 163, 164, 165, 166, 167, 168, 169, 170, 481, 228, 229, 230, 235, 236, 237, 238, 244, 245, 246, 247, 248, 249, 250, 666, 667, 668, 669, 670, 671, 672, 692, 693, 694, 695, 696, 697, 701, 702, 703, 704, 708, 709, 710, 711, 712, 713] (by decide +kernel) (by decide +kernel)
set_option maxRecDepth 20000 in
theorem gL_law_X7_run : GoodIn wsL_law (wsV RL 68 RX7 yX7_run wsX7_run) := goodIn_app (goodIn_of _ (by decide +kernel)) ggL_law_X7_run
set_option maxRecDepth 20000 in
theorem ggL_law_X8_run : GoodIn wsL_law wsX8_run := goodIn_r _ [485, 486, 487, 488, 5, 489, 449, 175, 176, 177, 490, 491, 492, 493, 88, 96, 93, 94, 95, 286, 287, 288, 289, 290, 291, 292, 293, 267, 268, 269, 270, 194, 195, 196, 197, 182, 183, 184, 185, 186, 187, 188, 189, 190, 191, 192, 193, 198, 199, 200, 201, 202, 203, 204, 205, 206, 91, 303, 304, 305, 306, 259, 260, 261, 262, 263, 264, 265, 266, 673, 674, 675, 676, 677, 678, 679, 680, 681, 682, 683, 684, 685, 686, 687, 688, 689, 690, 691] (by decide +kernel) (by decide +kernel)
set_option maxRecDepth 20000 in
theorem gL_law_X8_run : GoodIn wsL_law (wsV RL 71 RX8 yX8_run wsX8_run) := goodIn_app (goodIn_of _ (by decide +kernel)) ggL_law_X8_run
set_option maxRecDepth 20000 in
theorem ggL_law_X7_would : GoodIn wsL_law wsX7_would := goodIn_r _ [497, 17, 16, 23, 213, 106, 214, 215, 468, 469, 470, 2, 471, 418, 372, 373, 374, 15, 375, 35, 376, 377, 378, 379, 36, 40, 42, 46, 50, 380, 381, 382, 39, 383, 55, 384, 56, 57, 58, 385, 386, 387, 45, 388, 62, 389, 160, 390, 391, 392, 49, 393, 66, 394, 67, 395, 472, 473, 474, 475, 476, 477, 478, 479, 480, 278, 279, 280, 231, 232, 233, 234, 239, 240, 241, 242, 243, 108, 109, 110, 136, 137, 138, 139, 140, 141, 142, 143, 144, 145, 146, 147, 251, 119, 120, 121, 122, 123, 124, 125, 126, 127, 128, 129, 130, 131, 132, 133, 134, 135, 148, 149, 150, 151, 152, 153, 154, 155, 156, 157, 158, 159, 161, 162, 163, 164, 165, 166, 167, 168, 169, 170, 481, 228, 229, 230, 235, 236, 237, 238, 244, 245, 246, 247, 248, 249, 250, 498, 666, 667, 668, 669, 670, 671, 672, 692, 693, 694, 695, 696, 697, 712, 713, 708, 709, 710, 711, 714, 715, 716, 701, 702, 703, 704] (by decide +kernel) (by decide +kernel)
set_option maxRecDepth 20000 in
theorem gL_law_X7_would : GoodIn wsL_law (wsV RL 72 RX7 yX7_would wsX7_would) := goodIn_app (goodIn_of _ (by decide +kernel)) ggL_law_X7_would
set_option maxRecDepth 20000 in
theorem ggL_law_X8_would : GoodIn wsL_law wsX8_would := goodIn_r _ [502, 88, 89, 486, 487, 488, 5, 489, 449, 175, 176, 177, 400, 401, 402, 490, 491, 492, 493, 96, 93, 94, 95, 286, 287, 288, 289, 290, 291, 292, 293, 267, 268, 269, 270, 194, 195, 196, 197, 182, 183, 184, 185, 186, 187, 188, 189, 190, 191, 192, 193, 198, 199, 200, 201, 202, 203, 204, 205, 206, 91, 303, 304, 305, 306, 259, 260, 261, 262, 263, 264, 265, 266, 673, 674, 675, 676, 677, 678, 679, 680, 681, 682, 683, 684, 685, 686, 687, 688, 689, 690, 691] (by decide +kernel) (by decide +kernel)
set_option maxRecDepth 20000 in
theorem gL_law_X8_would : GoodIn wsL_law (wsV RL 75 RX8 yX8_would wsX8_would) := goodIn_app (goodIn_of _ (by decide +kernel)) ggL_law_X8_would
set_option maxRecDepth 20000 in
theorem ggL_law_X7_need : GoodIn wsL_law wsX7_need := goodIn_r _ [506, 16, 106, 107, 108, 109, 110, 17, 23, 468, 469, 470, 2, 471, 418, 368, 369, 370, 371, 372, 373, 374, 15, 375, 35, 376, 377, 378, 379, 36, 40, 42, 46, 50, 380, 381, 382, 39, 383, 55, 384, 56, 57, 58, 385, 386, 387, 45, 388, 62, 389, 160, 390, 391, 392, 49, 393, 66, 394, 67, 395, 118, 119, 120, 121, 122, 123, 124, 125, 126, 127, 128, 129, 130, 131, 132, 133, 134, 135, 136, 137, 138, 139, 140, 141, 142, 143, 144, 145, 146, 147, 148, 149, 150, 151, 152, 153, 154, 155, 156, 157, 158, 159, 161, 162, 163, 164, 165, 166, 167, 168, 169, 170, 472, 473, 474, 475, 476, 477, 478, 479, 480, 278, 279, 280, 231, 232, 233, 234, 239, 240, 241, 242, 243, 251, 481, 228, 229, 230, 235, 236, 237, 238, 244, 245, 246, 247, 248, 249, 250, 666, 667, 668, 669, 670, 671, 672, 692, 693, 694, 695, 696, 697, 708, 709, 710, 711, 712, 713, 714, 715, 716, 701, 702, 703, 704] (by decide +kernel) (by decide +kernel)
set_option maxRecDepth 20000 in
theorem gL_law_X7_need : GoodIn wsL_law (wsV RL 76 RX7 yX7_need wsX7_need) := goodIn_app (goodIn_of _ (by decide +kernel)) ggL_law_X7_need
set_option maxRecDepth 20000 in
theorem ggL_law_X8_need : GoodIn wsL_law wsX8_need := goodIn_r _ [510, 88, 89, 486, 487, 488, 5, 489, 449, 175, 176, 177, 400, 401, 402, 178, 179, 180, 181, 182, 183, 184, 185, 186, 187, 188, 189, 190, 191, 192, 193, 194, 195, 196, 197, 198, 199, 200, 201, 202, 203, 204, 205, 206, 91, 490, 491, 492, 493, 96, 93, 94, 95, 286, 287, 288, 289, 290, 291, 292, 293, 267, 268, 269, 270, 303, 304, 305, 306, 259, 260, 261, 262, 263, 264, 265, 266, 673, 674, 675, 676, 677, 678, 679, 680, 681, 682, 683, 684, 685, 686, 687, 688, 689, 690, 691] (by decide +kernel) (by decide +kernel)
set_option maxRecDepth 20000 in
theorem gL_law_X8_need : GoodIn wsL_law (wsV RL 79 RX8 yX8_need wsX8_need) := goodIn_app (goodIn_of _ (by decide +kernel)) ggL_law_X8_need
set_option maxRecDepth 20000 in
theorem ggL_law_X7_odds : GoodIn wsL_law wsX7_odds := goodIn_r _ [514, 275, 16, 106, 17, 23, 468, 469, 470, 2, 471, 418, 515, 516, 517, 368, 369, 370, 371, 372, 373, 374, 15, 375, 35, 376, 377, 378, 379, 36, 40, 42, 46, 50, 380, 381, 382, 39, 383, 55, 384, 56, 57, 58, 385, 386, 387, 45, 388, 62, 389, 160, 390, 391, 392, 49, 393, 66, 394, 67, 395, 118, 119, 120, 121, 122, 123, 124, 125, 126, 127, 128, 129, 130, 131, 132, 133, 134, 135, 136, 137, 138, 139, 140, 141, 142, 143, 144, 145, 146, 147, 148, 149, 150, 151, 152, 153, 154, 155, 156, 157, 158, 159, 161, 162, 163, 164, 165, 166, 167, 168, 169, 170, 472, 473, 474, 475, 476, 477, 478, 479, 480, 278, 279, 280, 231, 232, 233, 234, 239, 240, 241, 242, 243, 108, 109, 110, 251, 481, 228, 229, 230, 235, 236, 237, 238, 244, 245, 246, 247, 248, 249, 250, 518, 519, 520, 521, 522, 523, 524, 666, 667, 668, 669, 670, 671, 672, 692, 693, 694, 695, 696, 697, 708, 709, 710, 711, 712, 713, 714, 715, 716, 701, 702, 703, 704] (by decide +kernel) (by decide +kernel)
set_option maxRecDepth 20000 in
theorem gL_law_X7_odds : GoodIn wsL_law (wsV RL 80 RX7 yX7_odds wsX7_odds) := goodIn_app (goodIn_of _ (by decide +kernel)) ggL_law_X7_odds
set_option maxRecDepth 20000 in
theorem ggL_law_X8_odds : GoodIn wsL_law wsX8_odds := goodIn_r _ [528, 285, 88, 89, 486, 487, 488, 5, 489, 449, 175, 176, 177, 400, 401, 402, 182, 183, 184, 185, 186, 187, 188, 189, 190, 191, 192, 193, 194, 195, 196, 197, 198, 199, 200, 201, 202, 203, 204, 205, 206, 91, 490, 491, 492, 493, 96, 93, 94, 95, 286, 287, 288, 289, 290, 291, 292, 293, 267, 268, 269, 270, 303, 304, 305, 306, 259, 260, 261, 262, 263, 264, 265, 266, 529, 530, 531, 532, 533, 534, 673, 674, 675, 676, 677, 678, 679, 680, 681, 682, 683, 684, 685, 686, 687, 688, 689, 690, 691] (by decide +kernel) (by decide +kernel)
set_option maxRecDepth 20000 in
theorem gL_law_X8_odds : GoodIn wsL_law (wsV RL 84 RX8 yX8_odds wsX8_odds) := goodIn_app (goodIn_of _ (by decide +kernel)) ggL_law_X8_odds
set_option maxRecDepth 20000 in
theorem ggL_law_X7_mean : GoodIn wsL_law wsX7_mean := goodIn_r _ [538, 275, 16, 211, 539, 276, 540, 515, 516, 2, 517, 541, 133, 134, 39, 135, 57, 518, 519, 520, 521, 522, 523, 524, 666, 667, 668, 669, 670, 671, 672, 692, 693, 694, 695, 696, 697, 708, 709, 710, 711] (by decide +kernel) (by decide +kernel)
set_option maxRecDepth 20000 in
theorem gL_law_X7_mean : GoodIn wsL_law (wsV RL 85 RX7 yX7_mean wsX7_mean) := goodIn_app (goodIn_of _ (by decide +kernel)) ggL_law_X7_mean
set_option maxRecDepth 20000 in
theorem ggL_law_X8_mean : GoodIn wsL_law wsX8_mean := goodIn_r _ [545, 285, 88, 175, 176, 5, 177, 546, 547, 548, 549, 529, 530, 531, 532, 533, 534, 673, 674, 675, 676, 677, 678, 679, 680, 681, 682, 683, 684, 685, 686, 687, 688, 689, 690, 691] (by decide +kernel) (by decide +kernel)
set_option maxRecDepth 20000 in
theorem gL_law_X8_mean : GoodIn wsL_law (wsV RL 88 RX8 yX8_mean wsX8_mean) := goodIn_app (goodIn_of _ (by decide +kernel)) ggL_law_X8_mean
set_option maxRecDepth 20000 in
theorem ggL_law_X7_book : GoodIn wsL_law wsX7_book := goodIn_r _ [553, 16, 554, 555, 556, 557, 224, 225, 2, 226, 666, 667, 668, 669, 670, 671, 672, 692, 693, 694, 695, 696, 697, 714, 715, 716] (by decide +kernel) (by decide +kernel)
set_option maxRecDepth 20000 in
theorem gL_law_X7_book : GoodIn wsL_law (wsV RL 89 RX7 yX7_book wsX7_book) := goodIn_app (goodIn_of _ (by decide +kernel)) ggL_law_X7_book
set_option maxRecDepth 20000 in
theorem ggL_law_X8_book : GoodIn wsL_law wsX8_book := goodIn_r _ [561, 88, 256, 257, 5, 258, 175, 176, 177, 673, 674, 675, 676, 677, 678, 679, 680, 681, 682, 683, 684, 685, 686, 687, 688, 689, 690, 691] (by decide +kernel) (by decide +kernel)
set_option maxRecDepth 20000 in
theorem gL_law_X8_book : GoodIn wsL_law (wsV RL 92 RX8 yX8_book wsX8_book) := goodIn_app (goodIn_of _ (by decide +kernel)) ggL_law_X8_book
set_option maxRecDepth 20000 in
theorem ggL_law_X7_looked : GoodIn wsL_law wsX7_looked := goodIn_r _ [565, 16, 554, 555, 276, 556, 557, 666, 667, 668, 669, 670, 671, 672, 692, 693, 694, 695, 696, 697, 714, 715, 716] (by decide +kernel) (by decide +kernel)
set_option maxRecDepth 20000 in
theorem gL_law_X7_looked : GoodIn wsL_law (wsV RL 93 RX7 yX7_looked wsX7_looked) := goodIn_app (goodIn_of _ (by decide +kernel)) ggL_law_X7_looked
set_option maxRecDepth 20000 in
theorem ggL_law_X8_looked : GoodIn wsL_law wsX8_looked := goodIn_r _ [569, 88, 673, 674, 675, 676, 677, 678, 679, 680, 681, 682, 683, 684, 685, 686, 687, 688, 689, 690, 691] (by decide +kernel) (by decide +kernel)
set_option maxRecDepth 20000 in
theorem gL_law_X8_looked : GoodIn wsL_law (wsV RL 96 RX8 yX8_looked wsX8_looked) := goodIn_app (goodIn_of _ (by decide +kernel)) ggL_law_X8_looked
set_option maxRecDepth 20000 in
theorem ggL_law_X7_judge : GoodIn wsL_law wsX7_judge := goodIn_r _ [573, 25, 574, 16, 211, 539, 575, 576, 540, 577, 578, 2, 579, 541, 133, 134, 39, 135, 57, 666, 667, 668, 669, 670, 671, 672, 705, 706, 707, 692, 693, 694, 695, 696, 697, 708, 709, 710, 711] (by decide +kernel) (by decide +kernel)
set_option maxRecDepth 20000 in
theorem gL_law_X7_judge : GoodIn wsL_law (wsV RL 97 RX7 yX7_judge wsX7_judge) := goodIn_app (goodIn_of _ (by decide +kernel)) ggL_law_X7_judge
set_option maxRecDepth 20000 in
theorem ggL_law_X8_judge : GoodIn wsL_law wsX8_judge := goodIn_r _ [583, 97, 98, 100, 584, 585, 5, 586, 175, 176, 177, 546, 547, 548, 549, 88, 348, 349, 350, 351, 332, 333, 334, 335, 673, 674, 675, 676, 677, 678, 679, 680, 681, 682, 683, 684, 685, 686, 687, 688, 689, 690, 691] (by decide +kernel) (by decide +kernel)
set_option maxRecDepth 20000 in
theorem gL_law_X8_judge : GoodIn wsL_law (wsV RL 100 RX8 yX8_judge wsX8_judge) := goodIn_app (goodIn_of _ (by decide +kernel)) ggL_law_X8_judge
set_option maxRecDepth 20000 in
theorem ggL_law_X7_image : GoodIn wsL_law wsX7_image := goodIn_r _ [590, 591, 13, 14, 15, 16, 30, 31, 32, 33, 11, 12, 34, 35, 36, 37, 38, 39, 40, 41, 42, 43, 44, 45, 46, 47, 48, 49, 50, 51, 52, 53, 54, 55, 56, 57, 58, 59, 60, 61, 62, 63, 64, 65, 66, 67, 372, 373, 374, 375, 376, 377, 378, 379, 380, 381, 382, 383, 384, 385, 386, 387, 388, 389, 160, 390, 391, 392, 393, 394, 395, 592, 593, 594, 595, 169, 666, 667, 668, 669, 670, 671, 672, 692, 693, 694, 695, 696, 697, 708, 709, 710, 711, 712, 713, 714, 715, 716] (by decide +kernel) (by decide +kernel)
set_option maxRecDepth 20000 in
theorem gL_law_X7_image : GoodIn wsL_law (wsV RL 101 RX7 yX7_image wsX7_image) := goodIn_app (goodIn_of _ (by decide +kernel)) ggL_law_X7_image
set_option maxRecDepth 20000 in
theorem ggL_law_X8_image : GoodIn wsL_law wsX8_image := goodIn_r _ [599, 88, 90, 600, 400, 401, 5, 402, 546, 547, 548, 549, 673, 674, 675, 676, 677, 678, 679, 680, 681, 682, 683, 684, 685, 686, 687, 688, 689, 690, 691] (by decide +kernel) (by decide +kernel)
set_option maxRecDepth 20000 in
theorem gL_law_X8_image : GoodIn wsL_law (wsV RL 104 RX8 yX8_image wsX8_image) := goodIn_app (goodIn_of _ (by decide +kernel)) ggL_law_X8_image
set_option maxRecDepth 20000 in
theorem ggL_law_X7_undo : GoodIn wsL_law wsX7_undo := goodIn_r _ [604, 591, 16, 372, 373, 374, 15, 375, 35, 376, 377, 378, 379, 36, 40, 42, 46, 50, 380, 381, 382, 39, 383, 55, 384, 56, 57, 58, 385, 386, 387, 45, 388, 62, 389, 160, 390, 391, 392, 49, 393, 66, 394, 67, 395, 592, 593, 594, 595, 169, 666, 667, 668, 669, 670, 671, 672, 692, 693, 694, 695, 696, 697, 708, 709, 710, 711, 712, 713, 714, 715, 716] (by decide +kernel) (by decide +kernel)
set_option maxRecDepth 20000 in
theorem gL_law_X7_undo : GoodIn wsL_law (wsV RL 105 RX7 yX7_undo wsX7_undo) := goodIn_app (goodIn_of _ (by decide +kernel)) ggL_law_X7_undo
set_option maxRecDepth 20000 in
theorem ggL_law_X8_undo : GoodIn wsL_law wsX8_undo := goodIn_r _ [608, 600, 90, 88, 400, 401, 5, 402, 546, 547, 548, 549, 673, 674, 675, 676, 677, 678, 679, 680, 681, 682, 683, 684, 685, 686, 687, 688, 689, 690, 691] (by decide +kernel) (by decide +kernel)
set_option maxRecDepth 20000 in
theorem gL_law_X8_undo : GoodIn wsL_law (wsV RL 108 RX8 yX8_undo wsX8_undo) := goodIn_app (goodIn_of _ (by decide +kernel)) ggL_law_X8_undo
set_option maxRecDepth 20000 in
theorem ggL_law_X7_count : GoodIn wsL_law wsX7_count := goodIn_r _ [612, 16, 211, 539, 418, 554, 555, 21, 407, 666, 667, 668, 669, 670, 671, 672, 692, 693, 694, 695, 696, 697, 708, 709, 710, 711, 714, 715, 716, 698, 699, 700] (by decide +kernel) (by decide +kernel)
set_option maxRecDepth 20000 in
theorem gL_law_X7_count : GoodIn wsL_law (wsV RL 109 RX7 yX7_count wsX7_count) := goodIn_app (goodIn_of _ (by decide +kernel)) ggL_law_X7_count
set_option maxRecDepth 20000 in
theorem ggL_law_X8_count : GoodIn wsL_law wsX8_count := goodIn_r _ [616, 449, 88, 413, 546, 547, 548, 5, 549, 673, 674, 675, 676, 677, 678, 679, 680, 681, 682, 683, 684, 685, 686, 687, 688, 689, 690, 691] (by decide +kernel) (by decide +kernel)
set_option maxRecDepth 20000 in
theorem gL_law_X8_count : GoodIn wsL_law (wsV RL 112 RX8 yX8_count wsX8_count) := goodIn_app (goodIn_of _ (by decide +kernel)) ggL_law_X8_count
set_option maxRecDepth 20000 in
theorem ggL_law_X7_tape : GoodIn wsL_law wsX7_tape := goodIn_r _ [620, 25, 577, 578, 2, 579, 621, 622, 623, 29, 624, 82, 83, 625, 666, 667, 668, 669, 670, 671, 672, 705, 706, 707] (by decide +kernel) (by decide +kernel)
set_option maxRecDepth 20000 in
theorem gL_law_X7_tape : GoodIn wsL_law (wsV RL 113 RX7 yX7_tape wsX7_tape) := goodIn_app (goodIn_of _ (by decide +kernel)) ggL_law_X7_tape
set_option maxRecDepth 20000 in
theorem ggL_law_X8_tape : GoodIn wsL_law wsX8_tape := goodIn_r _ [629, 97, 98, 100, 584, 585, 5, 586, 175, 176, 177, 673, 674, 675, 676, 677, 678, 679, 680, 681, 682, 683, 684, 685, 686, 687, 688, 689, 690, 691] (by decide +kernel) (by decide +kernel)
set_option maxRecDepth 20000 in
theorem gL_law_X8_tape : GoodIn wsL_law (wsV RL 116 RX8 yX8_tape wsX8_tape) := goodIn_app (goodIn_of _ (by decide +kernel)) ggL_law_X8_tape
set_option maxRecDepth 20000 in
theorem ggL_law_X7_item : GoodIn wsL_law wsX7_item := goodIn_r _ [633, 25, 574, 575, 576, 577, 578, 2, 579, 634, 635, 636, 29, 637, 83, 666, 667, 668, 669, 670, 671, 672, 705, 706, 707] (by decide +kernel) (by decide +kernel)
set_option maxRecDepth 20000 in
theorem gL_law_X7_item : GoodIn wsL_law (wsV RL 119 RX7 yX7_item wsX7_item) := goodIn_app (goodIn_of _ (by decide +kernel)) ggL_law_X7_item
set_option maxRecDepth 20000 in
theorem ggL_law_X8_item : GoodIn wsL_law wsX8_item := goodIn_r _ [641, 97, 98, 100, 584, 585, 5, 586, 175, 176, 177, 642, 643, 644, 673, 674, 675, 676, 677, 678, 679, 680, 681, 682, 683, 684, 685, 686, 687, 688, 689, 690, 691] (by decide +kernel) (by decide +kernel)
set_option maxRecDepth 20000 in
theorem gL_law_X8_item : GoodIn wsL_law (wsV RL 123 RX8 yX8_item wsX8_item) := goodIn_app (goodIn_of _ (by decide +kernel)) ggL_law_X8_item
set_option maxRecDepth 20000 in
theorem ggL_law_X7_read : GoodIn wsL_law wsX7_read := goodIn_r _ [648, 275, 25, 575, 576, 577, 578, 2, 579, 666, 667, 668, 669, 670, 671, 672, 705, 706, 707] (by decide +kernel) (by decide +kernel)
set_option maxRecDepth 20000 in
theorem gL_law_X7_read : GoodIn wsL_law (wsV RL 124 RX7 yX7_read wsX7_read) := goodIn_app (goodIn_of _ (by decide +kernel)) ggL_law_X7_read
set_option maxRecDepth 20000 in
theorem ggL_law_X8_read : GoodIn wsL_law wsX8_read := goodIn_r _ [652, 97, 98, 100, 285, 584, 585, 5, 586, 175, 176, 177, 673, 674, 675, 676, 677, 678, 679, 680, 681, 682, 683, 684, 685, 686, 687, 688, 689, 690, 691] (by decide +kernel) (by decide +kernel)
set_option maxRecDepth 20000 in
theorem gL_law_X8_read : GoodIn wsL_law (wsV RL 127 RX8 yX8_read wsX8_read) := goodIn_app (goodIn_of _ (by decide +kernel)) ggL_law_X8_read
set_option maxRecDepth 20000 in
theorem ggL_law_X7_shift : GoodIn wsL_law wsX7_shift := goodIn_r _ [656, 25, 574, 576, 657, 377, 378, 379, 577, 578, 2, 579, 658, 659, 660, 29, 661, 625, 666, 667, 668, 669, 670, 671, 672, 705, 706, 707] (by decide +kernel) (by decide +kernel)
set_option maxRecDepth 20000 in
theorem gL_law_X7_shift : GoodIn wsL_law (wsV RL 128 RX7 yX7_shift wsX7_shift) := goodIn_app (goodIn_of _ (by decide +kernel)) ggL_law_X7_shift
set_option maxRecDepth 20000 in
theorem ggL_law_X8_shift : GoodIn wsL_law wsX8_shift := goodIn_r _ [665, 97, 98, 101, 100, 584, 585, 5, 586, 175, 176, 177, 673, 674, 675, 676, 677, 678, 679, 680, 681, 682, 683, 684, 685, 686, 687, 688, 689, 690, 691] (by decide +kernel) (by decide +kernel)
set_option maxRecDepth 20000 in
theorem gL_law_X8_shift : GoodIn wsL_law (wsV RL 131 RX8 yX8_shift wsX8_shift) := goodIn_app (goodIn_of _ (by decide +kernel)) ggL_law_X8_shift
theorem dL_law_0 : decode cL_law 0 = .ok (.new 7, 3) := by decide +kernel
theorem dL_law_3 : decode cL_law 3 = .ok (.dup, 1) := by decide +kernel
theorem dL_law_4 : decode cL_law 4 = .ok (.invokespecial 9, 3) := by decide +kernel
theorem dL_law_7 : decode cL_law 7 = .ok (.astore_n 1, 1) := by decide +kernel
theorem dL_law_8 : decode cL_law 8 = .ok (.new 10, 3) := by decide +kernel
theorem dL_law_11 : decode cL_law 11 = .ok (.dup, 1) := by decide +kernel
theorem dL_law_12 : decode cL_law 12 = .ok (.invokespecial 12, 3) := by decide +kernel
theorem dL_law_15 : decode cL_law 15 = .ok (.astore_n 2, 1) := by decide +kernel
theorem dL_law_16 : decode cL_law 16 = .ok (.iconst 0, 1) := by decide +kernel
theorem dL_law_17 : decode cL_law 17 = .ok (.istore_n 3, 1) := by decide +kernel
theorem dL_law_18 : decode cL_law 18 = .ok (.iload_n 3, 1) := by decide +kernel
theorem dL_law_19 : decode cL_law 19 = .ok (.aload_n 0, 1) := by decide +kernel
theorem dL_law_20 : decode cL_law 20 = .ok (.arraylength, 1) := by decide +kernel
theorem dL_law_21 : decode cL_law 21 = .ok (.bipush 6, 2) := by decide +kernel
theorem dL_law_23 : decode cL_law 23 = .ok (.isub, 1) := by decide +kernel
theorem dL_law_24 : decode cL_law 24 = .ok (.if_icmp .gt 1059, 3) := by decide +kernel
theorem dL_law_27 : decode cL_law 27 = .ok (.aload_n 0, 1) := by decide +kernel
theorem dL_law_28 : decode cL_law 28 = .ok (.iload_n 3, 1) := by decide +kernel
theorem dL_law_29 : decode cL_law 29 = .ok (.iaload, 1) := by decide +kernel
theorem dL_law_30 : decode cL_law 30 = .ok (.bipush 31, 2) := by decide +kernel
theorem dL_law_32 : decode cL_law 32 = .ok (.iand, 1) := by decide +kernel
theorem dL_law_33 : decode cL_law 33 = .ok (.tableswitch 1044 0 26 #[123, 156, 179, 242, 276, 309, 368, 411, 444, 467, 490, 513, 526, 549, 582, 615, 659, 693, 736, 749, 782, 795, 808, 831, 874, 947, 981], 123) := by decide +kernel
theorem dL_law_156 : decode cL_law 156 = .ok (.aload_n 1, 1) := by decide +kernel
theorem dL_law_157 : decode cL_law 157 = .ok (.aload_n 0, 1) := by decide +kernel
theorem dL_law_158 : decode cL_law 158 = .ok (.iload_n 3, 1) := by decide +kernel
theorem dL_law_159 : decode cL_law 159 = .ok (.iconst 1, 1) := by decide +kernel
theorem dL_law_160 : decode cL_law 160 = .ok (.iadd, 1) := by decide +kernel
theorem dL_law_161 : decode cL_law 161 = .ok (.iaload, 1) := by decide +kernel
theorem dL_law_162 : decode cL_law 162 = .ok (.aload_n 0, 1) := by decide +kernel
theorem dL_law_163 : decode cL_law 163 = .ok (.iload_n 3, 1) := by decide +kernel
theorem dL_law_164 : decode cL_law 164 = .ok (.iconst 2, 1) := by decide +kernel
theorem dL_law_165 : decode cL_law 165 = .ok (.iadd, 1) := by decide +kernel
theorem dL_law_166 : decode cL_law 166 = .ok (.iaload, 1) := by decide +kernel
theorem dL_law_167 : decode cL_law 167 = .ok (.invokevirtual 13, 3) := by decide +kernel
theorem dL_law_170 : decode cL_law 170 = .ok (.aload_n 2, 1) := by decide +kernel
theorem dL_law_171 : decode cL_law 171 = .ok (.aload_n 0, 1) := by decide +kernel
theorem dL_law_172 : decode cL_law 172 = .ok (.iload_n 3, 1) := by decide +kernel
theorem dL_law_173 : decode cL_law 173 = .ok (.iconst 1, 1) := by decide +kernel
theorem dL_law_174 : decode cL_law 174 = .ok (.iadd, 1) := by decide +kernel
theorem dL_law_175 : decode cL_law 175 = .ok (.iaload, 1) := by decide +kernel
theorem dL_law_176 : decode cL_law 176 = .ok (.aload_n 0, 1) := by decide +kernel
theorem dL_law_177 : decode cL_law 177 = .ok (.iload_n 3, 1) := by decide +kernel
theorem dL_law_178 : decode cL_law 178 = .ok (.iconst 2, 1) := by decide +kernel
theorem dL_law_179 : decode cL_law 179 = .ok (.iadd, 1) := by decide +kernel
theorem dL_law_180 : decode cL_law 180 = .ok (.iaload, 1) := by decide +kernel
theorem dL_law_181 : decode cL_law 181 = .ok (.invokevirtual 17, 3) := by decide +kernel
theorem dL_law_184 : decode cL_law 184 = .ok (.if_icmp .eq 893, 3) := by decide +kernel
theorem dL_law_187 : decode cL_law 187 = .ok (.iconst 0, 1) := by decide +kernel
theorem dL_law_188 : decode cL_law 188 = .ok (.ireturn, 1) := by decide +kernel
theorem dL_law_189 : decode cL_law 189 = .ok (.aload_n 1, 1) := by decide +kernel
theorem dL_law_190 : decode cL_law 190 = .ok (.aload_n 0, 1) := by decide +kernel
theorem dL_law_191 : decode cL_law 191 = .ok (.iload_n 3, 1) := by decide +kernel
theorem dL_law_192 : decode cL_law 192 = .ok (.iconst 1, 1) := by decide +kernel
theorem dL_law_193 : decode cL_law 193 = .ok (.iadd, 1) := by decide +kernel
theorem dL_law_194 : decode cL_law 194 = .ok (.iaload, 1) := by decide +kernel
theorem dL_law_195 : decode cL_law 195 = .ok (.invokevirtual 18, 3) := by decide +kernel
theorem dL_law_198 : decode cL_law 198 = .ok (.aload_n 2, 1) := by decide +kernel
theorem dL_law_199 : decode cL_law 199 = .ok (.aload_n 0, 1) := by decide +kernel
theorem dL_law_200 : decode cL_law 200 = .ok (.iload_n 3, 1) := by decide +kernel
theorem dL_law_201 : decode cL_law 201 = .ok (.iconst 1, 1) := by decide +kernel
theorem dL_law_202 : decode cL_law 202 = .ok (.iadd, 1) := by decide +kernel
theorem dL_law_203 : decode cL_law 203 = .ok (.iaload, 1) := by decide +kernel
theorem dL_law_204 : decode cL_law 204 = .ok (.invokevirtual 22, 3) := by decide +kernel
theorem dL_law_207 : decode cL_law 207 = .ok (.if_icmp .eq 870, 3) := by decide +kernel
theorem dL_law_210 : decode cL_law 210 = .ok (.iconst 0, 1) := by decide +kernel
theorem dL_law_211 : decode cL_law 211 = .ok (.ireturn, 1) := by decide +kernel
theorem dL_law_212 : decode cL_law 212 = .ok (.aload_n 1, 1) := by decide +kernel
theorem dL_law_213 : decode cL_law 213 = .ok (.aload_n 0, 1) := by decide +kernel
theorem dL_law_214 : decode cL_law 214 = .ok (.iload_n 3, 1) := by decide +kernel
theorem dL_law_215 : decode cL_law 215 = .ok (.iconst 1, 1) := by decide +kernel
theorem dL_law_216 : decode cL_law 216 = .ok (.iadd, 1) := by decide +kernel
theorem dL_law_217 : decode cL_law 217 = .ok (.iaload, 1) := by decide +kernel
theorem dL_law_218 : decode cL_law 218 = .ok (.aload_n 0, 1) := by decide +kernel
theorem dL_law_219 : decode cL_law 219 = .ok (.iload_n 3, 1) := by decide +kernel
theorem dL_law_220 : decode cL_law 220 = .ok (.iconst 2, 1) := by decide +kernel
theorem dL_law_221 : decode cL_law 221 = .ok (.iadd, 1) := by decide +kernel
theorem dL_law_222 : decode cL_law 222 = .ok (.iaload, 1) := by decide +kernel
theorem dL_law_223 : decode cL_law 223 = .ok (.aload_n 0, 1) := by decide +kernel
theorem dL_law_224 : decode cL_law 224 = .ok (.iload_n 3, 1) := by decide +kernel
theorem dL_law_225 : decode cL_law 225 = .ok (.iconst 3, 1) := by decide +kernel
theorem dL_law_226 : decode cL_law 226 = .ok (.iadd, 1) := by decide +kernel
theorem dL_law_227 : decode cL_law 227 = .ok (.iaload, 1) := by decide +kernel
theorem dL_law_228 : decode cL_law 228 = .ok (.aload_n 0, 1) := by decide +kernel
theorem dL_law_229 : decode cL_law 229 = .ok (.iload_n 3, 1) := by decide +kernel
theorem dL_law_230 : decode cL_law 230 = .ok (.iconst 4, 1) := by decide +kernel
theorem dL_law_231 : decode cL_law 231 = .ok (.iadd, 1) := by decide +kernel
theorem dL_law_232 : decode cL_law 232 = .ok (.iaload, 1) := by decide +kernel
theorem dL_law_233 : decode cL_law 233 = .ok (.aload_n 0, 1) := by decide +kernel
theorem dL_law_234 : decode cL_law 234 = .ok (.iload_n 3, 1) := by decide +kernel
theorem dL_law_235 : decode cL_law 235 = .ok (.iconst 5, 1) := by decide +kernel
theorem dL_law_236 : decode cL_law 236 = .ok (.iadd, 1) := by decide +kernel
theorem dL_law_237 : decode cL_law 237 = .ok (.iaload, 1) := by decide +kernel
theorem dL_law_238 : decode cL_law 238 = .ok (.invokevirtual 23, 3) := by decide +kernel
theorem dL_law_241 : decode cL_law 241 = .ok (.aload_n 2, 1) := by decide +kernel
theorem dL_law_242 : decode cL_law 242 = .ok (.aload_n 0, 1) := by decide +kernel
theorem dL_law_243 : decode cL_law 243 = .ok (.iload_n 3, 1) := by decide +kernel
theorem dL_law_244 : decode cL_law 244 = .ok (.iconst 1, 1) := by decide +kernel
theorem dL_law_245 : decode cL_law 245 = .ok (.iadd, 1) := by decide +kernel
theorem dL_law_246 : decode cL_law 246 = .ok (.iaload, 1) := by decide +kernel
theorem dL_law_247 : decode cL_law 247 = .ok (.aload_n 0, 1) := by decide +kernel
theorem dL_law_248 : decode cL_law 248 = .ok (.iload_n 3, 1) := by decide +kernel
theorem dL_law_249 : decode cL_law 249 = .ok (.iconst 2, 1) := by decide +kernel
theorem dL_law_250 : decode cL_law 250 = .ok (.iadd, 1) := by decide +kernel
theorem dL_law_251 : decode cL_law 251 = .ok (.iaload, 1) := by decide +kernel
theorem dL_law_252 : decode cL_law 252 = .ok (.aload_n 0, 1) := by decide +kernel
theorem dL_law_253 : decode cL_law 253 = .ok (.iload_n 3, 1) := by decide +kernel
theorem dL_law_254 : decode cL_law 254 = .ok (.iconst 3, 1) := by decide +kernel
theorem dL_law_255 : decode cL_law 255 = .ok (.iadd, 1) := by decide +kernel
theorem dL_law_256 : decode cL_law 256 = .ok (.iaload, 1) := by decide +kernel
theorem dL_law_257 : decode cL_law 257 = .ok (.aload_n 0, 1) := by decide +kernel
theorem dL_law_258 : decode cL_law 258 = .ok (.iload_n 3, 1) := by decide +kernel
theorem dL_law_259 : decode cL_law 259 = .ok (.iconst 4, 1) := by decide +kernel
theorem dL_law_260 : decode cL_law 260 = .ok (.iadd, 1) := by decide +kernel
theorem dL_law_261 : decode cL_law 261 = .ok (.iaload, 1) := by decide +kernel
theorem dL_law_262 : decode cL_law 262 = .ok (.aload_n 0, 1) := by decide +kernel
theorem dL_law_263 : decode cL_law 263 = .ok (.iload_n 3, 1) := by decide +kernel
theorem dL_law_264 : decode cL_law 264 = .ok (.iconst 5, 1) := by decide +kernel
theorem dL_law_265 : decode cL_law 265 = .ok (.iadd, 1) := by decide +kernel
theorem dL_law_266 : decode cL_law 266 = .ok (.iaload, 1) := by decide +kernel
theorem dL_law_267 : decode cL_law 267 = .ok (.invokevirtual 27, 3) := by decide +kernel
theorem dL_law_270 : decode cL_law 270 = .ok (.if_icmp .eq 807, 3) := by decide +kernel
theorem dL_law_273 : decode cL_law 273 = .ok (.iconst 0, 1) := by decide +kernel
theorem dL_law_274 : decode cL_law 274 = .ok (.ireturn, 1) := by decide +kernel
theorem dL_law_275 : decode cL_law 275 = .ok (.aload_n 1, 1) := by decide +kernel
theorem dL_law_276 : decode cL_law 276 = .ok (.aload_n 0, 1) := by decide +kernel
theorem dL_law_277 : decode cL_law 277 = .ok (.iload_n 3, 1) := by decide +kernel
theorem dL_law_278 : decode cL_law 278 = .ok (.iconst 1, 1) := by decide +kernel
theorem dL_law_279 : decode cL_law 279 = .ok (.iadd, 1) := by decide +kernel
theorem dL_law_280 : decode cL_law 280 = .ok (.iaload, 1) := by decide +kernel
theorem dL_law_281 : decode cL_law 281 = .ok (.aload_n 0, 1) := by decide +kernel
theorem dL_law_282 : decode cL_law 282 = .ok (.iload_n 3, 1) := by decide +kernel
theorem dL_law_283 : decode cL_law 283 = .ok (.iconst 2, 1) := by decide +kernel
theorem dL_law_284 : decode cL_law 284 = .ok (.iadd, 1) := by decide +kernel
theorem dL_law_285 : decode cL_law 285 = .ok (.iaload, 1) := by decide +kernel
theorem dL_law_286 : decode cL_law 286 = .ok (.invokevirtual 28, 3) := by decide +kernel
theorem dL_law_289 : decode cL_law 289 = .ok (.aload_n 2, 1) := by decide +kernel
theorem dL_law_290 : decode cL_law 290 = .ok (.aload_n 0, 1) := by decide +kernel
theorem dL_law_291 : decode cL_law 291 = .ok (.iload_n 3, 1) := by decide +kernel
theorem dL_law_292 : decode cL_law 292 = .ok (.iconst 1, 1) := by decide +kernel
theorem dL_law_293 : decode cL_law 293 = .ok (.iadd, 1) := by decide +kernel
theorem dL_law_294 : decode cL_law 294 = .ok (.iaload, 1) := by decide +kernel
theorem dL_law_295 : decode cL_law 295 = .ok (.aload_n 0, 1) := by decide +kernel
theorem dL_law_296 : decode cL_law 296 = .ok (.iload_n 3, 1) := by decide +kernel
theorem dL_law_297 : decode cL_law 297 = .ok (.iconst 2, 1) := by decide +kernel
theorem dL_law_298 : decode cL_law 298 = .ok (.iadd, 1) := by decide +kernel
theorem dL_law_299 : decode cL_law 299 = .ok (.iaload, 1) := by decide +kernel
theorem dL_law_300 : decode cL_law 300 = .ok (.invokevirtual 32, 3) := by decide +kernel
theorem dL_law_303 : decode cL_law 303 = .ok (.lcmp, 1) := by decide +kernel
theorem dL_law_304 : decode cL_law 304 = .ok (.ifCond .eq 773, 3) := by decide +kernel
theorem dL_law_307 : decode cL_law 307 = .ok (.iconst 0, 1) := by decide +kernel
theorem dL_law_308 : decode cL_law 308 = .ok (.ireturn, 1) := by decide +kernel
theorem dL_law_309 : decode cL_law 309 = .ok (.aload_n 1, 1) := by decide +kernel
theorem dL_law_310 : decode cL_law 310 = .ok (.aload_n 0, 1) := by decide +kernel
theorem dL_law_311 : decode cL_law 311 = .ok (.iload_n 3, 1) := by decide +kernel
theorem dL_law_312 : decode cL_law 312 = .ok (.iconst 1, 1) := by decide +kernel
theorem dL_law_313 : decode cL_law 313 = .ok (.iadd, 1) := by decide +kernel
theorem dL_law_314 : decode cL_law 314 = .ok (.iaload, 1) := by decide +kernel
theorem dL_law_315 : decode cL_law 315 = .ok (.aload_n 0, 1) := by decide +kernel
theorem dL_law_316 : decode cL_law 316 = .ok (.iload_n 3, 1) := by decide +kernel
theorem dL_law_317 : decode cL_law 317 = .ok (.iconst 2, 1) := by decide +kernel
theorem dL_law_318 : decode cL_law 318 = .ok (.iadd, 1) := by decide +kernel
theorem dL_law_319 : decode cL_law 319 = .ok (.iaload, 1) := by decide +kernel
theorem dL_law_320 : decode cL_law 320 = .ok (.invokevirtual 33, 3) := by decide +kernel
theorem dL_law_323 : decode cL_law 323 = .ok (.aload_n 2, 1) := by decide +kernel
theorem dL_law_324 : decode cL_law 324 = .ok (.aload_n 0, 1) := by decide +kernel
theorem dL_law_325 : decode cL_law 325 = .ok (.iload_n 3, 1) := by decide +kernel
theorem dL_law_326 : decode cL_law 326 = .ok (.iconst 1, 1) := by decide +kernel
theorem dL_law_327 : decode cL_law 327 = .ok (.iadd, 1) := by decide +kernel
theorem dL_law_328 : decode cL_law 328 = .ok (.iaload, 1) := by decide +kernel
theorem dL_law_329 : decode cL_law 329 = .ok (.aload_n 0, 1) := by decide +kernel
theorem dL_law_330 : decode cL_law 330 = .ok (.iload_n 3, 1) := by decide +kernel
theorem dL_law_331 : decode cL_law 331 = .ok (.iconst 2, 1) := by decide +kernel
theorem dL_law_332 : decode cL_law 332 = .ok (.iadd, 1) := by decide +kernel
theorem dL_law_333 : decode cL_law 333 = .ok (.iaload, 1) := by decide +kernel
theorem dL_law_334 : decode cL_law 334 = .ok (.invokevirtual 36, 3) := by decide +kernel
theorem dL_law_337 : decode cL_law 337 = .ok (.if_icmp .eq 740, 3) := by decide +kernel
theorem dL_law_340 : decode cL_law 340 = .ok (.iconst 0, 1) := by decide +kernel
theorem dL_law_341 : decode cL_law 341 = .ok (.ireturn, 1) := by decide +kernel
theorem dL_law_342 : decode cL_law 342 = .ok (.aload_n 1, 1) := by decide +kernel
theorem dL_law_343 : decode cL_law 343 = .ok (.aload_n 0, 1) := by decide +kernel
theorem dL_law_344 : decode cL_law 344 = .ok (.iload_n 3, 1) := by decide +kernel
theorem dL_law_345 : decode cL_law 345 = .ok (.iconst 1, 1) := by decide +kernel
theorem dL_law_346 : decode cL_law 346 = .ok (.iadd, 1) := by decide +kernel
theorem dL_law_347 : decode cL_law 347 = .ok (.iaload, 1) := by decide +kernel
theorem dL_law_348 : decode cL_law 348 = .ok (.aload_n 0, 1) := by decide +kernel
theorem dL_law_349 : decode cL_law 349 = .ok (.iload_n 3, 1) := by decide +kernel
theorem dL_law_350 : decode cL_law 350 = .ok (.iconst 2, 1) := by decide +kernel
theorem dL_law_351 : decode cL_law 351 = .ok (.iadd, 1) := by decide +kernel
theorem dL_law_352 : decode cL_law 352 = .ok (.iaload, 1) := by decide +kernel
theorem dL_law_353 : decode cL_law 353 = .ok (.aload_n 0, 1) := by decide +kernel
theorem dL_law_354 : decode cL_law 354 = .ok (.iload_n 3, 1) := by decide +kernel
theorem dL_law_355 : decode cL_law 355 = .ok (.iconst 3, 1) := by decide +kernel
theorem dL_law_356 : decode cL_law 356 = .ok (.iadd, 1) := by decide +kernel
theorem dL_law_357 : decode cL_law 357 = .ok (.iaload, 1) := by decide +kernel
theorem dL_law_358 : decode cL_law 358 = .ok (.ifCond .eq 7, 3) := by decide +kernel
theorem dL_law_361 : decode cL_law 361 = .ok (.iconst 1, 1) := by decide +kernel
theorem dL_law_362 : decode cL_law 362 = .ok (.goto 4, 3) := by decide +kernel
theorem dL_law_365 : decode cL_law 365 = .ok (.iconst 0, 1) := by decide +kernel
theorem dL_law_366 : decode cL_law 366 = .ok (.invokevirtual 37, 3) := by decide +kernel
theorem dL_law_369 : decode cL_law 369 = .ok (.aload_n 2, 1) := by decide +kernel
theorem dL_law_370 : decode cL_law 370 = .ok (.aload_n 0, 1) := by decide +kernel
theorem dL_law_371 : decode cL_law 371 = .ok (.iload_n 3, 1) := by decide +kernel
theorem dL_law_372 : decode cL_law 372 = .ok (.iconst 1, 1) := by decide +kernel
theorem dL_law_373 : decode cL_law 373 = .ok (.iadd, 1) := by decide +kernel
theorem dL_law_374 : decode cL_law 374 = .ok (.iaload, 1) := by decide +kernel
theorem dL_law_375 : decode cL_law 375 = .ok (.aload_n 0, 1) := by decide +kernel
theorem dL_law_376 : decode cL_law 376 = .ok (.iload_n 3, 1) := by decide +kernel
theorem dL_law_377 : decode cL_law 377 = .ok (.iconst 2, 1) := by decide +kernel
theorem dL_law_378 : decode cL_law 378 = .ok (.iadd, 1) := by decide +kernel
theorem dL_law_379 : decode cL_law 379 = .ok (.iaload, 1) := by decide +kernel
theorem dL_law_380 : decode cL_law 380 = .ok (.aload_n 0, 1) := by decide +kernel
theorem dL_law_381 : decode cL_law 381 = .ok (.iload_n 3, 1) := by decide +kernel
theorem dL_law_382 : decode cL_law 382 = .ok (.iconst 3, 1) := by decide +kernel
theorem dL_law_383 : decode cL_law 383 = .ok (.iadd, 1) := by decide +kernel
theorem dL_law_384 : decode cL_law 384 = .ok (.iaload, 1) := by decide +kernel
theorem dL_law_385 : decode cL_law 385 = .ok (.ifCond .eq 7, 3) := by decide +kernel
theorem dL_law_388 : decode cL_law 388 = .ok (.iconst 1, 1) := by decide +kernel
theorem dL_law_389 : decode cL_law 389 = .ok (.goto 4, 3) := by decide +kernel
theorem dL_law_392 : decode cL_law 392 = .ok (.iconst 0, 1) := by decide +kernel
theorem dL_law_393 : decode cL_law 393 = .ok (.invokevirtual 41, 3) := by decide +kernel
theorem dL_law_396 : decode cL_law 396 = .ok (.if_icmp .eq 681, 3) := by decide +kernel
theorem dL_law_399 : decode cL_law 399 = .ok (.iconst 0, 1) := by decide +kernel
theorem dL_law_400 : decode cL_law 400 = .ok (.ireturn, 1) := by decide +kernel
theorem dL_law_401 : decode cL_law 401 = .ok (.aload_n 1, 1) := by decide +kernel
theorem dL_law_402 : decode cL_law 402 = .ok (.aload_n 0, 1) := by decide +kernel
theorem dL_law_403 : decode cL_law 403 = .ok (.iload_n 3, 1) := by decide +kernel
theorem dL_law_404 : decode cL_law 404 = .ok (.iconst 1, 1) := by decide +kernel
theorem dL_law_405 : decode cL_law 405 = .ok (.iadd, 1) := by decide +kernel
theorem dL_law_406 : decode cL_law 406 = .ok (.iaload, 1) := by decide +kernel
theorem dL_law_407 : decode cL_law 407 = .ok (.aload_n 0, 1) := by decide +kernel
theorem dL_law_408 : decode cL_law 408 = .ok (.iload_n 3, 1) := by decide +kernel
theorem dL_law_409 : decode cL_law 409 = .ok (.iconst 2, 1) := by decide +kernel
theorem dL_law_410 : decode cL_law 410 = .ok (.iadd, 1) := by decide +kernel
theorem dL_law_411 : decode cL_law 411 = .ok (.iaload, 1) := by decide +kernel
theorem dL_law_412 : decode cL_law 412 = .ok (.aload_n 0, 1) := by decide +kernel
theorem dL_law_413 : decode cL_law 413 = .ok (.iload_n 3, 1) := by decide +kernel
theorem dL_law_414 : decode cL_law 414 = .ok (.iconst 3, 1) := by decide +kernel
theorem dL_law_415 : decode cL_law 415 = .ok (.iadd, 1) := by decide +kernel
theorem dL_law_416 : decode cL_law 416 = .ok (.iaload, 1) := by decide +kernel
theorem dL_law_417 : decode cL_law 417 = .ok (.invokevirtual 42, 3) := by decide +kernel
theorem dL_law_420 : decode cL_law 420 = .ok (.aload_n 2, 1) := by decide +kernel
theorem dL_law_421 : decode cL_law 421 = .ok (.aload_n 0, 1) := by decide +kernel
theorem dL_law_422 : decode cL_law 422 = .ok (.iload_n 3, 1) := by decide +kernel
theorem dL_law_423 : decode cL_law 423 = .ok (.iconst 1, 1) := by decide +kernel
theorem dL_law_424 : decode cL_law 424 = .ok (.iadd, 1) := by decide +kernel
theorem dL_law_425 : decode cL_law 425 = .ok (.iaload, 1) := by decide +kernel
theorem dL_law_426 : decode cL_law 426 = .ok (.aload_n 0, 1) := by decide +kernel
theorem dL_law_427 : decode cL_law 427 = .ok (.iload_n 3, 1) := by decide +kernel
theorem dL_law_428 : decode cL_law 428 = .ok (.iconst 2, 1) := by decide +kernel
theorem dL_law_429 : decode cL_law 429 = .ok (.iadd, 1) := by decide +kernel
theorem dL_law_430 : decode cL_law 430 = .ok (.iaload, 1) := by decide +kernel
theorem dL_law_431 : decode cL_law 431 = .ok (.aload_n 0, 1) := by decide +kernel
theorem dL_law_432 : decode cL_law 432 = .ok (.iload_n 3, 1) := by decide +kernel
theorem dL_law_433 : decode cL_law 433 = .ok (.iconst 3, 1) := by decide +kernel
theorem dL_law_434 : decode cL_law 434 = .ok (.iadd, 1) := by decide +kernel
theorem dL_law_435 : decode cL_law 435 = .ok (.iaload, 1) := by decide +kernel
theorem dL_law_436 : decode cL_law 436 = .ok (.invokevirtual 46, 3) := by decide +kernel
theorem dL_law_439 : decode cL_law 439 = .ok (.if_icmp .eq 638, 3) := by decide +kernel
theorem dL_law_442 : decode cL_law 442 = .ok (.iconst 0, 1) := by decide +kernel
theorem dL_law_443 : decode cL_law 443 = .ok (.ireturn, 1) := by decide +kernel
theorem dL_law_444 : decode cL_law 444 = .ok (.aload_n 1, 1) := by decide +kernel
theorem dL_law_445 : decode cL_law 445 = .ok (.aload_n 0, 1) := by decide +kernel
theorem dL_law_446 : decode cL_law 446 = .ok (.iload_n 3, 1) := by decide +kernel
theorem dL_law_447 : decode cL_law 447 = .ok (.iconst 1, 1) := by decide +kernel
theorem dL_law_448 : decode cL_law 448 = .ok (.iadd, 1) := by decide +kernel
theorem dL_law_449 : decode cL_law 449 = .ok (.iaload, 1) := by decide +kernel
theorem dL_law_450 : decode cL_law 450 = .ok (.aload_n 0, 1) := by decide +kernel
theorem dL_law_451 : decode cL_law 451 = .ok (.iload_n 3, 1) := by decide +kernel
theorem dL_law_452 : decode cL_law 452 = .ok (.iconst 2, 1) := by decide +kernel
theorem dL_law_453 : decode cL_law 453 = .ok (.iadd, 1) := by decide +kernel
theorem dL_law_454 : decode cL_law 454 = .ok (.iaload, 1) := by decide +kernel
theorem dL_law_455 : decode cL_law 455 = .ok (.invokevirtual 47, 3) := by decide +kernel
theorem dL_law_458 : decode cL_law 458 = .ok (.aload_n 2, 1) := by decide +kernel
theorem dL_law_459 : decode cL_law 459 = .ok (.aload_n 0, 1) := by decide +kernel
theorem dL_law_460 : decode cL_law 460 = .ok (.iload_n 3, 1) := by decide +kernel
theorem dL_law_461 : decode cL_law 461 = .ok (.iconst 1, 1) := by decide +kernel
theorem dL_law_462 : decode cL_law 462 = .ok (.iadd, 1) := by decide +kernel
theorem dL_law_463 : decode cL_law 463 = .ok (.iaload, 1) := by decide +kernel
theorem dL_law_464 : decode cL_law 464 = .ok (.aload_n 0, 1) := by decide +kernel
theorem dL_law_465 : decode cL_law 465 = .ok (.iload_n 3, 1) := by decide +kernel
theorem dL_law_466 : decode cL_law 466 = .ok (.iconst 2, 1) := by decide +kernel
theorem dL_law_467 : decode cL_law 467 = .ok (.iadd, 1) := by decide +kernel
theorem dL_law_468 : decode cL_law 468 = .ok (.iaload, 1) := by decide +kernel
theorem dL_law_469 : decode cL_law 469 = .ok (.invokevirtual 50, 3) := by decide +kernel
theorem dL_law_472 : decode cL_law 472 = .ok (.if_icmp .eq 605, 3) := by decide +kernel
theorem dL_law_475 : decode cL_law 475 = .ok (.iconst 0, 1) := by decide +kernel
theorem dL_law_476 : decode cL_law 476 = .ok (.ireturn, 1) := by decide +kernel
theorem dL_law_477 : decode cL_law 477 = .ok (.aload_n 1, 1) := by decide +kernel
theorem dL_law_478 : decode cL_law 478 = .ok (.aload_n 0, 1) := by decide +kernel
theorem dL_law_479 : decode cL_law 479 = .ok (.iload_n 3, 1) := by decide +kernel
theorem dL_law_480 : decode cL_law 480 = .ok (.iconst 1, 1) := by decide +kernel
theorem dL_law_481 : decode cL_law 481 = .ok (.iadd, 1) := by decide +kernel
theorem dL_law_482 : decode cL_law 482 = .ok (.iaload, 1) := by decide +kernel
theorem dL_law_483 : decode cL_law 483 = .ok (.invokevirtual 51, 3) := by decide +kernel
theorem dL_law_486 : decode cL_law 486 = .ok (.aload_n 2, 1) := by decide +kernel
theorem dL_law_487 : decode cL_law 487 = .ok (.aload_n 0, 1) := by decide +kernel
theorem dL_law_488 : decode cL_law 488 = .ok (.iload_n 3, 1) := by decide +kernel
theorem dL_law_489 : decode cL_law 489 = .ok (.iconst 1, 1) := by decide +kernel
theorem dL_law_490 : decode cL_law 490 = .ok (.iadd, 1) := by decide +kernel
theorem dL_law_491 : decode cL_law 491 = .ok (.iaload, 1) := by decide +kernel
theorem dL_law_492 : decode cL_law 492 = .ok (.invokevirtual 54, 3) := by decide +kernel
theorem dL_law_495 : decode cL_law 495 = .ok (.if_icmp .eq 582, 3) := by decide +kernel
theorem dL_law_498 : decode cL_law 498 = .ok (.iconst 0, 1) := by decide +kernel
theorem dL_law_499 : decode cL_law 499 = .ok (.ireturn, 1) := by decide +kernel
theorem dL_law_500 : decode cL_law 500 = .ok (.aload_n 1, 1) := by decide +kernel
theorem dL_law_501 : decode cL_law 501 = .ok (.aload_n 0, 1) := by decide +kernel
theorem dL_law_502 : decode cL_law 502 = .ok (.iload_n 3, 1) := by decide +kernel
theorem dL_law_503 : decode cL_law 503 = .ok (.iconst 1, 1) := by decide +kernel
theorem dL_law_504 : decode cL_law 504 = .ok (.iadd, 1) := by decide +kernel
theorem dL_law_505 : decode cL_law 505 = .ok (.iaload, 1) := by decide +kernel
theorem dL_law_506 : decode cL_law 506 = .ok (.invokevirtual 55, 3) := by decide +kernel
theorem dL_law_509 : decode cL_law 509 = .ok (.aload_n 2, 1) := by decide +kernel
theorem dL_law_510 : decode cL_law 510 = .ok (.aload_n 0, 1) := by decide +kernel
theorem dL_law_511 : decode cL_law 511 = .ok (.iload_n 3, 1) := by decide +kernel
theorem dL_law_512 : decode cL_law 512 = .ok (.iconst 1, 1) := by decide +kernel
theorem dL_law_513 : decode cL_law 513 = .ok (.iadd, 1) := by decide +kernel
theorem dL_law_514 : decode cL_law 514 = .ok (.iaload, 1) := by decide +kernel
theorem dL_law_515 : decode cL_law 515 = .ok (.invokevirtual 58, 3) := by decide +kernel
theorem dL_law_518 : decode cL_law 518 = .ok (.if_icmp .eq 559, 3) := by decide +kernel
theorem dL_law_521 : decode cL_law 521 = .ok (.iconst 0, 1) := by decide +kernel
theorem dL_law_522 : decode cL_law 522 = .ok (.ireturn, 1) := by decide +kernel
theorem dL_law_523 : decode cL_law 523 = .ok (.aload_n 1, 1) := by decide +kernel
theorem dL_law_524 : decode cL_law 524 = .ok (.aload_n 0, 1) := by decide +kernel
theorem dL_law_525 : decode cL_law 525 = .ok (.iload_n 3, 1) := by decide +kernel
theorem dL_law_526 : decode cL_law 526 = .ok (.iconst 1, 1) := by decide +kernel
theorem dL_law_527 : decode cL_law 527 = .ok (.iadd, 1) := by decide +kernel
theorem dL_law_528 : decode cL_law 528 = .ok (.iaload, 1) := by decide +kernel
theorem dL_law_529 : decode cL_law 529 = .ok (.invokevirtual 59, 3) := by decide +kernel
theorem dL_law_532 : decode cL_law 532 = .ok (.aload_n 2, 1) := by decide +kernel
theorem dL_law_533 : decode cL_law 533 = .ok (.aload_n 0, 1) := by decide +kernel
theorem dL_law_534 : decode cL_law 534 = .ok (.iload_n 3, 1) := by decide +kernel
theorem dL_law_535 : decode cL_law 535 = .ok (.iconst 1, 1) := by decide +kernel
theorem dL_law_536 : decode cL_law 536 = .ok (.iadd, 1) := by decide +kernel
theorem dL_law_537 : decode cL_law 537 = .ok (.iaload, 1) := by decide +kernel
theorem dL_law_538 : decode cL_law 538 = .ok (.invokevirtual 62, 3) := by decide +kernel
theorem dL_law_541 : decode cL_law 541 = .ok (.if_icmp .eq 536, 3) := by decide +kernel
theorem dL_law_544 : decode cL_law 544 = .ok (.iconst 0, 1) := by decide +kernel
theorem dL_law_545 : decode cL_law 545 = .ok (.ireturn, 1) := by decide +kernel
theorem dL_law_546 : decode cL_law 546 = .ok (.aload_n 1, 1) := by decide +kernel
theorem dL_law_547 : decode cL_law 547 = .ok (.invokevirtual 63, 3) := by decide +kernel
theorem dL_law_550 : decode cL_law 550 = .ok (.aload_n 2, 1) := by decide +kernel
theorem dL_law_551 : decode cL_law 551 = .ok (.invokevirtual 67, 3) := by decide +kernel
theorem dL_law_554 : decode cL_law 554 = .ok (.if_icmp .eq 523, 3) := by decide +kernel
theorem dL_law_557 : decode cL_law 557 = .ok (.iconst 0, 1) := by decide +kernel
theorem dL_law_558 : decode cL_law 558 = .ok (.ireturn, 1) := by decide +kernel
theorem dL_law_559 : decode cL_law 559 = .ok (.aload_n 1, 1) := by decide +kernel
theorem dL_law_560 : decode cL_law 560 = .ok (.aload_n 0, 1) := by decide +kernel
theorem dL_law_561 : decode cL_law 561 = .ok (.iload_n 3, 1) := by decide +kernel
theorem dL_law_562 : decode cL_law 562 = .ok (.iconst 1, 1) := by decide +kernel
theorem dL_law_563 : decode cL_law 563 = .ok (.iadd, 1) := by decide +kernel
theorem dL_law_564 : decode cL_law 564 = .ok (.iaload, 1) := by decide +kernel
theorem dL_law_565 : decode cL_law 565 = .ok (.invokevirtual 68, 3) := by decide +kernel
theorem dL_law_568 : decode cL_law 568 = .ok (.aload_n 2, 1) := by decide +kernel
theorem dL_law_569 : decode cL_law 569 = .ok (.aload_n 0, 1) := by decide +kernel
theorem dL_law_570 : decode cL_law 570 = .ok (.iload_n 3, 1) := by decide +kernel
theorem dL_law_571 : decode cL_law 571 = .ok (.iconst 1, 1) := by decide +kernel
theorem dL_law_572 : decode cL_law 572 = .ok (.iadd, 1) := by decide +kernel
theorem dL_law_573 : decode cL_law 573 = .ok (.iaload, 1) := by decide +kernel
theorem dL_law_574 : decode cL_law 574 = .ok (.invokevirtual 71, 3) := by decide +kernel
theorem dL_law_577 : decode cL_law 577 = .ok (.if_icmp .eq 500, 3) := by decide +kernel
theorem dL_law_580 : decode cL_law 580 = .ok (.iconst 0, 1) := by decide +kernel
theorem dL_law_581 : decode cL_law 581 = .ok (.ireturn, 1) := by decide +kernel
theorem dL_law_582 : decode cL_law 582 = .ok (.aload_n 1, 1) := by decide +kernel
theorem dL_law_583 : decode cL_law 583 = .ok (.aload_n 0, 1) := by decide +kernel
theorem dL_law_584 : decode cL_law 584 = .ok (.iload_n 3, 1) := by decide +kernel
theorem dL_law_585 : decode cL_law 585 = .ok (.iconst 1, 1) := by decide +kernel
theorem dL_law_586 : decode cL_law 586 = .ok (.iadd, 1) := by decide +kernel
theorem dL_law_587 : decode cL_law 587 = .ok (.iaload, 1) := by decide +kernel
theorem dL_law_588 : decode cL_law 588 = .ok (.aload_n 0, 1) := by decide +kernel
theorem dL_law_589 : decode cL_law 589 = .ok (.iload_n 3, 1) := by decide +kernel
theorem dL_law_590 : decode cL_law 590 = .ok (.iconst 2, 1) := by decide +kernel
theorem dL_law_591 : decode cL_law 591 = .ok (.iadd, 1) := by decide +kernel
theorem dL_law_592 : decode cL_law 592 = .ok (.iaload, 1) := by decide +kernel
theorem dL_law_593 : decode cL_law 593 = .ok (.invokevirtual 72, 3) := by decide +kernel
theorem dL_law_596 : decode cL_law 596 = .ok (.aload_n 2, 1) := by decide +kernel
theorem dL_law_597 : decode cL_law 597 = .ok (.aload_n 0, 1) := by decide +kernel
theorem dL_law_598 : decode cL_law 598 = .ok (.iload_n 3, 1) := by decide +kernel
theorem dL_law_599 : decode cL_law 599 = .ok (.iconst 1, 1) := by decide +kernel
theorem dL_law_600 : decode cL_law 600 = .ok (.iadd, 1) := by decide +kernel
theorem dL_law_601 : decode cL_law 601 = .ok (.iaload, 1) := by decide +kernel
theorem dL_law_602 : decode cL_law 602 = .ok (.aload_n 0, 1) := by decide +kernel
theorem dL_law_603 : decode cL_law 603 = .ok (.iload_n 3, 1) := by decide +kernel
theorem dL_law_604 : decode cL_law 604 = .ok (.iconst 2, 1) := by decide +kernel
theorem dL_law_605 : decode cL_law 605 = .ok (.iadd, 1) := by decide +kernel
theorem dL_law_606 : decode cL_law 606 = .ok (.iaload, 1) := by decide +kernel
theorem dL_law_607 : decode cL_law 607 = .ok (.invokevirtual 75, 3) := by decide +kernel
theorem dL_law_610 : decode cL_law 610 = .ok (.if_icmp .eq 467, 3) := by decide +kernel
theorem dL_law_613 : decode cL_law 613 = .ok (.iconst 0, 1) := by decide +kernel
theorem dL_law_614 : decode cL_law 614 = .ok (.ireturn, 1) := by decide +kernel
theorem dL_law_615 : decode cL_law 615 = .ok (.aload_n 1, 1) := by decide +kernel
theorem dL_law_616 : decode cL_law 616 = .ok (.aload_n 0, 1) := by decide +kernel
theorem dL_law_617 : decode cL_law 617 = .ok (.iload_n 3, 1) := by decide +kernel
theorem dL_law_618 : decode cL_law 618 = .ok (.iconst 1, 1) := by decide +kernel
theorem dL_law_619 : decode cL_law 619 = .ok (.iadd, 1) := by decide +kernel
theorem dL_law_620 : decode cL_law 620 = .ok (.iaload, 1) := by decide +kernel
theorem dL_law_621 : decode cL_law 621 = .ok (.aload_n 0, 1) := by decide +kernel
theorem dL_law_622 : decode cL_law 622 = .ok (.iload_n 3, 1) := by decide +kernel
theorem dL_law_623 : decode cL_law 623 = .ok (.iconst 2, 1) := by decide +kernel
theorem dL_law_624 : decode cL_law 624 = .ok (.iadd, 1) := by decide +kernel
theorem dL_law_625 : decode cL_law 625 = .ok (.iaload, 1) := by decide +kernel
theorem dL_law_626 : decode cL_law 626 = .ok (.invokevirtual 76, 3) := by decide +kernel
theorem dL_law_629 : decode cL_law 629 = .ok (.aload_n 2, 1) := by decide +kernel
theorem dL_law_630 : decode cL_law 630 = .ok (.aload_n 0, 1) := by decide +kernel
theorem dL_law_631 : decode cL_law 631 = .ok (.iload_n 3, 1) := by decide +kernel
theorem dL_law_632 : decode cL_law 632 = .ok (.iconst 1, 1) := by decide +kernel
theorem dL_law_633 : decode cL_law 633 = .ok (.iadd, 1) := by decide +kernel
theorem dL_law_634 : decode cL_law 634 = .ok (.iaload, 1) := by decide +kernel
theorem dL_law_635 : decode cL_law 635 = .ok (.aload_n 0, 1) := by decide +kernel
theorem dL_law_636 : decode cL_law 636 = .ok (.iload_n 3, 1) := by decide +kernel
theorem dL_law_637 : decode cL_law 637 = .ok (.iconst 2, 1) := by decide +kernel
theorem dL_law_638 : decode cL_law 638 = .ok (.iadd, 1) := by decide +kernel
theorem dL_law_639 : decode cL_law 639 = .ok (.iaload, 1) := by decide +kernel
theorem dL_law_640 : decode cL_law 640 = .ok (.invokevirtual 79, 3) := by decide +kernel
theorem dL_law_643 : decode cL_law 643 = .ok (.if_icmp .eq 434, 3) := by decide +kernel
theorem dL_law_646 : decode cL_law 646 = .ok (.iconst 0, 1) := by decide +kernel
theorem dL_law_647 : decode cL_law 647 = .ok (.ireturn, 1) := by decide +kernel
theorem dL_law_648 : decode cL_law 648 = .ok (.aload_n 1, 1) := by decide +kernel
theorem dL_law_649 : decode cL_law 649 = .ok (.aload_n 0, 1) := by decide +kernel
theorem dL_law_650 : decode cL_law 650 = .ok (.iload_n 3, 1) := by decide +kernel
theorem dL_law_651 : decode cL_law 651 = .ok (.iconst 1, 1) := by decide +kernel
theorem dL_law_652 : decode cL_law 652 = .ok (.iadd, 1) := by decide +kernel
theorem dL_law_653 : decode cL_law 653 = .ok (.iaload, 1) := by decide +kernel
theorem dL_law_654 : decode cL_law 654 = .ok (.aload_n 0, 1) := by decide +kernel
theorem dL_law_655 : decode cL_law 655 = .ok (.iload_n 3, 1) := by decide +kernel
theorem dL_law_656 : decode cL_law 656 = .ok (.iconst 2, 1) := by decide +kernel
theorem dL_law_657 : decode cL_law 657 = .ok (.iadd, 1) := by decide +kernel
theorem dL_law_658 : decode cL_law 658 = .ok (.iaload, 1) := by decide +kernel
theorem dL_law_659 : decode cL_law 659 = .ok (.aload_n 0, 1) := by decide +kernel
theorem dL_law_660 : decode cL_law 660 = .ok (.iload_n 3, 1) := by decide +kernel
theorem dL_law_661 : decode cL_law 661 = .ok (.iconst 3, 1) := by decide +kernel
theorem dL_law_662 : decode cL_law 662 = .ok (.iadd, 1) := by decide +kernel
theorem dL_law_663 : decode cL_law 663 = .ok (.iaload, 1) := by decide +kernel
theorem dL_law_664 : decode cL_law 664 = .ok (.invokevirtual 80, 3) := by decide +kernel
theorem dL_law_667 : decode cL_law 667 = .ok (.aload_n 2, 1) := by decide +kernel
theorem dL_law_668 : decode cL_law 668 = .ok (.aload_n 0, 1) := by decide +kernel
theorem dL_law_669 : decode cL_law 669 = .ok (.iload_n 3, 1) := by decide +kernel
theorem dL_law_670 : decode cL_law 670 = .ok (.iconst 1, 1) := by decide +kernel
theorem dL_law_671 : decode cL_law 671 = .ok (.iadd, 1) := by decide +kernel
theorem dL_law_672 : decode cL_law 672 = .ok (.iaload, 1) := by decide +kernel
theorem dL_law_673 : decode cL_law 673 = .ok (.aload_n 0, 1) := by decide +kernel
theorem dL_law_674 : decode cL_law 674 = .ok (.iload_n 3, 1) := by decide +kernel
theorem dL_law_675 : decode cL_law 675 = .ok (.iconst 2, 1) := by decide +kernel
theorem dL_law_676 : decode cL_law 676 = .ok (.iadd, 1) := by decide +kernel
theorem dL_law_677 : decode cL_law 677 = .ok (.iaload, 1) := by decide +kernel
theorem dL_law_678 : decode cL_law 678 = .ok (.aload_n 0, 1) := by decide +kernel
theorem dL_law_679 : decode cL_law 679 = .ok (.iload_n 3, 1) := by decide +kernel
theorem dL_law_680 : decode cL_law 680 = .ok (.iconst 3, 1) := by decide +kernel
theorem dL_law_681 : decode cL_law 681 = .ok (.iadd, 1) := by decide +kernel
theorem dL_law_682 : decode cL_law 682 = .ok (.iaload, 1) := by decide +kernel
theorem dL_law_683 : decode cL_law 683 = .ok (.invokevirtual 84, 3) := by decide +kernel
theorem dL_law_686 : decode cL_law 686 = .ok (.lcmp, 1) := by decide +kernel
theorem dL_law_687 : decode cL_law 687 = .ok (.ifCond .eq 390, 3) := by decide +kernel
theorem dL_law_690 : decode cL_law 690 = .ok (.iconst 0, 1) := by decide +kernel
theorem dL_law_691 : decode cL_law 691 = .ok (.ireturn, 1) := by decide +kernel
theorem dL_law_692 : decode cL_law 692 = .ok (.aload_n 1, 1) := by decide +kernel
theorem dL_law_693 : decode cL_law 693 = .ok (.aload_n 0, 1) := by decide +kernel
theorem dL_law_694 : decode cL_law 694 = .ok (.iload_n 3, 1) := by decide +kernel
theorem dL_law_695 : decode cL_law 695 = .ok (.iconst 1, 1) := by decide +kernel
theorem dL_law_696 : decode cL_law 696 = .ok (.iadd, 1) := by decide +kernel
theorem dL_law_697 : decode cL_law 697 = .ok (.iaload, 1) := by decide +kernel
theorem dL_law_698 : decode cL_law 698 = .ok (.aload_n 0, 1) := by decide +kernel
theorem dL_law_699 : decode cL_law 699 = .ok (.iload_n 3, 1) := by decide +kernel
theorem dL_law_700 : decode cL_law 700 = .ok (.iconst 2, 1) := by decide +kernel
theorem dL_law_701 : decode cL_law 701 = .ok (.iadd, 1) := by decide +kernel
theorem dL_law_702 : decode cL_law 702 = .ok (.iaload, 1) := by decide +kernel
theorem dL_law_703 : decode cL_law 703 = .ok (.invokevirtual 85, 3) := by decide +kernel
theorem dL_law_706 : decode cL_law 706 = .ok (.aload_n 2, 1) := by decide +kernel
theorem dL_law_707 : decode cL_law 707 = .ok (.aload_n 0, 1) := by decide +kernel
theorem dL_law_708 : decode cL_law 708 = .ok (.iload_n 3, 1) := by decide +kernel
theorem dL_law_709 : decode cL_law 709 = .ok (.iconst 1, 1) := by decide +kernel
theorem dL_law_710 : decode cL_law 710 = .ok (.iadd, 1) := by decide +kernel
theorem dL_law_711 : decode cL_law 711 = .ok (.iaload, 1) := by decide +kernel
theorem dL_law_712 : decode cL_law 712 = .ok (.aload_n 0, 1) := by decide +kernel
theorem dL_law_713 : decode cL_law 713 = .ok (.iload_n 3, 1) := by decide +kernel
theorem dL_law_714 : decode cL_law 714 = .ok (.iconst 2, 1) := by decide +kernel
theorem dL_law_715 : decode cL_law 715 = .ok (.iadd, 1) := by decide +kernel
theorem dL_law_716 : decode cL_law 716 = .ok (.iaload, 1) := by decide +kernel
theorem dL_law_717 : decode cL_law 717 = .ok (.invokevirtual 88, 3) := by decide +kernel
theorem dL_law_720 : decode cL_law 720 = .ok (.lcmp, 1) := by decide +kernel
theorem dL_law_721 : decode cL_law 721 = .ok (.ifCond .eq 356, 3) := by decide +kernel
theorem dL_law_724 : decode cL_law 724 = .ok (.iconst 0, 1) := by decide +kernel
theorem dL_law_725 : decode cL_law 725 = .ok (.ireturn, 1) := by decide +kernel
theorem dL_law_726 : decode cL_law 726 = .ok (.aload_n 1, 1) := by decide +kernel
theorem dL_law_727 : decode cL_law 727 = .ok (.aload_n 0, 1) := by decide +kernel
theorem dL_law_728 : decode cL_law 728 = .ok (.iload_n 3, 1) := by decide +kernel
theorem dL_law_729 : decode cL_law 729 = .ok (.iconst 1, 1) := by decide +kernel
theorem dL_law_730 : decode cL_law 730 = .ok (.iadd, 1) := by decide +kernel
theorem dL_law_731 : decode cL_law 731 = .ok (.iaload, 1) := by decide +kernel
theorem dL_law_732 : decode cL_law 732 = .ok (.aload_n 0, 1) := by decide +kernel
theorem dL_law_733 : decode cL_law 733 = .ok (.iload_n 3, 1) := by decide +kernel
theorem dL_law_734 : decode cL_law 734 = .ok (.iconst 2, 1) := by decide +kernel
theorem dL_law_735 : decode cL_law 735 = .ok (.iadd, 1) := by decide +kernel
theorem dL_law_736 : decode cL_law 736 = .ok (.iaload, 1) := by decide +kernel
theorem dL_law_737 : decode cL_law 737 = .ok (.aload_n 0, 1) := by decide +kernel
theorem dL_law_738 : decode cL_law 738 = .ok (.iload_n 3, 1) := by decide +kernel
theorem dL_law_739 : decode cL_law 739 = .ok (.iconst 3, 1) := by decide +kernel
theorem dL_law_740 : decode cL_law 740 = .ok (.iadd, 1) := by decide +kernel
theorem dL_law_741 : decode cL_law 741 = .ok (.iaload, 1) := by decide +kernel
theorem dL_law_742 : decode cL_law 742 = .ok (.invokevirtual 89, 3) := by decide +kernel
theorem dL_law_745 : decode cL_law 745 = .ok (.aload_n 2, 1) := by decide +kernel
theorem dL_law_746 : decode cL_law 746 = .ok (.aload_n 0, 1) := by decide +kernel
theorem dL_law_747 : decode cL_law 747 = .ok (.iload_n 3, 1) := by decide +kernel
theorem dL_law_748 : decode cL_law 748 = .ok (.iconst 1, 1) := by decide +kernel
theorem dL_law_749 : decode cL_law 749 = .ok (.iadd, 1) := by decide +kernel
theorem dL_law_750 : decode cL_law 750 = .ok (.iaload, 1) := by decide +kernel
theorem dL_law_751 : decode cL_law 751 = .ok (.aload_n 0, 1) := by decide +kernel
theorem dL_law_752 : decode cL_law 752 = .ok (.iload_n 3, 1) := by decide +kernel
theorem dL_law_753 : decode cL_law 753 = .ok (.iconst 2, 1) := by decide +kernel
theorem dL_law_754 : decode cL_law 754 = .ok (.iadd, 1) := by decide +kernel
theorem dL_law_755 : decode cL_law 755 = .ok (.iaload, 1) := by decide +kernel
theorem dL_law_756 : decode cL_law 756 = .ok (.aload_n 0, 1) := by decide +kernel
theorem dL_law_757 : decode cL_law 757 = .ok (.iload_n 3, 1) := by decide +kernel
theorem dL_law_758 : decode cL_law 758 = .ok (.iconst 3, 1) := by decide +kernel
theorem dL_law_759 : decode cL_law 759 = .ok (.iadd, 1) := by decide +kernel
theorem dL_law_760 : decode cL_law 760 = .ok (.iaload, 1) := by decide +kernel
theorem dL_law_761 : decode cL_law 761 = .ok (.invokevirtual 92, 3) := by decide +kernel
theorem dL_law_764 : decode cL_law 764 = .ok (.if_icmp .eq 313, 3) := by decide +kernel
theorem dL_law_767 : decode cL_law 767 = .ok (.iconst 0, 1) := by decide +kernel
theorem dL_law_768 : decode cL_law 768 = .ok (.ireturn, 1) := by decide +kernel
theorem dL_law_769 : decode cL_law 769 = .ok (.aload_n 1, 1) := by decide +kernel
theorem dL_law_770 : decode cL_law 770 = .ok (.invokevirtual 93, 3) := by decide +kernel
theorem dL_law_773 : decode cL_law 773 = .ok (.aload_n 2, 1) := by decide +kernel
theorem dL_law_774 : decode cL_law 774 = .ok (.invokevirtual 96, 3) := by decide +kernel
theorem dL_law_777 : decode cL_law 777 = .ok (.if_icmp .eq 300, 3) := by decide +kernel
theorem dL_law_780 : decode cL_law 780 = .ok (.iconst 0, 1) := by decide +kernel
theorem dL_law_781 : decode cL_law 781 = .ok (.ireturn, 1) := by decide +kernel
theorem dL_law_782 : decode cL_law 782 = .ok (.aload_n 1, 1) := by decide +kernel
theorem dL_law_783 : decode cL_law 783 = .ok (.aload_n 0, 1) := by decide +kernel
theorem dL_law_784 : decode cL_law 784 = .ok (.iload_n 3, 1) := by decide +kernel
theorem dL_law_785 : decode cL_law 785 = .ok (.iconst 1, 1) := by decide +kernel
theorem dL_law_786 : decode cL_law 786 = .ok (.iadd, 1) := by decide +kernel
theorem dL_law_787 : decode cL_law 787 = .ok (.iaload, 1) := by decide +kernel
theorem dL_law_788 : decode cL_law 788 = .ok (.aload_n 0, 1) := by decide +kernel
theorem dL_law_789 : decode cL_law 789 = .ok (.iload_n 3, 1) := by decide +kernel
theorem dL_law_790 : decode cL_law 790 = .ok (.iconst 2, 1) := by decide +kernel
theorem dL_law_791 : decode cL_law 791 = .ok (.iadd, 1) := by decide +kernel
theorem dL_law_792 : decode cL_law 792 = .ok (.iaload, 1) := by decide +kernel
theorem dL_law_793 : decode cL_law 793 = .ok (.invokevirtual 97, 3) := by decide +kernel
theorem dL_law_796 : decode cL_law 796 = .ok (.aload_n 2, 1) := by decide +kernel
theorem dL_law_797 : decode cL_law 797 = .ok (.aload_n 0, 1) := by decide +kernel
theorem dL_law_798 : decode cL_law 798 = .ok (.iload_n 3, 1) := by decide +kernel
theorem dL_law_799 : decode cL_law 799 = .ok (.iconst 1, 1) := by decide +kernel
theorem dL_law_800 : decode cL_law 800 = .ok (.iadd, 1) := by decide +kernel
theorem dL_law_801 : decode cL_law 801 = .ok (.iaload, 1) := by decide +kernel
theorem dL_law_802 : decode cL_law 802 = .ok (.aload_n 0, 1) := by decide +kernel
theorem dL_law_803 : decode cL_law 803 = .ok (.iload_n 3, 1) := by decide +kernel
theorem dL_law_804 : decode cL_law 804 = .ok (.iconst 2, 1) := by decide +kernel
theorem dL_law_805 : decode cL_law 805 = .ok (.iadd, 1) := by decide +kernel
theorem dL_law_806 : decode cL_law 806 = .ok (.iaload, 1) := by decide +kernel
theorem dL_law_807 : decode cL_law 807 = .ok (.invokevirtual 100, 3) := by decide +kernel
theorem dL_law_810 : decode cL_law 810 = .ok (.if_icmp .eq 267, 3) := by decide +kernel
theorem dL_law_813 : decode cL_law 813 = .ok (.iconst 0, 1) := by decide +kernel
theorem dL_law_814 : decode cL_law 814 = .ok (.ireturn, 1) := by decide +kernel
theorem dL_law_815 : decode cL_law 815 = .ok (.aload_n 1, 1) := by decide +kernel
theorem dL_law_816 : decode cL_law 816 = .ok (.invokevirtual 101, 3) := by decide +kernel
theorem dL_law_819 : decode cL_law 819 = .ok (.aload_n 2, 1) := by decide +kernel
theorem dL_law_820 : decode cL_law 820 = .ok (.invokevirtual 104, 3) := by decide +kernel
theorem dL_law_823 : decode cL_law 823 = .ok (.if_icmp .eq 254, 3) := by decide +kernel
theorem dL_law_826 : decode cL_law 826 = .ok (.iconst 0, 1) := by decide +kernel
theorem dL_law_827 : decode cL_law 827 = .ok (.ireturn, 1) := by decide +kernel
theorem dL_law_828 : decode cL_law 828 = .ok (.aload_n 1, 1) := by decide +kernel
theorem dL_law_829 : decode cL_law 829 = .ok (.invokevirtual 105, 3) := by decide +kernel
theorem dL_law_832 : decode cL_law 832 = .ok (.aload_n 2, 1) := by decide +kernel
theorem dL_law_833 : decode cL_law 833 = .ok (.invokevirtual 108, 3) := by decide +kernel
theorem dL_law_836 : decode cL_law 836 = .ok (.if_icmp .eq 241, 3) := by decide +kernel
theorem dL_law_839 : decode cL_law 839 = .ok (.iconst 0, 1) := by decide +kernel
theorem dL_law_840 : decode cL_law 840 = .ok (.ireturn, 1) := by decide +kernel
theorem dL_law_841 : decode cL_law 841 = .ok (.aload_n 1, 1) := by decide +kernel
theorem dL_law_842 : decode cL_law 842 = .ok (.aload_n 0, 1) := by decide +kernel
theorem dL_law_843 : decode cL_law 843 = .ok (.iload_n 3, 1) := by decide +kernel
theorem dL_law_844 : decode cL_law 844 = .ok (.iconst 1, 1) := by decide +kernel
theorem dL_law_845 : decode cL_law 845 = .ok (.iadd, 1) := by decide +kernel
theorem dL_law_846 : decode cL_law 846 = .ok (.iaload, 1) := by decide +kernel
theorem dL_law_847 : decode cL_law 847 = .ok (.invokevirtual 109, 3) := by decide +kernel
theorem dL_law_850 : decode cL_law 850 = .ok (.aload_n 2, 1) := by decide +kernel
theorem dL_law_851 : decode cL_law 851 = .ok (.aload_n 0, 1) := by decide +kernel
theorem dL_law_852 : decode cL_law 852 = .ok (.iload_n 3, 1) := by decide +kernel
theorem dL_law_853 : decode cL_law 853 = .ok (.iconst 1, 1) := by decide +kernel
theorem dL_law_854 : decode cL_law 854 = .ok (.iadd, 1) := by decide +kernel
theorem dL_law_855 : decode cL_law 855 = .ok (.iaload, 1) := by decide +kernel
theorem dL_law_856 : decode cL_law 856 = .ok (.invokevirtual 112, 3) := by decide +kernel
theorem dL_law_859 : decode cL_law 859 = .ok (.if_icmp .eq 218, 3) := by decide +kernel
theorem dL_law_862 : decode cL_law 862 = .ok (.iconst 0, 1) := by decide +kernel
theorem dL_law_863 : decode cL_law 863 = .ok (.ireturn, 1) := by decide +kernel
theorem dL_law_864 : decode cL_law 864 = .ok (.aload_n 1, 1) := by decide +kernel
theorem dL_law_865 : decode cL_law 865 = .ok (.aload_n 0, 1) := by decide +kernel
theorem dL_law_866 : decode cL_law 866 = .ok (.iload_n 3, 1) := by decide +kernel
theorem dL_law_867 : decode cL_law 867 = .ok (.iconst 1, 1) := by decide +kernel
theorem dL_law_868 : decode cL_law 868 = .ok (.iadd, 1) := by decide +kernel
theorem dL_law_869 : decode cL_law 869 = .ok (.iaload, 1) := by decide +kernel
theorem dL_law_870 : decode cL_law 870 = .ok (.aload_n 0, 1) := by decide +kernel
theorem dL_law_871 : decode cL_law 871 = .ok (.iload_n 3, 1) := by decide +kernel
theorem dL_law_872 : decode cL_law 872 = .ok (.iconst 2, 1) := by decide +kernel
theorem dL_law_873 : decode cL_law 873 = .ok (.iadd, 1) := by decide +kernel
theorem dL_law_874 : decode cL_law 874 = .ok (.iaload, 1) := by decide +kernel
theorem dL_law_875 : decode cL_law 875 = .ok (.aload_n 0, 1) := by decide +kernel
theorem dL_law_876 : decode cL_law 876 = .ok (.iload_n 3, 1) := by decide +kernel
theorem dL_law_877 : decode cL_law 877 = .ok (.iconst 3, 1) := by decide +kernel
theorem dL_law_878 : decode cL_law 878 = .ok (.iadd, 1) := by decide +kernel
theorem dL_law_879 : decode cL_law 879 = .ok (.iaload, 1) := by decide +kernel
theorem dL_law_880 : decode cL_law 880 = .ok (.invokevirtual 113, 3) := by decide +kernel
theorem dL_law_883 : decode cL_law 883 = .ok (.aload_n 2, 1) := by decide +kernel
theorem dL_law_884 : decode cL_law 884 = .ok (.aload_n 0, 1) := by decide +kernel
theorem dL_law_885 : decode cL_law 885 = .ok (.iload_n 3, 1) := by decide +kernel
theorem dL_law_886 : decode cL_law 886 = .ok (.iconst 1, 1) := by decide +kernel
theorem dL_law_887 : decode cL_law 887 = .ok (.iadd, 1) := by decide +kernel
theorem dL_law_888 : decode cL_law 888 = .ok (.iaload, 1) := by decide +kernel
theorem dL_law_889 : decode cL_law 889 = .ok (.aload_n 0, 1) := by decide +kernel
theorem dL_law_890 : decode cL_law 890 = .ok (.iload_n 3, 1) := by decide +kernel
theorem dL_law_891 : decode cL_law 891 = .ok (.iconst 2, 1) := by decide +kernel
theorem dL_law_892 : decode cL_law 892 = .ok (.iadd, 1) := by decide +kernel
theorem dL_law_893 : decode cL_law 893 = .ok (.iaload, 1) := by decide +kernel
theorem dL_law_894 : decode cL_law 894 = .ok (.aload_n 0, 1) := by decide +kernel
theorem dL_law_895 : decode cL_law 895 = .ok (.iload_n 3, 1) := by decide +kernel
theorem dL_law_896 : decode cL_law 896 = .ok (.iconst 3, 1) := by decide +kernel
theorem dL_law_897 : decode cL_law 897 = .ok (.iadd, 1) := by decide +kernel
theorem dL_law_898 : decode cL_law 898 = .ok (.iaload, 1) := by decide +kernel
theorem dL_law_899 : decode cL_law 899 = .ok (.invokevirtual 116, 3) := by decide +kernel
theorem dL_law_902 : decode cL_law 902 = .ok (.if_icmp .eq 175, 3) := by decide +kernel
theorem dL_law_905 : decode cL_law 905 = .ok (.iconst 0, 1) := by decide +kernel
theorem dL_law_906 : decode cL_law 906 = .ok (.ireturn, 1) := by decide +kernel
theorem dL_law_907 : decode cL_law 907 = .ok (.aload_n 1, 1) := by decide +kernel
theorem dL_law_908 : decode cL_law 908 = .ok (.aload_n 0, 1) := by decide +kernel
theorem dL_law_909 : decode cL_law 909 = .ok (.iload_n 3, 1) := by decide +kernel
theorem dL_law_910 : decode cL_law 910 = .ok (.iconst 1, 1) := by decide +kernel
theorem dL_law_911 : decode cL_law 911 = .ok (.iadd, 1) := by decide +kernel
theorem dL_law_912 : decode cL_law 912 = .ok (.iaload, 1) := by decide +kernel
theorem dL_law_913 : decode cL_law 913 = .ok (.aload_n 0, 1) := by decide +kernel
theorem dL_law_914 : decode cL_law 914 = .ok (.iload_n 3, 1) := by decide +kernel
theorem dL_law_915 : decode cL_law 915 = .ok (.iconst 2, 1) := by decide +kernel
theorem dL_law_916 : decode cL_law 916 = .ok (.iadd, 1) := by decide +kernel
theorem dL_law_917 : decode cL_law 917 = .ok (.iaload, 1) := by decide +kernel
theorem dL_law_918 : decode cL_law 918 = .ok (.aload_n 0, 1) := by decide +kernel
theorem dL_law_919 : decode cL_law 919 = .ok (.iload_n 3, 1) := by decide +kernel
theorem dL_law_920 : decode cL_law 920 = .ok (.iconst 3, 1) := by decide +kernel
theorem dL_law_921 : decode cL_law 921 = .ok (.iadd, 1) := by decide +kernel
theorem dL_law_922 : decode cL_law 922 = .ok (.iaload, 1) := by decide +kernel
theorem dL_law_923 : decode cL_law 923 = .ok (.i2l, 1) := by decide +kernel
theorem dL_law_924 : decode cL_law 924 = .ok (.bipush 32, 2) := by decide +kernel
theorem dL_law_926 : decode cL_law 926 = .ok (.lshl, 1) := by decide +kernel
theorem dL_law_927 : decode cL_law 927 = .ok (.aload_n 0, 1) := by decide +kernel
theorem dL_law_928 : decode cL_law 928 = .ok (.iload_n 3, 1) := by decide +kernel
theorem dL_law_929 : decode cL_law 929 = .ok (.iconst 4, 1) := by decide +kernel
theorem dL_law_930 : decode cL_law 930 = .ok (.iadd, 1) := by decide +kernel
theorem dL_law_931 : decode cL_law 931 = .ok (.iaload, 1) := by decide +kernel
theorem dL_law_932 : decode cL_law 932 = .ok (.i2l, 1) := by decide +kernel
theorem dL_law_933 : decode cL_law 933 = .ok (.ldc2_w 117, 3) := by decide +kernel
theorem dL_law_936 : decode cL_law 936 = .ok (.land, 1) := by decide +kernel
theorem dL_law_937 : decode cL_law 937 = .ok (.lor, 1) := by decide +kernel
theorem dL_law_938 : decode cL_law 938 = .ok (.invokevirtual 119, 3) := by decide +kernel
theorem dL_law_941 : decode cL_law 941 = .ok (.aload_n 2, 1) := by decide +kernel
theorem dL_law_942 : decode cL_law 942 = .ok (.aload_n 0, 1) := by decide +kernel
theorem dL_law_943 : decode cL_law 943 = .ok (.iload_n 3, 1) := by decide +kernel
theorem dL_law_944 : decode cL_law 944 = .ok (.iconst 1, 1) := by decide +kernel
theorem dL_law_945 : decode cL_law 945 = .ok (.iadd, 1) := by decide +kernel
theorem dL_law_946 : decode cL_law 946 = .ok (.iaload, 1) := by decide +kernel
theorem dL_law_947 : decode cL_law 947 = .ok (.aload_n 0, 1) := by decide +kernel
theorem dL_law_948 : decode cL_law 948 = .ok (.iload_n 3, 1) := by decide +kernel
theorem dL_law_949 : decode cL_law 949 = .ok (.iconst 2, 1) := by decide +kernel
theorem dL_law_950 : decode cL_law 950 = .ok (.iadd, 1) := by decide +kernel
theorem dL_law_951 : decode cL_law 951 = .ok (.iaload, 1) := by decide +kernel
theorem dL_law_952 : decode cL_law 952 = .ok (.aload_n 0, 1) := by decide +kernel
theorem dL_law_953 : decode cL_law 953 = .ok (.iload_n 3, 1) := by decide +kernel
theorem dL_law_954 : decode cL_law 954 = .ok (.iconst 3, 1) := by decide +kernel
theorem dL_law_955 : decode cL_law 955 = .ok (.iadd, 1) := by decide +kernel
theorem dL_law_956 : decode cL_law 956 = .ok (.iaload, 1) := by decide +kernel
theorem dL_law_957 : decode cL_law 957 = .ok (.i2l, 1) := by decide +kernel
theorem dL_law_958 : decode cL_law 958 = .ok (.bipush 32, 2) := by decide +kernel
theorem dL_law_960 : decode cL_law 960 = .ok (.lshl, 1) := by decide +kernel
theorem dL_law_961 : decode cL_law 961 = .ok (.aload_n 0, 1) := by decide +kernel
theorem dL_law_962 : decode cL_law 962 = .ok (.iload_n 3, 1) := by decide +kernel
theorem dL_law_963 : decode cL_law 963 = .ok (.iconst 4, 1) := by decide +kernel
theorem dL_law_964 : decode cL_law 964 = .ok (.iadd, 1) := by decide +kernel
theorem dL_law_965 : decode cL_law 965 = .ok (.iaload, 1) := by decide +kernel
theorem dL_law_966 : decode cL_law 966 = .ok (.i2l, 1) := by decide +kernel
theorem dL_law_967 : decode cL_law 967 = .ok (.ldc2_w 117, 3) := by decide +kernel
theorem dL_law_970 : decode cL_law 970 = .ok (.land, 1) := by decide +kernel
theorem dL_law_971 : decode cL_law 971 = .ok (.lor, 1) := by decide +kernel
theorem dL_law_972 : decode cL_law 972 = .ok (.invokevirtual 123, 3) := by decide +kernel
theorem dL_law_975 : decode cL_law 975 = .ok (.if_icmp .eq 102, 3) := by decide +kernel
theorem dL_law_978 : decode cL_law 978 = .ok (.iconst 0, 1) := by decide +kernel
theorem dL_law_979 : decode cL_law 979 = .ok (.ireturn, 1) := by decide +kernel
theorem dL_law_980 : decode cL_law 980 = .ok (.aload_n 1, 1) := by decide +kernel
theorem dL_law_981 : decode cL_law 981 = .ok (.aload_n 0, 1) := by decide +kernel
theorem dL_law_982 : decode cL_law 982 = .ok (.iload_n 3, 1) := by decide +kernel
theorem dL_law_983 : decode cL_law 983 = .ok (.iconst 1, 1) := by decide +kernel
theorem dL_law_984 : decode cL_law 984 = .ok (.iadd, 1) := by decide +kernel
theorem dL_law_985 : decode cL_law 985 = .ok (.iaload, 1) := by decide +kernel
theorem dL_law_986 : decode cL_law 986 = .ok (.aload_n 0, 1) := by decide +kernel
theorem dL_law_987 : decode cL_law 987 = .ok (.iload_n 3, 1) := by decide +kernel
theorem dL_law_988 : decode cL_law 988 = .ok (.iconst 2, 1) := by decide +kernel
theorem dL_law_989 : decode cL_law 989 = .ok (.iadd, 1) := by decide +kernel
theorem dL_law_990 : decode cL_law 990 = .ok (.iaload, 1) := by decide +kernel
theorem dL_law_991 : decode cL_law 991 = .ok (.invokevirtual 124, 3) := by decide +kernel
theorem dL_law_994 : decode cL_law 994 = .ok (.aload_n 2, 1) := by decide +kernel
theorem dL_law_995 : decode cL_law 995 = .ok (.aload_n 0, 1) := by decide +kernel
theorem dL_law_996 : decode cL_law 996 = .ok (.iload_n 3, 1) := by decide +kernel
theorem dL_law_997 : decode cL_law 997 = .ok (.iconst 1, 1) := by decide +kernel
theorem dL_law_998 : decode cL_law 998 = .ok (.iadd, 1) := by decide +kernel
theorem dL_law_999 : decode cL_law 999 = .ok (.iaload, 1) := by decide +kernel
theorem dL_law_1000 : decode cL_law 1000 = .ok (.aload_n 0, 1) := by decide +kernel
theorem dL_law_1001 : decode cL_law 1001 = .ok (.iload_n 3, 1) := by decide +kernel
theorem dL_law_1002 : decode cL_law 1002 = .ok (.iconst 2, 1) := by decide +kernel
theorem dL_law_1003 : decode cL_law 1003 = .ok (.iadd, 1) := by decide +kernel
theorem dL_law_1004 : decode cL_law 1004 = .ok (.iaload, 1) := by decide +kernel
theorem dL_law_1005 : decode cL_law 1005 = .ok (.invokevirtual 127, 3) := by decide +kernel
theorem dL_law_1008 : decode cL_law 1008 = .ok (.lcmp, 1) := by decide +kernel
theorem dL_law_1009 : decode cL_law 1009 = .ok (.ifCond .eq 68, 3) := by decide +kernel
theorem dL_law_1012 : decode cL_law 1012 = .ok (.iconst 0, 1) := by decide +kernel
theorem dL_law_1013 : decode cL_law 1013 = .ok (.ireturn, 1) := by decide +kernel
theorem dL_law_1014 : decode cL_law 1014 = .ok (.aload_n 1, 1) := by decide +kernel
theorem dL_law_1015 : decode cL_law 1015 = .ok (.aload_n 0, 1) := by decide +kernel
theorem dL_law_1016 : decode cL_law 1016 = .ok (.iload_n 3, 1) := by decide +kernel
theorem dL_law_1017 : decode cL_law 1017 = .ok (.iconst 1, 1) := by decide +kernel
theorem dL_law_1018 : decode cL_law 1018 = .ok (.iadd, 1) := by decide +kernel
theorem dL_law_1019 : decode cL_law 1019 = .ok (.iaload, 1) := by decide +kernel
theorem dL_law_1020 : decode cL_law 1020 = .ok (.aload_n 0, 1) := by decide +kernel
theorem dL_law_1021 : decode cL_law 1021 = .ok (.iload_n 3, 1) := by decide +kernel
theorem dL_law_1022 : decode cL_law 1022 = .ok (.iconst 2, 1) := by decide +kernel
theorem dL_law_1023 : decode cL_law 1023 = .ok (.iadd, 1) := by decide +kernel
theorem dL_law_1024 : decode cL_law 1024 = .ok (.iaload, 1) := by decide +kernel
theorem dL_law_1025 : decode cL_law 1025 = .ok (.aload_n 0, 1) := by decide +kernel
theorem dL_law_1026 : decode cL_law 1026 = .ok (.iload_n 3, 1) := by decide +kernel
theorem dL_law_1027 : decode cL_law 1027 = .ok (.iconst 3, 1) := by decide +kernel
theorem dL_law_1028 : decode cL_law 1028 = .ok (.iadd, 1) := by decide +kernel
theorem dL_law_1029 : decode cL_law 1029 = .ok (.iaload, 1) := by decide +kernel
theorem dL_law_1030 : decode cL_law 1030 = .ok (.aload_n 0, 1) := by decide +kernel
theorem dL_law_1031 : decode cL_law 1031 = .ok (.iload_n 3, 1) := by decide +kernel
theorem dL_law_1032 : decode cL_law 1032 = .ok (.iconst 4, 1) := by decide +kernel
theorem dL_law_1033 : decode cL_law 1033 = .ok (.iadd, 1) := by decide +kernel
theorem dL_law_1034 : decode cL_law 1034 = .ok (.iaload, 1) := by decide +kernel
theorem dL_law_1035 : decode cL_law 1035 = .ok (.aload_n 0, 1) := by decide +kernel
theorem dL_law_1036 : decode cL_law 1036 = .ok (.iload_n 3, 1) := by decide +kernel
theorem dL_law_1037 : decode cL_law 1037 = .ok (.iconst 5, 1) := by decide +kernel
theorem dL_law_1038 : decode cL_law 1038 = .ok (.iadd, 1) := by decide +kernel
theorem dL_law_1039 : decode cL_law 1039 = .ok (.iaload, 1) := by decide +kernel
theorem dL_law_1040 : decode cL_law 1040 = .ok (.invokevirtual 128, 3) := by decide +kernel
theorem dL_law_1043 : decode cL_law 1043 = .ok (.aload_n 2, 1) := by decide +kernel
theorem dL_law_1044 : decode cL_law 1044 = .ok (.aload_n 0, 1) := by decide +kernel
theorem dL_law_1045 : decode cL_law 1045 = .ok (.iload_n 3, 1) := by decide +kernel
theorem dL_law_1046 : decode cL_law 1046 = .ok (.iconst 1, 1) := by decide +kernel
theorem dL_law_1047 : decode cL_law 1047 = .ok (.iadd, 1) := by decide +kernel
theorem dL_law_1048 : decode cL_law 1048 = .ok (.iaload, 1) := by decide +kernel
theorem dL_law_1049 : decode cL_law 1049 = .ok (.aload_n 0, 1) := by decide +kernel
theorem dL_law_1050 : decode cL_law 1050 = .ok (.iload_n 3, 1) := by decide +kernel
theorem dL_law_1051 : decode cL_law 1051 = .ok (.iconst 2, 1) := by decide +kernel
theorem dL_law_1052 : decode cL_law 1052 = .ok (.iadd, 1) := by decide +kernel
theorem dL_law_1053 : decode cL_law 1053 = .ok (.iaload, 1) := by decide +kernel
theorem dL_law_1054 : decode cL_law 1054 = .ok (.aload_n 0, 1) := by decide +kernel
theorem dL_law_1055 : decode cL_law 1055 = .ok (.iload_n 3, 1) := by decide +kernel
theorem dL_law_1056 : decode cL_law 1056 = .ok (.iconst 3, 1) := by decide +kernel
theorem dL_law_1057 : decode cL_law 1057 = .ok (.iadd, 1) := by decide +kernel
theorem dL_law_1058 : decode cL_law 1058 = .ok (.iaload, 1) := by decide +kernel
theorem dL_law_1059 : decode cL_law 1059 = .ok (.aload_n 0, 1) := by decide +kernel
theorem dL_law_1060 : decode cL_law 1060 = .ok (.iload_n 3, 1) := by decide +kernel
theorem dL_law_1061 : decode cL_law 1061 = .ok (.iconst 4, 1) := by decide +kernel
theorem dL_law_1062 : decode cL_law 1062 = .ok (.iadd, 1) := by decide +kernel
theorem dL_law_1063 : decode cL_law 1063 = .ok (.iaload, 1) := by decide +kernel
theorem dL_law_1064 : decode cL_law 1064 = .ok (.aload_n 0, 1) := by decide +kernel
theorem dL_law_1065 : decode cL_law 1065 = .ok (.iload_n 3, 1) := by decide +kernel
theorem dL_law_1066 : decode cL_law 1066 = .ok (.iconst 5, 1) := by decide +kernel
theorem dL_law_1067 : decode cL_law 1067 = .ok (.iadd, 1) := by decide +kernel
theorem dL_law_1068 : decode cL_law 1068 = .ok (.iaload, 1) := by decide +kernel
theorem dL_law_1069 : decode cL_law 1069 = .ok (.invokevirtual 131, 3) := by decide +kernel
theorem dL_law_1072 : decode cL_law 1072 = .ok (.if_icmp .eq 5, 3) := by decide +kernel
theorem dL_law_1075 : decode cL_law 1075 = .ok (.iconst 0, 1) := by decide +kernel
theorem dL_law_1076 : decode cL_law 1076 = .ok (.ireturn, 1) := by decide +kernel
theorem dL_law_1077 : decode cL_law 1077 = .ok (.iinc 3 6, 3) := by decide +kernel
theorem dL_law_1080 : decode cL_law 1080 = .ok (.goto (-1062), 3) := by decide +kernel
theorem dL_law_1083 : decode cL_law 1083 = .ok (.iconst 1, 1) := by decide +kernel
theorem dL_law_1084 : decode cL_law 1084 = .ok (.ireturn, 1) := by decide +kernel
abbrev vwCl : List vw_C := [(RX0, TX0, 3), (RX1, TX1, 2), (RX2, TX2, 4), (RX3, TX3, 6), (RX4, TX4, 3), (RX5, TX5, 3), (RX6, TX6, 4), (RX7, TX7, 7), (RX8, TX8, 19)]
end
section
/-! THE CLAIM OUT OF ONE WALK OF THE LAW'S BODY. Your part is whole_start (and what it stands on); all else here is the same for every law, but numbers. -/
def R_law : String := "SegmentedCacheLaw"
def lw_P (b : Addr) (xs : List Int32) (args : Array Value) (s : State) : Prop := args = #[.ref b] ∧ s.IntsAt b xs ∧ xs.length ≤ 3072 ∧ (Jvm.Cond.and given_1 narrow_1).before args s = true
def lw_Q (_ : Array Value) (s : State) (o : Outcome) (t : State) : Prop := o = .returned (some (.int 1)) ∧ Framed s o t [] 600000 7302250
def lw_Z (below : List Frame) (a : Array Value) (s : State) : State → Prop := fun t => ∃ o, t.status = .running ∧ Ended t below o ∧ lw_Q a s o t
/-- the law's own end, with 1 on the stack, nothing written that was there before, its room as the claim has it -/
theorem lw_ret {p : Program} {l : Launch} {e : Env} {s : State} {m : MethodId} {below : List Frame} {meth : Method} {c : Code} {b : Nat} (hx : p.tables.exec = Jvm.exec) (hb : c.code = code) (hr : meth.sig.returnType = ret) (hlocks : meth.locks = false) {pc : Nat} {H : Heap} {ls : Array Slot} (hdg : decode code pc = .ok (.ireturn, 1)) : W p l e room_1 s m #[Value.ref b] below meth c H [] 600000 7302250 (lw_Z below #[Value.ref b] s) (F0 m pc ls [.int 1]) := by
  intro T hT X
  obtain ⟨fs, hret, hrun, hended, hW, hframe⟩ := X.leave (v := some (.int 1)) (hlocks := hlocks) (fun h => by rw [hr] at h; cases h)
  have hmeth' : T.vm.method? m = some meth := X.method'
  refine ⟨T.setFrames fs, ?_, .returned (some (.int 1)), hrun, hended, rfl, ⟨_, rfl⟩, hW, hframe⟩
  jvm_step X.here [X.here.top, hx, hb, hdg, hmeth', hr, ret, narrow_b1]
  (try refine ⟨rfl, ?_⟩); (try refine ⟨rfl, ?_⟩)
  first | (intro acts; rw [hret _ acts rfl rfl rfl]) | rw [hret _ _ rfl rfl rfl]
  exact Steps.refl _
/-- what holds at the law's entry: the machine, the code, the tables' words (any of lw_tbl by 'hts w (by decide +kernel)'), the script of L ints xs at the cell b, what the Statement gives of the start (any of its parts by flat_of_before) -/
def lw_At (p : Program) (s : State) (m : MethodId) (meth : Method) (c : Code) (b L : Nat) (xs : Nat → Int32) : Prop :=
  p.tables.exec = Jvm.exec ∧ c.code = code ∧ meth.sig.returnType = ret ∧ c.maxLocals = 4 ∧ s.vm.findClass R_law = some m.cls ∧ (∀ w ∈ lw_tbl, w.before #[Value.ref b] s = true) ∧ va_X b L xs s s.heap ∧ b < s.heap.size ∧ meth.locks = false ∧ (Jvm.Cond.and given_1 narrow_1).before #[Value.ref b] s = true
end
section
/-! ideal numbers: nZ a is the int that the number a wraps to, nY the long -/
def nZ (a : Int) : Int32 := Int32.ofInt a
def nY (a : Int) : Int64 := Int64.ofInt a
abbrev zR (a : Int) : Prop := -2147483648 ≤ a ∧ a ≤ 2147483647
abbrev zRL (a : Int) : Prop := -9223372036854775808 ≤ a ∧ a ≤ 9223372036854775807
theorem nZ_toInt {a : Int} (h : zR a) : (nZ a).toInt = a := Int32.toInt_ofInt_of_le (by have := h.1; omega) (by have := h.2; omega)
theorem nY_toInt {a : Int} (h : zRL a) : (nY a).toInt = a := Int64.toInt_ofInt_of_le (by have := h.1; omega) (by have := h.2; omega)
theorem nZ_of (x : Int32) : nZ x.toInt = x := Int32.ofInt_toInt x
theorem nY_of (x : Int64) : nY x.toInt = x := Int64.ofInt_toInt x
theorem nZ_add (a b : Int) : nZ a + nZ b = nZ (a + b) := (Int32.ofInt_add a b).symm
theorem nZ_sub (a b : Int) : nZ a - nZ b = nZ (a - b) := (Int32.ofInt_sub a b).symm
theorem nZ_mul (a b : Int) : nZ a * nZ b = nZ (a * b) := (Int32.ofInt_mul a b).symm
theorem nZ_lt {a b : Int} (ha : zR a) (hb : zR b) : nZ a < nZ b ↔ a < b := by rw [Int32.lt_iff_toInt_lt, nZ_toInt ha, nZ_toInt hb]
theorem nZ_le {a b : Int} (ha : zR a) (hb : zR b) : nZ a ≤ nZ b ↔ a ≤ b := by rw [Int32.le_iff_toInt_le, nZ_toInt ha, nZ_toInt hb]
theorem nZ_eq {a b : Int} (ha : zR a) (hb : zR b) : nZ a = nZ b ↔ a = b := ⟨fun h => by rw [← nZ_toInt ha, ← nZ_toInt hb, h], fun h => by rw [h]⟩
theorem nZ_0 : nZ 0 = 0 := rfl
theorem nZ_clamp {a : Int} (h : 0 ≤ a) (h2 : a ≤ 2147483647) : (nZ a).toNatClampNeg = a.toNat := Int32.toNatClampNeg_ofInt_of_le (by omega) (by omega)
theorem nZ_in {a : Int} {n : Nat} (h : 0 ≤ a ∧ a < (n : Int)) (hn : n ≤ 2147483647) : vp_in (nZ a) n := by
  have hr : zR a := ⟨by omega, by omega⟩
  rw [vp_in_iff, nZ_toInt hr]
  exact h
theorem nZ_cl {a : Int} {n : Nat} (h : 0 ≤ a ∧ a < (n : Int)) (hn : n ≤ 2147483647) : (nZ a).toNatClampNeg = a.toNat := nZ_clamp h.1 (by omega)
/-! a computation that may stop -/
def zg {β : Type} (c : Prop) [Decidable c] (x : Option β) : Option β := if c then x else none
def zi {β : Type} (c : Prop) [Decidable c] (x y : Option β) : Option β := if c then x else y
def zl {α β : Type} (x : α) (f : α → β) : β := f x
def zc {α β : Type} (x : Option α) (f : α → Option β) : Option β := match x with
  | none => none
  | some a => f a
theorem zg_e {β : Type} {c : Prop} [Decidable c] {x : Option β} {r : β} (h : zg c x = some r) : c ∧ x = some r := by
  unfold zg at h
  by_cases hc : c
  · rw [if_pos hc] at h; exact ⟨hc, h⟩
  · rw [if_neg hc] at h; cases h
theorem zi_t {β : Type} {c : Prop} [Decidable c] {x y : Option β} {r : Option β} (h : zi c x y = r) (hc : c) : x = r := by
  unfold zi at h
  rw [if_pos hc] at h
  exact h
theorem zi_f {β : Type} {c : Prop} [Decidable c] {x y : Option β} {r : Option β} (h : zi c x y = r) (hc : ¬ c) : y = r := by
  unfold zi at h
  rw [if_neg hc] at h
  exact h
theorem zl_e {α β : Type} {x : α} {f : α → β} {r : β} (h : zl x f = r) : ∃ y, y = x ∧ f y = r := ⟨x, rfl, h⟩
theorem zc_e {α β : Type} {x : Option α} {f : α → Option β} {r : β} (h : zc x f = some r) : ∃ a, x = some a ∧ f a = some r := by
  cases x with
  | none => cases h
  | some a => exact ⟨a, rfl, h⟩
/-! memories and shapes: cell k, place i holds the number M k i; a shape tells of each cell what it is: (0, class, fields: 0 a number, 1 null, t + 2 the cell t), (1, length, []) ints, (2, length, []) longs, (3, which row of types, cells) references -/
abbrev zM : Type := Nat → Nat → Int
def zup (M : zM) (k i : Nat) (v : Int) : zM := fun a b => if a = k ∧ b = i then v else M a b
abbrev zD : Type := Nat × Nat × List Nat
def zfv (α : Nat → Nat) (x : Int) (c : Nat) : Value := match c with
  | 0 => .int (nZ x)
  | 1 => .null
  | t + 2 => .ref (α t)
def zfs (α : Nat → Nat) (f : Nat → Int) : Nat → List Nat → List Value
  | _, [] => []
  | j, c :: l => zfv α (f j) c :: zfs α f (j + 1) l
def zce (cs : Nat → ClassId) (α : Nat → Nat) (f : Nat → Int) (d : zD) : va_E := match d with
  | (0, ci, fs) => .inr (ci, zfs α f 0 fs)
  | (1, n, _) => .inl (cs 0, n, .inl (fun i => nZ (f i)))
  | (2, n, _) => .inl (cs 1, n, .inr (.inl (fun i => nY (f i))))
  | (_, q, ts) => .inl (cs q, ts.length, .inr (.inr (.inr (.inr (fun i => (ts[i]?).map α)))))
def zw (cs : Nat → ClassId) (L : List zD) (α : Nat → Nat) (M : zM) : va_W := (List.range L.length).map (fun k => (α k, zce cs α (M k) (L.getD k (9, 0, []))))
abbrev zt (cs : Nat → ClassId) : List (ClassId × FieldType) := [(cs 0, .int), (cs 1, .long), (cs 2, .object RX4), (cs 3, .object RX6), (cs 4, .array .int), (cs 5, .array .long)]
theorem zw_len (cs : Nat → ClassId) (L : List zD) (α : Nat → Nat) (M : zM) : (zw cs L α M).length = L.length := by unfold zw; rw [List.length_map, List.length_range]
theorem zw_at {cs : Nat → ClassId} {L : List zD} {α : Nat → Nat} {M : zM} {k : Nat} {d : zD} (h : L[k]? = some d) : (zw cs L α M)[k]? = some (α k, zce cs α (M k) d) := by
  have hl := (List.getElem?_eq_some_iff.mp h).1
  unfold zw
  rw [List.getElem?_map, List.getElem?_range hl, Option.map_some, List.getD_eq_getElem?_getD, h, Option.getD_some]
theorem zw_of {cs : Nat → ClassId} {L : List zD} {α : Nat → Nat} {M : zM} {k : Nat} {q : Nat × va_E} (h : (zw cs L α M)[k]? = some q) : ∃ d, L[k]? = some d ∧ q = (α k, zce cs α (M k) d) := by
  have hl : k < L.length := by have := (List.getElem?_eq_some_iff.mp h).1; rwa [zw_len] at this
  obtain ⟨d, hd⟩ : ∃ d, L[k]? = some d := ⟨_, List.getElem?_eq_getElem hl⟩
  rw [zw_at hd] at h
  exact ⟨d, hd, (Option.some.inj h).symm⟩
theorem zw_set {cs : Nat → ClassId} {L : List zD} {α : Nat → Nat} {M M' : zM} {k : Nat} {d : zD} {e : va_E} (h : L[k]? = some d) (hM : ∀ k', k' ≠ k → M' k' = M k') (he : e = zce cs α (M' k) d) : (zw cs L α M).set k (α k, e) = zw cs L α M' := by
  subst he
  have hl := (List.getElem?_eq_some_iff.mp h).1
  apply List.ext_getElem?
  intro j
  by_cases hj : j = k
  · subst hj
    rw [List.getElem?_set_self (by rw [zw_len]; exact hl), zw_at h]
  · rw [List.getElem?_set_ne (Ne.symm hj)]
    by_cases hjl : j < L.length
    · obtain ⟨d', hd'⟩ : ∃ d', L[j]? = some d' := ⟨_, List.getElem?_eq_getElem hjl⟩
      rw [zw_at hd', zw_at hd', hM j hj]
    · rw [List.getElem?_eq_none (by rw [zw_len]; omega), List.getElem?_eq_none (by rw [zw_len]; omega)]
theorem zup_ne {M : zM} {k i : Nat} {v : Int} {k' : Nat} (h : k' ≠ k) : zup M k i v k' = M k' := by
  funext b
  unfold zup
  rw [if_neg (fun q => h q.1)]
theorem zup_self (M : zM) (k i : Nat) (v : Int) (b : Nat) : zup M k i v k b = if b = i then v else M k b := by
  unfold zup
  by_cases hb : b = i
  · rw [if_pos ⟨rfl, hb⟩, if_pos hb]
  · rw [if_neg (fun q => hb q.2), if_neg hb]
theorem zfs_get (α : Nat → Nat) (f : Nat → Int) : ∀ (fs : List Nat) (o j : Nat), (zfs α f o fs)[j]? = (fs[j]?).map (fun c => zfv α (f (o + j)) c)
  | [], o, j => by simp [zfs]
  | c :: l, o, 0 => by simp [zfs]
  | c :: l, o, j + 1 => by
    show (zfv α (f o) c :: zfs α f (o + 1) l)[j + 1]? = _
    rw [List.getElem?_cons_succ, List.getElem?_cons_succ, zfs_get α f l (o + 1) j, show o + 1 + j = o + (j + 1) by omega]
theorem zfs_len (α : Nat → Nat) (f : Nat → Int) : ∀ (fs : List Nat) (o : Nat), (zfs α f o fs).length = fs.length
  | [], o => rfl
  | c :: l, o => by show (_ :: zfs α f (o + 1) l).length = _; rw [List.length_cons, List.length_cons, zfs_len α f l (o + 1)]
theorem zfs_set {α : Nat → Nat} {f g : Nat → Int} {fs : List Nat} {j : Nat} {v : Int} (hj : fs[j]? = some 0) (hg : ∀ i, g i = if i = j then v else f i) : (zfs α f 0 fs).set j (.int (nZ v)) = zfs α g 0 fs := by
  have hl := (List.getElem?_eq_some_iff.mp hj).1
  apply List.ext_getElem?
  intro i
  by_cases hi : i = j
  · subst hi
    rw [List.getElem?_set_self (by rw [zfs_len]; exact hl), zfs_get, hj, Nat.zero_add, hg, if_pos rfl]
    rfl
  · rw [List.getElem?_set_ne (Ne.symm hi), zfs_get, zfs_get, Nat.zero_add, hg, if_neg hi]
theorem zce_up1 (cs : Nat → ClassId) (α : Nat → Nat) (M : zM) (k n i : Nat) (v : Int) (l : List Nat) : (.inl (cs 0, n, .inl (upd (fun i => nZ (M k i)) i (nZ v))) : va_E) = zce cs α (zup M k i v k) (1, n, l) := by
  show _ = (.inl (cs 0, n, .inl (fun b => nZ (zup M k i v k b))) : va_E)
  have : (upd (fun i => nZ (M k i)) i (nZ v)) = fun b => nZ (zup M k i v k b) := by
    funext b
    rw [zup_self]
    unfold upd
    by_cases hb : b = i
    · rw [if_pos hb, if_pos hb]
    · rw [if_neg hb, if_neg hb]
  rw [this]
theorem zce_up2 (cs : Nat → ClassId) (α : Nat → Nat) (M : zM) (k n i : Nat) (v : Int) (l : List Nat) : (.inl (cs 1, n, .inr (.inl (vp_updL (fun i => nY (M k i)) i (nY v)))) : va_E) = zce cs α (zup M k i v k) (2, n, l) := by
  show _ = (.inl (cs 1, n, .inr (.inl (fun b => nY (zup M k i v k b)))) : va_E)
  have : (vp_updL (fun i => nY (M k i)) i (nY v)) = fun b => nY (zup M k i v k b) := by
    funext b
    rw [zup_self]
    unfold vp_updL
    by_cases hb : b = i
    · rw [if_pos hb, if_pos hb]
    · rw [if_neg hb, if_neg hb]
  rw [this]
/-! what stands around a step -/
def zX (p : Program) (s : State) (m : MethodId) (args : Array Value) (c : Code) (cc : ByteArray) (nL : Nat) (D : va_G) (cs : Nat → ClassId) (own : String) (Ts : List Cond) : Prop :=
  CallFix p m c cc nL s args Ts own ∧ va_K D vwCl (zt cs) s
def zH (D : va_G) (cs : Nat → ClassId) (L : List zD) (α : Nat → Nat) (M : zM) (A : Nat → Prop) (s : State) (H : Heap) (locs : List Loc) : Prop :=
  va_P D vwCl (zw cs L α M) H ∧ va_D A (zw cs L α M) ∧ va_S A s.heap H locs
/-- a field that is read: class ci, place j, by entry 'index' of the class own -/
def zF (own : String) (Ts : List Cond) (index ci j : Nat) : Prop := ∃ (C : String) (T : u_T) (N : Nat), vwCl[ci]? = some (C, T, N) ∧ (∀ w ∈ u_ws C T N, w ∈ Ts) ∧ Cond.fieldLink own index C (T j).2.1 (T j).2.2.1 ∈ Ts ∧ j < N ∧ (T j).1 = C
def zFp (own : String) (Ts : List Cond) (index ci j : Nat) (ty : FieldType) : Prop := ∃ (C : String) (T : u_T) (N : Nat) (ty0 : Nat → FieldType), vwCl[ci]? = some (C, T, N) ∧ (∀ w ∈ u_ws C T N, w ∈ Ts) ∧ Cond.fieldLink own index C (T j).2.1 (T j).2.2.1 ∈ Ts ∧ j < N ∧ (T j).1 = C ∧
  (∀ k, k < N → parseFieldDescriptor (T k).2.2.1 = some (ty0 k)) ∧ (∀ a, a < N → ∀ b, b < N → a ≠ b → (T a).2.1 ≠ (T b).2.1) ∧ (T j).2.2.2 = false ∧ parseFieldDescriptor (T j).2.2.1 = some ty
def zA (n : Nat) (α : Nat → Nat) : Nat → Prop := fun q => ∃ k, k < n ∧ q = α k
theorem zH_same {cs : Nat → ClassId} {L : List zD} {α : Nat → Nat} {M M' : zM} {A : Nat → Prop} (hD : va_D A (zw cs L α M)) : va_D A (zw cs L α M') := by
  have key : ∀ (k : Nat) (q : Nat × va_E), (zw cs L α M')[k]? = some q → ∃ q0, (zw cs L α M)[k]? = some q0 ∧ q0.1 = q.1 := by
    intro k q hq
    obtain ⟨d, hd, rfl⟩ := zw_of hq
    exact ⟨_, zw_at hd, rfl⟩
  refine ⟨fun i j x y hi hj hxy => ?_, fun k q hk => ?_⟩
  · obtain ⟨x0, h1, h2⟩ := key i x hi
    obtain ⟨y0, h3, h4⟩ := key j y hj
    exact hD.1 i j x0 y0 h1 h3 (h2.trans (hxy.trans h4.symm))
  · obtain ⟨q0, h1, h2⟩ := key k q hk
    rw [← h2]
    exact hD.2 k q0 h1
section ZR
variable {p : Program} {l : Launch} {e : Env} {R : Room} {s : State} {m : MethodId} {args : Array Value} {below : List Frame} {meth : Method} {c : Code} {H : Heap} {locs : List Loc} {cells slots : Nat} {Q : State → Prop}
variable {cc : ByteArray} {pc nL : Nat} {ls : Array Slot} {rest : List Value} {D : va_G} {cs : Nat → ClassId} {own : String} {Ts : List Cond} {L : List zD} {α : Nat → Nat} {M : zM} {A : Nat → Prop}
/-- a number is read out of a field -/
theorem z_geti (hX : zX p s m args c cc nL D cs own Ts) (hH : zH D cs L α M A s H locs) (k j : Nat) {index ci : Nat} {fs : List Nat} (hd : L[k]? = some (0, ci, fs)) (hf : fs[j]? = some 0) (hF : zF own Ts index ci j) (hdg : decode cc pc = .ok (.getfield index, 3))
    (kk : W p l e R s m args below meth c H locs cells slots Q (F0 m (pc + 3) ls (.int (nZ (M k j)) :: rest))) : W p l e R s m args below meth c H locs cells slots Q (F0 m pc ls (.ref (α k) :: rest)) := by
  obtain ⟨C, T, N, hc, hin, hlink, hj, hC⟩ := hF
  obtain ⟨⟨hx, hb, hml, hown, hts⟩, hK⟩ := hX
  refine va_get (v := .int (nZ (M k j))) hx hb hts hin hown hK hH.1 k (zw_at hd) hc j hj (hts _ hlink) (fun x h => by rw [hC] at h; exact h) ?_ hdg kk
  rw [zfs_get, hf, Nat.zero_add]
  rfl
/-- a reference is read out of a field -/
theorem z_getr (hX : zX p s m args c cc nL D cs own Ts) (hH : zH D cs L α M A s H locs) (k j t : Nat) {index ci : Nat} {fs : List Nat} (hd : L[k]? = some (0, ci, fs)) (hf : fs[j]? = some (t + 2)) (hF : zF own Ts index ci j) (hdg : decode cc pc = .ok (.getfield index, 3))
    (kk : W p l e R s m args below meth c H locs cells slots Q (F0 m (pc + 3) ls (.ref (α t) :: rest))) : W p l e R s m args below meth c H locs cells slots Q (F0 m pc ls (.ref (α k) :: rest)) := by
  obtain ⟨C, T, N, hc, hin, hlink, hj, hC⟩ := hF
  obtain ⟨⟨hx, hb, hml, hown, hts⟩, hK⟩ := hX
  refine va_get (v := .ref (α t)) hx hb hts hin hown hK hH.1 k (zw_at hd) hc j hj (hts _ hlink) (fun x h => by rw [hC] at h; exact h) ?_ hdg kk
  rw [zfs_get, hf]
  rfl
/-- null is read out of a field -/
theorem z_getn (hX : zX p s m args c cc nL D cs own Ts) (hH : zH D cs L α M A s H locs) (k j : Nat) {index ci : Nat} {fs : List Nat} (hd : L[k]? = some (0, ci, fs)) (hf : fs[j]? = some 1) (hF : zF own Ts index ci j) (hdg : decode cc pc = .ok (.getfield index, 3))
    (kk : W p l e R s m args below meth c H locs cells slots Q (F0 m (pc + 3) ls (.null :: rest))) : W p l e R s m args below meth c H locs cells slots Q (F0 m pc ls (.ref (α k) :: rest)) := by
  obtain ⟨C, T, N, hc, hin, hlink, hj, hC⟩ := hF
  obtain ⟨⟨hx, hb, hml, hown, hts⟩, hK⟩ := hX
  refine va_get (v := .null) hx hb hts hin hown hK hH.1 k (zw_at hd) hc j hj (hts _ hlink) (fun x h => by rw [hC] at h; exact h) ?_ hdg kk
  rw [zfs_get, hf]
  rfl
/-- a number is written into a field -/
theorem z_put (hX : zX p s m args c cc nL D cs own Ts) (hH : zH D cs L α M A s H locs) (k j : Nat) {index ci : Nat} {fs : List Nat} {ty : FieldType} {v : Int} (hd : L[k]? = some (0, ci, fs)) (hf : fs[j]? = some 0) (hF : zFp own Ts index ci j ty) (hn : narrow ty (.int (nZ v)) = .int (nZ v)) (hfit : fits ty (.int (nZ v)) = true) (hdg : decode cc pc = .ok (.putfield index, 3))
    (kk : ∀ (H1 : Heap) (locs1 : List Loc), zH D cs L α (zup M k j v) A s H1 locs1 → W p l e R s m args below meth c H1 locs1 cells slots Q (F0 m (pc + 3) ls rest)) : W p l e R s m args below meth c H locs cells slots Q (F0 m pc ls (.int (nZ v) :: .ref (α k) :: rest)) := by
  obtain ⟨C, T, N, ty0, hc, hin, hlink, hj, hC, hty, hnm, hfin, hty1⟩ := hF
  obtain ⟨⟨hx, hb, hml, hown, hts⟩, hK⟩ := hX
  have hl := (List.getElem?_eq_some_iff.mp hf).1
  have hset : (zw cs L α M).set k (α k, .inr (ci, (zfs α (M k) 0 fs).set j (.int (nZ v)))) = zw cs L α (zup M k j v) := zw_set hd (fun k' hk' => zup_ne hk') (by
    show _ = (.inr (ci, zfs α (zup M k j v k) 0 fs) : va_E)
    rw [zfs_set (v := v) hf (fun i => zup_self M k j v i)])
  refine va_put (v := .int (nZ v)) (ty := ty) hx hb hts hin ty0 hty hnm hown hK hH.1 hH.2.1 hH.2.2 k (zw_at hd) hc j hj (hts _ hlink) (fun x h => by rw [hC] at h; exact h) hfin hty1 hn hfit (by rw [zfs_len]; exact hl) hdg (fun H1 locs1 hP hD hS => kk H1 locs1 ⟨?_, zH_same hH.2.1, hS⟩)
  rw [← hset]
  exact hP
/-- an int is read out of a row -/
theorem z_iald (hX : zX p s m args c cc nL D cs own Ts) (hH : zH D cs L α M A s H locs) (k n : Nat) {i : Int} (hd : L[k]? = some (1, n, [])) (hi : 0 ≤ i ∧ i < (n : Int)) (hn : n ≤ 2147483647) (hdg : decode cc pc = .ok (.iaload, 1))
    (kk : W p l e R s m args below meth c H locs cells slots Q (F0 m (pc + 1) ls (.int (nZ (M k i.toNat)) :: rest))) : W p l e R s m args below meth c H locs cells slots Q (F0 m pc ls (.int (nZ i) :: .ref (α k) :: rest)) := by
  obtain ⟨⟨hx, hb, hml, hown, hts⟩, hK⟩ := hX
  refine va_iald (cA := cs 0) (n := n) (f := fun b => nZ (M k b)) hx hb hK hH.1 k 0 (zw_at hd) rfl (nZ_in hi hn) hdg ?_
  rw [nZ_cl hi hn]
  exact kk
theorem z_lald (hX : zX p s m args c cc nL D cs own Ts) (hH : zH D cs L α M A s H locs) (k n : Nat) {i : Int} (hd : L[k]? = some (2, n, [])) (hi : 0 ≤ i ∧ i < (n : Int)) (hn : n ≤ 2147483647) (hdg : decode cc pc = .ok (.laload, 1))
    (kk : W p l e R s m args below meth c H locs cells slots Q (F0 m (pc + 1) ls (.long (nY (M k i.toNat)) :: rest))) : W p l e R s m args below meth c H locs cells slots Q (F0 m pc ls (.int (nZ i) :: .ref (α k) :: rest)) := by
  obtain ⟨⟨hx, hb, hml, hown, hts⟩, hK⟩ := hX
  refine va_lald (cA := cs 1) (n := n) (f := fun b => nY (M k b)) hx hb hK hH.1 k 1 (zw_at hd) rfl (nZ_in hi hn) hdg ?_
  rw [nZ_cl hi hn]
  exact kk
theorem z_iast (hX : zX p s m args c cc nL D cs own Ts) (hH : zH D cs L α M A s H locs) (k n : Nat) {i v : Int} (hd : L[k]? = some (1, n, [])) (hi : 0 ≤ i ∧ i < (n : Int)) (hn : n ≤ 2147483647) (hdg : decode cc pc = .ok (.iastore, 1))
    (kk : ∀ (H1 : Heap) (locs1 : List Loc), zH D cs L α (zup M k i.toNat v) A s H1 locs1 → W p l e R s m args below meth c H1 locs1 cells slots Q (F0 m (pc + 1) ls rest)) : W p l e R s m args below meth c H locs cells slots Q (F0 m pc ls (.int (nZ v) :: .int (nZ i) :: .ref (α k) :: rest)) := by
  obtain ⟨⟨hx, hb, hml, hown, hts⟩, hK⟩ := hX
  refine va_iast (cA := cs 0) (n := n) (f := fun b => nZ (M k b)) hx hb hK hH.1 hH.2.1 hH.2.2 k 0 (zw_at hd) rfl (nZ_in hi hn) hdg (fun H1 locs1 hP hD hS => kk H1 locs1 ⟨?_, zH_same hH.2.1, hS⟩)
  rw [nZ_cl hi hn] at hP
  rw [← zw_set (e := _) hd (fun k' hk' => zup_ne hk') (zce_up1 cs α M k n i.toNat v [])]
  exact hP
theorem z_last (hX : zX p s m args c cc nL D cs own Ts) (hH : zH D cs L α M A s H locs) (k n : Nat) {i v : Int} (hd : L[k]? = some (2, n, [])) (hi : 0 ≤ i ∧ i < (n : Int)) (hn : n ≤ 2147483647) (hdg : decode cc pc = .ok (.lastore, 1))
    (kk : ∀ (H1 : Heap) (locs1 : List Loc), zH D cs L α (zup M k i.toNat v) A s H1 locs1 → W p l e R s m args below meth c H1 locs1 cells slots Q (F0 m (pc + 1) ls rest)) : W p l e R s m args below meth c H locs cells slots Q (F0 m pc ls (.long (nY v) :: .int (nZ i) :: .ref (α k) :: rest)) := by
  obtain ⟨⟨hx, hb, hml, hown, hts⟩, hK⟩ := hX
  refine va_last (cA := cs 1) (n := n) (f := fun b => nY (M k b)) hx hb hK hH.1 hH.2.1 hH.2.2 k 1 (zw_at hd) rfl (nZ_in hi hn) hdg (fun H1 locs1 hP hD hS => kk H1 locs1 ⟨?_, zH_same hH.2.1, hS⟩)
  rw [nZ_cl hi hn] at hP
  rw [← zw_set (e := _) hd (fun k' hk' => zup_ne hk') (zce_up2 cs α M k n i.toNat v [])]
  exact hP
/-- a reference is read out of a row of references: rows 'q' of the types -/
theorem z_aald (hX : zX p s m args c cc nL D cs own Ts) (hH : zH D cs L α M A s H locs) (k q t : Nat) {ts : List Nat} {ty : FieldType} {i : Int} (hd : L[k]? = some (3, q, ts)) (hq : (zt cs)[q]? = some (cs q, ty)) (hty : ty.isReference = true) (hi : 0 ≤ i ∧ i < (ts.length : Int)) (hn : ts.length ≤ 2147483647) (ht : ts[i.toNat]? = some t) (hdg : decode cc pc = .ok (.aaload, 1))
    (kk : W p l e R s m args below meth c H locs cells slots Q (F0 m (pc + 1) ls (.ref (α t) :: rest))) : W p l e R s m args below meth c H locs cells slots Q (F0 m pc ls (.int (nZ i) :: .ref (α k) :: rest)) := by
  obtain ⟨⟨hx, hb, hml, hown, hts⟩, hK⟩ := hX
  have hin := nZ_in hi hn
  have hlt : (nZ i).toNatClampNeg < ts.length := Nat.not_le.mp fun q => hin (Or.inr q)
  have hcell : H[α k]? = some (vp_cell (cs q) (ts.length, .inr (.inr (.inr (.inr (fun j => (ts[j]?).map α)))))) := hH.1 k _ (zw_at hd)
  rw [vp_cell_q] at hcell
  refine W.aald (v := .ref (α t)) (ty := ty) hx hb hcell ((hK.2 q _ hq).1 _ _) hty (fun q => by cases q) (by show ¬ (nZ i < 0 ∨ (arrV _ _ _).slots.size ≤ _); rw [arrV_size]; exact hin) (by rw [arrV_read _ _ hlt, nZ_cl hi hn, ht]; rfl) rfl rfl hdg kk
end ZR
/-! arithmetic and branches over ideal numbers -/
section ZB
variable {p : Program} {l : Launch} {e : Env} {R : Room} {s : State} {m : MethodId} {args : Array Value} {below : List Frame} {meth : Method} {c : Code} {H : Heap} {locs : List Loc} {cells slots : Nat} {Q : State → Prop}
variable {cc : ByteArray} {pc : Nat} {ls : Array Slot} {rest : List Value}
theorem z_iadd (hx : p.tables.exec = Jvm.exec) (hb : c.code = cc) {a b : Int} (hdg : decode cc pc = .ok (.iadd, 1)) (kk : W p l e R s m args below meth c H locs cells slots Q (F0 m (pc + 1) ls (.int (nZ (a + b)) :: rest))) : W p l e R s m args below meth c H locs cells slots Q (F0 m pc ls (.int (nZ b) :: .int (nZ a) :: rest)) := lv_iadd hx hb hdg (by rw [nZ_add]; exact kk)
theorem z_isub (hx : p.tables.exec = Jvm.exec) (hb : c.code = cc) {a b : Int} (hdg : decode cc pc = .ok (.isub, 1)) (kk : W p l e R s m args below meth c H locs cells slots Q (F0 m (pc + 1) ls (.int (nZ (a - b)) :: rest))) : W p l e R s m args below meth c H locs cells slots Q (F0 m pc ls (.int (nZ b) :: .int (nZ a) :: rest)) := lv_isub hx hb hdg (by rw [nZ_sub]; exact kk)
theorem z_imul (hx : p.tables.exec = Jvm.exec) (hb : c.code = cc) {a b : Int} (hdg : decode cc pc = .ok (.imul, 1)) (kk : W p l e R s m args below meth c H locs cells slots Q (F0 m (pc + 1) ls (.int (nZ (a * b)) :: rest))) : W p l e R s m args below meth c H locs cells slots Q (F0 m pc ls (.int (nZ b) :: .int (nZ a) :: rest)) := lv_imul hx hb hdg (by rw [nZ_mul]; exact kk)
theorem z_bipush (hx : p.tables.exec = Jvm.exec) (hb : c.code = cc) {n v : Int} (hdg : decode cc pc = .ok (.bipush n, 2)) (hv : (Int8.ofInt n).toInt32 = nZ v) (kk : W p l e R s m args below meth c H locs cells slots Q (F0 m (pc + 2) ls (.int (nZ v) :: rest))) : W p l e R s m args below meth c H locs cells slots Q (F0 m pc ls rest) := lv_bipush hx hb hdg hv kk
theorem z_sipush (hx : p.tables.exec = Jvm.exec) (hb : c.code = cc) {n v : Int} (hdg : decode cc pc = .ok (.sipush n, 3)) (hv : (Int16.ofInt n).toInt32 = nZ v) (kk : W p l e R s m args below meth c H locs cells slots Q (F0 m (pc + 3) ls (.int (nZ v) :: rest))) : W p l e R s m args below meth c H locs cells slots Q (F0 m pc ls rest) := lv_sipush hx hb hdg hv kk
theorem z_iconst (hx : p.tables.exec = Jvm.exec) (hb : c.code = cc) {n : Int} (hdg : decode cc pc = .ok (.iconst n, 1)) (kk : W p l e R s m args below meth c H locs cells slots Q (F0 m (pc + 1) ls (.int (nZ n) :: rest))) : W p l e R s m args below meth c H locs cells slots Q (F0 m pc ls rest) := lv_iconst hx hb hdg rfl kk
theorem z_if_eq (hx : p.tables.exec = Jvm.exec) (hb : c.code = cc) {a : Int} (ha : zR a) {off : Int} {tgt : Nat} (hdg : decode cc pc = .ok (.ifCond .eq off, 3)) (ht : (pc : Int) + off = (tgt : Int))
    (kt : a = 0 → W p l e R s m args below meth c H locs cells slots Q (F0 m tgt ls rest)) (kf : ¬ a = 0 → W p l e R s m args below meth c H locs cells slots Q (F0 m (pc + 3) ls rest)) : W p l e R s m args below meth c H locs cells slots Q (F0 m pc ls (.int (nZ a) :: rest)) :=
  lv_if_eq hx hb hdg ht (fun h => kt ((nZ_eq ha (by decide)).mp h)) (fun h => kf (fun q => h ((nZ_eq ha (by decide)).mpr q)))
theorem z_if_ne (hx : p.tables.exec = Jvm.exec) (hb : c.code = cc) {a : Int} (ha : zR a) {off : Int} {tgt : Nat} (hdg : decode cc pc = .ok (.ifCond .ne off, 3)) (ht : (pc : Int) + off = (tgt : Int))
    (kt : ¬ a = 0 → W p l e R s m args below meth c H locs cells slots Q (F0 m tgt ls rest)) (kf : a = 0 → W p l e R s m args below meth c H locs cells slots Q (F0 m (pc + 3) ls rest)) : W p l e R s m args below meth c H locs cells slots Q (F0 m pc ls (.int (nZ a) :: rest)) :=
  lv_if_ne hx hb hdg ht (fun h => kt (fun q => h ((nZ_eq ha (by decide)).mpr q))) (fun h => kf ((nZ_eq ha (by decide)).mp h))
theorem z_if_lt (hx : p.tables.exec = Jvm.exec) (hb : c.code = cc) {a : Int} (ha : zR a) {off : Int} {tgt : Nat} (hdg : decode cc pc = .ok (.ifCond .lt off, 3)) (ht : (pc : Int) + off = (tgt : Int))
    (kt : a < 0 → W p l e R s m args below meth c H locs cells slots Q (F0 m tgt ls rest)) (kf : ¬ a < 0 → W p l e R s m args below meth c H locs cells slots Q (F0 m (pc + 3) ls rest)) : W p l e R s m args below meth c H locs cells slots Q (F0 m pc ls (.int (nZ a) :: rest)) :=
  lv_if_lt hx hb hdg ht (fun h => kt ((nZ_lt ha (by decide)).mp h)) (fun h => kf (fun q => h ((nZ_lt ha (by decide)).mpr q)))
theorem z_if_ge (hx : p.tables.exec = Jvm.exec) (hb : c.code = cc) {a : Int} (ha : zR a) {off : Int} {tgt : Nat} (hdg : decode cc pc = .ok (.ifCond .ge off, 3)) (ht : (pc : Int) + off = (tgt : Int))
    (kt : 0 ≤ a → W p l e R s m args below meth c H locs cells slots Q (F0 m tgt ls rest)) (kf : ¬ 0 ≤ a → W p l e R s m args below meth c H locs cells slots Q (F0 m (pc + 3) ls rest)) : W p l e R s m args below meth c H locs cells slots Q (F0 m pc ls (.int (nZ a) :: rest)) :=
  lv_if_ge hx hb hdg ht (fun h => kt ((nZ_le (by decide) ha).mp h)) (fun h => kf (fun q => h ((nZ_le (by decide) ha).mpr q)))
theorem z_if_le (hx : p.tables.exec = Jvm.exec) (hb : c.code = cc) {a : Int} (ha : zR a) {off : Int} {tgt : Nat} (hdg : decode cc pc = .ok (.ifCond .le off, 3)) (ht : (pc : Int) + off = (tgt : Int))
    (kt : a ≤ 0 → W p l e R s m args below meth c H locs cells slots Q (F0 m tgt ls rest)) (kf : ¬ a ≤ 0 → W p l e R s m args below meth c H locs cells slots Q (F0 m (pc + 3) ls rest)) : W p l e R s m args below meth c H locs cells slots Q (F0 m pc ls (.int (nZ a) :: rest)) :=
  lv_if_le hx hb hdg ht (fun h => kt ((nZ_le ha (by decide)).mp h)) (fun h => kf (fun q => h ((nZ_le ha (by decide)).mpr q)))
theorem z_icmp_eq (hx : p.tables.exec = Jvm.exec) (hb : c.code = cc) {a b : Int} (ha : zR a) (hb2 : zR b) {off : Int} {tgt : Nat} (hdg : decode cc pc = .ok (.if_icmp .eq off, 3)) (ht : (pc : Int) + off = (tgt : Int))
    (kt : a = b → W p l e R s m args below meth c H locs cells slots Q (F0 m tgt ls rest)) (kf : ¬ a = b → W p l e R s m args below meth c H locs cells slots Q (F0 m (pc + 3) ls rest)) : W p l e R s m args below meth c H locs cells slots Q (F0 m pc ls (.int (nZ b) :: .int (nZ a) :: rest)) :=
  lv_icmp_eq hx hb hdg ht (fun h => kt ((nZ_eq ha hb2).mp h)) (fun h => kf (fun q => h ((nZ_eq ha hb2).mpr q)))
theorem z_icmp_ne (hx : p.tables.exec = Jvm.exec) (hb : c.code = cc) {a b : Int} (ha : zR a) (hb2 : zR b) {off : Int} {tgt : Nat} (hdg : decode cc pc = .ok (.if_icmp .ne off, 3)) (ht : (pc : Int) + off = (tgt : Int))
    (kt : ¬ a = b → W p l e R s m args below meth c H locs cells slots Q (F0 m tgt ls rest)) (kf : a = b → W p l e R s m args below meth c H locs cells slots Q (F0 m (pc + 3) ls rest)) : W p l e R s m args below meth c H locs cells slots Q (F0 m pc ls (.int (nZ b) :: .int (nZ a) :: rest)) :=
  lv_icmp_ne hx hb hdg ht (fun h => kt (fun q => h ((nZ_eq ha hb2).mpr q))) (fun h => kf ((nZ_eq ha hb2).mp h))
theorem z_icmp_lt (hx : p.tables.exec = Jvm.exec) (hb : c.code = cc) {a b : Int} (ha : zR a) (hb2 : zR b) {off : Int} {tgt : Nat} (hdg : decode cc pc = .ok (.if_icmp .lt off, 3)) (ht : (pc : Int) + off = (tgt : Int))
    (kt : a < b → W p l e R s m args below meth c H locs cells slots Q (F0 m tgt ls rest)) (kf : ¬ a < b → W p l e R s m args below meth c H locs cells slots Q (F0 m (pc + 3) ls rest)) : W p l e R s m args below meth c H locs cells slots Q (F0 m pc ls (.int (nZ b) :: .int (nZ a) :: rest)) :=
  lv_icmp_lt hx hb hdg ht (fun h => kt ((nZ_lt ha hb2).mp h)) (fun h => kf (fun q => h ((nZ_lt ha hb2).mpr q)))
theorem z_icmp_ge (hx : p.tables.exec = Jvm.exec) (hb : c.code = cc) {a b : Int} (ha : zR a) (hb2 : zR b) {off : Int} {tgt : Nat} (hdg : decode cc pc = .ok (.if_icmp .ge off, 3)) (ht : (pc : Int) + off = (tgt : Int))
    (kt : b ≤ a → W p l e R s m args below meth c H locs cells slots Q (F0 m tgt ls rest)) (kf : ¬ b ≤ a → W p l e R s m args below meth c H locs cells slots Q (F0 m (pc + 3) ls rest)) : W p l e R s m args below meth c H locs cells slots Q (F0 m pc ls (.int (nZ b) :: .int (nZ a) :: rest)) :=
  lv_icmp_ge hx hb hdg ht (fun h => kt ((nZ_le hb2 ha).mp h)) (fun h => kf (fun q => h ((nZ_le hb2 ha).mpr q)))
theorem z_icmp_gt (hx : p.tables.exec = Jvm.exec) (hb : c.code = cc) {a b : Int} (ha : zR a) (hb2 : zR b) {off : Int} {tgt : Nat} (hdg : decode cc pc = .ok (.if_icmp .gt off, 3)) (ht : (pc : Int) + off = (tgt : Int))
    (kt : b < a → W p l e R s m args below meth c H locs cells slots Q (F0 m tgt ls rest)) (kf : ¬ b < a → W p l e R s m args below meth c H locs cells slots Q (F0 m (pc + 3) ls rest)) : W p l e R s m args below meth c H locs cells slots Q (F0 m pc ls (.int (nZ b) :: .int (nZ a) :: rest)) :=
  lv_icmp_gt hx hb hdg ht (fun h => kt ((nZ_lt hb2 ha).mp h)) (fun h => kf (fun q => h ((nZ_lt hb2 ha).mpr q)))
theorem z_icmp_le (hx : p.tables.exec = Jvm.exec) (hb : c.code = cc) {a b : Int} (ha : zR a) (hb2 : zR b) {off : Int} {tgt : Nat} (hdg : decode cc pc = .ok (.if_icmp .le off, 3)) (ht : (pc : Int) + off = (tgt : Int))
    (kt : a ≤ b → W p l e R s m args below meth c H locs cells slots Q (F0 m tgt ls rest)) (kf : ¬ a ≤ b → W p l e R s m args below meth c H locs cells slots Q (F0 m (pc + 3) ls rest)) : W p l e R s m args below meth c H locs cells slots Q (F0 m pc ls (.int (nZ b) :: .int (nZ a) :: rest)) :=
  lv_icmp_le hx hb hdg ht (fun h => kt ((nZ_le ha hb2).mp h)) (fun h => kf (fun q => h ((nZ_le ha hb2).mpr q)))
end ZB
/-! a part of a world: the cells 'is' of it, under a shape of its own -/
def zix : List Nat → Nat → Option Nat
  | [], _ => none
  | a :: l, k => if k = a then some 0 else (zix l k).map (· + 1)
def zpk (is : List Nat) (M : zM) : zM := fun j => M (is.getD j 0)
def zpt (is : List Nat) (M M1 : zM) : zM := fun k => match zix is k with
  | some j => M1 j
  | none => M k
def zsb (is : List Nat) (α : Nat → Nat) : Nat → Nat := fun j => α (is.getD j 0)
def zdm (is : List Nat) (d : zD) : zD := match d with
  | (0, ci, fs) => (0, ci, fs.map (fun c => match c with
    | 0 => 0
    | 1 => 1
    | t + 2 => is.getD t 0 + 2))
  | (1, n, l) => (1, n, l)
  | (2, n, l) => (2, n, l)
  | (a + 3, q, ts) => (a + 3, q, ts.map (fun t => is.getD t 0))
def zemb (L Ll : List zD) (is : List Nat) : Bool := decide (is.length = Ll.length) && va_nd is && (List.range Ll.length).all (fun j => decide (L[is.getD j 0]? = (Ll[j]?).map (zdm is)))
theorem zix_some : ∀ {is : List Nat} {k j : Nat}, zix is k = some j → is[j]? = some k
  | [], k, j, h => by cases h
  | a :: l, k, j, h => by
    unfold zix at h
    by_cases hk : k = a
    · rw [if_pos hk] at h
      cases h
      rw [hk]
      rfl
    · rw [if_neg hk] at h
      cases hz : zix l k with
      | none => rw [hz] at h; cases h
      | some j0 =>
        rw [hz] at h
        cases h
        show (a :: l)[j0 + 1]? = some k
        rw [List.getElem?_cons_succ]
        exact zix_some hz
theorem zix_none : ∀ {is : List Nat} {k : Nat}, zix is k = none → k ∉ is
  | [], k, h => List.not_mem_nil
  | a :: l, k, h => by
    unfold zix at h
    by_cases hk : k = a
    · rw [if_pos hk] at h; cases h
    · rw [if_neg hk] at h
      cases hz : zix l k with
      | none => exact fun q => (List.mem_cons.mp q).elim hk (zix_none hz)
      | some j0 => rw [hz] at h; cases h
theorem zix_of : ∀ {is : List Nat} {j k : Nat}, va_nd is = true → is[j]? = some k → zix is k = some j := by
  intro is j k hn hj
  cases hz : zix is k with
  | none => exact absurd (List.mem_of_getElem? hj) (zix_none hz)
  | some j0 => rw [va_nd_inj is hn j0 j k (zix_some hz) hj]
theorem zfs_map (is : List Nat) (α : Nat → Nat) (f : Nat → Int) : ∀ (fs : List Nat) (o : Nat), zfs (zsb is α) f o fs = zfs α f o (fs.map (fun c => match c with
    | 0 => 0
    | 1 => 1
    | t + 2 => is.getD t 0 + 2))
  | [], o => rfl
  | c :: l, o => by
    show zfv (zsb is α) (f o) c :: zfs (zsb is α) f (o + 1) l = zfv α (f o) _ :: zfs α f (o + 1) (l.map _)
    rw [zfs_map is α f l (o + 1)]
    congr 1
    match c with
    | 0 => rfl
    | 1 => rfl
    | t + 2 => rfl
theorem zce_map (cs : Nat → ClassId) (is : List Nat) (α : Nat → Nat) (f : Nat → Int) : ∀ d : zD, zce cs (zsb is α) f d = zce cs α f (zdm is d)
  | (0, ci, fs) => by
    show (.inr (ci, zfs (zsb is α) f 0 fs) : va_E) = .inr (ci, zfs α f 0 _)
    rw [zfs_map]
  | (1, n, l) => rfl
  | (2, n, l) => rfl
  | (a + 3, q, ts) => by
    show (.inl (cs q, ts.length, .inr (.inr (.inr (.inr (fun i => (ts[i]?).map (zsb is α)))))) : va_E) = .inl (cs q, (ts.map (fun t => is.getD t 0)).length, .inr (.inr (.inr (.inr (fun i => ((ts.map (fun t => is.getD t 0))[i]?).map α)))))
    rw [List.length_map]
    have : (fun (i : Nat) => (ts[i]?).map (zsb is α)) = fun (i : Nat) => ((ts.map (fun t => is.getD t 0))[i]?).map α := by
      funext i
      rw [List.getElem?_map, Option.map_map]
      rfl
    rw [this]
theorem zemb_e {L Ll : List zD} {is : List Nat} (h : zemb L Ll is = true) : is.length = Ll.length ∧ va_nd is = true ∧ ∀ (j : Nat) (d : zD), Ll[j]? = some d → ∃ k, is[j]? = some k ∧ is.getD j 0 = k ∧ L[k]? = some (zdm is d) := by
  unfold zemb at h
  rw [Bool.and_eq_true, Bool.and_eq_true] at h
  obtain ⟨⟨h1, h2⟩, h3⟩ := h
  have h1 := of_decide_eq_true h1
  refine ⟨h1, h2, fun j d hd => ?_⟩
  have hl := (List.getElem?_eq_some_iff.mp hd).1
  have h4 := of_decide_eq_true (List.all_eq_true.mp h3 j (List.mem_range.mpr hl))
  rw [hd] at h4
  obtain ⟨k, hk⟩ : ∃ k, is[j]? = some k := ⟨_, List.getElem?_eq_getElem (by omega)⟩
  have hg : is.getD j 0 = k := by rw [List.getD_eq_getElem?_getD, hk, Option.getD_some]
  rw [hg] at h4
  exact ⟨k, hk, hg, h4⟩
theorem zemb_P {cs : Nat → ClassId} {D : va_G} {L Ll : List zD} {is : List Nat} {α : Nat → Nat} {M : zM} {H : Heap} (h : zemb L Ll is = true) (hP : va_P D vwCl (zw cs L α M) H) : va_P D vwCl (zw cs Ll (zsb is α) (zpk is M)) H := by
  obtain ⟨h1, h2, h3⟩ := zemb_e h
  intro j q hq
  obtain ⟨d, hd, rfl⟩ := zw_of hq
  obtain ⟨k, hk, hg, hL⟩ := h3 j d hd
  have := hP k _ (zw_at hL)
  rw [zce_map]
  show va_at D vwCl (α (is.getD j 0), zce cs α (M (is.getD j 0)) (zdm is d)) H
  rw [hg]
  exact this
theorem zemb_D {cs : Nat → ClassId} {L Ll : List zD} {is : List Nat} {α : Nat → Nat} {M M2 : zM} {A : Nat → Prop} (h : zemb L Ll is = true) (hD : va_D A (zw cs L α M)) : va_D (fun _ => True) (zw cs Ll (zsb is α) M2) := by
  obtain ⟨h1, h2, h3⟩ := zemb_e h
  refine ⟨fun i j x y hi hj hxy => ?_, fun _ _ _ => trivial⟩
  obtain ⟨d, hd, rfl⟩ := zw_of hi
  obtain ⟨d', hd', rfl⟩ := zw_of hj
  obtain ⟨k, hk, hg, hL⟩ := h3 i d hd
  obtain ⟨k', hk', hg', hL'⟩ := h3 j d' hd'
  have e : α k = α k' := by
    have hxy : α (is.getD i 0) = α (is.getD j 0) := hxy
    rw [hg, hg'] at hxy
    exact hxy
  have := hD.1 k k' _ _ (zw_at hL) (zw_at hL') e
  subst this
  exact va_nd_inj is h2 i j k hk hk'
theorem zemb_A {cs : Nat → ClassId} {L Ll : List zD} {is : List Nat} {α : Nat → Nat} {M : zM} {A : Nat → Prop} (h : zemb L Ll is = true) (hD : va_D A (zw cs L α M)) : ∀ q, zA Ll.length (zsb is α) q → A q := by
  obtain ⟨h1, h2, h3⟩ := zemb_e h
  rintro q ⟨j, hj, rfl⟩
  obtain ⟨d, hd⟩ : ∃ d, Ll[j]? = some d := ⟨_, List.getElem?_eq_getElem hj⟩
  obtain ⟨k, hk, hg, hL⟩ := h3 j d hd
  show A (α (is.getD j 0))
  rw [hg]
  exact hD.2 k _ (zw_at hL)
theorem zemb_back {cs : Nat → ClassId} {D : va_G} {L Ll : List zD} {is : List Nat} {α : Nat → Nat} {M M1 : zM} {H H1 : Heap} {A : Nat → Prop} (h : zemb L Ll is = true) (hP : va_P D vwCl (zw cs L α M) H) (hD : va_D A (zw cs L α M))
    (hP1 : va_P D vwCl (zw cs Ll (zsb is α) M1) H1) (hk : ∀ q : Nat, q < H.size → ¬ zA Ll.length (zsb is α) q → H1[q]? = H[q]?) : va_P D vwCl (zw cs L α (zpt is M M1)) H1 := by
  obtain ⟨h1, h2, h3⟩ := zemb_e h
  intro k q hq
  obtain ⟨d, hd, rfl⟩ := zw_of hq
  have h0 := hP k _ (zw_at hd)
  cases hz : zix is k with
  | some j =>
    have hj := zix_some hz
    have hjl : j < Ll.length := by have := (List.getElem?_eq_some_iff.mp hj).1; omega
    obtain ⟨d1, hd1⟩ : ∃ d1, Ll[j]? = some d1 := ⟨_, List.getElem?_eq_getElem hjl⟩
    obtain ⟨k', hk', hg, hL⟩ := h3 j d1 hd1
    rw [hj] at hk'
    cases hk'
    rw [hd] at hL
    cases hL
    have := hP1 j _ (zw_at hd1)
    rw [zce_map] at this
    have e : zpt is M M1 k = M1 j := by unfold zpt; rw [hz]
    rw [e]
    have ea : zsb is α j = α k := by show α (is.getD j 0) = α k; rw [hg]
    rw [ea] at this
    exact this
  | none =>
    have e : zpt is M M1 k = M k := by unfold zpt; rw [hz]
    rw [e]
    refine h0.kept (hk _ h0.lt ?_)
    rintro ⟨j, hj, he⟩
    obtain ⟨d1, hd1⟩ : ∃ d1, Ll[j]? = some d1 := ⟨_, List.getElem?_eq_getElem hj⟩
    obtain ⟨k', hk', hg, hL⟩ := h3 j d1 hd1
    have he : α k = α (is.getD j 0) := he
    rw [hg] at he
    have := hD.1 k k' _ _ (zw_at hd) (zw_at hL) he
    subst this
    exact zix_none hz (List.mem_of_getElem? hk')
theorem zD_self {cs : Nat → ClassId} {L : List zD} {α : Nat → Nat} {M : zM} {A : Nat → Prop} (hD : va_D A (zw cs L α M)) : va_D (zA L.length α) (zw cs L α M) := ⟨hD.1, fun k q hq => by
  obtain ⟨d, hd, rfl⟩ := zw_of hq
  exact ⟨k, (List.getElem?_eq_some_iff.mp hd).1, rfl⟩⟩
/-! the contracts' form: a method that makes nothing -/
def zPre (D : va_G) (cs : Nat → ClassId) (L : List zD) (α : Nat → Nat) (M : zM) (av : List Value) : Array Value → State → Prop := va_Pc av (fun U => va_P D vwCl (zw cs L α M) U.heap ∧ va_K D vwCl (zt cs) U ∧ va_D (fun _ => True) (zw cs L α M))
def zQi (D : va_G) (cs : Nat → ClassId) (L : List zD) (α : Nat → Nat) (r : Int) (M : zM) : Array Value → State → Outcome → State → Prop := va_Qi (S := Unit) (fun x _ => x = nZ r) (fun _ t => va_P D vwCl (zw cs L α M) t.heap) (zA L.length α)
def zQl (D : va_G) (cs : Nat → ClassId) (L : List zD) (α : Nat → Nat) (r : Int) (M : zM) : Array Value → State → Outcome → State → Prop := va_Ql (S := Unit) (fun x _ => x = nY r) (fun _ t => va_P D vwCl (zw cs L α M) t.heap) (zA L.length α)
def zQv (D : va_G) (cs : Nat → ClassId) (L : List zD) (α : Nat → Nat) (M : zM) : Array Value → State → Outcome → State → Prop := va_Qv (S := Unit) (fun _ => True) (fun _ t => va_P D vwCl (zw cs L α M) t.heap) (zA L.length α)
theorem zPre_blind {D : va_G} {cs : Nat → ClassId} {L : List zD} {α : Nat → Nat} {M : zM} {av : List Value} : FrameBlind (zPre D cs L α M av) := fun a U g mk q => by
  obtain ⟨q0, qP, qK, qD⟩ := q
  exact ⟨q0, qP, va_K.moved (u := U) (U := U.calling g mk a) (Vm.Alike.refl U.vm) qK, qD⟩
section ZCALL
variable {p : Program} {l : Launch} {e : Env} {R : Room} {s : State} {m : MethodId} {args : Array Value} {below : List Frame} {meth : Method} {c : Code} {H : Heap} {locs : List Loc} {cells slots : Nat} {Q : State → Prop}
variable {cc : ByteArray} {pc nL : Nat} {ls : Array Slot} {rest st : List Value} {D : va_G} {cs : Nat → ClassId} {own : String} {Ts : List Cond} {L Ll : List zD} {α : Nat → Nat} {M M1 : zM} {A : Nat → Prop} {is : List Nat}
variable {y : MethodName} {bytes : ByteArray} {maxL index nn : Nat} {ret : Option FieldType} {ws : List Cond} {rm : Room} {As : List Value} {C : String}
theorem z_preV (hX : zX p s m args c cc nL D cs own Ts) (hH : zH D cs L α M A s H locs) (hem : zemb L Ll is = true) {k ci : Nat} {fs : List Nat} {T : u_T} {N : Nat} (hd : L[k]? = some (0, ci, fs)) (hc : vwCl[ci]? = some (C, T, N)) : PreV s H C (α k) (zPre D cs Ll (zsb is α) (zpk is M) (.ref (α k) :: As)) As :=
  ⟨zPre_blind, va_recv (q := (C, T, N)) hX.2 hH.1 hc (zw_at hd), fun U hU hW => ⟨rfl, by rw [hU]; exact zemb_P hem hH.1, va_K.moved hW.alike hX.2, zemb_D hem hH.2.1⟩⟩
theorem z_preS (hX : zX p s m args c cc nL D cs own Ts) (hH : zH D cs L α M A s H locs) (hem : zemb L Ll is = true) : PreS s H (zPre D cs Ll (zsb is α) (zpk is M) As) As :=
  ⟨zPre_blind, fun U hU hW => ⟨rfl, by rw [hU]; exact zemb_P hem hH.1, va_K.moved hW.alike hX.2, zemb_D hem hH.2.1⟩⟩
theorem z_callVi {r : Int} (hX : zX p s m args c cc nL D cs own Ts) (hH : zH D cs L α M A s H locs) (k ci : Nat) {fs : List Nat} {T : u_T} {N : Nat} (hem : zemb L Ll is = true) (hM : Met l y ws rm (zPre D cs Ll (zsb is α) (zpk is M) (.ref (α k) :: As)) (zQi D cs Ll (zsb is α) r M1) 0 0 (zA Ll.length (zsb is α)))
    (cw : CallW R s args own C index y bytes maxL ret ws rm 0 0 nn) (hd : L[k]? = some (0, ci, fs)) (hc : vwCl[ci]? = some (C, T, N)) (hn : As.length = nn) (hls : ls.size = nL) (hW : (rest.map fun v => v.category).sum ≤ 8) (hst : st = As.reverse ++ .ref (α k) :: rest) (hdg : decode cc pc = .ok (.invokevirtual index, 3)) (hf : cells ≤ R.cells ∧ slots ≤ R.slots)
    (kk : ∀ (H1 : Heap) (locs1 : List Loc), zH D cs L α (zpt is M M1) A s H1 locs1 → W p l e R s m args below meth c H1 locs1 cells slots Q (F0 m (pc + 3) ls (.int (nZ r) :: rest))) : W p l e R s m args below meth c H locs cells slots Q (F0 m pc ls st) := by
  refine va_calli (va_runV (As := As) (rest := rest) hX.1 hM cw (z_preV hX hH hem hd hc) rfl hn hls hst (lv_room hW) hdg hf) hH.2.2 (fun q _ h => zemb_A hem hH.2.1 q h) (zemb_A hem hH.2.1) (fun x u t H1 locs1 ht hvm hp hB hz hk hS => ?_)
  subst hp
  rw [ht] at hB
  exact kk H1 locs1 ⟨zemb_back hem hH.1 hH.2.1 hB hk, zH_same hH.2.1, hS⟩
theorem z_callVl {r : Int} (hX : zX p s m args c cc nL D cs own Ts) (hH : zH D cs L α M A s H locs) (k ci : Nat) {fs : List Nat} {T : u_T} {N : Nat} (hem : zemb L Ll is = true) (hM : Met l y ws rm (zPre D cs Ll (zsb is α) (zpk is M) (.ref (α k) :: As)) (zQl D cs Ll (zsb is α) r M1) 0 0 (zA Ll.length (zsb is α)))
    (cw : CallW R s args own C index y bytes maxL ret ws rm 0 0 nn) (hd : L[k]? = some (0, ci, fs)) (hc : vwCl[ci]? = some (C, T, N)) (hn : As.length = nn) (hls : ls.size = nL) (hW : (rest.map fun v => v.category).sum ≤ 8) (hst : st = As.reverse ++ .ref (α k) :: rest) (hdg : decode cc pc = .ok (.invokevirtual index, 3)) (hf : cells ≤ R.cells ∧ slots ≤ R.slots)
    (kk : ∀ (H1 : Heap) (locs1 : List Loc), zH D cs L α (zpt is M M1) A s H1 locs1 → W p l e R s m args below meth c H1 locs1 cells slots Q (F0 m (pc + 3) ls (.long (nY r) :: rest))) : W p l e R s m args below meth c H locs cells slots Q (F0 m pc ls st) := by
  refine va_calll (va_runV (As := As) (rest := rest) hX.1 hM cw (z_preV hX hH hem hd hc) rfl hn hls hst (lv_room hW) hdg hf) hH.2.2 (fun q _ h => zemb_A hem hH.2.1 q h) (zemb_A hem hH.2.1) (fun x u t H1 locs1 ht hvm hp hB hz hk hS => ?_)
  subst hp
  rw [ht] at hB
  exact kk H1 locs1 ⟨zemb_back hem hH.1 hH.2.1 hB hk, zH_same hH.2.1, hS⟩
theorem z_callVv (hX : zX p s m args c cc nL D cs own Ts) (hH : zH D cs L α M A s H locs) (k ci : Nat) {fs : List Nat} {T : u_T} {N : Nat} (hem : zemb L Ll is = true) (hM : Met l y ws rm (zPre D cs Ll (zsb is α) (zpk is M) (.ref (α k) :: As)) (zQv D cs Ll (zsb is α) M1) 0 0 (zA Ll.length (zsb is α)))
    (cw : CallW R s args own C index y bytes maxL ret ws rm 0 0 nn) (hd : L[k]? = some (0, ci, fs)) (hc : vwCl[ci]? = some (C, T, N)) (hn : As.length = nn) (hls : ls.size = nL) (hW : (rest.map fun v => v.category).sum ≤ 8) (hst : st = As.reverse ++ .ref (α k) :: rest) (hdg : decode cc pc = .ok (.invokevirtual index, 3)) (hf : cells ≤ R.cells ∧ slots ≤ R.slots)
    (kk : ∀ (H1 : Heap) (locs1 : List Loc), zH D cs L α (zpt is M M1) A s H1 locs1 → W p l e R s m args below meth c H1 locs1 cells slots Q (F0 m (pc + 3) ls rest)) : W p l e R s m args below meth c H locs cells slots Q (F0 m pc ls st) := by
  refine va_callv (va_runV (As := As) (rest := rest) hX.1 hM cw (z_preV hX hH hem hd hc) rfl hn hls hst (lv_room hW) hdg hf) hH.2.2 (fun q _ h => zemb_A hem hH.2.1 q h) (zemb_A hem hH.2.1) (fun u t H1 locs1 ht hvm hp hB hz hk hS => ?_)
  rw [ht] at hB
  exact kk H1 locs1 ⟨zemb_back hem hH.1 hH.2.1 hB hk, zH_same hH.2.1, hS⟩
theorem z_callSi {r : Int} (hX : zX p s m args c cc nL D cs own Ts) (hH : zH D cs L α M A s H locs) (hem : zemb L Ll is = true) (hM : Met l y ws rm (zPre D cs Ll (zsb is α) (zpk is M) As) (zQi D cs Ll (zsb is α) r M1) 0 0 (zA Ll.length (zsb is α)))
    (cw : CallB R s args own index y bytes maxL ret ws rm 0 0 nn ∧ (Cond.static y).before args s = true) (hn : As.length = nn) (hls : ls.size = nL) (hW : (rest.map fun v => v.category).sum ≤ 8) (hst : st = As.reverse ++ rest) (hdg : decode cc pc = .ok (.invokestatic index, 3)) (hf : cells ≤ R.cells ∧ slots ≤ R.slots)
    (kk : ∀ (H1 : Heap) (locs1 : List Loc), zH D cs L α (zpt is M M1) A s H1 locs1 → W p l e R s m args below meth c H1 locs1 cells slots Q (F0 m (pc + 3) ls (.int (nZ r) :: rest))) : W p l e R s m args below meth c H locs cells slots Q (F0 m pc ls st) := by
  refine va_calli (va_runS (As := As) (rest := rest) hX.1 hM cw (z_preS hX hH hem) rfl hn hls hst (lv_room hW) hdg hf) hH.2.2 (fun q _ h => zemb_A hem hH.2.1 q h) (zemb_A hem hH.2.1) (fun x u t H1 locs1 ht hvm hp hB hz hk hS => ?_)
  subst hp
  rw [ht] at hB
  exact kk H1 locs1 ⟨zemb_back hem hH.1 hH.2.1 hB hk, zH_same hH.2.1, hS⟩
theorem z_callSl {r : Int} (hX : zX p s m args c cc nL D cs own Ts) (hH : zH D cs L α M A s H locs) (hem : zemb L Ll is = true) (hM : Met l y ws rm (zPre D cs Ll (zsb is α) (zpk is M) As) (zQl D cs Ll (zsb is α) r M1) 0 0 (zA Ll.length (zsb is α)))
    (cw : CallB R s args own index y bytes maxL ret ws rm 0 0 nn ∧ (Cond.static y).before args s = true) (hn : As.length = nn) (hls : ls.size = nL) (hW : (rest.map fun v => v.category).sum ≤ 8) (hst : st = As.reverse ++ rest) (hdg : decode cc pc = .ok (.invokestatic index, 3)) (hf : cells ≤ R.cells ∧ slots ≤ R.slots)
    (kk : ∀ (H1 : Heap) (locs1 : List Loc), zH D cs L α (zpt is M M1) A s H1 locs1 → W p l e R s m args below meth c H1 locs1 cells slots Q (F0 m (pc + 3) ls (.long (nY r) :: rest))) : W p l e R s m args below meth c H locs cells slots Q (F0 m pc ls st) := by
  refine va_calll (va_runS (As := As) (rest := rest) hX.1 hM cw (z_preS hX hH hem) rfl hn hls hst (lv_room hW) hdg hf) hH.2.2 (fun q _ h => zemb_A hem hH.2.1 q h) (zemb_A hem hH.2.1) (fun x u t H1 locs1 ht hvm hp hB hz hk hS => ?_)
  subst hp
  rw [ht] at hB
  exact kk H1 locs1 ⟨zemb_back hem hH.1 hH.2.1 hB hk, zH_same hH.2.1, hS⟩
theorem z_callSv (hX : zX p s m args c cc nL D cs own Ts) (hH : zH D cs L α M A s H locs) (hem : zemb L Ll is = true) (hM : Met l y ws rm (zPre D cs Ll (zsb is α) (zpk is M) As) (zQv D cs Ll (zsb is α) M1) 0 0 (zA Ll.length (zsb is α)))
    (cw : CallB R s args own index y bytes maxL ret ws rm 0 0 nn ∧ (Cond.static y).before args s = true) (hn : As.length = nn) (hls : ls.size = nL) (hW : (rest.map fun v => v.category).sum ≤ 8) (hst : st = As.reverse ++ rest) (hdg : decode cc pc = .ok (.invokestatic index, 3)) (hf : cells ≤ R.cells ∧ slots ≤ R.slots)
    (kk : ∀ (H1 : Heap) (locs1 : List Loc), zH D cs L α (zpt is M M1) A s H1 locs1 → W p l e R s m args below meth c H1 locs1 cells slots Q (F0 m (pc + 3) ls rest)) : W p l e R s m args below meth c H locs cells slots Q (F0 m pc ls st) := by
  refine va_callv (va_runS (As := As) (rest := rest) hX.1 hM cw (z_preS hX hH hem) rfl hn hls hst (lv_room hW) hdg hf) hH.2.2 (fun q _ h => zemb_A hem hH.2.1 q h) (zemb_A hem hH.2.1) (fun u t H1 locs1 ht hvm hp hB hz hk hS => ?_)
  rw [ht] at hB
  exact kk H1 locs1 ⟨zemb_back hem hH.1 hH.2.1 hB hk, zH_same hH.2.1, hS⟩
/-! ends -/
theorem z_iret {r v : Int} {M' : zM} {ty : FieldType} (hX : zX p s m args c cc nL D cs own Ts) (hr : meth.sig.returnType = some ty) (hlocks : meth.locks = false) (hH : zH D cs L α M (zA L.length α) s H locs) (hF : some (v, M) = some (r, M')) (hn : narrow ty (.int (nZ v)) = .int (nZ v)) (hdg : decode cc pc = .ok (.ireturn, 1)) : W p l e R s m args below meth c H locs cells slots (MQ below (zQi D cs L α r M') args s cells slots (zA L.length α)) (F0 m pc ls [.int (nZ v)]) := by
  cases hF
  exact W.zret hX.1.1 hX.1.2.1 hr hn (fun t ht hW => ⟨⟨nZ r, (), rfl, rfl, by show va_P D vwCl (zw cs L α M) t.heap; rw [ht]; exact hH.1⟩, hH.2.2.F ht⟩) hH.2.2.2.2 hdg hlocks
theorem z_lret {r v : Int} {M' : zM} (hX : zX p s m args c cc nL D cs own Ts) (hr : meth.sig.returnType = some .long) (hlocks : meth.locks = false) (hH : zH D cs L α M (zA L.length α) s H locs) (hF : some (v, M) = some (r, M')) (hdg : decode cc pc = .ok (.lreturn, 1)) : W p l e R s m args below meth c H locs cells slots (MQ below (zQl D cs L α r M') args s cells slots (zA L.length α)) (F0 m pc ls [.long (nY v)]) := by
  cases hF
  exact W.lret hX.1.1 hX.1.2.1 hr (fun t ht hW => ⟨⟨nY r, (), rfl, rfl, by show va_P D vwCl (zw cs L α M) t.heap; rw [ht]; exact hH.1⟩, hH.2.2.F ht⟩) hH.2.2.2.2 hdg hlocks
theorem z_vret {M' : zM} (hX : zX p s m args c cc nL D cs own Ts) (hr : meth.sig.returnType = none) (hlocks : meth.locks = false) (hH : zH D cs L α M (zA L.length α) s H locs) (hF : some M = some M') (hdg : decode cc pc = .ok (.return_, 1)) : W p l e R s m args below meth c H locs cells slots (MQ below (zQv D cs L α M') args s cells slots (zA L.length α)) (F0 m pc ls []) := by
  cases hF
  exact W.vret hX.1.1 hX.1.2.1 hr (fun t ht hW => ⟨⟨(), rfl, trivial, by show va_P D vwCl (zw cs L α M) t.heap; rw [ht]; exact hH.1⟩, hH.2.2.F ht⟩) hH.2.2.2.2 hdg hlocks
end ZCALL
end
