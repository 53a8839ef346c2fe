section
/-- a private method of a class that the tables say can be made, by its rows of tables_1 -/
def lw_okq (q : MethodName × Nat) : Prop := (q.1.cls ≠ "java/lang/invoke/MethodHandle" ∧ q.1.cls ≠ "java/lang/invoke/VarHandle") ∧ Cond.instantiable q.1.cls q.2 ∈ tables_1 ∧ Cond.privateMethod q.1 ∈ tables_1 ∧ Cond.instanceMethod q.1 ∈ tables_1
theorem lw_p0 : lw_okq (⟨"TrickHouse", "failed", "(I)I"⟩, 7) := ⟨⟨by decide +kernel, by decide +kernel⟩, List.mem_of_getElem? (i := 14) (by decide +kernel), List.mem_of_getElem? (i := 220) (by decide +kernel), List.mem_of_getElem? (i := 221) (by decide +kernel)⟩
theorem lw_p1 : lw_okq (⟨"TrickHouse$House", "leaversOf", "(I)I"⟩, 6) := ⟨⟨by decide +kernel, by decide +kernel⟩, List.mem_of_getElem? (i := 22) (by decide +kernel), List.mem_of_getElem? (i := 331) (by decide +kernel), List.mem_of_getElem? (i := 332) (by decide +kernel)⟩
theorem lw_p2 : lw_okq (⟨"TrickHouse$Year", "go", "(I)V"⟩, 5) := ⟨⟨by decide +kernel, by decide +kernel⟩, List.mem_of_getElem? (i := 132) (by decide +kernel), List.mem_of_getElem? (i := 386) (by decide +kernel), List.mem_of_getElem? (i := 387) (by decide +kernel)⟩
theorem lw_p3 : lw_okq (⟨"TrickHouse$Packing", "placeFrom", "(II)V"⟩, 5) := ⟨⟨by decide +kernel, by decide +kernel⟩, List.mem_of_getElem? (i := 108) (by decide +kernel), List.mem_of_getElem? (i := 411) (by decide +kernel), List.mem_of_getElem? (i := 412) (by decide +kernel)⟩
theorem lw_p4 : lw_okq (⟨"TrickHouse$Packing", "countWay", "()V"⟩, 5) := ⟨⟨by decide +kernel, by decide +kernel⟩, List.mem_of_getElem? (i := 108) (by decide +kernel), List.mem_of_getElem? (i := 416) (by decide +kernel), List.mem_of_getElem? (i := 417) (by decide +kernel)⟩
theorem lw_p5 : lw_okq (⟨"TrickHouse$Sheet", "cut", "(I)I"⟩, 3) := ⟨⟨by decide +kernel, by decide +kernel⟩, List.mem_of_getElem? (i := 155) (by decide +kernel), List.mem_of_getElem? (i := 506) (by decide +kernel), List.mem_of_getElem? (i := 507) (by decide +kernel)⟩
theorem lw_p6 : lw_okq (⟨"TrickHouse", "tellAsPerson", "(LTrickHouse$Article;)I"⟩, 7) := ⟨⟨by decide +kernel, by decide +kernel⟩, List.mem_of_getElem? (i := 14) (by decide +kernel), List.mem_of_getElem? (i := 526) (by decide +kernel), List.mem_of_getElem? (i := 527) (by decide +kernel)⟩
theorem lw_p7 : lw_okq (⟨"TrickHouse", "begin", "(I)V"⟩, 7) := ⟨⟨by decide +kernel, by decide +kernel⟩, List.mem_of_getElem? (i := 14) (by decide +kernel), List.mem_of_getElem? (i := 530) (by decide +kernel), List.mem_of_getElem? (i := 531) (by decide +kernel)⟩
theorem lw_p8 : lw_okq (⟨"TrickHouse", "tellAsBeast", "(LTrickHouse$Article;)I"⟩, 7) := ⟨⟨by decide +kernel, by decide +kernel⟩, List.mem_of_getElem? (i := 14) (by decide +kernel), List.mem_of_getElem? (i := 534) (by decide +kernel), List.mem_of_getElem? (i := 535) (by decide +kernel)⟩
theorem lw_p9 : lw_okq (⟨"TrickHouse", "tellAsThing", "(LTrickHouse$Article;)I"⟩, 7) := ⟨⟨by decide +kernel, by decide +kernel⟩, List.mem_of_getElem? (i := 14) (by decide +kernel), List.mem_of_getElem? (i := 538) (by decide +kernel), List.mem_of_getElem? (i := 539) (by decide +kernel)⟩
theorem lw_p10 : lw_okq (⟨"TrickHouseModel", "against", "(IIII)I"⟩, 32) := ⟨⟨by decide +kernel, by decide +kernel⟩, List.mem_of_getElem? (i := 562) (by decide +kernel), List.mem_of_getElem? (i := 678) (by decide +kernel), List.mem_of_getElem? (i := 679) (by decide +kernel)⟩
theorem lw_p11 : lw_okq (⟨"TrickHouseModel", "fails", "(I)I"⟩, 32) := ⟨⟨by decide +kernel, by decide +kernel⟩, List.mem_of_getElem? (i := 562) (by decide +kernel), List.mem_of_getElem? (i := 682) (by decide +kernel), List.mem_of_getElem? (i := 683) (by decide +kernel)⟩
theorem lw_p12 : lw_okq (⟨"TrickHouseModel", "readCity", "(I)Z"⟩, 32) := ⟨⟨by decide +kernel, by decide +kernel⟩, List.mem_of_getElem? (i := 562) (by decide +kernel), List.mem_of_getElem? (i := 686) (by decide +kernel), List.mem_of_getElem? (i := 687) (by decide +kernel)⟩
theorem lw_p13 : lw_okq (⟨"TrickHouseModel", "isSign", "(II)Z"⟩, 32) := ⟨⟨by decide +kernel, by decide +kernel⟩, List.mem_of_getElem? (i := 562) (by decide +kernel), List.mem_of_getElem? (i := 690) (by decide +kernel), List.mem_of_getElem? (i := 691) (by decide +kernel)⟩
theorem lw_p14 : lw_okq (⟨"TrickHouseModel", "digit", "(III)I"⟩, 32) := ⟨⟨by decide +kernel, by decide +kernel⟩, List.mem_of_getElem? (i := 562) (by decide +kernel), List.mem_of_getElem? (i := 694) (by decide +kernel), List.mem_of_getElem? (i := 695) (by decide +kernel)⟩
theorem lw_p15 : lw_okq (⟨"TrickHouseModel", "readTheRooms", "(I)Z"⟩, 32) := ⟨⟨by decide +kernel, by decide +kernel⟩, List.mem_of_getElem? (i := 562) (by decide +kernel), List.mem_of_getElem? (i := 698) (by decide +kernel), List.mem_of_getElem? (i := 699) (by decide +kernel)⟩
def lw_privs_1 : List (MethodName × Nat) := [(⟨"TrickHouse", "failed", "(I)I"⟩, 7), (⟨"TrickHouse$House", "leaversOf", "(I)I"⟩, 6), (⟨"TrickHouse$Year", "go", "(I)V"⟩, 5), (⟨"TrickHouse$Packing", "placeFrom", "(II)V"⟩, 5), (⟨"TrickHouse$Packing", "countWay", "()V"⟩, 5), (⟨"TrickHouse$Sheet", "cut", "(I)I"⟩, 3), (⟨"TrickHouse", "tellAsPerson", "(LTrickHouse$Article;)I"⟩, 7), (⟨"TrickHouse", "begin", "(I)V"⟩, 7), (⟨"TrickHouse", "tellAsBeast", "(LTrickHouse$Article;)I"⟩, 7), (⟨"TrickHouse", "tellAsThing", "(LTrickHouse$Article;)I"⟩, 7), (⟨"TrickHouseModel", "against", "(IIII)I"⟩, 32), (⟨"TrickHouseModel", "fails", "(I)I"⟩, 32), (⟨"TrickHouseModel", "readCity", "(I)Z"⟩, 32), (⟨"TrickHouseModel", "isSign", "(II)Z"⟩, 32), (⟨"TrickHouseModel", "digit", "(III)I"⟩, 32), (⟨"TrickHouseModel", "readTheRooms", "(I)Z"⟩, 32)]
theorem lw_r1 : ∀ q ∈ lw_privs_1, lw_okq q := List.forall_mem_cons.mpr ⟨lw_p0, List.forall_mem_cons.mpr ⟨lw_p1, List.forall_mem_cons.mpr ⟨lw_p2, List.forall_mem_cons.mpr ⟨lw_p3, List.forall_mem_cons.mpr ⟨lw_p4, List.forall_mem_cons.mpr ⟨lw_p5, List.forall_mem_cons.mpr ⟨lw_p6, List.forall_mem_cons.mpr ⟨lw_p7, List.forall_mem_cons.mpr ⟨lw_p8, List.forall_mem_cons.mpr ⟨lw_p9, List.forall_mem_cons.mpr ⟨lw_p10, List.forall_mem_cons.mpr ⟨lw_p11, List.forall_mem_cons.mpr ⟨lw_p12, List.forall_mem_cons.mpr ⟨lw_p13, List.forall_mem_cons.mpr ⟨lw_p14, List.forall_mem_cons.mpr ⟨lw_p15, fun _ h => absurd h List.not_mem_nil⟩⟩⟩⟩⟩⟩⟩⟩⟩⟩⟩⟩⟩⟩⟩⟩
theorem lw_p16 : lw_okq (⟨"TrickHouseModel", "readArticle", "(I)Z"⟩, 32) := ⟨⟨by decide +kernel, by decide +kernel⟩, List.mem_of_getElem? (i := 562) (by decide +kernel), List.mem_of_getElem? (i := 702) (by decide +kernel), List.mem_of_getElem? (i := 703) (by decide +kernel)⟩
theorem lw_p17 : lw_okq (⟨"TrickHouseModel", "takeCity", "()V"⟩, 32) := ⟨⟨by decide +kernel, by decide +kernel⟩, List.mem_of_getElem? (i := 562) (by decide +kernel), List.mem_of_getElem? (i := 706) (by decide +kernel), List.mem_of_getElem? (i := 707) (by decide +kernel)⟩
theorem lw_p18 : lw_okq (⟨"TrickHouseModel", "isArticle", "(I)Z"⟩, 32) := ⟨⟨by decide +kernel, by decide +kernel⟩, List.mem_of_getElem? (i := 562) (by decide +kernel), List.mem_of_getElem? (i := 714) (by decide +kernel), List.mem_of_getElem? (i := 715) (by decide +kernel)⟩
theorem lw_p19 : lw_okq (⟨"TrickHouseModel", "laughOf", "(I)I"⟩, 32) := ⟨⟨by decide +kernel, by decide +kernel⟩, List.mem_of_getElem? (i := 562) (by decide +kernel), List.mem_of_getElem? (i := 718) (by decide +kernel), List.mem_of_getElem? (i := 719) (by decide +kernel)⟩
theorem lw_p20 : lw_okq (⟨"TrickHouseModel", "isRoom", "(I)Z"⟩, 32) := ⟨⟨by decide +kernel, by decide +kernel⟩, List.mem_of_getElem? (i := 562) (by decide +kernel), List.mem_of_getElem? (i := 726) (by decide +kernel), List.mem_of_getElem? (i := 727) (by decide +kernel)⟩
theorem lw_p21 : lw_okq (⟨"TrickHouseModel", "isSet", "(I)Z"⟩, 32) := ⟨⟨by decide +kernel, by decide +kernel⟩, List.mem_of_getElem? (i := 562) (by decide +kernel), List.mem_of_getElem? (i := 757) (by decide +kernel), List.mem_of_getElem? (i := 758) (by decide +kernel)⟩
theorem lw_p22 : lw_okq (⟨"TrickHouseModel", "companyOf", "(I)I"⟩, 32) := ⟨⟨by decide +kernel, by decide +kernel⟩, List.mem_of_getElem? (i := 562) (by decide +kernel), List.mem_of_getElem? (i := 761) (by decide +kernel), List.mem_of_getElem? (i := 762) (by decide +kernel)⟩
theorem lw_p23 : lw_okq (⟨"TrickHouseModel", "laughsOf", "(I)I"⟩, 32) := ⟨⟨by decide +kernel, by decide +kernel⟩, List.mem_of_getElem? (i := 562) (by decide +kernel), List.mem_of_getElem? (i := 765) (by decide +kernel), List.mem_of_getElem? (i := 766) (by decide +kernel)⟩
theorem lw_p24 : lw_okq (⟨"TrickHouseModel", "comes", "(I)I"⟩, 32) := ⟨⟨by decide +kernel, by decide +kernel⟩, List.mem_of_getElem? (i := 562) (by decide +kernel), List.mem_of_getElem? (i := 776) (by decide +kernel), List.mem_of_getElem? (i := 777) (by decide +kernel)⟩
theorem lw_p25 : lw_okq (⟨"TrickHouseModel", "heardAt", "(I)I"⟩, 32) := ⟨⟨by decide +kernel, by decide +kernel⟩, List.mem_of_getElem? (i := 562) (by decide +kernel), List.mem_of_getElem? (i := 792) (by decide +kernel), List.mem_of_getElem? (i := 793) (by decide +kernel)⟩
theorem lw_p26 : lw_okq (⟨"TrickHouseModel", "goYear", "(II)I"⟩, 32) := ⟨⟨by decide +kernel, by decide +kernel⟩, List.mem_of_getElem? (i := 562) (by decide +kernel), List.mem_of_getElem? (i := 803) (by decide +kernel), List.mem_of_getElem? (i := 804) (by decide +kernel)⟩
theorem lw_p27 : lw_okq (⟨"TrickHouseModel", "tellYear", "(I)I"⟩, 32) := ⟨⟨by decide +kernel, by decide +kernel⟩, List.mem_of_getElem? (i := 562) (by decide +kernel), List.mem_of_getElem? (i := 810) (by decide +kernel), List.mem_of_getElem? (i := 811) (by decide +kernel)⟩
theorem lw_p28 : lw_okq (⟨"TrickHouseModel", "findPacks", "(I)V"⟩, 32) := ⟨⟨by decide +kernel, by decide +kernel⟩, List.mem_of_getElem? (i := 562) (by decide +kernel), List.mem_of_getElem? (i := 818) (by decide +kernel), List.mem_of_getElem? (i := 819) (by decide +kernel)⟩
theorem lw_p29 : lw_okq (⟨"TrickHouseModel", "holds", "(II)Z"⟩, 32) := ⟨⟨by decide +kernel, by decide +kernel⟩, List.mem_of_getElem? (i := 562) (by decide +kernel), List.mem_of_getElem? (i := 822) (by decide +kernel), List.mem_of_getElem? (i := 823) (by decide +kernel)⟩
theorem lw_p30 : lw_okq (⟨"TrickHouseModel", "fewestFor", "(II)I"⟩, 32) := ⟨⟨by decide +kernel, by decide +kernel⟩, List.mem_of_getElem? (i := 562) (by decide +kernel), List.mem_of_getElem? (i := 830) (by decide +kernel), List.mem_of_getElem? (i := 831) (by decide +kernel)⟩
theorem lw_p31 : lw_okq (⟨"TrickHouseModel", "areSo", "()Z"⟩, 32) := ⟨⟨by decide +kernel, by decide +kernel⟩, List.mem_of_getElem? (i := 562) (by decide +kernel), List.mem_of_getElem? (i := 850) (by decide +kernel), List.mem_of_getElem? (i := 851) (by decide +kernel)⟩
def lw_privs_2 : List (MethodName × Nat) := [(⟨"TrickHouseModel", "readArticle", "(I)Z"⟩, 32), (⟨"TrickHouseModel", "takeCity", "()V"⟩, 32), (⟨"TrickHouseModel", "isArticle", "(I)Z"⟩, 32), (⟨"TrickHouseModel", "laughOf", "(I)I"⟩, 32), (⟨"TrickHouseModel", "isRoom", "(I)Z"⟩, 32), (⟨"TrickHouseModel", "isSet", "(I)Z"⟩, 32), (⟨"TrickHouseModel", "companyOf", "(I)I"⟩, 32), (⟨"TrickHouseModel", "laughsOf", "(I)I"⟩, 32), (⟨"TrickHouseModel", "comes", "(I)I"⟩, 32), (⟨"TrickHouseModel", "heardAt", "(I)I"⟩, 32), (⟨"TrickHouseModel", "goYear", "(II)I"⟩, 32), (⟨"TrickHouseModel", "tellYear", "(I)I"⟩, 32), (⟨"TrickHouseModel", "findPacks", "(I)V"⟩, 32), (⟨"TrickHouseModel", "holds", "(II)Z"⟩, 32), (⟨"TrickHouseModel", "fewestFor", "(II)I"⟩, 32), (⟨"TrickHouseModel", "areSo", "()Z"⟩, 32)]
theorem lw_r2 : ∀ q ∈ lw_privs_2, lw_okq q := List.forall_mem_cons.mpr ⟨lw_p16, List.forall_mem_cons.mpr ⟨lw_p17, List.forall_mem_cons.mpr ⟨lw_p18, List.forall_mem_cons.mpr ⟨lw_p19, List.forall_mem_cons.mpr ⟨lw_p20, List.forall_mem_cons.mpr ⟨lw_p21, List.forall_mem_cons.mpr ⟨lw_p22, List.forall_mem_cons.mpr ⟨lw_p23, List.forall_mem_cons.mpr ⟨lw_p24, List.forall_mem_cons.mpr ⟨lw_p25, List.forall_mem_cons.mpr ⟨lw_p26, List.forall_mem_cons.mpr ⟨lw_p27, List.forall_mem_cons.mpr ⟨lw_p28, List.forall_mem_cons.mpr ⟨lw_p29, List.forall_mem_cons.mpr ⟨lw_p30, List.forall_mem_cons.mpr ⟨lw_p31, fun _ h => absurd h List.not_mem_nil⟩⟩⟩⟩⟩⟩⟩⟩⟩⟩⟩⟩⟩⟩⟩⟩
theorem lw_p32 : lw_okq (⟨"TrickHouseModel", "lost", "(I)J"⟩, 32) := ⟨⟨by decide +kernel, by decide +kernel⟩, List.mem_of_getElem? (i := 562) (by decide +kernel), List.mem_of_getElem? (i := 886) (by decide +kernel), List.mem_of_getElem? (i := 887) (by decide +kernel)⟩
theorem lw_p33 : lw_okq (⟨"TrickHouseModel", "begins", "(I)V"⟩, 32) := ⟨⟨by decide +kernel, by decide +kernel⟩, List.mem_of_getElem? (i := 562) (by decide +kernel), List.mem_of_getElem? (i := 898) (by decide +kernel), List.mem_of_getElem? (i := 899) (by decide +kernel)⟩
def lw_privs_3 : List (MethodName × Nat) := [(⟨"TrickHouseModel", "lost", "(I)J"⟩, 32), (⟨"TrickHouseModel", "begins", "(I)V"⟩, 32)]
theorem lw_r3 : ∀ q ∈ lw_privs_3, lw_okq q := List.forall_mem_cons.mpr ⟨lw_p32, List.forall_mem_cons.mpr ⟨lw_p33, fun _ h => absurd h List.not_mem_nil⟩⟩
def lw_privs : List (MethodName × Nat) := lw_privs_1 ++ (lw_privs_2 ++ (lw_privs_3))
def lw_tbl : List Cond := k2_sels lw_privs ++ tables_1
theorem lw_privs_ok : ∀ q ∈ lw_privs, lw_okq q := by
  show ∀ q ∈ lw_privs_1 ++ (lw_privs_2 ++ (lw_privs_3)), lw_okq q
  exact List.forall_mem_append.mpr ⟨lw_r1, List.forall_mem_append.mpr ⟨lw_r2, lw_r3⟩⟩
/-! ===== BEGIN words of one list among another's, by their places ===== -/
theorem goodIn_r {big : List Cond} (ws : List Cond) (ps : List Nat) (hp : ws = ps.filterMap (fun i => big[i]?)) (h : ws.all goodWord = true) : GoodIn big ws := by
  intro w hw
  have h1 := List.all_eq_true.mp h w hw
  rw [hp] at hw
  obtain ⟨i, -, hi⟩ := List.mem_filterMap.mp hw
  have hm : w ∈ big := by first | exact List.mem_of_getElem? hi | exact List.getElem?_mem hi
  exact ⟨hm, good_of_word h1⟩
theorem goodIn_app {big a b : List Cond} (ha : GoodIn big a) (hb : GoodIn big b) : GoodIn big (a ++ b) := fun w h => (List.mem_append.mp h).elim (ha w) (hb w)
theorem goodIn_ca {big a b : List Cond} {c : Cond} (ha : GoodIn big (c :: a)) (hb : GoodIn big b) : GoodIn big (c :: (a ++ b)) := fun w h => (List.mem_cons.mp h).elim (fun e => ha w (List.mem_cons.mpr (Or.inl e))) (fun h => (List.mem_append.mp h).elim (fun h => ha w (List.mem_cons.mpr (Or.inr h))) (hb w))
theorem goodIn_sub {big ws : List Cond} (hm : ∀ w ∈ ws, w ∈ big) (h : ws.all goodWord = true) : GoodIn big ws := fun w hw => ⟨hm w hw, good_of_word (List.all_eq_true.mp h w hw)⟩
/-! ===== END ===== -/

/-! ===== BEGIN printed: names, fields, word lists, decode rows ===== -/
def RX0 : String := "TrickHouse$Article"
def TX0 : u_T := fun k => match k with
  | 0 => ("TrickHouse$Article", "kind", "I", false)
  | 1 => ("TrickHouse$Article", "bulk", "I", false)
  | 2 => ("TrickHouse$Article", "gaiety", "I", false)
  | _ => ("TrickHouse$Article", "longing", "I", false)
def tyX0 : Nat → FieldType := fun k => match k with
  | 0 => .int
  | 1 => .int
  | 2 => .int
  | _ => .int
abbrev wsX00 : List Cond := u_ws RX0 TX0 4
theorem nmX0 : ∀ a, a < 4 → ∀ b, b < 4 → a ≠ b → (TX0 a).2.1 ≠ (TX0 b).2.1 := by decide +kernel
theorem tyX0_ok : ∀ k, k < 4 → parseFieldDescriptor (TX0 k).2.2.1 = some (tyX0 k) := by decide +kernel
abbrev cX0_init : ByteArray := prog_2_method_1_code
def yX0_init : MethodName := ⟨RX0, "<init>", "()V"⟩
abbrev cX0_laugh : ByteArray := prog_2_method_2_code
def yX0_laugh : MethodName := ⟨RX0, "laugh", "()I"⟩
abbrev cX0_laughOfKind : ByteArray := prog_2_method_3_code
def yX0_laughOfKind : MethodName := ⟨RX0, "laughOfKind", "(II)I"⟩
def RX1 : String := "TrickHouse$House"
def TX1 : u_T := fun k => match k with
  | 0 => ("TrickHouse$House", "articles", "[LTrickHouse$Article;", true)
  | 1 => ("TrickHouse$House", "spaces", "[I", true)
  | 2 => ("TrickHouse$House", "articleCount", "I", false)
  | 3 => ("TrickHouse$House", "roomCount", "I", false)
  | 4 => ("TrickHouse$House", "corner", "I", false)
  | _ => ("TrickHouse$House", "present", "I", false)
def tyX1 : Nat → FieldType := fun k => match k with
  | 0 => .array (.object "TrickHouse$Article")
  | 1 => .array .int
  | 2 => .int
  | 3 => .int
  | 4 => .int
  | _ => .int
abbrev wsX10 : List Cond := u_ws RX1 TX1 6
theorem nmX1 : ∀ a, a < 6 → ∀ b, b < 6 → a ≠ b → (TX1 a).2.1 ≠ (TX1 b).2.1 := by decide +kernel
theorem tyX1_ok : ∀ k, k < 6 → parseFieldDescriptor (TX1 k).2.2.1 = some (tyX1 k) := by decide +kernel
abbrev cX1_init : ByteArray := prog_3_method_1_code
def yX1_init : MethodName := ⟨RX1, "<init>", "()V"⟩
abbrev cX1_stands : ByteArray := prog_3_method_2_code
def yX1_stands : MethodName := ⟨RX1, "stands", "()Z"⟩
abbrev cX1_isArticle : ByteArray := prog_3_method_3_code
def yX1_isArticle : MethodName := ⟨RX1, "isArticle", "(I)Z"⟩
abbrev cX1_isRoom : ByteArray := prog_3_method_4_code
def yX1_isRoom : MethodName := ⟨RX1, "isRoom", "(I)Z"⟩
abbrev cX1_isSet : ByteArray := prog_3_method_5_code
def yX1_isSet : MethodName := ⟨RX1, "isSet", "(I)Z"⟩
abbrev cX1_laughOf : ByteArray := prog_3_method_6_code
def yX1_laughOf : MethodName := ⟨RX1, "laughOf", "(I)I"⟩
abbrev cX1_laughIf : ByteArray := prog_3_method_7_code
def yX1_laughIf : MethodName := ⟨RX1, "laughIf", "(III)I"⟩
abbrev cX1_companyOf : ByteArray := prog_3_method_8_code
def yX1_companyOf : MethodName := ⟨RX1, "companyOf", "(I)I"⟩
abbrev cX1_leaversOf : ByteArray := prog_3_method_9_code
def yX1_leaversOf : MethodName := ⟨RX1, "leaversOf", "(I)I"⟩
abbrev cX1_keepCompanyOf : ByteArray := prog_3_method_10_code
def yX1_keepCompanyOf : MethodName := ⟨RX1, "keepCompanyOf", "(I)I"⟩
abbrev cX1_fewestCalls : ByteArray := prog_3_method_11_code
def yX1_fewestCalls : MethodName := ⟨RX1, "fewestCalls", "(II)I"⟩
abbrev cX1_setsThatLeave : ByteArray := prog_3_method_12_code
def yX1_setsThatLeave : MethodName := ⟨RX1, "setsThatLeave", "(I)I"⟩
def RX2 : String := "TrickHouse$Packing"
def TX2 : u_T := fun k => match k with
  | 0 => ("TrickHouse$Packing", "house", "LTrickHouse$House;", true)
  | 1 => ("TrickHouse$Packing", "loads", "[I", true)
  | 2 => ("TrickHouse$Packing", "tried", "[I", true)
  | 3 => ("TrickHouse$Packing", "first", "[I", true)
  | _ => ("TrickHouse$Packing", "ways", "I", false)
def tyX2 : Nat → FieldType := fun k => match k with
  | 0 => .object "TrickHouse$House"
  | 1 => .array .int
  | 2 => .array .int
  | 3 => .array .int
  | _ => .int
abbrev wsX20 : List Cond := u_ws RX2 TX2 5
theorem nmX2 : ∀ a, a < 5 → ∀ b, b < 5 → a ≠ b → (TX2 a).2.1 ≠ (TX2 b).2.1 := by decide +kernel
theorem tyX2_ok : ∀ k, k < 5 → parseFieldDescriptor (TX2 k).2.2.1 = some (tyX2 k) := by decide +kernel
abbrev cX2_init : ByteArray := prog_4_method_1_code
def yX2_init : MethodName := ⟨RX2, "<init>", "(LTrickHouse$House;)V"⟩
abbrev cX2_pack : ByteArray := prog_4_method_2_code
def yX2_pack : MethodName := ⟨RX2, "pack", "(I)V"⟩
abbrev cX2_placeFrom : ByteArray := prog_4_method_3_code
def yX2_placeFrom : MethodName := ⟨RX2, "placeFrom", "(II)V"⟩
abbrev cX2_countWay : ByteArray := prog_4_method_4_code
def yX2_countWay : MethodName := ⟨RX2, "countWay", "()V"⟩
def RX3 : String := "TrickHouse$Readings"
def TX3 : u_T := fun k => match k with
  | 0 => ("TrickHouse$Readings", "corners", "[I", true)
  | 1 => ("TrickHouse$Readings", "values", "[I", true)
  | _ => ("TrickHouse$Readings", "count", "I", false)
def tyX3 : Nat → FieldType := fun k => match k with
  | 0 => .array .int
  | 1 => .array .int
  | _ => .int
abbrev wsX30 : List Cond := u_ws RX3 TX3 3
theorem nmX3 : ∀ a, a < 3 → ∀ b, b < 3 → a ≠ b → (TX3 a).2.1 ≠ (TX3 b).2.1 := by decide +kernel
theorem tyX3_ok : ∀ k, k < 3 → parseFieldDescriptor (TX3 k).2.2.1 = some (tyX3 k) := by decide +kernel
abbrev cX3_init : ByteArray := prog_5_method_1_code
def yX3_init : MethodName := ⟨RX3, "<init>", "()V"⟩
abbrev cX3_add : ByteArray := prog_5_method_2_code
def yX3_add : MethodName := ⟨RX3, "add", "(II)I"⟩
abbrev cX3_allAreSo : ByteArray := prog_5_method_3_code
def yX3_allAreSo : MethodName := ⟨RX3, "allAreSo", "(II)Z"⟩
def RX4 : String := "TrickHouse$Sheet"
def TX4 : u_T := fun k => match k with
  | 0 => ("TrickHouse$Sheet", "cells", "[I", true)
  | 1 => ("TrickHouse$Sheet", "lane", "I", false)
  | _ => ("TrickHouse$Sheet", "size", "I", false)
def tyX4 : Nat → FieldType := fun k => match k with
  | 0 => .array .int
  | 1 => .int
  | _ => .int
abbrev wsX40 : List Cond := u_ws RX4 TX4 3
theorem nmX4 : ∀ a, a < 3 → ∀ b, b < 3 → a ≠ b → (TX4 a).2.1 ≠ (TX4 b).2.1 := by decide +kernel
theorem tyX4_ok : ∀ k, k < 3 → parseFieldDescriptor (TX4 k).2.2.1 = some (tyX4 k) := by decide +kernel
abbrev cX4_init : ByteArray := prog_6_method_1_code
def yX4_init : MethodName := ⟨RX4, "<init>", "()V"⟩
abbrev cX4_hasNothing : ByteArray := prog_6_method_2_code
def yX4_hasNothing : MethodName := ⟨RX4, "hasNothing", "()Z"⟩
abbrev cX4_clear : ByteArray := prog_6_method_3_code
def yX4_clear : MethodName := ⟨RX4, "clear", "()V"⟩
abbrev cX4_renew : ByteArray := prog_6_method_4_code
def yX4_renew : MethodName := ⟨RX4, "renew", "(II)V"⟩
abbrev cX4_holds : ByteArray := prog_6_method_5_code
def yX4_holds : MethodName := ⟨RX4, "holds", "(II)Z"⟩
abbrev cX4_faultOfTaking : ByteArray := prog_6_method_6_code
def yX4_faultOfTaking : MethodName := ⟨RX4, "faultOfTaking", "(III)I"⟩
abbrev cX4_at : ByteArray := prog_6_method_7_code
def yX4_at : MethodName := ⟨RX4, "at", "(I)I"⟩
abbrev cX4_write : ByteArray := prog_6_method_8_code
def yX4_write : MethodName := ⟨RX4, "write", "(II)V"⟩
abbrev cX4_cut : ByteArray := prog_6_method_9_code
def yX4_cut : MethodName := ⟨RX4, "cut", "(I)I"⟩
def RX5 : String := "TrickHouse$Text"
def TX5 : u_T := fun k => match k with
  | _ => ("", "", "", false)
def tyX5 : Nat → FieldType := fun k => match k with
  | _ => .int
abbrev wsX50 : List Cond := u_ws RX5 TX5 0
theorem nmX5 : ∀ a, a < 0 → ∀ b, b < 0 → a ≠ b → (TX5 a).2.1 ≠ (TX5 b).2.1 := by decide +kernel
theorem tyX5_ok : ∀ k, k < 0 → parseFieldDescriptor (TX5 k).2.2.1 = some (tyX5 k) := by decide +kernel
abbrev cX5_firstFault : ByteArray := prog_7_method_2_code
def yX5_firstFault : MethodName := ⟨RX5, "firstFault", "(LTrickHouse$Sheet;II)I"⟩
abbrev cX5_build : ByteArray := prog_7_method_3_code
def yX5_build : MethodName := ⟨RX5, "build", "(LTrickHouse$House;LTrickHouse$Sheet;II)V"⟩
abbrev cX5_fill : ByteArray := prog_7_method_4_code
def yX5_fill : MethodName := ⟨RX5, "fill", "(LTrickHouse$Article;LTrickHouse$Sheet;I)V"⟩
abbrev cX5_roomsIn : ByteArray := prog_7_method_5_code
def yX5_roomsIn : MethodName := ⟨RX5, "roomsIn", "(LTrickHouse$Sheet;II)I"⟩
abbrev cX5_goesOn : ByteArray := prog_7_method_6_code
def yX5_goesOn : MethodName := ⟨RX5, "goesOn", "(III)Z"⟩
abbrev cX5_headGoesOn : ByteArray := prog_7_method_7_code
def yX5_headGoesOn : MethodName := ⟨RX5, "headGoesOn", "(II)Z"⟩
abbrev cX5_articleGoesOn : ByteArray := prog_7_method_8_code
def yX5_articleGoesOn : MethodName := ⟨RX5, "articleGoesOn", "(II)Z"⟩
abbrev cX5_kindOf : ByteArray := prog_7_method_9_code
def yX5_kindOf : MethodName := ⟨RX5, "kindOf", "(I)I"⟩
abbrev cX5_isDigit : ByteArray := prog_7_method_10_code
def yX5_isDigit : MethodName := ⟨RX5, "isDigit", "(III)Z"⟩
abbrev cX5_digit : ByteArray := prog_7_method_11_code
def yX5_digit : MethodName := ⟨RX5, "digit", "(LTrickHouse$Sheet;I)I"⟩
def RX6 : String := "TrickHouse$Year"
def TX6 : u_T := fun k => match k with
  | 0 => ("TrickHouse$Year", "house", "LTrickHouse$House;", true)
  | 1 => ("TrickHouse$Year", "present", "I", false)
  | 2 => ("TrickHouse$Year", "away", "I", false)
  | 3 => ("TrickHouse$Year", "greatest", "I", false)
  | _ => ("TrickHouse$Year", "wrong", "I", false)
def tyX6 : Nat → FieldType := fun k => match k with
  | 0 => .object "TrickHouse$House"
  | 1 => .int
  | 2 => .int
  | 3 => .int
  | _ => .int
abbrev wsX60 : List Cond := u_ws RX6 TX6 5
theorem nmX6 : ∀ a, a < 5 → ∀ b, b < 5 → a ≠ b → (TX6 a).2.1 ≠ (TX6 b).2.1 := by decide +kernel
theorem tyX6_ok : ∀ k, k < 5 → parseFieldDescriptor (TX6 k).2.2.1 = some (tyX6 k) := by decide +kernel
abbrev cX6_init : ByteArray := prog_8_method_1_code
def yX6_init : MethodName := ⟨RX6, "<init>", "(LTrickHouse$House;)V"⟩
abbrev cX6_refusalOf : ByteArray := prog_8_method_2_code
def yX6_refusalOf : MethodName := ⟨RX6, "refusalOf", "(LTrickHouse$Sheet;II)I"⟩
abbrev cX6_run : ByteArray := prog_8_method_3_code
def yX6_run : MethodName := ⟨RX6, "run", "(LTrickHouse$Sheet;II)V"⟩
abbrev cX6_go : ByteArray := prog_8_method_4_code
def yX6_go : MethodName := ⟨RX6, "go", "(I)V"⟩
abbrev cX6_answer : ByteArray := prog_8_method_5_code
def yX6_answer : MethodName := ⟨RX6, "answer", "(I)I"⟩
def RX7 : String := "TrickHouse"
def TX7 : u_T := fun k => match k with
  | 0 => ("TrickHouse", "house", "LTrickHouse$House;", true)
  | 1 => ("TrickHouse", "readings", "LTrickHouse$Readings;", true)
  | 2 => ("TrickHouse", "packing", "LTrickHouse$Packing;", true)
  | 3 => ("TrickHouse", "toldYear", "LTrickHouse$Year;", true)
  | 4 => ("TrickHouse", "sheets", "[LTrickHouse$Sheet;", true)
  | 5 => ("TrickHouse", "traced", "I", false)
  | _ => ("TrickHouse", "lastFault", "I", false)
def tyX7 : Nat → FieldType := fun k => match k with
  | 0 => .object "TrickHouse$House"
  | 1 => .object "TrickHouse$Readings"
  | 2 => .object "TrickHouse$Packing"
  | 3 => .object "TrickHouse$Year"
  | 4 => .array (.object "TrickHouse$Sheet")
  | 5 => .int
  | _ => .int
abbrev wsX70 : List Cond := u_ws RX7 TX7 7
theorem nmX7 : ∀ a, a < 7 → ∀ b, b < 7 → a ≠ b → (TX7 a).2.1 ≠ (TX7 b).2.1 := by decide +kernel
theorem tyX7_ok : ∀ k, k < 7 → parseFieldDescriptor (TX7 k).2.2.1 = some (tyX7 k) := by decide +kernel
abbrev cX7_init : ByteArray := prog_1_method_1_code
def yX7_init : MethodName := ⟨RX7, "<init>", "()V"⟩
abbrev cX7_city : ByteArray := prog_1_method_2_code
def yX7_city : MethodName := ⟨RX7, "city", "(IIII)I"⟩
abbrev cX7_ofArticle : ByteArray := prog_1_method_3_code
def yX7_ofArticle : MethodName := ⟨RX7, "ofArticle", "(II)I"⟩
abbrev cX7_space : ByteArray := prog_1_method_4_code
def yX7_space : MethodName := ⟨RX7, "space", "(I)I"⟩
abbrev cX7_cheer : ByteArray := prog_1_method_5_code
def yX7_cheer : MethodName := ⟨RX7, "cheer", "(II)I"⟩
abbrev cX7_miss : ByteArray := prog_1_method_6_code
def yX7_miss : MethodName := ⟨RX7, "miss", "(II)I"⟩
abbrev cX7_widen : ByteArray := prog_1_method_7_code
def yX7_widen : MethodName := ⟨RX7, "widen", "(II)I"⟩
abbrev cX7_shift : ByteArray := prog_1_method_8_code
def yX7_shift : MethodName := ⟨RX7, "shift", "(I)I"⟩
abbrev cX7_there : ByteArray := prog_1_method_9_code
def yX7_there : MethodName := ⟨RX7, "there", "()I"⟩
abbrev cX7_company : ByteArray := prog_1_method_10_code
def yX7_company : MethodName := ⟨RX7, "company", "(I)I"⟩
abbrev cX7_send : ByteArray := prog_1_method_11_code
def yX7_send : MethodName := ⟨RX7, "send", "(I)I"⟩
abbrev cX7_call : ByteArray := prog_1_method_12_code
def yX7_call : MethodName := ⟨RX7, "call", "(I)I"⟩
abbrev cX7_laughter : ByteArray := prog_1_method_13_code
def yX7_laughter : MethodName := ⟨RX7, "laughter", "()I"⟩
abbrev cX7_heard : ByteArray := prog_1_method_14_code
def yX7_heard : MethodName := ⟨RX7, "heard", "(I)I"⟩
abbrev cX7_year : ByteArray := prog_1_method_15_code
def yX7_year : MethodName := ⟨RX7, "year", "(IIIII)I"⟩
abbrev cX7_packs : ByteArray := prog_1_method_16_code
def yX7_packs : MethodName := ⟨RX7, "packs", "(II)I"⟩
abbrev cX7_fetch : ByteArray := prog_1_method_17_code
def yX7_fetch : MethodName := ⟨RX7, "fetch", "(I)I"⟩
abbrev cX7_lure : ByteArray := prog_1_method_18_code
def yX7_lure : MethodName := ⟨RX7, "lure", "(I)I"⟩
abbrev cX7_reading : ByteArray := prog_1_method_19_code
def yX7_reading : MethodName := ⟨RX7, "reading", "(II)I"⟩
abbrev cX7_back : ByteArray := prog_1_method_20_code
def yX7_back : MethodName := ⟨RX7, "back", "(I)I"⟩
abbrev cX7_gaieties : ByteArray := prog_1_method_21_code
def yX7_gaieties : MethodName := ⟨RX7, "gaieties", "(I)I"⟩
abbrev cX7_kinds : ByteArray := prog_1_method_22_code
def yX7_kinds : MethodName := ⟨RX7, "kinds", "(I)I"⟩
abbrev cX7_wheres : ByteArray := prog_1_method_23_code
def yX7_wheres : MethodName := ⟨RX7, "wheres", "(I)J"⟩
abbrev cX7_odds : ByteArray := prog_1_method_24_code
def yX7_odds : MethodName := ⟨RX7, "odds", "(II)J"⟩
abbrev cX7_sheet : ByteArray := prog_1_method_25_code
def yX7_sheet : MethodName := ⟨RX7, "sheet", "(III)I"⟩
abbrev cX7_lose : ByteArray := prog_1_method_26_code
def yX7_lose : MethodName := ⟨RX7, "lose", "(I)I"⟩
abbrev cX7_put : ByteArray := prog_1_method_27_code
def yX7_put : MethodName := ⟨RX7, "put", "(III)I"⟩
abbrev cX7_cell : ByteArray := prog_1_method_28_code
def yX7_cell : MethodName := ⟨RX7, "cell", "(III)J"⟩
abbrev cX7_copy : ByteArray := prog_1_method_29_code
def yX7_copy : MethodName := ⟨RX7, "copy", "(IIIII)I"⟩
abbrev cX7_tell : ByteArray := prog_1_method_30_code
def yX7_tell : MethodName := ⟨RX7, "tell", "(I)I"⟩
abbrev cX7_announce : ByteArray := prog_1_method_31_code
def yX7_announce : MethodName := ⟨RX7, "announce", "(I)I"⟩
abbrev cX7_as : ByteArray := prog_1_method_32_code
def yX7_as : MethodName := ⟨RX7, "as", "(II)I"⟩
abbrev cX7_trace : ByteArray := prog_1_method_33_code
def yX7_trace : MethodName := ⟨RX7, "trace", "()I"⟩
abbrev cX7_fault : ByteArray := prog_1_method_34_code
def yX7_fault : MethodName := ⟨RX7, "fault", "()I"⟩
abbrev cX7_many : ByteArray := prog_1_method_35_code
def yX7_many : MethodName := ⟨RX7, "many", "(I)I"⟩
abbrev cX7_tellAsThing : ByteArray := prog_1_method_36_code
def yX7_tellAsThing : MethodName := ⟨RX7, "tellAsThing", "(LTrickHouse$Article;)I"⟩
abbrev cX7_tellAsBeast : ByteArray := prog_1_method_37_code
def yX7_tellAsBeast : MethodName := ⟨RX7, "tellAsBeast", "(LTrickHouse$Article;)I"⟩
abbrev cX7_tellAsPerson : ByteArray := prog_1_method_38_code
def yX7_tellAsPerson : MethodName := ⟨RX7, "tellAsPerson", "(LTrickHouse$Article;)I"⟩
abbrev cX7_begin : ByteArray := prog_1_method_39_code
def yX7_begin : MethodName := ⟨RX7, "begin", "(I)V"⟩
abbrev cX7_failed : ByteArray := prog_1_method_40_code
def yX7_failed : MethodName := ⟨RX7, "failed", "(I)I"⟩
abbrev cX7_within : ByteArray := prog_1_method_41_code
def yX7_within : MethodName := ⟨RX7, "within", "(III)Z"⟩
abbrev cX7_has : ByteArray := prog_1_method_42_code
def yX7_has : MethodName := ⟨RX7, "has", "(II)Z"⟩
abbrev cX7_isSheet : ByteArray := prog_1_method_43_code
def yX7_isSheet : MethodName := ⟨RX7, "isSheet", "(I)Z"⟩
abbrev cX7_isLane : ByteArray := prog_1_method_44_code
def yX7_isLane : MethodName := ⟨RX7, "isLane", "(I)Z"⟩
abbrev cX7_isCorner : ByteArray := prog_1_method_45_code
def yX7_isCorner : MethodName := ⟨RX7, "isCorner", "(I)Z"⟩
abbrev cX7_carried : ByteArray := prog_1_method_46_code
def yX7_carried : MethodName := ⟨RX7, "carried", "(III)I"⟩
def RX8 : String := "TrickHouseModel"
def TX8 : u_T := fun k => match k with
  | 0 => ("TrickHouseModel", "fault", "I", false)
  | 1 => ("TrickHouseModel", "trace", "I", false)
  | 2 => ("TrickHouseModel", "sorts", "[I", true)
  | 3 => ("TrickHouseModel", "sheetLong", "[I", true)
  | 4 => ("TrickHouseModel", "cells", "[I", true)
  | 5 => ("TrickHouseModel", "stands", "I", false)
  | 6 => ("TrickHouseModel", "rooms", "I", false)
  | 7 => ("TrickHouseModel", "articles", "I", false)
  | 8 => ("TrickHouseModel", "thereNow", "I", false)
  | 9 => ("TrickHouseModel", "spaceOf", "[I", true)
  | 10 => ("TrickHouseModel", "kind", "[I", true)
  | 11 => ("TrickHouseModel", "bulk", "[I", true)
  | 12 => ("TrickHouseModel", "gaiety", "[I", true)
  | 13 => ("TrickHouseModel", "longing", "[I", true)
  | 14 => ("TrickHouseModel", "at", "I", false)
  | 15 => ("TrickHouseModel", "readStands", "I", false)
  | 16 => ("TrickHouseModel", "readRooms", "I", false)
  | 17 => ("TrickHouseModel", "readArticles", "I", false)
  | 18 => ("TrickHouseModel", "readSpace", "[I", true)
  | 19 => ("TrickHouseModel", "readKind", "[I", true)
  | 20 => ("TrickHouseModel", "readBulk", "[I", true)
  | 21 => ("TrickHouseModel", "readGaiety", "[I", true)
  | 22 => ("TrickHouseModel", "readLonging", "[I", true)
  | 23 => ("TrickHouseModel", "away", "I", false)
  | 24 => ("TrickHouseModel", "loudest", "I", false)
  | 25 => ("TrickHouseModel", "room", "[I", true)
  | 26 => ("TrickHouseModel", "firstRoom", "[I", true)
  | 27 => ("TrickHouseModel", "filled", "[I", true)
  | 28 => ("TrickHouseModel", "packed", "I", false)
  | 29 => ("TrickHouseModel", "readings", "I", false)
  | 30 => ("TrickHouseModel", "readCorner", "[I", true)
  | _ => ("TrickHouseModel", "readHeard", "[I", true)
def tyX8 : Nat → FieldType := fun k => match k with
  | 0 => .int
  | 1 => .int
  | 2 => .array .int
  | 3 => .array .int
  | 4 => .array .int
  | 5 => .int
  | 6 => .int
  | 7 => .int
  | 8 => .int
  | 9 => .array .int
  | 10 => .array .int
  | 11 => .array .int
  | 12 => .array .int
  | 13 => .array .int
  | 14 => .int
  | 15 => .int
  | 16 => .int
  | 17 => .int
  | 18 => .array .int
  | 19 => .array .int
  | 20 => .array .int
  | 21 => .array .int
  | 22 => .array .int
  | 23 => .int
  | 24 => .int
  | 25 => .array .int
  | 26 => .array .int
  | 27 => .array .int
  | 28 => .int
  | 29 => .int
  | 30 => .array .int
  | _ => .array .int
abbrev wsX80 : List Cond := u_ws RX8 TX8 32
theorem nmX8 : ∀ a, a < 32 → ∀ b, b < 32 → a ≠ b → (TX8 a).2.1 ≠ (TX8 b).2.1 := by decide +kernel
theorem tyX8_ok : ∀ k, k < 32 → parseFieldDescriptor (TX8 k).2.2.1 = some (tyX8 k) := by decide +kernel
abbrev cX8_init : ByteArray := prog_10_method_1_code
def yX8_init : MethodName := ⟨RX8, "<init>", "()V"⟩
abbrev cX8_fails : ByteArray := prog_10_method_3_code
def yX8_fails : MethodName := ⟨RX8, "fails", "(I)I"⟩
abbrev cX8_lost : ByteArray := prog_10_method_4_code
def yX8_lost : MethodName := ⟨RX8, "lost", "(I)J"⟩
abbrev cX8_within : ByteArray := prog_10_method_5_code
def yX8_within : MethodName := ⟨RX8, "within", "(III)Z"⟩
abbrev cX8_isSheet : ByteArray := prog_10_method_6_code
def yX8_isSheet : MethodName := ⟨RX8, "isSheet", "(I)Z"⟩
abbrev cX8_isSort : ByteArray := prog_10_method_7_code
def yX8_isSort : MethodName := ⟨RX8, "isSort", "(I)Z"⟩
abbrev cX8_against : ByteArray := prog_10_method_8_code
def yX8_against : MethodName := ⟨RX8, "against", "(IIII)I"⟩
abbrev cX8_isArticle : ByteArray := prog_10_method_9_code
def yX8_isArticle : MethodName := ⟨RX8, "isArticle", "(I)Z"⟩
abbrev cX8_isRoom : ByteArray := prog_10_method_10_code
def yX8_isRoom : MethodName := ⟨RX8, "isRoom", "(I)Z"⟩
abbrev cX8_isCorner : ByteArray := prog_10_method_11_code
def yX8_isCorner : MethodName := ⟨RX8, "isCorner", "(I)Z"⟩
abbrev cX8_isSet : ByteArray := prog_10_method_12_code
def yX8_isSet : MethodName := ⟨RX8, "isSet", "(I)Z"⟩
abbrev cX8_isOf : ByteArray := prog_10_method_13_code
def yX8_isOf : MethodName := ⟨RX8, "isOf", "(II)Z"⟩
abbrev cX8_digit : ByteArray := prog_10_method_14_code
def yX8_digit : MethodName := ⟨RX8, "digit", "(III)I"⟩
abbrev cX8_isSign : ByteArray := prog_10_method_15_code
def yX8_isSign : MethodName := ⟨RX8, "isSign", "(II)Z"⟩
abbrev cX8_city : ByteArray := prog_10_method_16_code
def yX8_city : MethodName := ⟨RX8, "city", "(IIII)I"⟩
abbrev cX8_takeCity : ByteArray := prog_10_method_17_code
def yX8_takeCity : MethodName := ⟨RX8, "takeCity", "()V"⟩
abbrev cX8_readCity : ByteArray := prog_10_method_18_code
def yX8_readCity : MethodName := ⟨RX8, "readCity", "(I)Z"⟩
abbrev cX8_readTheRooms : ByteArray := prog_10_method_19_code
def yX8_readTheRooms : MethodName := ⟨RX8, "readTheRooms", "(I)Z"⟩
abbrev cX8_readArticle : ByteArray := prog_10_method_20_code
def yX8_readArticle : MethodName := ⟨RX8, "readArticle", "(I)Z"⟩
abbrev cX8_laughOf : ByteArray := prog_10_method_21_code
def yX8_laughOf : MethodName := ⟨RX8, "laughOf", "(I)I"⟩
abbrev cX8_laughsOf : ByteArray := prog_10_method_22_code
def yX8_laughsOf : MethodName := ⟨RX8, "laughsOf", "(I)I"⟩
abbrev cX8_ofArticle : ByteArray := prog_10_method_23_code
def yX8_ofArticle : MethodName := ⟨RX8, "ofArticle", "(II)I"⟩
abbrev cX8_space : ByteArray := prog_10_method_24_code
def yX8_space : MethodName := ⟨RX8, "space", "(I)I"⟩
abbrev cX8_cheer : ByteArray := prog_10_method_25_code
def yX8_cheer : MethodName := ⟨RX8, "cheer", "(II)I"⟩
abbrev cX8_miss : ByteArray := prog_10_method_26_code
def yX8_miss : MethodName := ⟨RX8, "miss", "(II)I"⟩
abbrev cX8_widen : ByteArray := prog_10_method_27_code
def yX8_widen : MethodName := ⟨RX8, "widen", "(II)I"⟩
abbrev cX8_shift : ByteArray := prog_10_method_28_code
def yX8_shift : MethodName := ⟨RX8, "shift", "(I)I"⟩
abbrev cX8_companyOf : ByteArray := prog_10_method_29_code
def yX8_companyOf : MethodName := ⟨RX8, "companyOf", "(I)I"⟩
abbrev cX8_there : ByteArray := prog_10_method_30_code
def yX8_there : MethodName := ⟨RX8, "there", "()I"⟩
abbrev cX8_company : ByteArray := prog_10_method_31_code
def yX8_company : MethodName := ⟨RX8, "company", "(I)I"⟩
abbrev cX8_comes : ByteArray := prog_10_method_32_code
def yX8_comes : MethodName := ⟨RX8, "comes", "(I)I"⟩
abbrev cX8_send : ByteArray := prog_10_method_33_code
def yX8_send : MethodName := ⟨RX8, "send", "(I)I"⟩
abbrev cX8_call : ByteArray := prog_10_method_34_code
def yX8_call : MethodName := ⟨RX8, "call", "(I)I"⟩
abbrev cX8_laughter : ByteArray := prog_10_method_35_code
def yX8_laughter : MethodName := ⟨RX8, "laughter", "()I"⟩
abbrev cX8_apart : ByteArray := prog_10_method_36_code
def yX8_apart : MethodName := ⟨RX8, "apart", "(II)I"⟩
abbrev cX8_heardAt : ByteArray := prog_10_method_37_code
def yX8_heardAt : MethodName := ⟨RX8, "heardAt", "(I)I"⟩
abbrev cX8_heard : ByteArray := prog_10_method_38_code
def yX8_heard : MethodName := ⟨RX8, "heard", "(I)I"⟩
abbrev cX8_size : ByteArray := prog_10_method_39_code
def yX8_size : MethodName := ⟨RX8, "size", "(I)I"⟩
abbrev cX8_goYear : ByteArray := prog_10_method_40_code
def yX8_goYear : MethodName := ⟨RX8, "goYear", "(II)I"⟩
abbrev cX8_year : ByteArray := prog_10_method_41_code
def yX8_year : MethodName := ⟨RX8, "year", "(IIIII)I"⟩
abbrev cX8_tellYear : ByteArray := prog_10_method_42_code
def yX8_tellYear : MethodName := ⟨RX8, "tellYear", "(I)I"⟩
abbrev cX8_holds : ByteArray := prog_10_method_43_code
def yX8_holds : MethodName := ⟨RX8, "holds", "(II)Z"⟩
abbrev cX8_findPacks : ByteArray := prog_10_method_44_code
def yX8_findPacks : MethodName := ⟨RX8, "findPacks", "(I)V"⟩
abbrev cX8_packs : ByteArray := prog_10_method_45_code
def yX8_packs : MethodName := ⟨RX8, "packs", "(II)I"⟩
abbrev cX8_fewestFor : ByteArray := prog_10_method_46_code
def yX8_fewestFor : MethodName := ⟨RX8, "fewestFor", "(II)I"⟩
abbrev cX8_fetch : ByteArray := prog_10_method_47_code
def yX8_fetch : MethodName := ⟨RX8, "fetch", "(I)I"⟩
abbrev cX8_lure : ByteArray := prog_10_method_48_code
def yX8_lure : MethodName := ⟨RX8, "lure", "(I)I"⟩
abbrev cX8_reading : ByteArray := prog_10_method_49_code
def yX8_reading : MethodName := ⟨RX8, "reading", "(II)I"⟩
abbrev cX8_back : ByteArray := prog_10_method_50_code
def yX8_back : MethodName := ⟨RX8, "back", "(I)I"⟩
abbrev cX8_areSo : ByteArray := prog_10_method_51_code
def yX8_areSo : MethodName := ⟨RX8, "areSo", "()Z"⟩
abbrev cX8_gaieties : ByteArray := prog_10_method_52_code
def yX8_gaieties : MethodName := ⟨RX8, "gaieties", "(I)I"⟩
abbrev cX8_kinds : ByteArray := prog_10_method_53_code
def yX8_kinds : MethodName := ⟨RX8, "kinds", "(I)I"⟩
abbrev cX8_wheres : ByteArray := prog_10_method_54_code
def yX8_wheres : MethodName := ⟨RX8, "wheres", "(I)J"⟩
abbrev cX8_inLeastTerms : ByteArray := prog_10_method_55_code
def yX8_inLeastTerms : MethodName := ⟨RX8, "inLeastTerms", "(JJI)J"⟩
abbrev cX8_odds : ByteArray := prog_10_method_56_code
def yX8_odds : MethodName := ⟨RX8, "odds", "(II)J"⟩
abbrev cX8_sheet : ByteArray := prog_10_method_57_code
def yX8_sheet : MethodName := ⟨RX8, "sheet", "(III)I"⟩
abbrev cX8_lose : ByteArray := prog_10_method_58_code
def yX8_lose : MethodName := ⟨RX8, "lose", "(I)I"⟩
abbrev cX8_put : ByteArray := prog_10_method_59_code
def yX8_put : MethodName := ⟨RX8, "put", "(III)I"⟩
abbrev cX8_cell : ByteArray := prog_10_method_60_code
def yX8_cell : MethodName := ⟨RX8, "cell", "(III)J"⟩
abbrev cX8_copy : ByteArray := prog_10_method_61_code
def yX8_copy : MethodName := ⟨RX8, "copy", "(IIIII)I"⟩
abbrev cX8_begins : ByteArray := prog_10_method_62_code
def yX8_begins : MethodName := ⟨RX8, "begins", "(I)V"⟩
abbrev cX8_tell : ByteArray := prog_10_method_63_code
def yX8_tell : MethodName := ⟨RX8, "tell", "(I)I"⟩
abbrev cX8_announce : ByteArray := prog_10_method_64_code
def yX8_announce : MethodName := ⟨RX8, "announce", "(I)I"⟩
abbrev cX8_as : ByteArray := prog_10_method_65_code
def yX8_as : MethodName := ⟨RX8, "as", "(II)I"⟩
abbrev cX8_trace : ByteArray := prog_10_method_66_code
def yX8_trace : MethodName := ⟨RX8, "trace", "()I"⟩
abbrev cX8_fault : ByteArray := prog_10_method_67_code
def yX8_fault : MethodName := ⟨RX8, "fault", "()I"⟩
abbrev cX8_many : ByteArray := prog_10_method_68_code
def yX8_many : MethodName := ⟨RX8, "many", "(I)I"⟩
def RJ6 : String := "java/lang/Integer"
def TJ6 : u_T := fun k => match k with
  | _ => ("", "", "", false)
def tyJ6 : Nat → FieldType := fun k => match k with
  | _ => .int
abbrev wsJ60 : List Cond := u_ws RJ6 TJ6 0
theorem nmJ6 : ∀ a, a < 0 → ∀ b, b < 0 → a ≠ b → (TJ6 a).2.1 ≠ (TJ6 b).2.1 := by decide +kernel
theorem tyJ6_ok : ∀ k, k < 0 → parseFieldDescriptor (TJ6 k).2.2.1 = some (tyJ6 k) := by decide +kernel
abbrev cJ6_bitCount_0f7a4 : ByteArray := prog_11_method_49_code
def yJ6_bitCount_0f7a4 : MethodName := ⟨RJ6, "bitCount", "(I)I"⟩
def RJ9 : String := "java/lang/Math"
def TJ9 : u_T := fun k => match k with
  | _ => ("", "", "", false)
def tyJ9 : Nat → FieldType := fun k => match k with
  | _ => .int
abbrev wsJ90 : List Cond := u_ws RJ9 TJ9 0
theorem nmJ9 : ∀ a, a < 0 → ∀ b, b < 0 → a ≠ b → (TJ9 a).2.1 ≠ (TJ9 b).2.1 := by decide +kernel
theorem tyJ9_ok : ∀ k, k < 0 → parseFieldDescriptor (TJ9 k).2.2.1 = some (tyJ9 k) := by decide +kernel
abbrev cJ9_abs_0f7a4 : ByteArray := prog_12_method_59_code
def yJ9_abs_0f7a4 : MethodName := ⟨RJ9, "abs", "(I)I"⟩
abbrev cJ9_max_7cf53 : ByteArray := prog_12_method_65_code
def yJ9_max_7cf53 : MethodName := ⟨RJ9, "max", "(II)I"⟩
abbrev cJ9_min_7cf53 : ByteArray := prog_12_method_69_code
def yJ9_min_7cf53 : MethodName := ⟨RJ9, "min", "(II)I"⟩
def RJ10 : String := "java/lang/System"
def TJ10 : u_T := fun k => match k with
  | _ => ("", "", "", false)
def tyJ10 : Nat → FieldType := fun k => match k with
  | _ => .int
abbrev wsJ100 : List Cond := u_ws RJ10 TJ10 0
theorem nmJ10 : ∀ a, a < 0 → ∀ b, b < 0 → a ≠ b → (TJ10 a).2.1 ≠ (TJ10 b).2.1 := by decide +kernel
theorem tyJ10_ok : ∀ k, k < 0 → parseFieldDescriptor (TJ10 k).2.2.1 = some (tyJ10 k) := by decide +kernel
def RL : String := "TrickHouseLaw"
abbrev cL_law : ByteArray := code
def yL_law : MethodName := ⟨RL, "law", "([I)Z"⟩
def wsX0_init : List Cond := .code yX0_init cX0_init 1 none :: ([.methodLink RX0 3 objectInit, .instanceMethod objectInit, .code objectInit ⟨#[0xb1]⟩ 1 none])
def wsX0_laughOfKind : List Cond := .code yX0_laughOfKind cX0_laughOfKind 2 (some .int) :: ([.methodLink RX0 22 Lib.Math.max.name, .static Lib.Math.max.name, .initialized "java/lang/Math", .code Lib.Math.max.name Lib.Math.max.code 2 (some .int)])
def wsX0_laugh : List Cond := .code yX0_laugh cX0_laugh 1 (some .int) :: ([.fieldLink RX0 9 "TrickHouse$Article" "kind" "I", .fieldLink RX0 15 "TrickHouse$Article" "gaiety" "I", .methodLink RX0 18 yX0_laughOfKind, .static yX0_laughOfKind, .initialized RX0, .code yX0_laughOfKind cX0_laughOfKind 2 (some .int), .methodLink RX0 22 Lib.Math.max.name, .static Lib.Math.max.name, .initialized "java/lang/Math", .code Lib.Math.max.name Lib.Math.max.code 2 (some .int)] ++ wsX00)
def wsX1_init : List Cond := .code yX1_init cX1_init 2 none :: ([.methodLink RX1 3 objectInit, .instanceMethod objectInit, .code objectInit ⟨#[0xb1]⟩ 1 none, .classLink RX1 9 RX0, .fieldLink RX1 11 "TrickHouse$House" "articles" "[LTrickHouse$Article;", .instantiable RX0 4, .initialized RX0, .arrayClass .int, .fieldLink RX1 18 "TrickHouse$House" "spaces" "[I", .instanceMethod yX0_init, .code yX0_init cX0_init 1 none, .methodLink RX0 3 objectInit] ++ wsX10 ++ wsX00)
def wsX1_stands : List Cond := .code yX1_stands cX1_stands 1 (some .boolean) :: ([.fieldLink RX1 22 "TrickHouse$House" "articleCount" "I"] ++ wsX10)
def wsX1_isArticle : List Cond := .code yX1_isArticle cX1_isArticle 2 (some .boolean) :: ([.fieldLink RX1 22 "TrickHouse$House" "articleCount" "I"] ++ wsX10)
def wsX1_isRoom : List Cond := .code yX1_isRoom cX1_isRoom 2 (some .boolean) :: ([.fieldLink RX1 26 "TrickHouse$House" "roomCount" "I"] ++ wsX10)
def wsX1_isSet : List Cond := .code yX1_isSet cX1_isSet 2 (some .boolean) :: ([.fieldLink RX1 22 "TrickHouse$House" "articleCount" "I"] ++ wsX10)
def wsX7_has : List Cond := .code yX7_has cX7_has 2 (some .boolean) :: ([])
def wsX1_laughOf : List Cond := .code yX1_laughOf cX1_laughOf 4 (some .int) :: ([.fieldLink RX1 22 "TrickHouse$House" "articleCount" "I", .fieldLink RX1 11 "TrickHouse$House" "articles" "[LTrickHouse$Article;", .static yX7_has, .initialized RX7, .code yX7_has cX7_has 2 (some .boolean), .methodLink RX1 33 yX0_laugh, .instanceMethod yX0_laugh, .selects RX0 yX0_laugh yX0_laugh, .initialized RX0, .code yX0_laugh cX0_laugh 1 (some .int), .fieldLink RX0 9 "TrickHouse$Article" "kind" "I", .fieldLink RX0 15 "TrickHouse$Article" "gaiety" "I", .methodLink RX0 18 yX0_laughOfKind, .static yX0_laughOfKind, .code yX0_laughOfKind cX0_laughOfKind 2 (some .int), .methodLink RX0 22 Lib.Math.max.name, .static Lib.Math.max.name, .initialized "java/lang/Math", .code Lib.Math.max.name Lib.Math.max.code 2 (some .int)] ++ wsX10 ++ wsX00)
def wsX1_laughIf_r1 : List Cond := [Cond.fieldLink RX1 37 "TrickHouse$House" "present" "I", Cond.methodLink RX1 40 yX1_laughOf, Cond.instanceMethod yX1_laughOf, Cond.selects RX1 yX1_laughOf yX1_laughOf, Cond.initialized RX1, Cond.code yX1_laughOf cX1_laughOf 4 (some .int), Cond.fieldLink RX1 22 "TrickHouse$House" "articleCount" "I", Cond.fieldLink RX1 11 "TrickHouse$House" "articles" "[LTrickHouse$Article;", Cond.static yX7_has, Cond.initialized RX7, Cond.code yX7_has cX7_has 2 (some .boolean), Cond.methodLink RX1 33 yX0_laugh, Cond.instanceMethod yX0_laugh, Cond.selects RX0 yX0_laugh yX0_laugh, Cond.initialized RX0, Cond.code yX0_laugh cX0_laugh 1 (some .int), Cond.fieldLink RX0 9 "TrickHouse$Article" "kind" "I", Cond.fieldLink RX0 15 "TrickHouse$Article" "gaiety" "I", Cond.methodLink RX0 18 yX0_laughOfKind, Cond.static yX0_laughOfKind, Cond.code yX0_laughOfKind cX0_laughOfKind 2 (some .int), Cond.methodLink RX0 22 Lib.Math.max.name, Cond.static Lib.Math.max.name, Cond.initialized "java/lang/Math"]
def wsX1_laughIf_r2 : List Cond := [Cond.code Lib.Math.max.name Lib.Math.max.code 2 (some .int), Cond.methodLink RX1 44 yX0_laughOfKind]
def wsX1_laughIf : List Cond := .code yX1_laughIf cX1_laughIf 5 (some .int) :: ((wsX1_laughIf_r1 ++ wsX1_laughIf_r2) ++ wsX10 ++ wsX00)
def wsX1_leaversOf_r1 : List Cond := [Cond.fieldLink RX1 22 "TrickHouse$House" "articleCount" "I", Cond.fieldLink RX1 11 "TrickHouse$House" "articles" "[LTrickHouse$Article;", Cond.fieldLink RX1 51 "TrickHouse$Article" "longing" "I", Cond.methodLink RX1 40 yX1_laughOf, Cond.instanceMethod yX1_laughOf, Cond.selects RX1 yX1_laughOf yX1_laughOf, Cond.initialized RX1, Cond.code yX1_laughOf cX1_laughOf 4 (some .int), Cond.static yX7_has, Cond.initialized RX7, Cond.code yX7_has cX7_has 2 (some .boolean), Cond.methodLink RX1 33 yX0_laugh, Cond.instanceMethod yX0_laugh, Cond.selects RX0 yX0_laugh yX0_laugh, Cond.initialized RX0, Cond.code yX0_laugh cX0_laugh 1 (some .int), Cond.fieldLink RX0 9 "TrickHouse$Article" "kind" "I", Cond.fieldLink RX0 15 "TrickHouse$Article" "gaiety" "I", Cond.methodLink RX0 18 yX0_laughOfKind, Cond.static yX0_laughOfKind, Cond.code yX0_laughOfKind cX0_laughOfKind 2 (some .int), Cond.methodLink RX0 22 Lib.Math.max.name, Cond.static Lib.Math.max.name, Cond.initialized "java/lang/Math"]
def wsX1_leaversOf_r2 : List Cond := [Cond.code Lib.Math.max.name Lib.Math.max.code 2 (some .int)]
def wsX1_leaversOf : List Cond := .code yX1_leaversOf cX1_leaversOf 5 (some .int) :: ((wsX1_leaversOf_r1 ++ wsX1_leaversOf_r2) ++ wsX10 ++ wsX00)
def wsX1_companyOf_r1 : List Cond := [Cond.methodLink RX1 48 yX1_leaversOf, Cond.instanceMethod yX1_leaversOf, Cond.selects RX1 yX1_leaversOf yX1_leaversOf, Cond.initialized RX1, Cond.code yX1_leaversOf cX1_leaversOf 5 (some .int), Cond.fieldLink RX1 22 "TrickHouse$House" "articleCount" "I", Cond.fieldLink RX1 11 "TrickHouse$House" "articles" "[LTrickHouse$Article;", Cond.fieldLink RX1 51 "TrickHouse$Article" "longing" "I", Cond.methodLink RX1 40 yX1_laughOf, Cond.instanceMethod yX1_laughOf, Cond.selects RX1 yX1_laughOf yX1_laughOf, Cond.code yX1_laughOf cX1_laughOf 4 (some .int), Cond.static yX7_has, Cond.initialized RX7, Cond.code yX7_has cX7_has 2 (some .boolean), Cond.methodLink RX1 33 yX0_laugh, Cond.instanceMethod yX0_laugh, Cond.selects RX0 yX0_laugh yX0_laugh, Cond.initialized RX0, Cond.code yX0_laugh cX0_laugh 1 (some .int), Cond.fieldLink RX0 9 "TrickHouse$Article" "kind" "I", Cond.fieldLink RX0 15 "TrickHouse$Article" "gaiety" "I", Cond.methodLink RX0 18 yX0_laughOfKind, Cond.static yX0_laughOfKind]
def wsX1_companyOf_r2 : List Cond := [Cond.code yX0_laughOfKind cX0_laughOfKind 2 (some .int), Cond.methodLink RX0 22 Lib.Math.max.name, Cond.static Lib.Math.max.name, Cond.initialized "java/lang/Math", Cond.code Lib.Math.max.name Lib.Math.max.code 2 (some .int)]
def wsX1_companyOf : List Cond := .code yX1_companyOf cX1_companyOf 5 (some .int) :: ((wsX1_companyOf_r1 ++ wsX1_companyOf_r2) ++ wsX10 ++ wsX00)
def wsX1_keepCompanyOf_r1 : List Cond := [Cond.fieldLink RX1 37 "TrickHouse$House" "present" "I", Cond.methodLink RX1 54 yX1_companyOf, Cond.instanceMethod yX1_companyOf, Cond.selects RX1 yX1_companyOf yX1_companyOf, Cond.initialized RX1, Cond.code yX1_companyOf cX1_companyOf 5 (some .int), Cond.methodLink RX1 48 yX1_leaversOf, Cond.instanceMethod yX1_leaversOf, Cond.selects RX1 yX1_leaversOf yX1_leaversOf, Cond.code yX1_leaversOf cX1_leaversOf 5 (some .int), Cond.fieldLink RX1 22 "TrickHouse$House" "articleCount" "I", Cond.fieldLink RX1 11 "TrickHouse$House" "articles" "[LTrickHouse$Article;", Cond.fieldLink RX1 51 "TrickHouse$Article" "longing" "I", Cond.methodLink RX1 40 yX1_laughOf, Cond.instanceMethod yX1_laughOf, Cond.selects RX1 yX1_laughOf yX1_laughOf, Cond.code yX1_laughOf cX1_laughOf 4 (some .int), Cond.static yX7_has, Cond.initialized RX7, Cond.code yX7_has cX7_has 2 (some .boolean), Cond.methodLink RX1 33 yX0_laugh, Cond.instanceMethod yX0_laugh, Cond.selects RX0 yX0_laugh yX0_laugh, Cond.initialized RX0]
def wsX1_keepCompanyOf_r2 : List Cond := [Cond.code yX0_laugh cX0_laugh 1 (some .int), Cond.fieldLink RX0 9 "TrickHouse$Article" "kind" "I", Cond.fieldLink RX0 15 "TrickHouse$Article" "gaiety" "I", Cond.methodLink RX0 18 yX0_laughOfKind, Cond.static yX0_laughOfKind, Cond.code yX0_laughOfKind cX0_laughOfKind 2 (some .int), Cond.methodLink RX0 22 Lib.Math.max.name, Cond.static Lib.Math.max.name, Cond.initialized "java/lang/Math", Cond.code Lib.Math.max.name Lib.Math.max.code 2 (some .int)]
def wsX1_keepCompanyOf : List Cond := .code yX1_keepCompanyOf cX1_keepCompanyOf 2 (some .int) :: ((wsX1_keepCompanyOf_r1 ++ wsX1_keepCompanyOf_r2) ++ wsX10 ++ wsX00)
def wsJ6_bitCount_0f7a4 : List Cond := .code yJ6_bitCount_0f7a4 cJ6_bitCount_0f7a4 1 (some .int) :: ([.constant RJ6 265 (1431655765), .constant RJ6 266 (858993459), .constant RJ6 267 (252645135)])
def wsX1_fewestCalls_r1 : List Cond := [Cond.fieldLink RX1 37 "TrickHouse$House" "present" "I", Cond.methodLink RX1 57 yJ6_bitCount_0f7a4, Cond.static yJ6_bitCount_0f7a4, Cond.initialized RJ6, Cond.code yJ6_bitCount_0f7a4 cJ6_bitCount_0f7a4 1 (some .int), Cond.constant RJ6 265 (1431655765), Cond.constant RJ6 266 (858993459), Cond.constant RJ6 267 (252645135), Cond.methodLink RX1 54 yX1_companyOf, Cond.instanceMethod yX1_companyOf, Cond.selects RX1 yX1_companyOf yX1_companyOf, Cond.initialized RX1, Cond.code yX1_companyOf cX1_companyOf 5 (some .int), Cond.methodLink RX1 48 yX1_leaversOf, Cond.instanceMethod yX1_leaversOf, Cond.selects RX1 yX1_leaversOf yX1_leaversOf, Cond.code yX1_leaversOf cX1_leaversOf 5 (some .int), Cond.fieldLink RX1 22 "TrickHouse$House" "articleCount" "I", Cond.fieldLink RX1 11 "TrickHouse$House" "articles" "[LTrickHouse$Article;", Cond.fieldLink RX1 51 "TrickHouse$Article" "longing" "I", Cond.methodLink RX1 40 yX1_laughOf, Cond.instanceMethod yX1_laughOf, Cond.selects RX1 yX1_laughOf yX1_laughOf, Cond.code yX1_laughOf cX1_laughOf 4 (some .int)]
def wsX1_fewestCalls_r2 : List Cond := [Cond.static yX7_has, Cond.initialized RX7, Cond.code yX7_has cX7_has 2 (some .boolean), Cond.methodLink RX1 33 yX0_laugh, Cond.instanceMethod yX0_laugh, Cond.selects RX0 yX0_laugh yX0_laugh, Cond.initialized RX0, Cond.code yX0_laugh cX0_laugh 1 (some .int), Cond.fieldLink RX0 9 "TrickHouse$Article" "kind" "I", Cond.fieldLink RX0 15 "TrickHouse$Article" "gaiety" "I", Cond.methodLink RX0 18 yX0_laughOfKind, Cond.static yX0_laughOfKind, Cond.code yX0_laughOfKind cX0_laughOfKind 2 (some .int), Cond.methodLink RX0 22 Lib.Math.max.name, Cond.static Lib.Math.max.name, Cond.initialized "java/lang/Math", Cond.code Lib.Math.max.name Lib.Math.max.code 2 (some .int)]
def wsX1_fewestCalls : List Cond := .code yX1_fewestCalls cX1_fewestCalls 7 (some .int) :: ((wsX1_fewestCalls_r1 ++ wsX1_fewestCalls_r2) ++ wsX10 ++ wsX00)
def wsX1_setsThatLeave_r1 : List Cond := [Cond.fieldLink RX1 37 "TrickHouse$House" "present" "I", Cond.methodLink RX1 54 yX1_companyOf, Cond.instanceMethod yX1_companyOf, Cond.selects RX1 yX1_companyOf yX1_companyOf, Cond.initialized RX1, Cond.code yX1_companyOf cX1_companyOf 5 (some .int), Cond.methodLink RX1 48 yX1_leaversOf, Cond.instanceMethod yX1_leaversOf, Cond.selects RX1 yX1_leaversOf yX1_leaversOf, Cond.code yX1_leaversOf cX1_leaversOf 5 (some .int), Cond.fieldLink RX1 22 "TrickHouse$House" "articleCount" "I", Cond.fieldLink RX1 11 "TrickHouse$House" "articles" "[LTrickHouse$Article;", Cond.fieldLink RX1 51 "TrickHouse$Article" "longing" "I", Cond.methodLink RX1 40 yX1_laughOf, Cond.instanceMethod yX1_laughOf, Cond.selects RX1 yX1_laughOf yX1_laughOf, Cond.code yX1_laughOf cX1_laughOf 4 (some .int), Cond.static yX7_has, Cond.initialized RX7, Cond.code yX7_has cX7_has 2 (some .boolean), Cond.methodLink RX1 33 yX0_laugh, Cond.instanceMethod yX0_laugh, Cond.selects RX0 yX0_laugh yX0_laugh, Cond.initialized RX0]
def wsX1_setsThatLeave_r2 : List Cond := [Cond.code yX0_laugh cX0_laugh 1 (some .int), Cond.fieldLink RX0 9 "TrickHouse$Article" "kind" "I", Cond.fieldLink RX0 15 "TrickHouse$Article" "gaiety" "I", Cond.methodLink RX0 18 yX0_laughOfKind, Cond.static yX0_laughOfKind, Cond.code yX0_laughOfKind cX0_laughOfKind 2 (some .int), Cond.methodLink RX0 22 Lib.Math.max.name, Cond.static Lib.Math.max.name, Cond.initialized "java/lang/Math", Cond.code Lib.Math.max.name Lib.Math.max.code 2 (some .int)]
def wsX1_setsThatLeave : List Cond := .code yX1_setsThatLeave cX1_setsThatLeave 4 (some .int) :: ((wsX1_setsThatLeave_r1 ++ wsX1_setsThatLeave_r2) ++ wsX10 ++ wsX00)
def wsX2_init : List Cond := .code yX2_init cX2_init 2 none :: ([.methodLink RX2 3 objectInit, .instanceMethod objectInit, .code objectInit ⟨#[0xb1]⟩ 1 none, .fieldLink RX2 9 "TrickHouse$Packing" "house" "LTrickHouse$House;", .arrayClass .int, .fieldLink RX2 15 "TrickHouse$Packing" "loads" "[I", .fieldLink RX2 19 "TrickHouse$Packing" "tried" "[I", .fieldLink RX2 22 "TrickHouse$Packing" "first" "[I"] ++ wsX20)
def wsX2_countWay : List Cond := .code yX2_countWay cX2_countWay 2 none :: ([.fieldLink RX2 25 "TrickHouse$Packing" "ways" "I", .fieldLink RX2 22 "TrickHouse$Packing" "first" "[I", .fieldLink RX2 19 "TrickHouse$Packing" "tried" "[I"] ++ wsX20)
def wsX2_placeFrom_r1 : List Cond := [Cond.fieldLink RX2 9 "TrickHouse$Packing" "house" "LTrickHouse$House;", Cond.fieldLink RX2 46 "TrickHouse$House" "articles" "[LTrickHouse$Article;", Cond.fieldLink RX2 50 "TrickHouse$Article" "bulk" "I", Cond.fieldLink RX2 55 "TrickHouse$House" "roomCount" "I", Cond.fieldLink RX2 15 "TrickHouse$Packing" "loads" "[I", Cond.fieldLink RX2 58 "TrickHouse$House" "spaces" "[I", Cond.fieldLink RX2 19 "TrickHouse$Packing" "tried" "[I", Cond.methodLink RX2 33 yX1_isArticle, Cond.instanceMethod yX1_isArticle, Cond.selects RX1 yX1_isArticle yX1_isArticle, Cond.initialized RX1, Cond.code yX1_isArticle cX1_isArticle 2 (some .boolean), Cond.fieldLink RX1 22 "TrickHouse$House" "articleCount" "I", Cond.methodLink RX2 39 yX2_countWay, Cond.instanceMethod yX2_countWay, Cond.selects RX2 yX2_countWay yX2_countWay, Cond.initialized RX2, Cond.code yX2_countWay cX2_countWay 2 none, Cond.fieldLink RX2 25 "TrickHouse$Packing" "ways" "I", Cond.fieldLink RX2 22 "TrickHouse$Packing" "first" "[I", Cond.static yX7_has, Cond.initialized RX7, Cond.code yX7_has cX7_has 2 (some .boolean), Cond.methodLink RX2 29 yX2_placeFrom]
def wsX2_placeFrom_r2 : List Cond := [Cond.instanceMethod yX2_placeFrom, Cond.selects RX2 yX2_placeFrom yX2_placeFrom]
def wsX2_placeFrom : List Cond := .code yX2_placeFrom cX2_placeFrom 5 none :: ((wsX2_placeFrom_r1 ++ wsX2_placeFrom_r2) ++ wsX20 ++ wsX10 ++ wsX00)
def wsX2_pack_r1 : List Cond := [Cond.fieldLink RX2 25 "TrickHouse$Packing" "ways" "I", Cond.fieldLink RX2 15 "TrickHouse$Packing" "loads" "[I", Cond.fieldLink RX2 19 "TrickHouse$Packing" "tried" "[I", Cond.fieldLink RX2 22 "TrickHouse$Packing" "first" "[I", Cond.methodLink RX2 29 yX2_placeFrom, Cond.instanceMethod yX2_placeFrom, Cond.selects RX2 yX2_placeFrom yX2_placeFrom, Cond.initialized RX2, Cond.code yX2_placeFrom cX2_placeFrom 5 none, Cond.fieldLink RX2 9 "TrickHouse$Packing" "house" "LTrickHouse$House;", Cond.fieldLink RX2 46 "TrickHouse$House" "articles" "[LTrickHouse$Article;", Cond.fieldLink RX2 50 "TrickHouse$Article" "bulk" "I", Cond.fieldLink RX2 55 "TrickHouse$House" "roomCount" "I", Cond.fieldLink RX2 58 "TrickHouse$House" "spaces" "[I", Cond.methodLink RX2 33 yX1_isArticle, Cond.instanceMethod yX1_isArticle, Cond.selects RX1 yX1_isArticle yX1_isArticle, Cond.initialized RX1, Cond.code yX1_isArticle cX1_isArticle 2 (some .boolean), Cond.fieldLink RX1 22 "TrickHouse$House" "articleCount" "I", Cond.methodLink RX2 39 yX2_countWay, Cond.instanceMethod yX2_countWay, Cond.selects RX2 yX2_countWay yX2_countWay, Cond.code yX2_countWay cX2_countWay 2 none]
def wsX2_pack_r2 : List Cond := [Cond.static yX7_has, Cond.initialized RX7, Cond.code yX7_has cX7_has 2 (some .boolean)]
def wsX2_pack : List Cond := .code yX2_pack cX2_pack 3 none :: ((wsX2_pack_r1 ++ wsX2_pack_r2) ++ wsX20 ++ wsX10 ++ wsX00)
def wsX3_init : List Cond := .code yX3_init cX3_init 1 none :: ([.methodLink RX3 3 objectInit, .instanceMethod objectInit, .code objectInit ⟨#[0xb1]⟩ 1 none, .arrayClass .int, .fieldLink RX3 9 "TrickHouse$Readings" "corners" "[I", .fieldLink RX3 15 "TrickHouse$Readings" "values" "[I"] ++ wsX30)
def wsX3_add : List Cond := .code yX3_add cX3_add 3 (some .int) :: ([.fieldLink RX3 18 "TrickHouse$Readings" "count" "I", .fieldLink RX3 9 "TrickHouse$Readings" "corners" "[I", .fieldLink RX3 15 "TrickHouse$Readings" "values" "[I"] ++ wsX30)
def wsX7_carried : List Cond := .code yX7_carried cX7_carried 5 (some .int) :: ([.methodLink RX7 244 Lib.Math.abs.name, .static Lib.Math.abs.name, .initialized "java/lang/Math", .code Lib.Math.abs.name Lib.Math.abs.code 1 (some .int), .methodLink RX7 249 Lib.Math.max.name, .static Lib.Math.max.name, .code Lib.Math.max.name Lib.Math.max.code 2 (some .int)])
def wsX3_allAreSo : List Cond := .code yX3_allAreSo cX3_allAreSo 4 (some .boolean) :: ([.fieldLink RX3 18 "TrickHouse$Readings" "count" "I", .fieldLink RX3 9 "TrickHouse$Readings" "corners" "[I", .fieldLink RX3 15 "TrickHouse$Readings" "values" "[I", .static yX7_carried, .initialized RX7, .code yX7_carried cX7_carried 5 (some .int), .methodLink RX7 244 Lib.Math.abs.name, .static Lib.Math.abs.name, .initialized "java/lang/Math", .code Lib.Math.abs.name Lib.Math.abs.code 1 (some .int), .methodLink RX7 249 Lib.Math.max.name, .static Lib.Math.max.name, .code Lib.Math.max.name Lib.Math.max.code 2 (some .int)] ++ wsX30)
def wsX4_init : List Cond := .code yX4_init cX4_init 1 none :: ([.methodLink RX4 3 objectInit, .instanceMethod objectInit, .code objectInit ⟨#[0xb1]⟩ 1 none, .arrayClass .int, .fieldLink RX4 9 "TrickHouse$Sheet" "cells" "[I", .fieldLink RX4 15 "TrickHouse$Sheet" "lane" "I", .fieldLink RX4 19 "TrickHouse$Sheet" "size" "I"] ++ wsX40)
def wsX4_hasNothing : List Cond := .code yX4_hasNothing cX4_hasNothing 1 (some .boolean) :: ([.fieldLink RX4 15 "TrickHouse$Sheet" "lane" "I"] ++ wsX40)
def wsX4_clear : List Cond := .code yX4_clear cX4_clear 1 none :: ([.fieldLink RX4 15 "TrickHouse$Sheet" "lane" "I", .fieldLink RX4 19 "TrickHouse$Sheet" "size" "I"] ++ wsX40)
def wsX4_renew : List Cond := .code yX4_renew cX4_renew 4 none :: ([.fieldLink RX4 15 "TrickHouse$Sheet" "lane" "I", .methodLink RX4 22 Lib.Math.min.name, .static Lib.Math.min.name, .initialized "java/lang/Math", .code Lib.Math.min.name Lib.Math.min.code 2 (some .int), .methodLink RX4 28 Lib.Math.max.name, .static Lib.Math.max.name, .code Lib.Math.max.name Lib.Math.max.code 2 (some .int), .fieldLink RX4 19 "TrickHouse$Sheet" "size" "I", .fieldLink RX4 9 "TrickHouse$Sheet" "cells" "[I"] ++ wsX40)
def wsX4_holds : List Cond := .code yX4_holds cX4_holds 3 (some .boolean) :: ([.fieldLink RX4 19 "TrickHouse$Sheet" "size" "I"] ++ wsX40)
def wsX4_faultOfTaking : List Cond := .code yX4_faultOfTaking cX4_faultOfTaking 4 (some .int) :: ([.fieldLink RX4 15 "TrickHouse$Sheet" "lane" "I", .methodLink RX4 31 yX4_hasNothing, .instanceMethod yX4_hasNothing, .selects RX4 yX4_hasNothing yX4_hasNothing, .initialized RX4, .code yX4_hasNothing cX4_hasNothing 1 (some .boolean), .methodLink RX4 35 yX4_holds, .instanceMethod yX4_holds, .selects RX4 yX4_holds yX4_holds, .code yX4_holds cX4_holds 3 (some .boolean), .fieldLink RX4 19 "TrickHouse$Sheet" "size" "I"] ++ wsX40)
def wsX4_at : List Cond := .code yX4_at cX4_at 2 (some .int) :: ([.fieldLink RX4 19 "TrickHouse$Sheet" "size" "I", .fieldLink RX4 9 "TrickHouse$Sheet" "cells" "[I"] ++ wsX40)
def wsX4_cut : List Cond := .code yX4_cut cX4_cut 2 (some .int) :: ([.fieldLink RX4 15 "TrickHouse$Sheet" "lane" "I"] ++ wsX40)
def wsX4_write : List Cond := .code yX4_write cX4_write 3 none :: ([.fieldLink RX4 19 "TrickHouse$Sheet" "size" "I", .fieldLink RX4 9 "TrickHouse$Sheet" "cells" "[I", .methodLink RX4 39 yX4_cut, .instanceMethod yX4_cut, .selects RX4 yX4_cut yX4_cut, .initialized RX4, .code yX4_cut cX4_cut 2 (some .int), .fieldLink RX4 15 "TrickHouse$Sheet" "lane" "I"] ++ wsX40)
def wsX7_within : List Cond := .code yX7_within cX7_within 3 (some .boolean) :: ([])
def wsX5_isDigit : List Cond := .code yX5_isDigit cX5_isDigit 3 (some .boolean) :: ([.static yX7_within, .initialized RX7, .code yX7_within cX7_within 3 (some .boolean)])
def wsX5_roomsIn : List Cond := .code yX5_roomsIn cX5_roomsIn 5 (some .int) :: ([.methodLink RX5 42 Lib.Math.min.name, .static Lib.Math.min.name, .initialized "java/lang/Math", .code Lib.Math.min.name Lib.Math.min.code 2 (some .int), .methodLink RX5 82 Lib.Math.max.name, .static Lib.Math.max.name, .code Lib.Math.max.name Lib.Math.max.code 2 (some .int), .methodLink RX5 15 yX4_at, .instanceMethod yX4_at, .selects RX4 yX4_at yX4_at, .initialized RX4, .code yX4_at cX4_at 2 (some .int), .fieldLink RX4 19 "TrickHouse$Sheet" "size" "I", .fieldLink RX4 9 "TrickHouse$Sheet" "cells" "[I", .methodLink RX5 79 yX5_isDigit, .static yX5_isDigit, .initialized RX5, .code yX5_isDigit cX5_isDigit 3 (some .boolean), .static yX7_within, .initialized RX7, .code yX7_within cX7_within 3 (some .boolean)] ++ wsX40)
def wsX5_headGoesOn : List Cond := .code yX5_headGoesOn cX5_headGoesOn 2 (some .boolean) :: ([.methodLink RX5 79 yX5_isDigit, .static yX5_isDigit, .initialized RX5, .code yX5_isDigit cX5_isDigit 3 (some .boolean), .static yX7_within, .initialized RX7, .code yX7_within cX7_within 3 (some .boolean)])
def wsX5_kindOf : List Cond := .code yX5_kindOf cX5_kindOf 1 (some .int) :: ([])
def wsX5_articleGoesOn : List Cond := .code yX5_articleGoesOn cX5_articleGoesOn 2 (some .boolean) :: ([.methodLink RX5 62 yX5_kindOf, .static yX5_kindOf, .initialized RX5, .code yX5_kindOf cX5_kindOf 1 (some .int), .methodLink RX5 79 yX5_isDigit, .static yX5_isDigit, .code yX5_isDigit cX5_isDigit 3 (some .boolean), .static yX7_within, .initialized RX7, .code yX7_within cX7_within 3 (some .boolean)])
def wsX5_goesOn : List Cond := .code yX5_goesOn cX5_goesOn 4 (some .boolean) :: ([.methodLink RX5 85 yX5_headGoesOn, .static yX5_headGoesOn, .initialized RX5, .code yX5_headGoesOn cX5_headGoesOn 2 (some .boolean), .methodLink RX5 79 yX5_isDigit, .static yX5_isDigit, .code yX5_isDigit cX5_isDigit 3 (some .boolean), .static yX7_within, .initialized RX7, .code yX7_within cX7_within 3 (some .boolean), .methodLink RX5 89 yX5_articleGoesOn, .static yX5_articleGoesOn, .code yX5_articleGoesOn cX5_articleGoesOn 2 (some .boolean), .methodLink RX5 62 yX5_kindOf, .static yX5_kindOf, .code yX5_kindOf cX5_kindOf 1 (some .int)])
def wsX5_firstFault_r1 : List Cond := [Cond.methodLink RX5 9 yX5_roomsIn, Cond.static yX5_roomsIn, Cond.initialized RX5, Cond.code yX5_roomsIn cX5_roomsIn 5 (some .int), Cond.methodLink RX5 42 Lib.Math.min.name, Cond.static Lib.Math.min.name, Cond.initialized "java/lang/Math", Cond.code Lib.Math.min.name Lib.Math.min.code 2 (some .int), Cond.methodLink RX5 82 Lib.Math.max.name, Cond.static Lib.Math.max.name, Cond.code Lib.Math.max.name Lib.Math.max.code 2 (some .int), Cond.methodLink RX5 15 yX4_at, Cond.instanceMethod yX4_at, Cond.selects RX4 yX4_at yX4_at, Cond.initialized RX4, Cond.code yX4_at cX4_at 2 (some .int), Cond.fieldLink RX4 19 "TrickHouse$Sheet" "size" "I", Cond.fieldLink RX4 9 "TrickHouse$Sheet" "cells" "[I", Cond.methodLink RX5 79 yX5_isDigit, Cond.static yX5_isDigit, Cond.code yX5_isDigit cX5_isDigit 3 (some .boolean), Cond.static yX7_within, Cond.initialized RX7, Cond.code yX7_within cX7_within 3 (some .boolean)]
def wsX5_firstFault_r2 : List Cond := [Cond.methodLink RX5 21 yX5_goesOn, Cond.static yX5_goesOn, Cond.code yX5_goesOn cX5_goesOn 4 (some .boolean), Cond.methodLink RX5 85 yX5_headGoesOn, Cond.static yX5_headGoesOn, Cond.code yX5_headGoesOn cX5_headGoesOn 2 (some .boolean), Cond.methodLink RX5 89 yX5_articleGoesOn, Cond.static yX5_articleGoesOn, Cond.code yX5_articleGoesOn cX5_articleGoesOn 2 (some .boolean), Cond.methodLink RX5 62 yX5_kindOf, Cond.static yX5_kindOf, Cond.code yX5_kindOf cX5_kindOf 1 (some .int)]
def wsX5_firstFault : List Cond := .code yX5_firstFault cX5_firstFault 6 (some .int) :: ((wsX5_firstFault_r1 ++ wsX5_firstFault_r2) ++ wsX40)
def wsX5_digit : List Cond := .code yX5_digit cX5_digit 2 (some .int) :: ([.methodLink RX5 15 yX4_at, .instanceMethod yX4_at, .selects RX4 yX4_at yX4_at, .initialized RX4, .code yX4_at cX4_at 2 (some .int), .fieldLink RX4 19 "TrickHouse$Sheet" "size" "I", .fieldLink RX4 9 "TrickHouse$Sheet" "cells" "[I"] ++ wsX40)
def wsX5_fill : List Cond := .code yX5_fill cX5_fill 3 none :: ([.fieldLink RX5 65 "TrickHouse$Article" "kind" "I", .fieldLink RX5 70 "TrickHouse$Article" "bulk" "I", .fieldLink RX5 73 "TrickHouse$Article" "gaiety" "I", .fieldLink RX5 76 "TrickHouse$Article" "longing" "I", .methodLink RX5 15 yX4_at, .instanceMethod yX4_at, .selects RX4 yX4_at yX4_at, .initialized RX4, .code yX4_at cX4_at 2 (some .int), .fieldLink RX4 19 "TrickHouse$Sheet" "size" "I", .fieldLink RX4 9 "TrickHouse$Sheet" "cells" "[I", .methodLink RX5 62 yX5_kindOf, .static yX5_kindOf, .initialized RX5, .code yX5_kindOf cX5_kindOf 1 (some .int), .methodLink RX5 25 yX5_digit, .static yX5_digit, .code yX5_digit cX5_digit 2 (some .int)] ++ wsX00 ++ wsX40)
def wsX5_build_r1 : List Cond := [Cond.fieldLink RX5 29 "TrickHouse$House" "corner" "I", Cond.fieldLink RX5 35 "TrickHouse$House" "roomCount" "I", Cond.fieldLink RX5 38 "TrickHouse$House" "spaces" "[I", Cond.methodLink RX5 42 Lib.Math.min.name, Cond.static Lib.Math.min.name, Cond.initialized "java/lang/Math", Cond.code Lib.Math.min.name Lib.Math.min.code 2 (some .int), Cond.fieldLink RX5 48 "TrickHouse$House" "articleCount" "I", Cond.fieldLink RX5 51 "TrickHouse$House" "articles" "[LTrickHouse$Article;", Cond.fieldLink RX5 59 "TrickHouse$House" "present" "I", Cond.methodLink RX5 9 yX5_roomsIn, Cond.static yX5_roomsIn, Cond.initialized RX5, Cond.code yX5_roomsIn cX5_roomsIn 5 (some .int), Cond.methodLink RX5 82 Lib.Math.max.name, Cond.static Lib.Math.max.name, Cond.code Lib.Math.max.name Lib.Math.max.code 2 (some .int), Cond.methodLink RX5 15 yX4_at, Cond.instanceMethod yX4_at, Cond.selects RX4 yX4_at yX4_at, Cond.initialized RX4, Cond.code yX4_at cX4_at 2 (some .int), Cond.fieldLink RX4 19 "TrickHouse$Sheet" "size" "I", Cond.fieldLink RX4 9 "TrickHouse$Sheet" "cells" "[I"]
def wsX5_build_r2 : List Cond := [Cond.methodLink RX5 79 yX5_isDigit, Cond.static yX5_isDigit, Cond.code yX5_isDigit cX5_isDigit 3 (some .boolean), Cond.static yX7_within, Cond.initialized RX7, Cond.code yX7_within cX7_within 3 (some .boolean), Cond.methodLink RX5 25 yX5_digit, Cond.static yX5_digit, Cond.code yX5_digit cX5_digit 2 (some .int), Cond.methodLink RX5 55 yX5_fill, Cond.static yX5_fill, Cond.code yX5_fill cX5_fill 3 none, Cond.fieldLink RX5 65 "TrickHouse$Article" "kind" "I", Cond.fieldLink RX5 70 "TrickHouse$Article" "bulk" "I", Cond.fieldLink RX5 73 "TrickHouse$Article" "gaiety" "I", Cond.fieldLink RX5 76 "TrickHouse$Article" "longing" "I", Cond.methodLink RX5 62 yX5_kindOf, Cond.static yX5_kindOf, Cond.code yX5_kindOf cX5_kindOf 1 (some .int)]
def wsX5_build : List Cond := .code yX5_build cX5_build 7 none :: ((wsX5_build_r1 ++ wsX5_build_r2) ++ wsX10 ++ wsX40 ++ wsX00)
def wsX6_init : List Cond := .code yX6_init cX6_init 2 none :: ([.methodLink RX6 3 objectInit, .instanceMethod objectInit, .code objectInit ⟨#[0xb1]⟩ 1 none, .fieldLink RX6 9 "TrickHouse$Year" "house" "LTrickHouse$House;"] ++ wsX60)
def wsX6_refusalOf : List Cond := .code yX6_refusalOf cX6_refusalOf 5 (some .int) :: ([.fieldLink RX6 9 "TrickHouse$Year" "house" "LTrickHouse$House;", .methodLink RX6 15 yX4_at, .instanceMethod yX4_at, .selects RX4 yX4_at yX4_at, .initialized RX4, .code yX4_at cX4_at 2 (some .int), .fieldLink RX4 19 "TrickHouse$Sheet" "size" "I", .fieldLink RX4 9 "TrickHouse$Sheet" "cells" "[I", .methodLink RX6 21 yX1_isArticle, .instanceMethod yX1_isArticle, .selects RX1 yX1_isArticle yX1_isArticle, .initialized RX1, .code yX1_isArticle cX1_isArticle 2 (some .boolean), .fieldLink RX1 22 "TrickHouse$House" "articleCount" "I", .static yX7_within, .initialized RX7, .code yX7_within cX7_within 3 (some .boolean)] ++ wsX60 ++ wsX40 ++ wsX10)
def wsX6_go_r1 : List Cond := [Cond.fieldLink RX6 9 "TrickHouse$Year" "house" "LTrickHouse$House;", Cond.fieldLink RX6 35 "TrickHouse$Year" "present" "I", Cond.fieldLink RX6 36 "TrickHouse$Year" "away" "I", Cond.fieldLink RX6 39 "TrickHouse$Year" "greatest" "I", Cond.methodLink RX6 64 Lib.Math.max.name, Cond.static Lib.Math.max.name, Cond.initialized "java/lang/Math", Cond.code Lib.Math.max.name Lib.Math.max.code 2 (some .int), Cond.methodLink RX6 53 yX1_companyOf, Cond.instanceMethod yX1_companyOf, Cond.selects RX1 yX1_companyOf yX1_companyOf, Cond.initialized RX1, Cond.code yX1_companyOf cX1_companyOf 5 (some .int), Cond.methodLink RX1 48 yX1_leaversOf, Cond.instanceMethod yX1_leaversOf, Cond.selects RX1 yX1_leaversOf yX1_leaversOf, Cond.code yX1_leaversOf cX1_leaversOf 5 (some .int), Cond.fieldLink RX1 22 "TrickHouse$House" "articleCount" "I", Cond.fieldLink RX1 11 "TrickHouse$House" "articles" "[LTrickHouse$Article;", Cond.fieldLink RX1 51 "TrickHouse$Article" "longing" "I", Cond.methodLink RX1 40 yX1_laughOf, Cond.instanceMethod yX1_laughOf, Cond.selects RX1 yX1_laughOf yX1_laughOf, Cond.code yX1_laughOf cX1_laughOf 4 (some .int)]
def wsX6_go_r2 : List Cond := [Cond.static yX7_has, Cond.initialized RX7, Cond.code yX7_has cX7_has 2 (some .boolean), Cond.methodLink RX1 33 yX0_laugh, Cond.instanceMethod yX0_laugh, Cond.selects RX0 yX0_laugh yX0_laugh, Cond.initialized RX0, Cond.code yX0_laugh cX0_laugh 1 (some .int), Cond.fieldLink RX0 9 "TrickHouse$Article" "kind" "I", Cond.fieldLink RX0 15 "TrickHouse$Article" "gaiety" "I", Cond.methodLink RX0 18 yX0_laughOfKind, Cond.static yX0_laughOfKind, Cond.code yX0_laughOfKind cX0_laughOfKind 2 (some .int), Cond.methodLink RX0 22 Lib.Math.max.name, Cond.methodLink RX6 56 yJ6_bitCount_0f7a4, Cond.static yJ6_bitCount_0f7a4, Cond.initialized RJ6, Cond.code yJ6_bitCount_0f7a4 cJ6_bitCount_0f7a4 1 (some .int), Cond.constant RJ6 265 (1431655765), Cond.constant RJ6 266 (858993459), Cond.constant RJ6 267 (252645135), Cond.methodLink RX6 61 yX1_laughOf]
def wsX6_go : List Cond := .code yX6_go cX6_go 2 none :: ((wsX6_go_r1 ++ wsX6_go_r2) ++ wsX60 ++ wsX10 ++ wsX00)
def wsX6_run_r1 : List Cond := [Cond.fieldLink RX6 9 "TrickHouse$Year" "house" "LTrickHouse$House;", Cond.fieldLink RX6 31 "TrickHouse$House" "present" "I", Cond.fieldLink RX6 35 "TrickHouse$Year" "present" "I", Cond.fieldLink RX6 36 "TrickHouse$Year" "away" "I", Cond.fieldLink RX6 39 "TrickHouse$Year" "greatest" "I", Cond.fieldLink RX6 42 "TrickHouse$Year" "wrong" "I", Cond.methodLink RX6 15 yX4_at, Cond.instanceMethod yX4_at, Cond.selects RX4 yX4_at yX4_at, Cond.initialized RX4, Cond.code yX4_at cX4_at 2 (some .int), Cond.fieldLink RX4 19 "TrickHouse$Sheet" "size" "I", Cond.fieldLink RX4 9 "TrickHouse$Sheet" "cells" "[I", Cond.static yX7_has, Cond.initialized RX7, Cond.code yX7_has cX7_has 2 (some .boolean), Cond.methodLink RX6 49 yX6_go, Cond.instanceMethod yX6_go, Cond.selects RX6 yX6_go yX6_go, Cond.initialized RX6, Cond.code yX6_go cX6_go 2 none, Cond.methodLink RX6 64 Lib.Math.max.name, Cond.static Lib.Math.max.name, Cond.initialized "java/lang/Math"]
def wsX6_run_r2 : List Cond := [Cond.code Lib.Math.max.name Lib.Math.max.code 2 (some .int), Cond.methodLink RX6 53 yX1_companyOf, Cond.instanceMethod yX1_companyOf, Cond.selects RX1 yX1_companyOf yX1_companyOf, Cond.initialized RX1, Cond.code yX1_companyOf cX1_companyOf 5 (some .int), Cond.methodLink RX1 48 yX1_leaversOf, Cond.instanceMethod yX1_leaversOf, Cond.selects RX1 yX1_leaversOf yX1_leaversOf, Cond.code yX1_leaversOf cX1_leaversOf 5 (some .int), Cond.fieldLink RX1 22 "TrickHouse$House" "articleCount" "I", Cond.fieldLink RX1 11 "TrickHouse$House" "articles" "[LTrickHouse$Article;", Cond.fieldLink RX1 51 "TrickHouse$Article" "longing" "I", Cond.methodLink RX1 40 yX1_laughOf, Cond.instanceMethod yX1_laughOf, Cond.selects RX1 yX1_laughOf yX1_laughOf, Cond.code yX1_laughOf cX1_laughOf 4 (some .int), Cond.methodLink RX1 33 yX0_laugh, Cond.instanceMethod yX0_laugh, Cond.selects RX0 yX0_laugh yX0_laugh, Cond.initialized RX0, Cond.code yX0_laugh cX0_laugh 1 (some .int), Cond.fieldLink RX0 9 "TrickHouse$Article" "kind" "I", Cond.fieldLink RX0 15 "TrickHouse$Article" "gaiety" "I"]
def wsX6_run_r3 : List Cond := [Cond.methodLink RX0 18 yX0_laughOfKind, Cond.static yX0_laughOfKind, Cond.code yX0_laughOfKind cX0_laughOfKind 2 (some .int), Cond.methodLink RX0 22 Lib.Math.max.name, Cond.methodLink RX6 56 yJ6_bitCount_0f7a4, Cond.static yJ6_bitCount_0f7a4, Cond.initialized RJ6, Cond.code yJ6_bitCount_0f7a4 cJ6_bitCount_0f7a4 1 (some .int), Cond.constant RJ6 265 (1431655765), Cond.constant RJ6 266 (858993459), Cond.constant RJ6 267 (252645135), Cond.methodLink RX6 61 yX1_laughOf]
def wsX6_run : List Cond := .code yX6_run cX6_run 7 none :: ((wsX6_run_r1 ++ (wsX6_run_r2 ++ wsX6_run_r3)) ++ wsX60 ++ wsX10 ++ wsX40 ++ wsX00)
def wsX6_answer_r1 : List Cond := [Cond.fieldLink RX6 42 "TrickHouse$Year" "wrong" "I", Cond.fieldLink RX6 35 "TrickHouse$Year" "present" "I", Cond.fieldLink RX6 36 "TrickHouse$Year" "away" "I", Cond.fieldLink RX6 9 "TrickHouse$Year" "house" "LTrickHouse$House;", Cond.fieldLink RX6 39 "TrickHouse$Year" "greatest" "I", Cond.methodLink RX6 56 yJ6_bitCount_0f7a4, Cond.static yJ6_bitCount_0f7a4, Cond.initialized RJ6, Cond.code yJ6_bitCount_0f7a4 cJ6_bitCount_0f7a4 1 (some .int), Cond.constant RJ6 265 (1431655765), Cond.constant RJ6 266 (858993459), Cond.constant RJ6 267 (252645135), Cond.methodLink RX6 61 yX1_laughOf, Cond.instanceMethod yX1_laughOf, Cond.selects RX1 yX1_laughOf yX1_laughOf, Cond.initialized RX1, Cond.code yX1_laughOf cX1_laughOf 4 (some .int), Cond.fieldLink RX1 22 "TrickHouse$House" "articleCount" "I", Cond.fieldLink RX1 11 "TrickHouse$House" "articles" "[LTrickHouse$Article;", Cond.static yX7_has, Cond.initialized RX7, Cond.code yX7_has cX7_has 2 (some .boolean), Cond.methodLink RX1 33 yX0_laugh, Cond.instanceMethod yX0_laugh]
def wsX6_answer_r2 : List Cond := [Cond.selects RX0 yX0_laugh yX0_laugh, Cond.initialized RX0, Cond.code yX0_laugh cX0_laugh 1 (some .int), Cond.fieldLink RX0 9 "TrickHouse$Article" "kind" "I", Cond.fieldLink RX0 15 "TrickHouse$Article" "gaiety" "I", Cond.methodLink RX0 18 yX0_laughOfKind, Cond.static yX0_laughOfKind, Cond.code yX0_laughOfKind cX0_laughOfKind 2 (some .int), Cond.methodLink RX0 22 Lib.Math.max.name, Cond.static Lib.Math.max.name, Cond.initialized "java/lang/Math", Cond.code Lib.Math.max.name Lib.Math.max.code 2 (some .int)]
def wsX6_answer : List Cond := .code yX6_answer cX6_answer 2 (some .int) :: ((wsX6_answer_r1 ++ wsX6_answer_r2) ++ wsX60 ++ wsX10 ++ wsX00)
def wsX7_init_r1 : List Cond := [Cond.methodLink RX7 3 objectInit, Cond.instanceMethod objectInit, Cond.code objectInit ⟨#[0xb1]⟩ 1 none, Cond.classLink RX7 9 RX1, Cond.instantiable RX1 6, Cond.initialized RX1, Cond.fieldLink RX7 12 "TrickHouse" "house" "LTrickHouse$House;", Cond.classLink RX7 18 RX3, Cond.instantiable RX3 3, Cond.initialized RX3, Cond.fieldLink RX7 21 "TrickHouse" "readings" "LTrickHouse$Readings;", Cond.classLink RX7 25 RX2, Cond.instantiable RX2 5, Cond.initialized RX2, Cond.fieldLink RX7 30 "TrickHouse" "packing" "LTrickHouse$Packing;", Cond.classLink RX7 34 RX6, Cond.instantiable RX6 5, Cond.initialized RX6, Cond.fieldLink RX7 37 "TrickHouse" "toldYear" "LTrickHouse$Year;", Cond.classLink RX7 41 RX4, Cond.fieldLink RX7 43 "TrickHouse" "sheets" "[LTrickHouse$Sheet;", Cond.instantiable RX4 3, Cond.initialized RX4, Cond.fieldLink RX7 48 "TrickHouse" "traced" "I"]
def wsX7_init_r2 : List Cond := [Cond.fieldLink RX7 52 "TrickHouse" "lastFault" "I", Cond.methodLink RX7 11 yX1_init, Cond.instanceMethod yX1_init, Cond.code yX1_init cX1_init 2 none, Cond.methodLink RX1 3 objectInit, Cond.classLink RX1 9 RX0, Cond.fieldLink RX1 11 "TrickHouse$House" "articles" "[LTrickHouse$Article;", Cond.instantiable RX0 4, Cond.initialized RX0, Cond.arrayClass .int, Cond.fieldLink RX1 18 "TrickHouse$House" "spaces" "[I", Cond.instanceMethod yX0_init, Cond.code yX0_init cX0_init 1 none, Cond.methodLink RX0 3 objectInit, Cond.methodLink RX7 20 yX3_init, Cond.instanceMethod yX3_init, Cond.code yX3_init cX3_init 1 none, Cond.methodLink RX3 3 objectInit, Cond.fieldLink RX3 9 "TrickHouse$Readings" "corners" "[I", Cond.fieldLink RX3 15 "TrickHouse$Readings" "values" "[I", Cond.methodLink RX7 27 yX2_init, Cond.instanceMethod yX2_init, Cond.code yX2_init cX2_init 2 none, Cond.methodLink RX2 3 objectInit]
def wsX7_init_r3 : List Cond := [Cond.fieldLink RX2 9 "TrickHouse$Packing" "house" "LTrickHouse$House;", Cond.fieldLink RX2 15 "TrickHouse$Packing" "loads" "[I", Cond.fieldLink RX2 19 "TrickHouse$Packing" "tried" "[I", Cond.fieldLink RX2 22 "TrickHouse$Packing" "first" "[I", Cond.methodLink RX7 36 yX6_init, Cond.instanceMethod yX6_init, Cond.code yX6_init cX6_init 2 none, Cond.methodLink RX6 3 objectInit, Cond.fieldLink RX6 9 "TrickHouse$Year" "house" "LTrickHouse$House;", Cond.methodLink RX7 47 yX4_init, Cond.instanceMethod yX4_init, Cond.code yX4_init cX4_init 1 none, Cond.methodLink RX4 3 objectInit, Cond.fieldLink RX4 9 "TrickHouse$Sheet" "cells" "[I", Cond.fieldLink RX4 15 "TrickHouse$Sheet" "lane" "I", Cond.fieldLink RX4 19 "TrickHouse$Sheet" "size" "I"]
def wsX7_init : List Cond := .code yX7_init cX7_init 2 none :: ((wsX7_init_r1 ++ (wsX7_init_r2 ++ wsX7_init_r3)) ++ wsX10 ++ wsX70 ++ wsX30 ++ wsX20 ++ wsX60 ++ wsX40 ++ wsX00)
def wsX7_isSheet : List Cond := .code yX7_isSheet cX7_isSheet 1 (some .boolean) :: ([.methodLink RX7 125 yX7_within, .static yX7_within, .initialized RX7, .code yX7_within cX7_within 3 (some .boolean)])
def wsX7_isLane : List Cond := .code yX7_isLane cX7_isLane 1 (some .boolean) :: ([.methodLink RX7 125 yX7_within, .static yX7_within, .initialized RX7, .code yX7_within cX7_within 3 (some .boolean)])
def wsX7_failed : List Cond := .code yX7_failed cX7_failed 2 (some .int) :: ([.fieldLink RX7 52 "TrickHouse" "lastFault" "I"] ++ wsX70)
def wsX7_city_r1 : List Cond := [Cond.fieldLink RX7 52 "TrickHouse" "lastFault" "I", Cond.fieldLink RX7 43 "TrickHouse" "sheets" "[LTrickHouse$Sheet;", Cond.fieldLink RX7 12 "TrickHouse" "house" "LTrickHouse$House;", Cond.fieldLink RX7 21 "TrickHouse" "readings" "LTrickHouse$Readings;", Cond.fieldLink RX7 80 "TrickHouse$Readings" "count" "I", Cond.fieldLink RX7 83 "TrickHouse$House" "articleCount" "I", Cond.methodLink RX7 55 yX7_isSheet, Cond.static yX7_isSheet, Cond.initialized RX7, Cond.code yX7_isSheet cX7_isSheet 1 (some .boolean), Cond.methodLink RX7 125 yX7_within, Cond.static yX7_within, Cond.code yX7_within cX7_within 3 (some .boolean), Cond.methodLink RX7 59 yX7_isLane, Cond.static yX7_isLane, Cond.code yX7_isLane cX7_isLane 1 (some .boolean), Cond.methodLink RX7 62 yX4_faultOfTaking, Cond.instanceMethod yX4_faultOfTaking, Cond.selects RX4 yX4_faultOfTaking yX4_faultOfTaking, Cond.initialized RX4, Cond.code yX4_faultOfTaking cX4_faultOfTaking 4 (some .int), Cond.fieldLink RX4 15 "TrickHouse$Sheet" "lane" "I", Cond.methodLink RX4 31 yX4_hasNothing, Cond.instanceMethod yX4_hasNothing]
def wsX7_city_r2 : List Cond := [Cond.selects RX4 yX4_hasNothing yX4_hasNothing, Cond.code yX4_hasNothing cX4_hasNothing 1 (some .boolean), Cond.methodLink RX4 35 yX4_holds, Cond.instanceMethod yX4_holds, Cond.selects RX4 yX4_holds yX4_holds, Cond.code yX4_holds cX4_holds 3 (some .boolean), Cond.fieldLink RX4 19 "TrickHouse$Sheet" "size" "I", Cond.methodLink RX7 66 yX7_failed, Cond.instanceMethod yX7_failed, Cond.selects RX7 yX7_failed yX7_failed, Cond.code yX7_failed cX7_failed 2 (some .int), Cond.methodLink RX7 70 yX5_firstFault, Cond.static yX5_firstFault, Cond.initialized RX5, Cond.code yX5_firstFault cX5_firstFault 6 (some .int), Cond.methodLink RX5 9 yX5_roomsIn, Cond.static yX5_roomsIn, Cond.code yX5_roomsIn cX5_roomsIn 5 (some .int), Cond.methodLink RX5 42 Lib.Math.min.name, Cond.static Lib.Math.min.name, Cond.initialized "java/lang/Math", Cond.code Lib.Math.min.name Lib.Math.min.code 2 (some .int), Cond.methodLink RX5 82 Lib.Math.max.name, Cond.static Lib.Math.max.name]
def wsX7_city_r3 : List Cond := [Cond.code Lib.Math.max.name Lib.Math.max.code 2 (some .int), Cond.methodLink RX5 15 yX4_at, Cond.instanceMethod yX4_at, Cond.selects RX4 yX4_at yX4_at, Cond.code yX4_at cX4_at 2 (some .int), Cond.fieldLink RX4 9 "TrickHouse$Sheet" "cells" "[I", Cond.methodLink RX5 79 yX5_isDigit, Cond.static yX5_isDigit, Cond.code yX5_isDigit cX5_isDigit 3 (some .boolean), Cond.methodLink RX5 21 yX5_goesOn, Cond.static yX5_goesOn, Cond.code yX5_goesOn cX5_goesOn 4 (some .boolean), Cond.methodLink RX5 85 yX5_headGoesOn, Cond.static yX5_headGoesOn, Cond.code yX5_headGoesOn cX5_headGoesOn 2 (some .boolean), Cond.methodLink RX5 89 yX5_articleGoesOn, Cond.static yX5_articleGoesOn, Cond.code yX5_articleGoesOn cX5_articleGoesOn 2 (some .boolean), Cond.methodLink RX5 62 yX5_kindOf, Cond.static yX5_kindOf, Cond.code yX5_kindOf cX5_kindOf 1 (some .int), Cond.methodLink RX7 76 yX5_build, Cond.static yX5_build, Cond.code yX5_build cX5_build 7 none]
def wsX7_city_r4 : List Cond := [Cond.fieldLink RX5 29 "TrickHouse$House" "corner" "I", Cond.fieldLink RX5 35 "TrickHouse$House" "roomCount" "I", Cond.fieldLink RX5 38 "TrickHouse$House" "spaces" "[I", Cond.fieldLink RX5 48 "TrickHouse$House" "articleCount" "I", Cond.fieldLink RX5 51 "TrickHouse$House" "articles" "[LTrickHouse$Article;", Cond.fieldLink RX5 59 "TrickHouse$House" "present" "I", Cond.methodLink RX5 25 yX5_digit, Cond.static yX5_digit, Cond.code yX5_digit cX5_digit 2 (some .int), Cond.methodLink RX5 55 yX5_fill, Cond.static yX5_fill, Cond.code yX5_fill cX5_fill 3 none, Cond.fieldLink RX5 65 "TrickHouse$Article" "kind" "I", Cond.fieldLink RX5 70 "TrickHouse$Article" "bulk" "I", Cond.fieldLink RX5 73 "TrickHouse$Article" "gaiety" "I", Cond.fieldLink RX5 76 "TrickHouse$Article" "longing" "I"]
def wsX7_city : List Cond := .code yX7_city cX7_city 8 (some .int) :: ((wsX7_city_r1 ++ (wsX7_city_r2 ++ (wsX7_city_r3 ++ wsX7_city_r4))) ++ wsX70 ++ wsX30 ++ wsX10 ++ wsX40 ++ wsX00)
def wsX7_ofArticle_r1 : List Cond := [Cond.fieldLink RX7 12 "TrickHouse" "house" "LTrickHouse$House;", Cond.fieldLink RX7 89 "TrickHouse$House" "articles" "[LTrickHouse$Article;", Cond.fieldLink RX7 93 "TrickHouse$Article" "kind" "I", Cond.fieldLink RX7 98 "TrickHouse$Article" "bulk" "I", Cond.fieldLink RX7 101 "TrickHouse$Article" "gaiety" "I", Cond.fieldLink RX7 104 "TrickHouse$Article" "longing" "I", Cond.fieldLink RX7 111 "TrickHouse$House" "present" "I", Cond.methodLink RX7 86 yX1_isArticle, Cond.instanceMethod yX1_isArticle, Cond.selects RX1 yX1_isArticle yX1_isArticle, Cond.initialized RX1, Cond.code yX1_isArticle cX1_isArticle 2 (some .boolean), Cond.fieldLink RX1 22 "TrickHouse$House" "articleCount" "I", Cond.methodLink RX7 107 yX0_laugh, Cond.instanceMethod yX0_laugh, Cond.selects RX0 yX0_laugh yX0_laugh, Cond.initialized RX0, Cond.code yX0_laugh cX0_laugh 1 (some .int), Cond.fieldLink RX0 9 "TrickHouse$Article" "kind" "I", Cond.fieldLink RX0 15 "TrickHouse$Article" "gaiety" "I", Cond.methodLink RX0 18 yX0_laughOfKind, Cond.static yX0_laughOfKind, Cond.code yX0_laughOfKind cX0_laughOfKind 2 (some .int), Cond.methodLink RX0 22 Lib.Math.max.name]
def wsX7_ofArticle_r2 : List Cond := [Cond.static Lib.Math.max.name, Cond.initialized "java/lang/Math", Cond.code Lib.Math.max.name Lib.Math.max.code 2 (some .int), Cond.methodLink RX7 114 yX7_has, Cond.static yX7_has, Cond.initialized RX7, Cond.code yX7_has cX7_has 2 (some .boolean)]
def wsX7_ofArticle : List Cond := .code yX7_ofArticle cX7_ofArticle 4 (some .int) :: ((wsX7_ofArticle_r1 ++ wsX7_ofArticle_r2) ++ wsX70 ++ wsX10 ++ wsX00)
def wsX7_space : List Cond := .code yX7_space cX7_space 2 (some .int) :: ([.fieldLink RX7 12 "TrickHouse" "house" "LTrickHouse$House;", .fieldLink RX7 121 "TrickHouse$House" "spaces" "[I", .methodLink RX7 118 yX1_isRoom, .instanceMethod yX1_isRoom, .selects RX1 yX1_isRoom yX1_isRoom, .initialized RX1, .code yX1_isRoom cX1_isRoom 2 (some .boolean), .fieldLink RX1 26 "TrickHouse$House" "roomCount" "I"] ++ wsX70 ++ wsX10)
def wsX7_cheer : List Cond := .code yX7_cheer cX7_cheer 4 (some .int) :: ([.fieldLink RX7 12 "TrickHouse" "house" "LTrickHouse$House;", .fieldLink RX7 89 "TrickHouse$House" "articles" "[LTrickHouse$Article;", .fieldLink RX7 101 "TrickHouse$Article" "gaiety" "I", .methodLink RX7 86 yX1_isArticle, .instanceMethod yX1_isArticle, .selects RX1 yX1_isArticle yX1_isArticle, .initialized RX1, .code yX1_isArticle cX1_isArticle 2 (some .boolean), .fieldLink RX1 22 "TrickHouse$House" "articleCount" "I", .methodLink RX7 125 yX7_within, .static yX7_within, .initialized RX7, .code yX7_within cX7_within 3 (some .boolean)] ++ wsX70 ++ wsX10 ++ wsX00)
def wsX7_miss : List Cond := .code yX7_miss cX7_miss 4 (some .int) :: ([.fieldLink RX7 12 "TrickHouse" "house" "LTrickHouse$House;", .fieldLink RX7 89 "TrickHouse$House" "articles" "[LTrickHouse$Article;", .fieldLink RX7 104 "TrickHouse$Article" "longing" "I", .methodLink RX7 86 yX1_isArticle, .instanceMethod yX1_isArticle, .selects RX1 yX1_isArticle yX1_isArticle, .initialized RX1, .code yX1_isArticle cX1_isArticle 2 (some .boolean), .fieldLink RX1 22 "TrickHouse$House" "articleCount" "I", .methodLink RX7 125 yX7_within, .static yX7_within, .initialized RX7, .code yX7_within cX7_within 3 (some .boolean)] ++ wsX70 ++ wsX10 ++ wsX00)
def wsX7_widen : List Cond := .code yX7_widen cX7_widen 4 (some .int) :: ([.fieldLink RX7 12 "TrickHouse" "house" "LTrickHouse$House;", .fieldLink RX7 121 "TrickHouse$House" "spaces" "[I", .methodLink RX7 118 yX1_isRoom, .instanceMethod yX1_isRoom, .selects RX1 yX1_isRoom yX1_isRoom, .initialized RX1, .code yX1_isRoom cX1_isRoom 2 (some .boolean), .fieldLink RX1 26 "TrickHouse$House" "roomCount" "I", .methodLink RX7 125 yX7_within, .static yX7_within, .initialized RX7, .code yX7_within cX7_within 3 (some .boolean)] ++ wsX70 ++ wsX10)
def wsX7_isCorner : List Cond := .code yX7_isCorner cX7_isCorner 1 (some .boolean) :: ([.methodLink RX7 125 yX7_within, .static yX7_within, .initialized RX7, .code yX7_within cX7_within 3 (some .boolean)])
def wsX7_shift : List Cond := .code yX7_shift cX7_shift 3 (some .int) :: ([.fieldLink RX7 12 "TrickHouse" "house" "LTrickHouse$House;", .fieldLink RX7 136 "TrickHouse$House" "corner" "I", .methodLink RX7 129 yX7_isCorner, .static yX7_isCorner, .initialized RX7, .code yX7_isCorner cX7_isCorner 1 (some .boolean), .methodLink RX7 125 yX7_within, .static yX7_within, .code yX7_within cX7_within 3 (some .boolean), .methodLink RX7 132 yX1_stands, .instanceMethod yX1_stands, .selects RX1 yX1_stands yX1_stands, .initialized RX1, .code yX1_stands cX1_stands 1 (some .boolean), .fieldLink RX1 22 "TrickHouse$House" "articleCount" "I"] ++ wsX70 ++ wsX10)
def wsX7_there : List Cond := .code yX7_there cX7_there 1 (some .int) :: ([.fieldLink RX7 12 "TrickHouse" "house" "LTrickHouse$House;", .fieldLink RX7 111 "TrickHouse$House" "present" "I", .methodLink RX7 132 yX1_stands, .instanceMethod yX1_stands, .selects RX1 yX1_stands yX1_stands, .initialized RX1, .code yX1_stands cX1_stands 1 (some .boolean), .fieldLink RX1 22 "TrickHouse$House" "articleCount" "I"] ++ wsX70 ++ wsX10)
def wsX7_company_r1 : List Cond := [Cond.fieldLink RX7 12 "TrickHouse" "house" "LTrickHouse$House;", Cond.methodLink RX7 132 yX1_stands, Cond.instanceMethod yX1_stands, Cond.selects RX1 yX1_stands yX1_stands, Cond.initialized RX1, Cond.code yX1_stands cX1_stands 1 (some .boolean), Cond.fieldLink RX1 22 "TrickHouse$House" "articleCount" "I", Cond.methodLink RX7 139 yX1_isSet, Cond.instanceMethod yX1_isSet, Cond.selects RX1 yX1_isSet yX1_isSet, Cond.code yX1_isSet cX1_isSet 2 (some .boolean), Cond.methodLink RX7 142 yX1_companyOf, Cond.instanceMethod yX1_companyOf, Cond.selects RX1 yX1_companyOf yX1_companyOf, Cond.code yX1_companyOf cX1_companyOf 5 (some .int), Cond.methodLink RX1 48 yX1_leaversOf, Cond.instanceMethod yX1_leaversOf, Cond.selects RX1 yX1_leaversOf yX1_leaversOf, Cond.code yX1_leaversOf cX1_leaversOf 5 (some .int), Cond.fieldLink RX1 11 "TrickHouse$House" "articles" "[LTrickHouse$Article;", Cond.fieldLink RX1 51 "TrickHouse$Article" "longing" "I", Cond.methodLink RX1 40 yX1_laughOf, Cond.instanceMethod yX1_laughOf, Cond.selects RX1 yX1_laughOf yX1_laughOf]
def wsX7_company_r2 : List Cond := [Cond.code yX1_laughOf cX1_laughOf 4 (some .int), Cond.static yX7_has, Cond.initialized RX7, Cond.code yX7_has cX7_has 2 (some .boolean), Cond.methodLink RX1 33 yX0_laugh, Cond.instanceMethod yX0_laugh, Cond.selects RX0 yX0_laugh yX0_laugh, Cond.initialized RX0, Cond.code yX0_laugh cX0_laugh 1 (some .int), Cond.fieldLink RX0 9 "TrickHouse$Article" "kind" "I", Cond.fieldLink RX0 15 "TrickHouse$Article" "gaiety" "I", Cond.methodLink RX0 18 yX0_laughOfKind, Cond.static yX0_laughOfKind, Cond.code yX0_laughOfKind cX0_laughOfKind 2 (some .int), Cond.methodLink RX0 22 Lib.Math.max.name, Cond.static Lib.Math.max.name, Cond.initialized "java/lang/Math", Cond.code Lib.Math.max.name Lib.Math.max.code 2 (some .int)]
def wsX7_company : List Cond := .code yX7_company cX7_company 2 (some .int) :: ((wsX7_company_r1 ++ wsX7_company_r2) ++ wsX70 ++ wsX10 ++ wsX00)
def wsX7_send_r1 : List Cond := [Cond.fieldLink RX7 12 "TrickHouse" "house" "LTrickHouse$House;", Cond.fieldLink RX7 111 "TrickHouse$House" "present" "I", Cond.methodLink RX7 86 yX1_isArticle, Cond.instanceMethod yX1_isArticle, Cond.selects RX1 yX1_isArticle yX1_isArticle, Cond.initialized RX1, Cond.code yX1_isArticle cX1_isArticle 2 (some .boolean), Cond.fieldLink RX1 22 "TrickHouse$House" "articleCount" "I", Cond.methodLink RX7 114 yX7_has, Cond.static yX7_has, Cond.initialized RX7, Cond.code yX7_has cX7_has 2 (some .boolean), Cond.methodLink RX7 145 yX1_keepCompanyOf, Cond.instanceMethod yX1_keepCompanyOf, Cond.selects RX1 yX1_keepCompanyOf yX1_keepCompanyOf, Cond.code yX1_keepCompanyOf cX1_keepCompanyOf 2 (some .int), Cond.fieldLink RX1 37 "TrickHouse$House" "present" "I", Cond.methodLink RX1 54 yX1_companyOf, Cond.instanceMethod yX1_companyOf, Cond.selects RX1 yX1_companyOf yX1_companyOf, Cond.code yX1_companyOf cX1_companyOf 5 (some .int), Cond.methodLink RX1 48 yX1_leaversOf, Cond.instanceMethod yX1_leaversOf, Cond.selects RX1 yX1_leaversOf yX1_leaversOf]
def wsX7_send_r2 : List Cond := [Cond.code yX1_leaversOf cX1_leaversOf 5 (some .int), Cond.fieldLink RX1 11 "TrickHouse$House" "articles" "[LTrickHouse$Article;", Cond.fieldLink RX1 51 "TrickHouse$Article" "longing" "I", Cond.methodLink RX1 40 yX1_laughOf, Cond.instanceMethod yX1_laughOf, Cond.selects RX1 yX1_laughOf yX1_laughOf, Cond.code yX1_laughOf cX1_laughOf 4 (some .int), Cond.methodLink RX1 33 yX0_laugh, Cond.instanceMethod yX0_laugh, Cond.selects RX0 yX0_laugh yX0_laugh, Cond.initialized RX0, Cond.code yX0_laugh cX0_laugh 1 (some .int), Cond.fieldLink RX0 9 "TrickHouse$Article" "kind" "I", Cond.fieldLink RX0 15 "TrickHouse$Article" "gaiety" "I", Cond.methodLink RX0 18 yX0_laughOfKind, Cond.static yX0_laughOfKind, Cond.code yX0_laughOfKind cX0_laughOfKind 2 (some .int), Cond.methodLink RX0 22 Lib.Math.max.name, Cond.static Lib.Math.max.name, Cond.initialized "java/lang/Math", Cond.code Lib.Math.max.name Lib.Math.max.code 2 (some .int)]
def wsX7_send : List Cond := .code yX7_send cX7_send 2 (some .int) :: ((wsX7_send_r1 ++ wsX7_send_r2) ++ wsX70 ++ wsX10 ++ wsX00)
def wsX7_call_r1 : List Cond := [Cond.fieldLink RX7 12 "TrickHouse" "house" "LTrickHouse$House;", Cond.fieldLink RX7 111 "TrickHouse$House" "present" "I", Cond.methodLink RX7 86 yX1_isArticle, Cond.instanceMethod yX1_isArticle, Cond.selects RX1 yX1_isArticle yX1_isArticle, Cond.initialized RX1, Cond.code yX1_isArticle cX1_isArticle 2 (some .boolean), Cond.fieldLink RX1 22 "TrickHouse$House" "articleCount" "I", Cond.methodLink RX7 114 yX7_has, Cond.static yX7_has, Cond.initialized RX7, Cond.code yX7_has cX7_has 2 (some .boolean), Cond.methodLink RX7 145 yX1_keepCompanyOf, Cond.instanceMethod yX1_keepCompanyOf, Cond.selects RX1 yX1_keepCompanyOf yX1_keepCompanyOf, Cond.code yX1_keepCompanyOf cX1_keepCompanyOf 2 (some .int), Cond.fieldLink RX1 37 "TrickHouse$House" "present" "I", Cond.methodLink RX1 54 yX1_companyOf, Cond.instanceMethod yX1_companyOf, Cond.selects RX1 yX1_companyOf yX1_companyOf, Cond.code yX1_companyOf cX1_companyOf 5 (some .int), Cond.methodLink RX1 48 yX1_leaversOf, Cond.instanceMethod yX1_leaversOf, Cond.selects RX1 yX1_leaversOf yX1_leaversOf]
def wsX7_call_r2 : List Cond := [Cond.code yX1_leaversOf cX1_leaversOf 5 (some .int), Cond.fieldLink RX1 11 "TrickHouse$House" "articles" "[LTrickHouse$Article;", Cond.fieldLink RX1 51 "TrickHouse$Article" "longing" "I", Cond.methodLink RX1 40 yX1_laughOf, Cond.instanceMethod yX1_laughOf, Cond.selects RX1 yX1_laughOf yX1_laughOf, Cond.code yX1_laughOf cX1_laughOf 4 (some .int), Cond.methodLink RX1 33 yX0_laugh, Cond.instanceMethod yX0_laugh, Cond.selects RX0 yX0_laugh yX0_laugh, Cond.initialized RX0, Cond.code yX0_laugh cX0_laugh 1 (some .int), Cond.fieldLink RX0 9 "TrickHouse$Article" "kind" "I", Cond.fieldLink RX0 15 "TrickHouse$Article" "gaiety" "I", Cond.methodLink RX0 18 yX0_laughOfKind, Cond.static yX0_laughOfKind, Cond.code yX0_laughOfKind cX0_laughOfKind 2 (some .int), Cond.methodLink RX0 22 Lib.Math.max.name, Cond.static Lib.Math.max.name, Cond.initialized "java/lang/Math", Cond.code Lib.Math.max.name Lib.Math.max.code 2 (some .int)]
def wsX7_call : List Cond := .code yX7_call cX7_call 2 (some .int) :: ((wsX7_call_r1 ++ wsX7_call_r2) ++ wsX70 ++ wsX10 ++ wsX00)
def wsX7_laughter_r1 : List Cond := [Cond.fieldLink RX7 12 "TrickHouse" "house" "LTrickHouse$House;", Cond.fieldLink RX7 111 "TrickHouse$House" "present" "I", Cond.methodLink RX7 132 yX1_stands, Cond.instanceMethod yX1_stands, Cond.selects RX1 yX1_stands yX1_stands, Cond.initialized RX1, Cond.code yX1_stands cX1_stands 1 (some .boolean), Cond.fieldLink RX1 22 "TrickHouse$House" "articleCount" "I", Cond.methodLink RX7 148 yX1_laughOf, Cond.instanceMethod yX1_laughOf, Cond.selects RX1 yX1_laughOf yX1_laughOf, Cond.code yX1_laughOf cX1_laughOf 4 (some .int), Cond.fieldLink RX1 11 "TrickHouse$House" "articles" "[LTrickHouse$Article;", Cond.static yX7_has, Cond.initialized RX7, Cond.code yX7_has cX7_has 2 (some .boolean), Cond.methodLink RX1 33 yX0_laugh, Cond.instanceMethod yX0_laugh, Cond.selects RX0 yX0_laugh yX0_laugh, Cond.initialized RX0, Cond.code yX0_laugh cX0_laugh 1 (some .int), Cond.fieldLink RX0 9 "TrickHouse$Article" "kind" "I", Cond.fieldLink RX0 15 "TrickHouse$Article" "gaiety" "I", Cond.methodLink RX0 18 yX0_laughOfKind]
def wsX7_laughter_r2 : List Cond := [Cond.static yX0_laughOfKind, Cond.code yX0_laughOfKind cX0_laughOfKind 2 (some .int), Cond.methodLink RX0 22 Lib.Math.max.name, Cond.static Lib.Math.max.name, Cond.initialized "java/lang/Math", Cond.code Lib.Math.max.name Lib.Math.max.code 2 (some .int)]
def wsX7_laughter : List Cond := .code yX7_laughter cX7_laughter 1 (some .int) :: ((wsX7_laughter_r1 ++ wsX7_laughter_r2) ++ wsX70 ++ wsX10 ++ wsX00)
def wsX7_heard_r1 : List Cond := [Cond.fieldLink RX7 12 "TrickHouse" "house" "LTrickHouse$House;", Cond.fieldLink RX7 111 "TrickHouse$House" "present" "I", Cond.fieldLink RX7 136 "TrickHouse$House" "corner" "I", Cond.methodLink RX7 129 yX7_isCorner, Cond.static yX7_isCorner, Cond.initialized RX7, Cond.code yX7_isCorner cX7_isCorner 1 (some .boolean), Cond.methodLink RX7 125 yX7_within, Cond.static yX7_within, Cond.code yX7_within cX7_within 3 (some .boolean), Cond.methodLink RX7 132 yX1_stands, Cond.instanceMethod yX1_stands, Cond.selects RX1 yX1_stands yX1_stands, Cond.initialized RX1, Cond.code yX1_stands cX1_stands 1 (some .boolean), Cond.fieldLink RX1 22 "TrickHouse$House" "articleCount" "I", Cond.methodLink RX7 148 yX1_laughOf, Cond.instanceMethod yX1_laughOf, Cond.selects RX1 yX1_laughOf yX1_laughOf, Cond.code yX1_laughOf cX1_laughOf 4 (some .int), Cond.fieldLink RX1 11 "TrickHouse$House" "articles" "[LTrickHouse$Article;", Cond.static yX7_has, Cond.code yX7_has cX7_has 2 (some .boolean), Cond.methodLink RX1 33 yX0_laugh]
def wsX7_heard_r2 : List Cond := [Cond.instanceMethod yX0_laugh, Cond.selects RX0 yX0_laugh yX0_laugh, Cond.initialized RX0, Cond.code yX0_laugh cX0_laugh 1 (some .int), Cond.fieldLink RX0 9 "TrickHouse$Article" "kind" "I", Cond.fieldLink RX0 15 "TrickHouse$Article" "gaiety" "I", Cond.methodLink RX0 18 yX0_laughOfKind, Cond.static yX0_laughOfKind, Cond.code yX0_laughOfKind cX0_laughOfKind 2 (some .int), Cond.methodLink RX0 22 Lib.Math.max.name, Cond.static Lib.Math.max.name, Cond.initialized "java/lang/Math", Cond.code Lib.Math.max.name Lib.Math.max.code 2 (some .int), Cond.methodLink RX7 151 yX7_carried, Cond.static yX7_carried, Cond.code yX7_carried cX7_carried 5 (some .int), Cond.methodLink RX7 244 Lib.Math.abs.name, Cond.static Lib.Math.abs.name, Cond.code Lib.Math.abs.name Lib.Math.abs.code 1 (some .int), Cond.methodLink RX7 249 Lib.Math.max.name]
def wsX7_heard : List Cond := .code yX7_heard cX7_heard 2 (some .int) :: ((wsX7_heard_r1 ++ wsX7_heard_r2) ++ wsX70 ++ wsX10 ++ wsX00)
def wsX7_year_r1 : List Cond := [Cond.fieldLink RX7 52 "TrickHouse" "lastFault" "I", Cond.fieldLink RX7 43 "TrickHouse" "sheets" "[LTrickHouse$Sheet;", Cond.fieldLink RX7 12 "TrickHouse" "house" "LTrickHouse$House;", Cond.fieldLink RX7 37 "TrickHouse" "toldYear" "LTrickHouse$Year;", Cond.methodLink RX7 55 yX7_isSheet, Cond.static yX7_isSheet, Cond.initialized RX7, Cond.code yX7_isSheet cX7_isSheet 1 (some .boolean), Cond.methodLink RX7 125 yX7_within, Cond.static yX7_within, Cond.code yX7_within cX7_within 3 (some .boolean), Cond.methodLink RX7 59 yX7_isLane, Cond.static yX7_isLane, Cond.code yX7_isLane cX7_isLane 1 (some .boolean), Cond.methodLink RX7 62 yX4_faultOfTaking, Cond.instanceMethod yX4_faultOfTaking, Cond.selects RX4 yX4_faultOfTaking yX4_faultOfTaking, Cond.initialized RX4, Cond.code yX4_faultOfTaking cX4_faultOfTaking 4 (some .int), Cond.fieldLink RX4 15 "TrickHouse$Sheet" "lane" "I", Cond.methodLink RX4 31 yX4_hasNothing, Cond.instanceMethod yX4_hasNothing, Cond.selects RX4 yX4_hasNothing yX4_hasNothing, Cond.code yX4_hasNothing cX4_hasNothing 1 (some .boolean)]
def wsX7_year_r2 : List Cond := [Cond.methodLink RX4 35 yX4_holds, Cond.instanceMethod yX4_holds, Cond.selects RX4 yX4_holds yX4_holds, Cond.code yX4_holds cX4_holds 3 (some .boolean), Cond.fieldLink RX4 19 "TrickHouse$Sheet" "size" "I", Cond.methodLink RX7 66 yX7_failed, Cond.instanceMethod yX7_failed, Cond.selects RX7 yX7_failed yX7_failed, Cond.code yX7_failed cX7_failed 2 (some .int), Cond.methodLink RX7 132 yX1_stands, Cond.instanceMethod yX1_stands, Cond.selects RX1 yX1_stands yX1_stands, Cond.initialized RX1, Cond.code yX1_stands cX1_stands 1 (some .boolean), Cond.fieldLink RX1 22 "TrickHouse$House" "articleCount" "I", Cond.methodLink RX7 154 yX6_refusalOf, Cond.instanceMethod yX6_refusalOf, Cond.selects RX6 yX6_refusalOf yX6_refusalOf, Cond.initialized RX6, Cond.code yX6_refusalOf cX6_refusalOf 5 (some .int), Cond.fieldLink RX6 9 "TrickHouse$Year" "house" "LTrickHouse$House;", Cond.methodLink RX6 15 yX4_at, Cond.instanceMethod yX4_at, Cond.selects RX4 yX4_at yX4_at]
def wsX7_year_r3 : List Cond := [Cond.code yX4_at cX4_at 2 (some .int), Cond.fieldLink RX4 9 "TrickHouse$Sheet" "cells" "[I", Cond.methodLink RX6 21 yX1_isArticle, Cond.instanceMethod yX1_isArticle, Cond.selects RX1 yX1_isArticle yX1_isArticle, Cond.code yX1_isArticle cX1_isArticle 2 (some .boolean), Cond.methodLink RX7 157 yX6_run, Cond.instanceMethod yX6_run, Cond.selects RX6 yX6_run yX6_run, Cond.code yX6_run cX6_run 7 none, Cond.fieldLink RX6 31 "TrickHouse$House" "present" "I", Cond.fieldLink RX6 35 "TrickHouse$Year" "present" "I", Cond.fieldLink RX6 36 "TrickHouse$Year" "away" "I", Cond.fieldLink RX6 39 "TrickHouse$Year" "greatest" "I", Cond.fieldLink RX6 42 "TrickHouse$Year" "wrong" "I", Cond.static yX7_has, Cond.code yX7_has cX7_has 2 (some .boolean), Cond.methodLink RX6 49 yX6_go, Cond.instanceMethod yX6_go, Cond.selects RX6 yX6_go yX6_go, Cond.code yX6_go cX6_go 2 none, Cond.methodLink RX6 64 Lib.Math.max.name, Cond.static Lib.Math.max.name, Cond.initialized "java/lang/Math"]
def wsX7_year_r4 : List Cond := [Cond.code Lib.Math.max.name Lib.Math.max.code 2 (some .int), Cond.methodLink RX6 53 yX1_companyOf, Cond.instanceMethod yX1_companyOf, Cond.selects RX1 yX1_companyOf yX1_companyOf, Cond.code yX1_companyOf cX1_companyOf 5 (some .int), Cond.methodLink RX1 48 yX1_leaversOf, Cond.instanceMethod yX1_leaversOf, Cond.selects RX1 yX1_leaversOf yX1_leaversOf, Cond.code yX1_leaversOf cX1_leaversOf 5 (some .int), Cond.fieldLink RX1 11 "TrickHouse$House" "articles" "[LTrickHouse$Article;", Cond.fieldLink RX1 51 "TrickHouse$Article" "longing" "I", Cond.methodLink RX1 40 yX1_laughOf, Cond.instanceMethod yX1_laughOf, Cond.selects RX1 yX1_laughOf yX1_laughOf, Cond.code yX1_laughOf cX1_laughOf 4 (some .int), Cond.methodLink RX1 33 yX0_laugh, Cond.instanceMethod yX0_laugh, Cond.selects RX0 yX0_laugh yX0_laugh, Cond.initialized RX0, Cond.code yX0_laugh cX0_laugh 1 (some .int), Cond.fieldLink RX0 9 "TrickHouse$Article" "kind" "I", Cond.fieldLink RX0 15 "TrickHouse$Article" "gaiety" "I", Cond.methodLink RX0 18 yX0_laughOfKind, Cond.static yX0_laughOfKind]
def wsX7_year_r5 : List Cond := [Cond.code yX0_laughOfKind cX0_laughOfKind 2 (some .int), Cond.methodLink RX0 22 Lib.Math.max.name, Cond.methodLink RX6 56 yJ6_bitCount_0f7a4, Cond.static yJ6_bitCount_0f7a4, Cond.initialized RJ6, Cond.code yJ6_bitCount_0f7a4 cJ6_bitCount_0f7a4 1 (some .int), Cond.constant RJ6 265 (1431655765), Cond.constant RJ6 266 (858993459), Cond.constant RJ6 267 (252645135), Cond.methodLink RX6 61 yX1_laughOf, Cond.methodLink RX7 161 yX6_answer, Cond.instanceMethod yX6_answer, Cond.selects RX6 yX6_answer yX6_answer, Cond.code yX6_answer cX6_answer 2 (some .int)]
def wsX7_year : List Cond := .code yX7_year cX7_year 9 (some .int) :: ((wsX7_year_r1 ++ (wsX7_year_r2 ++ (wsX7_year_r3 ++ (wsX7_year_r4 ++ wsX7_year_r5)))) ++ wsX70 ++ wsX40 ++ wsX10 ++ wsX60 ++ wsX00)
def wsX7_packs_r1 : List Cond := [Cond.fieldLink RX7 12 "TrickHouse" "house" "LTrickHouse$House;", Cond.fieldLink RX7 30 "TrickHouse" "packing" "LTrickHouse$Packing;", Cond.fieldLink RX7 168 "TrickHouse$Packing" "ways" "I", Cond.fieldLink RX7 171 "TrickHouse$Packing" "first" "[I", Cond.methodLink RX7 132 yX1_stands, Cond.instanceMethod yX1_stands, Cond.selects RX1 yX1_stands yX1_stands, Cond.initialized RX1, Cond.code yX1_stands cX1_stands 1 (some .boolean), Cond.fieldLink RX1 22 "TrickHouse$House" "articleCount" "I", Cond.methodLink RX7 139 yX1_isSet, Cond.instanceMethod yX1_isSet, Cond.selects RX1 yX1_isSet yX1_isSet, Cond.code yX1_isSet cX1_isSet 2 (some .boolean), Cond.methodLink RX7 125 yX7_within, Cond.static yX7_within, Cond.initialized RX7, Cond.code yX7_within cX7_within 3 (some .boolean), Cond.methodLink RX7 164 yX2_pack, Cond.instanceMethod yX2_pack, Cond.selects RX2 yX2_pack yX2_pack, Cond.initialized RX2, Cond.code yX2_pack cX2_pack 3 none, Cond.fieldLink RX2 25 "TrickHouse$Packing" "ways" "I"]
def wsX7_packs_r2 : List Cond := [Cond.fieldLink RX2 15 "TrickHouse$Packing" "loads" "[I", Cond.fieldLink RX2 19 "TrickHouse$Packing" "tried" "[I", Cond.fieldLink RX2 22 "TrickHouse$Packing" "first" "[I", Cond.methodLink RX2 29 yX2_placeFrom, Cond.instanceMethod yX2_placeFrom, Cond.selects RX2 yX2_placeFrom yX2_placeFrom, Cond.code yX2_placeFrom cX2_placeFrom 5 none, Cond.fieldLink RX2 9 "TrickHouse$Packing" "house" "LTrickHouse$House;", Cond.fieldLink RX2 46 "TrickHouse$House" "articles" "[LTrickHouse$Article;", Cond.fieldLink RX2 50 "TrickHouse$Article" "bulk" "I", Cond.fieldLink RX2 55 "TrickHouse$House" "roomCount" "I", Cond.fieldLink RX2 58 "TrickHouse$House" "spaces" "[I", Cond.methodLink RX2 33 yX1_isArticle, Cond.instanceMethod yX1_isArticle, Cond.selects RX1 yX1_isArticle yX1_isArticle, Cond.code yX1_isArticle cX1_isArticle 2 (some .boolean), Cond.methodLink RX2 39 yX2_countWay, Cond.instanceMethod yX2_countWay, Cond.selects RX2 yX2_countWay yX2_countWay, Cond.code yX2_countWay cX2_countWay 2 none, Cond.static yX7_has, Cond.code yX7_has cX7_has 2 (some .boolean)]
def wsX7_packs : List Cond := .code yX7_packs cX7_packs 3 (some .int) :: ((wsX7_packs_r1 ++ wsX7_packs_r2) ++ wsX70 ++ wsX20 ++ wsX10 ++ wsX00)
def wsX7_fetch_r1 : List Cond := [Cond.fieldLink RX7 12 "TrickHouse" "house" "LTrickHouse$House;", Cond.fieldLink RX7 111 "TrickHouse$House" "present" "I", Cond.methodLink RX7 132 yX1_stands, Cond.instanceMethod yX1_stands, Cond.selects RX1 yX1_stands yX1_stands, Cond.initialized RX1, Cond.code yX1_stands cX1_stands 1 (some .boolean), Cond.fieldLink RX1 22 "TrickHouse$House" "articleCount" "I", Cond.methodLink RX7 139 yX1_isSet, Cond.instanceMethod yX1_isSet, Cond.selects RX1 yX1_isSet yX1_isSet, Cond.code yX1_isSet cX1_isSet 2 (some .boolean), Cond.methodLink RX7 174 yX1_fewestCalls, Cond.instanceMethod yX1_fewestCalls, Cond.selects RX1 yX1_fewestCalls yX1_fewestCalls, Cond.code yX1_fewestCalls cX1_fewestCalls 7 (some .int), Cond.fieldLink RX1 37 "TrickHouse$House" "present" "I", Cond.methodLink RX1 57 yJ6_bitCount_0f7a4, Cond.static yJ6_bitCount_0f7a4, Cond.initialized RJ6, Cond.code yJ6_bitCount_0f7a4 cJ6_bitCount_0f7a4 1 (some .int), Cond.constant RJ6 265 (1431655765), Cond.constant RJ6 266 (858993459), Cond.constant RJ6 267 (252645135)]
def wsX7_fetch_r2 : List Cond := [Cond.methodLink RX1 54 yX1_companyOf, Cond.instanceMethod yX1_companyOf, Cond.selects RX1 yX1_companyOf yX1_companyOf, Cond.code yX1_companyOf cX1_companyOf 5 (some .int), Cond.methodLink RX1 48 yX1_leaversOf, Cond.instanceMethod yX1_leaversOf, Cond.selects RX1 yX1_leaversOf yX1_leaversOf, Cond.code yX1_leaversOf cX1_leaversOf 5 (some .int), Cond.fieldLink RX1 11 "TrickHouse$House" "articles" "[LTrickHouse$Article;", Cond.fieldLink RX1 51 "TrickHouse$Article" "longing" "I", Cond.methodLink RX1 40 yX1_laughOf, Cond.instanceMethod yX1_laughOf, Cond.selects RX1 yX1_laughOf yX1_laughOf, Cond.code yX1_laughOf cX1_laughOf 4 (some .int), Cond.static yX7_has, Cond.initialized RX7, Cond.code yX7_has cX7_has 2 (some .boolean), Cond.methodLink RX1 33 yX0_laugh, Cond.instanceMethod yX0_laugh, Cond.selects RX0 yX0_laugh yX0_laugh, Cond.initialized RX0, Cond.code yX0_laugh cX0_laugh 1 (some .int), Cond.fieldLink RX0 9 "TrickHouse$Article" "kind" "I", Cond.fieldLink RX0 15 "TrickHouse$Article" "gaiety" "I"]
def wsX7_fetch_r3 : List Cond := [Cond.methodLink RX0 18 yX0_laughOfKind, Cond.static yX0_laughOfKind, Cond.code yX0_laughOfKind cX0_laughOfKind 2 (some .int), Cond.methodLink RX0 22 Lib.Math.max.name, Cond.static Lib.Math.max.name, Cond.initialized "java/lang/Math", Cond.code Lib.Math.max.name Lib.Math.max.code 2 (some .int)]
def wsX7_fetch : List Cond := .code yX7_fetch cX7_fetch 2 (some .int) :: ((wsX7_fetch_r1 ++ (wsX7_fetch_r2 ++ wsX7_fetch_r3)) ++ wsX70 ++ wsX10 ++ wsX00)
def wsX7_lure_r1 : List Cond := [Cond.fieldLink RX7 12 "TrickHouse" "house" "LTrickHouse$House;", Cond.fieldLink RX7 111 "TrickHouse$House" "present" "I", Cond.methodLink RX7 86 yX1_isArticle, Cond.instanceMethod yX1_isArticle, Cond.selects RX1 yX1_isArticle yX1_isArticle, Cond.initialized RX1, Cond.code yX1_isArticle cX1_isArticle 2 (some .boolean), Cond.fieldLink RX1 22 "TrickHouse$House" "articleCount" "I", Cond.methodLink RX7 114 yX7_has, Cond.static yX7_has, Cond.initialized RX7, Cond.code yX7_has cX7_has 2 (some .boolean), Cond.methodLink RX7 174 yX1_fewestCalls, Cond.instanceMethod yX1_fewestCalls, Cond.selects RX1 yX1_fewestCalls yX1_fewestCalls, Cond.code yX1_fewestCalls cX1_fewestCalls 7 (some .int), Cond.fieldLink RX1 37 "TrickHouse$House" "present" "I", Cond.methodLink RX1 57 yJ6_bitCount_0f7a4, Cond.static yJ6_bitCount_0f7a4, Cond.initialized RJ6, Cond.code yJ6_bitCount_0f7a4 cJ6_bitCount_0f7a4 1 (some .int), Cond.constant RJ6 265 (1431655765), Cond.constant RJ6 266 (858993459), Cond.constant RJ6 267 (252645135)]
def wsX7_lure_r2 : List Cond := [Cond.methodLink RX1 54 yX1_companyOf, Cond.instanceMethod yX1_companyOf, Cond.selects RX1 yX1_companyOf yX1_companyOf, Cond.code yX1_companyOf cX1_companyOf 5 (some .int), Cond.methodLink RX1 48 yX1_leaversOf, Cond.instanceMethod yX1_leaversOf, Cond.selects RX1 yX1_leaversOf yX1_leaversOf, Cond.code yX1_leaversOf cX1_leaversOf 5 (some .int), Cond.fieldLink RX1 11 "TrickHouse$House" "articles" "[LTrickHouse$Article;", Cond.fieldLink RX1 51 "TrickHouse$Article" "longing" "I", Cond.methodLink RX1 40 yX1_laughOf, Cond.instanceMethod yX1_laughOf, Cond.selects RX1 yX1_laughOf yX1_laughOf, Cond.code yX1_laughOf cX1_laughOf 4 (some .int), Cond.methodLink RX1 33 yX0_laugh, Cond.instanceMethod yX0_laugh, Cond.selects RX0 yX0_laugh yX0_laugh, Cond.initialized RX0, Cond.code yX0_laugh cX0_laugh 1 (some .int), Cond.fieldLink RX0 9 "TrickHouse$Article" "kind" "I", Cond.fieldLink RX0 15 "TrickHouse$Article" "gaiety" "I", Cond.methodLink RX0 18 yX0_laughOfKind, Cond.static yX0_laughOfKind, Cond.code yX0_laughOfKind cX0_laughOfKind 2 (some .int)]
def wsX7_lure_r3 : List Cond := [Cond.methodLink RX0 22 Lib.Math.max.name, Cond.static Lib.Math.max.name, Cond.initialized "java/lang/Math", Cond.code Lib.Math.max.name Lib.Math.max.code 2 (some .int)]
def wsX7_lure : List Cond := .code yX7_lure cX7_lure 2 (some .int) :: ((wsX7_lure_r1 ++ (wsX7_lure_r2 ++ wsX7_lure_r3)) ++ wsX70 ++ wsX10 ++ wsX00)
def wsX7_reading : List Cond := .code yX7_reading cX7_reading 3 (some .int) :: ([.fieldLink RX7 12 "TrickHouse" "house" "LTrickHouse$House;", .fieldLink RX7 21 "TrickHouse" "readings" "LTrickHouse$Readings;", .fieldLink RX7 80 "TrickHouse$Readings" "count" "I", .methodLink RX7 129 yX7_isCorner, .static yX7_isCorner, .initialized RX7, .code yX7_isCorner cX7_isCorner 1 (some .boolean), .methodLink RX7 125 yX7_within, .static yX7_within, .code yX7_within cX7_within 3 (some .boolean), .methodLink RX7 132 yX1_stands, .instanceMethod yX1_stands, .selects RX1 yX1_stands yX1_stands, .initialized RX1, .code yX1_stands cX1_stands 1 (some .boolean), .fieldLink RX1 22 "TrickHouse$House" "articleCount" "I", .methodLink RX7 178 yX3_add, .instanceMethod yX3_add, .selects RX3 yX3_add yX3_add, .initialized RX3, .code yX3_add cX3_add 3 (some .int), .fieldLink RX3 18 "TrickHouse$Readings" "count" "I", .fieldLink RX3 9 "TrickHouse$Readings" "corners" "[I", .fieldLink RX3 15 "TrickHouse$Readings" "values" "[I"] ++ wsX70 ++ wsX30 ++ wsX10)
def wsX7_back : List Cond := .code yX7_back cX7_back 2 (some .int) :: ([.fieldLink RX7 21 "TrickHouse" "readings" "LTrickHouse$Readings;", .fieldLink RX7 80 "TrickHouse$Readings" "count" "I", .methodLink RX7 125 yX7_within, .static yX7_within, .initialized RX7, .code yX7_within cX7_within 3 (some .boolean)] ++ wsX70 ++ wsX30)
def wsX7_gaieties_r1 : List Cond := [Cond.fieldLink RX7 12 "TrickHouse" "house" "LTrickHouse$House;", Cond.fieldLink RX7 89 "TrickHouse$House" "articles" "[LTrickHouse$Article;", Cond.fieldLink RX7 93 "TrickHouse$Article" "kind" "I", Cond.fieldLink RX7 21 "TrickHouse" "readings" "LTrickHouse$Readings;", Cond.fieldLink RX7 136 "TrickHouse$House" "corner" "I", Cond.methodLink RX7 86 yX1_isArticle, Cond.instanceMethod yX1_isArticle, Cond.selects RX1 yX1_isArticle yX1_isArticle, Cond.initialized RX1, Cond.code yX1_isArticle cX1_isArticle 2 (some .boolean), Cond.fieldLink RX1 22 "TrickHouse$House" "articleCount" "I", Cond.methodLink RX7 181 yX1_laughIf, Cond.instanceMethod yX1_laughIf, Cond.selects RX1 yX1_laughIf yX1_laughIf, Cond.code yX1_laughIf cX1_laughIf 5 (some .int), Cond.fieldLink RX1 37 "TrickHouse$House" "present" "I", Cond.methodLink RX1 40 yX1_laughOf, Cond.instanceMethod yX1_laughOf, Cond.selects RX1 yX1_laughOf yX1_laughOf, Cond.code yX1_laughOf cX1_laughOf 4 (some .int), Cond.fieldLink RX1 11 "TrickHouse$House" "articles" "[LTrickHouse$Article;", Cond.static yX7_has, Cond.initialized RX7, Cond.code yX7_has cX7_has 2 (some .boolean)]
def wsX7_gaieties_r2 : List Cond := [Cond.methodLink RX1 33 yX0_laugh, Cond.instanceMethod yX0_laugh, Cond.selects RX0 yX0_laugh yX0_laugh, Cond.initialized RX0, Cond.code yX0_laugh cX0_laugh 1 (some .int), Cond.fieldLink RX0 9 "TrickHouse$Article" "kind" "I", Cond.fieldLink RX0 15 "TrickHouse$Article" "gaiety" "I", Cond.methodLink RX0 18 yX0_laughOfKind, Cond.static yX0_laughOfKind, Cond.code yX0_laughOfKind cX0_laughOfKind 2 (some .int), Cond.methodLink RX0 22 Lib.Math.max.name, Cond.static Lib.Math.max.name, Cond.initialized "java/lang/Math", Cond.code Lib.Math.max.name Lib.Math.max.code 2 (some .int), Cond.methodLink RX1 44 yX0_laughOfKind, Cond.methodLink RX7 184 yX3_allAreSo, Cond.instanceMethod yX3_allAreSo, Cond.selects RX3 yX3_allAreSo yX3_allAreSo, Cond.initialized RX3, Cond.code yX3_allAreSo cX3_allAreSo 4 (some .boolean), Cond.fieldLink RX3 18 "TrickHouse$Readings" "count" "I", Cond.fieldLink RX3 9 "TrickHouse$Readings" "corners" "[I", Cond.fieldLink RX3 15 "TrickHouse$Readings" "values" "[I", Cond.static yX7_carried]
def wsX7_gaieties_r3 : List Cond := [Cond.code yX7_carried cX7_carried 5 (some .int), Cond.methodLink RX7 244 Lib.Math.abs.name, Cond.static Lib.Math.abs.name, Cond.code Lib.Math.abs.name Lib.Math.abs.code 1 (some .int), Cond.methodLink RX7 249 Lib.Math.max.name]
def wsX7_gaieties : List Cond := .code yX7_gaieties cX7_gaieties 5 (some .int) :: ((wsX7_gaieties_r1 ++ (wsX7_gaieties_r2 ++ wsX7_gaieties_r3)) ++ wsX70 ++ wsX10 ++ wsX00 ++ wsX30)
def wsX7_kinds_r1 : List Cond := [Cond.fieldLink RX7 12 "TrickHouse" "house" "LTrickHouse$House;", Cond.fieldLink RX7 89 "TrickHouse$House" "articles" "[LTrickHouse$Article;", Cond.fieldLink RX7 101 "TrickHouse$Article" "gaiety" "I", Cond.fieldLink RX7 21 "TrickHouse" "readings" "LTrickHouse$Readings;", Cond.fieldLink RX7 136 "TrickHouse$House" "corner" "I", Cond.methodLink RX7 86 yX1_isArticle, Cond.instanceMethod yX1_isArticle, Cond.selects RX1 yX1_isArticle yX1_isArticle, Cond.initialized RX1, Cond.code yX1_isArticle cX1_isArticle 2 (some .boolean), Cond.fieldLink RX1 22 "TrickHouse$House" "articleCount" "I", Cond.methodLink RX7 181 yX1_laughIf, Cond.instanceMethod yX1_laughIf, Cond.selects RX1 yX1_laughIf yX1_laughIf, Cond.code yX1_laughIf cX1_laughIf 5 (some .int), Cond.fieldLink RX1 37 "TrickHouse$House" "present" "I", Cond.methodLink RX1 40 yX1_laughOf, Cond.instanceMethod yX1_laughOf, Cond.selects RX1 yX1_laughOf yX1_laughOf, Cond.code yX1_laughOf cX1_laughOf 4 (some .int), Cond.fieldLink RX1 11 "TrickHouse$House" "articles" "[LTrickHouse$Article;", Cond.static yX7_has, Cond.initialized RX7, Cond.code yX7_has cX7_has 2 (some .boolean)]
def wsX7_kinds_r2 : List Cond := [Cond.methodLink RX1 33 yX0_laugh, Cond.instanceMethod yX0_laugh, Cond.selects RX0 yX0_laugh yX0_laugh, Cond.initialized RX0, Cond.code yX0_laugh cX0_laugh 1 (some .int), Cond.fieldLink RX0 9 "TrickHouse$Article" "kind" "I", Cond.fieldLink RX0 15 "TrickHouse$Article" "gaiety" "I", Cond.methodLink RX0 18 yX0_laughOfKind, Cond.static yX0_laughOfKind, Cond.code yX0_laughOfKind cX0_laughOfKind 2 (some .int), Cond.methodLink RX0 22 Lib.Math.max.name, Cond.static Lib.Math.max.name, Cond.initialized "java/lang/Math", Cond.code Lib.Math.max.name Lib.Math.max.code 2 (some .int), Cond.methodLink RX1 44 yX0_laughOfKind, Cond.methodLink RX7 184 yX3_allAreSo, Cond.instanceMethod yX3_allAreSo, Cond.selects RX3 yX3_allAreSo yX3_allAreSo, Cond.initialized RX3, Cond.code yX3_allAreSo cX3_allAreSo 4 (some .boolean), Cond.fieldLink RX3 18 "TrickHouse$Readings" "count" "I", Cond.fieldLink RX3 9 "TrickHouse$Readings" "corners" "[I", Cond.fieldLink RX3 15 "TrickHouse$Readings" "values" "[I", Cond.static yX7_carried]
def wsX7_kinds_r3 : List Cond := [Cond.code yX7_carried cX7_carried 5 (some .int), Cond.methodLink RX7 244 Lib.Math.abs.name, Cond.static Lib.Math.abs.name, Cond.code Lib.Math.abs.name Lib.Math.abs.code 1 (some .int), Cond.methodLink RX7 249 Lib.Math.max.name]
def wsX7_kinds : List Cond := .code yX7_kinds cX7_kinds 5 (some .int) :: ((wsX7_kinds_r1 ++ (wsX7_kinds_r2 ++ wsX7_kinds_r3)) ++ wsX70 ++ wsX10 ++ wsX00 ++ wsX30)
def wsX7_wheres_r1 : List Cond := [Cond.fieldLink RX7 12 "TrickHouse" "house" "LTrickHouse$House;", Cond.constantLong RX7 187 (-9223372036854775808), Cond.fieldLink RX7 111 "TrickHouse$House" "present" "I", Cond.fieldLink RX7 21 "TrickHouse" "readings" "LTrickHouse$Readings;", Cond.methodLink RX7 125 yX7_within, Cond.static yX7_within, Cond.initialized RX7, Cond.code yX7_within cX7_within 3 (some .boolean), Cond.methodLink RX7 132 yX1_stands, Cond.instanceMethod yX1_stands, Cond.selects RX1 yX1_stands yX1_stands, Cond.initialized RX1, Cond.code yX1_stands cX1_stands 1 (some .boolean), Cond.fieldLink RX1 22 "TrickHouse$House" "articleCount" "I", Cond.methodLink RX7 148 yX1_laughOf, Cond.instanceMethod yX1_laughOf, Cond.selects RX1 yX1_laughOf yX1_laughOf, Cond.code yX1_laughOf cX1_laughOf 4 (some .int), Cond.fieldLink RX1 11 "TrickHouse$House" "articles" "[LTrickHouse$Article;", Cond.static yX7_has, Cond.code yX7_has cX7_has 2 (some .boolean), Cond.methodLink RX1 33 yX0_laugh, Cond.instanceMethod yX0_laugh, Cond.selects RX0 yX0_laugh yX0_laugh]
def wsX7_wheres_r2 : List Cond := [Cond.initialized RX0, Cond.code yX0_laugh cX0_laugh 1 (some .int), Cond.fieldLink RX0 9 "TrickHouse$Article" "kind" "I", Cond.fieldLink RX0 15 "TrickHouse$Article" "gaiety" "I", Cond.methodLink RX0 18 yX0_laughOfKind, Cond.static yX0_laughOfKind, Cond.code yX0_laughOfKind cX0_laughOfKind 2 (some .int), Cond.methodLink RX0 22 Lib.Math.max.name, Cond.static Lib.Math.max.name, Cond.initialized "java/lang/Math", Cond.code Lib.Math.max.name Lib.Math.max.code 2 (some .int), Cond.methodLink RX7 184 yX3_allAreSo, Cond.instanceMethod yX3_allAreSo, Cond.selects RX3 yX3_allAreSo yX3_allAreSo, Cond.initialized RX3, Cond.code yX3_allAreSo cX3_allAreSo 4 (some .boolean), Cond.fieldLink RX3 18 "TrickHouse$Readings" "count" "I", Cond.fieldLink RX3 9 "TrickHouse$Readings" "corners" "[I", Cond.fieldLink RX3 15 "TrickHouse$Readings" "values" "[I", Cond.static yX7_carried, Cond.code yX7_carried cX7_carried 5 (some .int), Cond.methodLink RX7 244 Lib.Math.abs.name, Cond.static Lib.Math.abs.name, Cond.code Lib.Math.abs.name Lib.Math.abs.code 1 (some .int)]
def wsX7_wheres_r3 : List Cond := [Cond.methodLink RX7 249 Lib.Math.max.name]
def wsX7_wheres : List Cond := .code yX7_wheres cX7_wheres 6 (some .long) :: ((wsX7_wheres_r1 ++ (wsX7_wheres_r2 ++ wsX7_wheres_r3)) ++ wsX70 ++ wsX10 ++ wsX00 ++ wsX30)
def wsX7_odds_r1 : List Cond := [Cond.fieldLink RX7 12 "TrickHouse" "house" "LTrickHouse$House;", Cond.fieldLink RX7 111 "TrickHouse$House" "present" "I", Cond.constantLong RX7 187 (-9223372036854775808), Cond.methodLink RX7 86 yX1_isArticle, Cond.instanceMethod yX1_isArticle, Cond.selects RX1 yX1_isArticle yX1_isArticle, Cond.initialized RX1, Cond.code yX1_isArticle cX1_isArticle 2 (some .boolean), Cond.fieldLink RX1 22 "TrickHouse$House" "articleCount" "I", Cond.methodLink RX7 125 yX7_within, Cond.static yX7_within, Cond.initialized RX7, Cond.code yX7_within cX7_within 3 (some .boolean), Cond.methodLink RX7 114 yX7_has, Cond.static yX7_has, Cond.code yX7_has cX7_has 2 (some .boolean), Cond.methodLink RX7 189 yX1_setsThatLeave, Cond.instanceMethod yX1_setsThatLeave, Cond.selects RX1 yX1_setsThatLeave yX1_setsThatLeave, Cond.code yX1_setsThatLeave cX1_setsThatLeave 4 (some .int), Cond.fieldLink RX1 37 "TrickHouse$House" "present" "I", Cond.methodLink RX1 54 yX1_companyOf, Cond.instanceMethod yX1_companyOf, Cond.selects RX1 yX1_companyOf yX1_companyOf]
def wsX7_odds_r2 : List Cond := [Cond.code yX1_companyOf cX1_companyOf 5 (some .int), Cond.methodLink RX1 48 yX1_leaversOf, Cond.instanceMethod yX1_leaversOf, Cond.selects RX1 yX1_leaversOf yX1_leaversOf, Cond.code yX1_leaversOf cX1_leaversOf 5 (some .int), Cond.fieldLink RX1 11 "TrickHouse$House" "articles" "[LTrickHouse$Article;", Cond.fieldLink RX1 51 "TrickHouse$Article" "longing" "I", Cond.methodLink RX1 40 yX1_laughOf, Cond.instanceMethod yX1_laughOf, Cond.selects RX1 yX1_laughOf yX1_laughOf, Cond.code yX1_laughOf cX1_laughOf 4 (some .int), Cond.methodLink RX1 33 yX0_laugh, Cond.instanceMethod yX0_laugh, Cond.selects RX0 yX0_laugh yX0_laugh, Cond.initialized RX0, Cond.code yX0_laugh cX0_laugh 1 (some .int), Cond.fieldLink RX0 9 "TrickHouse$Article" "kind" "I", Cond.fieldLink RX0 15 "TrickHouse$Article" "gaiety" "I", Cond.methodLink RX0 18 yX0_laughOfKind, Cond.static yX0_laughOfKind, Cond.code yX0_laughOfKind cX0_laughOfKind 2 (some .int), Cond.methodLink RX0 22 Lib.Math.max.name, Cond.static Lib.Math.max.name, Cond.initialized "java/lang/Math"]
def wsX7_odds_r3 : List Cond := [Cond.code Lib.Math.max.name Lib.Math.max.code 2 (some .int), Cond.methodLink RX7 192 yJ6_bitCount_0f7a4, Cond.static yJ6_bitCount_0f7a4, Cond.initialized RJ6, Cond.code yJ6_bitCount_0f7a4 cJ6_bitCount_0f7a4 1 (some .int), Cond.constant RJ6 265 (1431655765), Cond.constant RJ6 266 (858993459), Cond.constant RJ6 267 (252645135)]
def wsX7_odds : List Cond := .code yX7_odds cX7_odds 6 (some .long) :: ((wsX7_odds_r1 ++ (wsX7_odds_r2 ++ wsX7_odds_r3)) ++ wsX70 ++ wsX10 ++ wsX00)
def wsX7_sheet_r1 : List Cond := [Cond.fieldLink RX7 52 "TrickHouse" "lastFault" "I", Cond.fieldLink RX7 43 "TrickHouse" "sheets" "[LTrickHouse$Sheet;", Cond.methodLink RX7 55 yX7_isSheet, Cond.static yX7_isSheet, Cond.initialized RX7, Cond.code yX7_isSheet cX7_isSheet 1 (some .boolean), Cond.methodLink RX7 125 yX7_within, Cond.static yX7_within, Cond.code yX7_within cX7_within 3 (some .boolean), Cond.methodLink RX7 59 yX7_isLane, Cond.static yX7_isLane, Cond.code yX7_isLane cX7_isLane 1 (some .boolean), Cond.methodLink RX7 66 yX7_failed, Cond.instanceMethod yX7_failed, Cond.selects RX7 yX7_failed yX7_failed, Cond.code yX7_failed cX7_failed 2 (some .int), Cond.methodLink RX7 197 yX4_renew, Cond.instanceMethod yX4_renew, Cond.selects RX4 yX4_renew yX4_renew, Cond.initialized RX4, Cond.code yX4_renew cX4_renew 4 none, Cond.fieldLink RX4 15 "TrickHouse$Sheet" "lane" "I", Cond.methodLink RX4 22 Lib.Math.min.name, Cond.static Lib.Math.min.name]
def wsX7_sheet_r2 : List Cond := [Cond.initialized "java/lang/Math", Cond.code Lib.Math.min.name Lib.Math.min.code 2 (some .int), Cond.methodLink RX4 28 Lib.Math.max.name, Cond.static Lib.Math.max.name, Cond.code Lib.Math.max.name Lib.Math.max.code 2 (some .int), Cond.fieldLink RX4 19 "TrickHouse$Sheet" "size" "I", Cond.fieldLink RX4 9 "TrickHouse$Sheet" "cells" "[I"]
def wsX7_sheet : List Cond := .code yX7_sheet cX7_sheet 4 (some .int) :: ((wsX7_sheet_r1 ++ wsX7_sheet_r2) ++ wsX70 ++ wsX40)
def wsX7_lose : List Cond := .code yX7_lose cX7_lose 2 (some .int) :: ([.fieldLink RX7 43 "TrickHouse" "sheets" "[LTrickHouse$Sheet;", .methodLink RX7 55 yX7_isSheet, .static yX7_isSheet, .initialized RX7, .code yX7_isSheet cX7_isSheet 1 (some .boolean), .methodLink RX7 125 yX7_within, .static yX7_within, .code yX7_within cX7_within 3 (some .boolean), .methodLink RX7 201 yX4_hasNothing, .instanceMethod yX4_hasNothing, .selects RX4 yX4_hasNothing yX4_hasNothing, .initialized RX4, .code yX4_hasNothing cX4_hasNothing 1 (some .boolean), .fieldLink RX4 15 "TrickHouse$Sheet" "lane" "I", .methodLink RX7 204 yX4_clear, .instanceMethod yX4_clear, .selects RX4 yX4_clear yX4_clear, .code yX4_clear cX4_clear 1 none, .fieldLink RX4 19 "TrickHouse$Sheet" "size" "I"] ++ wsX70 ++ wsX40)
def wsX7_put_r1 : List Cond := [Cond.fieldLink RX7 52 "TrickHouse" "lastFault" "I", Cond.fieldLink RX7 43 "TrickHouse" "sheets" "[LTrickHouse$Sheet;", Cond.methodLink RX7 55 yX7_isSheet, Cond.static yX7_isSheet, Cond.initialized RX7, Cond.code yX7_isSheet cX7_isSheet 1 (some .boolean), Cond.methodLink RX7 125 yX7_within, Cond.static yX7_within, Cond.code yX7_within cX7_within 3 (some .boolean), Cond.methodLink RX7 201 yX4_hasNothing, Cond.instanceMethod yX4_hasNothing, Cond.selects RX4 yX4_hasNothing yX4_hasNothing, Cond.initialized RX4, Cond.code yX4_hasNothing cX4_hasNothing 1 (some .boolean), Cond.fieldLink RX4 15 "TrickHouse$Sheet" "lane" "I", Cond.methodLink RX7 66 yX7_failed, Cond.instanceMethod yX7_failed, Cond.selects RX7 yX7_failed yX7_failed, Cond.code yX7_failed cX7_failed 2 (some .int), Cond.methodLink RX7 207 yX4_holds, Cond.instanceMethod yX4_holds, Cond.selects RX4 yX4_holds yX4_holds, Cond.code yX4_holds cX4_holds 3 (some .boolean), Cond.fieldLink RX4 19 "TrickHouse$Sheet" "size" "I"]
def wsX7_put_r2 : List Cond := [Cond.methodLink RX7 210 yX4_write, Cond.instanceMethod yX4_write, Cond.selects RX4 yX4_write yX4_write, Cond.code yX4_write cX4_write 3 none, Cond.fieldLink RX4 9 "TrickHouse$Sheet" "cells" "[I", Cond.methodLink RX4 39 yX4_cut, Cond.instanceMethod yX4_cut, Cond.selects RX4 yX4_cut yX4_cut, Cond.code yX4_cut cX4_cut 2 (some .int)]
def wsX7_put : List Cond := .code yX7_put cX7_put 4 (some .int) :: ((wsX7_put_r1 ++ wsX7_put_r2) ++ wsX70 ++ wsX40)
def wsX7_cell_r1 : List Cond := [Cond.fieldLink RX7 52 "TrickHouse" "lastFault" "I", Cond.constantLong RX7 187 (-9223372036854775808), Cond.fieldLink RX7 43 "TrickHouse" "sheets" "[LTrickHouse$Sheet;", Cond.methodLink RX7 55 yX7_isSheet, Cond.static yX7_isSheet, Cond.initialized RX7, Cond.code yX7_isSheet cX7_isSheet 1 (some .boolean), Cond.methodLink RX7 125 yX7_within, Cond.static yX7_within, Cond.code yX7_within cX7_within 3 (some .boolean), Cond.methodLink RX7 59 yX7_isLane, Cond.static yX7_isLane, Cond.code yX7_isLane cX7_isLane 1 (some .boolean), Cond.methodLink RX7 62 yX4_faultOfTaking, Cond.instanceMethod yX4_faultOfTaking, Cond.selects RX4 yX4_faultOfTaking yX4_faultOfTaking, Cond.initialized RX4, Cond.code yX4_faultOfTaking cX4_faultOfTaking 4 (some .int), Cond.fieldLink RX4 15 "TrickHouse$Sheet" "lane" "I", Cond.methodLink RX4 31 yX4_hasNothing, Cond.instanceMethod yX4_hasNothing, Cond.selects RX4 yX4_hasNothing yX4_hasNothing, Cond.code yX4_hasNothing cX4_hasNothing 1 (some .boolean), Cond.methodLink RX4 35 yX4_holds]
def wsX7_cell_r2 : List Cond := [Cond.instanceMethod yX4_holds, Cond.selects RX4 yX4_holds yX4_holds, Cond.code yX4_holds cX4_holds 3 (some .boolean), Cond.fieldLink RX4 19 "TrickHouse$Sheet" "size" "I", Cond.methodLink RX7 213 yX4_at, Cond.instanceMethod yX4_at, Cond.selects RX4 yX4_at yX4_at, Cond.code yX4_at cX4_at 2 (some .int), Cond.fieldLink RX4 9 "TrickHouse$Sheet" "cells" "[I"]
def wsX7_cell : List Cond := .code yX7_cell cX7_cell 4 (some .long) :: ((wsX7_cell_r1 ++ wsX7_cell_r2) ++ wsX70 ++ wsX40)
def wsX7_copy_r1 : List Cond := [Cond.fieldLink RX7 52 "TrickHouse" "lastFault" "I", Cond.fieldLink RX7 43 "TrickHouse" "sheets" "[LTrickHouse$Sheet;", Cond.fieldLink RX7 216 "TrickHouse$Sheet" "lane" "I", Cond.fieldLink RX7 219 "TrickHouse$Sheet" "cells" "[I", Cond.methodLink RX7 222 arraycopyName, Cond.native arraycopyName, Cond.static arraycopyName, Cond.initialized "java/lang/System", Cond.methodLink RX7 55 yX7_isSheet, Cond.static yX7_isSheet, Cond.initialized RX7, Cond.code yX7_isSheet cX7_isSheet 1 (some .boolean), Cond.methodLink RX7 125 yX7_within, Cond.static yX7_within, Cond.code yX7_within cX7_within 3 (some .boolean), Cond.methodLink RX7 201 yX4_hasNothing, Cond.instanceMethod yX4_hasNothing, Cond.selects RX4 yX4_hasNothing yX4_hasNothing, Cond.initialized RX4, Cond.code yX4_hasNothing cX4_hasNothing 1 (some .boolean), Cond.fieldLink RX4 15 "TrickHouse$Sheet" "lane" "I", Cond.methodLink RX7 66 yX7_failed, Cond.instanceMethod yX7_failed, Cond.selects RX7 yX7_failed yX7_failed]
def wsX7_copy_r2 : List Cond := [Cond.code yX7_failed cX7_failed 2 (some .int), Cond.methodLink RX7 207 yX4_holds, Cond.instanceMethod yX4_holds, Cond.selects RX4 yX4_holds yX4_holds, Cond.code yX4_holds cX4_holds 3 (some .boolean), Cond.fieldLink RX4 19 "TrickHouse$Sheet" "size" "I"]
def wsX7_copy : List Cond := .code yX7_copy cX7_copy 8 (some .int) :: ((wsX7_copy_r1 ++ wsX7_copy_r2) ++ wsX70 ++ wsX40)
def wsX7_begin : List Cond := .code yX7_begin cX7_begin 2 none :: ([.fieldLink RX7 48 "TrickHouse" "traced" "I"] ++ wsX70)
def wsX7_tellAsThing : List Cond := .code yX7_tellAsThing cX7_tellAsThing 2 (some .int) :: ([.fieldLink RX7 101 "TrickHouse$Article" "gaiety" "I", .methodLink RX7 238 yX7_begin, .instanceMethod yX7_begin, .selects RX7 yX7_begin yX7_begin, .initialized RX7, .code yX7_begin cX7_begin 2 none, .fieldLink RX7 48 "TrickHouse" "traced" "I"] ++ wsX00 ++ wsX70)
def wsX7_tellAsBeast : List Cond := .code yX7_tellAsBeast cX7_tellAsBeast 2 (some .int) :: ([.methodLink RX7 238 yX7_begin, .instanceMethod yX7_begin, .selects RX7 yX7_begin yX7_begin, .initialized RX7, .code yX7_begin cX7_begin 2 none, .fieldLink RX7 48 "TrickHouse" "traced" "I", .methodLink RX7 235 yX7_tellAsThing, .instanceMethod yX7_tellAsThing, .selects RX7 yX7_tellAsThing yX7_tellAsThing, .code yX7_tellAsThing cX7_tellAsThing 2 (some .int), .fieldLink RX7 101 "TrickHouse$Article" "gaiety" "I"] ++ wsX70 ++ wsX00)
def wsX7_tellAsPerson : List Cond := .code yX7_tellAsPerson cX7_tellAsPerson 3 (some .int) :: ([.methodLink RX7 238 yX7_begin, .instanceMethod yX7_begin, .selects RX7 yX7_begin yX7_begin, .initialized RX7, .code yX7_begin cX7_begin 2 none, .fieldLink RX7 48 "TrickHouse" "traced" "I", .methodLink RX7 232 yX7_tellAsBeast, .instanceMethod yX7_tellAsBeast, .selects RX7 yX7_tellAsBeast yX7_tellAsBeast, .code yX7_tellAsBeast cX7_tellAsBeast 2 (some .int), .methodLink RX7 235 yX7_tellAsThing, .instanceMethod yX7_tellAsThing, .selects RX7 yX7_tellAsThing yX7_tellAsThing, .code yX7_tellAsThing cX7_tellAsThing 2 (some .int), .fieldLink RX7 101 "TrickHouse$Article" "gaiety" "I"] ++ wsX70 ++ wsX00)
def wsX7_tell_r1 : List Cond := [Cond.fieldLink RX7 12 "TrickHouse" "house" "LTrickHouse$House;", Cond.fieldLink RX7 89 "TrickHouse$House" "articles" "[LTrickHouse$Article;", Cond.fieldLink RX7 93 "TrickHouse$Article" "kind" "I", Cond.methodLink RX7 86 yX1_isArticle, Cond.instanceMethod yX1_isArticle, Cond.selects RX1 yX1_isArticle yX1_isArticle, Cond.initialized RX1, Cond.code yX1_isArticle cX1_isArticle 2 (some .boolean), Cond.fieldLink RX1 22 "TrickHouse$House" "articleCount" "I", Cond.methodLink RX7 228 yX7_tellAsPerson, Cond.instanceMethod yX7_tellAsPerson, Cond.selects RX7 yX7_tellAsPerson yX7_tellAsPerson, Cond.initialized RX7, Cond.code yX7_tellAsPerson cX7_tellAsPerson 3 (some .int), Cond.methodLink RX7 238 yX7_begin, Cond.instanceMethod yX7_begin, Cond.selects RX7 yX7_begin yX7_begin, Cond.code yX7_begin cX7_begin 2 none, Cond.fieldLink RX7 48 "TrickHouse" "traced" "I", Cond.methodLink RX7 232 yX7_tellAsBeast, Cond.instanceMethod yX7_tellAsBeast, Cond.selects RX7 yX7_tellAsBeast yX7_tellAsBeast, Cond.code yX7_tellAsBeast cX7_tellAsBeast 2 (some .int), Cond.methodLink RX7 235 yX7_tellAsThing]
def wsX7_tell_r2 : List Cond := [Cond.instanceMethod yX7_tellAsThing, Cond.selects RX7 yX7_tellAsThing yX7_tellAsThing, Cond.code yX7_tellAsThing cX7_tellAsThing 2 (some .int), Cond.fieldLink RX7 101 "TrickHouse$Article" "gaiety" "I"]
def wsX7_tell : List Cond := .code yX7_tell cX7_tell 3 (some .int) :: ((wsX7_tell_r1 ++ wsX7_tell_r2) ++ wsX70 ++ wsX10 ++ wsX00)
def wsX7_announce : List Cond := .code yX7_announce cX7_announce 2 (some .int) :: ([.fieldLink RX7 12 "TrickHouse" "house" "LTrickHouse$House;", .fieldLink RX7 89 "TrickHouse$House" "articles" "[LTrickHouse$Article;", .fieldLink RX7 93 "TrickHouse$Article" "kind" "I", .methodLink RX7 86 yX1_isArticle, .instanceMethod yX1_isArticle, .selects RX1 yX1_isArticle yX1_isArticle, .initialized RX1, .code yX1_isArticle cX1_isArticle 2 (some .boolean), .fieldLink RX1 22 "TrickHouse$House" "articleCount" "I", .methodLink RX7 238 yX7_begin, .instanceMethod yX7_begin, .selects RX7 yX7_begin yX7_begin, .initialized RX7, .code yX7_begin cX7_begin 2 none, .fieldLink RX7 48 "TrickHouse" "traced" "I"] ++ wsX70 ++ wsX10 ++ wsX00)
def wsX7_as : List Cond := .code yX7_as cX7_as 3 (some .int) :: ([.fieldLink RX7 52 "TrickHouse" "lastFault" "I", .fieldLink RX7 12 "TrickHouse" "house" "LTrickHouse$House;", .fieldLink RX7 89 "TrickHouse$House" "articles" "[LTrickHouse$Article;", .fieldLink RX7 93 "TrickHouse$Article" "kind" "I", .methodLink RX7 86 yX1_isArticle, .instanceMethod yX1_isArticle, .selects RX1 yX1_isArticle yX1_isArticle, .initialized RX1, .code yX1_isArticle cX1_isArticle 2 (some .boolean), .fieldLink RX1 22 "TrickHouse$House" "articleCount" "I", .methodLink RX7 125 yX7_within, .static yX7_within, .initialized RX7, .code yX7_within cX7_within 3 (some .boolean), .methodLink RX7 66 yX7_failed, .instanceMethod yX7_failed, .selects RX7 yX7_failed yX7_failed, .code yX7_failed cX7_failed 2 (some .int)] ++ wsX70 ++ wsX10 ++ wsX00)
def wsX7_trace : List Cond := .code yX7_trace cX7_trace 1 (some .int) :: ([.fieldLink RX7 48 "TrickHouse" "traced" "I"] ++ wsX70)
def wsX7_fault : List Cond := .code yX7_fault cX7_fault 1 (some .int) :: ([.fieldLink RX7 52 "TrickHouse" "lastFault" "I"] ++ wsX70)
def wsX7_many : List Cond := .code yX7_many cX7_many 2 (some .int) :: ([.fieldLink RX7 12 "TrickHouse" "house" "LTrickHouse$House;", .fieldLink RX7 83 "TrickHouse$House" "articleCount" "I", .fieldLink RX7 241 "TrickHouse$House" "roomCount" "I", .fieldLink RX7 111 "TrickHouse$House" "present" "I", .fieldLink RX7 136 "TrickHouse$House" "corner" "I", .fieldLink RX7 21 "TrickHouse" "readings" "LTrickHouse$Readings;", .fieldLink RX7 80 "TrickHouse$Readings" "count" "I", .methodLink RX7 192 yJ6_bitCount_0f7a4, .static yJ6_bitCount_0f7a4, .initialized RJ6, .code yJ6_bitCount_0f7a4 cJ6_bitCount_0f7a4 1 (some .int), .constant RJ6 265 (1431655765), .constant RJ6 266 (858993459), .constant RJ6 267 (252645135)] ++ wsX70 ++ wsX10 ++ wsX30)
def wsX8_init : List Cond := .code yX8_init cX8_init 1 none :: ([.methodLink RX8 1 objectInit, .instanceMethod objectInit, .code objectInit ⟨#[0xb1]⟩ 1 none, .arrayClass .int, .fieldLink RX8 9 "TrickHouseModel" "sorts" "[I", .fieldLink RX8 13 "TrickHouseModel" "sheetLong" "[I", .fieldLink RX8 16 "TrickHouseModel" "cells" "[I", .fieldLink RX8 19 "TrickHouseModel" "spaceOf" "[I", .fieldLink RX8 22 "TrickHouseModel" "kind" "[I", .fieldLink RX8 25 "TrickHouseModel" "bulk" "[I", .fieldLink RX8 28 "TrickHouseModel" "gaiety" "[I", .fieldLink RX8 31 "TrickHouseModel" "longing" "[I", .fieldLink RX8 34 "TrickHouseModel" "readSpace" "[I", .fieldLink RX8 37 "TrickHouseModel" "readKind" "[I", .fieldLink RX8 40 "TrickHouseModel" "readBulk" "[I", .fieldLink RX8 43 "TrickHouseModel" "readGaiety" "[I", .fieldLink RX8 46 "TrickHouseModel" "readLonging" "[I", .fieldLink RX8 49 "TrickHouseModel" "room" "[I", .fieldLink RX8 52 "TrickHouseModel" "firstRoom" "[I", .fieldLink RX8 55 "TrickHouseModel" "filled" "[I", .fieldLink RX8 58 "TrickHouseModel" "readCorner" "[I", .fieldLink RX8 61 "TrickHouseModel" "readHeard" "[I"] ++ wsX80)
def wsX8_fails : List Cond := .code yX8_fails cX8_fails 2 (some .int) :: ([.fieldLink RX8 64 "TrickHouseModel" "fault" "I"] ++ wsX80)
def wsX8_lost : List Cond := .code yX8_lost cX8_lost 2 (some .long) :: ([.fieldLink RX8 64 "TrickHouseModel" "fault" "I", .constantLong RX8 68 (-9223372036854775808)] ++ wsX80)
def wsX8_within : List Cond := .code yX8_within cX8_within 3 (some .boolean) :: ([])
def wsX8_isSheet : List Cond := .code yX8_isSheet cX8_isSheet 1 (some .boolean) :: ([.methodLink RX8 70 yX8_within, .static yX8_within, .initialized RX8, .code yX8_within cX8_within 3 (some .boolean)])
def wsX8_isSort : List Cond := .code yX8_isSort cX8_isSort 1 (some .boolean) :: ([.methodLink RX8 70 yX8_within, .static yX8_within, .initialized RX8, .code yX8_within cX8_within 3 (some .boolean)])
def wsX8_against : List Cond := .code yX8_against cX8_against 5 (some .int) :: ([.fieldLink RX8 9 "TrickHouseModel" "sorts" "[I", .fieldLink RX8 13 "TrickHouseModel" "sheetLong" "[I"] ++ wsX80)
def wsX8_isArticle : List Cond := .code yX8_isArticle cX8_isArticle 2 (some .boolean) :: ([.fieldLink RX8 74 "TrickHouseModel" "articles" "I"] ++ wsX80)
def wsX8_isRoom : List Cond := .code yX8_isRoom cX8_isRoom 2 (some .boolean) :: ([.fieldLink RX8 77 "TrickHouseModel" "rooms" "I"] ++ wsX80)
def wsX8_isCorner : List Cond := .code yX8_isCorner cX8_isCorner 1 (some .boolean) :: ([.methodLink RX8 70 yX8_within, .static yX8_within, .initialized RX8, .code yX8_within cX8_within 3 (some .boolean)])
def wsX8_isSet : List Cond := .code yX8_isSet cX8_isSet 2 (some .boolean) :: ([.fieldLink RX8 74 "TrickHouseModel" "articles" "I"] ++ wsX80)
def wsX8_isOf : List Cond := .code yX8_isOf cX8_isOf 2 (some .boolean) :: ([])
def wsX8_digit : List Cond := .code yX8_digit cX8_digit 4 (some .int) :: ([.fieldLink RX8 80 "TrickHouseModel" "at" "I", .fieldLink RX8 16 "TrickHouseModel" "cells" "[I", .methodLink RX8 70 yX8_within, .static yX8_within, .initialized RX8, .code yX8_within cX8_within 3 (some .boolean)] ++ wsX80)
def wsX8_isSign : List Cond := .code yX8_isSign cX8_isSign 3 (some .boolean) :: ([.fieldLink RX8 80 "TrickHouseModel" "at" "I", .fieldLink RX8 16 "TrickHouseModel" "cells" "[I"] ++ wsX80)
def wsX8_readTheRooms : List Cond := .code yX8_readTheRooms cX8_readTheRooms 3 (some .boolean) :: ([.fieldLink RX8 110 "TrickHouseModel" "readRooms" "I", .fieldLink RX8 34 "TrickHouseModel" "readSpace" "[I", .methodLink RX8 126 yX8_digit, .instanceMethod yX8_digit, .selects RX8 yX8_digit yX8_digit, .initialized RX8, .code yX8_digit cX8_digit 4 (some .int), .fieldLink RX8 80 "TrickHouseModel" "at" "I", .fieldLink RX8 16 "TrickHouseModel" "cells" "[I", .methodLink RX8 70 yX8_within, .static yX8_within, .code yX8_within cX8_within 3 (some .boolean)] ++ wsX80)
def wsX8_readArticle : List Cond := .code yX8_readArticle cX8_readArticle 6 (some .boolean) :: ([.fieldLink RX8 113 "TrickHouseModel" "readArticles" "I", .fieldLink RX8 80 "TrickHouseModel" "at" "I", .fieldLink RX8 16 "TrickHouseModel" "cells" "[I", .fieldLink RX8 37 "TrickHouseModel" "readKind" "[I", .fieldLink RX8 40 "TrickHouseModel" "readBulk" "[I", .fieldLink RX8 43 "TrickHouseModel" "readGaiety" "[I", .fieldLink RX8 46 "TrickHouseModel" "readLonging" "[I", .methodLink RX8 126 yX8_digit, .instanceMethod yX8_digit, .selects RX8 yX8_digit yX8_digit, .initialized RX8, .code yX8_digit cX8_digit 4 (some .int), .methodLink RX8 70 yX8_within, .static yX8_within, .code yX8_within cX8_within 3 (some .boolean)] ++ wsX80)
def wsX8_readCity_r1 : List Cond := [Cond.fieldLink RX8 104 "TrickHouseModel" "readStands" "I", Cond.fieldLink RX8 113 "TrickHouseModel" "readArticles" "I", Cond.fieldLink RX8 80 "TrickHouseModel" "at" "I", Cond.methodLink RX8 122 yX8_isSign, Cond.instanceMethod yX8_isSign, Cond.selects RX8 yX8_isSign yX8_isSign, Cond.initialized RX8, Cond.code yX8_isSign cX8_isSign 3 (some .boolean), Cond.fieldLink RX8 16 "TrickHouseModel" "cells" "[I", Cond.methodLink RX8 126 yX8_digit, Cond.instanceMethod yX8_digit, Cond.selects RX8 yX8_digit yX8_digit, Cond.code yX8_digit cX8_digit 4 (some .int), Cond.methodLink RX8 70 yX8_within, Cond.static yX8_within, Cond.code yX8_within cX8_within 3 (some .boolean), Cond.methodLink RX8 130 yX8_readTheRooms, Cond.instanceMethod yX8_readTheRooms, Cond.selects RX8 yX8_readTheRooms yX8_readTheRooms, Cond.code yX8_readTheRooms cX8_readTheRooms 3 (some .boolean), Cond.fieldLink RX8 110 "TrickHouseModel" "readRooms" "I", Cond.fieldLink RX8 34 "TrickHouseModel" "readSpace" "[I", Cond.methodLink RX8 133 yX8_readArticle, Cond.instanceMethod yX8_readArticle]
def wsX8_readCity_r2 : List Cond := [Cond.selects RX8 yX8_readArticle yX8_readArticle, Cond.code yX8_readArticle cX8_readArticle 6 (some .boolean), Cond.fieldLink RX8 37 "TrickHouseModel" "readKind" "[I", Cond.fieldLink RX8 40 "TrickHouseModel" "readBulk" "[I", Cond.fieldLink RX8 43 "TrickHouseModel" "readGaiety" "[I", Cond.fieldLink RX8 46 "TrickHouseModel" "readLonging" "[I"]
def wsX8_readCity : List Cond := .code yX8_readCity cX8_readCity 4 (some .boolean) :: ((wsX8_readCity_r1 ++ wsX8_readCity_r2) ++ wsX80)
def wsX8_takeCity : List Cond := .code yX8_takeCity cX8_takeCity 2 none :: ([.fieldLink RX8 104 "TrickHouseModel" "readStands" "I", .fieldLink RX8 107 "TrickHouseModel" "stands" "I", .fieldLink RX8 110 "TrickHouseModel" "readRooms" "I", .fieldLink RX8 77 "TrickHouseModel" "rooms" "I", .fieldLink RX8 19 "TrickHouseModel" "spaceOf" "[I", .fieldLink RX8 34 "TrickHouseModel" "readSpace" "[I", .fieldLink RX8 113 "TrickHouseModel" "readArticles" "I", .fieldLink RX8 74 "TrickHouseModel" "articles" "I", .fieldLink RX8 22 "TrickHouseModel" "kind" "[I", .fieldLink RX8 37 "TrickHouseModel" "readKind" "[I", .fieldLink RX8 25 "TrickHouseModel" "bulk" "[I", .fieldLink RX8 40 "TrickHouseModel" "readBulk" "[I", .fieldLink RX8 28 "TrickHouseModel" "gaiety" "[I", .fieldLink RX8 43 "TrickHouseModel" "readGaiety" "[I", .fieldLink RX8 31 "TrickHouseModel" "longing" "[I", .fieldLink RX8 46 "TrickHouseModel" "readLonging" "[I", .fieldLink RX8 116 "TrickHouseModel" "thereNow" "I", .fieldLink RX8 119 "TrickHouseModel" "readings" "I"] ++ wsX80)
def wsX8_city_r1 : List Cond := [Cond.fieldLink RX8 64 "TrickHouseModel" "fault" "I", Cond.fieldLink RX8 80 "TrickHouseModel" "at" "I", Cond.fieldLink RX8 74 "TrickHouseModel" "articles" "I", Cond.methodLink RX8 83 yX8_isSheet, Cond.static yX8_isSheet, Cond.initialized RX8, Cond.code yX8_isSheet cX8_isSheet 1 (some .boolean), Cond.methodLink RX8 70 yX8_within, Cond.static yX8_within, Cond.code yX8_within cX8_within 3 (some .boolean), Cond.methodLink RX8 87 yX8_isSort, Cond.static yX8_isSort, Cond.code yX8_isSort cX8_isSort 1 (some .boolean), Cond.methodLink RX8 90 yX8_against, Cond.instanceMethod yX8_against, Cond.selects RX8 yX8_against yX8_against, Cond.code yX8_against cX8_against 5 (some .int), Cond.fieldLink RX8 9 "TrickHouseModel" "sorts" "[I", Cond.fieldLink RX8 13 "TrickHouseModel" "sheetLong" "[I", Cond.methodLink RX8 94 yX8_fails, Cond.instanceMethod yX8_fails, Cond.selects RX8 yX8_fails yX8_fails, Cond.code yX8_fails cX8_fails 2 (some .int), Cond.methodLink RX8 98 yX8_readCity]
def wsX8_city_r2 : List Cond := [Cond.instanceMethod yX8_readCity, Cond.selects RX8 yX8_readCity yX8_readCity, Cond.code yX8_readCity cX8_readCity 4 (some .boolean), Cond.fieldLink RX8 104 "TrickHouseModel" "readStands" "I", Cond.fieldLink RX8 113 "TrickHouseModel" "readArticles" "I", Cond.methodLink RX8 122 yX8_isSign, Cond.instanceMethod yX8_isSign, Cond.selects RX8 yX8_isSign yX8_isSign, Cond.code yX8_isSign cX8_isSign 3 (some .boolean), Cond.fieldLink RX8 16 "TrickHouseModel" "cells" "[I", Cond.methodLink RX8 126 yX8_digit, Cond.instanceMethod yX8_digit, Cond.selects RX8 yX8_digit yX8_digit, Cond.code yX8_digit cX8_digit 4 (some .int), Cond.methodLink RX8 130 yX8_readTheRooms, Cond.instanceMethod yX8_readTheRooms, Cond.selects RX8 yX8_readTheRooms yX8_readTheRooms, Cond.code yX8_readTheRooms cX8_readTheRooms 3 (some .boolean), Cond.fieldLink RX8 110 "TrickHouseModel" "readRooms" "I", Cond.fieldLink RX8 34 "TrickHouseModel" "readSpace" "[I", Cond.methodLink RX8 133 yX8_readArticle, Cond.instanceMethod yX8_readArticle, Cond.selects RX8 yX8_readArticle yX8_readArticle, Cond.code yX8_readArticle cX8_readArticle 6 (some .boolean)]
def wsX8_city_r3 : List Cond := [Cond.fieldLink RX8 37 "TrickHouseModel" "readKind" "[I", Cond.fieldLink RX8 40 "TrickHouseModel" "readBulk" "[I", Cond.fieldLink RX8 43 "TrickHouseModel" "readGaiety" "[I", Cond.fieldLink RX8 46 "TrickHouseModel" "readLonging" "[I", Cond.methodLink RX8 101 yX8_takeCity, Cond.instanceMethod yX8_takeCity, Cond.selects RX8 yX8_takeCity yX8_takeCity, Cond.code yX8_takeCity cX8_takeCity 2 none, Cond.fieldLink RX8 107 "TrickHouseModel" "stands" "I", Cond.fieldLink RX8 77 "TrickHouseModel" "rooms" "I", Cond.fieldLink RX8 19 "TrickHouseModel" "spaceOf" "[I", Cond.fieldLink RX8 22 "TrickHouseModel" "kind" "[I", Cond.fieldLink RX8 25 "TrickHouseModel" "bulk" "[I", Cond.fieldLink RX8 28 "TrickHouseModel" "gaiety" "[I", Cond.fieldLink RX8 31 "TrickHouseModel" "longing" "[I", Cond.fieldLink RX8 116 "TrickHouseModel" "thereNow" "I", Cond.fieldLink RX8 119 "TrickHouseModel" "readings" "I"]
def wsX8_city : List Cond := .code yX8_city cX8_city 7 (some .int) :: ((wsX8_city_r1 ++ (wsX8_city_r2 ++ wsX8_city_r3)) ++ wsX80)
def wsX8_laughOf : List Cond := .code yX8_laughOf cX8_laughOf 2 (some .int) :: ([.fieldLink RX8 22 "TrickHouseModel" "kind" "[I", .fieldLink RX8 28 "TrickHouseModel" "gaiety" "[I"] ++ wsX80)
def wsX8_laughsOf : List Cond := .code yX8_laughsOf cX8_laughsOf 4 (some .int) :: ([.fieldLink RX8 74 "TrickHouseModel" "articles" "I", .methodLink RX8 136 yX8_isOf, .static yX8_isOf, .initialized RX8, .code yX8_isOf cX8_isOf 2 (some .boolean), .methodLink RX8 139 yX8_laughOf, .instanceMethod yX8_laughOf, .selects RX8 yX8_laughOf yX8_laughOf, .code yX8_laughOf cX8_laughOf 2 (some .int), .fieldLink RX8 22 "TrickHouseModel" "kind" "[I", .fieldLink RX8 28 "TrickHouseModel" "gaiety" "[I"] ++ wsX80)
def wsX8_ofArticle : List Cond := .code yX8_ofArticle cX8_ofArticle 3 (some .int) :: ([.fieldLink RX8 22 "TrickHouseModel" "kind" "[I", .fieldLink RX8 25 "TrickHouseModel" "bulk" "[I", .fieldLink RX8 28 "TrickHouseModel" "gaiety" "[I", .fieldLink RX8 31 "TrickHouseModel" "longing" "[I", .fieldLink RX8 116 "TrickHouseModel" "thereNow" "I", .methodLink RX8 142 yX8_isArticle, .instanceMethod yX8_isArticle, .selects RX8 yX8_isArticle yX8_isArticle, .initialized RX8, .code yX8_isArticle cX8_isArticle 2 (some .boolean), .fieldLink RX8 74 "TrickHouseModel" "articles" "I", .methodLink RX8 139 yX8_laughOf, .instanceMethod yX8_laughOf, .selects RX8 yX8_laughOf yX8_laughOf, .code yX8_laughOf cX8_laughOf 2 (some .int)] ++ wsX80)
def wsX8_space : List Cond := .code yX8_space cX8_space 2 (some .int) :: ([.fieldLink RX8 19 "TrickHouseModel" "spaceOf" "[I", .methodLink RX8 145 yX8_isRoom, .instanceMethod yX8_isRoom, .selects RX8 yX8_isRoom yX8_isRoom, .initialized RX8, .code yX8_isRoom cX8_isRoom 2 (some .boolean), .fieldLink RX8 77 "TrickHouseModel" "rooms" "I"] ++ wsX80)
def wsX8_cheer : List Cond := .code yX8_cheer cX8_cheer 4 (some .int) :: ([.fieldLink RX8 28 "TrickHouseModel" "gaiety" "[I", .methodLink RX8 142 yX8_isArticle, .instanceMethod yX8_isArticle, .selects RX8 yX8_isArticle yX8_isArticle, .initialized RX8, .code yX8_isArticle cX8_isArticle 2 (some .boolean), .fieldLink RX8 74 "TrickHouseModel" "articles" "I", .methodLink RX8 70 yX8_within, .static yX8_within, .code yX8_within cX8_within 3 (some .boolean)] ++ wsX80)
def wsX8_miss : List Cond := .code yX8_miss cX8_miss 4 (some .int) :: ([.fieldLink RX8 31 "TrickHouseModel" "longing" "[I", .methodLink RX8 142 yX8_isArticle, .instanceMethod yX8_isArticle, .selects RX8 yX8_isArticle yX8_isArticle, .initialized RX8, .code yX8_isArticle cX8_isArticle 2 (some .boolean), .fieldLink RX8 74 "TrickHouseModel" "articles" "I", .methodLink RX8 70 yX8_within, .static yX8_within, .code yX8_within cX8_within 3 (some .boolean)] ++ wsX80)
def wsX8_widen : List Cond := .code yX8_widen cX8_widen 4 (some .int) :: ([.fieldLink RX8 19 "TrickHouseModel" "spaceOf" "[I", .methodLink RX8 145 yX8_isRoom, .instanceMethod yX8_isRoom, .selects RX8 yX8_isRoom yX8_isRoom, .initialized RX8, .code yX8_isRoom cX8_isRoom 2 (some .boolean), .fieldLink RX8 77 "TrickHouseModel" "rooms" "I", .methodLink RX8 70 yX8_within, .static yX8_within, .code yX8_within cX8_within 3 (some .boolean)] ++ wsX80)
def wsX8_shift : List Cond := .code yX8_shift cX8_shift 3 (some .int) :: ([.fieldLink RX8 74 "TrickHouseModel" "articles" "I", .fieldLink RX8 107 "TrickHouseModel" "stands" "I", .methodLink RX8 148 yX8_isCorner, .static yX8_isCorner, .initialized RX8, .code yX8_isCorner cX8_isCorner 1 (some .boolean), .methodLink RX8 70 yX8_within, .static yX8_within, .code yX8_within cX8_within 3 (some .boolean)] ++ wsX80)
def wsX8_companyOf : List Cond := .code yX8_companyOf cX8_companyOf 7 (some .int) :: ([.fieldLink RX8 74 "TrickHouseModel" "articles" "I", .fieldLink RX8 31 "TrickHouseModel" "longing" "[I", .methodLink RX8 151 yX8_laughsOf, .instanceMethod yX8_laughsOf, .selects RX8 yX8_laughsOf yX8_laughsOf, .initialized RX8, .code yX8_laughsOf cX8_laughsOf 4 (some .int), .methodLink RX8 136 yX8_isOf, .static yX8_isOf, .code yX8_isOf cX8_isOf 2 (some .boolean), .methodLink RX8 139 yX8_laughOf, .instanceMethod yX8_laughOf, .selects RX8 yX8_laughOf yX8_laughOf, .code yX8_laughOf cX8_laughOf 2 (some .int), .fieldLink RX8 22 "TrickHouseModel" "kind" "[I", .fieldLink RX8 28 "TrickHouseModel" "gaiety" "[I"] ++ wsX80)
def wsX8_there : List Cond := .code yX8_there cX8_there 1 (some .int) :: ([.fieldLink RX8 74 "TrickHouseModel" "articles" "I", .fieldLink RX8 116 "TrickHouseModel" "thereNow" "I"] ++ wsX80)
def wsX8_company : List Cond := .code yX8_company cX8_company 2 (some .int) :: ([.fieldLink RX8 74 "TrickHouseModel" "articles" "I", .methodLink RX8 154 yX8_isSet, .instanceMethod yX8_isSet, .selects RX8 yX8_isSet yX8_isSet, .initialized RX8, .code yX8_isSet cX8_isSet 2 (some .boolean), .methodLink RX8 157 yX8_companyOf, .instanceMethod yX8_companyOf, .selects RX8 yX8_companyOf yX8_companyOf, .code yX8_companyOf cX8_companyOf 7 (some .int), .fieldLink RX8 31 "TrickHouseModel" "longing" "[I", .methodLink RX8 151 yX8_laughsOf, .instanceMethod yX8_laughsOf, .selects RX8 yX8_laughsOf yX8_laughsOf, .code yX8_laughsOf cX8_laughsOf 4 (some .int), .methodLink RX8 136 yX8_isOf, .static yX8_isOf, .code yX8_isOf cX8_isOf 2 (some .boolean), .methodLink RX8 139 yX8_laughOf, .instanceMethod yX8_laughOf, .selects RX8 yX8_laughOf yX8_laughOf, .code yX8_laughOf cX8_laughOf 2 (some .int), .fieldLink RX8 22 "TrickHouseModel" "kind" "[I", .fieldLink RX8 28 "TrickHouseModel" "gaiety" "[I"] ++ wsX80)
def wsX8_comes : List Cond := .code yX8_comes cX8_comes 2 (some .int) :: ([.fieldLink RX8 116 "TrickHouseModel" "thereNow" "I", .methodLink RX8 157 yX8_companyOf, .instanceMethod yX8_companyOf, .selects RX8 yX8_companyOf yX8_companyOf, .initialized RX8, .code yX8_companyOf cX8_companyOf 7 (some .int), .fieldLink RX8 74 "TrickHouseModel" "articles" "I", .fieldLink RX8 31 "TrickHouseModel" "longing" "[I", .methodLink RX8 151 yX8_laughsOf, .instanceMethod yX8_laughsOf, .selects RX8 yX8_laughsOf yX8_laughsOf, .code yX8_laughsOf cX8_laughsOf 4 (some .int), .methodLink RX8 136 yX8_isOf, .static yX8_isOf, .code yX8_isOf cX8_isOf 2 (some .boolean), .methodLink RX8 139 yX8_laughOf, .instanceMethod yX8_laughOf, .selects RX8 yX8_laughOf yX8_laughOf, .code yX8_laughOf cX8_laughOf 2 (some .int), .fieldLink RX8 22 "TrickHouseModel" "kind" "[I", .fieldLink RX8 28 "TrickHouseModel" "gaiety" "[I"] ++ wsX80)
def wsX8_send_r1 : List Cond := [Cond.fieldLink RX8 116 "TrickHouseModel" "thereNow" "I", Cond.methodLink RX8 142 yX8_isArticle, Cond.instanceMethod yX8_isArticle, Cond.selects RX8 yX8_isArticle yX8_isArticle, Cond.initialized RX8, Cond.code yX8_isArticle cX8_isArticle 2 (some .boolean), Cond.fieldLink RX8 74 "TrickHouseModel" "articles" "I", Cond.methodLink RX8 136 yX8_isOf, Cond.static yX8_isOf, Cond.code yX8_isOf cX8_isOf 2 (some .boolean), Cond.methodLink RX8 160 yX8_comes, Cond.instanceMethod yX8_comes, Cond.selects RX8 yX8_comes yX8_comes, Cond.code yX8_comes cX8_comes 2 (some .int), Cond.methodLink RX8 157 yX8_companyOf, Cond.instanceMethod yX8_companyOf, Cond.selects RX8 yX8_companyOf yX8_companyOf, Cond.code yX8_companyOf cX8_companyOf 7 (some .int), Cond.fieldLink RX8 31 "TrickHouseModel" "longing" "[I", Cond.methodLink RX8 151 yX8_laughsOf, Cond.instanceMethod yX8_laughsOf, Cond.selects RX8 yX8_laughsOf yX8_laughsOf, Cond.code yX8_laughsOf cX8_laughsOf 4 (some .int), Cond.methodLink RX8 139 yX8_laughOf]
def wsX8_send_r2 : List Cond := [Cond.instanceMethod yX8_laughOf, Cond.selects RX8 yX8_laughOf yX8_laughOf, Cond.code yX8_laughOf cX8_laughOf 2 (some .int), Cond.fieldLink RX8 22 "TrickHouseModel" "kind" "[I", Cond.fieldLink RX8 28 "TrickHouseModel" "gaiety" "[I"]
def wsX8_send : List Cond := .code yX8_send cX8_send 2 (some .int) :: ((wsX8_send_r1 ++ wsX8_send_r2) ++ wsX80)
def wsX8_call_r1 : List Cond := [Cond.fieldLink RX8 116 "TrickHouseModel" "thereNow" "I", Cond.methodLink RX8 142 yX8_isArticle, Cond.instanceMethod yX8_isArticle, Cond.selects RX8 yX8_isArticle yX8_isArticle, Cond.initialized RX8, Cond.code yX8_isArticle cX8_isArticle 2 (some .boolean), Cond.fieldLink RX8 74 "TrickHouseModel" "articles" "I", Cond.methodLink RX8 136 yX8_isOf, Cond.static yX8_isOf, Cond.code yX8_isOf cX8_isOf 2 (some .boolean), Cond.methodLink RX8 160 yX8_comes, Cond.instanceMethod yX8_comes, Cond.selects RX8 yX8_comes yX8_comes, Cond.code yX8_comes cX8_comes 2 (some .int), Cond.methodLink RX8 157 yX8_companyOf, Cond.instanceMethod yX8_companyOf, Cond.selects RX8 yX8_companyOf yX8_companyOf, Cond.code yX8_companyOf cX8_companyOf 7 (some .int), Cond.fieldLink RX8 31 "TrickHouseModel" "longing" "[I", Cond.methodLink RX8 151 yX8_laughsOf, Cond.instanceMethod yX8_laughsOf, Cond.selects RX8 yX8_laughsOf yX8_laughsOf, Cond.code yX8_laughsOf cX8_laughsOf 4 (some .int), Cond.methodLink RX8 139 yX8_laughOf]
def wsX8_call_r2 : List Cond := [Cond.instanceMethod yX8_laughOf, Cond.selects RX8 yX8_laughOf yX8_laughOf, Cond.code yX8_laughOf cX8_laughOf 2 (some .int), Cond.fieldLink RX8 22 "TrickHouseModel" "kind" "[I", Cond.fieldLink RX8 28 "TrickHouseModel" "gaiety" "[I"]
def wsX8_call : List Cond := .code yX8_call cX8_call 2 (some .int) :: ((wsX8_call_r1 ++ wsX8_call_r2) ++ wsX80)
def wsX8_laughter : List Cond := .code yX8_laughter cX8_laughter 1 (some .int) :: ([.fieldLink RX8 74 "TrickHouseModel" "articles" "I", .fieldLink RX8 116 "TrickHouseModel" "thereNow" "I", .methodLink RX8 151 yX8_laughsOf, .instanceMethod yX8_laughsOf, .selects RX8 yX8_laughsOf yX8_laughsOf, .initialized RX8, .code yX8_laughsOf cX8_laughsOf 4 (some .int), .methodLink RX8 136 yX8_isOf, .static yX8_isOf, .code yX8_isOf cX8_isOf 2 (some .boolean), .methodLink RX8 139 yX8_laughOf, .instanceMethod yX8_laughOf, .selects RX8 yX8_laughOf yX8_laughOf, .code yX8_laughOf cX8_laughOf 2 (some .int), .fieldLink RX8 22 "TrickHouseModel" "kind" "[I", .fieldLink RX8 28 "TrickHouseModel" "gaiety" "[I"] ++ wsX80)
def wsX8_apart : List Cond := .code yX8_apart cX8_apart 2 (some .int) :: ([])
def wsX8_heardAt : List Cond := .code yX8_heardAt cX8_heardAt 4 (some .int) :: ([.fieldLink RX8 107 "TrickHouseModel" "stands" "I", .fieldLink RX8 116 "TrickHouseModel" "thereNow" "I", .methodLink RX8 163 yX8_apart, .static yX8_apart, .initialized RX8, .code yX8_apart cX8_apart 2 (some .int), .methodLink RX8 151 yX8_laughsOf, .instanceMethod yX8_laughsOf, .selects RX8 yX8_laughsOf yX8_laughsOf, .code yX8_laughsOf cX8_laughsOf 4 (some .int), .fieldLink RX8 74 "TrickHouseModel" "articles" "I", .methodLink RX8 136 yX8_isOf, .static yX8_isOf, .code yX8_isOf cX8_isOf 2 (some .boolean), .methodLink RX8 139 yX8_laughOf, .instanceMethod yX8_laughOf, .selects RX8 yX8_laughOf yX8_laughOf, .code yX8_laughOf cX8_laughOf 2 (some .int), .fieldLink RX8 22 "TrickHouseModel" "kind" "[I", .fieldLink RX8 28 "TrickHouseModel" "gaiety" "[I"] ++ wsX80)
def wsX8_heard_r1 : List Cond := [Cond.fieldLink RX8 74 "TrickHouseModel" "articles" "I", Cond.methodLink RX8 148 yX8_isCorner, Cond.static yX8_isCorner, Cond.initialized RX8, Cond.code yX8_isCorner cX8_isCorner 1 (some .boolean), Cond.methodLink RX8 70 yX8_within, Cond.static yX8_within, Cond.code yX8_within cX8_within 3 (some .boolean), Cond.methodLink RX8 167 yX8_heardAt, Cond.instanceMethod yX8_heardAt, Cond.selects RX8 yX8_heardAt yX8_heardAt, Cond.code yX8_heardAt cX8_heardAt 4 (some .int), Cond.fieldLink RX8 107 "TrickHouseModel" "stands" "I", Cond.fieldLink RX8 116 "TrickHouseModel" "thereNow" "I", Cond.methodLink RX8 163 yX8_apart, Cond.static yX8_apart, Cond.code yX8_apart cX8_apart 2 (some .int), Cond.methodLink RX8 151 yX8_laughsOf, Cond.instanceMethod yX8_laughsOf, Cond.selects RX8 yX8_laughsOf yX8_laughsOf, Cond.code yX8_laughsOf cX8_laughsOf 4 (some .int), Cond.methodLink RX8 136 yX8_isOf, Cond.static yX8_isOf, Cond.code yX8_isOf cX8_isOf 2 (some .boolean)]
def wsX8_heard_r2 : List Cond := [Cond.methodLink RX8 139 yX8_laughOf, Cond.instanceMethod yX8_laughOf, Cond.selects RX8 yX8_laughOf yX8_laughOf, Cond.code yX8_laughOf cX8_laughOf 2 (some .int), Cond.fieldLink RX8 22 "TrickHouseModel" "kind" "[I", Cond.fieldLink RX8 28 "TrickHouseModel" "gaiety" "[I"]
def wsX8_heard : List Cond := .code yX8_heard cX8_heard 2 (some .int) :: ((wsX8_heard_r1 ++ wsX8_heard_r2) ++ wsX80)
def wsX8_size : List Cond := .code yX8_size cX8_size 3 (some .int) :: ([])
def wsX8_goYear_r1 : List Cond := [Cond.fieldLink RX8 170 "TrickHouseModel" "away" "I", Cond.fieldLink RX8 173 "TrickHouseModel" "loudest" "I", Cond.fieldLink RX8 16 "TrickHouseModel" "cells" "[I", Cond.fieldLink RX8 116 "TrickHouseModel" "thereNow" "I", Cond.methodLink RX8 136 yX8_isOf, Cond.static yX8_isOf, Cond.initialized RX8, Cond.code yX8_isOf cX8_isOf 2 (some .boolean), Cond.methodLink RX8 160 yX8_comes, Cond.instanceMethod yX8_comes, Cond.selects RX8 yX8_comes yX8_comes, Cond.code yX8_comes cX8_comes 2 (some .int), Cond.methodLink RX8 157 yX8_companyOf, Cond.instanceMethod yX8_companyOf, Cond.selects RX8 yX8_companyOf yX8_companyOf, Cond.code yX8_companyOf cX8_companyOf 7 (some .int), Cond.fieldLink RX8 74 "TrickHouseModel" "articles" "I", Cond.fieldLink RX8 31 "TrickHouseModel" "longing" "[I", Cond.methodLink RX8 151 yX8_laughsOf, Cond.instanceMethod yX8_laughsOf, Cond.selects RX8 yX8_laughsOf yX8_laughsOf, Cond.code yX8_laughsOf cX8_laughsOf 4 (some .int), Cond.methodLink RX8 139 yX8_laughOf, Cond.instanceMethod yX8_laughOf]
def wsX8_goYear_r2 : List Cond := [Cond.selects RX8 yX8_laughOf yX8_laughOf, Cond.code yX8_laughOf cX8_laughOf 2 (some .int), Cond.fieldLink RX8 22 "TrickHouseModel" "kind" "[I", Cond.fieldLink RX8 28 "TrickHouseModel" "gaiety" "[I", Cond.methodLink RX8 176 yX8_size, Cond.static yX8_size, Cond.code yX8_size cX8_size 3 (some .int)]
def wsX8_goYear : List Cond := .code yX8_goYear cX8_goYear 7 (some .int) :: ((wsX8_goYear_r1 ++ wsX8_goYear_r2) ++ wsX80)
def wsX8_tellYear : List Cond := .code yX8_tellYear cX8_tellYear 2 (some .int) :: ([.fieldLink RX8 116 "TrickHouseModel" "thereNow" "I", .fieldLink RX8 170 "TrickHouseModel" "away" "I", .fieldLink RX8 173 "TrickHouseModel" "loudest" "I", .methodLink RX8 176 yX8_size, .static yX8_size, .initialized RX8, .code yX8_size cX8_size 3 (some .int), .methodLink RX8 151 yX8_laughsOf, .instanceMethod yX8_laughsOf, .selects RX8 yX8_laughsOf yX8_laughsOf, .code yX8_laughsOf cX8_laughsOf 4 (some .int), .fieldLink RX8 74 "TrickHouseModel" "articles" "I", .methodLink RX8 136 yX8_isOf, .static yX8_isOf, .code yX8_isOf cX8_isOf 2 (some .boolean), .methodLink RX8 139 yX8_laughOf, .instanceMethod yX8_laughOf, .selects RX8 yX8_laughOf yX8_laughOf, .code yX8_laughOf cX8_laughOf 2 (some .int), .fieldLink RX8 22 "TrickHouseModel" "kind" "[I", .fieldLink RX8 28 "TrickHouseModel" "gaiety" "[I"] ++ wsX80)
def wsX8_year_r1 : List Cond := [Cond.fieldLink RX8 64 "TrickHouseModel" "fault" "I", Cond.fieldLink RX8 74 "TrickHouseModel" "articles" "I", Cond.fieldLink RX8 16 "TrickHouseModel" "cells" "[I", Cond.fieldLink RX8 116 "TrickHouseModel" "thereNow" "I", Cond.methodLink RX8 83 yX8_isSheet, Cond.static yX8_isSheet, Cond.initialized RX8, Cond.code yX8_isSheet cX8_isSheet 1 (some .boolean), Cond.methodLink RX8 70 yX8_within, Cond.static yX8_within, Cond.code yX8_within cX8_within 3 (some .boolean), Cond.methodLink RX8 87 yX8_isSort, Cond.static yX8_isSort, Cond.code yX8_isSort cX8_isSort 1 (some .boolean), Cond.methodLink RX8 90 yX8_against, Cond.instanceMethod yX8_against, Cond.selects RX8 yX8_against yX8_against, Cond.code yX8_against cX8_against 5 (some .int), Cond.fieldLink RX8 9 "TrickHouseModel" "sorts" "[I", Cond.fieldLink RX8 13 "TrickHouseModel" "sheetLong" "[I", Cond.methodLink RX8 94 yX8_fails, Cond.instanceMethod yX8_fails, Cond.selects RX8 yX8_fails yX8_fails, Cond.code yX8_fails cX8_fails 2 (some .int)]
def wsX8_year_r2 : List Cond := [Cond.methodLink RX8 142 yX8_isArticle, Cond.instanceMethod yX8_isArticle, Cond.selects RX8 yX8_isArticle yX8_isArticle, Cond.code yX8_isArticle cX8_isArticle 2 (some .boolean), Cond.methodLink RX8 179 yX8_goYear, Cond.instanceMethod yX8_goYear, Cond.selects RX8 yX8_goYear yX8_goYear, Cond.code yX8_goYear cX8_goYear 7 (some .int), Cond.fieldLink RX8 170 "TrickHouseModel" "away" "I", Cond.fieldLink RX8 173 "TrickHouseModel" "loudest" "I", Cond.methodLink RX8 136 yX8_isOf, Cond.static yX8_isOf, Cond.code yX8_isOf cX8_isOf 2 (some .boolean), Cond.methodLink RX8 160 yX8_comes, Cond.instanceMethod yX8_comes, Cond.selects RX8 yX8_comes yX8_comes, Cond.code yX8_comes cX8_comes 2 (some .int), Cond.methodLink RX8 157 yX8_companyOf, Cond.instanceMethod yX8_companyOf, Cond.selects RX8 yX8_companyOf yX8_companyOf, Cond.code yX8_companyOf cX8_companyOf 7 (some .int), Cond.fieldLink RX8 31 "TrickHouseModel" "longing" "[I", Cond.methodLink RX8 151 yX8_laughsOf, Cond.instanceMethod yX8_laughsOf]
def wsX8_year_r3 : List Cond := [Cond.selects RX8 yX8_laughsOf yX8_laughsOf, Cond.code yX8_laughsOf cX8_laughsOf 4 (some .int), Cond.methodLink RX8 139 yX8_laughOf, Cond.instanceMethod yX8_laughOf, Cond.selects RX8 yX8_laughOf yX8_laughOf, Cond.code yX8_laughOf cX8_laughOf 2 (some .int), Cond.fieldLink RX8 22 "TrickHouseModel" "kind" "[I", Cond.fieldLink RX8 28 "TrickHouseModel" "gaiety" "[I", Cond.methodLink RX8 176 yX8_size, Cond.static yX8_size, Cond.code yX8_size cX8_size 3 (some .int), Cond.methodLink RX8 182 yX8_tellYear, Cond.instanceMethod yX8_tellYear, Cond.selects RX8 yX8_tellYear yX8_tellYear, Cond.code yX8_tellYear cX8_tellYear 2 (some .int)]
def wsX8_year : List Cond := .code yX8_year cX8_year 11 (some .int) :: ((wsX8_year_r1 ++ (wsX8_year_r2 ++ wsX8_year_r3)) ++ wsX80)
def wsX8_holds : List Cond := .code yX8_holds cX8_holds 5 (some .boolean) :: ([.fieldLink RX8 77 "TrickHouseModel" "rooms" "I", .fieldLink RX8 55 "TrickHouseModel" "filled" "[I", .fieldLink RX8 74 "TrickHouseModel" "articles" "I", .fieldLink RX8 49 "TrickHouseModel" "room" "[I", .fieldLink RX8 25 "TrickHouseModel" "bulk" "[I", .fieldLink RX8 19 "TrickHouseModel" "spaceOf" "[I", .methodLink RX8 136 yX8_isOf, .static yX8_isOf, .initialized RX8, .code yX8_isOf cX8_isOf 2 (some .boolean)] ++ wsX80)
def wsX8_findPacks : List Cond := .code yX8_findPacks cX8_findPacks 5 none :: ([.fieldLink RX8 185 "TrickHouseModel" "packed" "I", .fieldLink RX8 77 "TrickHouseModel" "rooms" "I", .fieldLink RX8 74 "TrickHouseModel" "articles" "I", .fieldLink RX8 52 "TrickHouseModel" "firstRoom" "[I", .fieldLink RX8 49 "TrickHouseModel" "room" "[I", .methodLink RX8 176 yX8_size, .static yX8_size, .initialized RX8, .code yX8_size cX8_size 3 (some .int), .methodLink RX8 188 yX8_holds, .instanceMethod yX8_holds, .selects RX8 yX8_holds yX8_holds, .code yX8_holds cX8_holds 5 (some .boolean), .fieldLink RX8 55 "TrickHouseModel" "filled" "[I", .fieldLink RX8 25 "TrickHouseModel" "bulk" "[I", .fieldLink RX8 19 "TrickHouseModel" "spaceOf" "[I", .methodLink RX8 136 yX8_isOf, .static yX8_isOf, .code yX8_isOf cX8_isOf 2 (some .boolean)] ++ wsX80)
def wsX8_packs_r1 : List Cond := [Cond.fieldLink RX8 74 "TrickHouseModel" "articles" "I", Cond.fieldLink RX8 185 "TrickHouseModel" "packed" "I", Cond.fieldLink RX8 52 "TrickHouseModel" "firstRoom" "[I", Cond.methodLink RX8 154 yX8_isSet, Cond.instanceMethod yX8_isSet, Cond.selects RX8 yX8_isSet yX8_isSet, Cond.initialized RX8, Cond.code yX8_isSet cX8_isSet 2 (some .boolean), Cond.methodLink RX8 70 yX8_within, Cond.static yX8_within, Cond.code yX8_within cX8_within 3 (some .boolean), Cond.methodLink RX8 191 yX8_findPacks, Cond.instanceMethod yX8_findPacks, Cond.selects RX8 yX8_findPacks yX8_findPacks, Cond.code yX8_findPacks cX8_findPacks 5 none, Cond.fieldLink RX8 77 "TrickHouseModel" "rooms" "I", Cond.fieldLink RX8 49 "TrickHouseModel" "room" "[I", Cond.methodLink RX8 176 yX8_size, Cond.static yX8_size, Cond.code yX8_size cX8_size 3 (some .int), Cond.methodLink RX8 188 yX8_holds, Cond.instanceMethod yX8_holds, Cond.selects RX8 yX8_holds yX8_holds, Cond.code yX8_holds cX8_holds 5 (some .boolean)]
def wsX8_packs_r2 : List Cond := [Cond.fieldLink RX8 55 "TrickHouseModel" "filled" "[I", Cond.fieldLink RX8 25 "TrickHouseModel" "bulk" "[I", Cond.fieldLink RX8 19 "TrickHouseModel" "spaceOf" "[I", Cond.methodLink RX8 136 yX8_isOf, Cond.static yX8_isOf, Cond.code yX8_isOf cX8_isOf 2 (some .boolean), Cond.methodLink RX8 142 yX8_isArticle, Cond.instanceMethod yX8_isArticle, Cond.selects RX8 yX8_isArticle yX8_isArticle, Cond.code yX8_isArticle cX8_isArticle 2 (some .boolean)]
def wsX8_packs : List Cond := .code yX8_packs cX8_packs 3 (some .int) :: ((wsX8_packs_r1 ++ wsX8_packs_r2) ++ wsX80)
def wsX8_fewestFor : List Cond := .code yX8_fewestFor cX8_fewestFor 6 (some .int) :: ([.fieldLink RX8 74 "TrickHouseModel" "articles" "I", .fieldLink RX8 116 "TrickHouseModel" "thereNow" "I", .methodLink RX8 176 yX8_size, .static yX8_size, .initialized RX8, .code yX8_size cX8_size 3 (some .int), .methodLink RX8 157 yX8_companyOf, .instanceMethod yX8_companyOf, .selects RX8 yX8_companyOf yX8_companyOf, .code yX8_companyOf cX8_companyOf 7 (some .int), .fieldLink RX8 31 "TrickHouseModel" "longing" "[I", .methodLink RX8 151 yX8_laughsOf, .instanceMethod yX8_laughsOf, .selects RX8 yX8_laughsOf yX8_laughsOf, .code yX8_laughsOf cX8_laughsOf 4 (some .int), .methodLink RX8 136 yX8_isOf, .static yX8_isOf, .code yX8_isOf cX8_isOf 2 (some .boolean), .methodLink RX8 139 yX8_laughOf, .instanceMethod yX8_laughOf, .selects RX8 yX8_laughOf yX8_laughOf, .code yX8_laughOf cX8_laughOf 2 (some .int), .fieldLink RX8 22 "TrickHouseModel" "kind" "[I", .fieldLink RX8 28 "TrickHouseModel" "gaiety" "[I"] ++ wsX80)
def wsX8_fetch_r1 : List Cond := [Cond.fieldLink RX8 74 "TrickHouseModel" "articles" "I", Cond.fieldLink RX8 116 "TrickHouseModel" "thereNow" "I", Cond.methodLink RX8 154 yX8_isSet, Cond.instanceMethod yX8_isSet, Cond.selects RX8 yX8_isSet yX8_isSet, Cond.initialized RX8, Cond.code yX8_isSet cX8_isSet 2 (some .boolean), Cond.methodLink RX8 195 yX8_fewestFor, Cond.instanceMethod yX8_fewestFor, Cond.selects RX8 yX8_fewestFor yX8_fewestFor, Cond.code yX8_fewestFor cX8_fewestFor 6 (some .int), Cond.methodLink RX8 176 yX8_size, Cond.static yX8_size, Cond.code yX8_size cX8_size 3 (some .int), Cond.methodLink RX8 157 yX8_companyOf, Cond.instanceMethod yX8_companyOf, Cond.selects RX8 yX8_companyOf yX8_companyOf, Cond.code yX8_companyOf cX8_companyOf 7 (some .int), Cond.fieldLink RX8 31 "TrickHouseModel" "longing" "[I", Cond.methodLink RX8 151 yX8_laughsOf, Cond.instanceMethod yX8_laughsOf, Cond.selects RX8 yX8_laughsOf yX8_laughsOf, Cond.code yX8_laughsOf cX8_laughsOf 4 (some .int), Cond.methodLink RX8 136 yX8_isOf]
def wsX8_fetch_r2 : List Cond := [Cond.static yX8_isOf, Cond.code yX8_isOf cX8_isOf 2 (some .boolean), Cond.methodLink RX8 139 yX8_laughOf, Cond.instanceMethod yX8_laughOf, Cond.selects RX8 yX8_laughOf yX8_laughOf, Cond.code yX8_laughOf cX8_laughOf 2 (some .int), Cond.fieldLink RX8 22 "TrickHouseModel" "kind" "[I", Cond.fieldLink RX8 28 "TrickHouseModel" "gaiety" "[I"]
def wsX8_fetch : List Cond := .code yX8_fetch cX8_fetch 2 (some .int) :: ((wsX8_fetch_r1 ++ wsX8_fetch_r2) ++ wsX80)
def wsX8_lure_r1 : List Cond := [Cond.fieldLink RX8 116 "TrickHouseModel" "thereNow" "I", Cond.methodLink RX8 142 yX8_isArticle, Cond.instanceMethod yX8_isArticle, Cond.selects RX8 yX8_isArticle yX8_isArticle, Cond.initialized RX8, Cond.code yX8_isArticle cX8_isArticle 2 (some .boolean), Cond.fieldLink RX8 74 "TrickHouseModel" "articles" "I", Cond.methodLink RX8 136 yX8_isOf, Cond.static yX8_isOf, Cond.code yX8_isOf cX8_isOf 2 (some .boolean), Cond.methodLink RX8 195 yX8_fewestFor, Cond.instanceMethod yX8_fewestFor, Cond.selects RX8 yX8_fewestFor yX8_fewestFor, Cond.code yX8_fewestFor cX8_fewestFor 6 (some .int), Cond.methodLink RX8 176 yX8_size, Cond.static yX8_size, Cond.code yX8_size cX8_size 3 (some .int), Cond.methodLink RX8 157 yX8_companyOf, Cond.instanceMethod yX8_companyOf, Cond.selects RX8 yX8_companyOf yX8_companyOf, Cond.code yX8_companyOf cX8_companyOf 7 (some .int), Cond.fieldLink RX8 31 "TrickHouseModel" "longing" "[I", Cond.methodLink RX8 151 yX8_laughsOf, Cond.instanceMethod yX8_laughsOf]
def wsX8_lure_r2 : List Cond := [Cond.selects RX8 yX8_laughsOf yX8_laughsOf, Cond.code yX8_laughsOf cX8_laughsOf 4 (some .int), Cond.methodLink RX8 139 yX8_laughOf, Cond.instanceMethod yX8_laughOf, Cond.selects RX8 yX8_laughOf yX8_laughOf, Cond.code yX8_laughOf cX8_laughOf 2 (some .int), Cond.fieldLink RX8 22 "TrickHouseModel" "kind" "[I", Cond.fieldLink RX8 28 "TrickHouseModel" "gaiety" "[I"]
def wsX8_lure : List Cond := .code yX8_lure cX8_lure 2 (some .int) :: ((wsX8_lure_r1 ++ wsX8_lure_r2) ++ wsX80)
def wsX8_reading : List Cond := .code yX8_reading cX8_reading 3 (some .int) :: ([.fieldLink RX8 74 "TrickHouseModel" "articles" "I", .fieldLink RX8 119 "TrickHouseModel" "readings" "I", .fieldLink RX8 58 "TrickHouseModel" "readCorner" "[I", .fieldLink RX8 61 "TrickHouseModel" "readHeard" "[I", .methodLink RX8 148 yX8_isCorner, .static yX8_isCorner, .initialized RX8, .code yX8_isCorner cX8_isCorner 1 (some .boolean), .methodLink RX8 70 yX8_within, .static yX8_within, .code yX8_within cX8_within 3 (some .boolean)] ++ wsX80)
def wsX8_back : List Cond := .code yX8_back cX8_back 2 (some .int) :: ([.fieldLink RX8 119 "TrickHouseModel" "readings" "I", .methodLink RX8 70 yX8_within, .static yX8_within, .initialized RX8, .code yX8_within cX8_within 3 (some .boolean)] ++ wsX80)
def wsX8_areSo_r1 : List Cond := [Cond.fieldLink RX8 119 "TrickHouseModel" "readings" "I", Cond.fieldLink RX8 58 "TrickHouseModel" "readCorner" "[I", Cond.fieldLink RX8 61 "TrickHouseModel" "readHeard" "[I", Cond.methodLink RX8 167 yX8_heardAt, Cond.instanceMethod yX8_heardAt, Cond.selects RX8 yX8_heardAt yX8_heardAt, Cond.initialized RX8, Cond.code yX8_heardAt cX8_heardAt 4 (some .int), Cond.fieldLink RX8 107 "TrickHouseModel" "stands" "I", Cond.fieldLink RX8 116 "TrickHouseModel" "thereNow" "I", Cond.methodLink RX8 163 yX8_apart, Cond.static yX8_apart, Cond.code yX8_apart cX8_apart 2 (some .int), Cond.methodLink RX8 151 yX8_laughsOf, Cond.instanceMethod yX8_laughsOf, Cond.selects RX8 yX8_laughsOf yX8_laughsOf, Cond.code yX8_laughsOf cX8_laughsOf 4 (some .int), Cond.fieldLink RX8 74 "TrickHouseModel" "articles" "I", Cond.methodLink RX8 136 yX8_isOf, Cond.static yX8_isOf, Cond.code yX8_isOf cX8_isOf 2 (some .boolean), Cond.methodLink RX8 139 yX8_laughOf, Cond.instanceMethod yX8_laughOf, Cond.selects RX8 yX8_laughOf yX8_laughOf]
def wsX8_areSo_r2 : List Cond := [Cond.code yX8_laughOf cX8_laughOf 2 (some .int), Cond.fieldLink RX8 22 "TrickHouseModel" "kind" "[I", Cond.fieldLink RX8 28 "TrickHouseModel" "gaiety" "[I"]
def wsX8_areSo : List Cond := .code yX8_areSo cX8_areSo 2 (some .boolean) :: ((wsX8_areSo_r1 ++ wsX8_areSo_r2) ++ wsX80)
def wsX8_gaieties_r1 : List Cond := [Cond.fieldLink RX8 28 "TrickHouseModel" "gaiety" "[I", Cond.methodLink RX8 142 yX8_isArticle, Cond.instanceMethod yX8_isArticle, Cond.selects RX8 yX8_isArticle yX8_isArticle, Cond.initialized RX8, Cond.code yX8_isArticle cX8_isArticle 2 (some .boolean), Cond.fieldLink RX8 74 "TrickHouseModel" "articles" "I", Cond.methodLink RX8 198 yX8_areSo, Cond.instanceMethod yX8_areSo, Cond.selects RX8 yX8_areSo yX8_areSo, Cond.code yX8_areSo cX8_areSo 2 (some .boolean), Cond.fieldLink RX8 119 "TrickHouseModel" "readings" "I", Cond.fieldLink RX8 58 "TrickHouseModel" "readCorner" "[I", Cond.fieldLink RX8 61 "TrickHouseModel" "readHeard" "[I", Cond.methodLink RX8 167 yX8_heardAt, Cond.instanceMethod yX8_heardAt, Cond.selects RX8 yX8_heardAt yX8_heardAt, Cond.code yX8_heardAt cX8_heardAt 4 (some .int), Cond.fieldLink RX8 107 "TrickHouseModel" "stands" "I", Cond.fieldLink RX8 116 "TrickHouseModel" "thereNow" "I", Cond.methodLink RX8 163 yX8_apart, Cond.static yX8_apart, Cond.code yX8_apart cX8_apart 2 (some .int), Cond.methodLink RX8 151 yX8_laughsOf]
def wsX8_gaieties_r2 : List Cond := [Cond.instanceMethod yX8_laughsOf, Cond.selects RX8 yX8_laughsOf yX8_laughsOf, Cond.code yX8_laughsOf cX8_laughsOf 4 (some .int), Cond.methodLink RX8 136 yX8_isOf, Cond.static yX8_isOf, Cond.code yX8_isOf cX8_isOf 2 (some .boolean), Cond.methodLink RX8 139 yX8_laughOf, Cond.instanceMethod yX8_laughOf, Cond.selects RX8 yX8_laughOf yX8_laughOf, Cond.code yX8_laughOf cX8_laughOf 2 (some .int), Cond.fieldLink RX8 22 "TrickHouseModel" "kind" "[I"]
def wsX8_gaieties : List Cond := .code yX8_gaieties cX8_gaieties 5 (some .int) :: ((wsX8_gaieties_r1 ++ wsX8_gaieties_r2) ++ wsX80)
def wsX8_kinds_r1 : List Cond := [Cond.fieldLink RX8 22 "TrickHouseModel" "kind" "[I", Cond.methodLink RX8 142 yX8_isArticle, Cond.instanceMethod yX8_isArticle, Cond.selects RX8 yX8_isArticle yX8_isArticle, Cond.initialized RX8, Cond.code yX8_isArticle cX8_isArticle 2 (some .boolean), Cond.fieldLink RX8 74 "TrickHouseModel" "articles" "I", Cond.methodLink RX8 198 yX8_areSo, Cond.instanceMethod yX8_areSo, Cond.selects RX8 yX8_areSo yX8_areSo, Cond.code yX8_areSo cX8_areSo 2 (some .boolean), Cond.fieldLink RX8 119 "TrickHouseModel" "readings" "I", Cond.fieldLink RX8 58 "TrickHouseModel" "readCorner" "[I", Cond.fieldLink RX8 61 "TrickHouseModel" "readHeard" "[I", Cond.methodLink RX8 167 yX8_heardAt, Cond.instanceMethod yX8_heardAt, Cond.selects RX8 yX8_heardAt yX8_heardAt, Cond.code yX8_heardAt cX8_heardAt 4 (some .int), Cond.fieldLink RX8 107 "TrickHouseModel" "stands" "I", Cond.fieldLink RX8 116 "TrickHouseModel" "thereNow" "I", Cond.methodLink RX8 163 yX8_apart, Cond.static yX8_apart, Cond.code yX8_apart cX8_apart 2 (some .int), Cond.methodLink RX8 151 yX8_laughsOf]
def wsX8_kinds_r2 : List Cond := [Cond.instanceMethod yX8_laughsOf, Cond.selects RX8 yX8_laughsOf yX8_laughsOf, Cond.code yX8_laughsOf cX8_laughsOf 4 (some .int), Cond.methodLink RX8 136 yX8_isOf, Cond.static yX8_isOf, Cond.code yX8_isOf cX8_isOf 2 (some .boolean), Cond.methodLink RX8 139 yX8_laughOf, Cond.instanceMethod yX8_laughOf, Cond.selects RX8 yX8_laughOf yX8_laughOf, Cond.code yX8_laughOf cX8_laughOf 2 (some .int), Cond.fieldLink RX8 28 "TrickHouseModel" "gaiety" "[I"]
def wsX8_kinds : List Cond := .code yX8_kinds cX8_kinds 5 (some .int) :: ((wsX8_kinds_r1 ++ wsX8_kinds_r2) ++ wsX80)
def wsX8_wheres_r1 : List Cond := [Cond.fieldLink RX8 74 "TrickHouseModel" "articles" "I", Cond.constantLong RX8 68 (-9223372036854775808), Cond.fieldLink RX8 107 "TrickHouseModel" "stands" "I", Cond.methodLink RX8 70 yX8_within, Cond.static yX8_within, Cond.initialized RX8, Cond.code yX8_within cX8_within 3 (some .boolean), Cond.methodLink RX8 198 yX8_areSo, Cond.instanceMethod yX8_areSo, Cond.selects RX8 yX8_areSo yX8_areSo, Cond.code yX8_areSo cX8_areSo 2 (some .boolean), Cond.fieldLink RX8 119 "TrickHouseModel" "readings" "I", Cond.fieldLink RX8 58 "TrickHouseModel" "readCorner" "[I", Cond.fieldLink RX8 61 "TrickHouseModel" "readHeard" "[I", Cond.methodLink RX8 167 yX8_heardAt, Cond.instanceMethod yX8_heardAt, Cond.selects RX8 yX8_heardAt yX8_heardAt, Cond.code yX8_heardAt cX8_heardAt 4 (some .int), Cond.fieldLink RX8 116 "TrickHouseModel" "thereNow" "I", Cond.methodLink RX8 163 yX8_apart, Cond.static yX8_apart, Cond.code yX8_apart cX8_apart 2 (some .int), Cond.methodLink RX8 151 yX8_laughsOf, Cond.instanceMethod yX8_laughsOf]
def wsX8_wheres_r2 : List Cond := [Cond.selects RX8 yX8_laughsOf yX8_laughsOf, Cond.code yX8_laughsOf cX8_laughsOf 4 (some .int), Cond.methodLink RX8 136 yX8_isOf, Cond.static yX8_isOf, Cond.code yX8_isOf cX8_isOf 2 (some .boolean), Cond.methodLink RX8 139 yX8_laughOf, Cond.instanceMethod yX8_laughOf, Cond.selects RX8 yX8_laughOf yX8_laughOf, Cond.code yX8_laughOf cX8_laughOf 2 (some .int), Cond.fieldLink RX8 22 "TrickHouseModel" "kind" "[I", Cond.fieldLink RX8 28 "TrickHouseModel" "gaiety" "[I"]
def wsX8_wheres : List Cond := .code yX8_wheres cX8_wheres 6 (some .long) :: ((wsX8_wheres_r1 ++ wsX8_wheres_r2) ++ wsX80)
def wsX8_inLeastTerms : List Cond := .code yX8_inLeastTerms cX8_inLeastTerms 11 (some .long) :: ([])
def wsX8_odds_r1 : List Cond := [Cond.fieldLink RX8 116 "TrickHouseModel" "thereNow" "I", Cond.constantLong RX8 68 (-9223372036854775808), Cond.fieldLink RX8 74 "TrickHouseModel" "articles" "I", Cond.methodLink RX8 142 yX8_isArticle, Cond.instanceMethod yX8_isArticle, Cond.selects RX8 yX8_isArticle yX8_isArticle, Cond.initialized RX8, Cond.code yX8_isArticle cX8_isArticle 2 (some .boolean), Cond.methodLink RX8 70 yX8_within, Cond.static yX8_within, Cond.code yX8_within cX8_within 3 (some .boolean), Cond.methodLink RX8 136 yX8_isOf, Cond.static yX8_isOf, Cond.code yX8_isOf cX8_isOf 2 (some .boolean), Cond.methodLink RX8 157 yX8_companyOf, Cond.instanceMethod yX8_companyOf, Cond.selects RX8 yX8_companyOf yX8_companyOf, Cond.code yX8_companyOf cX8_companyOf 7 (some .int), Cond.fieldLink RX8 31 "TrickHouseModel" "longing" "[I", Cond.methodLink RX8 151 yX8_laughsOf, Cond.instanceMethod yX8_laughsOf, Cond.selects RX8 yX8_laughsOf yX8_laughsOf, Cond.code yX8_laughsOf cX8_laughsOf 4 (some .int), Cond.methodLink RX8 139 yX8_laughOf]
def wsX8_odds_r2 : List Cond := [Cond.instanceMethod yX8_laughOf, Cond.selects RX8 yX8_laughOf yX8_laughOf, Cond.code yX8_laughOf cX8_laughOf 2 (some .int), Cond.fieldLink RX8 22 "TrickHouseModel" "kind" "[I", Cond.fieldLink RX8 28 "TrickHouseModel" "gaiety" "[I", Cond.methodLink RX8 202 yX8_inLeastTerms, Cond.static yX8_inLeastTerms, Cond.code yX8_inLeastTerms cX8_inLeastTerms 11 (some .long)]
def wsX8_odds : List Cond := .code yX8_odds cX8_odds 6 (some .long) :: ((wsX8_odds_r1 ++ wsX8_odds_r2) ++ wsX80)
def wsX8_sheet : List Cond := .code yX8_sheet cX8_sheet 5 (some .int) :: ([.fieldLink RX8 64 "TrickHouseModel" "fault" "I", .fieldLink RX8 9 "TrickHouseModel" "sorts" "[I", .fieldLink RX8 13 "TrickHouseModel" "sheetLong" "[I", .fieldLink RX8 16 "TrickHouseModel" "cells" "[I", .methodLink RX8 83 yX8_isSheet, .static yX8_isSheet, .initialized RX8, .code yX8_isSheet cX8_isSheet 1 (some .boolean), .methodLink RX8 70 yX8_within, .static yX8_within, .code yX8_within cX8_within 3 (some .boolean), .methodLink RX8 87 yX8_isSort, .static yX8_isSort, .code yX8_isSort cX8_isSort 1 (some .boolean), .methodLink RX8 94 yX8_fails, .instanceMethod yX8_fails, .selects RX8 yX8_fails yX8_fails, .code yX8_fails cX8_fails 2 (some .int)] ++ wsX80)
def wsX8_lose : List Cond := .code yX8_lose cX8_lose 3 (some .int) :: ([.fieldLink RX8 9 "TrickHouseModel" "sorts" "[I", .methodLink RX8 83 yX8_isSheet, .static yX8_isSheet, .initialized RX8, .code yX8_isSheet cX8_isSheet 1 (some .boolean), .methodLink RX8 70 yX8_within, .static yX8_within, .code yX8_within cX8_within 3 (some .boolean)] ++ wsX80)
def wsX8_put : List Cond := .code yX8_put cX8_put 4 (some .int) :: ([.fieldLink RX8 64 "TrickHouseModel" "fault" "I", .fieldLink RX8 9 "TrickHouseModel" "sorts" "[I", .fieldLink RX8 13 "TrickHouseModel" "sheetLong" "[I", .fieldLink RX8 16 "TrickHouseModel" "cells" "[I", .methodLink RX8 83 yX8_isSheet, .static yX8_isSheet, .initialized RX8, .code yX8_isSheet cX8_isSheet 1 (some .boolean), .methodLink RX8 70 yX8_within, .static yX8_within, .code yX8_within cX8_within 3 (some .boolean), .methodLink RX8 94 yX8_fails, .instanceMethod yX8_fails, .selects RX8 yX8_fails yX8_fails, .code yX8_fails cX8_fails 2 (some .int)] ++ wsX80)
def wsX8_cell : List Cond := .code yX8_cell cX8_cell 4 (some .long) :: ([.fieldLink RX8 64 "TrickHouseModel" "fault" "I", .constantLong RX8 68 (-9223372036854775808), .fieldLink RX8 9 "TrickHouseModel" "sorts" "[I", .fieldLink RX8 13 "TrickHouseModel" "sheetLong" "[I", .fieldLink RX8 16 "TrickHouseModel" "cells" "[I", .methodLink RX8 83 yX8_isSheet, .static yX8_isSheet, .initialized RX8, .code yX8_isSheet cX8_isSheet 1 (some .boolean), .methodLink RX8 70 yX8_within, .static yX8_within, .code yX8_within cX8_within 3 (some .boolean), .methodLink RX8 87 yX8_isSort, .static yX8_isSort, .code yX8_isSort cX8_isSort 1 (some .boolean), .methodLink RX8 206 yX8_lost, .instanceMethod yX8_lost, .selects RX8 yX8_lost yX8_lost, .code yX8_lost cX8_lost 2 (some .long)] ++ wsX80)
def wsX8_copy : List Cond := .code yX8_copy cX8_copy 10 (some .int) :: ([.fieldLink RX8 64 "TrickHouseModel" "fault" "I", .fieldLink RX8 9 "TrickHouseModel" "sorts" "[I", .fieldLink RX8 13 "TrickHouseModel" "sheetLong" "[I", .fieldLink RX8 16 "TrickHouseModel" "cells" "[I", .methodLink RX8 83 yX8_isSheet, .static yX8_isSheet, .initialized RX8, .code yX8_isSheet cX8_isSheet 1 (some .boolean), .methodLink RX8 70 yX8_within, .static yX8_within, .code yX8_within cX8_within 3 (some .boolean), .methodLink RX8 94 yX8_fails, .instanceMethod yX8_fails, .selects RX8 yX8_fails yX8_fails, .code yX8_fails cX8_fails 2 (some .int)] ++ wsX80)
def wsX8_begins : List Cond := .code yX8_begins cX8_begins 2 none :: ([.fieldLink RX8 210 "TrickHouseModel" "trace" "I"] ++ wsX80)
def wsX8_tell : List Cond := .code yX8_tell cX8_tell 3 (some .int) :: ([.fieldLink RX8 28 "TrickHouseModel" "gaiety" "[I", .fieldLink RX8 22 "TrickHouseModel" "kind" "[I", .methodLink RX8 142 yX8_isArticle, .instanceMethod yX8_isArticle, .selects RX8 yX8_isArticle yX8_isArticle, .initialized RX8, .code yX8_isArticle cX8_isArticle 2 (some .boolean), .fieldLink RX8 74 "TrickHouseModel" "articles" "I", .methodLink RX8 213 yX8_begins, .instanceMethod yX8_begins, .selects RX8 yX8_begins yX8_begins, .code yX8_begins cX8_begins 2 none, .fieldLink RX8 210 "TrickHouseModel" "trace" "I"] ++ wsX80)
def wsX8_announce : List Cond := .code yX8_announce cX8_announce 2 (some .int) :: ([.fieldLink RX8 22 "TrickHouseModel" "kind" "[I", .methodLink RX8 142 yX8_isArticle, .instanceMethod yX8_isArticle, .selects RX8 yX8_isArticle yX8_isArticle, .initialized RX8, .code yX8_isArticle cX8_isArticle 2 (some .boolean), .fieldLink RX8 74 "TrickHouseModel" "articles" "I", .methodLink RX8 213 yX8_begins, .instanceMethod yX8_begins, .selects RX8 yX8_begins yX8_begins, .code yX8_begins cX8_begins 2 none, .fieldLink RX8 210 "TrickHouseModel" "trace" "I"] ++ wsX80)
def wsX8_as : List Cond := .code yX8_as cX8_as 3 (some .int) :: ([.fieldLink RX8 64 "TrickHouseModel" "fault" "I", .fieldLink RX8 22 "TrickHouseModel" "kind" "[I", .methodLink RX8 142 yX8_isArticle, .instanceMethod yX8_isArticle, .selects RX8 yX8_isArticle yX8_isArticle, .initialized RX8, .code yX8_isArticle cX8_isArticle 2 (some .boolean), .fieldLink RX8 74 "TrickHouseModel" "articles" "I", .methodLink RX8 70 yX8_within, .static yX8_within, .code yX8_within cX8_within 3 (some .boolean), .methodLink RX8 94 yX8_fails, .instanceMethod yX8_fails, .selects RX8 yX8_fails yX8_fails, .code yX8_fails cX8_fails 2 (some .int)] ++ wsX80)
def wsX8_trace : List Cond := .code yX8_trace cX8_trace 1 (some .int) :: ([.fieldLink RX8 210 "TrickHouseModel" "trace" "I"] ++ wsX80)
def wsX8_fault : List Cond := .code yX8_fault cX8_fault 1 (some .int) :: ([.fieldLink RX8 64 "TrickHouseModel" "fault" "I"] ++ wsX80)
def wsX8_many : List Cond := .code yX8_many cX8_many 2 (some .int) :: ([.fieldLink RX8 74 "TrickHouseModel" "articles" "I", .fieldLink RX8 77 "TrickHouseModel" "rooms" "I", .fieldLink RX8 116 "TrickHouseModel" "thereNow" "I", .fieldLink RX8 107 "TrickHouseModel" "stands" "I", .fieldLink RX8 119 "TrickHouseModel" "readings" "I", .methodLink RX8 176 yX8_size, .static yX8_size, .initialized RX8, .code yX8_size cX8_size 3 (some .int)] ++ wsX80)
def wsJ9_abs_0f7a4 : List Cond := .code yJ9_abs_0f7a4 cJ9_abs_0f7a4 1 (some .int) :: ([])
def wsJ9_max_7cf53 : List Cond := .code yJ9_max_7cf53 cJ9_max_7cf53 2 (some .int) :: ([])
def wsJ9_min_7cf53 : List Cond := .code yJ9_min_7cf53 cJ9_min_7cf53 2 (some .int) :: ([])
def wsL_law_r1 : List Cond := [Cond.classLink RL 7 RX7, Cond.instantiable RX7 7, Cond.initialized RX7, Cond.classLink RL 10 RX8, Cond.instantiable RX8 32, Cond.initialized RX8, Cond.methodLink RL 9 yX7_init, Cond.instanceMethod yX7_init, Cond.code yX7_init cX7_init 2 none, Cond.methodLink RX7 3 objectInit, Cond.instanceMethod objectInit, Cond.code objectInit ⟨#[0xb1]⟩ 1 none, Cond.classLink RX7 9 RX1, Cond.instantiable RX1 6, Cond.initialized RX1, Cond.fieldLink RX7 12 "TrickHouse" "house" "LTrickHouse$House;", Cond.classLink RX7 18 RX3, Cond.instantiable RX3 3, Cond.initialized RX3, Cond.fieldLink RX7 21 "TrickHouse" "readings" "LTrickHouse$Readings;", Cond.classLink RX7 25 RX2, Cond.instantiable RX2 5, Cond.initialized RX2, Cond.fieldLink RX7 30 "TrickHouse" "packing" "LTrickHouse$Packing;"]
def wsL_law_r2 : List Cond := [Cond.classLink RX7 34 RX6, Cond.instantiable RX6 5, Cond.initialized RX6, Cond.fieldLink RX7 37 "TrickHouse" "toldYear" "LTrickHouse$Year;", Cond.classLink RX7 41 RX4, Cond.fieldLink RX7 43 "TrickHouse" "sheets" "[LTrickHouse$Sheet;", Cond.instantiable RX4 3, Cond.initialized RX4, Cond.fieldLink RX7 48 "TrickHouse" "traced" "I", Cond.fieldLink RX7 52 "TrickHouse" "lastFault" "I", Cond.methodLink RX7 11 yX1_init, Cond.instanceMethod yX1_init, Cond.code yX1_init cX1_init 2 none, Cond.methodLink RX1 3 objectInit, Cond.classLink RX1 9 RX0, Cond.fieldLink RX1 11 "TrickHouse$House" "articles" "[LTrickHouse$Article;", Cond.instantiable RX0 4, Cond.initialized RX0, Cond.arrayClass .int, Cond.fieldLink RX1 18 "TrickHouse$House" "spaces" "[I", Cond.instanceMethod yX0_init, Cond.code yX0_init cX0_init 1 none, Cond.methodLink RX0 3 objectInit, Cond.methodLink RX7 20 yX3_init]
def wsL_law_r3 : List Cond := [Cond.instanceMethod yX3_init, Cond.code yX3_init cX3_init 1 none, Cond.methodLink RX3 3 objectInit, Cond.fieldLink RX3 9 "TrickHouse$Readings" "corners" "[I", Cond.fieldLink RX3 15 "TrickHouse$Readings" "values" "[I", Cond.methodLink RX7 27 yX2_init, Cond.instanceMethod yX2_init, Cond.code yX2_init cX2_init 2 none, Cond.methodLink RX2 3 objectInit, Cond.fieldLink RX2 9 "TrickHouse$Packing" "house" "LTrickHouse$House;", Cond.fieldLink RX2 15 "TrickHouse$Packing" "loads" "[I", Cond.fieldLink RX2 19 "TrickHouse$Packing" "tried" "[I", Cond.fieldLink RX2 22 "TrickHouse$Packing" "first" "[I", Cond.methodLink RX7 36 yX6_init, Cond.instanceMethod yX6_init, Cond.code yX6_init cX6_init 2 none, Cond.methodLink RX6 3 objectInit, Cond.fieldLink RX6 9 "TrickHouse$Year" "house" "LTrickHouse$House;", Cond.methodLink RX7 47 yX4_init, Cond.instanceMethod yX4_init, Cond.code yX4_init cX4_init 1 none, Cond.methodLink RX4 3 objectInit, Cond.fieldLink RX4 9 "TrickHouse$Sheet" "cells" "[I", Cond.fieldLink RX4 15 "TrickHouse$Sheet" "lane" "I"]
def wsL_law_r4 : List Cond := [Cond.fieldLink RX4 19 "TrickHouse$Sheet" "size" "I", Cond.methodLink RL 12 yX8_init, Cond.instanceMethod yX8_init, Cond.code yX8_init cX8_init 1 none, Cond.methodLink RX8 1 objectInit, Cond.fieldLink RX8 9 "TrickHouseModel" "sorts" "[I", Cond.fieldLink RX8 13 "TrickHouseModel" "sheetLong" "[I", Cond.fieldLink RX8 16 "TrickHouseModel" "cells" "[I", Cond.fieldLink RX8 19 "TrickHouseModel" "spaceOf" "[I", Cond.fieldLink RX8 22 "TrickHouseModel" "kind" "[I", Cond.fieldLink RX8 25 "TrickHouseModel" "bulk" "[I", Cond.fieldLink RX8 28 "TrickHouseModel" "gaiety" "[I", Cond.fieldLink RX8 31 "TrickHouseModel" "longing" "[I", Cond.fieldLink RX8 34 "TrickHouseModel" "readSpace" "[I", Cond.fieldLink RX8 37 "TrickHouseModel" "readKind" "[I", Cond.fieldLink RX8 40 "TrickHouseModel" "readBulk" "[I", Cond.fieldLink RX8 43 "TrickHouseModel" "readGaiety" "[I", Cond.fieldLink RX8 46 "TrickHouseModel" "readLonging" "[I", Cond.fieldLink RX8 49 "TrickHouseModel" "room" "[I", Cond.fieldLink RX8 52 "TrickHouseModel" "firstRoom" "[I", Cond.fieldLink RX8 55 "TrickHouseModel" "filled" "[I", Cond.fieldLink RX8 58 "TrickHouseModel" "readCorner" "[I", Cond.fieldLink RX8 61 "TrickHouseModel" "readHeard" "[I", Cond.methodLink RL 13 yX7_city]
def wsL_law_r5 : List Cond := [Cond.instanceMethod yX7_city, Cond.selects RX7 yX7_city yX7_city, Cond.code yX7_city cX7_city 8 (some .int), Cond.fieldLink RX7 80 "TrickHouse$Readings" "count" "I", Cond.fieldLink RX7 83 "TrickHouse$House" "articleCount" "I", Cond.methodLink RX7 55 yX7_isSheet, Cond.static yX7_isSheet, Cond.code yX7_isSheet cX7_isSheet 1 (some .boolean), Cond.methodLink RX7 125 yX7_within, Cond.static yX7_within, Cond.code yX7_within cX7_within 3 (some .boolean), Cond.methodLink RX7 59 yX7_isLane, Cond.static yX7_isLane, Cond.code yX7_isLane cX7_isLane 1 (some .boolean), Cond.methodLink RX7 62 yX4_faultOfTaking, Cond.instanceMethod yX4_faultOfTaking, Cond.selects RX4 yX4_faultOfTaking yX4_faultOfTaking, Cond.code yX4_faultOfTaking cX4_faultOfTaking 4 (some .int), Cond.methodLink RX4 31 yX4_hasNothing, Cond.instanceMethod yX4_hasNothing, Cond.selects RX4 yX4_hasNothing yX4_hasNothing, Cond.code yX4_hasNothing cX4_hasNothing 1 (some .boolean), Cond.methodLink RX4 35 yX4_holds, Cond.instanceMethod yX4_holds]
def wsL_law_r6 : List Cond := [Cond.selects RX4 yX4_holds yX4_holds, Cond.code yX4_holds cX4_holds 3 (some .boolean), Cond.methodLink RX7 66 yX7_failed, Cond.instanceMethod yX7_failed, Cond.selects RX7 yX7_failed yX7_failed, Cond.code yX7_failed cX7_failed 2 (some .int), Cond.methodLink RX7 70 yX5_firstFault, Cond.static yX5_firstFault, Cond.initialized RX5, Cond.code yX5_firstFault cX5_firstFault 6 (some .int), Cond.methodLink RX5 9 yX5_roomsIn, Cond.static yX5_roomsIn, Cond.code yX5_roomsIn cX5_roomsIn 5 (some .int), Cond.methodLink RX5 42 Lib.Math.min.name, Cond.static Lib.Math.min.name, Cond.initialized "java/lang/Math", Cond.code Lib.Math.min.name Lib.Math.min.code 2 (some .int), Cond.methodLink RX5 82 Lib.Math.max.name, Cond.static Lib.Math.max.name, Cond.code Lib.Math.max.name Lib.Math.max.code 2 (some .int), Cond.methodLink RX5 15 yX4_at, Cond.instanceMethod yX4_at, Cond.selects RX4 yX4_at yX4_at, Cond.code yX4_at cX4_at 2 (some .int)]
def wsL_law_r7 : List Cond := [Cond.methodLink RX5 79 yX5_isDigit, Cond.static yX5_isDigit, Cond.code yX5_isDigit cX5_isDigit 3 (some .boolean), Cond.methodLink RX5 21 yX5_goesOn, Cond.static yX5_goesOn, Cond.code yX5_goesOn cX5_goesOn 4 (some .boolean), Cond.methodLink RX5 85 yX5_headGoesOn, Cond.static yX5_headGoesOn, Cond.code yX5_headGoesOn cX5_headGoesOn 2 (some .boolean), Cond.methodLink RX5 89 yX5_articleGoesOn, Cond.static yX5_articleGoesOn, Cond.code yX5_articleGoesOn cX5_articleGoesOn 2 (some .boolean), Cond.methodLink RX5 62 yX5_kindOf, Cond.static yX5_kindOf, Cond.code yX5_kindOf cX5_kindOf 1 (some .int), Cond.methodLink RX7 76 yX5_build, Cond.static yX5_build, Cond.code yX5_build cX5_build 7 none, Cond.fieldLink RX5 29 "TrickHouse$House" "corner" "I", Cond.fieldLink RX5 35 "TrickHouse$House" "roomCount" "I", Cond.fieldLink RX5 38 "TrickHouse$House" "spaces" "[I", Cond.fieldLink RX5 48 "TrickHouse$House" "articleCount" "I", Cond.fieldLink RX5 51 "TrickHouse$House" "articles" "[LTrickHouse$Article;", Cond.fieldLink RX5 59 "TrickHouse$House" "present" "I"]
def wsL_law_r8 : List Cond := [Cond.methodLink RX5 25 yX5_digit, Cond.static yX5_digit, Cond.code yX5_digit cX5_digit 2 (some .int), Cond.methodLink RX5 55 yX5_fill, Cond.static yX5_fill, Cond.code yX5_fill cX5_fill 3 none, Cond.fieldLink RX5 65 "TrickHouse$Article" "kind" "I", Cond.fieldLink RX5 70 "TrickHouse$Article" "bulk" "I", Cond.fieldLink RX5 73 "TrickHouse$Article" "gaiety" "I", Cond.fieldLink RX5 76 "TrickHouse$Article" "longing" "I", Cond.methodLink RL 17 yX8_city, Cond.instanceMethod yX8_city, Cond.selects RX8 yX8_city yX8_city, Cond.code yX8_city cX8_city 7 (some .int), Cond.fieldLink RX8 64 "TrickHouseModel" "fault" "I", Cond.fieldLink RX8 80 "TrickHouseModel" "at" "I", Cond.fieldLink RX8 74 "TrickHouseModel" "articles" "I", Cond.methodLink RX8 83 yX8_isSheet, Cond.static yX8_isSheet, Cond.code yX8_isSheet cX8_isSheet 1 (some .boolean), Cond.methodLink RX8 70 yX8_within, Cond.static yX8_within, Cond.code yX8_within cX8_within 3 (some .boolean), Cond.methodLink RX8 87 yX8_isSort]
def wsL_law_r9 : List Cond := [Cond.static yX8_isSort, Cond.code yX8_isSort cX8_isSort 1 (some .boolean), Cond.methodLink RX8 90 yX8_against, Cond.instanceMethod yX8_against, Cond.selects RX8 yX8_against yX8_against, Cond.code yX8_against cX8_against 5 (some .int), Cond.methodLink RX8 94 yX8_fails, Cond.instanceMethod yX8_fails, Cond.selects RX8 yX8_fails yX8_fails, Cond.code yX8_fails cX8_fails 2 (some .int), Cond.methodLink RX8 98 yX8_readCity, Cond.instanceMethod yX8_readCity, Cond.selects RX8 yX8_readCity yX8_readCity, Cond.code yX8_readCity cX8_readCity 4 (some .boolean), Cond.fieldLink RX8 104 "TrickHouseModel" "readStands" "I", Cond.fieldLink RX8 113 "TrickHouseModel" "readArticles" "I", Cond.methodLink RX8 122 yX8_isSign, Cond.instanceMethod yX8_isSign, Cond.selects RX8 yX8_isSign yX8_isSign, Cond.code yX8_isSign cX8_isSign 3 (some .boolean), Cond.methodLink RX8 126 yX8_digit, Cond.instanceMethod yX8_digit, Cond.selects RX8 yX8_digit yX8_digit, Cond.code yX8_digit cX8_digit 4 (some .int)]
def wsL_law_r10 : List Cond := [Cond.methodLink RX8 130 yX8_readTheRooms, Cond.instanceMethod yX8_readTheRooms, Cond.selects RX8 yX8_readTheRooms yX8_readTheRooms, Cond.code yX8_readTheRooms cX8_readTheRooms 3 (some .boolean), Cond.fieldLink RX8 110 "TrickHouseModel" "readRooms" "I", Cond.methodLink RX8 133 yX8_readArticle, Cond.instanceMethod yX8_readArticle, Cond.selects RX8 yX8_readArticle yX8_readArticle, Cond.code yX8_readArticle cX8_readArticle 6 (some .boolean), Cond.methodLink RX8 101 yX8_takeCity, Cond.instanceMethod yX8_takeCity, Cond.selects RX8 yX8_takeCity yX8_takeCity, Cond.code yX8_takeCity cX8_takeCity 2 none, Cond.fieldLink RX8 107 "TrickHouseModel" "stands" "I", Cond.fieldLink RX8 77 "TrickHouseModel" "rooms" "I", Cond.fieldLink RX8 116 "TrickHouseModel" "thereNow" "I", Cond.fieldLink RX8 119 "TrickHouseModel" "readings" "I", Cond.methodLink RL 18 yX7_ofArticle, Cond.instanceMethod yX7_ofArticle, Cond.selects RX7 yX7_ofArticle yX7_ofArticle, Cond.code yX7_ofArticle cX7_ofArticle 4 (some .int), Cond.fieldLink RX7 89 "TrickHouse$House" "articles" "[LTrickHouse$Article;", Cond.fieldLink RX7 93 "TrickHouse$Article" "kind" "I", Cond.fieldLink RX7 98 "TrickHouse$Article" "bulk" "I"]
def wsL_law_r11 : List Cond := [Cond.fieldLink RX7 101 "TrickHouse$Article" "gaiety" "I", Cond.fieldLink RX7 104 "TrickHouse$Article" "longing" "I", Cond.fieldLink RX7 111 "TrickHouse$House" "present" "I", Cond.methodLink RX7 86 yX1_isArticle, Cond.instanceMethod yX1_isArticle, Cond.selects RX1 yX1_isArticle yX1_isArticle, Cond.code yX1_isArticle cX1_isArticle 2 (some .boolean), Cond.fieldLink RX1 22 "TrickHouse$House" "articleCount" "I", Cond.methodLink RX7 107 yX0_laugh, Cond.instanceMethod yX0_laugh, Cond.selects RX0 yX0_laugh yX0_laugh, Cond.code yX0_laugh cX0_laugh 1 (some .int), Cond.fieldLink RX0 9 "TrickHouse$Article" "kind" "I", Cond.fieldLink RX0 15 "TrickHouse$Article" "gaiety" "I", Cond.methodLink RX0 18 yX0_laughOfKind, Cond.static yX0_laughOfKind, Cond.code yX0_laughOfKind cX0_laughOfKind 2 (some .int), Cond.methodLink RX0 22 Lib.Math.max.name, Cond.methodLink RX7 114 yX7_has, Cond.static yX7_has, Cond.code yX7_has cX7_has 2 (some .boolean), Cond.methodLink RL 22 yX8_ofArticle, Cond.instanceMethod yX8_ofArticle, Cond.selects RX8 yX8_ofArticle yX8_ofArticle]
def wsL_law_r12 : List Cond := [Cond.code yX8_ofArticle cX8_ofArticle 3 (some .int), Cond.methodLink RX8 142 yX8_isArticle, Cond.instanceMethod yX8_isArticle, Cond.selects RX8 yX8_isArticle yX8_isArticle, Cond.code yX8_isArticle cX8_isArticle 2 (some .boolean), Cond.methodLink RX8 139 yX8_laughOf, Cond.instanceMethod yX8_laughOf, Cond.selects RX8 yX8_laughOf yX8_laughOf, Cond.code yX8_laughOf cX8_laughOf 2 (some .int), Cond.methodLink RL 23 yX7_space, Cond.instanceMethod yX7_space, Cond.selects RX7 yX7_space yX7_space, Cond.code yX7_space cX7_space 2 (some .int), Cond.fieldLink RX7 121 "TrickHouse$House" "spaces" "[I", Cond.methodLink RX7 118 yX1_isRoom, Cond.instanceMethod yX1_isRoom, Cond.selects RX1 yX1_isRoom yX1_isRoom, Cond.code yX1_isRoom cX1_isRoom 2 (some .boolean), Cond.fieldLink RX1 26 "TrickHouse$House" "roomCount" "I", Cond.methodLink RL 27 yX8_space, Cond.instanceMethod yX8_space, Cond.selects RX8 yX8_space yX8_space, Cond.code yX8_space cX8_space 2 (some .int), Cond.methodLink RX8 145 yX8_isRoom]
def wsL_law_r13 : List Cond := [Cond.instanceMethod yX8_isRoom, Cond.selects RX8 yX8_isRoom yX8_isRoom, Cond.code yX8_isRoom cX8_isRoom 2 (some .boolean), Cond.methodLink RL 28 yX7_cheer, Cond.instanceMethod yX7_cheer, Cond.selects RX7 yX7_cheer yX7_cheer, Cond.code yX7_cheer cX7_cheer 4 (some .int), Cond.methodLink RL 31 yX8_cheer, Cond.instanceMethod yX8_cheer, Cond.selects RX8 yX8_cheer yX8_cheer, Cond.code yX8_cheer cX8_cheer 4 (some .int), Cond.methodLink RL 32 yX7_miss, Cond.instanceMethod yX7_miss, Cond.selects RX7 yX7_miss yX7_miss, Cond.code yX7_miss cX7_miss 4 (some .int), Cond.methodLink RL 35 yX8_miss, Cond.instanceMethod yX8_miss, Cond.selects RX8 yX8_miss yX8_miss, Cond.code yX8_miss cX8_miss 4 (some .int), Cond.methodLink RL 36 yX7_widen, Cond.instanceMethod yX7_widen, Cond.selects RX7 yX7_widen yX7_widen, Cond.code yX7_widen cX7_widen 4 (some .int), Cond.methodLink RL 39 yX8_widen]
def wsL_law_r14 : List Cond := [Cond.instanceMethod yX8_widen, Cond.selects RX8 yX8_widen yX8_widen, Cond.code yX8_widen cX8_widen 4 (some .int), Cond.methodLink RL 40 yX7_shift, Cond.instanceMethod yX7_shift, Cond.selects RX7 yX7_shift yX7_shift, Cond.code yX7_shift cX7_shift 3 (some .int), Cond.fieldLink RX7 136 "TrickHouse$House" "corner" "I", Cond.methodLink RX7 129 yX7_isCorner, Cond.static yX7_isCorner, Cond.code yX7_isCorner cX7_isCorner 1 (some .boolean), Cond.methodLink RX7 132 yX1_stands, Cond.instanceMethod yX1_stands, Cond.selects RX1 yX1_stands yX1_stands, Cond.code yX1_stands cX1_stands 1 (some .boolean), Cond.methodLink RL 43 yX8_shift, Cond.instanceMethod yX8_shift, Cond.selects RX8 yX8_shift yX8_shift, Cond.code yX8_shift cX8_shift 3 (some .int), Cond.methodLink RX8 148 yX8_isCorner, Cond.static yX8_isCorner, Cond.code yX8_isCorner cX8_isCorner 1 (some .boolean), Cond.methodLink RL 44 yX7_there, Cond.instanceMethod yX7_there]
def wsL_law_r15 : List Cond := [Cond.selects RX7 yX7_there yX7_there, Cond.code yX7_there cX7_there 1 (some .int), Cond.methodLink RL 48 yX8_there, Cond.instanceMethod yX8_there, Cond.selects RX8 yX8_there yX8_there, Cond.code yX8_there cX8_there 1 (some .int), Cond.methodLink RL 49 yX7_company, Cond.instanceMethod yX7_company, Cond.selects RX7 yX7_company yX7_company, Cond.code yX7_company cX7_company 2 (some .int), Cond.methodLink RX7 139 yX1_isSet, Cond.instanceMethod yX1_isSet, Cond.selects RX1 yX1_isSet yX1_isSet, Cond.code yX1_isSet cX1_isSet 2 (some .boolean), Cond.methodLink RX7 142 yX1_companyOf, Cond.instanceMethod yX1_companyOf, Cond.selects RX1 yX1_companyOf yX1_companyOf, Cond.code yX1_companyOf cX1_companyOf 5 (some .int), Cond.methodLink RX1 48 yX1_leaversOf, Cond.instanceMethod yX1_leaversOf, Cond.selects RX1 yX1_leaversOf yX1_leaversOf, Cond.code yX1_leaversOf cX1_leaversOf 5 (some .int), Cond.fieldLink RX1 51 "TrickHouse$Article" "longing" "I", Cond.methodLink RX1 40 yX1_laughOf]
def wsL_law_r16 : List Cond := [Cond.instanceMethod yX1_laughOf, Cond.selects RX1 yX1_laughOf yX1_laughOf, Cond.code yX1_laughOf cX1_laughOf 4 (some .int), Cond.methodLink RX1 33 yX0_laugh, Cond.methodLink RL 52 yX8_company, Cond.instanceMethod yX8_company, Cond.selects RX8 yX8_company yX8_company, Cond.code yX8_company cX8_company 2 (some .int), Cond.methodLink RX8 154 yX8_isSet, Cond.instanceMethod yX8_isSet, Cond.selects RX8 yX8_isSet yX8_isSet, Cond.code yX8_isSet cX8_isSet 2 (some .boolean), Cond.methodLink RX8 157 yX8_companyOf, Cond.instanceMethod yX8_companyOf, Cond.selects RX8 yX8_companyOf yX8_companyOf, Cond.code yX8_companyOf cX8_companyOf 7 (some .int), Cond.methodLink RX8 151 yX8_laughsOf, Cond.instanceMethod yX8_laughsOf, Cond.selects RX8 yX8_laughsOf yX8_laughsOf, Cond.code yX8_laughsOf cX8_laughsOf 4 (some .int), Cond.methodLink RX8 136 yX8_isOf, Cond.static yX8_isOf, Cond.code yX8_isOf cX8_isOf 2 (some .boolean), Cond.methodLink RL 53 yX7_send]
def wsL_law_r17 : List Cond := [Cond.instanceMethod yX7_send, Cond.selects RX7 yX7_send yX7_send, Cond.code yX7_send cX7_send 2 (some .int), Cond.methodLink RX7 145 yX1_keepCompanyOf, Cond.instanceMethod yX1_keepCompanyOf, Cond.selects RX1 yX1_keepCompanyOf yX1_keepCompanyOf, Cond.code yX1_keepCompanyOf cX1_keepCompanyOf 2 (some .int), Cond.fieldLink RX1 37 "TrickHouse$House" "present" "I", Cond.methodLink RX1 54 yX1_companyOf, Cond.methodLink RL 56 yX8_send, Cond.instanceMethod yX8_send, Cond.selects RX8 yX8_send yX8_send, Cond.code yX8_send cX8_send 2 (some .int), Cond.methodLink RX8 160 yX8_comes, Cond.instanceMethod yX8_comes, Cond.selects RX8 yX8_comes yX8_comes, Cond.code yX8_comes cX8_comes 2 (some .int), Cond.methodLink RL 57 yX7_call, Cond.instanceMethod yX7_call, Cond.selects RX7 yX7_call yX7_call, Cond.code yX7_call cX7_call 2 (some .int), Cond.methodLink RL 60 yX8_call, Cond.instanceMethod yX8_call, Cond.selects RX8 yX8_call yX8_call]
def wsL_law_r18 : List Cond := [Cond.code yX8_call cX8_call 2 (some .int), Cond.methodLink RL 61 yX7_laughter, Cond.instanceMethod yX7_laughter, Cond.selects RX7 yX7_laughter yX7_laughter, Cond.code yX7_laughter cX7_laughter 1 (some .int), Cond.methodLink RX7 148 yX1_laughOf, Cond.methodLink RL 64 yX8_laughter, Cond.instanceMethod yX8_laughter, Cond.selects RX8 yX8_laughter yX8_laughter, Cond.code yX8_laughter cX8_laughter 1 (some .int), Cond.methodLink RL 65 yX7_heard, Cond.instanceMethod yX7_heard, Cond.selects RX7 yX7_heard yX7_heard, Cond.code yX7_heard cX7_heard 2 (some .int), Cond.methodLink RX7 151 yX7_carried, Cond.static yX7_carried, Cond.code yX7_carried cX7_carried 5 (some .int), Cond.methodLink RX7 244 Lib.Math.abs.name, Cond.static Lib.Math.abs.name, Cond.code Lib.Math.abs.name Lib.Math.abs.code 1 (some .int), Cond.methodLink RX7 249 Lib.Math.max.name, Cond.methodLink RL 68 yX8_heard, Cond.instanceMethod yX8_heard, Cond.selects RX8 yX8_heard yX8_heard]
def wsL_law_r19 : List Cond := [Cond.code yX8_heard cX8_heard 2 (some .int), Cond.methodLink RX8 167 yX8_heardAt, Cond.instanceMethod yX8_heardAt, Cond.selects RX8 yX8_heardAt yX8_heardAt, Cond.code yX8_heardAt cX8_heardAt 4 (some .int), Cond.methodLink RX8 163 yX8_apart, Cond.static yX8_apart, Cond.code yX8_apart cX8_apart 2 (some .int), Cond.methodLink RL 69 yX7_year, Cond.instanceMethod yX7_year, Cond.selects RX7 yX7_year yX7_year, Cond.code yX7_year cX7_year 9 (some .int), Cond.methodLink RX7 154 yX6_refusalOf, Cond.instanceMethod yX6_refusalOf, Cond.selects RX6 yX6_refusalOf yX6_refusalOf, Cond.code yX6_refusalOf cX6_refusalOf 5 (some .int), Cond.methodLink RX6 15 yX4_at, Cond.methodLink RX6 21 yX1_isArticle, Cond.methodLink RX7 157 yX6_run, Cond.instanceMethod yX6_run, Cond.selects RX6 yX6_run yX6_run, Cond.code yX6_run cX6_run 7 none, Cond.fieldLink RX6 31 "TrickHouse$House" "present" "I", Cond.fieldLink RX6 35 "TrickHouse$Year" "present" "I"]
def wsL_law_r20 : List Cond := [Cond.fieldLink RX6 36 "TrickHouse$Year" "away" "I", Cond.fieldLink RX6 39 "TrickHouse$Year" "greatest" "I", Cond.fieldLink RX6 42 "TrickHouse$Year" "wrong" "I", Cond.methodLink RX6 49 yX6_go, Cond.instanceMethod yX6_go, Cond.selects RX6 yX6_go yX6_go, Cond.code yX6_go cX6_go 2 none, Cond.methodLink RX6 64 Lib.Math.max.name, Cond.methodLink RX6 53 yX1_companyOf, Cond.methodLink RX6 56 yJ6_bitCount_0f7a4, Cond.static yJ6_bitCount_0f7a4, Cond.initialized RJ6, Cond.code yJ6_bitCount_0f7a4 cJ6_bitCount_0f7a4 1 (some .int), Cond.constant RJ6 265 (1431655765), Cond.constant RJ6 266 (858993459), Cond.constant RJ6 267 (252645135), Cond.methodLink RX6 61 yX1_laughOf, Cond.methodLink RX7 161 yX6_answer, Cond.instanceMethod yX6_answer, Cond.selects RX6 yX6_answer yX6_answer, Cond.code yX6_answer cX6_answer 2 (some .int), Cond.methodLink RL 73 yX8_year, Cond.instanceMethod yX8_year, Cond.selects RX8 yX8_year yX8_year]
def wsL_law_r21 : List Cond := [Cond.code yX8_year cX8_year 11 (some .int), Cond.methodLink RX8 179 yX8_goYear, Cond.instanceMethod yX8_goYear, Cond.selects RX8 yX8_goYear yX8_goYear, Cond.code yX8_goYear cX8_goYear 7 (some .int), Cond.fieldLink RX8 170 "TrickHouseModel" "away" "I", Cond.fieldLink RX8 173 "TrickHouseModel" "loudest" "I", Cond.methodLink RX8 176 yX8_size, Cond.static yX8_size, Cond.code yX8_size cX8_size 3 (some .int), Cond.methodLink RX8 182 yX8_tellYear, Cond.instanceMethod yX8_tellYear, Cond.selects RX8 yX8_tellYear yX8_tellYear, Cond.code yX8_tellYear cX8_tellYear 2 (some .int), Cond.methodLink RL 74 yX7_packs, Cond.instanceMethod yX7_packs, Cond.selects RX7 yX7_packs yX7_packs, Cond.code yX7_packs cX7_packs 3 (some .int), Cond.fieldLink RX7 168 "TrickHouse$Packing" "ways" "I", Cond.fieldLink RX7 171 "TrickHouse$Packing" "first" "[I", Cond.methodLink RX7 164 yX2_pack, Cond.instanceMethod yX2_pack, Cond.selects RX2 yX2_pack yX2_pack, Cond.code yX2_pack cX2_pack 3 none]
def wsL_law_r22 : List Cond := [Cond.fieldLink RX2 25 "TrickHouse$Packing" "ways" "I", Cond.methodLink RX2 29 yX2_placeFrom, Cond.instanceMethod yX2_placeFrom, Cond.selects RX2 yX2_placeFrom yX2_placeFrom, Cond.code yX2_placeFrom cX2_placeFrom 5 none, Cond.fieldLink RX2 46 "TrickHouse$House" "articles" "[LTrickHouse$Article;", Cond.fieldLink RX2 50 "TrickHouse$Article" "bulk" "I", Cond.fieldLink RX2 55 "TrickHouse$House" "roomCount" "I", Cond.fieldLink RX2 58 "TrickHouse$House" "spaces" "[I", Cond.methodLink RX2 33 yX1_isArticle, Cond.methodLink RX2 39 yX2_countWay, Cond.instanceMethod yX2_countWay, Cond.selects RX2 yX2_countWay yX2_countWay, Cond.code yX2_countWay cX2_countWay 2 none, Cond.methodLink RL 77 yX8_packs, Cond.instanceMethod yX8_packs, Cond.selects RX8 yX8_packs yX8_packs, Cond.code yX8_packs cX8_packs 3 (some .int), Cond.fieldLink RX8 185 "TrickHouseModel" "packed" "I", Cond.methodLink RX8 191 yX8_findPacks, Cond.instanceMethod yX8_findPacks, Cond.selects RX8 yX8_findPacks yX8_findPacks, Cond.code yX8_findPacks cX8_findPacks 5 none, Cond.methodLink RX8 188 yX8_holds]
def wsL_law_r23 : List Cond := [Cond.instanceMethod yX8_holds, Cond.selects RX8 yX8_holds yX8_holds, Cond.code yX8_holds cX8_holds 5 (some .boolean), Cond.methodLink RL 78 yX7_fetch, Cond.instanceMethod yX7_fetch, Cond.selects RX7 yX7_fetch yX7_fetch, Cond.code yX7_fetch cX7_fetch 2 (some .int), Cond.methodLink RX7 174 yX1_fewestCalls, Cond.instanceMethod yX1_fewestCalls, Cond.selects RX1 yX1_fewestCalls yX1_fewestCalls, Cond.code yX1_fewestCalls cX1_fewestCalls 7 (some .int), Cond.methodLink RX1 57 yJ6_bitCount_0f7a4, Cond.methodLink RL 81 yX8_fetch, Cond.instanceMethod yX8_fetch, Cond.selects RX8 yX8_fetch yX8_fetch, Cond.code yX8_fetch cX8_fetch 2 (some .int), Cond.methodLink RX8 195 yX8_fewestFor, Cond.instanceMethod yX8_fewestFor, Cond.selects RX8 yX8_fewestFor yX8_fewestFor, Cond.code yX8_fewestFor cX8_fewestFor 6 (some .int), Cond.methodLink RL 82 yX7_lure, Cond.instanceMethod yX7_lure, Cond.selects RX7 yX7_lure yX7_lure, Cond.code yX7_lure cX7_lure 2 (some .int)]
def wsL_law_r24 : List Cond := [Cond.methodLink RL 85 yX8_lure, Cond.instanceMethod yX8_lure, Cond.selects RX8 yX8_lure yX8_lure, Cond.code yX8_lure cX8_lure 2 (some .int), Cond.methodLink RL 86 yX7_reading, Cond.instanceMethod yX7_reading, Cond.selects RX7 yX7_reading yX7_reading, Cond.code yX7_reading cX7_reading 3 (some .int), Cond.methodLink RX7 178 yX3_add, Cond.instanceMethod yX3_add, Cond.selects RX3 yX3_add yX3_add, Cond.code yX3_add cX3_add 3 (some .int), Cond.fieldLink RX3 18 "TrickHouse$Readings" "count" "I", Cond.methodLink RL 89 yX8_reading, Cond.instanceMethod yX8_reading, Cond.selects RX8 yX8_reading yX8_reading, Cond.code yX8_reading cX8_reading 3 (some .int), Cond.methodLink RL 90 yX7_back, Cond.instanceMethod yX7_back, Cond.selects RX7 yX7_back yX7_back, Cond.code yX7_back cX7_back 2 (some .int), Cond.methodLink RL 93 yX8_back, Cond.instanceMethod yX8_back, Cond.selects RX8 yX8_back yX8_back]
def wsL_law_r25 : List Cond := [Cond.code yX8_back cX8_back 2 (some .int), Cond.methodLink RL 94 yX7_gaieties, Cond.instanceMethod yX7_gaieties, Cond.selects RX7 yX7_gaieties yX7_gaieties, Cond.code yX7_gaieties cX7_gaieties 5 (some .int), Cond.methodLink RX7 181 yX1_laughIf, Cond.instanceMethod yX1_laughIf, Cond.selects RX1 yX1_laughIf yX1_laughIf, Cond.code yX1_laughIf cX1_laughIf 5 (some .int), Cond.methodLink RX1 44 yX0_laughOfKind, Cond.methodLink RX7 184 yX3_allAreSo, Cond.instanceMethod yX3_allAreSo, Cond.selects RX3 yX3_allAreSo yX3_allAreSo, Cond.code yX3_allAreSo cX3_allAreSo 4 (some .boolean), Cond.methodLink RL 97 yX8_gaieties, Cond.instanceMethod yX8_gaieties, Cond.selects RX8 yX8_gaieties yX8_gaieties, Cond.code yX8_gaieties cX8_gaieties 5 (some .int), Cond.methodLink RX8 198 yX8_areSo, Cond.instanceMethod yX8_areSo, Cond.selects RX8 yX8_areSo yX8_areSo, Cond.code yX8_areSo cX8_areSo 2 (some .boolean), Cond.methodLink RL 98 yX7_kinds, Cond.instanceMethod yX7_kinds]
def wsL_law_r26 : List Cond := [Cond.selects RX7 yX7_kinds yX7_kinds, Cond.code yX7_kinds cX7_kinds 5 (some .int), Cond.methodLink RL 101 yX8_kinds, Cond.instanceMethod yX8_kinds, Cond.selects RX8 yX8_kinds yX8_kinds, Cond.code yX8_kinds cX8_kinds 5 (some .int), Cond.methodLink RL 102 yX7_wheres, Cond.instanceMethod yX7_wheres, Cond.selects RX7 yX7_wheres yX7_wheres, Cond.code yX7_wheres cX7_wheres 6 (some .long), Cond.constantLong RX7 187 (-9223372036854775808), Cond.methodLink RL 106 yX8_wheres, Cond.instanceMethod yX8_wheres, Cond.selects RX8 yX8_wheres yX8_wheres, Cond.code yX8_wheres cX8_wheres 6 (some .long), Cond.constantLong RX8 68 (-9223372036854775808), Cond.methodLink RL 107 yX7_odds, Cond.instanceMethod yX7_odds, Cond.selects RX7 yX7_odds yX7_odds, Cond.code yX7_odds cX7_odds 6 (some .long), Cond.methodLink RX7 189 yX1_setsThatLeave, Cond.instanceMethod yX1_setsThatLeave, Cond.selects RX1 yX1_setsThatLeave yX1_setsThatLeave, Cond.code yX1_setsThatLeave cX1_setsThatLeave 4 (some .int)]
def wsL_law_r27 : List Cond := [Cond.methodLink RX7 192 yJ6_bitCount_0f7a4, Cond.methodLink RL 111 yX8_odds, Cond.instanceMethod yX8_odds, Cond.selects RX8 yX8_odds yX8_odds, Cond.code yX8_odds cX8_odds 6 (some .long), Cond.methodLink RX8 202 yX8_inLeastTerms, Cond.static yX8_inLeastTerms, Cond.code yX8_inLeastTerms cX8_inLeastTerms 11 (some .long), Cond.methodLink RL 112 yX7_sheet, Cond.instanceMethod yX7_sheet, Cond.selects RX7 yX7_sheet yX7_sheet, Cond.code yX7_sheet cX7_sheet 4 (some .int), Cond.methodLink RX7 197 yX4_renew, Cond.instanceMethod yX4_renew, Cond.selects RX4 yX4_renew yX4_renew, Cond.code yX4_renew cX4_renew 4 none, Cond.methodLink RX4 22 Lib.Math.min.name, Cond.methodLink RX4 28 Lib.Math.max.name, Cond.methodLink RL 116 yX8_sheet, Cond.instanceMethod yX8_sheet, Cond.selects RX8 yX8_sheet yX8_sheet, Cond.code yX8_sheet cX8_sheet 5 (some .int), Cond.methodLink RL 117 yX7_lose, Cond.instanceMethod yX7_lose]
def wsL_law_r28 : List Cond := [Cond.selects RX7 yX7_lose yX7_lose, Cond.code yX7_lose cX7_lose 2 (some .int), Cond.methodLink RX7 201 yX4_hasNothing, Cond.methodLink RX7 204 yX4_clear, Cond.instanceMethod yX4_clear, Cond.selects RX4 yX4_clear yX4_clear, Cond.code yX4_clear cX4_clear 1 none, Cond.methodLink RL 120 yX8_lose, Cond.instanceMethod yX8_lose, Cond.selects RX8 yX8_lose yX8_lose, Cond.code yX8_lose cX8_lose 3 (some .int), Cond.methodLink RL 121 yX7_put, Cond.instanceMethod yX7_put, Cond.selects RX7 yX7_put yX7_put, Cond.code yX7_put cX7_put 4 (some .int), Cond.methodLink RX7 207 yX4_holds, Cond.methodLink RX7 210 yX4_write, Cond.instanceMethod yX4_write, Cond.selects RX4 yX4_write yX4_write, Cond.code yX4_write cX4_write 3 none, Cond.methodLink RX4 39 yX4_cut, Cond.instanceMethod yX4_cut, Cond.selects RX4 yX4_cut yX4_cut, Cond.code yX4_cut cX4_cut 2 (some .int)]
def wsL_law_r29 : List Cond := [Cond.methodLink RL 124 yX8_put, Cond.instanceMethod yX8_put, Cond.selects RX8 yX8_put yX8_put, Cond.code yX8_put cX8_put 4 (some .int), Cond.methodLink RL 125 yX7_cell, Cond.instanceMethod yX7_cell, Cond.selects RX7 yX7_cell yX7_cell, Cond.code yX7_cell cX7_cell 4 (some .long), Cond.methodLink RX7 213 yX4_at, Cond.methodLink RL 129 yX8_cell, Cond.instanceMethod yX8_cell, Cond.selects RX8 yX8_cell yX8_cell, Cond.code yX8_cell cX8_cell 4 (some .long), Cond.methodLink RX8 206 yX8_lost, Cond.instanceMethod yX8_lost, Cond.selects RX8 yX8_lost yX8_lost, Cond.code yX8_lost cX8_lost 2 (some .long), Cond.methodLink RL 130 yX7_copy, Cond.instanceMethod yX7_copy, Cond.selects RX7 yX7_copy yX7_copy, Cond.code yX7_copy cX7_copy 8 (some .int), Cond.fieldLink RX7 216 "TrickHouse$Sheet" "lane" "I", Cond.fieldLink RX7 219 "TrickHouse$Sheet" "cells" "[I", Cond.methodLink RX7 222 arraycopyName]
def wsL_law_r30 : List Cond := [Cond.native arraycopyName, Cond.static arraycopyName, Cond.initialized "java/lang/System", Cond.methodLink RL 133 yX8_copy, Cond.instanceMethod yX8_copy, Cond.selects RX8 yX8_copy yX8_copy, Cond.code yX8_copy cX8_copy 10 (some .int), Cond.methodLink RL 134 yX7_tell, Cond.instanceMethod yX7_tell, Cond.selects RX7 yX7_tell yX7_tell, Cond.code yX7_tell cX7_tell 3 (some .int), Cond.methodLink RX7 228 yX7_tellAsPerson, Cond.instanceMethod yX7_tellAsPerson, Cond.selects RX7 yX7_tellAsPerson yX7_tellAsPerson, Cond.code yX7_tellAsPerson cX7_tellAsPerson 3 (some .int), Cond.methodLink RX7 238 yX7_begin, Cond.instanceMethod yX7_begin, Cond.selects RX7 yX7_begin yX7_begin, Cond.code yX7_begin cX7_begin 2 none, Cond.methodLink RX7 232 yX7_tellAsBeast, Cond.instanceMethod yX7_tellAsBeast, Cond.selects RX7 yX7_tellAsBeast yX7_tellAsBeast, Cond.code yX7_tellAsBeast cX7_tellAsBeast 2 (some .int), Cond.methodLink RX7 235 yX7_tellAsThing]
def wsL_law_r31 : List Cond := [Cond.instanceMethod yX7_tellAsThing, Cond.selects RX7 yX7_tellAsThing yX7_tellAsThing, Cond.code yX7_tellAsThing cX7_tellAsThing 2 (some .int), Cond.methodLink RL 137 yX8_tell, Cond.instanceMethod yX8_tell, Cond.selects RX8 yX8_tell yX8_tell, Cond.code yX8_tell cX8_tell 3 (some .int), Cond.methodLink RX8 213 yX8_begins, Cond.instanceMethod yX8_begins, Cond.selects RX8 yX8_begins yX8_begins, Cond.code yX8_begins cX8_begins 2 none, Cond.fieldLink RX8 210 "TrickHouseModel" "trace" "I", Cond.methodLink RL 138 yX7_announce, Cond.instanceMethod yX7_announce, Cond.selects RX7 yX7_announce yX7_announce, Cond.code yX7_announce cX7_announce 2 (some .int), Cond.methodLink RL 141 yX8_announce, Cond.instanceMethod yX8_announce, Cond.selects RX8 yX8_announce yX8_announce, Cond.code yX8_announce cX8_announce 2 (some .int), Cond.methodLink RL 142 yX7_as, Cond.instanceMethod yX7_as, Cond.selects RX7 yX7_as yX7_as, Cond.code yX7_as cX7_as 3 (some .int)]
def wsL_law_r32 : List Cond := [Cond.methodLink RL 145 yX8_as, Cond.instanceMethod yX8_as, Cond.selects RX8 yX8_as yX8_as, Cond.code yX8_as cX8_as 3 (some .int), Cond.methodLink RL 146 yX7_trace, Cond.instanceMethod yX7_trace, Cond.selects RX7 yX7_trace yX7_trace, Cond.code yX7_trace cX7_trace 1 (some .int), Cond.methodLink RL 149 yX8_trace, Cond.instanceMethod yX8_trace, Cond.selects RX8 yX8_trace yX8_trace, Cond.code yX8_trace cX8_trace 1 (some .int), Cond.methodLink RL 150 yX7_fault, Cond.instanceMethod yX7_fault, Cond.selects RX7 yX7_fault yX7_fault, Cond.code yX7_fault cX7_fault 1 (some .int), Cond.methodLink RL 153 yX8_fault, Cond.instanceMethod yX8_fault, Cond.selects RX8 yX8_fault yX8_fault, Cond.code yX8_fault cX8_fault 1 (some .int), Cond.methodLink RL 154 yX7_many, Cond.instanceMethod yX7_many, Cond.selects RX7 yX7_many yX7_many, Cond.code yX7_many cX7_many 2 (some .int)]
def wsL_law_r33 : List Cond := [Cond.fieldLink RX7 241 "TrickHouse$House" "roomCount" "I", Cond.methodLink RL 157 yX8_many, Cond.instanceMethod yX8_many, Cond.selects RX8 yX8_many yX8_many, Cond.code yX8_many cX8_many 2 (some .int)]
def wsL_law : List Cond := (wsL_law_r1 ++ (wsL_law_r2 ++ (wsL_law_r3 ++ (wsL_law_r4 ++ (wsL_law_r5 ++ (wsL_law_r6 ++ (wsL_law_r7 ++ (wsL_law_r8 ++ (wsL_law_r9 ++ (wsL_law_r10 ++ (wsL_law_r11 ++ (wsL_law_r12 ++ (wsL_law_r13 ++ (wsL_law_r14 ++ (wsL_law_r15 ++ (wsL_law_r16 ++ (wsL_law_r17 ++ (wsL_law_r18 ++ (wsL_law_r19 ++ (wsL_law_r20 ++ (wsL_law_r21 ++ (wsL_law_r22 ++ (wsL_law_r23 ++ (wsL_law_r24 ++ (wsL_law_r25 ++ (wsL_law_r26 ++ (wsL_law_r27 ++ (wsL_law_r28 ++ (wsL_law_r29 ++ (wsL_law_r30 ++ (wsL_law_r31 ++ (wsL_law_r32 ++ wsL_law_r33)))))))))))))))))))))))))))))))) ++ wsX70 ++ wsX80 ++ wsX10 ++ wsX30 ++ wsX20 ++ wsX60 ++ wsX40 ++ wsX00 ++ ([] : List Cond)
theorem mem_r {big : List Cond} (ws : List Cond) (ps : List Nat) (hp : ws = ps.filterMap (fun i => big[i]?)) : ∀ w ∈ ws, w ∈ big := by
  intro w hw
  rw [hp] at hw
  obtain ⟨i, -, hi⟩ := List.mem_filterMap.mp hw
  exact List.mem_of_getElem? hi
theorem mem_ap {big a b : List Cond} (ha : ∀ w ∈ a, w ∈ big) (hb : ∀ w ∈ b, w ∈ big) : ∀ w ∈ a ++ b, w ∈ big := fun w h => (List.mem_append.mp h).elim (ha w) (hb w)
set_option maxRecDepth 20000 in
theorem wl_r1 : ∀ w ∈ wsL_law_r1, w ∈ lw_tbl := mem_r _ [47, 48, 35, 595, 596, 42, 49, 50, 51, 52, 53, 54, 55, 56, 36, 206, 124, 125, 38, 207, 141, 142, 39, 208] (by decide +kernel)
set_option maxRecDepth 20000 in
theorem wl_r2 : ∀ w ∈ wsL_law_r2, w ∈ lw_tbl := mem_r _ [165, 166, 40, 209, 187, 210, 189, 41, 211, 212, 57, 58, 59, 60, 61, 89, 63, 37, 123, 93, 65, 66, 67, 126] (by decide +kernel)
set_option maxRecDepth 20000 in
theorem wl_r3 : ∀ w ∈ wsL_law_r3, w ∈ lw_tbl := mem_r _ [127, 128, 129, 130, 131, 143, 144, 145, 146, 147, 148, 149, 150, 167, 168, 169, 170, 171, 190, 191, 192, 193, 194, 196] (by decide +kernel)
set_option maxRecDepth 20000 in
theorem wl_r4 : ∀ w ∈ wsL_law_r4, w ∈ lw_tbl := mem_r _ [198, 597, 598, 599, 600, 603, 604, 605, 610, 611, 612, 613, 614, 619, 620, 621, 622, 623, 626, 627, 628, 631, 632, 228] (by decide +kernel)
set_option maxRecDepth 20000 in
theorem wl_r5 : ∀ w ∈ wsL_law_r5, w ∈ lw_tbl := mem_r _ [229, 230, 231, 133, 98, 232, 233, 234, 235, 236, 237, 238, 239, 240, 241, 242, 243, 244, 245, 246, 247, 248, 249, 250] (by decide +kernel)
set_option maxRecDepth 20000 in
theorem wl_r6 : ∀ w ∈ wsL_law_r6, w ∈ lw_tbl := mem_r _ [251, 252, 253, 255, 0, 256, 257, 258, 43, 259, 260, 261, 262, 263, 264, 44, 265, 274, 275, 276, 266, 267, 268, 269] (by decide +kernel)
set_option maxRecDepth 20000 in
theorem wl_r7 : ∀ w ∈ wsL_law_r7, w ∈ lw_tbl := mem_r _ [270, 271, 272, 277, 278, 279, 280, 281, 282, 283, 284, 285, 286, 287, 288, 289, 290, 291, 104, 100, 94, 99, 92, 108] (by decide +kernel)
set_option maxRecDepth 20000 in
theorem wl_r8 : ∀ w ∈ wsL_law_r8, w ∈ lw_tbl := mem_r _ [292, 293, 294, 295, 296, 297, 70, 73, 76, 78, 698, 699, 700, 701, 601, 615, 608, 702, 703, 704, 705, 706, 707, 708] (by decide +kernel)
set_option maxRecDepth 20000 in
theorem wl_r9 : ∀ w ∈ wsL_law_r9, w ∈ lw_tbl := mem_r _ [709, 710, 711, 713, 10, 714, 715, 717, 11, 718, 719, 721, 12, 722, 616, 618, 723, 725, 13, 726, 727, 729, 14, 730] (by decide +kernel)
set_option maxRecDepth 20000 in
theorem wl_r10 : ∀ w ∈ wsL_law_r10, w ∈ lw_tbl := mem_r _ [731, 733, 15, 734, 617, 735, 737, 16, 738, 739, 741, 17, 742, 606, 607, 609, 630, 298, 299, 300, 301, 90, 69, 72] (by decide +kernel)
set_option maxRecDepth 20000 in
theorem wl_r11 : ∀ w ∈ wsL_law_r11, w ∈ lw_tbl := mem_r _ [75, 77, 107, 302, 303, 304, 305, 97, 306, 307, 308, 309, 68, 74, 310, 311, 312, 313, 314, 315, 316, 743, 744, 745] (by decide +kernel)
set_option maxRecDepth 20000 in
theorem wl_r12 : ∀ w ∈ wsL_law_r12, w ∈ lw_tbl := mem_r _ [746, 747, 749, 18, 750, 751, 753, 19, 754, 317, 318, 319, 320, 96, 321, 322, 323, 324, 102, 755, 756, 757, 758, 759] (by decide +kernel)
set_option maxRecDepth 20000 in
theorem wl_r13 : ∀ w ∈ wsL_law_r13, w ∈ lw_tbl := mem_r _ [761, 20, 762, 325, 326, 327, 328, 763, 764, 765, 766, 329, 330, 331, 332, 767, 768, 769, 770, 333, 334, 335, 336, 771] (by decide +kernel)
set_option maxRecDepth 20000 in
theorem wl_r14 : ∀ w ∈ wsL_law_r14, w ∈ lw_tbl := mem_r _ [772, 773, 774, 337, 338, 339, 340, 105, 341, 342, 343, 344, 345, 346, 347, 775, 776, 777, 778, 779, 780, 781, 348, 349] (by decide +kernel)
set_option maxRecDepth 20000 in
theorem wl_r15 : ∀ w ∈ wsL_law_r15, w ∈ lw_tbl := mem_r _ [350, 351, 782, 783, 784, 785, 352, 353, 354, 355, 356, 357, 358, 359, 360, 361, 362, 363, 364, 366, 1, 367, 79, 368] (by decide +kernel)
set_option maxRecDepth 20000 in
theorem wl_r16 : ∀ w ∈ wsL_law_r16, w ∈ lw_tbl := mem_r _ [369, 370, 371, 373, 786, 787, 788, 789, 790, 792, 21, 793, 794, 796, 22, 797, 798, 800, 23, 801, 802, 803, 804, 374] (by decide +kernel)
set_option maxRecDepth 20000 in
theorem wl_r17 : ∀ w ∈ wsL_law_r17, w ∈ lw_tbl := mem_r _ [375, 376, 377, 378, 379, 380, 381, 109, 382, 805, 806, 807, 808, 809, 811, 24, 812, 383, 384, 385, 386, 813, 814, 815] (by decide +kernel)
set_option maxRecDepth 20000 in
theorem wl_r18 : ∀ w ∈ wsL_law_r18, w ∈ lw_tbl := mem_r _ [816, 387, 388, 389, 390, 391, 817, 818, 819, 820, 392, 393, 394, 395, 396, 397, 398, 399, 400, 401, 402, 821, 822, 823] (by decide +kernel)
set_option maxRecDepth 20000 in
theorem wl_r19 : ∀ w ∈ wsL_law_r19, w ∈ lw_tbl := mem_r _ [824, 825, 827, 25, 828, 829, 830, 831, 403, 404, 405, 406, 407, 408, 409, 410, 411, 412, 414, 415, 416, 417, 106, 172] (by decide +kernel)
set_option maxRecDepth 20000 in
theorem wl_r20 : ∀ w ∈ wsL_law_r20, w ∈ lw_tbl := mem_r _ [173, 174, 175, 419, 421, 2, 422, 431, 423, 424, 425, 45, 426, 427, 428, 429, 430, 432, 433, 434, 435, 832, 833, 834] (by decide +kernel)
set_option maxRecDepth 20000 in
theorem wl_r21 : ∀ w ∈ wsL_law_r21, w ∈ lw_tbl := mem_r _ [835, 836, 838, 26, 839, 624, 625, 840, 841, 842, 843, 845, 27, 846, 436, 437, 438, 439, 153, 151, 440, 441, 442, 443] (by decide +kernel)
set_option maxRecDepth 20000 in
theorem wl_r22 : ∀ w ∈ wsL_law_r22, w ∈ lw_tbl := mem_r _ [152, 444, 446, 3, 447, 91, 71, 101, 95, 448, 449, 451, 4, 452, 847, 848, 849, 850, 629, 851, 853, 28, 854, 855] (by decide +kernel)
set_option maxRecDepth 20000 in
theorem wl_r23 : ∀ w ∈ wsL_law_r23, w ∈ lw_tbl := mem_r _ [857, 29, 858, 454, 455, 456, 457, 458, 459, 460, 461, 462, 859, 860, 861, 862, 863, 865, 30, 866, 463, 464, 465, 466] (by decide +kernel)
set_option maxRecDepth 20000 in
theorem wl_r24 : ∀ w ∈ wsL_law_r24, w ∈ lw_tbl := mem_r _ [867, 868, 869, 870, 467, 468, 469, 470, 471, 472, 473, 474, 132, 871, 872, 873, 874, 475, 476, 477, 478, 875, 876, 877] (by decide +kernel)
set_option maxRecDepth 20000 in
theorem wl_r25 : ∀ w ∈ wsL_law_r25, w ∈ lw_tbl := mem_r _ [878, 479, 480, 481, 482, 483, 484, 485, 486, 487, 488, 489, 490, 491, 879, 880, 881, 882, 883, 885, 31, 886, 493, 494] (by decide +kernel)
set_option maxRecDepth 20000 in
theorem wl_r26 : ∀ w ∈ wsL_law_r26, w ∈ lw_tbl := mem_r _ [495, 496, 887, 888, 889, 890, 497, 498, 499, 500, 501, 891, 892, 893, 894, 895, 502, 503, 504, 505, 506, 507, 508, 509] (by decide +kernel)
set_option maxRecDepth 20000 in
theorem wl_r27 : ∀ w ∈ wsL_law_r27, w ∈ lw_tbl := mem_r _ [510, 896, 897, 898, 899, 900, 901, 902, 511, 512, 513, 514, 515, 516, 517, 518, 519, 520, 903, 904, 905, 906, 521, 522] (by decide +kernel)
set_option maxRecDepth 20000 in
theorem wl_r28 : ∀ w ∈ wsL_law_r28, w ∈ lw_tbl := mem_r _ [523, 524, 525, 526, 527, 528, 529, 907, 908, 909, 910, 530, 531, 532, 533, 534, 535, 536, 537, 538, 539, 541, 5, 542] (by decide +kernel)
set_option maxRecDepth 20000 in
theorem wl_r29 : ∀ w ∈ wsL_law_r29, w ∈ lw_tbl := mem_r _ [911, 912, 913, 914, 543, 544, 545, 546, 547, 915, 916, 917, 918, 919, 921, 32, 922, 548, 549, 550, 551, 197, 195, 552] (by decide +kernel)
set_option maxRecDepth 20000 in
theorem wl_r30 : ∀ w ∈ wsL_law_r30, w ∈ lw_tbl := mem_r _ [554, 553, 46, 923, 924, 925, 926, 555, 556, 557, 558, 559, 561, 6, 562, 563, 565, 7, 566, 567, 569, 8, 570, 571] (by decide +kernel)
set_option maxRecDepth 20000 in
theorem wl_r31 : ∀ w ∈ wsL_law_r31, w ∈ lw_tbl := mem_r _ [573, 9, 574, 927, 928, 929, 930, 931, 933, 33, 934, 602, 575, 576, 577, 578, 935, 936, 937, 938, 579, 580, 581, 582] (by decide +kernel)
set_option maxRecDepth 20000 in
theorem wl_r32 : ∀ w ∈ wsL_law_r32, w ∈ lw_tbl := mem_r _ [939, 940, 941, 942, 583, 584, 585, 586, 943, 944, 945, 946, 587, 588, 589, 590, 947, 948, 949, 950, 591, 592, 593, 594] (by decide +kernel)
set_option maxRecDepth 20000 in
theorem wl_r33 : ∀ w ∈ wsL_law_r33, w ∈ lw_tbl := mem_r _ [103, 951, 952, 953, 954] (by decide +kernel)
set_option maxRecDepth 20000 in
theorem wl_X7 : ∀ w ∈ wsX70, w ∈ lw_tbl := mem_r _ [213, 215, 217, 219, 221, 223, 225] (by decide +kernel)
set_option maxRecDepth 20000 in
theorem wl_X8 : ∀ w ∈ wsX80, w ∈ lw_tbl := mem_r _ [633, 635, 637, 639, 641, 643, 645, 647, 649, 651, 653, 655, 657, 659, 661, 663, 665, 667, 669, 671, 673, 675, 677, 679, 681, 683, 685, 687, 689, 691, 693, 695] (by decide +kernel)
set_option maxRecDepth 20000 in
theorem wl_X1 : ∀ w ∈ wsX10, w ∈ lw_tbl := mem_r _ [110, 112, 114, 116, 118, 120] (by decide +kernel)
set_option maxRecDepth 20000 in
theorem wl_X3 : ∀ w ∈ wsX30, w ∈ lw_tbl := mem_r _ [134, 136, 138] (by decide +kernel)
set_option maxRecDepth 20000 in
theorem wl_X2 : ∀ w ∈ wsX20, w ∈ lw_tbl := mem_r _ [154, 156, 158, 160, 162] (by decide +kernel)
set_option maxRecDepth 20000 in
theorem wl_X6 : ∀ w ∈ wsX60, w ∈ lw_tbl := mem_r _ [176, 178, 180, 182, 184] (by decide +kernel)
set_option maxRecDepth 20000 in
theorem wl_X4 : ∀ w ∈ wsX40, w ∈ lw_tbl := mem_r _ [199, 201, 203] (by decide +kernel)
set_option maxRecDepth 20000 in
theorem wl_X0 : ∀ w ∈ wsX00, w ∈ lw_tbl := mem_r _ [80, 82, 84, 86] (by decide +kernel)
theorem wsL_law_in : ∀ w ∈ wsL_law, w ∈ lw_tbl := mem_ap (mem_ap (mem_ap (mem_ap (mem_ap (mem_ap (mem_ap (mem_ap (mem_ap ((mem_ap wl_r1 (mem_ap wl_r2 (mem_ap wl_r3 (mem_ap wl_r4 (mem_ap wl_r5 (mem_ap wl_r6 (mem_ap wl_r7 (mem_ap wl_r8 (mem_ap wl_r9 (mem_ap wl_r10 (mem_ap wl_r11 (mem_ap wl_r12 (mem_ap wl_r13 (mem_ap wl_r14 (mem_ap wl_r15 (mem_ap wl_r16 (mem_ap wl_r17 (mem_ap wl_r18 (mem_ap wl_r19 (mem_ap wl_r20 (mem_ap wl_r21 (mem_ap wl_r22 (mem_ap wl_r23 (mem_ap wl_r24 (mem_ap wl_r25 (mem_ap wl_r26 (mem_ap wl_r27 (mem_ap wl_r28 (mem_ap wl_r29 (mem_ap wl_r30 (mem_ap wl_r31 (mem_ap wl_r32 (wl_r33)))))))))))))))))))))))))))))))))) wl_X7) wl_X8) wl_X1) wl_X3) wl_X2) wl_X6) wl_X4) wl_X0) (fun _ h => absurd h List.not_mem_nil)
theorem inlX0 : ∀ w ∈ wsX00, w ∈ wsL_law := fun _ h => List.mem_append_left _ (List.mem_append_right _ h)
theorem inX0 : ∀ w ∈ wsX00, w ∈ lw_tbl := fun w h => wsL_law_in w (inlX0 w h)
theorem inlX1 : ∀ w ∈ wsX10, w ∈ wsL_law := fun _ h => List.mem_append_left _ (List.mem_append_left _ (List.mem_append_left _ (List.mem_append_left _ (List.mem_append_left _ (List.mem_append_left _ (List.mem_append_right _ h))))))
theorem inX1 : ∀ w ∈ wsX10, w ∈ lw_tbl := fun w h => wsL_law_in w (inlX1 w h)
theorem inlX2 : ∀ w ∈ wsX20, w ∈ wsL_law := fun _ h => List.mem_append_left _ (List.mem_append_left _ (List.mem_append_left _ (List.mem_append_left _ (List.mem_append_right _ h))))
theorem inX2 : ∀ w ∈ wsX20, w ∈ lw_tbl := fun w h => wsL_law_in w (inlX2 w h)
theorem inlX3 : ∀ w ∈ wsX30, w ∈ wsL_law := fun _ h => List.mem_append_left _ (List.mem_append_left _ (List.mem_append_left _ (List.mem_append_left _ (List.mem_append_left _ (List.mem_append_right _ h)))))
theorem inX3 : ∀ w ∈ wsX30, w ∈ lw_tbl := fun w h => wsL_law_in w (inlX3 w h)
theorem inlX4 : ∀ w ∈ wsX40, w ∈ wsL_law := fun _ h => List.mem_append_left _ (List.mem_append_left _ (List.mem_append_right _ h))
theorem inX4 : ∀ w ∈ wsX40, w ∈ lw_tbl := fun w h => wsL_law_in w (inlX4 w h)
theorem inX5 : ∀ w ∈ wsX50, w ∈ lw_tbl := by decide +kernel
theorem inlX6 : ∀ w ∈ wsX60, w ∈ wsL_law := fun _ h => List.mem_append_left _ (List.mem_append_left _ (List.mem_append_left _ (List.mem_append_right _ h)))
theorem inX6 : ∀ w ∈ wsX60, w ∈ lw_tbl := fun w h => wsL_law_in w (inlX6 w h)
theorem inlX7 : ∀ w ∈ wsX70, w ∈ wsL_law := fun _ h => List.mem_append_left _ (List.mem_append_left _ (List.mem_append_left _ (List.mem_append_left _ (List.mem_append_left _ (List.mem_append_left _ (List.mem_append_left _ (List.mem_append_left _ (List.mem_append_right _ h))))))))
theorem inX7 : ∀ w ∈ wsX70, w ∈ lw_tbl := fun w h => wsL_law_in w (inlX7 w h)
theorem inlX8 : ∀ w ∈ wsX80, w ∈ wsL_law := fun _ h => List.mem_append_left _ (List.mem_append_left _ (List.mem_append_left _ (List.mem_append_left _ (List.mem_append_left _ (List.mem_append_left _ (List.mem_append_left _ (List.mem_append_right _ h)))))))
theorem inX8 : ∀ w ∈ wsX80, w ∈ lw_tbl := fun w h => wsL_law_in w (inlX8 w h)
theorem inJ6 : ∀ w ∈ wsJ60, w ∈ lw_tbl := by decide +kernel
theorem inJ9 : ∀ w ∈ wsJ90, w ∈ lw_tbl := by decide +kernel
theorem inJ10 : ∀ w ∈ wsJ100, w ∈ lw_tbl := by decide +kernel
end
section
abbrev vwCl : List vw_C := [(RX0, TX0, 4), (RX1, TX1, 6), (RX2, TX2, 5), (RX3, TX3, 3), (RX4, TX4, 3), (RX6, TX6, 5), (RX7, TX7, 7), (RX8, TX8, 32)]
theorem dX0_init_0 : decode cX0_init 0 = .ok (.aload_n 0, 1) := by decide +kernel
theorem dX0_init_1 : decode cX0_init 1 = .ok (.invokespecial 3, 3) := by decide +kernel
theorem dX0_init_4 : decode cX0_init 4 = .ok (.return_, 1) := by decide +kernel
set_option maxRecDepth 20000 in
theorem ggX0_laugh_X0_laughOfKind : GoodIn wsX0_laugh wsX0_laughOfKind := goodIn_r _ [6, 7, 8, 9, 10] (by decide +kernel) (by decide +kernel)
set_option maxRecDepth 20000 in
theorem gX0_laugh_X0_laughOfKind : GoodIn wsX0_laugh (va_wsS RX0 18 yX0_laughOfKind wsX0_laughOfKind) := goodIn_app (goodIn_of _ (by decide +kernel)) ggX0_laugh_X0_laughOfKind
theorem dX0_laugh_0 : decode cX0_laugh 0 = .ok (.aload_n 0, 1) := by decide +kernel
theorem dX0_laugh_1 : decode cX0_laugh 1 = .ok (.getfield 9, 3) := by decide +kernel
theorem dX0_laugh_4 : decode cX0_laugh 4 = .ok (.aload_n 0, 1) := by decide +kernel
theorem dX0_laugh_5 : decode cX0_laugh 5 = .ok (.getfield 15, 3) := by decide +kernel
theorem dX0_laugh_8 : decode cX0_laugh 8 = .ok (.invokestatic 18, 3) := by decide +kernel
theorem dX0_laugh_11 : decode cX0_laugh 11 = .ok (.ireturn, 1) := by decide +kernel
theorem dX0_laughOfKind_0 : decode cX0_laughOfKind 0 = .ok (.iload_n 0, 1) := by decide +kernel
theorem dX0_laughOfKind_1 : decode cX0_laughOfKind 1 = .ok (.lookupswitch 39 #[(1, 31), (2, 27)], 27) := by decide +kernel
theorem dX0_laughOfKind_28 : decode cX0_laughOfKind 28 = .ok (.iconst 2, 1) := by decide +kernel
theorem dX0_laughOfKind_29 : decode cX0_laughOfKind 29 = .ok (.iload_n 1, 1) := by decide +kernel
theorem dX0_laughOfKind_30 : decode cX0_laughOfKind 30 = .ok (.imul, 1) := by decide +kernel
theorem dX0_laughOfKind_31 : decode cX0_laughOfKind 31 = .ok (.ireturn, 1) := by decide +kernel
theorem dX0_laughOfKind_32 : decode cX0_laughOfKind 32 = .ok (.iconst 0, 1) := by decide +kernel
theorem dX0_laughOfKind_33 : decode cX0_laughOfKind 33 = .ok (.iload_n 1, 1) := by decide +kernel
theorem dX0_laughOfKind_34 : decode cX0_laughOfKind 34 = .ok (.iconst 1, 1) := by decide +kernel
theorem dX0_laughOfKind_35 : decode cX0_laughOfKind 35 = .ok (.isub, 1) := by decide +kernel
theorem dX0_laughOfKind_36 : decode cX0_laughOfKind 36 = .ok (.invokestatic 22, 3) := by decide +kernel
theorem dX0_laughOfKind_39 : decode cX0_laughOfKind 39 = .ok (.ireturn, 1) := by decide +kernel
theorem dX0_laughOfKind_40 : decode cX0_laughOfKind 40 = .ok (.iload_n 1, 1) := by decide +kernel
theorem dX0_laughOfKind_41 : decode cX0_laughOfKind 41 = .ok (.ireturn, 1) := by decide +kernel
set_option maxRecDepth 20000 in
theorem ggX1_init_X0_init : GoodIn wsX1_init wsX0_init := goodIn_r _ [11, 12, 2, 3] (by decide +kernel) (by decide +kernel)
set_option maxRecDepth 20000 in
theorem gX1_init_X0_init_n17 : GoodIn wsX1_init (wsX0_init) := ggX1_init_X0_init
theorem dX1_init_0 : decode cX1_init 0 = .ok (.aload_n 0, 1) := by decide +kernel
theorem dX1_init_1 : decode cX1_init 1 = .ok (.invokespecial 3, 3) := by decide +kernel
theorem dX1_init_4 : decode cX1_init 4 = .ok (.aload_n 0, 1) := by decide +kernel
theorem dX1_init_5 : decode cX1_init 5 = .ok (.bipush 6, 2) := by decide +kernel
theorem dX1_init_7 : decode cX1_init 7 = .ok (.anewarray 9, 3) := by decide +kernel
theorem dX1_init_10 : decode cX1_init 10 = .ok (.putfield 11, 3) := by decide +kernel
theorem dX1_init_13 : decode cX1_init 13 = .ok (.iconst 0, 1) := by decide +kernel
theorem dX1_init_14 : decode cX1_init 14 = .ok (.istore_n 1, 1) := by decide +kernel
theorem dX1_init_15 : decode cX1_init 15 = .ok (.iload_n 1, 1) := by decide +kernel
theorem dX1_init_16 : decode cX1_init 16 = .ok (.bipush 6, 2) := by decide +kernel
theorem dX1_init_18 : decode cX1_init 18 = .ok (.if_icmp .ge 22, 3) := by decide +kernel
theorem dX1_init_21 : decode cX1_init 21 = .ok (.aload_n 0, 1) := by decide +kernel
theorem dX1_init_22 : decode cX1_init 22 = .ok (.getfield 11, 3) := by decide +kernel
theorem dX1_init_25 : decode cX1_init 25 = .ok (.iload_n 1, 1) := by decide +kernel
theorem dX1_init_26 : decode cX1_init 26 = .ok (.new 9, 3) := by decide +kernel
theorem dX1_init_29 : decode cX1_init 29 = .ok (.dup, 1) := by decide +kernel
theorem dX1_init_30 : decode cX1_init 30 = .ok (.invokespecial 17, 3) := by decide +kernel
theorem dX1_init_33 : decode cX1_init 33 = .ok (.aastore, 1) := by decide +kernel
theorem dX1_init_34 : decode cX1_init 34 = .ok (.iinc 1 1, 3) := by decide +kernel
theorem dX1_init_37 : decode cX1_init 37 = .ok (.goto (-22), 3) := by decide +kernel
theorem dX1_init_40 : decode cX1_init 40 = .ok (.aload_n 0, 1) := by decide +kernel
theorem dX1_init_41 : decode cX1_init 41 = .ok (.iconst 4, 1) := by decide +kernel
theorem dX1_init_42 : decode cX1_init 42 = .ok (.newarray .int, 2) := by decide +kernel
theorem dX1_init_44 : decode cX1_init 44 = .ok (.putfield 18, 3) := by decide +kernel
theorem dX1_init_47 : decode cX1_init 47 = .ok (.return_, 1) := by decide +kernel
theorem dX1_stands_0 : decode cX1_stands 0 = .ok (.aload_n 0, 1) := by decide +kernel
theorem dX1_stands_1 : decode cX1_stands 1 = .ok (.getfield 22, 3) := by decide +kernel
theorem dX1_stands_4 : decode cX1_stands 4 = .ok (.ifCond .le 7, 3) := by decide +kernel
theorem dX1_stands_7 : decode cX1_stands 7 = .ok (.iconst 1, 1) := by decide +kernel
theorem dX1_stands_8 : decode cX1_stands 8 = .ok (.goto 4, 3) := by decide +kernel
theorem dX1_stands_11 : decode cX1_stands 11 = .ok (.iconst 0, 1) := by decide +kernel
theorem dX1_stands_12 : decode cX1_stands 12 = .ok (.ireturn, 1) := by decide +kernel
theorem dX1_isArticle_0 : decode cX1_isArticle 0 = .ok (.iload_n 1, 1) := by decide +kernel
theorem dX1_isArticle_1 : decode cX1_isArticle 1 = .ok (.ifCond .lt 15, 3) := by decide +kernel
theorem dX1_isArticle_4 : decode cX1_isArticle 4 = .ok (.iload_n 1, 1) := by decide +kernel
theorem dX1_isArticle_5 : decode cX1_isArticle 5 = .ok (.aload_n 0, 1) := by decide +kernel
theorem dX1_isArticle_6 : decode cX1_isArticle 6 = .ok (.getfield 22, 3) := by decide +kernel
theorem dX1_isArticle_9 : decode cX1_isArticle 9 = .ok (.if_icmp .ge 7, 3) := by decide +kernel
theorem dX1_isArticle_12 : decode cX1_isArticle 12 = .ok (.iconst 1, 1) := by decide +kernel
theorem dX1_isArticle_13 : decode cX1_isArticle 13 = .ok (.goto 4, 3) := by decide +kernel
theorem dX1_isArticle_16 : decode cX1_isArticle 16 = .ok (.iconst 0, 1) := by decide +kernel
theorem dX1_isArticle_17 : decode cX1_isArticle 17 = .ok (.ireturn, 1) := by decide +kernel
theorem dX1_isRoom_0 : decode cX1_isRoom 0 = .ok (.iload_n 1, 1) := by decide +kernel
theorem dX1_isRoom_1 : decode cX1_isRoom 1 = .ok (.ifCond .lt 15, 3) := by decide +kernel
theorem dX1_isRoom_4 : decode cX1_isRoom 4 = .ok (.iload_n 1, 1) := by decide +kernel
theorem dX1_isRoom_5 : decode cX1_isRoom 5 = .ok (.aload_n 0, 1) := by decide +kernel
theorem dX1_isRoom_6 : decode cX1_isRoom 6 = .ok (.getfield 26, 3) := by decide +kernel
theorem dX1_isRoom_9 : decode cX1_isRoom 9 = .ok (.if_icmp .ge 7, 3) := by decide +kernel
theorem dX1_isRoom_12 : decode cX1_isRoom 12 = .ok (.iconst 1, 1) := by decide +kernel
theorem dX1_isRoom_13 : decode cX1_isRoom 13 = .ok (.goto 4, 3) := by decide +kernel
theorem dX1_isRoom_16 : decode cX1_isRoom 16 = .ok (.iconst 0, 1) := by decide +kernel
theorem dX1_isRoom_17 : decode cX1_isRoom 17 = .ok (.ireturn, 1) := by decide +kernel
theorem dX1_isSet_0 : decode cX1_isSet 0 = .ok (.iload_n 1, 1) := by decide +kernel
theorem dX1_isSet_1 : decode cX1_isSet 1 = .ok (.ifCond .lt 17, 3) := by decide +kernel
theorem dX1_isSet_4 : decode cX1_isSet 4 = .ok (.iload_n 1, 1) := by decide +kernel
theorem dX1_isSet_5 : decode cX1_isSet 5 = .ok (.iconst 1, 1) := by decide +kernel
theorem dX1_isSet_6 : decode cX1_isSet 6 = .ok (.aload_n 0, 1) := by decide +kernel
theorem dX1_isSet_7 : decode cX1_isSet 7 = .ok (.getfield 22, 3) := by decide +kernel
theorem dX1_isSet_10 : decode cX1_isSet 10 = .ok (.ishl, 1) := by decide +kernel
theorem dX1_isSet_11 : decode cX1_isSet 11 = .ok (.if_icmp .ge 7, 3) := by decide +kernel
theorem dX1_isSet_14 : decode cX1_isSet 14 = .ok (.iconst 1, 1) := by decide +kernel
theorem dX1_isSet_15 : decode cX1_isSet 15 = .ok (.goto 4, 3) := by decide +kernel
theorem dX1_isSet_18 : decode cX1_isSet 18 = .ok (.iconst 0, 1) := by decide +kernel
theorem dX1_isSet_19 : decode cX1_isSet 19 = .ok (.ireturn, 1) := by decide +kernel
set_option maxRecDepth 20000 in
theorem ggX1_laughOf_X7_has : GoodIn wsX1_laughOf wsX7_has := goodIn_r _ [5] (by decide +kernel) (by decide +kernel)
set_option maxRecDepth 20000 in
theorem gX1_laughOf_X7_has_n29 : GoodIn wsX1_laughOf (wsX7_has) := ggX1_laughOf_X7_has
set_option maxRecDepth 20000 in
theorem ggX1_laughOf_X0_laugh : GoodIn wsX1_laughOf wsX0_laugh := goodIn_r _ [10, 11, 12, 13, 14, 9, 15, 16, 17, 18, 19, 26, 27, 28, 29] (by decide +kernel) (by decide +kernel)
set_option maxRecDepth 20000 in
theorem gX1_laughOf_X0_laugh : GoodIn wsX1_laughOf (wsV RX1 33 RX0 yX0_laugh wsX0_laugh) := goodIn_app (goodIn_of _ (by decide +kernel)) ggX1_laughOf_X0_laugh
theorem dX1_laughOf_0 : decode cX1_laughOf 0 = .ok (.iconst 0, 1) := by decide +kernel
theorem dX1_laughOf_1 : decode cX1_laughOf 1 = .ok (.istore_n 2, 1) := by decide +kernel
theorem dX1_laughOf_2 : decode cX1_laughOf 2 = .ok (.iconst 0, 1) := by decide +kernel
theorem dX1_laughOf_3 : decode cX1_laughOf 3 = .ok (.istore_n 3, 1) := by decide +kernel
theorem dX1_laughOf_4 : decode cX1_laughOf 4 = .ok (.iload_n 3, 1) := by decide +kernel
theorem dX1_laughOf_5 : decode cX1_laughOf 5 = .ok (.aload_n 0, 1) := by decide +kernel
theorem dX1_laughOf_6 : decode cX1_laughOf 6 = .ok (.getfield 22, 3) := by decide +kernel
theorem dX1_laughOf_9 : decode cX1_laughOf 9 = .ok (.if_icmp .ge 29, 3) := by decide +kernel
theorem dX1_laughOf_12 : decode cX1_laughOf 12 = .ok (.iload_n 1, 1) := by decide +kernel
theorem dX1_laughOf_13 : decode cX1_laughOf 13 = .ok (.iload_n 3, 1) := by decide +kernel
theorem dX1_laughOf_14 : decode cX1_laughOf 14 = .ok (.invokestatic 29, 3) := by decide +kernel
theorem dX1_laughOf_17 : decode cX1_laughOf 17 = .ok (.ifCond .eq 15, 3) := by decide +kernel
theorem dX1_laughOf_20 : decode cX1_laughOf 20 = .ok (.iload_n 2, 1) := by decide +kernel
theorem dX1_laughOf_21 : decode cX1_laughOf 21 = .ok (.aload_n 0, 1) := by decide +kernel
theorem dX1_laughOf_22 : decode cX1_laughOf 22 = .ok (.getfield 11, 3) := by decide +kernel
theorem dX1_laughOf_25 : decode cX1_laughOf 25 = .ok (.iload_n 3, 1) := by decide +kernel
theorem dX1_laughOf_26 : decode cX1_laughOf 26 = .ok (.aaload, 1) := by decide +kernel
theorem dX1_laughOf_27 : decode cX1_laughOf 27 = .ok (.invokevirtual 33, 3) := by decide +kernel
theorem dX1_laughOf_30 : decode cX1_laughOf 30 = .ok (.iadd, 1) := by decide +kernel
theorem dX1_laughOf_31 : decode cX1_laughOf 31 = .ok (.istore_n 2, 1) := by decide +kernel
theorem dX1_laughOf_32 : decode cX1_laughOf 32 = .ok (.iinc 3 1, 3) := by decide +kernel
theorem dX1_laughOf_35 : decode cX1_laughOf 35 = .ok (.goto (-31), 3) := by decide +kernel
theorem dX1_laughOf_38 : decode cX1_laughOf 38 = .ok (.iload_n 2, 1) := by decide +kernel
theorem dX1_laughOf_39 : decode cX1_laughOf 39 = .ok (.ireturn, 1) := by decide +kernel
set_option maxRecDepth 20000 in
theorem ggX1_laughIf_X1_laughOf : GoodIn wsX1_laughIf wsX1_laughOf := goodIn_r _ [6, 7, 8, 9, 10, 11, 12, 13, 14, 15, 16, 17, 18, 19, 20, 21, 22, 23, 24, 25, 27, 28, 29, 30, 31, 32, 33, 34, 35, 36] (by decide +kernel) (by decide +kernel)
set_option maxRecDepth 20000 in
theorem gX1_laughIf_X1_laughOf : GoodIn wsX1_laughIf (wsV RX1 40 RX1 yX1_laughOf wsX1_laughOf) := goodIn_app (goodIn_of _ (by decide +kernel)) ggX1_laughIf_X1_laughOf
set_option maxRecDepth 20000 in
theorem ggX1_laughIf_X7_has : GoodIn wsX1_laughIf wsX7_has := goodIn_r _ [11] (by decide +kernel) (by decide +kernel)
set_option maxRecDepth 20000 in
theorem gX1_laughIf_X7_has_n29 : GoodIn wsX1_laughIf (wsX7_has) := ggX1_laughIf_X7_has
set_option maxRecDepth 20000 in
theorem ggX1_laughIf_X0_laughOfKind : GoodIn wsX1_laughIf wsX0_laughOfKind := goodIn_r _ [21, 22, 23, 24, 25] (by decide +kernel) (by decide +kernel)
set_option maxRecDepth 20000 in
theorem gX1_laughIf_X0_laughOfKind : GoodIn wsX1_laughIf (va_wsS RX1 44 yX0_laughOfKind wsX0_laughOfKind) := goodIn_app (goodIn_of _ (by decide +kernel)) ggX1_laughIf_X0_laughOfKind
theorem dX1_laughIf_0 : decode cX1_laughIf 0 = .ok (.aload_n 0, 1) := by decide +kernel
theorem dX1_laughIf_1 : decode cX1_laughIf 1 = .ok (.aload_n 0, 1) := by decide +kernel
theorem dX1_laughIf_2 : decode cX1_laughIf 2 = .ok (.getfield 37, 3) := by decide +kernel
theorem dX1_laughIf_5 : decode cX1_laughIf 5 = .ok (.iconst 1, 1) := by decide +kernel
theorem dX1_laughIf_6 : decode cX1_laughIf 6 = .ok (.iload_n 1, 1) := by decide +kernel
theorem dX1_laughIf_7 : decode cX1_laughIf 7 = .ok (.ishl, 1) := by decide +kernel
theorem dX1_laughIf_8 : decode cX1_laughIf 8 = .ok (.iconst (-1), 1) := by decide +kernel
theorem dX1_laughIf_9 : decode cX1_laughIf 9 = .ok (.ixor, 1) := by decide +kernel
theorem dX1_laughIf_10 : decode cX1_laughIf 10 = .ok (.iand, 1) := by decide +kernel
theorem dX1_laughIf_11 : decode cX1_laughIf 11 = .ok (.invokevirtual 40, 3) := by decide +kernel
theorem dX1_laughIf_14 : decode cX1_laughIf 14 = .ok (.istore 4, 2) := by decide +kernel
theorem dX1_laughIf_16 : decode cX1_laughIf 16 = .ok (.aload_n 0, 1) := by decide +kernel
theorem dX1_laughIf_17 : decode cX1_laughIf 17 = .ok (.getfield 37, 3) := by decide +kernel
theorem dX1_laughIf_20 : decode cX1_laughIf 20 = .ok (.iload_n 1, 1) := by decide +kernel
theorem dX1_laughIf_21 : decode cX1_laughIf 21 = .ok (.invokestatic 29, 3) := by decide +kernel
theorem dX1_laughIf_24 : decode cX1_laughIf 24 = .ok (.ifCond .eq 14, 3) := by decide +kernel
theorem dX1_laughIf_27 : decode cX1_laughIf 27 = .ok (.iload 4, 2) := by decide +kernel
theorem dX1_laughIf_29 : decode cX1_laughIf 29 = .ok (.iload_n 2, 1) := by decide +kernel
theorem dX1_laughIf_30 : decode cX1_laughIf 30 = .ok (.iload_n 3, 1) := by decide +kernel
theorem dX1_laughIf_31 : decode cX1_laughIf 31 = .ok (.invokestatic 44, 3) := by decide +kernel
theorem dX1_laughIf_34 : decode cX1_laughIf 34 = .ok (.iadd, 1) := by decide +kernel
theorem dX1_laughIf_35 : decode cX1_laughIf 35 = .ok (.goto 5, 3) := by decide +kernel
theorem dX1_laughIf_38 : decode cX1_laughIf 38 = .ok (.iload 4, 2) := by decide +kernel
theorem dX1_laughIf_40 : decode cX1_laughIf 40 = .ok (.ireturn, 1) := by decide +kernel
set_option maxRecDepth 20000 in
theorem ggX1_companyOf_X1_leaversOf : GoodIn wsX1_companyOf wsX1_leaversOf := goodIn_r _ [5, 6, 7, 8, 9, 10, 11, 4, 12, 13, 14, 15, 16, 17, 18, 19, 20, 21, 22, 23, 24, 25, 26, 27, 28, 29, 30, 31, 32, 33, 34, 35, 36, 37, 38, 39] (by decide +kernel) (by decide +kernel)
set_option maxRecDepth 20000 in
theorem gX1_companyOf_X1_leaversOf : GoodIn wsX1_companyOf (wsV RX1 48 RX1 yX1_leaversOf wsX1_leaversOf) := goodIn_app (goodIn_of _ (by decide +kernel)) ggX1_companyOf_X1_leaversOf
theorem dX1_companyOf_0 : decode cX1_companyOf 0 = .ok (.iload_n 1, 1) := by decide +kernel
theorem dX1_companyOf_1 : decode cX1_companyOf 1 = .ok (.istore_n 2, 1) := by decide +kernel
theorem dX1_companyOf_2 : decode cX1_companyOf 2 = .ok (.iconst 0, 1) := by decide +kernel
theorem dX1_companyOf_3 : decode cX1_companyOf 3 = .ok (.istore_n 3, 1) := by decide +kernel
theorem dX1_companyOf_4 : decode cX1_companyOf 4 = .ok (.iload_n 3, 1) := by decide +kernel
theorem dX1_companyOf_5 : decode cX1_companyOf 5 = .ok (.bipush 6, 2) := by decide +kernel
theorem dX1_companyOf_7 : decode cX1_companyOf 7 = .ok (.if_icmp .ge 31, 3) := by decide +kernel
theorem dX1_companyOf_10 : decode cX1_companyOf 10 = .ok (.aload_n 0, 1) := by decide +kernel
theorem dX1_companyOf_11 : decode cX1_companyOf 11 = .ok (.iload_n 2, 1) := by decide +kernel
theorem dX1_companyOf_12 : decode cX1_companyOf 12 = .ok (.invokevirtual 48, 3) := by decide +kernel
theorem dX1_companyOf_15 : decode cX1_companyOf 15 = .ok (.istore 4, 2) := by decide +kernel
theorem dX1_companyOf_17 : decode cX1_companyOf 17 = .ok (.iload 4, 2) := by decide +kernel
theorem dX1_companyOf_19 : decode cX1_companyOf 19 = .ok (.ifCond .ne 6, 3) := by decide +kernel
theorem dX1_companyOf_22 : decode cX1_companyOf 22 = .ok (.goto 16, 3) := by decide +kernel
theorem dX1_companyOf_25 : decode cX1_companyOf 25 = .ok (.iload_n 2, 1) := by decide +kernel
theorem dX1_companyOf_26 : decode cX1_companyOf 26 = .ok (.iload 4, 2) := by decide +kernel
theorem dX1_companyOf_28 : decode cX1_companyOf 28 = .ok (.iconst (-1), 1) := by decide +kernel
theorem dX1_companyOf_29 : decode cX1_companyOf 29 = .ok (.ixor, 1) := by decide +kernel
theorem dX1_companyOf_30 : decode cX1_companyOf 30 = .ok (.iand, 1) := by decide +kernel
theorem dX1_companyOf_31 : decode cX1_companyOf 31 = .ok (.istore_n 2, 1) := by decide +kernel
theorem dX1_companyOf_32 : decode cX1_companyOf 32 = .ok (.iinc 3 1, 3) := by decide +kernel
theorem dX1_companyOf_35 : decode cX1_companyOf 35 = .ok (.goto (-31), 3) := by decide +kernel
theorem dX1_companyOf_38 : decode cX1_companyOf 38 = .ok (.iload_n 2, 1) := by decide +kernel
theorem dX1_companyOf_39 : decode cX1_companyOf 39 = .ok (.ireturn, 1) := by decide +kernel
set_option maxRecDepth 20000 in
theorem ggX1_leaversOf_X1_laughOf : GoodIn wsX1_leaversOf wsX1_laughOf := goodIn_r _ [8, 1, 2, 9, 10, 11, 12, 13, 14, 15, 16, 17, 18, 19, 20, 21, 22, 23, 24, 25, 26, 27, 28, 29, 30, 31, 32, 33, 34, 35] (by decide +kernel) (by decide +kernel)
set_option maxRecDepth 20000 in
theorem gX1_leaversOf_X1_laughOf : GoodIn wsX1_leaversOf (wsV RX1 40 RX1 yX1_laughOf wsX1_laughOf) := goodIn_app (goodIn_of _ (by decide +kernel)) ggX1_leaversOf_X1_laughOf
set_option maxRecDepth 20000 in
theorem ggX1_leaversOf_X7_has : GoodIn wsX1_leaversOf wsX7_has := goodIn_r _ [11] (by decide +kernel) (by decide +kernel)
set_option maxRecDepth 20000 in
theorem gX1_leaversOf_X7_has_n29 : GoodIn wsX1_leaversOf (wsX7_has) := ggX1_leaversOf_X7_has
set_option maxRecDepth 20000 in
theorem ggX1_leaversOf_X0_laugh : GoodIn wsX1_leaversOf wsX0_laugh := goodIn_r _ [16, 17, 18, 19, 20, 15, 21, 22, 23, 24, 25, 32, 33, 34, 35] (by decide +kernel) (by decide +kernel)
set_option maxRecDepth 20000 in
theorem gX1_leaversOf_X0_laugh : GoodIn wsX1_leaversOf (wsV RX1 33 RX0 yX0_laugh wsX0_laugh) := goodIn_app (goodIn_of _ (by decide +kernel)) ggX1_leaversOf_X0_laugh
theorem dX1_leaversOf_0 : decode cX1_leaversOf 0 = .ok (.aload_n 0, 1) := by decide +kernel
theorem dX1_leaversOf_1 : decode cX1_leaversOf 1 = .ok (.iload_n 1, 1) := by decide +kernel
theorem dX1_leaversOf_2 : decode cX1_leaversOf 2 = .ok (.invokevirtual 40, 3) := by decide +kernel
theorem dX1_leaversOf_5 : decode cX1_leaversOf 5 = .ok (.istore_n 2, 1) := by decide +kernel
theorem dX1_leaversOf_6 : decode cX1_leaversOf 6 = .ok (.iconst 0, 1) := by decide +kernel
theorem dX1_leaversOf_7 : decode cX1_leaversOf 7 = .ok (.istore_n 3, 1) := by decide +kernel
theorem dX1_leaversOf_8 : decode cX1_leaversOf 8 = .ok (.iconst 0, 1) := by decide +kernel
theorem dX1_leaversOf_9 : decode cX1_leaversOf 9 = .ok (.istore 4, 2) := by decide +kernel
theorem dX1_leaversOf_11 : decode cX1_leaversOf 11 = .ok (.iload 4, 2) := by decide +kernel
theorem dX1_leaversOf_13 : decode cX1_leaversOf 13 = .ok (.aload_n 0, 1) := by decide +kernel
theorem dX1_leaversOf_14 : decode cX1_leaversOf 14 = .ok (.getfield 22, 3) := by decide +kernel
theorem dX1_leaversOf_17 : decode cX1_leaversOf 17 = .ok (.if_icmp .ge 50, 3) := by decide +kernel
theorem dX1_leaversOf_20 : decode cX1_leaversOf 20 = .ok (.iload_n 1, 1) := by decide +kernel
theorem dX1_leaversOf_21 : decode cX1_leaversOf 21 = .ok (.iload 4, 2) := by decide +kernel
theorem dX1_leaversOf_23 : decode cX1_leaversOf 23 = .ok (.invokestatic 29, 3) := by decide +kernel
theorem dX1_leaversOf_26 : decode cX1_leaversOf 26 = .ok (.ifCond .eq 35, 3) := by decide +kernel
theorem dX1_leaversOf_29 : decode cX1_leaversOf 29 = .ok (.iload_n 2, 1) := by decide +kernel
theorem dX1_leaversOf_30 : decode cX1_leaversOf 30 = .ok (.aload_n 0, 1) := by decide +kernel
theorem dX1_leaversOf_31 : decode cX1_leaversOf 31 = .ok (.getfield 11, 3) := by decide +kernel
theorem dX1_leaversOf_34 : decode cX1_leaversOf 34 = .ok (.iload 4, 2) := by decide +kernel
theorem dX1_leaversOf_36 : decode cX1_leaversOf 36 = .ok (.aaload, 1) := by decide +kernel
theorem dX1_leaversOf_37 : decode cX1_leaversOf 37 = .ok (.invokevirtual 33, 3) := by decide +kernel
theorem dX1_leaversOf_40 : decode cX1_leaversOf 40 = .ok (.isub, 1) := by decide +kernel
theorem dX1_leaversOf_41 : decode cX1_leaversOf 41 = .ok (.aload_n 0, 1) := by decide +kernel
theorem dX1_leaversOf_42 : decode cX1_leaversOf 42 = .ok (.getfield 11, 3) := by decide +kernel
theorem dX1_leaversOf_45 : decode cX1_leaversOf 45 = .ok (.iload 4, 2) := by decide +kernel
theorem dX1_leaversOf_47 : decode cX1_leaversOf 47 = .ok (.aaload, 1) := by decide +kernel
theorem dX1_leaversOf_48 : decode cX1_leaversOf 48 = .ok (.getfield 51, 3) := by decide +kernel
theorem dX1_leaversOf_51 : decode cX1_leaversOf 51 = .ok (.if_icmp .ge 10, 3) := by decide +kernel
theorem dX1_leaversOf_54 : decode cX1_leaversOf 54 = .ok (.iload_n 3, 1) := by decide +kernel
theorem dX1_leaversOf_55 : decode cX1_leaversOf 55 = .ok (.iconst 1, 1) := by decide +kernel
theorem dX1_leaversOf_56 : decode cX1_leaversOf 56 = .ok (.iload 4, 2) := by decide +kernel
theorem dX1_leaversOf_58 : decode cX1_leaversOf 58 = .ok (.ishl, 1) := by decide +kernel
theorem dX1_leaversOf_59 : decode cX1_leaversOf 59 = .ok (.ior, 1) := by decide +kernel
theorem dX1_leaversOf_60 : decode cX1_leaversOf 60 = .ok (.istore_n 3, 1) := by decide +kernel
theorem dX1_leaversOf_61 : decode cX1_leaversOf 61 = .ok (.iinc 4 1, 3) := by decide +kernel
theorem dX1_leaversOf_64 : decode cX1_leaversOf 64 = .ok (.goto (-53), 3) := by decide +kernel
theorem dX1_leaversOf_67 : decode cX1_leaversOf 67 = .ok (.iload_n 3, 1) := by decide +kernel
theorem dX1_leaversOf_68 : decode cX1_leaversOf 68 = .ok (.ireturn, 1) := by decide +kernel
set_option maxRecDepth 20000 in
theorem ggX1_keepCompanyOf_X1_companyOf : GoodIn wsX1_keepCompanyOf wsX1_companyOf := goodIn_r _ [6, 7, 8, 9, 5, 10, 11, 12, 13, 14, 15, 16, 17, 18, 19, 20, 21, 22, 23, 24, 25, 26, 27, 28, 29, 30, 31, 32, 33, 34, 35, 36, 37, 38, 39, 40, 41, 42, 43, 44] (by decide +kernel) (by decide +kernel)
set_option maxRecDepth 20000 in
theorem gX1_keepCompanyOf_X1_companyOf : GoodIn wsX1_keepCompanyOf (wsV RX1 54 RX1 yX1_companyOf wsX1_companyOf) := goodIn_app (goodIn_of _ (by decide +kernel)) ggX1_keepCompanyOf_X1_companyOf
theorem dX1_keepCompanyOf_0 : decode cX1_keepCompanyOf 0 = .ok (.aload_n 0, 1) := by decide +kernel
theorem dX1_keepCompanyOf_1 : decode cX1_keepCompanyOf 1 = .ok (.aload_n 0, 1) := by decide +kernel
theorem dX1_keepCompanyOf_2 : decode cX1_keepCompanyOf 2 = .ok (.iload_n 1, 1) := by decide +kernel
theorem dX1_keepCompanyOf_3 : decode cX1_keepCompanyOf 3 = .ok (.invokevirtual 54, 3) := by decide +kernel
theorem dX1_keepCompanyOf_6 : decode cX1_keepCompanyOf 6 = .ok (.putfield 37, 3) := by decide +kernel
theorem dX1_keepCompanyOf_9 : decode cX1_keepCompanyOf 9 = .ok (.iload_n 1, 1) := by decide +kernel
theorem dX1_keepCompanyOf_10 : decode cX1_keepCompanyOf 10 = .ok (.aload_n 0, 1) := by decide +kernel
theorem dX1_keepCompanyOf_11 : decode cX1_keepCompanyOf 11 = .ok (.getfield 37, 3) := by decide +kernel
theorem dX1_keepCompanyOf_14 : decode cX1_keepCompanyOf 14 = .ok (.iconst (-1), 1) := by decide +kernel
theorem dX1_keepCompanyOf_15 : decode cX1_keepCompanyOf 15 = .ok (.ixor, 1) := by decide +kernel
theorem dX1_keepCompanyOf_16 : decode cX1_keepCompanyOf 16 = .ok (.iand, 1) := by decide +kernel
theorem dX1_keepCompanyOf_17 : decode cX1_keepCompanyOf 17 = .ok (.ireturn, 1) := by decide +kernel
set_option maxRecDepth 20000 in
theorem ggX1_fewestCalls_J6_bitCount_0f7a4 : GoodIn wsX1_fewestCalls wsJ6_bitCount_0f7a4 := goodIn_r _ [5, 6, 7, 8] (by decide +kernel) (by decide +kernel)
set_option maxRecDepth 20000 in
theorem gX1_fewestCalls_J6_bitCount_0f7a4 : GoodIn wsX1_fewestCalls (va_wsS RX1 57 yJ6_bitCount_0f7a4 wsJ6_bitCount_0f7a4) := goodIn_app (goodIn_of _ (by decide +kernel)) ggX1_fewestCalls_J6_bitCount_0f7a4
set_option maxRecDepth 20000 in
theorem ggX1_fewestCalls_X1_companyOf : GoodIn wsX1_fewestCalls wsX1_companyOf := goodIn_r _ [13, 14, 15, 16, 12, 17, 18, 19, 20, 21, 22, 23, 24, 25, 26, 27, 28, 29, 30, 31, 32, 33, 34, 35, 36, 37, 38, 39, 40, 41, 42, 43, 44, 45, 46, 47, 48, 49, 50, 51] (by decide +kernel) (by decide +kernel)
set_option maxRecDepth 20000 in
theorem gX1_fewestCalls_X1_companyOf : GoodIn wsX1_fewestCalls (wsV RX1 54 RX1 yX1_companyOf wsX1_companyOf) := goodIn_app (goodIn_of _ (by decide +kernel)) ggX1_fewestCalls_X1_companyOf
theorem dX1_fewestCalls_0 : decode cX1_fewestCalls 0 = .ok (.bipush (-9), 2) := by decide +kernel
theorem dX1_fewestCalls_2 : decode cX1_fewestCalls 2 = .ok (.istore_n 3, 1) := by decide +kernel
theorem dX1_fewestCalls_3 : decode cX1_fewestCalls 3 = .ok (.bipush 7, 2) := by decide +kernel
theorem dX1_fewestCalls_5 : decode cX1_fewestCalls 5 = .ok (.istore 4, 2) := by decide +kernel
theorem dX1_fewestCalls_7 : decode cX1_fewestCalls 7 = .ok (.iconst 0, 1) := by decide +kernel
theorem dX1_fewestCalls_8 : decode cX1_fewestCalls 8 = .ok (.istore 5, 2) := by decide +kernel
theorem dX1_fewestCalls_10 : decode cX1_fewestCalls 10 = .ok (.iload 5, 2) := by decide +kernel
theorem dX1_fewestCalls_12 : decode cX1_fewestCalls 12 = .ok (.iload_n 2, 1) := by decide +kernel
theorem dX1_fewestCalls_13 : decode cX1_fewestCalls 13 = .ok (.if_icmp .gt 68, 3) := by decide +kernel
theorem dX1_fewestCalls_16 : decode cX1_fewestCalls 16 = .ok (.iload 5, 2) := by decide +kernel
theorem dX1_fewestCalls_18 : decode cX1_fewestCalls 18 = .ok (.iload_n 2, 1) := by decide +kernel
theorem dX1_fewestCalls_19 : decode cX1_fewestCalls 19 = .ok (.iconst (-1), 1) := by decide +kernel
theorem dX1_fewestCalls_20 : decode cX1_fewestCalls 20 = .ok (.ixor, 1) := by decide +kernel
theorem dX1_fewestCalls_21 : decode cX1_fewestCalls 21 = .ok (.iand, 1) := by decide +kernel
theorem dX1_fewestCalls_22 : decode cX1_fewestCalls 22 = .ok (.ifCond .ne 17, 3) := by decide +kernel
theorem dX1_fewestCalls_25 : decode cX1_fewestCalls 25 = .ok (.iload 5, 2) := by decide +kernel
theorem dX1_fewestCalls_27 : decode cX1_fewestCalls 27 = .ok (.invokestatic 57, 3) := by decide +kernel
theorem dX1_fewestCalls_30 : decode cX1_fewestCalls 30 = .ok (.iload 4, 2) := by decide +kernel
theorem dX1_fewestCalls_32 : decode cX1_fewestCalls 32 = .ok (.if_icmp .ge 7, 3) := by decide +kernel
theorem dX1_fewestCalls_35 : decode cX1_fewestCalls 35 = .ok (.iconst 1, 1) := by decide +kernel
theorem dX1_fewestCalls_36 : decode cX1_fewestCalls 36 = .ok (.goto 4, 3) := by decide +kernel
theorem dX1_fewestCalls_39 : decode cX1_fewestCalls 39 = .ok (.iconst 0, 1) := by decide +kernel
theorem dX1_fewestCalls_40 : decode cX1_fewestCalls 40 = .ok (.istore 6, 2) := by decide +kernel
theorem dX1_fewestCalls_42 : decode cX1_fewestCalls 42 = .ok (.iload 6, 2) := by decide +kernel
theorem dX1_fewestCalls_44 : decode cX1_fewestCalls 44 = .ok (.ifCond .eq 31, 3) := by decide +kernel
theorem dX1_fewestCalls_47 : decode cX1_fewestCalls 47 = .ok (.aload_n 0, 1) := by decide +kernel
theorem dX1_fewestCalls_48 : decode cX1_fewestCalls 48 = .ok (.aload_n 0, 1) := by decide +kernel
theorem dX1_fewestCalls_49 : decode cX1_fewestCalls 49 = .ok (.getfield 37, 3) := by decide +kernel
theorem dX1_fewestCalls_52 : decode cX1_fewestCalls 52 = .ok (.iload 5, 2) := by decide +kernel
theorem dX1_fewestCalls_54 : decode cX1_fewestCalls 54 = .ok (.iconst (-1), 1) := by decide +kernel
theorem dX1_fewestCalls_55 : decode cX1_fewestCalls 55 = .ok (.ixor, 1) := by decide +kernel
theorem dX1_fewestCalls_56 : decode cX1_fewestCalls 56 = .ok (.iand, 1) := by decide +kernel
theorem dX1_fewestCalls_57 : decode cX1_fewestCalls 57 = .ok (.invokevirtual 54, 3) := by decide +kernel
theorem dX1_fewestCalls_60 : decode cX1_fewestCalls 60 = .ok (.iload_n 1, 1) := by decide +kernel
theorem dX1_fewestCalls_61 : decode cX1_fewestCalls 61 = .ok (.iand, 1) := by decide +kernel
theorem dX1_fewestCalls_62 : decode cX1_fewestCalls 62 = .ok (.ifCond .ne 13, 3) := by decide +kernel
theorem dX1_fewestCalls_65 : decode cX1_fewestCalls 65 = .ok (.iload 5, 2) := by decide +kernel
theorem dX1_fewestCalls_67 : decode cX1_fewestCalls 67 = .ok (.istore_n 3, 1) := by decide +kernel
theorem dX1_fewestCalls_68 : decode cX1_fewestCalls 68 = .ok (.iload 5, 2) := by decide +kernel
theorem dX1_fewestCalls_70 : decode cX1_fewestCalls 70 = .ok (.invokestatic 57, 3) := by decide +kernel
theorem dX1_fewestCalls_73 : decode cX1_fewestCalls 73 = .ok (.istore 4, 2) := by decide +kernel
theorem dX1_fewestCalls_75 : decode cX1_fewestCalls 75 = .ok (.iinc 5 1, 3) := by decide +kernel
theorem dX1_fewestCalls_78 : decode cX1_fewestCalls 78 = .ok (.goto (-68), 3) := by decide +kernel
theorem dX1_fewestCalls_81 : decode cX1_fewestCalls 81 = .ok (.iload_n 3, 1) := by decide +kernel
theorem dX1_fewestCalls_82 : decode cX1_fewestCalls 82 = .ok (.ireturn, 1) := by decide +kernel
set_option maxRecDepth 20000 in
theorem ggX1_setsThatLeave_X1_companyOf : GoodIn wsX1_setsThatLeave wsX1_companyOf := goodIn_r _ [6, 7, 8, 9, 5, 10, 11, 12, 13, 14, 15, 16, 17, 18, 19, 20, 21, 22, 23, 24, 25, 26, 27, 28, 29, 30, 31, 32, 33, 34, 35, 36, 37, 38, 39, 40, 41, 42, 43, 44] (by decide +kernel) (by decide +kernel)
set_option maxRecDepth 20000 in
theorem gX1_setsThatLeave_X1_companyOf : GoodIn wsX1_setsThatLeave (wsV RX1 54 RX1 yX1_companyOf wsX1_companyOf) := goodIn_app (goodIn_of _ (by decide +kernel)) ggX1_setsThatLeave_X1_companyOf
set_option maxRecDepth 20000 in
theorem ggX1_setsThatLeave_X7_has : GoodIn wsX1_setsThatLeave wsX7_has := goodIn_r _ [20] (by decide +kernel) (by decide +kernel)
set_option maxRecDepth 20000 in
theorem gX1_setsThatLeave_X7_has_n29 : GoodIn wsX1_setsThatLeave (wsX7_has) := ggX1_setsThatLeave_X7_has
theorem dX1_setsThatLeave_0 : decode cX1_setsThatLeave 0 = .ok (.iconst 0, 1) := by decide +kernel
theorem dX1_setsThatLeave_1 : decode cX1_setsThatLeave 1 = .ok (.istore_n 2, 1) := by decide +kernel
theorem dX1_setsThatLeave_2 : decode cX1_setsThatLeave 2 = .ok (.iconst 0, 1) := by decide +kernel
theorem dX1_setsThatLeave_3 : decode cX1_setsThatLeave 3 = .ok (.istore_n 3, 1) := by decide +kernel
theorem dX1_setsThatLeave_4 : decode cX1_setsThatLeave 4 = .ok (.iload_n 3, 1) := by decide +kernel
theorem dX1_setsThatLeave_5 : decode cX1_setsThatLeave 5 = .ok (.aload_n 0, 1) := by decide +kernel
theorem dX1_setsThatLeave_6 : decode cX1_setsThatLeave 6 = .ok (.getfield 37, 3) := by decide +kernel
theorem dX1_setsThatLeave_9 : decode cX1_setsThatLeave 9 = .ok (.if_icmp .gt 42, 3) := by decide +kernel
theorem dX1_setsThatLeave_12 : decode cX1_setsThatLeave 12 = .ok (.iload_n 3, 1) := by decide +kernel
theorem dX1_setsThatLeave_13 : decode cX1_setsThatLeave 13 = .ok (.aload_n 0, 1) := by decide +kernel
theorem dX1_setsThatLeave_14 : decode cX1_setsThatLeave 14 = .ok (.getfield 37, 3) := by decide +kernel
theorem dX1_setsThatLeave_17 : decode cX1_setsThatLeave 17 = .ok (.iconst (-1), 1) := by decide +kernel
theorem dX1_setsThatLeave_18 : decode cX1_setsThatLeave 18 = .ok (.ixor, 1) := by decide +kernel
theorem dX1_setsThatLeave_19 : decode cX1_setsThatLeave 19 = .ok (.iand, 1) := by decide +kernel
theorem dX1_setsThatLeave_20 : decode cX1_setsThatLeave 20 = .ok (.ifCond .ne 25, 3) := by decide +kernel
theorem dX1_setsThatLeave_23 : decode cX1_setsThatLeave 23 = .ok (.aload_n 0, 1) := by decide +kernel
theorem dX1_setsThatLeave_24 : decode cX1_setsThatLeave 24 = .ok (.aload_n 0, 1) := by decide +kernel
theorem dX1_setsThatLeave_25 : decode cX1_setsThatLeave 25 = .ok (.getfield 37, 3) := by decide +kernel
theorem dX1_setsThatLeave_28 : decode cX1_setsThatLeave 28 = .ok (.iload_n 3, 1) := by decide +kernel
theorem dX1_setsThatLeave_29 : decode cX1_setsThatLeave 29 = .ok (.iconst (-1), 1) := by decide +kernel
theorem dX1_setsThatLeave_30 : decode cX1_setsThatLeave 30 = .ok (.ixor, 1) := by decide +kernel
theorem dX1_setsThatLeave_31 : decode cX1_setsThatLeave 31 = .ok (.iand, 1) := by decide +kernel
theorem dX1_setsThatLeave_32 : decode cX1_setsThatLeave 32 = .ok (.invokevirtual 54, 3) := by decide +kernel
theorem dX1_setsThatLeave_35 : decode cX1_setsThatLeave 35 = .ok (.iload_n 1, 1) := by decide +kernel
theorem dX1_setsThatLeave_36 : decode cX1_setsThatLeave 36 = .ok (.invokestatic 29, 3) := by decide +kernel
theorem dX1_setsThatLeave_39 : decode cX1_setsThatLeave 39 = .ok (.ifCond .eq 6, 3) := by decide +kernel
theorem dX1_setsThatLeave_42 : decode cX1_setsThatLeave 42 = .ok (.iinc 2 1, 3) := by decide +kernel
theorem dX1_setsThatLeave_45 : decode cX1_setsThatLeave 45 = .ok (.iinc 3 1, 3) := by decide +kernel
theorem dX1_setsThatLeave_48 : decode cX1_setsThatLeave 48 = .ok (.goto (-44), 3) := by decide +kernel
theorem dX1_setsThatLeave_51 : decode cX1_setsThatLeave 51 = .ok (.iload_n 2, 1) := by decide +kernel
theorem dX1_setsThatLeave_52 : decode cX1_setsThatLeave 52 = .ok (.ireturn, 1) := by decide +kernel
theorem dX2_init_0 : decode cX2_init 0 = .ok (.aload_n 0, 1) := by decide +kernel
theorem dX2_init_1 : decode cX2_init 1 = .ok (.invokespecial 3, 3) := by decide +kernel
theorem dX2_init_4 : decode cX2_init 4 = .ok (.aload_n 0, 1) := by decide +kernel
theorem dX2_init_5 : decode cX2_init 5 = .ok (.aload_n 1, 1) := by decide +kernel
theorem dX2_init_6 : decode cX2_init 6 = .ok (.putfield 9, 3) := by decide +kernel
theorem dX2_init_9 : decode cX2_init 9 = .ok (.aload_n 0, 1) := by decide +kernel
theorem dX2_init_10 : decode cX2_init 10 = .ok (.iconst 4, 1) := by decide +kernel
theorem dX2_init_11 : decode cX2_init 11 = .ok (.newarray .int, 2) := by decide +kernel
theorem dX2_init_13 : decode cX2_init 13 = .ok (.putfield 15, 3) := by decide +kernel
theorem dX2_init_16 : decode cX2_init 16 = .ok (.aload_n 0, 1) := by decide +kernel
theorem dX2_init_17 : decode cX2_init 17 = .ok (.bipush 6, 2) := by decide +kernel
theorem dX2_init_19 : decode cX2_init 19 = .ok (.newarray .int, 2) := by decide +kernel
theorem dX2_init_21 : decode cX2_init 21 = .ok (.putfield 19, 3) := by decide +kernel
theorem dX2_init_24 : decode cX2_init 24 = .ok (.aload_n 0, 1) := by decide +kernel
theorem dX2_init_25 : decode cX2_init 25 = .ok (.bipush 6, 2) := by decide +kernel
theorem dX2_init_27 : decode cX2_init 27 = .ok (.newarray .int, 2) := by decide +kernel
theorem dX2_init_29 : decode cX2_init 29 = .ok (.putfield 22, 3) := by decide +kernel
theorem dX2_init_32 : decode cX2_init 32 = .ok (.return_, 1) := by decide +kernel
set_option maxRecDepth 20000 in
theorem ggX2_pack_X2_placeFrom : GoodIn wsX2_pack wsX2_placeFrom := goodIn_r _ [9, 10, 11, 12, 13, 2, 14, 3, 15, 16, 17, 18, 19, 20, 21, 22, 23, 8, 24, 1, 4, 25, 26, 27, 5, 6, 7, 28, 29, 30, 31, 32, 33, 34, 35, 36, 37, 38, 39, 40, 41, 42] (by decide +kernel) (by decide +kernel)
set_option maxRecDepth 20000 in
theorem gX2_pack_X2_placeFrom : GoodIn wsX2_pack (wsV RX2 29 RX2 yX2_placeFrom wsX2_placeFrom) := goodIn_app (goodIn_of _ (by decide +kernel)) ggX2_pack_X2_placeFrom
theorem dX2_pack_0 : decode cX2_pack 0 = .ok (.aload_n 0, 1) := by decide +kernel
theorem dX2_pack_1 : decode cX2_pack 1 = .ok (.iconst 0, 1) := by decide +kernel
theorem dX2_pack_2 : decode cX2_pack 2 = .ok (.putfield 25, 3) := by decide +kernel
theorem dX2_pack_5 : decode cX2_pack 5 = .ok (.iconst 0, 1) := by decide +kernel
theorem dX2_pack_6 : decode cX2_pack 6 = .ok (.istore_n 2, 1) := by decide +kernel
theorem dX2_pack_7 : decode cX2_pack 7 = .ok (.iload_n 2, 1) := by decide +kernel
theorem dX2_pack_8 : decode cX2_pack 8 = .ok (.iconst 4, 1) := by decide +kernel
theorem dX2_pack_9 : decode cX2_pack 9 = .ok (.if_icmp .ge 16, 3) := by decide +kernel
theorem dX2_pack_12 : decode cX2_pack 12 = .ok (.aload_n 0, 1) := by decide +kernel
theorem dX2_pack_13 : decode cX2_pack 13 = .ok (.getfield 15, 3) := by decide +kernel
theorem dX2_pack_16 : decode cX2_pack 16 = .ok (.iload_n 2, 1) := by decide +kernel
theorem dX2_pack_17 : decode cX2_pack 17 = .ok (.iconst 0, 1) := by decide +kernel
theorem dX2_pack_18 : decode cX2_pack 18 = .ok (.iastore, 1) := by decide +kernel
theorem dX2_pack_19 : decode cX2_pack 19 = .ok (.iinc 2 1, 3) := by decide +kernel
theorem dX2_pack_22 : decode cX2_pack 22 = .ok (.goto (-15), 3) := by decide +kernel
theorem dX2_pack_25 : decode cX2_pack 25 = .ok (.iconst 0, 1) := by decide +kernel
theorem dX2_pack_26 : decode cX2_pack 26 = .ok (.istore_n 2, 1) := by decide +kernel
theorem dX2_pack_27 : decode cX2_pack 27 = .ok (.iload_n 2, 1) := by decide +kernel
theorem dX2_pack_28 : decode cX2_pack 28 = .ok (.bipush 6, 2) := by decide +kernel
theorem dX2_pack_30 : decode cX2_pack 30 = .ok (.if_icmp .ge 25, 3) := by decide +kernel
theorem dX2_pack_33 : decode cX2_pack 33 = .ok (.aload_n 0, 1) := by decide +kernel
theorem dX2_pack_34 : decode cX2_pack 34 = .ok (.getfield 19, 3) := by decide +kernel
theorem dX2_pack_37 : decode cX2_pack 37 = .ok (.iload_n 2, 1) := by decide +kernel
theorem dX2_pack_38 : decode cX2_pack 38 = .ok (.bipush (-9), 2) := by decide +kernel
theorem dX2_pack_40 : decode cX2_pack 40 = .ok (.iastore, 1) := by decide +kernel
theorem dX2_pack_41 : decode cX2_pack 41 = .ok (.aload_n 0, 1) := by decide +kernel
theorem dX2_pack_42 : decode cX2_pack 42 = .ok (.getfield 22, 3) := by decide +kernel
theorem dX2_pack_45 : decode cX2_pack 45 = .ok (.iload_n 2, 1) := by decide +kernel
theorem dX2_pack_46 : decode cX2_pack 46 = .ok (.bipush (-9), 2) := by decide +kernel
theorem dX2_pack_48 : decode cX2_pack 48 = .ok (.iastore, 1) := by decide +kernel
theorem dX2_pack_49 : decode cX2_pack 49 = .ok (.iinc 2 1, 3) := by decide +kernel
theorem dX2_pack_52 : decode cX2_pack 52 = .ok (.goto (-25), 3) := by decide +kernel
theorem dX2_pack_55 : decode cX2_pack 55 = .ok (.aload_n 0, 1) := by decide +kernel
theorem dX2_pack_56 : decode cX2_pack 56 = .ok (.iconst 0, 1) := by decide +kernel
theorem dX2_pack_57 : decode cX2_pack 57 = .ok (.iload_n 1, 1) := by decide +kernel
theorem dX2_pack_58 : decode cX2_pack 58 = .ok (.invokevirtual 29, 3) := by decide +kernel
theorem dX2_pack_61 : decode cX2_pack 61 = .ok (.return_, 1) := by decide +kernel
set_option maxRecDepth 20000 in
theorem ggX2_placeFrom_X1_isArticle : GoodIn wsX2_placeFrom wsX1_isArticle := goodIn_r _ [12, 13, 32, 33, 34, 35, 36, 37] (by decide +kernel) (by decide +kernel)
set_option maxRecDepth 20000 in
theorem gX2_placeFrom_X1_isArticle : GoodIn wsX2_placeFrom (wsV RX2 33 RX1 yX1_isArticle wsX1_isArticle) := goodIn_app (goodIn_of _ (by decide +kernel)) ggX2_placeFrom_X1_isArticle
set_option maxRecDepth 20000 in
theorem ggX2_placeFrom_X2_countWay : GoodIn wsX2_placeFrom wsX2_countWay := goodIn_r _ [18, 19, 20, 7, 27, 28, 29, 30, 31] (by decide +kernel) (by decide +kernel)
set_option maxRecDepth 20000 in
theorem gX2_placeFrom_X2_countWay : GoodIn wsX2_placeFrom (wsV RX2 39 RX2 yX2_countWay wsX2_countWay) := goodIn_app (goodIn_of _ (by decide +kernel)) ggX2_placeFrom_X2_countWay
set_option maxRecDepth 20000 in
theorem ggX2_placeFrom_X7_has : GoodIn wsX2_placeFrom wsX7_has := goodIn_r _ [23] (by decide +kernel) (by decide +kernel)
set_option maxRecDepth 20000 in
theorem gX2_placeFrom_X7_has_n42 : GoodIn wsX2_placeFrom (wsX7_has) := ggX2_placeFrom_X7_has
set_option maxRecDepth 20000 in
theorem ggX2_placeFrom_X2_placeFrom : GoodIn wsX2_placeFrom wsX2_placeFrom := goodIn_r _ [0, 1, 2, 3, 4, 5, 6, 7, 8, 9, 10, 11, 12, 13, 14, 15, 16, 17, 18, 19, 20, 21, 22, 23, 24, 25, 26, 27, 28, 29, 30, 31, 32, 33, 34, 35, 36, 37, 38, 39, 40, 41] (by decide +kernel) (by decide +kernel)
set_option maxRecDepth 20000 in
theorem gX2_placeFrom_X2_placeFrom : GoodIn wsX2_placeFrom (wsV RX2 29 RX2 yX2_placeFrom wsX2_placeFrom) := goodIn_app (goodIn_of _ (by decide +kernel)) ggX2_placeFrom_X2_placeFrom
theorem dX2_placeFrom_0 : decode cX2_placeFrom 0 = .ok (.aload_n 0, 1) := by decide +kernel
theorem dX2_placeFrom_1 : decode cX2_placeFrom 1 = .ok (.getfield 9, 3) := by decide +kernel
theorem dX2_placeFrom_4 : decode cX2_placeFrom 4 = .ok (.iload_n 1, 1) := by decide +kernel
theorem dX2_placeFrom_5 : decode cX2_placeFrom 5 = .ok (.invokevirtual 33, 3) := by decide +kernel
theorem dX2_placeFrom_8 : decode cX2_placeFrom 8 = .ok (.ifCond .ne 8, 3) := by decide +kernel
theorem dX2_placeFrom_11 : decode cX2_placeFrom 11 = .ok (.aload_n 0, 1) := by decide +kernel
theorem dX2_placeFrom_12 : decode cX2_placeFrom 12 = .ok (.invokevirtual 39, 3) := by decide +kernel
theorem dX2_placeFrom_15 : decode cX2_placeFrom 15 = .ok (.return_, 1) := by decide +kernel
theorem dX2_placeFrom_16 : decode cX2_placeFrom 16 = .ok (.iload_n 2, 1) := by decide +kernel
theorem dX2_placeFrom_17 : decode cX2_placeFrom 17 = .ok (.iload_n 1, 1) := by decide +kernel
theorem dX2_placeFrom_18 : decode cX2_placeFrom 18 = .ok (.invokestatic 42, 3) := by decide +kernel
theorem dX2_placeFrom_21 : decode cX2_placeFrom 21 = .ok (.ifCond .ne 12, 3) := by decide +kernel
theorem dX2_placeFrom_24 : decode cX2_placeFrom 24 = .ok (.aload_n 0, 1) := by decide +kernel
theorem dX2_placeFrom_25 : decode cX2_placeFrom 25 = .ok (.iload_n 1, 1) := by decide +kernel
theorem dX2_placeFrom_26 : decode cX2_placeFrom 26 = .ok (.iconst 1, 1) := by decide +kernel
theorem dX2_placeFrom_27 : decode cX2_placeFrom 27 = .ok (.iadd, 1) := by decide +kernel
theorem dX2_placeFrom_28 : decode cX2_placeFrom 28 = .ok (.iload_n 2, 1) := by decide +kernel
theorem dX2_placeFrom_29 : decode cX2_placeFrom 29 = .ok (.invokevirtual 29, 3) := by decide +kernel
theorem dX2_placeFrom_32 : decode cX2_placeFrom 32 = .ok (.return_, 1) := by decide +kernel
theorem dX2_placeFrom_33 : decode cX2_placeFrom 33 = .ok (.aload_n 0, 1) := by decide +kernel
theorem dX2_placeFrom_34 : decode cX2_placeFrom 34 = .ok (.getfield 9, 3) := by decide +kernel
theorem dX2_placeFrom_37 : decode cX2_placeFrom 37 = .ok (.getfield 46, 3) := by decide +kernel
theorem dX2_placeFrom_40 : decode cX2_placeFrom 40 = .ok (.iload_n 1, 1) := by decide +kernel
theorem dX2_placeFrom_41 : decode cX2_placeFrom 41 = .ok (.aaload, 1) := by decide +kernel
theorem dX2_placeFrom_42 : decode cX2_placeFrom 42 = .ok (.getfield 50, 3) := by decide +kernel
theorem dX2_placeFrom_45 : decode cX2_placeFrom 45 = .ok (.istore_n 3, 1) := by decide +kernel
theorem dX2_placeFrom_46 : decode cX2_placeFrom 46 = .ok (.iconst 0, 1) := by decide +kernel
theorem dX2_placeFrom_47 : decode cX2_placeFrom 47 = .ok (.istore 4, 2) := by decide +kernel
theorem dX2_placeFrom_49 : decode cX2_placeFrom 49 = .ok (.iload 4, 2) := by decide +kernel
theorem dX2_placeFrom_51 : decode cX2_placeFrom 51 = .ok (.aload_n 0, 1) := by decide +kernel
theorem dX2_placeFrom_52 : decode cX2_placeFrom 52 = .ok (.getfield 9, 3) := by decide +kernel
theorem dX2_placeFrom_55 : decode cX2_placeFrom 55 = .ok (.getfield 55, 3) := by decide +kernel
theorem dX2_placeFrom_58 : decode cX2_placeFrom 58 = .ok (.if_icmp .ge 69, 3) := by decide +kernel
theorem dX2_placeFrom_61 : decode cX2_placeFrom 61 = .ok (.aload_n 0, 1) := by decide +kernel
theorem dX2_placeFrom_62 : decode cX2_placeFrom 62 = .ok (.getfield 15, 3) := by decide +kernel
theorem dX2_placeFrom_65 : decode cX2_placeFrom 65 = .ok (.iload 4, 2) := by decide +kernel
theorem dX2_placeFrom_67 : decode cX2_placeFrom 67 = .ok (.iaload, 1) := by decide +kernel
theorem dX2_placeFrom_68 : decode cX2_placeFrom 68 = .ok (.iload_n 3, 1) := by decide +kernel
theorem dX2_placeFrom_69 : decode cX2_placeFrom 69 = .ok (.iadd, 1) := by decide +kernel
theorem dX2_placeFrom_70 : decode cX2_placeFrom 70 = .ok (.aload_n 0, 1) := by decide +kernel
theorem dX2_placeFrom_71 : decode cX2_placeFrom 71 = .ok (.getfield 9, 3) := by decide +kernel
theorem dX2_placeFrom_74 : decode cX2_placeFrom 74 = .ok (.getfield 58, 3) := by decide +kernel
theorem dX2_placeFrom_77 : decode cX2_placeFrom 77 = .ok (.iload 4, 2) := by decide +kernel
theorem dX2_placeFrom_79 : decode cX2_placeFrom 79 = .ok (.iaload, 1) := by decide +kernel
theorem dX2_placeFrom_80 : decode cX2_placeFrom 80 = .ok (.if_icmp .gt 41, 3) := by decide +kernel
theorem dX2_placeFrom_83 : decode cX2_placeFrom 83 = .ok (.aload_n 0, 1) := by decide +kernel
theorem dX2_placeFrom_84 : decode cX2_placeFrom 84 = .ok (.getfield 15, 3) := by decide +kernel
theorem dX2_placeFrom_87 : decode cX2_placeFrom 87 = .ok (.iload 4, 2) := by decide +kernel
theorem dX2_placeFrom_89 : decode cX2_placeFrom 89 = .ok (.dup2, 1) := by decide +kernel
theorem dX2_placeFrom_90 : decode cX2_placeFrom 90 = .ok (.iaload, 1) := by decide +kernel
theorem dX2_placeFrom_91 : decode cX2_placeFrom 91 = .ok (.iload_n 3, 1) := by decide +kernel
theorem dX2_placeFrom_92 : decode cX2_placeFrom 92 = .ok (.iadd, 1) := by decide +kernel
theorem dX2_placeFrom_93 : decode cX2_placeFrom 93 = .ok (.iastore, 1) := by decide +kernel
theorem dX2_placeFrom_94 : decode cX2_placeFrom 94 = .ok (.aload_n 0, 1) := by decide +kernel
theorem dX2_placeFrom_95 : decode cX2_placeFrom 95 = .ok (.getfield 19, 3) := by decide +kernel
theorem dX2_placeFrom_98 : decode cX2_placeFrom 98 = .ok (.iload_n 1, 1) := by decide +kernel
theorem dX2_placeFrom_99 : decode cX2_placeFrom 99 = .ok (.iload 4, 2) := by decide +kernel
theorem dX2_placeFrom_101 : decode cX2_placeFrom 101 = .ok (.iastore, 1) := by decide +kernel
theorem dX2_placeFrom_102 : decode cX2_placeFrom 102 = .ok (.aload_n 0, 1) := by decide +kernel
theorem dX2_placeFrom_103 : decode cX2_placeFrom 103 = .ok (.iload_n 1, 1) := by decide +kernel
theorem dX2_placeFrom_104 : decode cX2_placeFrom 104 = .ok (.iconst 1, 1) := by decide +kernel
theorem dX2_placeFrom_105 : decode cX2_placeFrom 105 = .ok (.iadd, 1) := by decide +kernel
theorem dX2_placeFrom_106 : decode cX2_placeFrom 106 = .ok (.iload_n 2, 1) := by decide +kernel
theorem dX2_placeFrom_107 : decode cX2_placeFrom 107 = .ok (.invokevirtual 29, 3) := by decide +kernel
theorem dX2_placeFrom_110 : decode cX2_placeFrom 110 = .ok (.aload_n 0, 1) := by decide +kernel
theorem dX2_placeFrom_111 : decode cX2_placeFrom 111 = .ok (.getfield 15, 3) := by decide +kernel
theorem dX2_placeFrom_114 : decode cX2_placeFrom 114 = .ok (.iload 4, 2) := by decide +kernel
theorem dX2_placeFrom_116 : decode cX2_placeFrom 116 = .ok (.dup2, 1) := by decide +kernel
theorem dX2_placeFrom_117 : decode cX2_placeFrom 117 = .ok (.iaload, 1) := by decide +kernel
theorem dX2_placeFrom_118 : decode cX2_placeFrom 118 = .ok (.iload_n 3, 1) := by decide +kernel
theorem dX2_placeFrom_119 : decode cX2_placeFrom 119 = .ok (.isub, 1) := by decide +kernel
theorem dX2_placeFrom_120 : decode cX2_placeFrom 120 = .ok (.iastore, 1) := by decide +kernel
theorem dX2_placeFrom_121 : decode cX2_placeFrom 121 = .ok (.iinc 4 1, 3) := by decide +kernel
theorem dX2_placeFrom_124 : decode cX2_placeFrom 124 = .ok (.goto (-75), 3) := by decide +kernel
theorem dX2_placeFrom_127 : decode cX2_placeFrom 127 = .ok (.return_, 1) := by decide +kernel
theorem dX2_countWay_0 : decode cX2_countWay 0 = .ok (.aload_n 0, 1) := by decide +kernel
theorem dX2_countWay_1 : decode cX2_countWay 1 = .ok (.getfield 25, 3) := by decide +kernel
theorem dX2_countWay_4 : decode cX2_countWay 4 = .ok (.ifCond .ne 29, 3) := by decide +kernel
theorem dX2_countWay_7 : decode cX2_countWay 7 = .ok (.iconst 0, 1) := by decide +kernel
theorem dX2_countWay_8 : decode cX2_countWay 8 = .ok (.istore_n 1, 1) := by decide +kernel
theorem dX2_countWay_9 : decode cX2_countWay 9 = .ok (.iload_n 1, 1) := by decide +kernel
theorem dX2_countWay_10 : decode cX2_countWay 10 = .ok (.bipush 6, 2) := by decide +kernel
theorem dX2_countWay_12 : decode cX2_countWay 12 = .ok (.if_icmp .ge 21, 3) := by decide +kernel
theorem dX2_countWay_15 : decode cX2_countWay 15 = .ok (.aload_n 0, 1) := by decide +kernel
theorem dX2_countWay_16 : decode cX2_countWay 16 = .ok (.getfield 22, 3) := by decide +kernel
theorem dX2_countWay_19 : decode cX2_countWay 19 = .ok (.iload_n 1, 1) := by decide +kernel
theorem dX2_countWay_20 : decode cX2_countWay 20 = .ok (.aload_n 0, 1) := by decide +kernel
theorem dX2_countWay_21 : decode cX2_countWay 21 = .ok (.getfield 19, 3) := by decide +kernel
theorem dX2_countWay_24 : decode cX2_countWay 24 = .ok (.iload_n 1, 1) := by decide +kernel
theorem dX2_countWay_25 : decode cX2_countWay 25 = .ok (.iaload, 1) := by decide +kernel
theorem dX2_countWay_26 : decode cX2_countWay 26 = .ok (.iastore, 1) := by decide +kernel
theorem dX2_countWay_27 : decode cX2_countWay 27 = .ok (.iinc 1 1, 3) := by decide +kernel
theorem dX2_countWay_30 : decode cX2_countWay 30 = .ok (.goto (-21), 3) := by decide +kernel
theorem dX2_countWay_33 : decode cX2_countWay 33 = .ok (.aload_n 0, 1) := by decide +kernel
theorem dX2_countWay_34 : decode cX2_countWay 34 = .ok (.dup, 1) := by decide +kernel
theorem dX2_countWay_35 : decode cX2_countWay 35 = .ok (.getfield 25, 3) := by decide +kernel
theorem dX2_countWay_38 : decode cX2_countWay 38 = .ok (.iconst 1, 1) := by decide +kernel
theorem dX2_countWay_39 : decode cX2_countWay 39 = .ok (.iadd, 1) := by decide +kernel
theorem dX2_countWay_40 : decode cX2_countWay 40 = .ok (.putfield 25, 3) := by decide +kernel
theorem dX2_countWay_43 : decode cX2_countWay 43 = .ok (.return_, 1) := by decide +kernel
theorem dX3_init_0 : decode cX3_init 0 = .ok (.aload_n 0, 1) := by decide +kernel
theorem dX3_init_1 : decode cX3_init 1 = .ok (.invokespecial 3, 3) := by decide +kernel
theorem dX3_init_4 : decode cX3_init 4 = .ok (.aload_n 0, 1) := by decide +kernel
theorem dX3_init_5 : decode cX3_init 5 = .ok (.bipush 8, 2) := by decide +kernel
theorem dX3_init_7 : decode cX3_init 7 = .ok (.newarray .int, 2) := by decide +kernel
theorem dX3_init_9 : decode cX3_init 9 = .ok (.putfield 9, 3) := by decide +kernel
theorem dX3_init_12 : decode cX3_init 12 = .ok (.aload_n 0, 1) := by decide +kernel
theorem dX3_init_13 : decode cX3_init 13 = .ok (.bipush 8, 2) := by decide +kernel
theorem dX3_init_15 : decode cX3_init 15 = .ok (.newarray .int, 2) := by decide +kernel
theorem dX3_init_17 : decode cX3_init 17 = .ok (.putfield 15, 3) := by decide +kernel
theorem dX3_init_20 : decode cX3_init 20 = .ok (.return_, 1) := by decide +kernel
theorem dX3_add_0 : decode cX3_add 0 = .ok (.aload_n 0, 1) := by decide +kernel
theorem dX3_add_1 : decode cX3_add 1 = .ok (.getfield 18, 3) := by decide +kernel
theorem dX3_add_4 : decode cX3_add 4 = .ok (.bipush 8, 2) := by decide +kernel
theorem dX3_add_6 : decode cX3_add 6 = .ok (.if_icmp .lt 6, 3) := by decide +kernel
theorem dX3_add_9 : decode cX3_add 9 = .ok (.bipush (-4), 2) := by decide +kernel
theorem dX3_add_11 : decode cX3_add 11 = .ok (.ireturn, 1) := by decide +kernel
theorem dX3_add_12 : decode cX3_add 12 = .ok (.aload_n 0, 1) := by decide +kernel
theorem dX3_add_13 : decode cX3_add 13 = .ok (.getfield 9, 3) := by decide +kernel
theorem dX3_add_16 : decode cX3_add 16 = .ok (.aload_n 0, 1) := by decide +kernel
theorem dX3_add_17 : decode cX3_add 17 = .ok (.getfield 18, 3) := by decide +kernel
theorem dX3_add_20 : decode cX3_add 20 = .ok (.iload_n 1, 1) := by decide +kernel
theorem dX3_add_21 : decode cX3_add 21 = .ok (.iastore, 1) := by decide +kernel
theorem dX3_add_22 : decode cX3_add 22 = .ok (.aload_n 0, 1) := by decide +kernel
theorem dX3_add_23 : decode cX3_add 23 = .ok (.getfield 15, 3) := by decide +kernel
theorem dX3_add_26 : decode cX3_add 26 = .ok (.aload_n 0, 1) := by decide +kernel
theorem dX3_add_27 : decode cX3_add 27 = .ok (.getfield 18, 3) := by decide +kernel
theorem dX3_add_30 : decode cX3_add 30 = .ok (.iload_n 2, 1) := by decide +kernel
theorem dX3_add_31 : decode cX3_add 31 = .ok (.iastore, 1) := by decide +kernel
theorem dX3_add_32 : decode cX3_add 32 = .ok (.aload_n 0, 1) := by decide +kernel
theorem dX3_add_33 : decode cX3_add 33 = .ok (.dup, 1) := by decide +kernel
theorem dX3_add_34 : decode cX3_add 34 = .ok (.getfield 18, 3) := by decide +kernel
theorem dX3_add_37 : decode cX3_add 37 = .ok (.iconst 1, 1) := by decide +kernel
theorem dX3_add_38 : decode cX3_add 38 = .ok (.iadd, 1) := by decide +kernel
theorem dX3_add_39 : decode cX3_add 39 = .ok (.putfield 18, 3) := by decide +kernel
theorem dX3_add_42 : decode cX3_add 42 = .ok (.aload_n 0, 1) := by decide +kernel
theorem dX3_add_43 : decode cX3_add 43 = .ok (.getfield 18, 3) := by decide +kernel
theorem dX3_add_46 : decode cX3_add 46 = .ok (.iconst 1, 1) := by decide +kernel
theorem dX3_add_47 : decode cX3_add 47 = .ok (.isub, 1) := by decide +kernel
theorem dX3_add_48 : decode cX3_add 48 = .ok (.ireturn, 1) := by decide +kernel
set_option maxRecDepth 20000 in
theorem ggX3_allAreSo_X7_carried : GoodIn wsX3_allAreSo wsX7_carried := goodIn_r _ [6, 7, 8, 9, 10, 11, 12, 13] (by decide +kernel) (by decide +kernel)
set_option maxRecDepth 20000 in
theorem gX3_allAreSo_X7_carried_n22 : GoodIn wsX3_allAreSo (wsX7_carried) := ggX3_allAreSo_X7_carried
theorem dX3_allAreSo_0 : decode cX3_allAreSo 0 = .ok (.iconst 0, 1) := by decide +kernel
theorem dX3_allAreSo_1 : decode cX3_allAreSo 1 = .ok (.istore_n 3, 1) := by decide +kernel
theorem dX3_allAreSo_2 : decode cX3_allAreSo 2 = .ok (.iload_n 3, 1) := by decide +kernel
theorem dX3_allAreSo_3 : decode cX3_allAreSo 3 = .ok (.aload_n 0, 1) := by decide +kernel
theorem dX3_allAreSo_4 : decode cX3_allAreSo 4 = .ok (.getfield 18, 3) := by decide +kernel
theorem dX3_allAreSo_7 : decode cX3_allAreSo 7 = .ok (.if_icmp .ge 31, 3) := by decide +kernel
theorem dX3_allAreSo_10 : decode cX3_allAreSo 10 = .ok (.iload_n 2, 1) := by decide +kernel
theorem dX3_allAreSo_11 : decode cX3_allAreSo 11 = .ok (.iload_n 1, 1) := by decide +kernel
theorem dX3_allAreSo_12 : decode cX3_allAreSo 12 = .ok (.aload_n 0, 1) := by decide +kernel
theorem dX3_allAreSo_13 : decode cX3_allAreSo 13 = .ok (.getfield 9, 3) := by decide +kernel
theorem dX3_allAreSo_16 : decode cX3_allAreSo 16 = .ok (.iload_n 3, 1) := by decide +kernel
theorem dX3_allAreSo_17 : decode cX3_allAreSo 17 = .ok (.iaload, 1) := by decide +kernel
theorem dX3_allAreSo_18 : decode cX3_allAreSo 18 = .ok (.invokestatic 22, 3) := by decide +kernel
theorem dX3_allAreSo_21 : decode cX3_allAreSo 21 = .ok (.aload_n 0, 1) := by decide +kernel
theorem dX3_allAreSo_22 : decode cX3_allAreSo 22 = .ok (.getfield 15, 3) := by decide +kernel
theorem dX3_allAreSo_25 : decode cX3_allAreSo 25 = .ok (.iload_n 3, 1) := by decide +kernel
theorem dX3_allAreSo_26 : decode cX3_allAreSo 26 = .ok (.iaload, 1) := by decide +kernel
theorem dX3_allAreSo_27 : decode cX3_allAreSo 27 = .ok (.if_icmp .eq 5, 3) := by decide +kernel
theorem dX3_allAreSo_30 : decode cX3_allAreSo 30 = .ok (.iconst 0, 1) := by decide +kernel
theorem dX3_allAreSo_31 : decode cX3_allAreSo 31 = .ok (.ireturn, 1) := by decide +kernel
theorem dX3_allAreSo_32 : decode cX3_allAreSo 32 = .ok (.iinc 3 1, 3) := by decide +kernel
theorem dX3_allAreSo_35 : decode cX3_allAreSo 35 = .ok (.goto (-33), 3) := by decide +kernel
theorem dX3_allAreSo_38 : decode cX3_allAreSo 38 = .ok (.iconst 1, 1) := by decide +kernel
theorem dX3_allAreSo_39 : decode cX3_allAreSo 39 = .ok (.ireturn, 1) := by decide +kernel
theorem dX4_init_0 : decode cX4_init 0 = .ok (.aload_n 0, 1) := by decide +kernel
theorem dX4_init_1 : decode cX4_init 1 = .ok (.invokespecial 3, 3) := by decide +kernel
theorem dX4_init_4 : decode cX4_init 4 = .ok (.aload_n 0, 1) := by decide +kernel
theorem dX4_init_5 : decode cX4_init 5 = .ok (.bipush 60, 2) := by decide +kernel
theorem dX4_init_7 : decode cX4_init 7 = .ok (.newarray .int, 2) := by decide +kernel
theorem dX4_init_9 : decode cX4_init 9 = .ok (.putfield 9, 3) := by decide +kernel
theorem dX4_init_12 : decode cX4_init 12 = .ok (.aload_n 0, 1) := by decide +kernel
theorem dX4_init_13 : decode cX4_init 13 = .ok (.iconst (-1), 1) := by decide +kernel
theorem dX4_init_14 : decode cX4_init 14 = .ok (.putfield 15, 3) := by decide +kernel
theorem dX4_init_17 : decode cX4_init 17 = .ok (.aload_n 0, 1) := by decide +kernel
theorem dX4_init_18 : decode cX4_init 18 = .ok (.iconst 0, 1) := by decide +kernel
theorem dX4_init_19 : decode cX4_init 19 = .ok (.putfield 19, 3) := by decide +kernel
theorem dX4_init_22 : decode cX4_init 22 = .ok (.return_, 1) := by decide +kernel
theorem dX4_hasNothing_0 : decode cX4_hasNothing 0 = .ok (.aload_n 0, 1) := by decide +kernel
theorem dX4_hasNothing_1 : decode cX4_hasNothing 1 = .ok (.getfield 15, 3) := by decide +kernel
theorem dX4_hasNothing_4 : decode cX4_hasNothing 4 = .ok (.iconst (-1), 1) := by decide +kernel
theorem dX4_hasNothing_5 : decode cX4_hasNothing 5 = .ok (.if_icmp .ne 7, 3) := by decide +kernel
theorem dX4_hasNothing_8 : decode cX4_hasNothing 8 = .ok (.iconst 1, 1) := by decide +kernel
theorem dX4_hasNothing_9 : decode cX4_hasNothing 9 = .ok (.goto 4, 3) := by decide +kernel
theorem dX4_hasNothing_12 : decode cX4_hasNothing 12 = .ok (.iconst 0, 1) := by decide +kernel
theorem dX4_hasNothing_13 : decode cX4_hasNothing 13 = .ok (.ireturn, 1) := by decide +kernel
theorem dX4_clear_0 : decode cX4_clear 0 = .ok (.aload_n 0, 1) := by decide +kernel
theorem dX4_clear_1 : decode cX4_clear 1 = .ok (.iconst (-1), 1) := by decide +kernel
theorem dX4_clear_2 : decode cX4_clear 2 = .ok (.putfield 15, 3) := by decide +kernel
theorem dX4_clear_5 : decode cX4_clear 5 = .ok (.aload_n 0, 1) := by decide +kernel
theorem dX4_clear_6 : decode cX4_clear 6 = .ok (.iconst 0, 1) := by decide +kernel
theorem dX4_clear_7 : decode cX4_clear 7 = .ok (.putfield 19, 3) := by decide +kernel
theorem dX4_clear_10 : decode cX4_clear 10 = .ok (.return_, 1) := by decide +kernel
theorem dX4_renew_0 : decode cX4_renew 0 = .ok (.aload_n 0, 1) := by decide +kernel
theorem dX4_renew_1 : decode cX4_renew 1 = .ok (.iload_n 1, 1) := by decide +kernel
theorem dX4_renew_2 : decode cX4_renew 2 = .ok (.putfield 15, 3) := by decide +kernel
theorem dX4_renew_5 : decode cX4_renew 5 = .ok (.aload_n 0, 1) := by decide +kernel
theorem dX4_renew_6 : decode cX4_renew 6 = .ok (.iconst 0, 1) := by decide +kernel
theorem dX4_renew_7 : decode cX4_renew 7 = .ok (.iload_n 2, 1) := by decide +kernel
theorem dX4_renew_8 : decode cX4_renew 8 = .ok (.bipush 60, 2) := by decide +kernel
theorem dX4_renew_10 : decode cX4_renew 10 = .ok (.invokestatic 22, 3) := by decide +kernel
theorem dX4_renew_13 : decode cX4_renew 13 = .ok (.invokestatic 28, 3) := by decide +kernel
theorem dX4_renew_16 : decode cX4_renew 16 = .ok (.putfield 19, 3) := by decide +kernel
theorem dX4_renew_19 : decode cX4_renew 19 = .ok (.iconst 0, 1) := by decide +kernel
theorem dX4_renew_20 : decode cX4_renew 20 = .ok (.istore_n 3, 1) := by decide +kernel
theorem dX4_renew_21 : decode cX4_renew 21 = .ok (.iload_n 3, 1) := by decide +kernel
theorem dX4_renew_22 : decode cX4_renew 22 = .ok (.aload_n 0, 1) := by decide +kernel
theorem dX4_renew_23 : decode cX4_renew 23 = .ok (.getfield 19, 3) := by decide +kernel
theorem dX4_renew_26 : decode cX4_renew 26 = .ok (.if_icmp .ge 16, 3) := by decide +kernel
theorem dX4_renew_29 : decode cX4_renew 29 = .ok (.aload_n 0, 1) := by decide +kernel
theorem dX4_renew_30 : decode cX4_renew 30 = .ok (.getfield 9, 3) := by decide +kernel
theorem dX4_renew_33 : decode cX4_renew 33 = .ok (.iload_n 3, 1) := by decide +kernel
theorem dX4_renew_34 : decode cX4_renew 34 = .ok (.iconst 0, 1) := by decide +kernel
theorem dX4_renew_35 : decode cX4_renew 35 = .ok (.iastore, 1) := by decide +kernel
theorem dX4_renew_36 : decode cX4_renew 36 = .ok (.iinc 3 1, 3) := by decide +kernel
theorem dX4_renew_39 : decode cX4_renew 39 = .ok (.goto (-18), 3) := by decide +kernel
theorem dX4_renew_42 : decode cX4_renew 42 = .ok (.return_, 1) := by decide +kernel
theorem dX4_holds_0 : decode cX4_holds 0 = .ok (.iload_n 1, 1) := by decide +kernel
theorem dX4_holds_1 : decode cX4_holds 1 = .ok (.ifCond .lt 29, 3) := by decide +kernel
theorem dX4_holds_4 : decode cX4_holds 4 = .ok (.iload_n 1, 1) := by decide +kernel
theorem dX4_holds_5 : decode cX4_holds 5 = .ok (.aload_n 0, 1) := by decide +kernel
theorem dX4_holds_6 : decode cX4_holds 6 = .ok (.getfield 19, 3) := by decide +kernel
theorem dX4_holds_9 : decode cX4_holds 9 = .ok (.if_icmp .gt 21, 3) := by decide +kernel
theorem dX4_holds_12 : decode cX4_holds 12 = .ok (.iload_n 2, 1) := by decide +kernel
theorem dX4_holds_13 : decode cX4_holds 13 = .ok (.ifCond .lt 17, 3) := by decide +kernel
theorem dX4_holds_16 : decode cX4_holds 16 = .ok (.iload_n 2, 1) := by decide +kernel
theorem dX4_holds_17 : decode cX4_holds 17 = .ok (.aload_n 0, 1) := by decide +kernel
theorem dX4_holds_18 : decode cX4_holds 18 = .ok (.getfield 19, 3) := by decide +kernel
theorem dX4_holds_21 : decode cX4_holds 21 = .ok (.iload_n 1, 1) := by decide +kernel
theorem dX4_holds_22 : decode cX4_holds 22 = .ok (.isub, 1) := by decide +kernel
theorem dX4_holds_23 : decode cX4_holds 23 = .ok (.if_icmp .gt 7, 3) := by decide +kernel
theorem dX4_holds_26 : decode cX4_holds 26 = .ok (.iconst 1, 1) := by decide +kernel
theorem dX4_holds_27 : decode cX4_holds 27 = .ok (.goto 4, 3) := by decide +kernel
theorem dX4_holds_30 : decode cX4_holds 30 = .ok (.iconst 0, 1) := by decide +kernel
theorem dX4_holds_31 : decode cX4_holds 31 = .ok (.ireturn, 1) := by decide +kernel
set_option maxRecDepth 20000 in
theorem ggX4_faultOfTaking_X4_hasNothing : GoodIn wsX4_faultOfTaking wsX4_hasNothing := goodIn_r _ [6, 1, 12, 13, 14] (by decide +kernel) (by decide +kernel)
set_option maxRecDepth 20000 in
theorem gX4_faultOfTaking_X4_hasNothing : GoodIn wsX4_faultOfTaking (wsV RX4 31 RX4 yX4_hasNothing wsX4_hasNothing) := goodIn_app (goodIn_of _ (by decide +kernel)) ggX4_faultOfTaking_X4_hasNothing
set_option maxRecDepth 20000 in
theorem ggX4_faultOfTaking_X4_holds : GoodIn wsX4_faultOfTaking wsX4_holds := goodIn_r _ [10, 11, 12, 13, 14] (by decide +kernel) (by decide +kernel)
set_option maxRecDepth 20000 in
theorem gX4_faultOfTaking_X4_holds : GoodIn wsX4_faultOfTaking (wsV RX4 35 RX4 yX4_holds wsX4_holds) := goodIn_app (goodIn_of _ (by decide +kernel)) ggX4_faultOfTaking_X4_holds
theorem dX4_faultOfTaking_0 : decode cX4_faultOfTaking 0 = .ok (.aload_n 0, 1) := by decide +kernel
theorem dX4_faultOfTaking_1 : decode cX4_faultOfTaking 1 = .ok (.invokevirtual 31, 3) := by decide +kernel
theorem dX4_faultOfTaking_4 : decode cX4_faultOfTaking 4 = .ok (.ifCond .eq 5, 3) := by decide +kernel
theorem dX4_faultOfTaking_7 : decode cX4_faultOfTaking 7 = .ok (.iconst 1, 1) := by decide +kernel
theorem dX4_faultOfTaking_8 : decode cX4_faultOfTaking 8 = .ok (.ireturn, 1) := by decide +kernel
theorem dX4_faultOfTaking_9 : decode cX4_faultOfTaking 9 = .ok (.aload_n 0, 1) := by decide +kernel
theorem dX4_faultOfTaking_10 : decode cX4_faultOfTaking 10 = .ok (.getfield 15, 3) := by decide +kernel
theorem dX4_faultOfTaking_13 : decode cX4_faultOfTaking 13 = .ok (.iload_n 1, 1) := by decide +kernel
theorem dX4_faultOfTaking_14 : decode cX4_faultOfTaking 14 = .ok (.if_icmp .eq 5, 3) := by decide +kernel
theorem dX4_faultOfTaking_17 : decode cX4_faultOfTaking 17 = .ok (.iconst 2, 1) := by decide +kernel
theorem dX4_faultOfTaking_18 : decode cX4_faultOfTaking 18 = .ok (.ireturn, 1) := by decide +kernel
theorem dX4_faultOfTaking_19 : decode cX4_faultOfTaking 19 = .ok (.iload_n 3, 1) := by decide +kernel
theorem dX4_faultOfTaking_20 : decode cX4_faultOfTaking 20 = .ok (.ifCond .ge 5, 3) := by decide +kernel
theorem dX4_faultOfTaking_23 : decode cX4_faultOfTaking 23 = .ok (.iconst 4, 1) := by decide +kernel
theorem dX4_faultOfTaking_24 : decode cX4_faultOfTaking 24 = .ok (.ireturn, 1) := by decide +kernel
theorem dX4_faultOfTaking_25 : decode cX4_faultOfTaking 25 = .ok (.aload_n 0, 1) := by decide +kernel
theorem dX4_faultOfTaking_26 : decode cX4_faultOfTaking 26 = .ok (.iload_n 2, 1) := by decide +kernel
theorem dX4_faultOfTaking_27 : decode cX4_faultOfTaking 27 = .ok (.iload_n 3, 1) := by decide +kernel
theorem dX4_faultOfTaking_28 : decode cX4_faultOfTaking 28 = .ok (.invokevirtual 35, 3) := by decide +kernel
theorem dX4_faultOfTaking_31 : decode cX4_faultOfTaking 31 = .ok (.ifCond .eq 7, 3) := by decide +kernel
theorem dX4_faultOfTaking_34 : decode cX4_faultOfTaking 34 = .ok (.iconst 0, 1) := by decide +kernel
theorem dX4_faultOfTaking_35 : decode cX4_faultOfTaking 35 = .ok (.goto 4, 3) := by decide +kernel
theorem dX4_faultOfTaking_38 : decode cX4_faultOfTaking 38 = .ok (.iconst 3, 1) := by decide +kernel
theorem dX4_faultOfTaking_39 : decode cX4_faultOfTaking 39 = .ok (.ireturn, 1) := by decide +kernel
theorem dX4_at_0 : decode cX4_at 0 = .ok (.iload_n 1, 1) := by decide +kernel
theorem dX4_at_1 : decode cX4_at 1 = .ok (.ifCond .lt 20, 3) := by decide +kernel
theorem dX4_at_4 : decode cX4_at 4 = .ok (.iload_n 1, 1) := by decide +kernel
theorem dX4_at_5 : decode cX4_at 5 = .ok (.aload_n 0, 1) := by decide +kernel
theorem dX4_at_6 : decode cX4_at 6 = .ok (.getfield 19, 3) := by decide +kernel
theorem dX4_at_9 : decode cX4_at 9 = .ok (.if_icmp .ge 12, 3) := by decide +kernel
theorem dX4_at_12 : decode cX4_at 12 = .ok (.aload_n 0, 1) := by decide +kernel
theorem dX4_at_13 : decode cX4_at 13 = .ok (.getfield 9, 3) := by decide +kernel
theorem dX4_at_16 : decode cX4_at 16 = .ok (.iload_n 1, 1) := by decide +kernel
theorem dX4_at_17 : decode cX4_at 17 = .ok (.iaload, 1) := by decide +kernel
theorem dX4_at_18 : decode cX4_at 18 = .ok (.goto 4, 3) := by decide +kernel
theorem dX4_at_21 : decode cX4_at 21 = .ok (.iconst 0, 1) := by decide +kernel
theorem dX4_at_22 : decode cX4_at 22 = .ok (.ireturn, 1) := by decide +kernel
set_option maxRecDepth 20000 in
theorem ggX4_write_X4_cut : GoodIn wsX4_write wsX4_cut := goodIn_r _ [7, 8, 9, 10, 11] (by decide +kernel) (by decide +kernel)
set_option maxRecDepth 20000 in
theorem gX4_write_X4_cut : GoodIn wsX4_write (wsV RX4 39 RX4 yX4_cut wsX4_cut) := goodIn_app (goodIn_of _ (by decide +kernel)) ggX4_write_X4_cut
theorem dX4_write_0 : decode cX4_write 0 = .ok (.iload_n 1, 1) := by decide +kernel
theorem dX4_write_1 : decode cX4_write 1 = .ok (.ifCond .lt 22, 3) := by decide +kernel
theorem dX4_write_4 : decode cX4_write 4 = .ok (.iload_n 1, 1) := by decide +kernel
theorem dX4_write_5 : decode cX4_write 5 = .ok (.aload_n 0, 1) := by decide +kernel
theorem dX4_write_6 : decode cX4_write 6 = .ok (.getfield 19, 3) := by decide +kernel
theorem dX4_write_9 : decode cX4_write 9 = .ok (.if_icmp .ge 14, 3) := by decide +kernel
theorem dX4_write_12 : decode cX4_write 12 = .ok (.aload_n 0, 1) := by decide +kernel
theorem dX4_write_13 : decode cX4_write 13 = .ok (.getfield 9, 3) := by decide +kernel
theorem dX4_write_16 : decode cX4_write 16 = .ok (.iload_n 1, 1) := by decide +kernel
theorem dX4_write_17 : decode cX4_write 17 = .ok (.aload_n 0, 1) := by decide +kernel
theorem dX4_write_18 : decode cX4_write 18 = .ok (.iload_n 2, 1) := by decide +kernel
theorem dX4_write_19 : decode cX4_write 19 = .ok (.invokevirtual 39, 3) := by decide +kernel
theorem dX4_write_22 : decode cX4_write 22 = .ok (.iastore, 1) := by decide +kernel
theorem dX4_write_23 : decode cX4_write 23 = .ok (.return_, 1) := by decide +kernel
theorem dX4_cut_0 : decode cX4_cut 0 = .ok (.aload_n 0, 1) := by decide +kernel
theorem dX4_cut_1 : decode cX4_cut 1 = .ok (.getfield 15, 3) := by decide +kernel
theorem dX4_cut_4 : decode cX4_cut 4 = .ok (.lookupswitch 34 #[(0, 28), (1, 31)], 28) := by decide +kernel
theorem dX4_cut_32 : decode cX4_cut 32 = .ok (.iload_n 1, 1) := by decide +kernel
theorem dX4_cut_33 : decode cX4_cut 33 = .ok (.i2b, 1) := by decide +kernel
theorem dX4_cut_34 : decode cX4_cut 34 = .ok (.ireturn, 1) := by decide +kernel
theorem dX4_cut_35 : decode cX4_cut 35 = .ok (.iload_n 1, 1) := by decide +kernel
theorem dX4_cut_36 : decode cX4_cut 36 = .ok (.i2s, 1) := by decide +kernel
theorem dX4_cut_37 : decode cX4_cut 37 = .ok (.ireturn, 1) := by decide +kernel
theorem dX4_cut_38 : decode cX4_cut 38 = .ok (.iload_n 1, 1) := by decide +kernel
theorem dX4_cut_39 : decode cX4_cut 39 = .ok (.ireturn, 1) := by decide +kernel
set_option maxRecDepth 20000 in
theorem ggX5_firstFault_X5_roomsIn : GoodIn wsX5_firstFault wsX5_roomsIn := goodIn_r _ [4, 5, 6, 7, 8, 9, 10, 11, 12, 13, 14, 15, 16, 17, 18, 19, 20, 3, 21, 22, 23, 24, 37, 38, 39] (by decide +kernel) (by decide +kernel)
set_option maxRecDepth 20000 in
theorem gX5_firstFault_X5_roomsIn : GoodIn wsX5_firstFault (va_wsS RX5 9 yX5_roomsIn wsX5_roomsIn) := goodIn_app (goodIn_of _ (by decide +kernel)) ggX5_firstFault_X5_roomsIn
set_option maxRecDepth 20000 in
theorem ggX5_firstFault_X4_at : GoodIn wsX5_firstFault wsX4_at := goodIn_r _ [16, 17, 18, 37, 38, 39] (by decide +kernel) (by decide +kernel)
set_option maxRecDepth 20000 in
theorem gX5_firstFault_X4_at : GoodIn wsX5_firstFault (wsV RX5 15 RX4 yX4_at wsX4_at) := goodIn_app (goodIn_of _ (by decide +kernel)) ggX5_firstFault_X4_at
set_option maxRecDepth 20000 in
theorem ggX5_firstFault_X5_goesOn : GoodIn wsX5_firstFault wsX5_goesOn := goodIn_r _ [27, 28, 29, 3, 30, 19, 20, 21, 22, 23, 24, 31, 32, 33, 34, 35, 36] (by decide +kernel) (by decide +kernel)
set_option maxRecDepth 20000 in
theorem gX5_firstFault_X5_goesOn : GoodIn wsX5_firstFault (va_wsS RX5 21 yX5_goesOn wsX5_goesOn) := goodIn_app (goodIn_of _ (by decide +kernel)) ggX5_firstFault_X5_goesOn
theorem dX5_firstFault_0 : decode cX5_firstFault 0 = .ok (.aload_n 0, 1) := by decide +kernel
theorem dX5_firstFault_1 : decode cX5_firstFault 1 = .ok (.iload_n 1, 1) := by decide +kernel
theorem dX5_firstFault_2 : decode cX5_firstFault 2 = .ok (.iload_n 2, 1) := by decide +kernel
theorem dX5_firstFault_3 : decode cX5_firstFault 3 = .ok (.invokestatic 9, 3) := by decide +kernel
theorem dX5_firstFault_6 : decode cX5_firstFault 6 = .ok (.istore_n 3, 1) := by decide +kernel
theorem dX5_firstFault_7 : decode cX5_firstFault 7 = .ok (.iconst 0, 1) := by decide +kernel
theorem dX5_firstFault_8 : decode cX5_firstFault 8 = .ok (.istore 4, 2) := by decide +kernel
theorem dX5_firstFault_10 : decode cX5_firstFault 10 = .ok (.iload 4, 2) := by decide +kernel
theorem dX5_firstFault_12 : decode cX5_firstFault 12 = .ok (.iload_n 2, 1) := by decide +kernel
theorem dX5_firstFault_13 : decode cX5_firstFault 13 = .ok (.if_icmp .ge 29, 3) := by decide +kernel
theorem dX5_firstFault_16 : decode cX5_firstFault 16 = .ok (.iload 4, 2) := by decide +kernel
theorem dX5_firstFault_18 : decode cX5_firstFault 18 = .ok (.iload_n 3, 1) := by decide +kernel
theorem dX5_firstFault_19 : decode cX5_firstFault 19 = .ok (.aload_n 0, 1) := by decide +kernel
theorem dX5_firstFault_20 : decode cX5_firstFault 20 = .ok (.iload_n 1, 1) := by decide +kernel
theorem dX5_firstFault_21 : decode cX5_firstFault 21 = .ok (.iload 4, 2) := by decide +kernel
theorem dX5_firstFault_23 : decode cX5_firstFault 23 = .ok (.iadd, 1) := by decide +kernel
theorem dX5_firstFault_24 : decode cX5_firstFault 24 = .ok (.invokevirtual 15, 3) := by decide +kernel
theorem dX5_firstFault_27 : decode cX5_firstFault 27 = .ok (.invokestatic 21, 3) := by decide +kernel
theorem dX5_firstFault_30 : decode cX5_firstFault 30 = .ok (.ifCond .ne 6, 3) := by decide +kernel
theorem dX5_firstFault_33 : decode cX5_firstFault 33 = .ok (.iload 4, 2) := by decide +kernel
theorem dX5_firstFault_35 : decode cX5_firstFault 35 = .ok (.ireturn, 1) := by decide +kernel
theorem dX5_firstFault_36 : decode cX5_firstFault 36 = .ok (.iinc 4 1, 3) := by decide +kernel
theorem dX5_firstFault_39 : decode cX5_firstFault 39 = .ok (.goto (-29), 3) := by decide +kernel
theorem dX5_firstFault_42 : decode cX5_firstFault 42 = .ok (.iload_n 2, 1) := by decide +kernel
theorem dX5_firstFault_43 : decode cX5_firstFault 43 = .ok (.iconst 4, 1) := by decide +kernel
theorem dX5_firstFault_44 : decode cX5_firstFault 44 = .ok (.isub, 1) := by decide +kernel
theorem dX5_firstFault_45 : decode cX5_firstFault 45 = .ok (.iload_n 3, 1) := by decide +kernel
theorem dX5_firstFault_46 : decode cX5_firstFault 46 = .ok (.isub, 1) := by decide +kernel
theorem dX5_firstFault_47 : decode cX5_firstFault 47 = .ok (.istore 4, 2) := by decide +kernel
theorem dX5_firstFault_49 : decode cX5_firstFault 49 = .ok (.iload 4, 2) := by decide +kernel
theorem dX5_firstFault_51 : decode cX5_firstFault 51 = .ok (.ifCond .le 15, 3) := by decide +kernel
theorem dX5_firstFault_54 : decode cX5_firstFault 54 = .ok (.iload 4, 2) := by decide +kernel
theorem dX5_firstFault_56 : decode cX5_firstFault 56 = .ok (.bipush 6, 2) := by decide +kernel
theorem dX5_firstFault_58 : decode cX5_firstFault 58 = .ok (.irem, 1) := by decide +kernel
theorem dX5_firstFault_59 : decode cX5_firstFault 59 = .ok (.ifCond .ne 7, 3) := by decide +kernel
theorem dX5_firstFault_62 : decode cX5_firstFault 62 = .ok (.iconst 1, 1) := by decide +kernel
theorem dX5_firstFault_63 : decode cX5_firstFault 63 = .ok (.goto 4, 3) := by decide +kernel
theorem dX5_firstFault_66 : decode cX5_firstFault 66 = .ok (.iconst 0, 1) := by decide +kernel
theorem dX5_firstFault_67 : decode cX5_firstFault 67 = .ok (.istore 5, 2) := by decide +kernel
theorem dX5_firstFault_69 : decode cX5_firstFault 69 = .ok (.iload 5, 2) := by decide +kernel
theorem dX5_firstFault_71 : decode cX5_firstFault 71 = .ok (.ifCond .eq 8, 3) := by decide +kernel
theorem dX5_firstFault_74 : decode cX5_firstFault 74 = .ok (.bipush (-9), 2) := by decide +kernel
theorem dX5_firstFault_76 : decode cX5_firstFault 76 = .ok (.goto 4, 3) := by decide +kernel
theorem dX5_firstFault_79 : decode cX5_firstFault 79 = .ok (.iload_n 2, 1) := by decide +kernel
theorem dX5_firstFault_80 : decode cX5_firstFault 80 = .ok (.ireturn, 1) := by decide +kernel
set_option maxRecDepth 20000 in
theorem ggX5_build_X5_roomsIn : GoodIn wsX5_build wsX5_roomsIn := goodIn_r _ [14, 4, 5, 6, 7, 15, 16, 17, 18, 19, 20, 21, 22, 23, 24, 25, 26, 13, 27, 28, 29, 30, 50, 51, 52] (by decide +kernel) (by decide +kernel)
set_option maxRecDepth 20000 in
theorem gX5_build_X5_roomsIn : GoodIn wsX5_build (va_wsS RX5 9 yX5_roomsIn wsX5_roomsIn) := goodIn_app (goodIn_of _ (by decide +kernel)) ggX5_build_X5_roomsIn
set_option maxRecDepth 20000 in
theorem ggX5_build_X5_digit : GoodIn wsX5_build wsX5_digit := goodIn_r _ [33, 18, 19, 20, 21, 22, 23, 24, 50, 51, 52] (by decide +kernel) (by decide +kernel)
set_option maxRecDepth 20000 in
theorem gX5_build_X5_digit : GoodIn wsX5_build (va_wsS RX5 25 yX5_digit wsX5_digit) := goodIn_app (goodIn_of _ (by decide +kernel)) ggX5_build_X5_digit
set_option maxRecDepth 20000 in
theorem ggX5_build_X5_fill : GoodIn wsX5_build wsX5_fill := goodIn_r _ [36, 37, 38, 39, 40, 18, 19, 20, 21, 22, 23, 24, 41, 42, 13, 43, 31, 32, 33, 53, 54, 55, 56, 50, 51, 52] (by decide +kernel) (by decide +kernel)
set_option maxRecDepth 20000 in
theorem gX5_build_X5_fill : GoodIn wsX5_build (va_wsS RX5 55 yX5_fill wsX5_fill) := goodIn_app (goodIn_of _ (by decide +kernel)) ggX5_build_X5_fill
theorem dX5_build_0 : decode cX5_build 0 = .ok (.aload_n 1, 1) := by decide +kernel
theorem dX5_build_1 : decode cX5_build 1 = .ok (.iload_n 2, 1) := by decide +kernel
theorem dX5_build_2 : decode cX5_build 2 = .ok (.iload_n 3, 1) := by decide +kernel
theorem dX5_build_3 : decode cX5_build 3 = .ok (.invokestatic 9, 3) := by decide +kernel
theorem dX5_build_6 : decode cX5_build 6 = .ok (.istore 4, 2) := by decide +kernel
theorem dX5_build_8 : decode cX5_build 8 = .ok (.aload_n 0, 1) := by decide +kernel
theorem dX5_build_9 : decode cX5_build 9 = .ok (.bipush 8, 2) := by decide +kernel
theorem dX5_build_11 : decode cX5_build 11 = .ok (.aload_n 1, 1) := by decide +kernel
theorem dX5_build_12 : decode cX5_build 12 = .ok (.iload_n 2, 1) := by decide +kernel
theorem dX5_build_13 : decode cX5_build 13 = .ok (.iconst 2, 1) := by decide +kernel
theorem dX5_build_14 : decode cX5_build 14 = .ok (.iadd, 1) := by decide +kernel
theorem dX5_build_15 : decode cX5_build 15 = .ok (.invokestatic 25, 3) := by decide +kernel
theorem dX5_build_18 : decode cX5_build 18 = .ok (.imul, 1) := by decide +kernel
theorem dX5_build_19 : decode cX5_build 19 = .ok (.aload_n 1, 1) := by decide +kernel
theorem dX5_build_20 : decode cX5_build 20 = .ok (.iload_n 2, 1) := by decide +kernel
theorem dX5_build_21 : decode cX5_build 21 = .ok (.iconst 1, 1) := by decide +kernel
theorem dX5_build_22 : decode cX5_build 22 = .ok (.iadd, 1) := by decide +kernel
theorem dX5_build_23 : decode cX5_build 23 = .ok (.invokestatic 25, 3) := by decide +kernel
theorem dX5_build_26 : decode cX5_build 26 = .ok (.iadd, 1) := by decide +kernel
theorem dX5_build_27 : decode cX5_build 27 = .ok (.putfield 29, 3) := by decide +kernel
theorem dX5_build_30 : decode cX5_build 30 = .ok (.aload_n 0, 1) := by decide +kernel
theorem dX5_build_31 : decode cX5_build 31 = .ok (.iload 4, 2) := by decide +kernel
theorem dX5_build_33 : decode cX5_build 33 = .ok (.putfield 35, 3) := by decide +kernel
theorem dX5_build_36 : decode cX5_build 36 = .ok (.iconst 0, 1) := by decide +kernel
theorem dX5_build_37 : decode cX5_build 37 = .ok (.istore 5, 2) := by decide +kernel
theorem dX5_build_39 : decode cX5_build 39 = .ok (.iload 5, 2) := by decide +kernel
theorem dX5_build_41 : decode cX5_build 41 = .ok (.iload 4, 2) := by decide +kernel
theorem dX5_build_43 : decode cX5_build 43 = .ok (.if_icmp .ge 26, 3) := by decide +kernel
theorem dX5_build_46 : decode cX5_build 46 = .ok (.aload_n 0, 1) := by decide +kernel
theorem dX5_build_47 : decode cX5_build 47 = .ok (.getfield 38, 3) := by decide +kernel
theorem dX5_build_50 : decode cX5_build 50 = .ok (.iload 5, 2) := by decide +kernel
theorem dX5_build_52 : decode cX5_build 52 = .ok (.aload_n 1, 1) := by decide +kernel
theorem dX5_build_53 : decode cX5_build 53 = .ok (.iload_n 2, 1) := by decide +kernel
theorem dX5_build_54 : decode cX5_build 54 = .ok (.iconst 4, 1) := by decide +kernel
theorem dX5_build_55 : decode cX5_build 55 = .ok (.iadd, 1) := by decide +kernel
theorem dX5_build_56 : decode cX5_build 56 = .ok (.iload 5, 2) := by decide +kernel
theorem dX5_build_58 : decode cX5_build 58 = .ok (.iadd, 1) := by decide +kernel
theorem dX5_build_59 : decode cX5_build 59 = .ok (.invokestatic 25, 3) := by decide +kernel
theorem dX5_build_62 : decode cX5_build 62 = .ok (.iastore, 1) := by decide +kernel
theorem dX5_build_63 : decode cX5_build 63 = .ok (.iinc 5 1, 3) := by decide +kernel
theorem dX5_build_66 : decode cX5_build 66 = .ok (.goto (-27), 3) := by decide +kernel
theorem dX5_build_69 : decode cX5_build 69 = .ok (.iload_n 2, 1) := by decide +kernel
theorem dX5_build_70 : decode cX5_build 70 = .ok (.iconst 4, 1) := by decide +kernel
theorem dX5_build_71 : decode cX5_build 71 = .ok (.iadd, 1) := by decide +kernel
theorem dX5_build_72 : decode cX5_build 72 = .ok (.iload 4, 2) := by decide +kernel
theorem dX5_build_74 : decode cX5_build 74 = .ok (.iadd, 1) := by decide +kernel
theorem dX5_build_75 : decode cX5_build 75 = .ok (.istore 5, 2) := by decide +kernel
theorem dX5_build_77 : decode cX5_build 77 = .ok (.aload_n 0, 1) := by decide +kernel
theorem dX5_build_78 : decode cX5_build 78 = .ok (.iload_n 3, 1) := by decide +kernel
theorem dX5_build_79 : decode cX5_build 79 = .ok (.iconst 4, 1) := by decide +kernel
theorem dX5_build_80 : decode cX5_build 80 = .ok (.isub, 1) := by decide +kernel
theorem dX5_build_81 : decode cX5_build 81 = .ok (.iload 4, 2) := by decide +kernel
theorem dX5_build_83 : decode cX5_build 83 = .ok (.isub, 1) := by decide +kernel
theorem dX5_build_84 : decode cX5_build 84 = .ok (.bipush 6, 2) := by decide +kernel
theorem dX5_build_86 : decode cX5_build 86 = .ok (.idiv, 1) := by decide +kernel
theorem dX5_build_87 : decode cX5_build 87 = .ok (.bipush 6, 2) := by decide +kernel
theorem dX5_build_89 : decode cX5_build 89 = .ok (.invokestatic 42, 3) := by decide +kernel
theorem dX5_build_92 : decode cX5_build 92 = .ok (.putfield 48, 3) := by decide +kernel
theorem dX5_build_95 : decode cX5_build 95 = .ok (.iconst 0, 1) := by decide +kernel
theorem dX5_build_96 : decode cX5_build 96 = .ok (.istore 6, 2) := by decide +kernel
theorem dX5_build_98 : decode cX5_build 98 = .ok (.iload 6, 2) := by decide +kernel
theorem dX5_build_100 : decode cX5_build 100 = .ok (.aload_n 0, 1) := by decide +kernel
theorem dX5_build_101 : decode cX5_build 101 = .ok (.getfield 48, 3) := by decide +kernel
theorem dX5_build_104 : decode cX5_build 104 = .ok (.if_icmp .ge 28, 3) := by decide +kernel
theorem dX5_build_107 : decode cX5_build 107 = .ok (.aload_n 0, 1) := by decide +kernel
theorem dX5_build_108 : decode cX5_build 108 = .ok (.getfield 51, 3) := by decide +kernel
theorem dX5_build_111 : decode cX5_build 111 = .ok (.iload 6, 2) := by decide +kernel
theorem dX5_build_113 : decode cX5_build 113 = .ok (.aaload, 1) := by decide +kernel
theorem dX5_build_114 : decode cX5_build 114 = .ok (.aload_n 1, 1) := by decide +kernel
theorem dX5_build_115 : decode cX5_build 115 = .ok (.iload 5, 2) := by decide +kernel
theorem dX5_build_117 : decode cX5_build 117 = .ok (.iload 6, 2) := by decide +kernel
theorem dX5_build_119 : decode cX5_build 119 = .ok (.bipush 6, 2) := by decide +kernel
theorem dX5_build_121 : decode cX5_build 121 = .ok (.imul, 1) := by decide +kernel
theorem dX5_build_122 : decode cX5_build 122 = .ok (.iadd, 1) := by decide +kernel
theorem dX5_build_123 : decode cX5_build 123 = .ok (.invokestatic 55, 3) := by decide +kernel
theorem dX5_build_126 : decode cX5_build 126 = .ok (.iinc 6 1, 3) := by decide +kernel
theorem dX5_build_129 : decode cX5_build 129 = .ok (.goto (-31), 3) := by decide +kernel
theorem dX5_build_132 : decode cX5_build 132 = .ok (.aload_n 0, 1) := by decide +kernel
theorem dX5_build_133 : decode cX5_build 133 = .ok (.iconst 0, 1) := by decide +kernel
theorem dX5_build_134 : decode cX5_build 134 = .ok (.putfield 59, 3) := by decide +kernel
theorem dX5_build_137 : decode cX5_build 137 = .ok (.return_, 1) := by decide +kernel
set_option maxRecDepth 20000 in
theorem ggX5_fill_X4_at : GoodIn wsX5_fill wsX4_at := goodIn_r _ [9, 10, 11, 23, 24, 25] (by decide +kernel) (by decide +kernel)
set_option maxRecDepth 20000 in
theorem gX5_fill_X4_at : GoodIn wsX5_fill (wsV RX5 15 RX4 yX4_at wsX4_at) := goodIn_app (goodIn_of _ (by decide +kernel)) ggX5_fill_X4_at
set_option maxRecDepth 20000 in
theorem ggX5_fill_X5_kindOf : GoodIn wsX5_fill wsX5_kindOf := goodIn_r _ [15] (by decide +kernel) (by decide +kernel)
set_option maxRecDepth 20000 in
theorem gX5_fill_X5_kindOf : GoodIn wsX5_fill (va_wsS RX5 62 yX5_kindOf wsX5_kindOf) := goodIn_app (goodIn_of _ (by decide +kernel)) ggX5_fill_X5_kindOf
set_option maxRecDepth 20000 in
theorem ggX5_fill_X5_digit : GoodIn wsX5_fill wsX5_digit := goodIn_r _ [18, 5, 6, 7, 8, 9, 10, 11, 23, 24, 25] (by decide +kernel) (by decide +kernel)
set_option maxRecDepth 20000 in
theorem gX5_fill_X5_digit : GoodIn wsX5_fill (va_wsS RX5 25 yX5_digit wsX5_digit) := goodIn_app (goodIn_of _ (by decide +kernel)) ggX5_fill_X5_digit
theorem dX5_fill_0 : decode cX5_fill 0 = .ok (.aload_n 0, 1) := by decide +kernel
theorem dX5_fill_1 : decode cX5_fill 1 = .ok (.aload_n 1, 1) := by decide +kernel
theorem dX5_fill_2 : decode cX5_fill 2 = .ok (.iload_n 2, 1) := by decide +kernel
theorem dX5_fill_3 : decode cX5_fill 3 = .ok (.iconst 1, 1) := by decide +kernel
theorem dX5_fill_4 : decode cX5_fill 4 = .ok (.iadd, 1) := by decide +kernel
theorem dX5_fill_5 : decode cX5_fill 5 = .ok (.invokevirtual 15, 3) := by decide +kernel
theorem dX5_fill_8 : decode cX5_fill 8 = .ok (.invokestatic 62, 3) := by decide +kernel
theorem dX5_fill_11 : decode cX5_fill 11 = .ok (.putfield 65, 3) := by decide +kernel
theorem dX5_fill_14 : decode cX5_fill 14 = .ok (.aload_n 0, 1) := by decide +kernel
theorem dX5_fill_15 : decode cX5_fill 15 = .ok (.aload_n 1, 1) := by decide +kernel
theorem dX5_fill_16 : decode cX5_fill 16 = .ok (.iload_n 2, 1) := by decide +kernel
theorem dX5_fill_17 : decode cX5_fill 17 = .ok (.iconst 2, 1) := by decide +kernel
theorem dX5_fill_18 : decode cX5_fill 18 = .ok (.iadd, 1) := by decide +kernel
theorem dX5_fill_19 : decode cX5_fill 19 = .ok (.invokestatic 25, 3) := by decide +kernel
theorem dX5_fill_22 : decode cX5_fill 22 = .ok (.putfield 70, 3) := by decide +kernel
theorem dX5_fill_25 : decode cX5_fill 25 = .ok (.aload_n 0, 1) := by decide +kernel
theorem dX5_fill_26 : decode cX5_fill 26 = .ok (.aload_n 1, 1) := by decide +kernel
theorem dX5_fill_27 : decode cX5_fill 27 = .ok (.iload_n 2, 1) := by decide +kernel
theorem dX5_fill_28 : decode cX5_fill 28 = .ok (.iconst 3, 1) := by decide +kernel
theorem dX5_fill_29 : decode cX5_fill 29 = .ok (.iadd, 1) := by decide +kernel
theorem dX5_fill_30 : decode cX5_fill 30 = .ok (.invokestatic 25, 3) := by decide +kernel
theorem dX5_fill_33 : decode cX5_fill 33 = .ok (.putfield 73, 3) := by decide +kernel
theorem dX5_fill_36 : decode cX5_fill 36 = .ok (.aload_n 0, 1) := by decide +kernel
theorem dX5_fill_37 : decode cX5_fill 37 = .ok (.bipush 10, 2) := by decide +kernel
theorem dX5_fill_39 : decode cX5_fill 39 = .ok (.aload_n 1, 1) := by decide +kernel
theorem dX5_fill_40 : decode cX5_fill 40 = .ok (.iload_n 2, 1) := by decide +kernel
theorem dX5_fill_41 : decode cX5_fill 41 = .ok (.iconst 4, 1) := by decide +kernel
theorem dX5_fill_42 : decode cX5_fill 42 = .ok (.iadd, 1) := by decide +kernel
theorem dX5_fill_43 : decode cX5_fill 43 = .ok (.invokestatic 25, 3) := by decide +kernel
theorem dX5_fill_46 : decode cX5_fill 46 = .ok (.imul, 1) := by decide +kernel
theorem dX5_fill_47 : decode cX5_fill 47 = .ok (.aload_n 1, 1) := by decide +kernel
theorem dX5_fill_48 : decode cX5_fill 48 = .ok (.iload_n 2, 1) := by decide +kernel
theorem dX5_fill_49 : decode cX5_fill 49 = .ok (.iconst 5, 1) := by decide +kernel
theorem dX5_fill_50 : decode cX5_fill 50 = .ok (.iadd, 1) := by decide +kernel
theorem dX5_fill_51 : decode cX5_fill 51 = .ok (.invokestatic 25, 3) := by decide +kernel
theorem dX5_fill_54 : decode cX5_fill 54 = .ok (.iadd, 1) := by decide +kernel
theorem dX5_fill_55 : decode cX5_fill 55 = .ok (.putfield 76, 3) := by decide +kernel
theorem dX5_fill_58 : decode cX5_fill 58 = .ok (.return_, 1) := by decide +kernel
set_option maxRecDepth 20000 in
theorem ggX5_roomsIn_X4_at : GoodIn wsX5_roomsIn wsX4_at := goodIn_r _ [12, 13, 14, 22, 23, 24] (by decide +kernel) (by decide +kernel)
set_option maxRecDepth 20000 in
theorem gX5_roomsIn_X4_at : GoodIn wsX5_roomsIn (wsV RX5 15 RX4 yX4_at wsX4_at) := goodIn_app (goodIn_of _ (by decide +kernel)) ggX5_roomsIn_X4_at
set_option maxRecDepth 20000 in
theorem ggX5_roomsIn_X5_isDigit : GoodIn wsX5_roomsIn wsX5_isDigit := goodIn_r _ [18, 19, 20, 21] (by decide +kernel) (by decide +kernel)
set_option maxRecDepth 20000 in
theorem gX5_roomsIn_X5_isDigit : GoodIn wsX5_roomsIn (va_wsS RX5 79 yX5_isDigit wsX5_isDigit) := goodIn_app (goodIn_of _ (by decide +kernel)) ggX5_roomsIn_X5_isDigit
theorem dX5_roomsIn_0 : decode cX5_roomsIn 0 = .ok (.iconst 4, 1) := by decide +kernel
theorem dX5_roomsIn_1 : decode cX5_roomsIn 1 = .ok (.iload_n 2, 1) := by decide +kernel
theorem dX5_roomsIn_2 : decode cX5_roomsIn 2 = .ok (.iconst 4, 1) := by decide +kernel
theorem dX5_roomsIn_3 : decode cX5_roomsIn 3 = .ok (.isub, 1) := by decide +kernel
theorem dX5_roomsIn_4 : decode cX5_roomsIn 4 = .ok (.invokestatic 42, 3) := by decide +kernel
theorem dX5_roomsIn_7 : decode cX5_roomsIn 7 = .ok (.istore_n 3, 1) := by decide +kernel
theorem dX5_roomsIn_8 : decode cX5_roomsIn 8 = .ok (.iconst 0, 1) := by decide +kernel
theorem dX5_roomsIn_9 : decode cX5_roomsIn 9 = .ok (.istore 4, 2) := by decide +kernel
theorem dX5_roomsIn_11 : decode cX5_roomsIn 11 = .ok (.iload 4, 2) := by decide +kernel
theorem dX5_roomsIn_13 : decode cX5_roomsIn 13 = .ok (.iload_n 3, 1) := by decide +kernel
theorem dX5_roomsIn_14 : decode cX5_roomsIn 14 = .ok (.if_icmp .ge 31, 3) := by decide +kernel
theorem dX5_roomsIn_17 : decode cX5_roomsIn 17 = .ok (.aload_n 0, 1) := by decide +kernel
theorem dX5_roomsIn_18 : decode cX5_roomsIn 18 = .ok (.iload_n 1, 1) := by decide +kernel
theorem dX5_roomsIn_19 : decode cX5_roomsIn 19 = .ok (.iconst 4, 1) := by decide +kernel
theorem dX5_roomsIn_20 : decode cX5_roomsIn 20 = .ok (.iadd, 1) := by decide +kernel
theorem dX5_roomsIn_21 : decode cX5_roomsIn 21 = .ok (.iload 4, 2) := by decide +kernel
theorem dX5_roomsIn_23 : decode cX5_roomsIn 23 = .ok (.iadd, 1) := by decide +kernel
theorem dX5_roomsIn_24 : decode cX5_roomsIn 24 = .ok (.invokevirtual 15, 3) := by decide +kernel
theorem dX5_roomsIn_27 : decode cX5_roomsIn 27 = .ok (.iconst 1, 1) := by decide +kernel
theorem dX5_roomsIn_28 : decode cX5_roomsIn 28 = .ok (.bipush 9, 2) := by decide +kernel
theorem dX5_roomsIn_30 : decode cX5_roomsIn 30 = .ok (.invokestatic 79, 3) := by decide +kernel
theorem dX5_roomsIn_33 : decode cX5_roomsIn 33 = .ok (.ifCond .ne 6, 3) := by decide +kernel
theorem dX5_roomsIn_36 : decode cX5_roomsIn 36 = .ok (.iload 4, 2) := by decide +kernel
theorem dX5_roomsIn_38 : decode cX5_roomsIn 38 = .ok (.ireturn, 1) := by decide +kernel
theorem dX5_roomsIn_39 : decode cX5_roomsIn 39 = .ok (.iinc 4 1, 3) := by decide +kernel
theorem dX5_roomsIn_42 : decode cX5_roomsIn 42 = .ok (.goto (-31), 3) := by decide +kernel
theorem dX5_roomsIn_45 : decode cX5_roomsIn 45 = .ok (.iconst 0, 1) := by decide +kernel
theorem dX5_roomsIn_46 : decode cX5_roomsIn 46 = .ok (.iload_n 3, 1) := by decide +kernel
theorem dX5_roomsIn_47 : decode cX5_roomsIn 47 = .ok (.invokestatic 82, 3) := by decide +kernel
theorem dX5_roomsIn_50 : decode cX5_roomsIn 50 = .ok (.ireturn, 1) := by decide +kernel
set_option maxRecDepth 20000 in
theorem ggX5_goesOn_X5_headGoesOn : GoodIn wsX5_goesOn wsX5_headGoesOn := goodIn_r _ [4, 5, 6, 3, 7, 8, 9, 10] (by decide +kernel) (by decide +kernel)
set_option maxRecDepth 20000 in
theorem gX5_goesOn_X5_headGoesOn : GoodIn wsX5_goesOn (va_wsS RX5 85 yX5_headGoesOn wsX5_headGoesOn) := goodIn_app (goodIn_of _ (by decide +kernel)) ggX5_goesOn_X5_headGoesOn
set_option maxRecDepth 20000 in
theorem ggX5_goesOn_X5_articleGoesOn : GoodIn wsX5_goesOn wsX5_articleGoesOn := goodIn_r _ [13, 14, 15, 3, 16, 5, 6, 7, 8, 9, 10] (by decide +kernel) (by decide +kernel)
set_option maxRecDepth 20000 in
theorem gX5_goesOn_X5_articleGoesOn : GoodIn wsX5_goesOn (va_wsS RX5 89 yX5_articleGoesOn wsX5_articleGoesOn) := goodIn_app (goodIn_of _ (by decide +kernel)) ggX5_goesOn_X5_articleGoesOn
theorem dX5_goesOn_0 : decode cX5_goesOn 0 = .ok (.iload_n 0, 1) := by decide +kernel
theorem dX5_goesOn_1 : decode cX5_goesOn 1 = .ok (.iconst 4, 1) := by decide +kernel
theorem dX5_goesOn_2 : decode cX5_goesOn 2 = .ok (.if_icmp .ge 9, 3) := by decide +kernel
theorem dX5_goesOn_5 : decode cX5_goesOn 5 = .ok (.iload_n 0, 1) := by decide +kernel
theorem dX5_goesOn_6 : decode cX5_goesOn 6 = .ok (.iload_n 2, 1) := by decide +kernel
theorem dX5_goesOn_7 : decode cX5_goesOn 7 = .ok (.invokestatic 85, 3) := by decide +kernel
theorem dX5_goesOn_10 : decode cX5_goesOn 10 = .ok (.ireturn, 1) := by decide +kernel
theorem dX5_goesOn_11 : decode cX5_goesOn 11 = .ok (.iload_n 0, 1) := by decide +kernel
theorem dX5_goesOn_12 : decode cX5_goesOn 12 = .ok (.iconst 4, 1) := by decide +kernel
theorem dX5_goesOn_13 : decode cX5_goesOn 13 = .ok (.iload_n 1, 1) := by decide +kernel
theorem dX5_goesOn_14 : decode cX5_goesOn 14 = .ok (.iadd, 1) := by decide +kernel
theorem dX5_goesOn_15 : decode cX5_goesOn 15 = .ok (.if_icmp .ge 5, 3) := by decide +kernel
theorem dX5_goesOn_18 : decode cX5_goesOn 18 = .ok (.iconst 1, 1) := by decide +kernel
theorem dX5_goesOn_19 : decode cX5_goesOn 19 = .ok (.ireturn, 1) := by decide +kernel
theorem dX5_goesOn_20 : decode cX5_goesOn 20 = .ok (.iload_n 0, 1) := by decide +kernel
theorem dX5_goesOn_21 : decode cX5_goesOn 21 = .ok (.iconst 4, 1) := by decide +kernel
theorem dX5_goesOn_22 : decode cX5_goesOn 22 = .ok (.isub, 1) := by decide +kernel
theorem dX5_goesOn_23 : decode cX5_goesOn 23 = .ok (.iload_n 1, 1) := by decide +kernel
theorem dX5_goesOn_24 : decode cX5_goesOn 24 = .ok (.isub, 1) := by decide +kernel
theorem dX5_goesOn_25 : decode cX5_goesOn 25 = .ok (.istore_n 3, 1) := by decide +kernel
theorem dX5_goesOn_26 : decode cX5_goesOn 26 = .ok (.iload_n 1, 1) := by decide +kernel
theorem dX5_goesOn_27 : decode cX5_goesOn 27 = .ok (.ifCond .eq 9, 3) := by decide +kernel
theorem dX5_goesOn_30 : decode cX5_goesOn 30 = .ok (.iload_n 3, 1) := by decide +kernel
theorem dX5_goesOn_31 : decode cX5_goesOn 31 = .ok (.bipush 36, 2) := by decide +kernel
theorem dX5_goesOn_33 : decode cX5_goesOn 33 = .ok (.if_icmp .lt 5, 3) := by decide +kernel
theorem dX5_goesOn_36 : decode cX5_goesOn 36 = .ok (.iconst 0, 1) := by decide +kernel
theorem dX5_goesOn_37 : decode cX5_goesOn 37 = .ok (.ireturn, 1) := by decide +kernel
theorem dX5_goesOn_38 : decode cX5_goesOn 38 = .ok (.iload_n 3, 1) := by decide +kernel
theorem dX5_goesOn_39 : decode cX5_goesOn 39 = .ok (.bipush 6, 2) := by decide +kernel
theorem dX5_goesOn_41 : decode cX5_goesOn 41 = .ok (.irem, 1) := by decide +kernel
theorem dX5_goesOn_42 : decode cX5_goesOn 42 = .ok (.iload_n 2, 1) := by decide +kernel
theorem dX5_goesOn_43 : decode cX5_goesOn 43 = .ok (.invokestatic 89, 3) := by decide +kernel
theorem dX5_goesOn_46 : decode cX5_goesOn 46 = .ok (.ireturn, 1) := by decide +kernel
set_option maxRecDepth 20000 in
theorem ggX5_headGoesOn_X5_isDigit : GoodIn wsX5_headGoesOn wsX5_isDigit := goodIn_r _ [4, 5, 6, 7] (by decide +kernel) (by decide +kernel)
set_option maxRecDepth 20000 in
theorem gX5_headGoesOn_X5_isDigit : GoodIn wsX5_headGoesOn (va_wsS RX5 79 yX5_isDigit wsX5_isDigit) := goodIn_app (goodIn_of _ (by decide +kernel)) ggX5_headGoesOn_X5_isDigit
theorem dX5_headGoesOn_0 : decode cX5_headGoesOn 0 = .ok (.iload_n 0, 1) := by decide +kernel
theorem dX5_headGoesOn_1 : decode cX5_headGoesOn 1 = .ok (.lookupswitch 51 #[(0, 27), (3, 39)], 27) := by decide +kernel
theorem dX5_headGoesOn_28 : decode cX5_headGoesOn 28 = .ok (.iload_n 1, 1) := by decide +kernel
theorem dX5_headGoesOn_29 : decode cX5_headGoesOn 29 = .ok (.bipush 118, 2) := by decide +kernel
theorem dX5_headGoesOn_31 : decode cX5_headGoesOn 31 = .ok (.if_icmp .ne 7, 3) := by decide +kernel
theorem dX5_headGoesOn_34 : decode cX5_headGoesOn 34 = .ok (.iconst 1, 1) := by decide +kernel
theorem dX5_headGoesOn_35 : decode cX5_headGoesOn 35 = .ok (.goto 4, 3) := by decide +kernel
theorem dX5_headGoesOn_38 : decode cX5_headGoesOn 38 = .ok (.iconst 0, 1) := by decide +kernel
theorem dX5_headGoesOn_39 : decode cX5_headGoesOn 39 = .ok (.ireturn, 1) := by decide +kernel
theorem dX5_headGoesOn_40 : decode cX5_headGoesOn 40 = .ok (.iload_n 1, 1) := by decide +kernel
theorem dX5_headGoesOn_41 : decode cX5_headGoesOn 41 = .ok (.bipush 47, 2) := by decide +kernel
theorem dX5_headGoesOn_43 : decode cX5_headGoesOn 43 = .ok (.if_icmp .ne 7, 3) := by decide +kernel
theorem dX5_headGoesOn_46 : decode cX5_headGoesOn 46 = .ok (.iconst 1, 1) := by decide +kernel
theorem dX5_headGoesOn_47 : decode cX5_headGoesOn 47 = .ok (.goto 4, 3) := by decide +kernel
theorem dX5_headGoesOn_50 : decode cX5_headGoesOn 50 = .ok (.iconst 0, 1) := by decide +kernel
theorem dX5_headGoesOn_51 : decode cX5_headGoesOn 51 = .ok (.ireturn, 1) := by decide +kernel
theorem dX5_headGoesOn_52 : decode cX5_headGoesOn 52 = .ok (.iload_n 1, 1) := by decide +kernel
theorem dX5_headGoesOn_53 : decode cX5_headGoesOn 53 = .ok (.iconst 0, 1) := by decide +kernel
theorem dX5_headGoesOn_54 : decode cX5_headGoesOn 54 = .ok (.bipush 7, 2) := by decide +kernel
theorem dX5_headGoesOn_56 : decode cX5_headGoesOn 56 = .ok (.invokestatic 79, 3) := by decide +kernel
theorem dX5_headGoesOn_59 : decode cX5_headGoesOn 59 = .ok (.ireturn, 1) := by decide +kernel
set_option maxRecDepth 20000 in
theorem ggX5_articleGoesOn_X5_kindOf : GoodIn wsX5_articleGoesOn wsX5_kindOf := goodIn_r _ [4] (by decide +kernel) (by decide +kernel)
set_option maxRecDepth 20000 in
theorem gX5_articleGoesOn_X5_kindOf : GoodIn wsX5_articleGoesOn (va_wsS RX5 62 yX5_kindOf wsX5_kindOf) := goodIn_app (goodIn_of _ (by decide +kernel)) ggX5_articleGoesOn_X5_kindOf
set_option maxRecDepth 20000 in
theorem ggX5_articleGoesOn_X5_isDigit : GoodIn wsX5_articleGoesOn wsX5_isDigit := goodIn_r _ [7, 8, 9, 10] (by decide +kernel) (by decide +kernel)
set_option maxRecDepth 20000 in
theorem gX5_articleGoesOn_X5_isDigit : GoodIn wsX5_articleGoesOn (va_wsS RX5 79 yX5_isDigit wsX5_isDigit) := goodIn_app (goodIn_of _ (by decide +kernel)) ggX5_articleGoesOn_X5_isDigit
theorem dX5_articleGoesOn_0 : decode cX5_articleGoesOn 0 = .ok (.iload_n 0, 1) := by decide +kernel
theorem dX5_articleGoesOn_1 : decode cX5_articleGoesOn 1 = .ok (.tableswitch 77 0 4 #[35, 47, 62, 77, 70], 35) := by decide +kernel
theorem dX5_articleGoesOn_36 : decode cX5_articleGoesOn 36 = .ok (.iload_n 1, 1) := by decide +kernel
theorem dX5_articleGoesOn_37 : decode cX5_articleGoesOn 37 = .ok (.bipush 59, 2) := by decide +kernel
theorem dX5_articleGoesOn_39 : decode cX5_articleGoesOn 39 = .ok (.if_icmp .ne 7, 3) := by decide +kernel
theorem dX5_articleGoesOn_42 : decode cX5_articleGoesOn 42 = .ok (.iconst 1, 1) := by decide +kernel
theorem dX5_articleGoesOn_43 : decode cX5_articleGoesOn 43 = .ok (.goto 4, 3) := by decide +kernel
theorem dX5_articleGoesOn_46 : decode cX5_articleGoesOn 46 = .ok (.iconst 0, 1) := by decide +kernel
theorem dX5_articleGoesOn_47 : decode cX5_articleGoesOn 47 = .ok (.ireturn, 1) := by decide +kernel
theorem dX5_articleGoesOn_48 : decode cX5_articleGoesOn 48 = .ok (.iload_n 1, 1) := by decide +kernel
theorem dX5_articleGoesOn_49 : decode cX5_articleGoesOn 49 = .ok (.invokestatic 62, 3) := by decide +kernel
theorem dX5_articleGoesOn_52 : decode cX5_articleGoesOn 52 = .ok (.bipush (-9), 2) := by decide +kernel
theorem dX5_articleGoesOn_54 : decode cX5_articleGoesOn 54 = .ok (.if_icmp .eq 7, 3) := by decide +kernel
theorem dX5_articleGoesOn_57 : decode cX5_articleGoesOn 57 = .ok (.iconst 1, 1) := by decide +kernel
theorem dX5_articleGoesOn_58 : decode cX5_articleGoesOn 58 = .ok (.goto 4, 3) := by decide +kernel
theorem dX5_articleGoesOn_61 : decode cX5_articleGoesOn 61 = .ok (.iconst 0, 1) := by decide +kernel
theorem dX5_articleGoesOn_62 : decode cX5_articleGoesOn 62 = .ok (.ireturn, 1) := by decide +kernel
theorem dX5_articleGoesOn_63 : decode cX5_articleGoesOn 63 = .ok (.iload_n 1, 1) := by decide +kernel
theorem dX5_articleGoesOn_64 : decode cX5_articleGoesOn 64 = .ok (.iconst 1, 1) := by decide +kernel
theorem dX5_articleGoesOn_65 : decode cX5_articleGoesOn 65 = .ok (.bipush 9, 2) := by decide +kernel
theorem dX5_articleGoesOn_67 : decode cX5_articleGoesOn 67 = .ok (.invokestatic 79, 3) := by decide +kernel
theorem dX5_articleGoesOn_70 : decode cX5_articleGoesOn 70 = .ok (.ireturn, 1) := by decide +kernel
theorem dX5_articleGoesOn_71 : decode cX5_articleGoesOn 71 = .ok (.iload_n 1, 1) := by decide +kernel
theorem dX5_articleGoesOn_72 : decode cX5_articleGoesOn 72 = .ok (.iconst 0, 1) := by decide +kernel
theorem dX5_articleGoesOn_73 : decode cX5_articleGoesOn 73 = .ok (.iconst 4, 1) := by decide +kernel
theorem dX5_articleGoesOn_74 : decode cX5_articleGoesOn 74 = .ok (.invokestatic 79, 3) := by decide +kernel
theorem dX5_articleGoesOn_77 : decode cX5_articleGoesOn 77 = .ok (.ireturn, 1) := by decide +kernel
theorem dX5_articleGoesOn_78 : decode cX5_articleGoesOn 78 = .ok (.iload_n 1, 1) := by decide +kernel
theorem dX5_articleGoesOn_79 : decode cX5_articleGoesOn 79 = .ok (.iconst 0, 1) := by decide +kernel
theorem dX5_articleGoesOn_80 : decode cX5_articleGoesOn 80 = .ok (.bipush 9, 2) := by decide +kernel
theorem dX5_articleGoesOn_82 : decode cX5_articleGoesOn 82 = .ok (.invokestatic 79, 3) := by decide +kernel
theorem dX5_articleGoesOn_85 : decode cX5_articleGoesOn 85 = .ok (.ireturn, 1) := by decide +kernel
theorem dX5_kindOf_0 : decode cX5_kindOf 0 = .ok (.iload_n 0, 1) := by decide +kernel
theorem dX5_kindOf_1 : decode cX5_kindOf 1 = .ok (.lookupswitch 41 #[(98, 37), (112, 39), (116, 35)], 35) := by decide +kernel
theorem dX5_kindOf_36 : decode cX5_kindOf 36 = .ok (.iconst 0, 1) := by decide +kernel
theorem dX5_kindOf_37 : decode cX5_kindOf 37 = .ok (.ireturn, 1) := by decide +kernel
theorem dX5_kindOf_38 : decode cX5_kindOf 38 = .ok (.iconst 1, 1) := by decide +kernel
theorem dX5_kindOf_39 : decode cX5_kindOf 39 = .ok (.ireturn, 1) := by decide +kernel
theorem dX5_kindOf_40 : decode cX5_kindOf 40 = .ok (.iconst 2, 1) := by decide +kernel
theorem dX5_kindOf_41 : decode cX5_kindOf 41 = .ok (.ireturn, 1) := by decide +kernel
theorem dX5_kindOf_42 : decode cX5_kindOf 42 = .ok (.bipush (-9), 2) := by decide +kernel
theorem dX5_kindOf_44 : decode cX5_kindOf 44 = .ok (.ireturn, 1) := by decide +kernel
set_option maxRecDepth 20000 in
theorem ggX5_isDigit_X7_within : GoodIn wsX5_isDigit wsX7_within := goodIn_r _ [3] (by decide +kernel) (by decide +kernel)
set_option maxRecDepth 20000 in
theorem gX5_isDigit_X7_within_n92 : GoodIn wsX5_isDigit (wsX7_within) := ggX5_isDigit_X7_within
theorem dX5_isDigit_0 : decode cX5_isDigit 0 = .ok (.iload_n 0, 1) := by decide +kernel
theorem dX5_isDigit_1 : decode cX5_isDigit 1 = .ok (.bipush 48, 2) := by decide +kernel
theorem dX5_isDigit_3 : decode cX5_isDigit 3 = .ok (.iload_n 1, 1) := by decide +kernel
theorem dX5_isDigit_4 : decode cX5_isDigit 4 = .ok (.iadd, 1) := by decide +kernel
theorem dX5_isDigit_5 : decode cX5_isDigit 5 = .ok (.bipush 48, 2) := by decide +kernel
theorem dX5_isDigit_7 : decode cX5_isDigit 7 = .ok (.iload_n 2, 1) := by decide +kernel
theorem dX5_isDigit_8 : decode cX5_isDigit 8 = .ok (.iadd, 1) := by decide +kernel
theorem dX5_isDigit_9 : decode cX5_isDigit 9 = .ok (.invokestatic 92, 3) := by decide +kernel
theorem dX5_isDigit_12 : decode cX5_isDigit 12 = .ok (.ireturn, 1) := by decide +kernel
set_option maxRecDepth 20000 in
theorem ggX5_digit_X4_at : GoodIn wsX5_digit wsX4_at := goodIn_r _ [5, 6, 7, 8, 9, 10] (by decide +kernel) (by decide +kernel)
set_option maxRecDepth 20000 in
theorem gX5_digit_X4_at : GoodIn wsX5_digit (wsV RX5 15 RX4 yX4_at wsX4_at) := goodIn_app (goodIn_of _ (by decide +kernel)) ggX5_digit_X4_at
theorem dX5_digit_0 : decode cX5_digit 0 = .ok (.aload_n 0, 1) := by decide +kernel
theorem dX5_digit_1 : decode cX5_digit 1 = .ok (.iload_n 1, 1) := by decide +kernel
theorem dX5_digit_2 : decode cX5_digit 2 = .ok (.invokevirtual 15, 3) := by decide +kernel
theorem dX5_digit_5 : decode cX5_digit 5 = .ok (.bipush 48, 2) := by decide +kernel
theorem dX5_digit_7 : decode cX5_digit 7 = .ok (.isub, 1) := by decide +kernel
theorem dX5_digit_8 : decode cX5_digit 8 = .ok (.ireturn, 1) := by decide +kernel
theorem dX6_init_0 : decode cX6_init 0 = .ok (.aload_n 0, 1) := by decide +kernel
theorem dX6_init_1 : decode cX6_init 1 = .ok (.invokespecial 3, 3) := by decide +kernel
theorem dX6_init_4 : decode cX6_init 4 = .ok (.aload_n 0, 1) := by decide +kernel
theorem dX6_init_5 : decode cX6_init 5 = .ok (.aload_n 1, 1) := by decide +kernel
theorem dX6_init_6 : decode cX6_init 6 = .ok (.putfield 9, 3) := by decide +kernel
theorem dX6_init_9 : decode cX6_init 9 = .ok (.return_, 1) := by decide +kernel
set_option maxRecDepth 20000 in
theorem ggX6_refusalOf_X4_at : GoodIn wsX6_refusalOf wsX4_at := goodIn_r _ [6, 7, 8, 23, 24, 25] (by decide +kernel) (by decide +kernel)
set_option maxRecDepth 20000 in
theorem gX6_refusalOf_X4_at : GoodIn wsX6_refusalOf (wsV RX6 15 RX4 yX4_at wsX4_at) := goodIn_app (goodIn_of _ (by decide +kernel)) ggX6_refusalOf_X4_at
set_option maxRecDepth 20000 in
theorem ggX6_refusalOf_X1_isArticle : GoodIn wsX6_refusalOf wsX1_isArticle := goodIn_r _ [13, 14, 26, 27, 28, 29, 30, 31] (by decide +kernel) (by decide +kernel)
set_option maxRecDepth 20000 in
theorem gX6_refusalOf_X1_isArticle : GoodIn wsX6_refusalOf (wsV RX6 21 RX1 yX1_isArticle wsX1_isArticle) := goodIn_app (goodIn_of _ (by decide +kernel)) ggX6_refusalOf_X1_isArticle
set_option maxRecDepth 20000 in
theorem ggX6_refusalOf_X7_within : GoodIn wsX6_refusalOf wsX7_within := goodIn_r _ [17] (by decide +kernel) (by decide +kernel)
set_option maxRecDepth 20000 in
theorem gX6_refusalOf_X7_within_n27 : GoodIn wsX6_refusalOf (wsX7_within) := ggX6_refusalOf_X7_within
theorem dX6_refusalOf_0 : decode cX6_refusalOf 0 = .ok (.iconst 0, 1) := by decide +kernel
theorem dX6_refusalOf_1 : decode cX6_refusalOf 1 = .ok (.istore 4, 2) := by decide +kernel
theorem dX6_refusalOf_3 : decode cX6_refusalOf 3 = .ok (.iload 4, 2) := by decide +kernel
theorem dX6_refusalOf_5 : decode cX6_refusalOf 5 = .ok (.iload_n 3, 1) := by decide +kernel
theorem dX6_refusalOf_6 : decode cX6_refusalOf 6 = .ok (.if_icmp .ge 54, 3) := by decide +kernel
theorem dX6_refusalOf_9 : decode cX6_refusalOf 9 = .ok (.aload_n 0, 1) := by decide +kernel
theorem dX6_refusalOf_10 : decode cX6_refusalOf 10 = .ok (.getfield 9, 3) := by decide +kernel
theorem dX6_refusalOf_13 : decode cX6_refusalOf 13 = .ok (.aload_n 1, 1) := by decide +kernel
theorem dX6_refusalOf_14 : decode cX6_refusalOf 14 = .ok (.iload_n 2, 1) := by decide +kernel
theorem dX6_refusalOf_15 : decode cX6_refusalOf 15 = .ok (.iconst 2, 1) := by decide +kernel
theorem dX6_refusalOf_16 : decode cX6_refusalOf 16 = .ok (.iload 4, 2) := by decide +kernel
theorem dX6_refusalOf_18 : decode cX6_refusalOf 18 = .ok (.imul, 1) := by decide +kernel
theorem dX6_refusalOf_19 : decode cX6_refusalOf 19 = .ok (.iadd, 1) := by decide +kernel
theorem dX6_refusalOf_20 : decode cX6_refusalOf 20 = .ok (.invokevirtual 15, 3) := by decide +kernel
theorem dX6_refusalOf_23 : decode cX6_refusalOf 23 = .ok (.invokevirtual 21, 3) := by decide +kernel
theorem dX6_refusalOf_26 : decode cX6_refusalOf 26 = .ok (.ifCond .ne 5, 3) := by decide +kernel
theorem dX6_refusalOf_29 : decode cX6_refusalOf 29 = .ok (.iconst (-1), 1) := by decide +kernel
theorem dX6_refusalOf_30 : decode cX6_refusalOf 30 = .ok (.ireturn, 1) := by decide +kernel
theorem dX6_refusalOf_31 : decode cX6_refusalOf 31 = .ok (.aload_n 1, 1) := by decide +kernel
theorem dX6_refusalOf_32 : decode cX6_refusalOf 32 = .ok (.iload_n 2, 1) := by decide +kernel
theorem dX6_refusalOf_33 : decode cX6_refusalOf 33 = .ok (.iconst 2, 1) := by decide +kernel
theorem dX6_refusalOf_34 : decode cX6_refusalOf 34 = .ok (.iload 4, 2) := by decide +kernel
theorem dX6_refusalOf_36 : decode cX6_refusalOf 36 = .ok (.imul, 1) := by decide +kernel
theorem dX6_refusalOf_37 : decode cX6_refusalOf 37 = .ok (.iadd, 1) := by decide +kernel
theorem dX6_refusalOf_38 : decode cX6_refusalOf 38 = .ok (.iconst 1, 1) := by decide +kernel
theorem dX6_refusalOf_39 : decode cX6_refusalOf 39 = .ok (.iadd, 1) := by decide +kernel
theorem dX6_refusalOf_40 : decode cX6_refusalOf 40 = .ok (.invokevirtual 15, 3) := by decide +kernel
theorem dX6_refusalOf_43 : decode cX6_refusalOf 43 = .ok (.iconst 0, 1) := by decide +kernel
theorem dX6_refusalOf_44 : decode cX6_refusalOf 44 = .ok (.iconst 1, 1) := by decide +kernel
theorem dX6_refusalOf_45 : decode cX6_refusalOf 45 = .ok (.invokestatic 27, 3) := by decide +kernel
theorem dX6_refusalOf_48 : decode cX6_refusalOf 48 = .ok (.ifCond .ne 6, 3) := by decide +kernel
theorem dX6_refusalOf_51 : decode cX6_refusalOf 51 = .ok (.bipush (-2), 2) := by decide +kernel
theorem dX6_refusalOf_53 : decode cX6_refusalOf 53 = .ok (.ireturn, 1) := by decide +kernel
theorem dX6_refusalOf_54 : decode cX6_refusalOf 54 = .ok (.iinc 4 1, 3) := by decide +kernel
theorem dX6_refusalOf_57 : decode cX6_refusalOf 57 = .ok (.goto (-54), 3) := by decide +kernel
theorem dX6_refusalOf_60 : decode cX6_refusalOf 60 = .ok (.iconst 0, 1) := by decide +kernel
theorem dX6_refusalOf_61 : decode cX6_refusalOf 61 = .ok (.ireturn, 1) := by decide +kernel
set_option maxRecDepth 20000 in
theorem ggX6_run_X4_at : GoodIn wsX6_run wsX4_at := goodIn_r _ [11, 12, 13, 72, 73, 74] (by decide +kernel) (by decide +kernel)
set_option maxRecDepth 20000 in
theorem gX6_run_X4_at : GoodIn wsX6_run (wsV RX6 15 RX4 yX4_at wsX4_at) := goodIn_app (goodIn_of _ (by decide +kernel)) ggX6_run_X4_at
set_option maxRecDepth 20000 in
theorem ggX6_run_X7_has : GoodIn wsX6_run wsX7_has := goodIn_r _ [16] (by decide +kernel) (by decide +kernel)
set_option maxRecDepth 20000 in
theorem gX6_run_X7_has_n45 : GoodIn wsX6_run (wsX7_has) := ggX6_run_X7_has
set_option maxRecDepth 20000 in
theorem ggX6_run_X6_go : GoodIn wsX6_run wsX6_go := goodIn_r _ [21, 1, 3, 4, 5, 22, 23, 24, 25, 26, 27, 28, 29, 30, 31, 32, 33, 34, 35, 36, 37, 38, 39, 40, 41, 14, 15, 16, 42, 43, 44, 45, 46, 47, 48, 49, 50, 51, 52, 53, 54, 55, 56, 57, 58, 59, 60, 61, 62, 63, 64, 65, 66, 67, 68, 69, 70, 71, 75, 76, 77, 78] (by decide +kernel) (by decide +kernel)
set_option maxRecDepth 20000 in
theorem gX6_run_X6_go : GoodIn wsX6_run (wsV RX6 49 RX6 yX6_go wsX6_go) := goodIn_app (goodIn_of _ (by decide +kernel)) ggX6_run_X6_go
theorem dX6_run_0 : decode cX6_run 0 = .ok (.aload_n 0, 1) := by decide +kernel
theorem dX6_run_1 : decode cX6_run 1 = .ok (.aload_n 0, 1) := by decide +kernel
theorem dX6_run_2 : decode cX6_run 2 = .ok (.getfield 9, 3) := by decide +kernel
theorem dX6_run_5 : decode cX6_run 5 = .ok (.getfield 31, 3) := by decide +kernel
theorem dX6_run_8 : decode cX6_run 8 = .ok (.putfield 35, 3) := by decide +kernel
theorem dX6_run_11 : decode cX6_run 11 = .ok (.aload_n 0, 1) := by decide +kernel
theorem dX6_run_12 : decode cX6_run 12 = .ok (.iconst 0, 1) := by decide +kernel
theorem dX6_run_13 : decode cX6_run 13 = .ok (.putfield 36, 3) := by decide +kernel
theorem dX6_run_16 : decode cX6_run 16 = .ok (.aload_n 0, 1) := by decide +kernel
theorem dX6_run_17 : decode cX6_run 17 = .ok (.iconst 0, 1) := by decide +kernel
theorem dX6_run_18 : decode cX6_run 18 = .ok (.putfield 39, 3) := by decide +kernel
theorem dX6_run_21 : decode cX6_run 21 = .ok (.aload_n 0, 1) := by decide +kernel
theorem dX6_run_22 : decode cX6_run 22 = .ok (.bipush (-9), 2) := by decide +kernel
theorem dX6_run_24 : decode cX6_run 24 = .ok (.putfield 42, 3) := by decide +kernel
theorem dX6_run_27 : decode cX6_run 27 = .ok (.iconst 0, 1) := by decide +kernel
theorem dX6_run_28 : decode cX6_run 28 = .ok (.istore 4, 2) := by decide +kernel
theorem dX6_run_30 : decode cX6_run 30 = .ok (.iload 4, 2) := by decide +kernel
theorem dX6_run_32 : decode cX6_run 32 = .ok (.iload_n 3, 1) := by decide +kernel
theorem dX6_run_33 : decode cX6_run 33 = .ok (.if_icmp .ge 108, 3) := by decide +kernel
theorem dX6_run_36 : decode cX6_run 36 = .ok (.aload_n 0, 1) := by decide +kernel
theorem dX6_run_37 : decode cX6_run 37 = .ok (.getfield 42, 3) := by decide +kernel
theorem dX6_run_40 : decode cX6_run 40 = .ok (.bipush (-9), 2) := by decide +kernel
theorem dX6_run_42 : decode cX6_run 42 = .ok (.if_icmp .ne 99, 3) := by decide +kernel
theorem dX6_run_45 : decode cX6_run 45 = .ok (.aload_n 1, 1) := by decide +kernel
theorem dX6_run_46 : decode cX6_run 46 = .ok (.iload_n 2, 1) := by decide +kernel
theorem dX6_run_47 : decode cX6_run 47 = .ok (.iconst 2, 1) := by decide +kernel
theorem dX6_run_48 : decode cX6_run 48 = .ok (.iload 4, 2) := by decide +kernel
theorem dX6_run_50 : decode cX6_run 50 = .ok (.imul, 1) := by decide +kernel
theorem dX6_run_51 : decode cX6_run 51 = .ok (.iadd, 1) := by decide +kernel
theorem dX6_run_52 : decode cX6_run 52 = .ok (.invokevirtual 15, 3) := by decide +kernel
theorem dX6_run_55 : decode cX6_run 55 = .ok (.istore 5, 2) := by decide +kernel
theorem dX6_run_57 : decode cX6_run 57 = .ok (.aload_n 1, 1) := by decide +kernel
theorem dX6_run_58 : decode cX6_run 58 = .ok (.iload_n 2, 1) := by decide +kernel
theorem dX6_run_59 : decode cX6_run 59 = .ok (.iconst 2, 1) := by decide +kernel
theorem dX6_run_60 : decode cX6_run 60 = .ok (.iload 4, 2) := by decide +kernel
theorem dX6_run_62 : decode cX6_run 62 = .ok (.imul, 1) := by decide +kernel
theorem dX6_run_63 : decode cX6_run 63 = .ok (.iadd, 1) := by decide +kernel
theorem dX6_run_64 : decode cX6_run 64 = .ok (.iconst 1, 1) := by decide +kernel
theorem dX6_run_65 : decode cX6_run 65 = .ok (.iadd, 1) := by decide +kernel
theorem dX6_run_66 : decode cX6_run 66 = .ok (.invokevirtual 15, 3) := by decide +kernel
theorem dX6_run_69 : decode cX6_run 69 = .ok (.iconst 1, 1) := by decide +kernel
theorem dX6_run_70 : decode cX6_run 70 = .ok (.if_icmp .ne 7, 3) := by decide +kernel
theorem dX6_run_73 : decode cX6_run 73 = .ok (.iconst 1, 1) := by decide +kernel
theorem dX6_run_74 : decode cX6_run 74 = .ok (.goto 4, 3) := by decide +kernel
theorem dX6_run_77 : decode cX6_run 77 = .ok (.iconst 0, 1) := by decide +kernel
theorem dX6_run_78 : decode cX6_run 78 = .ok (.istore 6, 2) := by decide +kernel
theorem dX6_run_80 : decode cX6_run 80 = .ok (.aload_n 0, 1) := by decide +kernel
theorem dX6_run_81 : decode cX6_run 81 = .ok (.getfield 35, 3) := by decide +kernel
theorem dX6_run_84 : decode cX6_run 84 = .ok (.iload 5, 2) := by decide +kernel
theorem dX6_run_86 : decode cX6_run 86 = .ok (.invokestatic 45, 3) := by decide +kernel
theorem dX6_run_89 : decode cX6_run 89 = .ok (.iload 6, 2) := by decide +kernel
theorem dX6_run_91 : decode cX6_run 91 = .ok (.if_icmp .ne 38, 3) := by decide +kernel
theorem dX6_run_94 : decode cX6_run 94 = .ok (.aload_n 0, 1) := by decide +kernel
theorem dX6_run_95 : decode cX6_run 95 = .ok (.iload 6, 2) := by decide +kernel
theorem dX6_run_97 : decode cX6_run 97 = .ok (.ifCond .eq 17, 3) := by decide +kernel
theorem dX6_run_100 : decode cX6_run 100 = .ok (.aload_n 0, 1) := by decide +kernel
theorem dX6_run_101 : decode cX6_run 101 = .ok (.getfield 35, 3) := by decide +kernel
theorem dX6_run_104 : decode cX6_run 104 = .ok (.iconst 1, 1) := by decide +kernel
theorem dX6_run_105 : decode cX6_run 105 = .ok (.iload 5, 2) := by decide +kernel
theorem dX6_run_107 : decode cX6_run 107 = .ok (.ishl, 1) := by decide +kernel
theorem dX6_run_108 : decode cX6_run 108 = .ok (.iconst (-1), 1) := by decide +kernel
theorem dX6_run_109 : decode cX6_run 109 = .ok (.ixor, 1) := by decide +kernel
theorem dX6_run_110 : decode cX6_run 110 = .ok (.iand, 1) := by decide +kernel
theorem dX6_run_111 : decode cX6_run 111 = .ok (.goto 12, 3) := by decide +kernel
theorem dX6_run_114 : decode cX6_run 114 = .ok (.aload_n 0, 1) := by decide +kernel
theorem dX6_run_115 : decode cX6_run 115 = .ok (.getfield 35, 3) := by decide +kernel
theorem dX6_run_118 : decode cX6_run 118 = .ok (.iconst 1, 1) := by decide +kernel
theorem dX6_run_119 : decode cX6_run 119 = .ok (.iload 5, 2) := by decide +kernel
theorem dX6_run_121 : decode cX6_run 121 = .ok (.ishl, 1) := by decide +kernel
theorem dX6_run_122 : decode cX6_run 122 = .ok (.ior, 1) := by decide +kernel
theorem dX6_run_123 : decode cX6_run 123 = .ok (.invokevirtual 49, 3) := by decide +kernel
theorem dX6_run_126 : decode cX6_run 126 = .ok (.goto 9, 3) := by decide +kernel
theorem dX6_run_129 : decode cX6_run 129 = .ok (.aload_n 0, 1) := by decide +kernel
theorem dX6_run_130 : decode cX6_run 130 = .ok (.iload 4, 2) := by decide +kernel
theorem dX6_run_132 : decode cX6_run 132 = .ok (.putfield 42, 3) := by decide +kernel
theorem dX6_run_135 : decode cX6_run 135 = .ok (.iinc 4 1, 3) := by decide +kernel
theorem dX6_run_138 : decode cX6_run 138 = .ok (.goto (-108), 3) := by decide +kernel
theorem dX6_run_141 : decode cX6_run 141 = .ok (.return_, 1) := by decide +kernel
set_option maxRecDepth 20000 in
theorem ggX6_go_X1_companyOf : GoodIn wsX6_go wsX1_companyOf := goodIn_r _ [13, 14, 15, 16, 12, 17, 18, 19, 20, 21, 22, 23, 24, 25, 26, 27, 28, 29, 30, 31, 32, 33, 34, 35, 36, 37, 38, 6, 7, 8, 52, 53, 54, 55, 56, 57, 58, 59, 60, 61] (by decide +kernel) (by decide +kernel)
set_option maxRecDepth 20000 in
theorem gX6_go_X1_companyOf : GoodIn wsX6_go (wsV RX6 53 RX1 yX1_companyOf wsX1_companyOf) := goodIn_app (goodIn_of _ (by decide +kernel)) ggX6_go_X1_companyOf
set_option maxRecDepth 20000 in
theorem ggX6_go_J6_bitCount_0f7a4 : GoodIn wsX6_go wsJ6_bitCount_0f7a4 := goodIn_r _ [42, 43, 44, 45] (by decide +kernel) (by decide +kernel)
set_option maxRecDepth 20000 in
theorem gX6_go_J6_bitCount_0f7a4 : GoodIn wsX6_go (va_wsS RX6 56 yJ6_bitCount_0f7a4 wsJ6_bitCount_0f7a4) := goodIn_app (goodIn_of _ (by decide +kernel)) ggX6_go_J6_bitCount_0f7a4
set_option maxRecDepth 20000 in
theorem ggX6_go_X1_laughOf : GoodIn wsX6_go wsX1_laughOf := goodIn_r _ [24, 18, 19, 25, 26, 27, 28, 29, 30, 31, 32, 33, 34, 35, 36, 37, 38, 6, 7, 8, 52, 53, 54, 55, 56, 57, 58, 59, 60, 61] (by decide +kernel) (by decide +kernel)
set_option maxRecDepth 20000 in
theorem gX6_go_X1_laughOf : GoodIn wsX6_go (wsV RX6 61 RX1 yX1_laughOf wsX1_laughOf) := goodIn_app (goodIn_of _ (by decide +kernel)) ggX6_go_X1_laughOf
theorem dX6_go_0 : decode cX6_go 0 = .ok (.aload_n 0, 1) := by decide +kernel
theorem dX6_go_1 : decode cX6_go 1 = .ok (.aload_n 0, 1) := by decide +kernel
theorem dX6_go_2 : decode cX6_go 2 = .ok (.getfield 9, 3) := by decide +kernel
theorem dX6_go_5 : decode cX6_go 5 = .ok (.iload_n 1, 1) := by decide +kernel
theorem dX6_go_6 : decode cX6_go 6 = .ok (.invokevirtual 53, 3) := by decide +kernel
theorem dX6_go_9 : decode cX6_go 9 = .ok (.putfield 35, 3) := by decide +kernel
theorem dX6_go_12 : decode cX6_go 12 = .ok (.aload_n 0, 1) := by decide +kernel
theorem dX6_go_13 : decode cX6_go 13 = .ok (.dup, 1) := by decide +kernel
theorem dX6_go_14 : decode cX6_go 14 = .ok (.getfield 36, 3) := by decide +kernel
theorem dX6_go_17 : decode cX6_go 17 = .ok (.iload_n 1, 1) := by decide +kernel
theorem dX6_go_18 : decode cX6_go 18 = .ok (.aload_n 0, 1) := by decide +kernel
theorem dX6_go_19 : decode cX6_go 19 = .ok (.getfield 35, 3) := by decide +kernel
theorem dX6_go_22 : decode cX6_go 22 = .ok (.iconst (-1), 1) := by decide +kernel
theorem dX6_go_23 : decode cX6_go 23 = .ok (.ixor, 1) := by decide +kernel
theorem dX6_go_24 : decode cX6_go 24 = .ok (.iand, 1) := by decide +kernel
theorem dX6_go_25 : decode cX6_go 25 = .ok (.invokestatic 56, 3) := by decide +kernel
theorem dX6_go_28 : decode cX6_go 28 = .ok (.iadd, 1) := by decide +kernel
theorem dX6_go_29 : decode cX6_go 29 = .ok (.putfield 36, 3) := by decide +kernel
theorem dX6_go_32 : decode cX6_go 32 = .ok (.aload_n 0, 1) := by decide +kernel
theorem dX6_go_33 : decode cX6_go 33 = .ok (.aload_n 0, 1) := by decide +kernel
theorem dX6_go_34 : decode cX6_go 34 = .ok (.getfield 39, 3) := by decide +kernel
theorem dX6_go_37 : decode cX6_go 37 = .ok (.aload_n 0, 1) := by decide +kernel
theorem dX6_go_38 : decode cX6_go 38 = .ok (.getfield 9, 3) := by decide +kernel
theorem dX6_go_41 : decode cX6_go 41 = .ok (.aload_n 0, 1) := by decide +kernel
theorem dX6_go_42 : decode cX6_go 42 = .ok (.getfield 35, 3) := by decide +kernel
theorem dX6_go_45 : decode cX6_go 45 = .ok (.invokevirtual 61, 3) := by decide +kernel
theorem dX6_go_48 : decode cX6_go 48 = .ok (.invokestatic 64, 3) := by decide +kernel
theorem dX6_go_51 : decode cX6_go 51 = .ok (.putfield 39, 3) := by decide +kernel
theorem dX6_go_54 : decode cX6_go 54 = .ok (.return_, 1) := by decide +kernel
set_option maxRecDepth 20000 in
theorem ggX6_answer_J6_bitCount_0f7a4 : GoodIn wsX6_answer wsJ6_bitCount_0f7a4 := goodIn_r _ [9, 10, 11, 12] (by decide +kernel) (by decide +kernel)
set_option maxRecDepth 20000 in
theorem gX6_answer_J6_bitCount_0f7a4 : GoodIn wsX6_answer (va_wsS RX6 56 yJ6_bitCount_0f7a4 wsJ6_bitCount_0f7a4) := goodIn_app (goodIn_of _ (by decide +kernel)) ggX6_answer_J6_bitCount_0f7a4
set_option maxRecDepth 20000 in
theorem ggX6_answer_X1_laughOf : GoodIn wsX6_answer wsX1_laughOf := goodIn_r _ [17, 18, 19, 20, 21, 22, 23, 24, 25, 26, 27, 28, 29, 30, 31, 32, 33, 34, 35, 36, 42, 43, 44, 45, 46, 47, 48, 49, 50, 51] (by decide +kernel) (by decide +kernel)
set_option maxRecDepth 20000 in
theorem gX6_answer_X1_laughOf : GoodIn wsX6_answer (wsV RX6 61 RX1 yX1_laughOf wsX1_laughOf) := goodIn_app (goodIn_of _ (by decide +kernel)) ggX6_answer_X1_laughOf
theorem dX6_answer_0 : decode cX6_answer 0 = .ok (.iload_n 1, 1) := by decide +kernel
theorem dX6_answer_1 : decode cX6_answer 1 = .ok (.iconst 1, 1) := by decide +kernel
theorem dX6_answer_2 : decode cX6_answer 2 = .ok (.if_icmp .ne 8, 3) := by decide +kernel
theorem dX6_answer_5 : decode cX6_answer 5 = .ok (.aload_n 0, 1) := by decide +kernel
theorem dX6_answer_6 : decode cX6_answer 6 = .ok (.getfield 42, 3) := by decide +kernel
theorem dX6_answer_9 : decode cX6_answer 9 = .ok (.ireturn, 1) := by decide +kernel
theorem dX6_answer_10 : decode cX6_answer 10 = .ok (.aload_n 0, 1) := by decide +kernel
theorem dX6_answer_11 : decode cX6_answer 11 = .ok (.getfield 42, 3) := by decide +kernel
theorem dX6_answer_14 : decode cX6_answer 14 = .ok (.bipush (-9), 2) := by decide +kernel
theorem dX6_answer_16 : decode cX6_answer 16 = .ok (.if_icmp .eq 11, 3) := by decide +kernel
theorem dX6_answer_19 : decode cX6_answer 19 = .ok (.bipush (-100), 2) := by decide +kernel
theorem dX6_answer_21 : decode cX6_answer 21 = .ok (.aload_n 0, 1) := by decide +kernel
theorem dX6_answer_22 : decode cX6_answer 22 = .ok (.getfield 42, 3) := by decide +kernel
theorem dX6_answer_25 : decode cX6_answer 25 = .ok (.isub, 1) := by decide +kernel
theorem dX6_answer_26 : decode cX6_answer 26 = .ok (.ireturn, 1) := by decide +kernel
theorem dX6_answer_27 : decode cX6_answer 27 = .ok (.iload_n 1, 1) := by decide +kernel
theorem dX6_answer_28 : decode cX6_answer 28 = .ok (.tableswitch 66 0 4 #[36, 66, 44, 49, 54], 36) := by decide +kernel
theorem dX6_answer_64 : decode cX6_answer 64 = .ok (.aload_n 0, 1) := by decide +kernel
theorem dX6_answer_65 : decode cX6_answer 65 = .ok (.getfield 35, 3) := by decide +kernel
theorem dX6_answer_68 : decode cX6_answer 68 = .ok (.invokestatic 56, 3) := by decide +kernel
theorem dX6_answer_71 : decode cX6_answer 71 = .ok (.ireturn, 1) := by decide +kernel
theorem dX6_answer_72 : decode cX6_answer 72 = .ok (.aload_n 0, 1) := by decide +kernel
theorem dX6_answer_73 : decode cX6_answer 73 = .ok (.getfield 35, 3) := by decide +kernel
theorem dX6_answer_76 : decode cX6_answer 76 = .ok (.ireturn, 1) := by decide +kernel
theorem dX6_answer_77 : decode cX6_answer 77 = .ok (.aload_n 0, 1) := by decide +kernel
theorem dX6_answer_78 : decode cX6_answer 78 = .ok (.getfield 36, 3) := by decide +kernel
theorem dX6_answer_81 : decode cX6_answer 81 = .ok (.ireturn, 1) := by decide +kernel
theorem dX6_answer_82 : decode cX6_answer 82 = .ok (.aload_n 0, 1) := by decide +kernel
theorem dX6_answer_83 : decode cX6_answer 83 = .ok (.getfield 9, 3) := by decide +kernel
theorem dX6_answer_86 : decode cX6_answer 86 = .ok (.aload_n 0, 1) := by decide +kernel
theorem dX6_answer_87 : decode cX6_answer 87 = .ok (.getfield 35, 3) := by decide +kernel
theorem dX6_answer_90 : decode cX6_answer 90 = .ok (.invokevirtual 61, 3) := by decide +kernel
theorem dX6_answer_93 : decode cX6_answer 93 = .ok (.ireturn, 1) := by decide +kernel
theorem dX6_answer_94 : decode cX6_answer 94 = .ok (.aload_n 0, 1) := by decide +kernel
theorem dX6_answer_95 : decode cX6_answer 95 = .ok (.getfield 39, 3) := by decide +kernel
theorem dX6_answer_98 : decode cX6_answer 98 = .ok (.ireturn, 1) := by decide +kernel
set_option maxRecDepth 20000 in
theorem ggX7_init_X1_init : GoodIn wsX7_init wsX1_init := goodIn_r _ [28, 29, 2, 3, 30, 31, 32, 33, 34, 35, 36, 37, 38, 65, 66, 67, 68, 69, 70, 94, 95, 96, 97] (by decide +kernel) (by decide +kernel)
set_option maxRecDepth 20000 in
theorem gX7_init_X1_init : GoodIn wsX7_init (wsX1_init) := ggX7_init_X1_init
set_option maxRecDepth 20000 in
theorem ggX7_init_X3_init : GoodIn wsX7_init wsX3_init := goodIn_r _ [41, 42, 2, 3, 34, 43, 44, 78, 79, 80] (by decide +kernel) (by decide +kernel)
set_option maxRecDepth 20000 in
theorem gX7_init_X3_init : GoodIn wsX7_init (wsX3_init) := ggX7_init_X3_init
set_option maxRecDepth 20000 in
theorem ggX7_init_X2_init : GoodIn wsX7_init wsX2_init := goodIn_r _ [47, 48, 2, 3, 49, 34, 50, 51, 52, 81, 82, 83, 84, 85] (by decide +kernel) (by decide +kernel)
set_option maxRecDepth 20000 in
theorem gX7_init_X2_init : GoodIn wsX7_init (wsX2_init) := ggX7_init_X2_init
set_option maxRecDepth 20000 in
theorem ggX7_init_X6_init : GoodIn wsX7_init wsX6_init := goodIn_r _ [55, 56, 2, 3, 57, 86, 87, 88, 89, 90] (by decide +kernel) (by decide +kernel)
set_option maxRecDepth 20000 in
theorem gX7_init_X6_init : GoodIn wsX7_init (wsX6_init) := ggX7_init_X6_init
set_option maxRecDepth 20000 in
theorem ggX7_init_X4_init : GoodIn wsX7_init wsX4_init := goodIn_r _ [60, 61, 2, 3, 34, 62, 63, 64, 91, 92, 93] (by decide +kernel) (by decide +kernel)
set_option maxRecDepth 20000 in
theorem gX7_init_X4_init : GoodIn wsX7_init (wsX4_init) := ggX7_init_X4_init
theorem dX7_init_0 : decode cX7_init 0 = .ok (.aload_n 0, 1) := by decide +kernel
theorem dX7_init_1 : decode cX7_init 1 = .ok (.invokespecial 3, 3) := by decide +kernel
theorem dX7_init_4 : decode cX7_init 4 = .ok (.aload_n 0, 1) := by decide +kernel
theorem dX7_init_5 : decode cX7_init 5 = .ok (.new 9, 3) := by decide +kernel
theorem dX7_init_8 : decode cX7_init 8 = .ok (.dup, 1) := by decide +kernel
theorem dX7_init_9 : decode cX7_init 9 = .ok (.invokespecial 11, 3) := by decide +kernel
theorem dX7_init_12 : decode cX7_init 12 = .ok (.putfield 12, 3) := by decide +kernel
theorem dX7_init_15 : decode cX7_init 15 = .ok (.aload_n 0, 1) := by decide +kernel
theorem dX7_init_16 : decode cX7_init 16 = .ok (.new 18, 3) := by decide +kernel
theorem dX7_init_19 : decode cX7_init 19 = .ok (.dup, 1) := by decide +kernel
theorem dX7_init_20 : decode cX7_init 20 = .ok (.invokespecial 20, 3) := by decide +kernel
theorem dX7_init_23 : decode cX7_init 23 = .ok (.putfield 21, 3) := by decide +kernel
theorem dX7_init_26 : decode cX7_init 26 = .ok (.aload_n 0, 1) := by decide +kernel
theorem dX7_init_27 : decode cX7_init 27 = .ok (.new 25, 3) := by decide +kernel
theorem dX7_init_30 : decode cX7_init 30 = .ok (.dup, 1) := by decide +kernel
theorem dX7_init_31 : decode cX7_init 31 = .ok (.aload_n 0, 1) := by decide +kernel
theorem dX7_init_32 : decode cX7_init 32 = .ok (.getfield 12, 3) := by decide +kernel
theorem dX7_init_35 : decode cX7_init 35 = .ok (.invokespecial 27, 3) := by decide +kernel
theorem dX7_init_38 : decode cX7_init 38 = .ok (.putfield 30, 3) := by decide +kernel
theorem dX7_init_41 : decode cX7_init 41 = .ok (.aload_n 0, 1) := by decide +kernel
theorem dX7_init_42 : decode cX7_init 42 = .ok (.new 34, 3) := by decide +kernel
theorem dX7_init_45 : decode cX7_init 45 = .ok (.dup, 1) := by decide +kernel
theorem dX7_init_46 : decode cX7_init 46 = .ok (.aload_n 0, 1) := by decide +kernel
theorem dX7_init_47 : decode cX7_init 47 = .ok (.getfield 12, 3) := by decide +kernel
theorem dX7_init_50 : decode cX7_init 50 = .ok (.invokespecial 36, 3) := by decide +kernel
theorem dX7_init_53 : decode cX7_init 53 = .ok (.putfield 37, 3) := by decide +kernel
theorem dX7_init_56 : decode cX7_init 56 = .ok (.aload_n 0, 1) := by decide +kernel
theorem dX7_init_57 : decode cX7_init 57 = .ok (.iconst 4, 1) := by decide +kernel
theorem dX7_init_58 : decode cX7_init 58 = .ok (.anewarray 41, 3) := by decide +kernel
theorem dX7_init_61 : decode cX7_init 61 = .ok (.putfield 43, 3) := by decide +kernel
theorem dX7_init_64 : decode cX7_init 64 = .ok (.iconst 0, 1) := by decide +kernel
theorem dX7_init_65 : decode cX7_init 65 = .ok (.istore_n 1, 1) := by decide +kernel
theorem dX7_init_66 : decode cX7_init 66 = .ok (.iload_n 1, 1) := by decide +kernel
theorem dX7_init_67 : decode cX7_init 67 = .ok (.iconst 4, 1) := by decide +kernel
theorem dX7_init_68 : decode cX7_init 68 = .ok (.if_icmp .ge 22, 3) := by decide +kernel
theorem dX7_init_71 : decode cX7_init 71 = .ok (.aload_n 0, 1) := by decide +kernel
theorem dX7_init_72 : decode cX7_init 72 = .ok (.getfield 43, 3) := by decide +kernel
theorem dX7_init_75 : decode cX7_init 75 = .ok (.iload_n 1, 1) := by decide +kernel
theorem dX7_init_76 : decode cX7_init 76 = .ok (.new 41, 3) := by decide +kernel
theorem dX7_init_79 : decode cX7_init 79 = .ok (.dup, 1) := by decide +kernel
theorem dX7_init_80 : decode cX7_init 80 = .ok (.invokespecial 47, 3) := by decide +kernel
theorem dX7_init_83 : decode cX7_init 83 = .ok (.aastore, 1) := by decide +kernel
theorem dX7_init_84 : decode cX7_init 84 = .ok (.iinc 1 1, 3) := by decide +kernel
theorem dX7_init_87 : decode cX7_init 87 = .ok (.goto (-21), 3) := by decide +kernel
theorem dX7_init_90 : decode cX7_init 90 = .ok (.aload_n 0, 1) := by decide +kernel
theorem dX7_init_91 : decode cX7_init 91 = .ok (.iconst 0, 1) := by decide +kernel
theorem dX7_init_92 : decode cX7_init 92 = .ok (.putfield 48, 3) := by decide +kernel
theorem dX7_init_95 : decode cX7_init 95 = .ok (.aload_n 0, 1) := by decide +kernel
theorem dX7_init_96 : decode cX7_init 96 = .ok (.iconst 0, 1) := by decide +kernel
theorem dX7_init_97 : decode cX7_init 97 = .ok (.putfield 52, 3) := by decide +kernel
theorem dX7_init_100 : decode cX7_init 100 = .ok (.return_, 1) := by decide +kernel
set_option maxRecDepth 20000 in
theorem ggX7_city_X7_isSheet : GoodIn wsX7_city wsX7_isSheet := goodIn_r _ [10, 11, 12, 9, 13] (by decide +kernel) (by decide +kernel)
set_option maxRecDepth 20000 in
theorem gX7_city_X7_isSheet : GoodIn wsX7_city (va_wsS RX7 55 yX7_isSheet wsX7_isSheet) := goodIn_app (goodIn_of _ (by decide +kernel)) ggX7_city_X7_isSheet
set_option maxRecDepth 20000 in
theorem ggX7_city_X7_isLane : GoodIn wsX7_city wsX7_isLane := goodIn_r _ [16, 11, 12, 9, 13] (by decide +kernel) (by decide +kernel)
set_option maxRecDepth 20000 in
theorem gX7_city_X7_isLane : GoodIn wsX7_city (va_wsS RX7 59 yX7_isLane wsX7_isLane) := goodIn_app (goodIn_of _ (by decide +kernel)) ggX7_city_X7_isLane
set_option maxRecDepth 20000 in
theorem ggX7_city_X4_faultOfTaking : GoodIn wsX7_city wsX4_faultOfTaking := goodIn_r _ [21, 22, 23, 24, 25, 20, 26, 27, 28, 29, 30, 31, 105, 106, 107] (by decide +kernel) (by decide +kernel)
set_option maxRecDepth 20000 in
theorem gX7_city_X4_faultOfTaking : GoodIn wsX7_city (wsV RX7 62 RX4 yX4_faultOfTaking wsX4_faultOfTaking) := goodIn_app (goodIn_of _ (by decide +kernel)) ggX7_city_X4_faultOfTaking
set_option maxRecDepth 20000 in
theorem ggX7_city_X7_failed : GoodIn wsX7_city wsX7_failed := goodIn_r _ [35, 1, 89, 90, 91, 92, 93, 94, 95] (by decide +kernel) (by decide +kernel)
set_option maxRecDepth 20000 in
theorem gX7_city_X7_failed : GoodIn wsX7_city (wsV RX7 66 RX7 yX7_failed wsX7_failed) := goodIn_app (goodIn_of _ (by decide +kernel)) ggX7_city_X7_failed
set_option maxRecDepth 20000 in
theorem ggX7_city_X5_firstFault : GoodIn wsX7_city wsX5_firstFault := goodIn_r _ [39, 40, 41, 38, 42, 43, 44, 45, 46, 47, 48, 49, 50, 51, 52, 20, 53, 31, 54, 55, 56, 57, 12, 9, 13, 58, 59, 60, 61, 62, 63, 64, 65, 66, 67, 68, 69, 105, 106, 107] (by decide +kernel) (by decide +kernel)
set_option maxRecDepth 20000 in
theorem gX7_city_X5_firstFault : GoodIn wsX7_city (va_wsS RX7 70 yX5_firstFault wsX5_firstFault) := goodIn_app (goodIn_of _ (by decide +kernel)) ggX7_city_X5_firstFault
set_option maxRecDepth 20000 in
theorem ggX7_city_X5_build : GoodIn wsX7_city wsX5_build := goodIn_r _ [72, 73, 74, 75, 43, 44, 45, 46, 76, 77, 78, 40, 41, 38, 42, 47, 48, 49, 50, 51, 52, 20, 53, 31, 54, 55, 56, 57, 12, 9, 13, 79, 80, 81, 82, 83, 84, 85, 86, 87, 88, 67, 68, 69, 99, 100, 101, 102, 103, 104, 105, 106, 107, 108, 109, 110, 111] (by decide +kernel) (by decide +kernel)
set_option maxRecDepth 20000 in
theorem gX7_city_X5_build : GoodIn wsX7_city (va_wsS RX7 76 yX5_build wsX5_build) := goodIn_app (goodIn_of _ (by decide +kernel)) ggX7_city_X5_build
theorem dX7_city_0 : decode cX7_city 0 = .ok (.aload_n 0, 1) := by decide +kernel
theorem dX7_city_1 : decode cX7_city 1 = .ok (.iconst 0, 1) := by decide +kernel
theorem dX7_city_2 : decode cX7_city 2 = .ok (.putfield 52, 3) := by decide +kernel
theorem dX7_city_5 : decode cX7_city 5 = .ok (.iload_n 1, 1) := by decide +kernel
theorem dX7_city_6 : decode cX7_city 6 = .ok (.invokestatic 55, 3) := by decide +kernel
theorem dX7_city_9 : decode cX7_city 9 = .ok (.ifCond .ne 5, 3) := by decide +kernel
theorem dX7_city_12 : decode cX7_city 12 = .ok (.iconst (-1), 1) := by decide +kernel
theorem dX7_city_13 : decode cX7_city 13 = .ok (.ireturn, 1) := by decide +kernel
theorem dX7_city_14 : decode cX7_city 14 = .ok (.iload_n 2, 1) := by decide +kernel
theorem dX7_city_15 : decode cX7_city 15 = .ok (.invokestatic 59, 3) := by decide +kernel
theorem dX7_city_18 : decode cX7_city 18 = .ok (.ifCond .ne 6, 3) := by decide +kernel
theorem dX7_city_21 : decode cX7_city 21 = .ok (.bipush (-2), 2) := by decide +kernel
theorem dX7_city_23 : decode cX7_city 23 = .ok (.ireturn, 1) := by decide +kernel
theorem dX7_city_24 : decode cX7_city 24 = .ok (.aload_n 0, 1) := by decide +kernel
theorem dX7_city_25 : decode cX7_city 25 = .ok (.getfield 43, 3) := by decide +kernel
theorem dX7_city_28 : decode cX7_city 28 = .ok (.iload_n 1, 1) := by decide +kernel
theorem dX7_city_29 : decode cX7_city 29 = .ok (.aaload, 1) := by decide +kernel
theorem dX7_city_30 : decode cX7_city 30 = .ok (.astore 5, 2) := by decide +kernel
theorem dX7_city_32 : decode cX7_city 32 = .ok (.aload 5, 2) := by decide +kernel
theorem dX7_city_34 : decode cX7_city 34 = .ok (.iload_n 2, 1) := by decide +kernel
theorem dX7_city_35 : decode cX7_city 35 = .ok (.iload_n 3, 1) := by decide +kernel
theorem dX7_city_36 : decode cX7_city 36 = .ok (.iload 4, 2) := by decide +kernel
theorem dX7_city_38 : decode cX7_city 38 = .ok (.invokevirtual 62, 3) := by decide +kernel
theorem dX7_city_41 : decode cX7_city 41 = .ok (.istore 6, 2) := by decide +kernel
theorem dX7_city_43 : decode cX7_city 43 = .ok (.iload 6, 2) := by decide +kernel
theorem dX7_city_45 : decode cX7_city 45 = .ok (.ifCond .eq 10, 3) := by decide +kernel
theorem dX7_city_48 : decode cX7_city 48 = .ok (.aload_n 0, 1) := by decide +kernel
theorem dX7_city_49 : decode cX7_city 49 = .ok (.iload 6, 2) := by decide +kernel
theorem dX7_city_51 : decode cX7_city 51 = .ok (.invokevirtual 66, 3) := by decide +kernel
theorem dX7_city_54 : decode cX7_city 54 = .ok (.ireturn, 1) := by decide +kernel
theorem dX7_city_55 : decode cX7_city 55 = .ok (.aload 5, 2) := by decide +kernel
theorem dX7_city_57 : decode cX7_city 57 = .ok (.iload_n 3, 1) := by decide +kernel
theorem dX7_city_58 : decode cX7_city 58 = .ok (.iload 4, 2) := by decide +kernel
theorem dX7_city_60 : decode cX7_city 60 = .ok (.invokestatic 70, 3) := by decide +kernel
theorem dX7_city_63 : decode cX7_city 63 = .ok (.istore 7, 2) := by decide +kernel
theorem dX7_city_65 : decode cX7_city 65 = .ok (.iload 7, 2) := by decide +kernel
theorem dX7_city_67 : decode cX7_city 67 = .ok (.bipush (-9), 2) := by decide +kernel
theorem dX7_city_69 : decode cX7_city 69 = .ok (.if_icmp .eq 9, 3) := by decide +kernel
theorem dX7_city_72 : decode cX7_city 72 = .ok (.bipush (-100), 2) := by decide +kernel
theorem dX7_city_74 : decode cX7_city 74 = .ok (.iload 7, 2) := by decide +kernel
theorem dX7_city_76 : decode cX7_city 76 = .ok (.isub, 1) := by decide +kernel
theorem dX7_city_77 : decode cX7_city 77 = .ok (.ireturn, 1) := by decide +kernel
theorem dX7_city_78 : decode cX7_city 78 = .ok (.aload_n 0, 1) := by decide +kernel
theorem dX7_city_79 : decode cX7_city 79 = .ok (.getfield 12, 3) := by decide +kernel
theorem dX7_city_82 : decode cX7_city 82 = .ok (.aload 5, 2) := by decide +kernel
theorem dX7_city_84 : decode cX7_city 84 = .ok (.iload_n 3, 1) := by decide +kernel
theorem dX7_city_85 : decode cX7_city 85 = .ok (.iload 4, 2) := by decide +kernel
theorem dX7_city_87 : decode cX7_city 87 = .ok (.invokestatic 76, 3) := by decide +kernel
theorem dX7_city_90 : decode cX7_city 90 = .ok (.aload_n 0, 1) := by decide +kernel
theorem dX7_city_91 : decode cX7_city 91 = .ok (.getfield 21, 3) := by decide +kernel
theorem dX7_city_94 : decode cX7_city 94 = .ok (.iconst 0, 1) := by decide +kernel
theorem dX7_city_95 : decode cX7_city 95 = .ok (.putfield 80, 3) := by decide +kernel
theorem dX7_city_98 : decode cX7_city 98 = .ok (.aload_n 0, 1) := by decide +kernel
theorem dX7_city_99 : decode cX7_city 99 = .ok (.getfield 12, 3) := by decide +kernel
theorem dX7_city_102 : decode cX7_city 102 = .ok (.getfield 83, 3) := by decide +kernel
theorem dX7_city_105 : decode cX7_city 105 = .ok (.ireturn, 1) := by decide +kernel
set_option maxRecDepth 20000 in
theorem ggX7_ofArticle_X1_isArticle : GoodIn wsX7_ofArticle wsX1_isArticle := goodIn_r _ [12, 13, 39, 40, 41, 42, 43, 44] (by decide +kernel) (by decide +kernel)
set_option maxRecDepth 20000 in
theorem gX7_ofArticle_X1_isArticle : GoodIn wsX7_ofArticle (wsV RX7 86 RX1 yX1_isArticle wsX1_isArticle) := goodIn_app (goodIn_of _ (by decide +kernel)) ggX7_ofArticle_X1_isArticle
set_option maxRecDepth 20000 in
theorem ggX7_ofArticle_X0_laugh : GoodIn wsX7_ofArticle wsX0_laugh := goodIn_r _ [18, 19, 20, 21, 22, 17, 23, 24, 25, 26, 27, 45, 46, 47, 48] (by decide +kernel) (by decide +kernel)
set_option maxRecDepth 20000 in
theorem gX7_ofArticle_X0_laugh : GoodIn wsX7_ofArticle (wsV RX7 107 RX0 yX0_laugh wsX0_laugh) := goodIn_app (goodIn_of _ (by decide +kernel)) ggX7_ofArticle_X0_laugh
set_option maxRecDepth 20000 in
theorem ggX7_ofArticle_X7_has : GoodIn wsX7_ofArticle wsX7_has := goodIn_r _ [31] (by decide +kernel) (by decide +kernel)
set_option maxRecDepth 20000 in
theorem gX7_ofArticle_X7_has : GoodIn wsX7_ofArticle (va_wsS RX7 114 yX7_has wsX7_has) := goodIn_app (goodIn_of _ (by decide +kernel)) ggX7_ofArticle_X7_has
theorem dX7_ofArticle_0 : decode cX7_ofArticle 0 = .ok (.aload_n 0, 1) := by decide +kernel
theorem dX7_ofArticle_1 : decode cX7_ofArticle 1 = .ok (.getfield 12, 3) := by decide +kernel
theorem dX7_ofArticle_4 : decode cX7_ofArticle 4 = .ok (.iload_n 1, 1) := by decide +kernel
theorem dX7_ofArticle_5 : decode cX7_ofArticle 5 = .ok (.invokevirtual 86, 3) := by decide +kernel
theorem dX7_ofArticle_8 : decode cX7_ofArticle 8 = .ok (.ifCond .ne 5, 3) := by decide +kernel
theorem dX7_ofArticle_11 : decode cX7_ofArticle 11 = .ok (.iconst (-1), 1) := by decide +kernel
theorem dX7_ofArticle_12 : decode cX7_ofArticle 12 = .ok (.ireturn, 1) := by decide +kernel
theorem dX7_ofArticle_13 : decode cX7_ofArticle 13 = .ok (.aload_n 0, 1) := by decide +kernel
theorem dX7_ofArticle_14 : decode cX7_ofArticle 14 = .ok (.getfield 12, 3) := by decide +kernel
theorem dX7_ofArticle_17 : decode cX7_ofArticle 17 = .ok (.getfield 89, 3) := by decide +kernel
theorem dX7_ofArticle_20 : decode cX7_ofArticle 20 = .ok (.iload_n 1, 1) := by decide +kernel
theorem dX7_ofArticle_21 : decode cX7_ofArticle 21 = .ok (.aaload, 1) := by decide +kernel
theorem dX7_ofArticle_22 : decode cX7_ofArticle 22 = .ok (.astore_n 3, 1) := by decide +kernel
theorem dX7_ofArticle_23 : decode cX7_ofArticle 23 = .ok (.iload_n 2, 1) := by decide +kernel
theorem dX7_ofArticle_24 : decode cX7_ofArticle 24 = .ok (.tableswitch 85 0 5 #[40, 45, 50, 55, 60, 65], 40) := by decide +kernel
theorem dX7_ofArticle_64 : decode cX7_ofArticle 64 = .ok (.aload_n 3, 1) := by decide +kernel
theorem dX7_ofArticle_65 : decode cX7_ofArticle 65 = .ok (.getfield 93, 3) := by decide +kernel
theorem dX7_ofArticle_68 : decode cX7_ofArticle 68 = .ok (.ireturn, 1) := by decide +kernel
theorem dX7_ofArticle_69 : decode cX7_ofArticle 69 = .ok (.aload_n 3, 1) := by decide +kernel
theorem dX7_ofArticle_70 : decode cX7_ofArticle 70 = .ok (.getfield 98, 3) := by decide +kernel
theorem dX7_ofArticle_73 : decode cX7_ofArticle 73 = .ok (.ireturn, 1) := by decide +kernel
theorem dX7_ofArticle_74 : decode cX7_ofArticle 74 = .ok (.aload_n 3, 1) := by decide +kernel
theorem dX7_ofArticle_75 : decode cX7_ofArticle 75 = .ok (.getfield 101, 3) := by decide +kernel
theorem dX7_ofArticle_78 : decode cX7_ofArticle 78 = .ok (.ireturn, 1) := by decide +kernel
theorem dX7_ofArticle_79 : decode cX7_ofArticle 79 = .ok (.aload_n 3, 1) := by decide +kernel
theorem dX7_ofArticle_80 : decode cX7_ofArticle 80 = .ok (.getfield 104, 3) := by decide +kernel
theorem dX7_ofArticle_83 : decode cX7_ofArticle 83 = .ok (.ireturn, 1) := by decide +kernel
theorem dX7_ofArticle_84 : decode cX7_ofArticle 84 = .ok (.aload_n 3, 1) := by decide +kernel
theorem dX7_ofArticle_85 : decode cX7_ofArticle 85 = .ok (.invokevirtual 107, 3) := by decide +kernel
theorem dX7_ofArticle_88 : decode cX7_ofArticle 88 = .ok (.ireturn, 1) := by decide +kernel
theorem dX7_ofArticle_89 : decode cX7_ofArticle 89 = .ok (.aload_n 0, 1) := by decide +kernel
theorem dX7_ofArticle_90 : decode cX7_ofArticle 90 = .ok (.getfield 12, 3) := by decide +kernel
theorem dX7_ofArticle_93 : decode cX7_ofArticle 93 = .ok (.getfield 111, 3) := by decide +kernel
theorem dX7_ofArticle_96 : decode cX7_ofArticle 96 = .ok (.iload_n 1, 1) := by decide +kernel
theorem dX7_ofArticle_97 : decode cX7_ofArticle 97 = .ok (.invokestatic 114, 3) := by decide +kernel
theorem dX7_ofArticle_100 : decode cX7_ofArticle 100 = .ok (.ifCond .eq 7, 3) := by decide +kernel
theorem dX7_ofArticle_103 : decode cX7_ofArticle 103 = .ok (.iconst 1, 1) := by decide +kernel
theorem dX7_ofArticle_104 : decode cX7_ofArticle 104 = .ok (.goto 4, 3) := by decide +kernel
theorem dX7_ofArticle_107 : decode cX7_ofArticle 107 = .ok (.iconst 0, 1) := by decide +kernel
theorem dX7_ofArticle_108 : decode cX7_ofArticle 108 = .ok (.ireturn, 1) := by decide +kernel
theorem dX7_ofArticle_109 : decode cX7_ofArticle 109 = .ok (.bipush (-2), 2) := by decide +kernel
theorem dX7_ofArticle_111 : decode cX7_ofArticle 111 = .ok (.ireturn, 1) := by decide +kernel
set_option maxRecDepth 20000 in
theorem ggX7_space_X1_isRoom : GoodIn wsX7_space wsX1_isRoom := goodIn_r _ [7, 8, 16, 17, 18, 19, 20, 21] (by decide +kernel) (by decide +kernel)
set_option maxRecDepth 20000 in
theorem gX7_space_X1_isRoom : GoodIn wsX7_space (wsV RX7 118 RX1 yX1_isRoom wsX1_isRoom) := goodIn_app (goodIn_of _ (by decide +kernel)) ggX7_space_X1_isRoom
theorem dX7_space_0 : decode cX7_space 0 = .ok (.aload_n 0, 1) := by decide +kernel
theorem dX7_space_1 : decode cX7_space 1 = .ok (.getfield 12, 3) := by decide +kernel
theorem dX7_space_4 : decode cX7_space 4 = .ok (.iload_n 1, 1) := by decide +kernel
theorem dX7_space_5 : decode cX7_space 5 = .ok (.invokevirtual 118, 3) := by decide +kernel
theorem dX7_space_8 : decode cX7_space 8 = .ok (.ifCond .eq 15, 3) := by decide +kernel
theorem dX7_space_11 : decode cX7_space 11 = .ok (.aload_n 0, 1) := by decide +kernel
theorem dX7_space_12 : decode cX7_space 12 = .ok (.getfield 12, 3) := by decide +kernel
theorem dX7_space_15 : decode cX7_space 15 = .ok (.getfield 121, 3) := by decide +kernel
theorem dX7_space_18 : decode cX7_space 18 = .ok (.iload_n 1, 1) := by decide +kernel
theorem dX7_space_19 : decode cX7_space 19 = .ok (.iaload, 1) := by decide +kernel
theorem dX7_space_20 : decode cX7_space 20 = .ok (.goto 4, 3) := by decide +kernel
theorem dX7_space_23 : decode cX7_space 23 = .ok (.iconst (-1), 1) := by decide +kernel
theorem dX7_space_24 : decode cX7_space 24 = .ok (.ireturn, 1) := by decide +kernel
set_option maxRecDepth 20000 in
theorem ggX7_cheer_X1_isArticle : GoodIn wsX7_cheer wsX1_isArticle := goodIn_r _ [8, 9, 21, 22, 23, 24, 25, 26] (by decide +kernel) (by decide +kernel)
set_option maxRecDepth 20000 in
theorem gX7_cheer_X1_isArticle : GoodIn wsX7_cheer (wsV RX7 86 RX1 yX1_isArticle wsX1_isArticle) := goodIn_app (goodIn_of _ (by decide +kernel)) ggX7_cheer_X1_isArticle
set_option maxRecDepth 20000 in
theorem ggX7_cheer_X7_within : GoodIn wsX7_cheer wsX7_within := goodIn_r _ [13] (by decide +kernel) (by decide +kernel)
set_option maxRecDepth 20000 in
theorem gX7_cheer_X7_within : GoodIn wsX7_cheer (va_wsS RX7 125 yX7_within wsX7_within) := goodIn_app (goodIn_of _ (by decide +kernel)) ggX7_cheer_X7_within
theorem dX7_cheer_0 : decode cX7_cheer 0 = .ok (.aload_n 0, 1) := by decide +kernel
theorem dX7_cheer_1 : decode cX7_cheer 1 = .ok (.getfield 12, 3) := by decide +kernel
theorem dX7_cheer_4 : decode cX7_cheer 4 = .ok (.iload_n 1, 1) := by decide +kernel
theorem dX7_cheer_5 : decode cX7_cheer 5 = .ok (.invokevirtual 86, 3) := by decide +kernel
theorem dX7_cheer_8 : decode cX7_cheer 8 = .ok (.ifCond .ne 5, 3) := by decide +kernel
theorem dX7_cheer_11 : decode cX7_cheer 11 = .ok (.iconst (-1), 1) := by decide +kernel
theorem dX7_cheer_12 : decode cX7_cheer 12 = .ok (.ireturn, 1) := by decide +kernel
theorem dX7_cheer_13 : decode cX7_cheer 13 = .ok (.iload_n 2, 1) := by decide +kernel
theorem dX7_cheer_14 : decode cX7_cheer 14 = .ok (.iconst 0, 1) := by decide +kernel
theorem dX7_cheer_15 : decode cX7_cheer 15 = .ok (.bipush 9, 2) := by decide +kernel
theorem dX7_cheer_17 : decode cX7_cheer 17 = .ok (.invokestatic 125, 3) := by decide +kernel
theorem dX7_cheer_20 : decode cX7_cheer 20 = .ok (.ifCond .ne 6, 3) := by decide +kernel
theorem dX7_cheer_23 : decode cX7_cheer 23 = .ok (.bipush (-2), 2) := by decide +kernel
theorem dX7_cheer_25 : decode cX7_cheer 25 = .ok (.ireturn, 1) := by decide +kernel
theorem dX7_cheer_26 : decode cX7_cheer 26 = .ok (.aload_n 0, 1) := by decide +kernel
theorem dX7_cheer_27 : decode cX7_cheer 27 = .ok (.getfield 12, 3) := by decide +kernel
theorem dX7_cheer_30 : decode cX7_cheer 30 = .ok (.getfield 89, 3) := by decide +kernel
theorem dX7_cheer_33 : decode cX7_cheer 33 = .ok (.iload_n 1, 1) := by decide +kernel
theorem dX7_cheer_34 : decode cX7_cheer 34 = .ok (.aaload, 1) := by decide +kernel
theorem dX7_cheer_35 : decode cX7_cheer 35 = .ok (.getfield 101, 3) := by decide +kernel
theorem dX7_cheer_38 : decode cX7_cheer 38 = .ok (.istore_n 3, 1) := by decide +kernel
theorem dX7_cheer_39 : decode cX7_cheer 39 = .ok (.aload_n 0, 1) := by decide +kernel
theorem dX7_cheer_40 : decode cX7_cheer 40 = .ok (.getfield 12, 3) := by decide +kernel
theorem dX7_cheer_43 : decode cX7_cheer 43 = .ok (.getfield 89, 3) := by decide +kernel
theorem dX7_cheer_46 : decode cX7_cheer 46 = .ok (.iload_n 1, 1) := by decide +kernel
theorem dX7_cheer_47 : decode cX7_cheer 47 = .ok (.aaload, 1) := by decide +kernel
theorem dX7_cheer_48 : decode cX7_cheer 48 = .ok (.iload_n 2, 1) := by decide +kernel
theorem dX7_cheer_49 : decode cX7_cheer 49 = .ok (.putfield 101, 3) := by decide +kernel
theorem dX7_cheer_52 : decode cX7_cheer 52 = .ok (.iload_n 3, 1) := by decide +kernel
theorem dX7_cheer_53 : decode cX7_cheer 53 = .ok (.ireturn, 1) := by decide +kernel
set_option maxRecDepth 20000 in
theorem ggX7_miss_X1_isArticle : GoodIn wsX7_miss wsX1_isArticle := goodIn_r _ [8, 9, 21, 22, 23, 24, 25, 26] (by decide +kernel) (by decide +kernel)
set_option maxRecDepth 20000 in
theorem gX7_miss_X1_isArticle : GoodIn wsX7_miss (wsV RX7 86 RX1 yX1_isArticle wsX1_isArticle) := goodIn_app (goodIn_of _ (by decide +kernel)) ggX7_miss_X1_isArticle
set_option maxRecDepth 20000 in
theorem ggX7_miss_X7_within : GoodIn wsX7_miss wsX7_within := goodIn_r _ [13] (by decide +kernel) (by decide +kernel)
set_option maxRecDepth 20000 in
theorem gX7_miss_X7_within : GoodIn wsX7_miss (va_wsS RX7 125 yX7_within wsX7_within) := goodIn_app (goodIn_of _ (by decide +kernel)) ggX7_miss_X7_within
theorem dX7_miss_0 : decode cX7_miss 0 = .ok (.aload_n 0, 1) := by decide +kernel
theorem dX7_miss_1 : decode cX7_miss 1 = .ok (.getfield 12, 3) := by decide +kernel
theorem dX7_miss_4 : decode cX7_miss 4 = .ok (.iload_n 1, 1) := by decide +kernel
theorem dX7_miss_5 : decode cX7_miss 5 = .ok (.invokevirtual 86, 3) := by decide +kernel
theorem dX7_miss_8 : decode cX7_miss 8 = .ok (.ifCond .ne 5, 3) := by decide +kernel
theorem dX7_miss_11 : decode cX7_miss 11 = .ok (.iconst (-1), 1) := by decide +kernel
theorem dX7_miss_12 : decode cX7_miss 12 = .ok (.ireturn, 1) := by decide +kernel
theorem dX7_miss_13 : decode cX7_miss 13 = .ok (.iload_n 2, 1) := by decide +kernel
theorem dX7_miss_14 : decode cX7_miss 14 = .ok (.iconst 0, 1) := by decide +kernel
theorem dX7_miss_15 : decode cX7_miss 15 = .ok (.bipush 49, 2) := by decide +kernel
theorem dX7_miss_17 : decode cX7_miss 17 = .ok (.invokestatic 125, 3) := by decide +kernel
theorem dX7_miss_20 : decode cX7_miss 20 = .ok (.ifCond .ne 6, 3) := by decide +kernel
theorem dX7_miss_23 : decode cX7_miss 23 = .ok (.bipush (-2), 2) := by decide +kernel
theorem dX7_miss_25 : decode cX7_miss 25 = .ok (.ireturn, 1) := by decide +kernel
theorem dX7_miss_26 : decode cX7_miss 26 = .ok (.aload_n 0, 1) := by decide +kernel
theorem dX7_miss_27 : decode cX7_miss 27 = .ok (.getfield 12, 3) := by decide +kernel
theorem dX7_miss_30 : decode cX7_miss 30 = .ok (.getfield 89, 3) := by decide +kernel
theorem dX7_miss_33 : decode cX7_miss 33 = .ok (.iload_n 1, 1) := by decide +kernel
theorem dX7_miss_34 : decode cX7_miss 34 = .ok (.aaload, 1) := by decide +kernel
theorem dX7_miss_35 : decode cX7_miss 35 = .ok (.getfield 104, 3) := by decide +kernel
theorem dX7_miss_38 : decode cX7_miss 38 = .ok (.istore_n 3, 1) := by decide +kernel
theorem dX7_miss_39 : decode cX7_miss 39 = .ok (.aload_n 0, 1) := by decide +kernel
theorem dX7_miss_40 : decode cX7_miss 40 = .ok (.getfield 12, 3) := by decide +kernel
theorem dX7_miss_43 : decode cX7_miss 43 = .ok (.getfield 89, 3) := by decide +kernel
theorem dX7_miss_46 : decode cX7_miss 46 = .ok (.iload_n 1, 1) := by decide +kernel
theorem dX7_miss_47 : decode cX7_miss 47 = .ok (.aaload, 1) := by decide +kernel
theorem dX7_miss_48 : decode cX7_miss 48 = .ok (.iload_n 2, 1) := by decide +kernel
theorem dX7_miss_49 : decode cX7_miss 49 = .ok (.putfield 104, 3) := by decide +kernel
theorem dX7_miss_52 : decode cX7_miss 52 = .ok (.iload_n 3, 1) := by decide +kernel
theorem dX7_miss_53 : decode cX7_miss 53 = .ok (.ireturn, 1) := by decide +kernel
set_option maxRecDepth 20000 in
theorem ggX7_widen_X1_isRoom : GoodIn wsX7_widen wsX1_isRoom := goodIn_r _ [7, 8, 20, 21, 22, 23, 24, 25] (by decide +kernel) (by decide +kernel)
set_option maxRecDepth 20000 in
theorem gX7_widen_X1_isRoom : GoodIn wsX7_widen (wsV RX7 118 RX1 yX1_isRoom wsX1_isRoom) := goodIn_app (goodIn_of _ (by decide +kernel)) ggX7_widen_X1_isRoom
set_option maxRecDepth 20000 in
theorem ggX7_widen_X7_within : GoodIn wsX7_widen wsX7_within := goodIn_r _ [12] (by decide +kernel) (by decide +kernel)
set_option maxRecDepth 20000 in
theorem gX7_widen_X7_within : GoodIn wsX7_widen (va_wsS RX7 125 yX7_within wsX7_within) := goodIn_app (goodIn_of _ (by decide +kernel)) ggX7_widen_X7_within
theorem dX7_widen_0 : decode cX7_widen 0 = .ok (.aload_n 0, 1) := by decide +kernel
theorem dX7_widen_1 : decode cX7_widen 1 = .ok (.getfield 12, 3) := by decide +kernel
theorem dX7_widen_4 : decode cX7_widen 4 = .ok (.iload_n 1, 1) := by decide +kernel
theorem dX7_widen_5 : decode cX7_widen 5 = .ok (.invokevirtual 118, 3) := by decide +kernel
theorem dX7_widen_8 : decode cX7_widen 8 = .ok (.ifCond .ne 5, 3) := by decide +kernel
theorem dX7_widen_11 : decode cX7_widen 11 = .ok (.iconst (-1), 1) := by decide +kernel
theorem dX7_widen_12 : decode cX7_widen 12 = .ok (.ireturn, 1) := by decide +kernel
theorem dX7_widen_13 : decode cX7_widen 13 = .ok (.iload_n 2, 1) := by decide +kernel
theorem dX7_widen_14 : decode cX7_widen 14 = .ok (.iconst 1, 1) := by decide +kernel
theorem dX7_widen_15 : decode cX7_widen 15 = .ok (.bipush 9, 2) := by decide +kernel
theorem dX7_widen_17 : decode cX7_widen 17 = .ok (.invokestatic 125, 3) := by decide +kernel
theorem dX7_widen_20 : decode cX7_widen 20 = .ok (.ifCond .ne 6, 3) := by decide +kernel
theorem dX7_widen_23 : decode cX7_widen 23 = .ok (.bipush (-2), 2) := by decide +kernel
theorem dX7_widen_25 : decode cX7_widen 25 = .ok (.ireturn, 1) := by decide +kernel
theorem dX7_widen_26 : decode cX7_widen 26 = .ok (.aload_n 0, 1) := by decide +kernel
theorem dX7_widen_27 : decode cX7_widen 27 = .ok (.getfield 12, 3) := by decide +kernel
theorem dX7_widen_30 : decode cX7_widen 30 = .ok (.getfield 121, 3) := by decide +kernel
theorem dX7_widen_33 : decode cX7_widen 33 = .ok (.iload_n 1, 1) := by decide +kernel
theorem dX7_widen_34 : decode cX7_widen 34 = .ok (.iaload, 1) := by decide +kernel
theorem dX7_widen_35 : decode cX7_widen 35 = .ok (.istore_n 3, 1) := by decide +kernel
theorem dX7_widen_36 : decode cX7_widen 36 = .ok (.aload_n 0, 1) := by decide +kernel
theorem dX7_widen_37 : decode cX7_widen 37 = .ok (.getfield 12, 3) := by decide +kernel
theorem dX7_widen_40 : decode cX7_widen 40 = .ok (.getfield 121, 3) := by decide +kernel
theorem dX7_widen_43 : decode cX7_widen 43 = .ok (.iload_n 1, 1) := by decide +kernel
theorem dX7_widen_44 : decode cX7_widen 44 = .ok (.iload_n 2, 1) := by decide +kernel
theorem dX7_widen_45 : decode cX7_widen 45 = .ok (.iastore, 1) := by decide +kernel
theorem dX7_widen_46 : decode cX7_widen 46 = .ok (.iload_n 3, 1) := by decide +kernel
theorem dX7_widen_47 : decode cX7_widen 47 = .ok (.ireturn, 1) := by decide +kernel
set_option maxRecDepth 20000 in
theorem ggX7_shift_X7_isCorner : GoodIn wsX7_shift wsX7_isCorner := goodIn_r _ [6, 7, 8, 5, 9] (by decide +kernel) (by decide +kernel)
set_option maxRecDepth 20000 in
theorem gX7_shift_X7_isCorner : GoodIn wsX7_shift (va_wsS RX7 129 yX7_isCorner wsX7_isCorner) := goodIn_app (goodIn_of _ (by decide +kernel)) ggX7_shift_X7_isCorner
set_option maxRecDepth 20000 in
theorem ggX7_shift_X1_stands : GoodIn wsX7_shift wsX1_stands := goodIn_r _ [14, 15, 23, 24, 25, 26, 27, 28] (by decide +kernel) (by decide +kernel)
set_option maxRecDepth 20000 in
theorem gX7_shift_X1_stands : GoodIn wsX7_shift (wsV RX7 132 RX1 yX1_stands wsX1_stands) := goodIn_app (goodIn_of _ (by decide +kernel)) ggX7_shift_X1_stands
theorem dX7_shift_0 : decode cX7_shift 0 = .ok (.iload_n 1, 1) := by decide +kernel
theorem dX7_shift_1 : decode cX7_shift 1 = .ok (.invokestatic 129, 3) := by decide +kernel
theorem dX7_shift_4 : decode cX7_shift 4 = .ok (.ifCond .ne 6, 3) := by decide +kernel
theorem dX7_shift_7 : decode cX7_shift 7 = .ok (.bipush (-2), 2) := by decide +kernel
theorem dX7_shift_9 : decode cX7_shift 9 = .ok (.ireturn, 1) := by decide +kernel
theorem dX7_shift_10 : decode cX7_shift 10 = .ok (.aload_n 0, 1) := by decide +kernel
theorem dX7_shift_11 : decode cX7_shift 11 = .ok (.getfield 12, 3) := by decide +kernel
theorem dX7_shift_14 : decode cX7_shift 14 = .ok (.invokevirtual 132, 3) := by decide +kernel
theorem dX7_shift_17 : decode cX7_shift 17 = .ok (.ifCond .ne 6, 3) := by decide +kernel
theorem dX7_shift_20 : decode cX7_shift 20 = .ok (.bipush (-3), 2) := by decide +kernel
theorem dX7_shift_22 : decode cX7_shift 22 = .ok (.ireturn, 1) := by decide +kernel
theorem dX7_shift_23 : decode cX7_shift 23 = .ok (.aload_n 0, 1) := by decide +kernel
theorem dX7_shift_24 : decode cX7_shift 24 = .ok (.getfield 12, 3) := by decide +kernel
theorem dX7_shift_27 : decode cX7_shift 27 = .ok (.getfield 136, 3) := by decide +kernel
theorem dX7_shift_30 : decode cX7_shift 30 = .ok (.istore_n 2, 1) := by decide +kernel
theorem dX7_shift_31 : decode cX7_shift 31 = .ok (.aload_n 0, 1) := by decide +kernel
theorem dX7_shift_32 : decode cX7_shift 32 = .ok (.getfield 12, 3) := by decide +kernel
theorem dX7_shift_35 : decode cX7_shift 35 = .ok (.iload_n 1, 1) := by decide +kernel
theorem dX7_shift_36 : decode cX7_shift 36 = .ok (.putfield 136, 3) := by decide +kernel
theorem dX7_shift_39 : decode cX7_shift 39 = .ok (.iload_n 2, 1) := by decide +kernel
theorem dX7_shift_40 : decode cX7_shift 40 = .ok (.ireturn, 1) := by decide +kernel
set_option maxRecDepth 20000 in
theorem ggX7_there_X1_stands : GoodIn wsX7_there wsX1_stands := goodIn_r _ [7, 8, 16, 17, 18, 19, 20, 21] (by decide +kernel) (by decide +kernel)
set_option maxRecDepth 20000 in
theorem gX7_there_X1_stands : GoodIn wsX7_there (wsV RX7 132 RX1 yX1_stands wsX1_stands) := goodIn_app (goodIn_of _ (by decide +kernel)) ggX7_there_X1_stands
theorem dX7_there_0 : decode cX7_there 0 = .ok (.aload_n 0, 1) := by decide +kernel
theorem dX7_there_1 : decode cX7_there 1 = .ok (.getfield 12, 3) := by decide +kernel
theorem dX7_there_4 : decode cX7_there 4 = .ok (.invokevirtual 132, 3) := by decide +kernel
theorem dX7_there_7 : decode cX7_there 7 = .ok (.ifCond .eq 13, 3) := by decide +kernel
theorem dX7_there_10 : decode cX7_there 10 = .ok (.aload_n 0, 1) := by decide +kernel
theorem dX7_there_11 : decode cX7_there 11 = .ok (.getfield 12, 3) := by decide +kernel
theorem dX7_there_14 : decode cX7_there 14 = .ok (.getfield 111, 3) := by decide +kernel
theorem dX7_there_17 : decode cX7_there 17 = .ok (.goto 5, 3) := by decide +kernel
theorem dX7_there_20 : decode cX7_there 20 = .ok (.bipush (-3), 2) := by decide +kernel
theorem dX7_there_22 : decode cX7_there 22 = .ok (.ireturn, 1) := by decide +kernel
set_option maxRecDepth 20000 in
theorem ggX7_company_X1_stands : GoodIn wsX7_company wsX1_stands := goodIn_r _ [6, 7, 50, 51, 52, 53, 54, 55] (by decide +kernel) (by decide +kernel)
set_option maxRecDepth 20000 in
theorem gX7_company_X1_stands : GoodIn wsX7_company (wsV RX7 132 RX1 yX1_stands wsX1_stands) := goodIn_app (goodIn_of _ (by decide +kernel)) ggX7_company_X1_stands
set_option maxRecDepth 20000 in
theorem ggX7_company_X1_isSet : GoodIn wsX7_company wsX1_isSet := goodIn_r _ [11, 7, 50, 51, 52, 53, 54, 55] (by decide +kernel) (by decide +kernel)
set_option maxRecDepth 20000 in
theorem gX7_company_X1_isSet : GoodIn wsX7_company (wsV RX7 139 RX1 yX1_isSet wsX1_isSet) := goodIn_app (goodIn_of _ (by decide +kernel)) ggX7_company_X1_isSet
set_option maxRecDepth 20000 in
theorem ggX7_company_X1_companyOf : GoodIn wsX7_company wsX1_companyOf := goodIn_r _ [15, 16, 17, 18, 5, 19, 7, 20, 21, 22, 23, 24, 25, 26, 27, 28, 29, 30, 31, 32, 33, 34, 35, 36, 37, 38, 39, 40, 41, 42, 50, 51, 52, 53, 54, 55, 56, 57, 58, 59] (by decide +kernel) (by decide +kernel)
set_option maxRecDepth 20000 in
theorem gX7_company_X1_companyOf : GoodIn wsX7_company (wsV RX7 142 RX1 yX1_companyOf wsX1_companyOf) := goodIn_app (goodIn_of _ (by decide +kernel)) ggX7_company_X1_companyOf
theorem dX7_company_0 : decode cX7_company 0 = .ok (.aload_n 0, 1) := by decide +kernel
theorem dX7_company_1 : decode cX7_company 1 = .ok (.getfield 12, 3) := by decide +kernel
theorem dX7_company_4 : decode cX7_company 4 = .ok (.invokevirtual 132, 3) := by decide +kernel
theorem dX7_company_7 : decode cX7_company 7 = .ok (.ifCond .ne 6, 3) := by decide +kernel
theorem dX7_company_10 : decode cX7_company 10 = .ok (.bipush (-3), 2) := by decide +kernel
theorem dX7_company_12 : decode cX7_company 12 = .ok (.ireturn, 1) := by decide +kernel
theorem dX7_company_13 : decode cX7_company 13 = .ok (.aload_n 0, 1) := by decide +kernel
theorem dX7_company_14 : decode cX7_company 14 = .ok (.getfield 12, 3) := by decide +kernel
theorem dX7_company_17 : decode cX7_company 17 = .ok (.iload_n 1, 1) := by decide +kernel
theorem dX7_company_18 : decode cX7_company 18 = .ok (.invokevirtual 139, 3) := by decide +kernel
theorem dX7_company_21 : decode cX7_company 21 = .ok (.ifCond .eq 14, 3) := by decide +kernel
theorem dX7_company_24 : decode cX7_company 24 = .ok (.aload_n 0, 1) := by decide +kernel
theorem dX7_company_25 : decode cX7_company 25 = .ok (.getfield 12, 3) := by decide +kernel
theorem dX7_company_28 : decode cX7_company 28 = .ok (.iload_n 1, 1) := by decide +kernel
theorem dX7_company_29 : decode cX7_company 29 = .ok (.invokevirtual 142, 3) := by decide +kernel
theorem dX7_company_32 : decode cX7_company 32 = .ok (.goto 5, 3) := by decide +kernel
theorem dX7_company_35 : decode cX7_company 35 = .ok (.bipush (-2), 2) := by decide +kernel
theorem dX7_company_37 : decode cX7_company 37 = .ok (.ireturn, 1) := by decide +kernel
set_option maxRecDepth 20000 in
theorem ggX7_send_X1_isArticle : GoodIn wsX7_send wsX1_isArticle := goodIn_r _ [7, 8, 53, 54, 55, 56, 57, 58] (by decide +kernel) (by decide +kernel)
set_option maxRecDepth 20000 in
theorem gX7_send_X1_isArticle : GoodIn wsX7_send (wsV RX7 86 RX1 yX1_isArticle wsX1_isArticle) := goodIn_app (goodIn_of _ (by decide +kernel)) ggX7_send_X1_isArticle
set_option maxRecDepth 20000 in
theorem ggX7_send_X7_has : GoodIn wsX7_send wsX7_has := goodIn_r _ [12] (by decide +kernel) (by decide +kernel)
set_option maxRecDepth 20000 in
theorem gX7_send_X7_has : GoodIn wsX7_send (va_wsS RX7 114 yX7_has wsX7_has) := goodIn_app (goodIn_of _ (by decide +kernel)) ggX7_send_X7_has
set_option maxRecDepth 20000 in
theorem ggX7_send_X1_keepCompanyOf : GoodIn wsX7_send wsX1_keepCompanyOf := goodIn_r _ [16, 17, 18, 19, 20, 6, 21, 22, 23, 24, 25, 8, 26, 27, 28, 29, 30, 31, 10, 11, 12, 32, 33, 34, 35, 36, 37, 38, 39, 40, 41, 42, 43, 44, 45, 53, 54, 55, 56, 57, 58, 59, 60, 61, 62] (by decide +kernel) (by decide +kernel)
set_option maxRecDepth 20000 in
theorem gX7_send_X1_keepCompanyOf : GoodIn wsX7_send (wsV RX7 145 RX1 yX1_keepCompanyOf wsX1_keepCompanyOf) := goodIn_app (goodIn_of _ (by decide +kernel)) ggX7_send_X1_keepCompanyOf
theorem dX7_send_0 : decode cX7_send 0 = .ok (.aload_n 0, 1) := by decide +kernel
theorem dX7_send_1 : decode cX7_send 1 = .ok (.getfield 12, 3) := by decide +kernel
theorem dX7_send_4 : decode cX7_send 4 = .ok (.iload_n 1, 1) := by decide +kernel
theorem dX7_send_5 : decode cX7_send 5 = .ok (.invokevirtual 86, 3) := by decide +kernel
theorem dX7_send_8 : decode cX7_send 8 = .ok (.ifCond .ne 5, 3) := by decide +kernel
theorem dX7_send_11 : decode cX7_send 11 = .ok (.iconst (-1), 1) := by decide +kernel
theorem dX7_send_12 : decode cX7_send 12 = .ok (.ireturn, 1) := by decide +kernel
theorem dX7_send_13 : decode cX7_send 13 = .ok (.aload_n 0, 1) := by decide +kernel
theorem dX7_send_14 : decode cX7_send 14 = .ok (.getfield 12, 3) := by decide +kernel
theorem dX7_send_17 : decode cX7_send 17 = .ok (.getfield 111, 3) := by decide +kernel
theorem dX7_send_20 : decode cX7_send 20 = .ok (.iload_n 1, 1) := by decide +kernel
theorem dX7_send_21 : decode cX7_send 21 = .ok (.invokestatic 114, 3) := by decide +kernel
theorem dX7_send_24 : decode cX7_send 24 = .ok (.ifCond .eq 6, 3) := by decide +kernel
theorem dX7_send_27 : decode cX7_send 27 = .ok (.bipush (-3), 2) := by decide +kernel
theorem dX7_send_29 : decode cX7_send 29 = .ok (.ireturn, 1) := by decide +kernel
theorem dX7_send_30 : decode cX7_send 30 = .ok (.aload_n 0, 1) := by decide +kernel
theorem dX7_send_31 : decode cX7_send 31 = .ok (.getfield 12, 3) := by decide +kernel
theorem dX7_send_34 : decode cX7_send 34 = .ok (.aload_n 0, 1) := by decide +kernel
theorem dX7_send_35 : decode cX7_send 35 = .ok (.getfield 12, 3) := by decide +kernel
theorem dX7_send_38 : decode cX7_send 38 = .ok (.getfield 111, 3) := by decide +kernel
theorem dX7_send_41 : decode cX7_send 41 = .ok (.iconst 1, 1) := by decide +kernel
theorem dX7_send_42 : decode cX7_send 42 = .ok (.iload_n 1, 1) := by decide +kernel
theorem dX7_send_43 : decode cX7_send 43 = .ok (.ishl, 1) := by decide +kernel
theorem dX7_send_44 : decode cX7_send 44 = .ok (.ior, 1) := by decide +kernel
theorem dX7_send_45 : decode cX7_send 45 = .ok (.invokevirtual 145, 3) := by decide +kernel
theorem dX7_send_48 : decode cX7_send 48 = .ok (.ireturn, 1) := by decide +kernel
set_option maxRecDepth 20000 in
theorem ggX7_call_X1_isArticle : GoodIn wsX7_call wsX1_isArticle := goodIn_r _ [7, 8, 53, 54, 55, 56, 57, 58] (by decide +kernel) (by decide +kernel)
set_option maxRecDepth 20000 in
theorem gX7_call_X1_isArticle : GoodIn wsX7_call (wsV RX7 86 RX1 yX1_isArticle wsX1_isArticle) := goodIn_app (goodIn_of _ (by decide +kernel)) ggX7_call_X1_isArticle
set_option maxRecDepth 20000 in
theorem ggX7_call_X7_has : GoodIn wsX7_call wsX7_has := goodIn_r _ [12] (by decide +kernel) (by decide +kernel)
set_option maxRecDepth 20000 in
theorem gX7_call_X7_has : GoodIn wsX7_call (va_wsS RX7 114 yX7_has wsX7_has) := goodIn_app (goodIn_of _ (by decide +kernel)) ggX7_call_X7_has
set_option maxRecDepth 20000 in
theorem ggX7_call_X1_keepCompanyOf : GoodIn wsX7_call wsX1_keepCompanyOf := goodIn_r _ [16, 17, 18, 19, 20, 6, 21, 22, 23, 24, 25, 8, 26, 27, 28, 29, 30, 31, 10, 11, 12, 32, 33, 34, 35, 36, 37, 38, 39, 40, 41, 42, 43, 44, 45, 53, 54, 55, 56, 57, 58, 59, 60, 61, 62] (by decide +kernel) (by decide +kernel)
set_option maxRecDepth 20000 in
theorem gX7_call_X1_keepCompanyOf : GoodIn wsX7_call (wsV RX7 145 RX1 yX1_keepCompanyOf wsX1_keepCompanyOf) := goodIn_app (goodIn_of _ (by decide +kernel)) ggX7_call_X1_keepCompanyOf
theorem dX7_call_0 : decode cX7_call 0 = .ok (.aload_n 0, 1) := by decide +kernel
theorem dX7_call_1 : decode cX7_call 1 = .ok (.getfield 12, 3) := by decide +kernel
theorem dX7_call_4 : decode cX7_call 4 = .ok (.iload_n 1, 1) := by decide +kernel
theorem dX7_call_5 : decode cX7_call 5 = .ok (.invokevirtual 86, 3) := by decide +kernel
theorem dX7_call_8 : decode cX7_call 8 = .ok (.ifCond .ne 5, 3) := by decide +kernel
theorem dX7_call_11 : decode cX7_call 11 = .ok (.iconst (-1), 1) := by decide +kernel
theorem dX7_call_12 : decode cX7_call 12 = .ok (.ireturn, 1) := by decide +kernel
theorem dX7_call_13 : decode cX7_call 13 = .ok (.aload_n 0, 1) := by decide +kernel
theorem dX7_call_14 : decode cX7_call 14 = .ok (.getfield 12, 3) := by decide +kernel
theorem dX7_call_17 : decode cX7_call 17 = .ok (.getfield 111, 3) := by decide +kernel
theorem dX7_call_20 : decode cX7_call 20 = .ok (.iload_n 1, 1) := by decide +kernel
theorem dX7_call_21 : decode cX7_call 21 = .ok (.invokestatic 114, 3) := by decide +kernel
theorem dX7_call_24 : decode cX7_call 24 = .ok (.ifCond .ne 6, 3) := by decide +kernel
theorem dX7_call_27 : decode cX7_call 27 = .ok (.bipush (-3), 2) := by decide +kernel
theorem dX7_call_29 : decode cX7_call 29 = .ok (.ireturn, 1) := by decide +kernel
theorem dX7_call_30 : decode cX7_call 30 = .ok (.aload_n 0, 1) := by decide +kernel
theorem dX7_call_31 : decode cX7_call 31 = .ok (.getfield 12, 3) := by decide +kernel
theorem dX7_call_34 : decode cX7_call 34 = .ok (.aload_n 0, 1) := by decide +kernel
theorem dX7_call_35 : decode cX7_call 35 = .ok (.getfield 12, 3) := by decide +kernel
theorem dX7_call_38 : decode cX7_call 38 = .ok (.getfield 111, 3) := by decide +kernel
theorem dX7_call_41 : decode cX7_call 41 = .ok (.iconst 1, 1) := by decide +kernel
theorem dX7_call_42 : decode cX7_call 42 = .ok (.iload_n 1, 1) := by decide +kernel
theorem dX7_call_43 : decode cX7_call 43 = .ok (.ishl, 1) := by decide +kernel
theorem dX7_call_44 : decode cX7_call 44 = .ok (.iconst (-1), 1) := by decide +kernel
theorem dX7_call_45 : decode cX7_call 45 = .ok (.ixor, 1) := by decide +kernel
theorem dX7_call_46 : decode cX7_call 46 = .ok (.iand, 1) := by decide +kernel
theorem dX7_call_47 : decode cX7_call 47 = .ok (.invokevirtual 145, 3) := by decide +kernel
theorem dX7_call_50 : decode cX7_call 50 = .ok (.ireturn, 1) := by decide +kernel
set_option maxRecDepth 20000 in
theorem ggX7_laughter_X1_stands : GoodIn wsX7_laughter wsX1_stands := goodIn_r _ [7, 8, 38, 39, 40, 41, 42, 43] (by decide +kernel) (by decide +kernel)
set_option maxRecDepth 20000 in
theorem gX7_laughter_X1_stands : GoodIn wsX7_laughter (wsV RX7 132 RX1 yX1_stands wsX1_stands) := goodIn_app (goodIn_of _ (by decide +kernel)) ggX7_laughter_X1_stands
set_option maxRecDepth 20000 in
theorem ggX7_laughter_X1_laughOf : GoodIn wsX7_laughter wsX1_laughOf := goodIn_r _ [12, 8, 13, 14, 15, 16, 17, 18, 19, 20, 21, 22, 23, 24, 25, 26, 27, 28, 29, 30, 38, 39, 40, 41, 42, 43, 44, 45, 46, 47] (by decide +kernel) (by decide +kernel)
set_option maxRecDepth 20000 in
theorem gX7_laughter_X1_laughOf : GoodIn wsX7_laughter (wsV RX7 148 RX1 yX1_laughOf wsX1_laughOf) := goodIn_app (goodIn_of _ (by decide +kernel)) ggX7_laughter_X1_laughOf
theorem dX7_laughter_0 : decode cX7_laughter 0 = .ok (.aload_n 0, 1) := by decide +kernel
theorem dX7_laughter_1 : decode cX7_laughter 1 = .ok (.getfield 12, 3) := by decide +kernel
theorem dX7_laughter_4 : decode cX7_laughter 4 = .ok (.invokevirtual 132, 3) := by decide +kernel
theorem dX7_laughter_7 : decode cX7_laughter 7 = .ok (.ifCond .eq 20, 3) := by decide +kernel
theorem dX7_laughter_10 : decode cX7_laughter 10 = .ok (.aload_n 0, 1) := by decide +kernel
theorem dX7_laughter_11 : decode cX7_laughter 11 = .ok (.getfield 12, 3) := by decide +kernel
theorem dX7_laughter_14 : decode cX7_laughter 14 = .ok (.aload_n 0, 1) := by decide +kernel
theorem dX7_laughter_15 : decode cX7_laughter 15 = .ok (.getfield 12, 3) := by decide +kernel
theorem dX7_laughter_18 : decode cX7_laughter 18 = .ok (.getfield 111, 3) := by decide +kernel
theorem dX7_laughter_21 : decode cX7_laughter 21 = .ok (.invokevirtual 148, 3) := by decide +kernel
theorem dX7_laughter_24 : decode cX7_laughter 24 = .ok (.goto 5, 3) := by decide +kernel
theorem dX7_laughter_27 : decode cX7_laughter 27 = .ok (.bipush (-3), 2) := by decide +kernel
theorem dX7_laughter_29 : decode cX7_laughter 29 = .ok (.ireturn, 1) := by decide +kernel
set_option maxRecDepth 20000 in
theorem ggX7_heard_X7_isCorner : GoodIn wsX7_heard wsX7_isCorner := goodIn_r _ [7, 8, 9, 6, 10] (by decide +kernel) (by decide +kernel)
set_option maxRecDepth 20000 in
theorem gX7_heard_X7_isCorner : GoodIn wsX7_heard (va_wsS RX7 129 yX7_isCorner wsX7_isCorner) := goodIn_app (goodIn_of _ (by decide +kernel)) ggX7_heard_X7_isCorner
set_option maxRecDepth 20000 in
theorem ggX7_heard_X1_stands : GoodIn wsX7_heard wsX1_stands := goodIn_r _ [15, 16, 52, 53, 54, 55, 56, 57] (by decide +kernel) (by decide +kernel)
set_option maxRecDepth 20000 in
theorem gX7_heard_X1_stands : GoodIn wsX7_heard (wsV RX7 132 RX1 yX1_stands wsX1_stands) := goodIn_app (goodIn_of _ (by decide +kernel)) ggX7_heard_X1_stands
set_option maxRecDepth 20000 in
theorem ggX7_heard_X1_laughOf : GoodIn wsX7_heard wsX1_laughOf := goodIn_r _ [20, 16, 21, 22, 6, 23, 24, 25, 26, 27, 28, 29, 30, 31, 32, 33, 34, 35, 36, 37, 52, 53, 54, 55, 56, 57, 58, 59, 60, 61] (by decide +kernel) (by decide +kernel)
set_option maxRecDepth 20000 in
theorem gX7_heard_X1_laughOf : GoodIn wsX7_heard (wsV RX7 148 RX1 yX1_laughOf wsX1_laughOf) := goodIn_app (goodIn_of _ (by decide +kernel)) ggX7_heard_X1_laughOf
set_option maxRecDepth 20000 in
theorem ggX7_heard_X7_carried : GoodIn wsX7_heard wsX7_carried := goodIn_r _ [40, 41, 42, 36, 43, 44, 35, 37] (by decide +kernel) (by decide +kernel)
set_option maxRecDepth 20000 in
theorem gX7_heard_X7_carried : GoodIn wsX7_heard (va_wsS RX7 151 yX7_carried wsX7_carried) := goodIn_app (goodIn_of _ (by decide +kernel)) ggX7_heard_X7_carried
theorem dX7_heard_0 : decode cX7_heard 0 = .ok (.iload_n 1, 1) := by decide +kernel
theorem dX7_heard_1 : decode cX7_heard 1 = .ok (.invokestatic 129, 3) := by decide +kernel
theorem dX7_heard_4 : decode cX7_heard 4 = .ok (.ifCond .ne 6, 3) := by decide +kernel
theorem dX7_heard_7 : decode cX7_heard 7 = .ok (.bipush (-2), 2) := by decide +kernel
theorem dX7_heard_9 : decode cX7_heard 9 = .ok (.ireturn, 1) := by decide +kernel
theorem dX7_heard_10 : decode cX7_heard 10 = .ok (.aload_n 0, 1) := by decide +kernel
theorem dX7_heard_11 : decode cX7_heard 11 = .ok (.getfield 12, 3) := by decide +kernel
theorem dX7_heard_14 : decode cX7_heard 14 = .ok (.invokevirtual 132, 3) := by decide +kernel
theorem dX7_heard_17 : decode cX7_heard 17 = .ok (.ifCond .ne 6, 3) := by decide +kernel
theorem dX7_heard_20 : decode cX7_heard 20 = .ok (.bipush (-3), 2) := by decide +kernel
theorem dX7_heard_22 : decode cX7_heard 22 = .ok (.ireturn, 1) := by decide +kernel
theorem dX7_heard_23 : decode cX7_heard 23 = .ok (.aload_n 0, 1) := by decide +kernel
theorem dX7_heard_24 : decode cX7_heard 24 = .ok (.getfield 12, 3) := by decide +kernel
theorem dX7_heard_27 : decode cX7_heard 27 = .ok (.aload_n 0, 1) := by decide +kernel
theorem dX7_heard_28 : decode cX7_heard 28 = .ok (.getfield 12, 3) := by decide +kernel
theorem dX7_heard_31 : decode cX7_heard 31 = .ok (.getfield 111, 3) := by decide +kernel
theorem dX7_heard_34 : decode cX7_heard 34 = .ok (.invokevirtual 148, 3) := by decide +kernel
theorem dX7_heard_37 : decode cX7_heard 37 = .ok (.aload_n 0, 1) := by decide +kernel
theorem dX7_heard_38 : decode cX7_heard 38 = .ok (.getfield 12, 3) := by decide +kernel
theorem dX7_heard_41 : decode cX7_heard 41 = .ok (.getfield 136, 3) := by decide +kernel
theorem dX7_heard_44 : decode cX7_heard 44 = .ok (.iload_n 1, 1) := by decide +kernel
theorem dX7_heard_45 : decode cX7_heard 45 = .ok (.invokestatic 151, 3) := by decide +kernel
theorem dX7_heard_48 : decode cX7_heard 48 = .ok (.ireturn, 1) := by decide +kernel
set_option maxRecDepth 20000 in
theorem ggX7_year_X7_isSheet : GoodIn wsX7_year wsX7_isSheet := goodIn_r _ [8, 9, 10, 7, 11] (by decide +kernel) (by decide +kernel)
set_option maxRecDepth 20000 in
theorem gX7_year_X7_isSheet : GoodIn wsX7_year (va_wsS RX7 55 yX7_isSheet wsX7_isSheet) := goodIn_app (goodIn_of _ (by decide +kernel)) ggX7_year_X7_isSheet
set_option maxRecDepth 20000 in
theorem ggX7_year_X7_isLane : GoodIn wsX7_year wsX7_isLane := goodIn_r _ [14, 9, 10, 7, 11] (by decide +kernel) (by decide +kernel)
set_option maxRecDepth 20000 in
theorem gX7_year_X7_isLane : GoodIn wsX7_year (va_wsS RX7 59 yX7_isLane wsX7_isLane) := goodIn_app (goodIn_of _ (by decide +kernel)) ggX7_year_X7_isLane
set_option maxRecDepth 20000 in
theorem ggX7_year_X7_within : GoodIn wsX7_year wsX7_within := goodIn_r _ [11] (by decide +kernel) (by decide +kernel)
set_option maxRecDepth 20000 in
theorem gX7_year_X7_within : GoodIn wsX7_year (va_wsS RX7 125 yX7_within wsX7_within) := goodIn_app (goodIn_of _ (by decide +kernel)) ggX7_year_X7_within
set_option maxRecDepth 20000 in
theorem ggX7_year_X4_faultOfTaking : GoodIn wsX7_year wsX4_faultOfTaking := goodIn_r _ [19, 20, 21, 22, 23, 18, 24, 25, 26, 27, 28, 29, 118, 119, 120] (by decide +kernel) (by decide +kernel)
set_option maxRecDepth 20000 in
theorem gX7_year_X4_faultOfTaking : GoodIn wsX7_year (wsV RX7 62 RX4 yX4_faultOfTaking wsX4_faultOfTaking) := goodIn_app (goodIn_of _ (by decide +kernel)) ggX7_year_X4_faultOfTaking
set_option maxRecDepth 20000 in
theorem ggX7_year_X7_failed : GoodIn wsX7_year wsX7_failed := goodIn_r _ [33, 1, 111, 112, 113, 114, 115, 116, 117] (by decide +kernel) (by decide +kernel)
set_option maxRecDepth 20000 in
theorem gX7_year_X7_failed : GoodIn wsX7_year (wsV RX7 66 RX7 yX7_failed wsX7_failed) := goodIn_app (goodIn_of _ (by decide +kernel)) ggX7_year_X7_failed
set_option maxRecDepth 20000 in
theorem ggX7_year_X1_stands : GoodIn wsX7_year wsX1_stands := goodIn_r _ [38, 39, 121, 122, 123, 124, 125, 126] (by decide +kernel) (by decide +kernel)
set_option maxRecDepth 20000 in
theorem gX7_year_X1_stands : GoodIn wsX7_year (wsV RX7 132 RX1 yX1_stands wsX1_stands) := goodIn_app (goodIn_of _ (by decide +kernel)) ggX7_year_X1_stands
set_option maxRecDepth 20000 in
theorem ggX7_year_X6_refusalOf : GoodIn wsX7_year wsX6_refusalOf := goodIn_r _ [44, 45, 46, 47, 48, 18, 49, 29, 50, 51, 52, 53, 37, 54, 39, 10, 7, 11, 127, 128, 129, 130, 131, 118, 119, 120, 121, 122, 123, 124, 125, 126] (by decide +kernel) (by decide +kernel)
set_option maxRecDepth 20000 in
theorem gX7_year_X6_refusalOf : GoodIn wsX7_year (wsV RX7 154 RX6 yX6_refusalOf wsX6_refusalOf) := goodIn_app (goodIn_of _ (by decide +kernel)) ggX7_year_X6_refusalOf
set_option maxRecDepth 20000 in
theorem ggX7_year_X6_run : GoodIn wsX7_year wsX6_run := goodIn_r _ [58, 45, 59, 60, 61, 62, 63, 46, 47, 48, 18, 49, 29, 50, 64, 7, 65, 66, 67, 68, 43, 69, 70, 71, 72, 73, 74, 75, 76, 37, 77, 78, 79, 80, 81, 39, 82, 83, 84, 85, 86, 87, 88, 89, 90, 91, 92, 93, 94, 95, 96, 97, 98, 99, 100, 101, 102, 103, 104, 105, 106, 127, 128, 129, 130, 131, 121, 122, 123, 124, 125, 126, 118, 119, 120, 132, 133, 134, 135] (by decide +kernel) (by decide +kernel)
set_option maxRecDepth 20000 in
theorem gX7_year_X6_run : GoodIn wsX7_year (wsV RX7 157 RX6 yX6_run wsX6_run) := goodIn_app (goodIn_of _ (by decide +kernel)) ggX7_year_X6_run
set_option maxRecDepth 20000 in
theorem ggX7_year_X6_answer : GoodIn wsX7_year wsX6_answer := goodIn_r _ [110, 63, 60, 61, 45, 62, 99, 100, 101, 102, 103, 104, 105, 106, 85, 86, 37, 87, 39, 82, 64, 7, 65, 88, 89, 90, 91, 92, 93, 94, 95, 96, 97, 98, 71, 72, 73, 127, 128, 129, 130, 131, 121, 122, 123, 124, 125, 126, 132, 133, 134, 135] (by decide +kernel) (by decide +kernel)
set_option maxRecDepth 20000 in
theorem gX7_year_X6_answer : GoodIn wsX7_year (wsV RX7 161 RX6 yX6_answer wsX6_answer) := goodIn_app (goodIn_of _ (by decide +kernel)) ggX7_year_X6_answer
theorem dX7_year_0 : decode cX7_year 0 = .ok (.aload_n 0, 1) := by decide +kernel
theorem dX7_year_1 : decode cX7_year 1 = .ok (.iconst 0, 1) := by decide +kernel
theorem dX7_year_2 : decode cX7_year 2 = .ok (.putfield 52, 3) := by decide +kernel
theorem dX7_year_5 : decode cX7_year 5 = .ok (.iload_n 1, 1) := by decide +kernel
theorem dX7_year_6 : decode cX7_year 6 = .ok (.invokestatic 55, 3) := by decide +kernel
theorem dX7_year_9 : decode cX7_year 9 = .ok (.ifCond .ne 5, 3) := by decide +kernel
theorem dX7_year_12 : decode cX7_year 12 = .ok (.iconst (-1), 1) := by decide +kernel
theorem dX7_year_13 : decode cX7_year 13 = .ok (.ireturn, 1) := by decide +kernel
theorem dX7_year_14 : decode cX7_year 14 = .ok (.iload_n 2, 1) := by decide +kernel
theorem dX7_year_15 : decode cX7_year 15 = .ok (.invokestatic 59, 3) := by decide +kernel
theorem dX7_year_18 : decode cX7_year 18 = .ok (.ifCond .eq 24, 3) := by decide +kernel
theorem dX7_year_21 : decode cX7_year 21 = .ok (.iload 4, 2) := by decide +kernel
theorem dX7_year_23 : decode cX7_year 23 = .ok (.iconst 0, 1) := by decide +kernel
theorem dX7_year_24 : decode cX7_year 24 = .ok (.bipush 20, 2) := by decide +kernel
theorem dX7_year_26 : decode cX7_year 26 = .ok (.invokestatic 125, 3) := by decide +kernel
theorem dX7_year_29 : decode cX7_year 29 = .ok (.ifCond .eq 13, 3) := by decide +kernel
theorem dX7_year_32 : decode cX7_year 32 = .ok (.iload 5, 2) := by decide +kernel
theorem dX7_year_34 : decode cX7_year 34 = .ok (.iconst 0, 1) := by decide +kernel
theorem dX7_year_35 : decode cX7_year 35 = .ok (.iconst 5, 1) := by decide +kernel
theorem dX7_year_36 : decode cX7_year 36 = .ok (.invokestatic 125, 3) := by decide +kernel
theorem dX7_year_39 : decode cX7_year 39 = .ok (.ifCond .ne 6, 3) := by decide +kernel
theorem dX7_year_42 : decode cX7_year 42 = .ok (.bipush (-2), 2) := by decide +kernel
theorem dX7_year_44 : decode cX7_year 44 = .ok (.ireturn, 1) := by decide +kernel
theorem dX7_year_45 : decode cX7_year 45 = .ok (.aload_n 0, 1) := by decide +kernel
theorem dX7_year_46 : decode cX7_year 46 = .ok (.getfield 43, 3) := by decide +kernel
theorem dX7_year_49 : decode cX7_year 49 = .ok (.iload_n 1, 1) := by decide +kernel
theorem dX7_year_50 : decode cX7_year 50 = .ok (.aaload, 1) := by decide +kernel
theorem dX7_year_51 : decode cX7_year 51 = .ok (.astore 6, 2) := by decide +kernel
theorem dX7_year_53 : decode cX7_year 53 = .ok (.aload 6, 2) := by decide +kernel
theorem dX7_year_55 : decode cX7_year 55 = .ok (.iload_n 2, 1) := by decide +kernel
theorem dX7_year_56 : decode cX7_year 56 = .ok (.iload_n 3, 1) := by decide +kernel
theorem dX7_year_57 : decode cX7_year 57 = .ok (.iconst 2, 1) := by decide +kernel
theorem dX7_year_58 : decode cX7_year 58 = .ok (.iload 4, 2) := by decide +kernel
theorem dX7_year_60 : decode cX7_year 60 = .ok (.imul, 1) := by decide +kernel
theorem dX7_year_61 : decode cX7_year 61 = .ok (.invokevirtual 62, 3) := by decide +kernel
theorem dX7_year_64 : decode cX7_year 64 = .ok (.istore 7, 2) := by decide +kernel
theorem dX7_year_66 : decode cX7_year 66 = .ok (.iload 7, 2) := by decide +kernel
theorem dX7_year_68 : decode cX7_year 68 = .ok (.ifCond .eq 10, 3) := by decide +kernel
theorem dX7_year_71 : decode cX7_year 71 = .ok (.aload_n 0, 1) := by decide +kernel
theorem dX7_year_72 : decode cX7_year 72 = .ok (.iload 7, 2) := by decide +kernel
theorem dX7_year_74 : decode cX7_year 74 = .ok (.invokevirtual 66, 3) := by decide +kernel
theorem dX7_year_77 : decode cX7_year 77 = .ok (.ireturn, 1) := by decide +kernel
theorem dX7_year_78 : decode cX7_year 78 = .ok (.aload_n 0, 1) := by decide +kernel
theorem dX7_year_79 : decode cX7_year 79 = .ok (.getfield 12, 3) := by decide +kernel
theorem dX7_year_82 : decode cX7_year 82 = .ok (.invokevirtual 132, 3) := by decide +kernel
theorem dX7_year_85 : decode cX7_year 85 = .ok (.ifCond .ne 6, 3) := by decide +kernel
theorem dX7_year_88 : decode cX7_year 88 = .ok (.bipush (-3), 2) := by decide +kernel
theorem dX7_year_90 : decode cX7_year 90 = .ok (.ireturn, 1) := by decide +kernel
theorem dX7_year_91 : decode cX7_year 91 = .ok (.aload_n 0, 1) := by decide +kernel
theorem dX7_year_92 : decode cX7_year 92 = .ok (.getfield 37, 3) := by decide +kernel
theorem dX7_year_95 : decode cX7_year 95 = .ok (.aload 6, 2) := by decide +kernel
theorem dX7_year_97 : decode cX7_year 97 = .ok (.iload_n 3, 1) := by decide +kernel
theorem dX7_year_98 : decode cX7_year 98 = .ok (.iload 4, 2) := by decide +kernel
theorem dX7_year_100 : decode cX7_year 100 = .ok (.invokevirtual 154, 3) := by decide +kernel
theorem dX7_year_103 : decode cX7_year 103 = .ok (.istore 8, 2) := by decide +kernel
theorem dX7_year_105 : decode cX7_year 105 = .ok (.iload 8, 2) := by decide +kernel
theorem dX7_year_107 : decode cX7_year 107 = .ok (.ifCond .eq 6, 3) := by decide +kernel
theorem dX7_year_110 : decode cX7_year 110 = .ok (.iload 8, 2) := by decide +kernel
theorem dX7_year_112 : decode cX7_year 112 = .ok (.ireturn, 1) := by decide +kernel
theorem dX7_year_113 : decode cX7_year 113 = .ok (.aload_n 0, 1) := by decide +kernel
theorem dX7_year_114 : decode cX7_year 114 = .ok (.getfield 37, 3) := by decide +kernel
theorem dX7_year_117 : decode cX7_year 117 = .ok (.aload 6, 2) := by decide +kernel
theorem dX7_year_119 : decode cX7_year 119 = .ok (.iload_n 3, 1) := by decide +kernel
theorem dX7_year_120 : decode cX7_year 120 = .ok (.iload 4, 2) := by decide +kernel
theorem dX7_year_122 : decode cX7_year 122 = .ok (.invokevirtual 157, 3) := by decide +kernel
theorem dX7_year_125 : decode cX7_year 125 = .ok (.aload_n 0, 1) := by decide +kernel
theorem dX7_year_126 : decode cX7_year 126 = .ok (.getfield 37, 3) := by decide +kernel
theorem dX7_year_129 : decode cX7_year 129 = .ok (.iload 5, 2) := by decide +kernel
theorem dX7_year_131 : decode cX7_year 131 = .ok (.invokevirtual 161, 3) := by decide +kernel
theorem dX7_year_134 : decode cX7_year 134 = .ok (.ireturn, 1) := by decide +kernel
set_option maxRecDepth 20000 in
theorem ggX7_packs_X1_stands : GoodIn wsX7_packs wsX1_stands := goodIn_r _ [9, 10, 59, 60, 61, 62, 63, 64] (by decide +kernel) (by decide +kernel)
set_option maxRecDepth 20000 in
theorem gX7_packs_X1_stands : GoodIn wsX7_packs (wsV RX7 132 RX1 yX1_stands wsX1_stands) := goodIn_app (goodIn_of _ (by decide +kernel)) ggX7_packs_X1_stands
set_option maxRecDepth 20000 in
theorem ggX7_packs_X1_isSet : GoodIn wsX7_packs wsX1_isSet := goodIn_r _ [14, 10, 59, 60, 61, 62, 63, 64] (by decide +kernel) (by decide +kernel)
set_option maxRecDepth 20000 in
theorem gX7_packs_X1_isSet : GoodIn wsX7_packs (wsV RX7 139 RX1 yX1_isSet wsX1_isSet) := goodIn_app (goodIn_of _ (by decide +kernel)) ggX7_packs_X1_isSet
set_option maxRecDepth 20000 in
theorem ggX7_packs_X7_within : GoodIn wsX7_packs wsX7_within := goodIn_r _ [18] (by decide +kernel) (by decide +kernel)
set_option maxRecDepth 20000 in
theorem gX7_packs_X7_within : GoodIn wsX7_packs (va_wsS RX7 125 yX7_within wsX7_within) := goodIn_app (goodIn_of _ (by decide +kernel)) ggX7_packs_X7_within
set_option maxRecDepth 20000 in
theorem ggX7_packs_X2_pack : GoodIn wsX7_packs wsX2_pack := goodIn_r _ [23, 24, 25, 26, 27, 28, 29, 30, 22, 31, 32, 33, 34, 35, 36, 37, 38, 39, 8, 40, 10, 41, 42, 43, 44, 45, 17, 46, 54, 55, 56, 57, 58, 59, 60, 61, 62, 63, 64, 65, 66, 67, 68] (by decide +kernel) (by decide +kernel)
set_option maxRecDepth 20000 in
theorem gX7_packs_X2_pack : GoodIn wsX7_packs (wsV RX7 164 RX2 yX2_pack wsX2_pack) := goodIn_app (goodIn_of _ (by decide +kernel)) ggX7_packs_X2_pack
theorem dX7_packs_0 : decode cX7_packs 0 = .ok (.aload_n 0, 1) := by decide +kernel
theorem dX7_packs_1 : decode cX7_packs 1 = .ok (.getfield 12, 3) := by decide +kernel
theorem dX7_packs_4 : decode cX7_packs 4 = .ok (.invokevirtual 132, 3) := by decide +kernel
theorem dX7_packs_7 : decode cX7_packs 7 = .ok (.ifCond .ne 6, 3) := by decide +kernel
theorem dX7_packs_10 : decode cX7_packs 10 = .ok (.bipush (-3), 2) := by decide +kernel
theorem dX7_packs_12 : decode cX7_packs 12 = .ok (.ireturn, 1) := by decide +kernel
theorem dX7_packs_13 : decode cX7_packs 13 = .ok (.aload_n 0, 1) := by decide +kernel
theorem dX7_packs_14 : decode cX7_packs 14 = .ok (.getfield 12, 3) := by decide +kernel
theorem dX7_packs_17 : decode cX7_packs 17 = .ok (.iload_n 1, 1) := by decide +kernel
theorem dX7_packs_18 : decode cX7_packs 18 = .ok (.invokevirtual 139, 3) := by decide +kernel
theorem dX7_packs_21 : decode cX7_packs 21 = .ok (.ifCond .eq 12, 3) := by decide +kernel
theorem dX7_packs_24 : decode cX7_packs 24 = .ok (.iload_n 2, 1) := by decide +kernel
theorem dX7_packs_25 : decode cX7_packs 25 = .ok (.iconst (-1), 1) := by decide +kernel
theorem dX7_packs_26 : decode cX7_packs 26 = .ok (.iconst 5, 1) := by decide +kernel
theorem dX7_packs_27 : decode cX7_packs 27 = .ok (.invokestatic 125, 3) := by decide +kernel
theorem dX7_packs_30 : decode cX7_packs 30 = .ok (.ifCond .ne 6, 3) := by decide +kernel
theorem dX7_packs_33 : decode cX7_packs 33 = .ok (.bipush (-2), 2) := by decide +kernel
theorem dX7_packs_35 : decode cX7_packs 35 = .ok (.ireturn, 1) := by decide +kernel
theorem dX7_packs_36 : decode cX7_packs 36 = .ok (.aload_n 0, 1) := by decide +kernel
theorem dX7_packs_37 : decode cX7_packs 37 = .ok (.getfield 30, 3) := by decide +kernel
theorem dX7_packs_40 : decode cX7_packs 40 = .ok (.iload_n 1, 1) := by decide +kernel
theorem dX7_packs_41 : decode cX7_packs 41 = .ok (.invokevirtual 164, 3) := by decide +kernel
theorem dX7_packs_44 : decode cX7_packs 44 = .ok (.iload_n 2, 1) := by decide +kernel
theorem dX7_packs_45 : decode cX7_packs 45 = .ok (.ifCond .ge 13, 3) := by decide +kernel
theorem dX7_packs_48 : decode cX7_packs 48 = .ok (.aload_n 0, 1) := by decide +kernel
theorem dX7_packs_49 : decode cX7_packs 49 = .ok (.getfield 30, 3) := by decide +kernel
theorem dX7_packs_52 : decode cX7_packs 52 = .ok (.getfield 168, 3) := by decide +kernel
theorem dX7_packs_55 : decode cX7_packs 55 = .ok (.goto 12, 3) := by decide +kernel
theorem dX7_packs_58 : decode cX7_packs 58 = .ok (.aload_n 0, 1) := by decide +kernel
theorem dX7_packs_59 : decode cX7_packs 59 = .ok (.getfield 30, 3) := by decide +kernel
theorem dX7_packs_62 : decode cX7_packs 62 = .ok (.getfield 171, 3) := by decide +kernel
theorem dX7_packs_65 : decode cX7_packs 65 = .ok (.iload_n 2, 1) := by decide +kernel
theorem dX7_packs_66 : decode cX7_packs 66 = .ok (.iaload, 1) := by decide +kernel
theorem dX7_packs_67 : decode cX7_packs 67 = .ok (.ireturn, 1) := by decide +kernel
set_option maxRecDepth 20000 in
theorem ggX7_fetch_X1_stands : GoodIn wsX7_fetch wsX1_stands := goodIn_r _ [7, 8, 63, 64, 65, 66, 67, 68] (by decide +kernel) (by decide +kernel)
set_option maxRecDepth 20000 in
theorem gX7_fetch_X1_stands : GoodIn wsX7_fetch (wsV RX7 132 RX1 yX1_stands wsX1_stands) := goodIn_app (goodIn_of _ (by decide +kernel)) ggX7_fetch_X1_stands
set_option maxRecDepth 20000 in
theorem ggX7_fetch_X1_isSet : GoodIn wsX7_fetch wsX1_isSet := goodIn_r _ [12, 8, 63, 64, 65, 66, 67, 68] (by decide +kernel) (by decide +kernel)
set_option maxRecDepth 20000 in
theorem gX7_fetch_X1_isSet : GoodIn wsX7_fetch (wsV RX7 139 RX1 yX1_isSet wsX1_isSet) := goodIn_app (goodIn_of _ (by decide +kernel)) ggX7_fetch_X1_isSet
set_option maxRecDepth 20000 in
theorem ggX7_fetch_X1_fewestCalls : GoodIn wsX7_fetch wsX1_fewestCalls := goodIn_r _ [16, 17, 18, 19, 20, 21, 22, 23, 24, 25, 26, 27, 6, 28, 29, 30, 31, 32, 8, 33, 34, 35, 36, 37, 38, 39, 40, 41, 42, 43, 44, 45, 46, 47, 48, 49, 50, 51, 52, 53, 54, 55, 63, 64, 65, 66, 67, 68, 69, 70, 71, 72] (by decide +kernel) (by decide +kernel)
set_option maxRecDepth 20000 in
theorem gX7_fetch_X1_fewestCalls : GoodIn wsX7_fetch (wsV RX7 174 RX1 yX1_fewestCalls wsX1_fewestCalls) := goodIn_app (goodIn_of _ (by decide +kernel)) ggX7_fetch_X1_fewestCalls
theorem dX7_fetch_0 : decode cX7_fetch 0 = .ok (.aload_n 0, 1) := by decide +kernel
theorem dX7_fetch_1 : decode cX7_fetch 1 = .ok (.getfield 12, 3) := by decide +kernel
theorem dX7_fetch_4 : decode cX7_fetch 4 = .ok (.invokevirtual 132, 3) := by decide +kernel
theorem dX7_fetch_7 : decode cX7_fetch 7 = .ok (.ifCond .ne 6, 3) := by decide +kernel
theorem dX7_fetch_10 : decode cX7_fetch 10 = .ok (.bipush (-3), 2) := by decide +kernel
theorem dX7_fetch_12 : decode cX7_fetch 12 = .ok (.ireturn, 1) := by decide +kernel
theorem dX7_fetch_13 : decode cX7_fetch 13 = .ok (.aload_n 0, 1) := by decide +kernel
theorem dX7_fetch_14 : decode cX7_fetch 14 = .ok (.getfield 12, 3) := by decide +kernel
theorem dX7_fetch_17 : decode cX7_fetch 17 = .ok (.iload_n 1, 1) := by decide +kernel
theorem dX7_fetch_18 : decode cX7_fetch 18 = .ok (.invokevirtual 139, 3) := by decide +kernel
theorem dX7_fetch_21 : decode cX7_fetch 21 = .ok (.ifCond .ne 6, 3) := by decide +kernel
theorem dX7_fetch_24 : decode cX7_fetch 24 = .ok (.bipush (-2), 2) := by decide +kernel
theorem dX7_fetch_26 : decode cX7_fetch 26 = .ok (.ireturn, 1) := by decide +kernel
theorem dX7_fetch_27 : decode cX7_fetch 27 = .ok (.iload_n 1, 1) := by decide +kernel
theorem dX7_fetch_28 : decode cX7_fetch 28 = .ok (.aload_n 0, 1) := by decide +kernel
theorem dX7_fetch_29 : decode cX7_fetch 29 = .ok (.getfield 12, 3) := by decide +kernel
theorem dX7_fetch_32 : decode cX7_fetch 32 = .ok (.getfield 111, 3) := by decide +kernel
theorem dX7_fetch_35 : decode cX7_fetch 35 = .ok (.iconst (-1), 1) := by decide +kernel
theorem dX7_fetch_36 : decode cX7_fetch 36 = .ok (.ixor, 1) := by decide +kernel
theorem dX7_fetch_37 : decode cX7_fetch 37 = .ok (.iand, 1) := by decide +kernel
theorem dX7_fetch_38 : decode cX7_fetch 38 = .ok (.ifCond .eq 6, 3) := by decide +kernel
theorem dX7_fetch_41 : decode cX7_fetch 41 = .ok (.bipush (-3), 2) := by decide +kernel
theorem dX7_fetch_43 : decode cX7_fetch 43 = .ok (.ireturn, 1) := by decide +kernel
theorem dX7_fetch_44 : decode cX7_fetch 44 = .ok (.aload_n 0, 1) := by decide +kernel
theorem dX7_fetch_45 : decode cX7_fetch 45 = .ok (.getfield 12, 3) := by decide +kernel
theorem dX7_fetch_48 : decode cX7_fetch 48 = .ok (.iload_n 1, 1) := by decide +kernel
theorem dX7_fetch_49 : decode cX7_fetch 49 = .ok (.aload_n 0, 1) := by decide +kernel
theorem dX7_fetch_50 : decode cX7_fetch 50 = .ok (.getfield 12, 3) := by decide +kernel
theorem dX7_fetch_53 : decode cX7_fetch 53 = .ok (.getfield 111, 3) := by decide +kernel
theorem dX7_fetch_56 : decode cX7_fetch 56 = .ok (.invokevirtual 174, 3) := by decide +kernel
theorem dX7_fetch_59 : decode cX7_fetch 59 = .ok (.ireturn, 1) := by decide +kernel
set_option maxRecDepth 20000 in
theorem ggX7_lure_X1_isArticle : GoodIn wsX7_lure wsX1_isArticle := goodIn_r _ [7, 8, 60, 61, 62, 63, 64, 65] (by decide +kernel) (by decide +kernel)
set_option maxRecDepth 20000 in
theorem gX7_lure_X1_isArticle : GoodIn wsX7_lure (wsV RX7 86 RX1 yX1_isArticle wsX1_isArticle) := goodIn_app (goodIn_of _ (by decide +kernel)) ggX7_lure_X1_isArticle
set_option maxRecDepth 20000 in
theorem ggX7_lure_X7_has : GoodIn wsX7_lure wsX7_has := goodIn_r _ [12] (by decide +kernel) (by decide +kernel)
set_option maxRecDepth 20000 in
theorem gX7_lure_X7_has : GoodIn wsX7_lure (va_wsS RX7 114 yX7_has wsX7_has) := goodIn_app (goodIn_of _ (by decide +kernel)) ggX7_lure_X7_has
set_option maxRecDepth 20000 in
theorem ggX7_lure_X1_fewestCalls : GoodIn wsX7_lure wsX1_fewestCalls := goodIn_r _ [16, 17, 18, 19, 20, 21, 22, 23, 24, 25, 26, 27, 6, 28, 29, 30, 31, 32, 8, 33, 34, 35, 36, 37, 38, 10, 11, 12, 39, 40, 41, 42, 43, 44, 45, 46, 47, 48, 49, 50, 51, 52, 60, 61, 62, 63, 64, 65, 66, 67, 68, 69] (by decide +kernel) (by decide +kernel)
set_option maxRecDepth 20000 in
theorem gX7_lure_X1_fewestCalls : GoodIn wsX7_lure (wsV RX7 174 RX1 yX1_fewestCalls wsX1_fewestCalls) := goodIn_app (goodIn_of _ (by decide +kernel)) ggX7_lure_X1_fewestCalls
end
section
theorem dX7_lure_0 : decode cX7_lure 0 = .ok (.aload_n 0, 1) := by decide +kernel
theorem dX7_lure_1 : decode cX7_lure 1 = .ok (.getfield 12, 3) := by decide +kernel
theorem dX7_lure_4 : decode cX7_lure 4 = .ok (.iload_n 1, 1) := by decide +kernel
theorem dX7_lure_5 : decode cX7_lure 5 = .ok (.invokevirtual 86, 3) := by decide +kernel
theorem dX7_lure_8 : decode cX7_lure 8 = .ok (.ifCond .ne 5, 3) := by decide +kernel
theorem dX7_lure_11 : decode cX7_lure 11 = .ok (.iconst (-1), 1) := by decide +kernel
theorem dX7_lure_12 : decode cX7_lure 12 = .ok (.ireturn, 1) := by decide +kernel
theorem dX7_lure_13 : decode cX7_lure 13 = .ok (.aload_n 0, 1) := by decide +kernel
theorem dX7_lure_14 : decode cX7_lure 14 = .ok (.getfield 12, 3) := by decide +kernel
theorem dX7_lure_17 : decode cX7_lure 17 = .ok (.getfield 111, 3) := by decide +kernel
theorem dX7_lure_20 : decode cX7_lure 20 = .ok (.iload_n 1, 1) := by decide +kernel
theorem dX7_lure_21 : decode cX7_lure 21 = .ok (.invokestatic 114, 3) := by decide +kernel
theorem dX7_lure_24 : decode cX7_lure 24 = .ok (.ifCond .ne 6, 3) := by decide +kernel
theorem dX7_lure_27 : decode cX7_lure 27 = .ok (.bipush (-3), 2) := by decide +kernel
theorem dX7_lure_29 : decode cX7_lure 29 = .ok (.ireturn, 1) := by decide +kernel
theorem dX7_lure_30 : decode cX7_lure 30 = .ok (.aload_n 0, 1) := by decide +kernel
theorem dX7_lure_31 : decode cX7_lure 31 = .ok (.getfield 12, 3) := by decide +kernel
theorem dX7_lure_34 : decode cX7_lure 34 = .ok (.iconst 1, 1) := by decide +kernel
theorem dX7_lure_35 : decode cX7_lure 35 = .ok (.iload_n 1, 1) := by decide +kernel
theorem dX7_lure_36 : decode cX7_lure 36 = .ok (.ishl, 1) := by decide +kernel
theorem dX7_lure_37 : decode cX7_lure 37 = .ok (.aload_n 0, 1) := by decide +kernel
theorem dX7_lure_38 : decode cX7_lure 38 = .ok (.getfield 12, 3) := by decide +kernel
theorem dX7_lure_41 : decode cX7_lure 41 = .ok (.getfield 111, 3) := by decide +kernel
theorem dX7_lure_44 : decode cX7_lure 44 = .ok (.iconst 1, 1) := by decide +kernel
theorem dX7_lure_45 : decode cX7_lure 45 = .ok (.iload_n 1, 1) := by decide +kernel
theorem dX7_lure_46 : decode cX7_lure 46 = .ok (.ishl, 1) := by decide +kernel
theorem dX7_lure_47 : decode cX7_lure 47 = .ok (.iconst (-1), 1) := by decide +kernel
theorem dX7_lure_48 : decode cX7_lure 48 = .ok (.ixor, 1) := by decide +kernel
theorem dX7_lure_49 : decode cX7_lure 49 = .ok (.iand, 1) := by decide +kernel
theorem dX7_lure_50 : decode cX7_lure 50 = .ok (.invokevirtual 174, 3) := by decide +kernel
theorem dX7_lure_53 : decode cX7_lure 53 = .ok (.ireturn, 1) := by decide +kernel
set_option maxRecDepth 20000 in
theorem ggX7_reading_X7_isCorner : GoodIn wsX7_reading wsX7_isCorner := goodIn_r _ [7, 8, 9, 6, 10] (by decide +kernel) (by decide +kernel)
set_option maxRecDepth 20000 in
theorem gX7_reading_X7_isCorner : GoodIn wsX7_reading (va_wsS RX7 129 yX7_isCorner wsX7_isCorner) := goodIn_app (goodIn_of _ (by decide +kernel)) ggX7_reading_X7_isCorner
set_option maxRecDepth 20000 in
theorem ggX7_reading_X7_within : GoodIn wsX7_reading wsX7_within := goodIn_r _ [10] (by decide +kernel) (by decide +kernel)
set_option maxRecDepth 20000 in
theorem gX7_reading_X7_within : GoodIn wsX7_reading (va_wsS RX7 125 yX7_within wsX7_within) := goodIn_app (goodIn_of _ (by decide +kernel)) ggX7_reading_X7_within
set_option maxRecDepth 20000 in
theorem ggX7_reading_X1_stands : GoodIn wsX7_reading wsX1_stands := goodIn_r _ [15, 16, 35, 36, 37, 38, 39, 40] (by decide +kernel) (by decide +kernel)
set_option maxRecDepth 20000 in
theorem gX7_reading_X1_stands : GoodIn wsX7_reading (wsV RX7 132 RX1 yX1_stands wsX1_stands) := goodIn_app (goodIn_of _ (by decide +kernel)) ggX7_reading_X1_stands
set_option maxRecDepth 20000 in
theorem ggX7_reading_X3_add : GoodIn wsX7_reading wsX3_add := goodIn_r _ [21, 22, 23, 24, 32, 33, 34] (by decide +kernel) (by decide +kernel)
set_option maxRecDepth 20000 in
theorem gX7_reading_X3_add : GoodIn wsX7_reading (wsV RX7 178 RX3 yX3_add wsX3_add) := goodIn_app (goodIn_of _ (by decide +kernel)) ggX7_reading_X3_add
theorem dX7_reading_0 : decode cX7_reading 0 = .ok (.iload_n 1, 1) := by decide +kernel
theorem dX7_reading_1 : decode cX7_reading 1 = .ok (.invokestatic 129, 3) := by decide +kernel
theorem dX7_reading_4 : decode cX7_reading 4 = .ok (.ifCond .eq 13, 3) := by decide +kernel
theorem dX7_reading_7 : decode cX7_reading 7 = .ok (.iload_n 2, 1) := by decide +kernel
theorem dX7_reading_8 : decode cX7_reading 8 = .ok (.iconst 0, 1) := by decide +kernel
theorem dX7_reading_9 : decode cX7_reading 9 = .ok (.bipush 99, 2) := by decide +kernel
theorem dX7_reading_11 : decode cX7_reading 11 = .ok (.invokestatic 125, 3) := by decide +kernel
theorem dX7_reading_14 : decode cX7_reading 14 = .ok (.ifCond .ne 6, 3) := by decide +kernel
theorem dX7_reading_17 : decode cX7_reading 17 = .ok (.bipush (-2), 2) := by decide +kernel
theorem dX7_reading_19 : decode cX7_reading 19 = .ok (.ireturn, 1) := by decide +kernel
theorem dX7_reading_20 : decode cX7_reading 20 = .ok (.aload_n 0, 1) := by decide +kernel
theorem dX7_reading_21 : decode cX7_reading 21 = .ok (.getfield 12, 3) := by decide +kernel
theorem dX7_reading_24 : decode cX7_reading 24 = .ok (.invokevirtual 132, 3) := by decide +kernel
theorem dX7_reading_27 : decode cX7_reading 27 = .ok (.ifCond .ne 6, 3) := by decide +kernel
theorem dX7_reading_30 : decode cX7_reading 30 = .ok (.bipush (-3), 2) := by decide +kernel
theorem dX7_reading_32 : decode cX7_reading 32 = .ok (.ireturn, 1) := by decide +kernel
theorem dX7_reading_33 : decode cX7_reading 33 = .ok (.aload_n 0, 1) := by decide +kernel
theorem dX7_reading_34 : decode cX7_reading 34 = .ok (.getfield 21, 3) := by decide +kernel
theorem dX7_reading_37 : decode cX7_reading 37 = .ok (.getfield 80, 3) := by decide +kernel
theorem dX7_reading_40 : decode cX7_reading 40 = .ok (.bipush 8, 2) := by decide +kernel
theorem dX7_reading_42 : decode cX7_reading 42 = .ok (.if_icmp .lt 6, 3) := by decide +kernel
theorem dX7_reading_45 : decode cX7_reading 45 = .ok (.bipush (-4), 2) := by decide +kernel
theorem dX7_reading_47 : decode cX7_reading 47 = .ok (.ireturn, 1) := by decide +kernel
theorem dX7_reading_48 : decode cX7_reading 48 = .ok (.aload_n 0, 1) := by decide +kernel
theorem dX7_reading_49 : decode cX7_reading 49 = .ok (.getfield 21, 3) := by decide +kernel
theorem dX7_reading_52 : decode cX7_reading 52 = .ok (.iload_n 1, 1) := by decide +kernel
theorem dX7_reading_53 : decode cX7_reading 53 = .ok (.iload_n 2, 1) := by decide +kernel
theorem dX7_reading_54 : decode cX7_reading 54 = .ok (.invokevirtual 178, 3) := by decide +kernel
theorem dX7_reading_57 : decode cX7_reading 57 = .ok (.ireturn, 1) := by decide +kernel
set_option maxRecDepth 20000 in
theorem ggX7_back_X7_within : GoodIn wsX7_back wsX7_within := goodIn_r _ [6] (by decide +kernel) (by decide +kernel)
set_option maxRecDepth 20000 in
theorem gX7_back_X7_within : GoodIn wsX7_back (va_wsS RX7 125 yX7_within wsX7_within) := goodIn_app (goodIn_of _ (by decide +kernel)) ggX7_back_X7_within
theorem dX7_back_0 : decode cX7_back 0 = .ok (.iload_n 1, 1) := by decide +kernel
theorem dX7_back_1 : decode cX7_back 1 = .ok (.iconst 0, 1) := by decide +kernel
theorem dX7_back_2 : decode cX7_back 2 = .ok (.aload_n 0, 1) := by decide +kernel
theorem dX7_back_3 : decode cX7_back 3 = .ok (.getfield 21, 3) := by decide +kernel
theorem dX7_back_6 : decode cX7_back 6 = .ok (.getfield 80, 3) := by decide +kernel
theorem dX7_back_9 : decode cX7_back 9 = .ok (.invokestatic 125, 3) := by decide +kernel
theorem dX7_back_12 : decode cX7_back 12 = .ok (.ifCond .ne 6, 3) := by decide +kernel
theorem dX7_back_15 : decode cX7_back 15 = .ok (.bipush (-2), 2) := by decide +kernel
theorem dX7_back_17 : decode cX7_back 17 = .ok (.ireturn, 1) := by decide +kernel
theorem dX7_back_18 : decode cX7_back 18 = .ok (.aload_n 0, 1) := by decide +kernel
theorem dX7_back_19 : decode cX7_back 19 = .ok (.getfield 21, 3) := by decide +kernel
theorem dX7_back_22 : decode cX7_back 22 = .ok (.dup, 1) := by decide +kernel
theorem dX7_back_23 : decode cX7_back 23 = .ok (.getfield 80, 3) := by decide +kernel
theorem dX7_back_26 : decode cX7_back 26 = .ok (.iload_n 1, 1) := by decide +kernel
theorem dX7_back_27 : decode cX7_back 27 = .ok (.isub, 1) := by decide +kernel
theorem dX7_back_28 : decode cX7_back 28 = .ok (.putfield 80, 3) := by decide +kernel
theorem dX7_back_31 : decode cX7_back 31 = .ok (.aload_n 0, 1) := by decide +kernel
theorem dX7_back_32 : decode cX7_back 32 = .ok (.getfield 21, 3) := by decide +kernel
theorem dX7_back_35 : decode cX7_back 35 = .ok (.getfield 80, 3) := by decide +kernel
theorem dX7_back_38 : decode cX7_back 38 = .ok (.ireturn, 1) := by decide +kernel
set_option maxRecDepth 20000 in
theorem ggX7_gaieties_X1_isArticle : GoodIn wsX7_gaieties wsX1_isArticle := goodIn_r _ [10, 11, 61, 62, 63, 64, 65, 66] (by decide +kernel) (by decide +kernel)
set_option maxRecDepth 20000 in
theorem gX7_gaieties_X1_isArticle : GoodIn wsX7_gaieties (wsV RX7 86 RX1 yX1_isArticle wsX1_isArticle) := goodIn_app (goodIn_of _ (by decide +kernel)) ggX7_gaieties_X1_isArticle
set_option maxRecDepth 20000 in
theorem ggX7_gaieties_X1_laughIf : GoodIn wsX7_gaieties wsX1_laughIf := goodIn_r _ [15, 16, 17, 18, 19, 9, 20, 11, 21, 22, 23, 24, 25, 26, 27, 28, 29, 30, 31, 32, 33, 34, 35, 36, 37, 38, 39, 61, 62, 63, 64, 65, 66, 67, 68, 69, 70] (by decide +kernel) (by decide +kernel)
set_option maxRecDepth 20000 in
theorem gX7_gaieties_X1_laughIf : GoodIn wsX7_gaieties (wsV RX7 181 RX1 yX1_laughIf wsX1_laughIf) := goodIn_app (goodIn_of _ (by decide +kernel)) ggX7_gaieties_X1_laughIf
set_option maxRecDepth 20000 in
theorem ggX7_gaieties_X3_allAreSo : GoodIn wsX7_gaieties wsX3_allAreSo := goodIn_r _ [44, 45, 46, 47, 48, 23, 49, 50, 51, 37, 52, 53, 36, 38, 71, 72, 73] (by decide +kernel) (by decide +kernel)
set_option maxRecDepth 20000 in
theorem gX7_gaieties_X3_allAreSo : GoodIn wsX7_gaieties (wsV RX7 184 RX3 yX3_allAreSo wsX3_allAreSo) := goodIn_app (goodIn_of _ (by decide +kernel)) ggX7_gaieties_X3_allAreSo
theorem dX7_gaieties_0 : decode cX7_gaieties 0 = .ok (.aload_n 0, 1) := by decide +kernel
theorem dX7_gaieties_1 : decode cX7_gaieties 1 = .ok (.getfield 12, 3) := by decide +kernel
theorem dX7_gaieties_4 : decode cX7_gaieties 4 = .ok (.iload_n 1, 1) := by decide +kernel
theorem dX7_gaieties_5 : decode cX7_gaieties 5 = .ok (.invokevirtual 86, 3) := by decide +kernel
theorem dX7_gaieties_8 : decode cX7_gaieties 8 = .ok (.ifCond .ne 5, 3) := by decide +kernel
theorem dX7_gaieties_11 : decode cX7_gaieties 11 = .ok (.iconst (-1), 1) := by decide +kernel
theorem dX7_gaieties_12 : decode cX7_gaieties 12 = .ok (.ireturn, 1) := by decide +kernel
theorem dX7_gaieties_13 : decode cX7_gaieties 13 = .ok (.aload_n 0, 1) := by decide +kernel
theorem dX7_gaieties_14 : decode cX7_gaieties 14 = .ok (.getfield 12, 3) := by decide +kernel
theorem dX7_gaieties_17 : decode cX7_gaieties 17 = .ok (.getfield 89, 3) := by decide +kernel
theorem dX7_gaieties_20 : decode cX7_gaieties 20 = .ok (.iload_n 1, 1) := by decide +kernel
theorem dX7_gaieties_21 : decode cX7_gaieties 21 = .ok (.aaload, 1) := by decide +kernel
theorem dX7_gaieties_22 : decode cX7_gaieties 22 = .ok (.getfield 93, 3) := by decide +kernel
theorem dX7_gaieties_25 : decode cX7_gaieties 25 = .ok (.istore_n 2, 1) := by decide +kernel
theorem dX7_gaieties_26 : decode cX7_gaieties 26 = .ok (.iconst 0, 1) := by decide +kernel
theorem dX7_gaieties_27 : decode cX7_gaieties 27 = .ok (.istore_n 3, 1) := by decide +kernel
theorem dX7_gaieties_28 : decode cX7_gaieties 28 = .ok (.iconst 0, 1) := by decide +kernel
theorem dX7_gaieties_29 : decode cX7_gaieties 29 = .ok (.istore 4, 2) := by decide +kernel
theorem dX7_gaieties_31 : decode cX7_gaieties 31 = .ok (.iload 4, 2) := by decide +kernel
theorem dX7_gaieties_33 : decode cX7_gaieties 33 = .ok (.bipush 9, 2) := by decide +kernel
theorem dX7_gaieties_35 : decode cX7_gaieties 35 = .ok (.if_icmp .gt 44, 3) := by decide +kernel
theorem dX7_gaieties_38 : decode cX7_gaieties 38 = .ok (.aload_n 0, 1) := by decide +kernel
theorem dX7_gaieties_39 : decode cX7_gaieties 39 = .ok (.getfield 21, 3) := by decide +kernel
theorem dX7_gaieties_42 : decode cX7_gaieties 42 = .ok (.aload_n 0, 1) := by decide +kernel
theorem dX7_gaieties_43 : decode cX7_gaieties 43 = .ok (.getfield 12, 3) := by decide +kernel
theorem dX7_gaieties_46 : decode cX7_gaieties 46 = .ok (.getfield 136, 3) := by decide +kernel
theorem dX7_gaieties_49 : decode cX7_gaieties 49 = .ok (.aload_n 0, 1) := by decide +kernel
theorem dX7_gaieties_50 : decode cX7_gaieties 50 = .ok (.getfield 12, 3) := by decide +kernel
theorem dX7_gaieties_53 : decode cX7_gaieties 53 = .ok (.iload_n 1, 1) := by decide +kernel
theorem dX7_gaieties_54 : decode cX7_gaieties 54 = .ok (.iload_n 2, 1) := by decide +kernel
theorem dX7_gaieties_55 : decode cX7_gaieties 55 = .ok (.iload 4, 2) := by decide +kernel
theorem dX7_gaieties_57 : decode cX7_gaieties 57 = .ok (.invokevirtual 181, 3) := by decide +kernel
theorem dX7_gaieties_60 : decode cX7_gaieties 60 = .ok (.invokevirtual 184, 3) := by decide +kernel
theorem dX7_gaieties_63 : decode cX7_gaieties 63 = .ok (.ifCond .eq 10, 3) := by decide +kernel
theorem dX7_gaieties_66 : decode cX7_gaieties 66 = .ok (.iload_n 3, 1) := by decide +kernel
theorem dX7_gaieties_67 : decode cX7_gaieties 67 = .ok (.iconst 1, 1) := by decide +kernel
theorem dX7_gaieties_68 : decode cX7_gaieties 68 = .ok (.iload 4, 2) := by decide +kernel
theorem dX7_gaieties_70 : decode cX7_gaieties 70 = .ok (.ishl, 1) := by decide +kernel
theorem dX7_gaieties_71 : decode cX7_gaieties 71 = .ok (.ior, 1) := by decide +kernel
theorem dX7_gaieties_72 : decode cX7_gaieties 72 = .ok (.istore_n 3, 1) := by decide +kernel
theorem dX7_gaieties_73 : decode cX7_gaieties 73 = .ok (.iinc 4 1, 3) := by decide +kernel
theorem dX7_gaieties_76 : decode cX7_gaieties 76 = .ok (.goto (-45), 3) := by decide +kernel
theorem dX7_gaieties_79 : decode cX7_gaieties 79 = .ok (.iload_n 3, 1) := by decide +kernel
theorem dX7_gaieties_80 : decode cX7_gaieties 80 = .ok (.ireturn, 1) := by decide +kernel
set_option maxRecDepth 20000 in
theorem ggX7_kinds_X1_isArticle : GoodIn wsX7_kinds wsX1_isArticle := goodIn_r _ [10, 11, 61, 62, 63, 64, 65, 66] (by decide +kernel) (by decide +kernel)
set_option maxRecDepth 20000 in
theorem gX7_kinds_X1_isArticle : GoodIn wsX7_kinds (wsV RX7 86 RX1 yX1_isArticle wsX1_isArticle) := goodIn_app (goodIn_of _ (by decide +kernel)) ggX7_kinds_X1_isArticle
set_option maxRecDepth 20000 in
theorem ggX7_kinds_X1_laughIf : GoodIn wsX7_kinds wsX1_laughIf := goodIn_r _ [15, 16, 17, 18, 19, 9, 20, 11, 21, 22, 23, 24, 25, 26, 27, 28, 29, 30, 31, 32, 33, 34, 35, 36, 37, 38, 39, 61, 62, 63, 64, 65, 66, 67, 68, 69, 70] (by decide +kernel) (by decide +kernel)
set_option maxRecDepth 20000 in
theorem gX7_kinds_X1_laughIf : GoodIn wsX7_kinds (wsV RX7 181 RX1 yX1_laughIf wsX1_laughIf) := goodIn_app (goodIn_of _ (by decide +kernel)) ggX7_kinds_X1_laughIf
set_option maxRecDepth 20000 in
theorem ggX7_kinds_X3_allAreSo : GoodIn wsX7_kinds wsX3_allAreSo := goodIn_r _ [44, 45, 46, 47, 48, 23, 49, 50, 51, 37, 52, 53, 36, 38, 71, 72, 73] (by decide +kernel) (by decide +kernel)
set_option maxRecDepth 20000 in
theorem gX7_kinds_X3_allAreSo : GoodIn wsX7_kinds (wsV RX7 184 RX3 yX3_allAreSo wsX3_allAreSo) := goodIn_app (goodIn_of _ (by decide +kernel)) ggX7_kinds_X3_allAreSo
theorem dX7_kinds_0 : decode cX7_kinds 0 = .ok (.aload_n 0, 1) := by decide +kernel
theorem dX7_kinds_1 : decode cX7_kinds 1 = .ok (.getfield 12, 3) := by decide +kernel
theorem dX7_kinds_4 : decode cX7_kinds 4 = .ok (.iload_n 1, 1) := by decide +kernel
theorem dX7_kinds_5 : decode cX7_kinds 5 = .ok (.invokevirtual 86, 3) := by decide +kernel
theorem dX7_kinds_8 : decode cX7_kinds 8 = .ok (.ifCond .ne 5, 3) := by decide +kernel
theorem dX7_kinds_11 : decode cX7_kinds 11 = .ok (.iconst (-1), 1) := by decide +kernel
theorem dX7_kinds_12 : decode cX7_kinds 12 = .ok (.ireturn, 1) := by decide +kernel
theorem dX7_kinds_13 : decode cX7_kinds 13 = .ok (.aload_n 0, 1) := by decide +kernel
theorem dX7_kinds_14 : decode cX7_kinds 14 = .ok (.getfield 12, 3) := by decide +kernel
theorem dX7_kinds_17 : decode cX7_kinds 17 = .ok (.getfield 89, 3) := by decide +kernel
theorem dX7_kinds_20 : decode cX7_kinds 20 = .ok (.iload_n 1, 1) := by decide +kernel
theorem dX7_kinds_21 : decode cX7_kinds 21 = .ok (.aaload, 1) := by decide +kernel
theorem dX7_kinds_22 : decode cX7_kinds 22 = .ok (.getfield 101, 3) := by decide +kernel
theorem dX7_kinds_25 : decode cX7_kinds 25 = .ok (.istore_n 2, 1) := by decide +kernel
theorem dX7_kinds_26 : decode cX7_kinds 26 = .ok (.iconst 0, 1) := by decide +kernel
theorem dX7_kinds_27 : decode cX7_kinds 27 = .ok (.istore_n 3, 1) := by decide +kernel
theorem dX7_kinds_28 : decode cX7_kinds 28 = .ok (.iconst 0, 1) := by decide +kernel
theorem dX7_kinds_29 : decode cX7_kinds 29 = .ok (.istore 4, 2) := by decide +kernel
theorem dX7_kinds_31 : decode cX7_kinds 31 = .ok (.iload 4, 2) := by decide +kernel
theorem dX7_kinds_33 : decode cX7_kinds 33 = .ok (.iconst 3, 1) := by decide +kernel
theorem dX7_kinds_34 : decode cX7_kinds 34 = .ok (.if_icmp .ge 44, 3) := by decide +kernel
theorem dX7_kinds_37 : decode cX7_kinds 37 = .ok (.aload_n 0, 1) := by decide +kernel
theorem dX7_kinds_38 : decode cX7_kinds 38 = .ok (.getfield 21, 3) := by decide +kernel
theorem dX7_kinds_41 : decode cX7_kinds 41 = .ok (.aload_n 0, 1) := by decide +kernel
theorem dX7_kinds_42 : decode cX7_kinds 42 = .ok (.getfield 12, 3) := by decide +kernel
theorem dX7_kinds_45 : decode cX7_kinds 45 = .ok (.getfield 136, 3) := by decide +kernel
theorem dX7_kinds_48 : decode cX7_kinds 48 = .ok (.aload_n 0, 1) := by decide +kernel
theorem dX7_kinds_49 : decode cX7_kinds 49 = .ok (.getfield 12, 3) := by decide +kernel
theorem dX7_kinds_52 : decode cX7_kinds 52 = .ok (.iload_n 1, 1) := by decide +kernel
theorem dX7_kinds_53 : decode cX7_kinds 53 = .ok (.iload 4, 2) := by decide +kernel
theorem dX7_kinds_55 : decode cX7_kinds 55 = .ok (.iload_n 2, 1) := by decide +kernel
theorem dX7_kinds_56 : decode cX7_kinds 56 = .ok (.invokevirtual 181, 3) := by decide +kernel
theorem dX7_kinds_59 : decode cX7_kinds 59 = .ok (.invokevirtual 184, 3) := by decide +kernel
theorem dX7_kinds_62 : decode cX7_kinds 62 = .ok (.ifCond .eq 10, 3) := by decide +kernel
theorem dX7_kinds_65 : decode cX7_kinds 65 = .ok (.iload_n 3, 1) := by decide +kernel
theorem dX7_kinds_66 : decode cX7_kinds 66 = .ok (.iconst 1, 1) := by decide +kernel
theorem dX7_kinds_67 : decode cX7_kinds 67 = .ok (.iload 4, 2) := by decide +kernel
theorem dX7_kinds_69 : decode cX7_kinds 69 = .ok (.ishl, 1) := by decide +kernel
theorem dX7_kinds_70 : decode cX7_kinds 70 = .ok (.ior, 1) := by decide +kernel
theorem dX7_kinds_71 : decode cX7_kinds 71 = .ok (.istore_n 3, 1) := by decide +kernel
theorem dX7_kinds_72 : decode cX7_kinds 72 = .ok (.iinc 4 1, 3) := by decide +kernel
theorem dX7_kinds_75 : decode cX7_kinds 75 = .ok (.goto (-44), 3) := by decide +kernel
theorem dX7_kinds_78 : decode cX7_kinds 78 = .ok (.iload_n 3, 1) := by decide +kernel
theorem dX7_kinds_79 : decode cX7_kinds 79 = .ok (.ireturn, 1) := by decide +kernel
set_option maxRecDepth 20000 in
theorem ggX7_wheres_X7_within : GoodIn wsX7_wheres wsX7_within := goodIn_r _ [8] (by decide +kernel) (by decide +kernel)
set_option maxRecDepth 20000 in
theorem gX7_wheres_X7_within : GoodIn wsX7_wheres (va_wsS RX7 125 yX7_within wsX7_within) := goodIn_app (goodIn_of _ (by decide +kernel)) ggX7_wheres_X7_within
set_option maxRecDepth 20000 in
theorem ggX7_wheres_X1_stands : GoodIn wsX7_wheres wsX1_stands := goodIn_r _ [13, 14, 57, 58, 59, 60, 61, 62] (by decide +kernel) (by decide +kernel)
set_option maxRecDepth 20000 in
theorem gX7_wheres_X1_stands : GoodIn wsX7_wheres (wsV RX7 132 RX1 yX1_stands wsX1_stands) := goodIn_app (goodIn_of _ (by decide +kernel)) ggX7_wheres_X1_stands
set_option maxRecDepth 20000 in
theorem ggX7_wheres_X1_laughOf : GoodIn wsX7_wheres wsX1_laughOf := goodIn_r _ [18, 14, 19, 20, 7, 21, 22, 23, 24, 25, 26, 27, 28, 29, 30, 31, 32, 33, 34, 35, 57, 58, 59, 60, 61, 62, 63, 64, 65, 66] (by decide +kernel) (by decide +kernel)
set_option maxRecDepth 20000 in
theorem gX7_wheres_X1_laughOf : GoodIn wsX7_wheres (wsV RX7 148 RX1 yX1_laughOf wsX1_laughOf) := goodIn_app (goodIn_of _ (by decide +kernel)) ggX7_wheres_X1_laughOf
set_option maxRecDepth 20000 in
theorem ggX7_wheres_X3_allAreSo : GoodIn wsX7_wheres wsX3_allAreSo := goodIn_r _ [40, 41, 42, 43, 44, 7, 45, 46, 47, 34, 48, 49, 33, 35, 67, 68, 69] (by decide +kernel) (by decide +kernel)
set_option maxRecDepth 20000 in
theorem gX7_wheres_X3_allAreSo : GoodIn wsX7_wheres (wsV RX7 184 RX3 yX3_allAreSo wsX3_allAreSo) := goodIn_app (goodIn_of _ (by decide +kernel)) ggX7_wheres_X3_allAreSo
theorem dX7_wheres_0 : decode cX7_wheres 0 = .ok (.iload_n 1, 1) := by decide +kernel
theorem dX7_wheres_1 : decode cX7_wheres 1 = .ok (.iconst 0, 1) := by decide +kernel
theorem dX7_wheres_2 : decode cX7_wheres 2 = .ok (.iconst 1, 1) := by decide +kernel
theorem dX7_wheres_3 : decode cX7_wheres 3 = .ok (.invokestatic 125, 3) := by decide +kernel
theorem dX7_wheres_6 : decode cX7_wheres 6 = .ok (.ifCond .eq 13, 3) := by decide +kernel
theorem dX7_wheres_9 : decode cX7_wheres 9 = .ok (.aload_n 0, 1) := by decide +kernel
theorem dX7_wheres_10 : decode cX7_wheres 10 = .ok (.getfield 12, 3) := by decide +kernel
theorem dX7_wheres_13 : decode cX7_wheres 13 = .ok (.invokevirtual 132, 3) := by decide +kernel
theorem dX7_wheres_16 : decode cX7_wheres 16 = .ok (.ifCond .ne 7, 3) := by decide +kernel
theorem dX7_wheres_19 : decode cX7_wheres 19 = .ok (.ldc2_w 187, 3) := by decide +kernel
theorem dX7_wheres_22 : decode cX7_wheres 22 = .ok (.lreturn, 1) := by decide +kernel
theorem dX7_wheres_23 : decode cX7_wheres 23 = .ok (.aload_n 0, 1) := by decide +kernel
theorem dX7_wheres_24 : decode cX7_wheres 24 = .ok (.getfield 12, 3) := by decide +kernel
theorem dX7_wheres_27 : decode cX7_wheres 27 = .ok (.aload_n 0, 1) := by decide +kernel
theorem dX7_wheres_28 : decode cX7_wheres 28 = .ok (.getfield 12, 3) := by decide +kernel
theorem dX7_wheres_31 : decode cX7_wheres 31 = .ok (.getfield 111, 3) := by decide +kernel
theorem dX7_wheres_34 : decode cX7_wheres 34 = .ok (.invokevirtual 148, 3) := by decide +kernel
theorem dX7_wheres_37 : decode cX7_wheres 37 = .ok (.istore_n 2, 1) := by decide +kernel
theorem dX7_wheres_38 : decode cX7_wheres 38 = .ok (.lconst 0, 1) := by decide +kernel
theorem dX7_wheres_39 : decode cX7_wheres 39 = .ok (.lstore_n 3, 1) := by decide +kernel
theorem dX7_wheres_40 : decode cX7_wheres 40 = .ok (.iconst 0, 1) := by decide +kernel
theorem dX7_wheres_41 : decode cX7_wheres 41 = .ok (.istore 5, 2) := by decide +kernel
theorem dX7_wheres_43 : decode cX7_wheres 43 = .ok (.iload 5, 2) := by decide +kernel
theorem dX7_wheres_45 : decode cX7_wheres 45 = .ok (.bipush 32, 2) := by decide +kernel
theorem dX7_wheres_47 : decode cX7_wheres 47 = .ok (.if_icmp .ge 34, 3) := by decide +kernel
theorem dX7_wheres_50 : decode cX7_wheres 50 = .ok (.aload_n 0, 1) := by decide +kernel
theorem dX7_wheres_51 : decode cX7_wheres 51 = .ok (.getfield 21, 3) := by decide +kernel
theorem dX7_wheres_54 : decode cX7_wheres 54 = .ok (.bipush 32, 2) := by decide +kernel
theorem dX7_wheres_56 : decode cX7_wheres 56 = .ok (.iload_n 1, 1) := by decide +kernel
theorem dX7_wheres_57 : decode cX7_wheres 57 = .ok (.imul, 1) := by decide +kernel
theorem dX7_wheres_58 : decode cX7_wheres 58 = .ok (.iload 5, 2) := by decide +kernel
theorem dX7_wheres_60 : decode cX7_wheres 60 = .ok (.iadd, 1) := by decide +kernel
theorem dX7_wheres_61 : decode cX7_wheres 61 = .ok (.iload_n 2, 1) := by decide +kernel
theorem dX7_wheres_62 : decode cX7_wheres 62 = .ok (.invokevirtual 184, 3) := by decide +kernel
theorem dX7_wheres_65 : decode cX7_wheres 65 = .ok (.ifCond .eq 10, 3) := by decide +kernel
theorem dX7_wheres_68 : decode cX7_wheres 68 = .ok (.lload_n 3, 1) := by decide +kernel
theorem dX7_wheres_69 : decode cX7_wheres 69 = .ok (.lconst 1, 1) := by decide +kernel
theorem dX7_wheres_70 : decode cX7_wheres 70 = .ok (.iload 5, 2) := by decide +kernel
theorem dX7_wheres_72 : decode cX7_wheres 72 = .ok (.lshl, 1) := by decide +kernel
theorem dX7_wheres_73 : decode cX7_wheres 73 = .ok (.lor, 1) := by decide +kernel
theorem dX7_wheres_74 : decode cX7_wheres 74 = .ok (.lstore_n 3, 1) := by decide +kernel
theorem dX7_wheres_75 : decode cX7_wheres 75 = .ok (.iinc 5 1, 3) := by decide +kernel
theorem dX7_wheres_78 : decode cX7_wheres 78 = .ok (.goto (-35), 3) := by decide +kernel
theorem dX7_wheres_81 : decode cX7_wheres 81 = .ok (.lload_n 3, 1) := by decide +kernel
theorem dX7_wheres_82 : decode cX7_wheres 82 = .ok (.lreturn, 1) := by decide +kernel
set_option maxRecDepth 20000 in
theorem ggX7_odds_X1_isArticle : GoodIn wsX7_odds wsX1_isArticle := goodIn_r _ [8, 9, 64, 65, 66, 67, 68, 69] (by decide +kernel) (by decide +kernel)
set_option maxRecDepth 20000 in
theorem gX7_odds_X1_isArticle : GoodIn wsX7_odds (wsV RX7 86 RX1 yX1_isArticle wsX1_isArticle) := goodIn_app (goodIn_of _ (by decide +kernel)) ggX7_odds_X1_isArticle
set_option maxRecDepth 20000 in
theorem ggX7_odds_X7_within : GoodIn wsX7_odds wsX7_within := goodIn_r _ [13] (by decide +kernel) (by decide +kernel)
set_option maxRecDepth 20000 in
theorem gX7_odds_X7_within : GoodIn wsX7_odds (va_wsS RX7 125 yX7_within wsX7_within) := goodIn_app (goodIn_of _ (by decide +kernel)) ggX7_odds_X7_within
set_option maxRecDepth 20000 in
theorem ggX7_odds_X7_has : GoodIn wsX7_odds wsX7_has := goodIn_r _ [16] (by decide +kernel) (by decide +kernel)
set_option maxRecDepth 20000 in
theorem gX7_odds_X7_has : GoodIn wsX7_odds (va_wsS RX7 114 yX7_has wsX7_has) := goodIn_app (goodIn_of _ (by decide +kernel)) ggX7_odds_X7_has
set_option maxRecDepth 20000 in
theorem ggX7_odds_X1_setsThatLeave : GoodIn wsX7_odds wsX1_setsThatLeave := goodIn_r _ [20, 21, 22, 23, 24, 7, 25, 26, 27, 28, 29, 9, 30, 31, 32, 33, 34, 35, 15, 12, 16, 36, 37, 38, 39, 40, 41, 42, 43, 44, 45, 46, 47, 48, 49, 64, 65, 66, 67, 68, 69, 70, 71, 72, 73] (by decide +kernel) (by decide +kernel)
set_option maxRecDepth 20000 in
theorem gX7_odds_X1_setsThatLeave : GoodIn wsX7_odds (wsV RX7 189 RX1 yX1_setsThatLeave wsX1_setsThatLeave) := goodIn_app (goodIn_of _ (by decide +kernel)) ggX7_odds_X1_setsThatLeave
set_option maxRecDepth 20000 in
theorem ggX7_odds_J6_bitCount_0f7a4 : GoodIn wsX7_odds wsJ6_bitCount_0f7a4 := goodIn_r _ [53, 54, 55, 56] (by decide +kernel) (by decide +kernel)
set_option maxRecDepth 20000 in
theorem gX7_odds_J6_bitCount_0f7a4 : GoodIn wsX7_odds (va_wsS RX7 192 yJ6_bitCount_0f7a4 wsJ6_bitCount_0f7a4) := goodIn_app (goodIn_of _ (by decide +kernel)) ggX7_odds_J6_bitCount_0f7a4
theorem dX7_odds_0 : decode cX7_odds 0 = .ok (.aload_n 0, 1) := by decide +kernel
theorem dX7_odds_1 : decode cX7_odds 1 = .ok (.getfield 12, 3) := by decide +kernel
theorem dX7_odds_4 : decode cX7_odds 4 = .ok (.iload_n 1, 1) := by decide +kernel
theorem dX7_odds_5 : decode cX7_odds 5 = .ok (.invokevirtual 86, 3) := by decide +kernel
theorem dX7_odds_8 : decode cX7_odds 8 = .ok (.ifCond .eq 26, 3) := by decide +kernel
theorem dX7_odds_11 : decode cX7_odds 11 = .ok (.iload_n 2, 1) := by decide +kernel
theorem dX7_odds_12 : decode cX7_odds 12 = .ok (.iconst 0, 1) := by decide +kernel
theorem dX7_odds_13 : decode cX7_odds 13 = .ok (.iconst 1, 1) := by decide +kernel
theorem dX7_odds_14 : decode cX7_odds 14 = .ok (.invokestatic 125, 3) := by decide +kernel
theorem dX7_odds_17 : decode cX7_odds 17 = .ok (.ifCond .eq 17, 3) := by decide +kernel
theorem dX7_odds_20 : decode cX7_odds 20 = .ok (.aload_n 0, 1) := by decide +kernel
theorem dX7_odds_21 : decode cX7_odds 21 = .ok (.getfield 12, 3) := by decide +kernel
theorem dX7_odds_24 : decode cX7_odds 24 = .ok (.getfield 111, 3) := by decide +kernel
theorem dX7_odds_27 : decode cX7_odds 27 = .ok (.iload_n 1, 1) := by decide +kernel
theorem dX7_odds_28 : decode cX7_odds 28 = .ok (.invokestatic 114, 3) := by decide +kernel
theorem dX7_odds_31 : decode cX7_odds 31 = .ok (.ifCond .ne 7, 3) := by decide +kernel
theorem dX7_odds_34 : decode cX7_odds 34 = .ok (.ldc2_w 187, 3) := by decide +kernel
theorem dX7_odds_37 : decode cX7_odds 37 = .ok (.lreturn, 1) := by decide +kernel
theorem dX7_odds_38 : decode cX7_odds 38 = .ok (.aload_n 0, 1) := by decide +kernel
theorem dX7_odds_39 : decode cX7_odds 39 = .ok (.getfield 12, 3) := by decide +kernel
theorem dX7_odds_42 : decode cX7_odds 42 = .ok (.iload_n 1, 1) := by decide +kernel
theorem dX7_odds_43 : decode cX7_odds 43 = .ok (.invokevirtual 189, 3) := by decide +kernel
theorem dX7_odds_46 : decode cX7_odds 46 = .ok (.istore_n 3, 1) := by decide +kernel
theorem dX7_odds_47 : decode cX7_odds 47 = .ok (.iconst 1, 1) := by decide +kernel
theorem dX7_odds_48 : decode cX7_odds 48 = .ok (.aload_n 0, 1) := by decide +kernel
theorem dX7_odds_49 : decode cX7_odds 49 = .ok (.getfield 12, 3) := by decide +kernel
theorem dX7_odds_52 : decode cX7_odds 52 = .ok (.getfield 111, 3) := by decide +kernel
theorem dX7_odds_55 : decode cX7_odds 55 = .ok (.invokestatic 192, 3) := by decide +kernel
theorem dX7_odds_58 : decode cX7_odds 58 = .ok (.ishl, 1) := by decide +kernel
theorem dX7_odds_59 : decode cX7_odds 59 = .ok (.istore 4, 2) := by decide +kernel
theorem dX7_odds_61 : decode cX7_odds 61 = .ok (.iconst 0, 1) := by decide +kernel
theorem dX7_odds_62 : decode cX7_odds 62 = .ok (.istore 5, 2) := by decide +kernel
theorem dX7_odds_64 : decode cX7_odds 64 = .ok (.iload 5, 2) := by decide +kernel
theorem dX7_odds_66 : decode cX7_odds 66 = .ok (.bipush 6, 2) := by decide +kernel
theorem dX7_odds_68 : decode cX7_odds 68 = .ok (.if_icmp .ge 31, 3) := by decide +kernel
theorem dX7_odds_71 : decode cX7_odds 71 = .ok (.iload 4, 2) := by decide +kernel
theorem dX7_odds_73 : decode cX7_odds 73 = .ok (.iconst 1, 1) := by decide +kernel
theorem dX7_odds_74 : decode cX7_odds 74 = .ok (.if_icmp .le 25, 3) := by decide +kernel
theorem dX7_odds_77 : decode cX7_odds 77 = .ok (.iload_n 3, 1) := by decide +kernel
theorem dX7_odds_78 : decode cX7_odds 78 = .ok (.iconst 1, 1) := by decide +kernel
theorem dX7_odds_79 : decode cX7_odds 79 = .ok (.iand, 1) := by decide +kernel
theorem dX7_odds_80 : decode cX7_odds 80 = .ok (.ifCond .ne 19, 3) := by decide +kernel
theorem dX7_odds_83 : decode cX7_odds 83 = .ok (.iload_n 3, 1) := by decide +kernel
theorem dX7_odds_84 : decode cX7_odds 84 = .ok (.iconst 1, 1) := by decide +kernel
theorem dX7_odds_85 : decode cX7_odds 85 = .ok (.ishr, 1) := by decide +kernel
theorem dX7_odds_86 : decode cX7_odds 86 = .ok (.istore_n 3, 1) := by decide +kernel
theorem dX7_odds_87 : decode cX7_odds 87 = .ok (.iload 4, 2) := by decide +kernel
theorem dX7_odds_89 : decode cX7_odds 89 = .ok (.iconst 1, 1) := by decide +kernel
theorem dX7_odds_90 : decode cX7_odds 90 = .ok (.ishr, 1) := by decide +kernel
theorem dX7_odds_91 : decode cX7_odds 91 = .ok (.istore 4, 2) := by decide +kernel
theorem dX7_odds_93 : decode cX7_odds 93 = .ok (.iinc 5 1, 3) := by decide +kernel
theorem dX7_odds_96 : decode cX7_odds 96 = .ok (.goto (-32), 3) := by decide +kernel
theorem dX7_odds_99 : decode cX7_odds 99 = .ok (.iload_n 2, 1) := by decide +kernel
theorem dX7_odds_100 : decode cX7_odds 100 = .ok (.ifCond .ne 8, 3) := by decide +kernel
theorem dX7_odds_103 : decode cX7_odds 103 = .ok (.iload_n 3, 1) := by decide +kernel
theorem dX7_odds_104 : decode cX7_odds 104 = .ok (.i2l, 1) := by decide +kernel
theorem dX7_odds_105 : decode cX7_odds 105 = .ok (.goto 6, 3) := by decide +kernel
theorem dX7_odds_108 : decode cX7_odds 108 = .ok (.iload 4, 2) := by decide +kernel
theorem dX7_odds_110 : decode cX7_odds 110 = .ok (.i2l, 1) := by decide +kernel
theorem dX7_odds_111 : decode cX7_odds 111 = .ok (.lreturn, 1) := by decide +kernel
set_option maxRecDepth 20000 in
theorem ggX7_sheet_X7_isSheet : GoodIn wsX7_sheet wsX7_isSheet := goodIn_r _ [6, 7, 8, 5, 9] (by decide +kernel) (by decide +kernel)
set_option maxRecDepth 20000 in
theorem gX7_sheet_X7_isSheet : GoodIn wsX7_sheet (va_wsS RX7 55 yX7_isSheet wsX7_isSheet) := goodIn_app (goodIn_of _ (by decide +kernel)) ggX7_sheet_X7_isSheet
set_option maxRecDepth 20000 in
theorem ggX7_sheet_X7_isLane : GoodIn wsX7_sheet wsX7_isLane := goodIn_r _ [12, 7, 8, 5, 9] (by decide +kernel) (by decide +kernel)
set_option maxRecDepth 20000 in
theorem gX7_sheet_X7_isLane : GoodIn wsX7_sheet (va_wsS RX7 59 yX7_isLane wsX7_isLane) := goodIn_app (goodIn_of _ (by decide +kernel)) ggX7_sheet_X7_isLane
set_option maxRecDepth 20000 in
theorem ggX7_sheet_X7_failed : GoodIn wsX7_sheet wsX7_failed := goodIn_r _ [16, 1, 32, 33, 34, 35, 36, 37, 38] (by decide +kernel) (by decide +kernel)
set_option maxRecDepth 20000 in
theorem gX7_sheet_X7_failed : GoodIn wsX7_sheet (wsV RX7 66 RX7 yX7_failed wsX7_failed) := goodIn_app (goodIn_of _ (by decide +kernel)) ggX7_sheet_X7_failed
set_option maxRecDepth 20000 in
theorem ggX7_sheet_X4_renew : GoodIn wsX7_sheet wsX4_renew := goodIn_r _ [21, 22, 23, 24, 25, 26, 27, 28, 29, 30, 31, 39, 40, 41] (by decide +kernel) (by decide +kernel)
set_option maxRecDepth 20000 in
theorem gX7_sheet_X4_renew : GoodIn wsX7_sheet (wsV RX7 197 RX4 yX4_renew wsX4_renew) := goodIn_app (goodIn_of _ (by decide +kernel)) ggX7_sheet_X4_renew
theorem dX7_sheet_0 : decode cX7_sheet 0 = .ok (.aload_n 0, 1) := by decide +kernel
theorem dX7_sheet_1 : decode cX7_sheet 1 = .ok (.iconst 0, 1) := by decide +kernel
theorem dX7_sheet_2 : decode cX7_sheet 2 = .ok (.putfield 52, 3) := by decide +kernel
theorem dX7_sheet_5 : decode cX7_sheet 5 = .ok (.iload_n 1, 1) := by decide +kernel
theorem dX7_sheet_6 : decode cX7_sheet 6 = .ok (.invokestatic 55, 3) := by decide +kernel
theorem dX7_sheet_9 : decode cX7_sheet 9 = .ok (.ifCond .ne 5, 3) := by decide +kernel
theorem dX7_sheet_12 : decode cX7_sheet 12 = .ok (.iconst (-1), 1) := by decide +kernel
theorem dX7_sheet_13 : decode cX7_sheet 13 = .ok (.ireturn, 1) := by decide +kernel
theorem dX7_sheet_14 : decode cX7_sheet 14 = .ok (.iload_n 2, 1) := by decide +kernel
theorem dX7_sheet_15 : decode cX7_sheet 15 = .ok (.invokestatic 59, 3) := by decide +kernel
theorem dX7_sheet_18 : decode cX7_sheet 18 = .ok (.ifCond .eq 9, 3) := by decide +kernel
theorem dX7_sheet_21 : decode cX7_sheet 21 = .ok (.iload_n 3, 1) := by decide +kernel
theorem dX7_sheet_22 : decode cX7_sheet 22 = .ok (.bipush 60, 2) := by decide +kernel
theorem dX7_sheet_24 : decode cX7_sheet 24 = .ok (.if_icmp .le 6, 3) := by decide +kernel
theorem dX7_sheet_27 : decode cX7_sheet 27 = .ok (.bipush (-2), 2) := by decide +kernel
theorem dX7_sheet_29 : decode cX7_sheet 29 = .ok (.ireturn, 1) := by decide +kernel
theorem dX7_sheet_30 : decode cX7_sheet 30 = .ok (.iload_n 3, 1) := by decide +kernel
theorem dX7_sheet_31 : decode cX7_sheet 31 = .ok (.ifCond .ge 9, 3) := by decide +kernel
theorem dX7_sheet_34 : decode cX7_sheet 34 = .ok (.aload_n 0, 1) := by decide +kernel
theorem dX7_sheet_35 : decode cX7_sheet 35 = .ok (.iconst 4, 1) := by decide +kernel
theorem dX7_sheet_36 : decode cX7_sheet 36 = .ok (.invokevirtual 66, 3) := by decide +kernel
theorem dX7_sheet_39 : decode cX7_sheet 39 = .ok (.ireturn, 1) := by decide +kernel
theorem dX7_sheet_40 : decode cX7_sheet 40 = .ok (.aload_n 0, 1) := by decide +kernel
theorem dX7_sheet_41 : decode cX7_sheet 41 = .ok (.getfield 43, 3) := by decide +kernel
theorem dX7_sheet_44 : decode cX7_sheet 44 = .ok (.iload_n 1, 1) := by decide +kernel
theorem dX7_sheet_45 : decode cX7_sheet 45 = .ok (.aaload, 1) := by decide +kernel
theorem dX7_sheet_46 : decode cX7_sheet 46 = .ok (.iload_n 2, 1) := by decide +kernel
theorem dX7_sheet_47 : decode cX7_sheet 47 = .ok (.iload_n 3, 1) := by decide +kernel
theorem dX7_sheet_48 : decode cX7_sheet 48 = .ok (.invokevirtual 197, 3) := by decide +kernel
theorem dX7_sheet_51 : decode cX7_sheet 51 = .ok (.iconst 1, 1) := by decide +kernel
theorem dX7_sheet_52 : decode cX7_sheet 52 = .ok (.ireturn, 1) := by decide +kernel
set_option maxRecDepth 20000 in
theorem ggX7_lose_X7_isSheet : GoodIn wsX7_lose wsX7_isSheet := goodIn_r _ [5, 6, 7, 4, 8] (by decide +kernel) (by decide +kernel)
set_option maxRecDepth 20000 in
theorem gX7_lose_X7_isSheet : GoodIn wsX7_lose (va_wsS RX7 55 yX7_isSheet wsX7_isSheet) := goodIn_app (goodIn_of _ (by decide +kernel)) ggX7_lose_X7_isSheet
set_option maxRecDepth 20000 in
theorem ggX7_lose_X4_hasNothing : GoodIn wsX7_lose wsX4_hasNothing := goodIn_r _ [13, 14, 27, 28, 29] (by decide +kernel) (by decide +kernel)
set_option maxRecDepth 20000 in
theorem gX7_lose_X4_hasNothing : GoodIn wsX7_lose (wsV RX7 201 RX4 yX4_hasNothing wsX4_hasNothing) := goodIn_app (goodIn_of _ (by decide +kernel)) ggX7_lose_X4_hasNothing
set_option maxRecDepth 20000 in
theorem ggX7_lose_X4_clear : GoodIn wsX7_lose wsX4_clear := goodIn_r _ [18, 14, 19, 27, 28, 29] (by decide +kernel) (by decide +kernel)
set_option maxRecDepth 20000 in
theorem gX7_lose_X4_clear : GoodIn wsX7_lose (wsV RX7 204 RX4 yX4_clear wsX4_clear) := goodIn_app (goodIn_of _ (by decide +kernel)) ggX7_lose_X4_clear
theorem dX7_lose_0 : decode cX7_lose 0 = .ok (.iload_n 1, 1) := by decide +kernel
theorem dX7_lose_1 : decode cX7_lose 1 = .ok (.invokestatic 55, 3) := by decide +kernel
theorem dX7_lose_4 : decode cX7_lose 4 = .ok (.ifCond .ne 5, 3) := by decide +kernel
theorem dX7_lose_7 : decode cX7_lose 7 = .ok (.iconst (-1), 1) := by decide +kernel
theorem dX7_lose_8 : decode cX7_lose 8 = .ok (.ireturn, 1) := by decide +kernel
theorem dX7_lose_9 : decode cX7_lose 9 = .ok (.aload_n 0, 1) := by decide +kernel
theorem dX7_lose_10 : decode cX7_lose 10 = .ok (.getfield 43, 3) := by decide +kernel
theorem dX7_lose_13 : decode cX7_lose 13 = .ok (.iload_n 1, 1) := by decide +kernel
theorem dX7_lose_14 : decode cX7_lose 14 = .ok (.aaload, 1) := by decide +kernel
theorem dX7_lose_15 : decode cX7_lose 15 = .ok (.invokevirtual 201, 3) := by decide +kernel
theorem dX7_lose_18 : decode cX7_lose 18 = .ok (.ifCond .eq 5, 3) := by decide +kernel
theorem dX7_lose_21 : decode cX7_lose 21 = .ok (.iconst 0, 1) := by decide +kernel
theorem dX7_lose_22 : decode cX7_lose 22 = .ok (.ireturn, 1) := by decide +kernel
theorem dX7_lose_23 : decode cX7_lose 23 = .ok (.aload_n 0, 1) := by decide +kernel
theorem dX7_lose_24 : decode cX7_lose 24 = .ok (.getfield 43, 3) := by decide +kernel
theorem dX7_lose_27 : decode cX7_lose 27 = .ok (.iload_n 1, 1) := by decide +kernel
theorem dX7_lose_28 : decode cX7_lose 28 = .ok (.aaload, 1) := by decide +kernel
theorem dX7_lose_29 : decode cX7_lose 29 = .ok (.invokevirtual 204, 3) := by decide +kernel
theorem dX7_lose_32 : decode cX7_lose 32 = .ok (.iconst 1, 1) := by decide +kernel
theorem dX7_lose_33 : decode cX7_lose 33 = .ok (.ireturn, 1) := by decide +kernel
set_option maxRecDepth 20000 in
theorem ggX7_put_X7_isSheet : GoodIn wsX7_put wsX7_isSheet := goodIn_r _ [6, 7, 8, 5, 9] (by decide +kernel) (by decide +kernel)
set_option maxRecDepth 20000 in
theorem gX7_put_X7_isSheet : GoodIn wsX7_put (va_wsS RX7 55 yX7_isSheet wsX7_isSheet) := goodIn_app (goodIn_of _ (by decide +kernel)) ggX7_put_X7_isSheet
set_option maxRecDepth 20000 in
theorem ggX7_put_X4_hasNothing : GoodIn wsX7_put wsX4_hasNothing := goodIn_r _ [14, 15, 41, 42, 43] (by decide +kernel) (by decide +kernel)
set_option maxRecDepth 20000 in
theorem gX7_put_X4_hasNothing : GoodIn wsX7_put (wsV RX7 201 RX4 yX4_hasNothing wsX4_hasNothing) := goodIn_app (goodIn_of _ (by decide +kernel)) ggX7_put_X4_hasNothing
set_option maxRecDepth 20000 in
theorem ggX7_put_X7_failed : GoodIn wsX7_put wsX7_failed := goodIn_r _ [19, 1, 34, 35, 36, 37, 38, 39, 40] (by decide +kernel) (by decide +kernel)
set_option maxRecDepth 20000 in
theorem gX7_put_X7_failed : GoodIn wsX7_put (wsV RX7 66 RX7 yX7_failed wsX7_failed) := goodIn_app (goodIn_of _ (by decide +kernel)) ggX7_put_X7_failed
set_option maxRecDepth 20000 in
theorem ggX7_put_X4_holds : GoodIn wsX7_put wsX4_holds := goodIn_r _ [23, 24, 41, 42, 43] (by decide +kernel) (by decide +kernel)
set_option maxRecDepth 20000 in
theorem gX7_put_X4_holds : GoodIn wsX7_put (wsV RX7 207 RX4 yX4_holds wsX4_holds) := goodIn_app (goodIn_of _ (by decide +kernel)) ggX7_put_X4_holds
set_option maxRecDepth 20000 in
theorem ggX7_put_X4_write : GoodIn wsX7_put wsX4_write := goodIn_r _ [28, 24, 29, 30, 31, 32, 13, 33, 15, 41, 42, 43] (by decide +kernel) (by decide +kernel)
set_option maxRecDepth 20000 in
theorem gX7_put_X4_write : GoodIn wsX7_put (wsV RX7 210 RX4 yX4_write wsX4_write) := goodIn_app (goodIn_of _ (by decide +kernel)) ggX7_put_X4_write
theorem dX7_put_0 : decode cX7_put 0 = .ok (.aload_n 0, 1) := by decide +kernel
theorem dX7_put_1 : decode cX7_put 1 = .ok (.iconst 0, 1) := by decide +kernel
theorem dX7_put_2 : decode cX7_put 2 = .ok (.putfield 52, 3) := by decide +kernel
theorem dX7_put_5 : decode cX7_put 5 = .ok (.iload_n 1, 1) := by decide +kernel
theorem dX7_put_6 : decode cX7_put 6 = .ok (.invokestatic 55, 3) := by decide +kernel
theorem dX7_put_9 : decode cX7_put 9 = .ok (.ifCond .ne 5, 3) := by decide +kernel
theorem dX7_put_12 : decode cX7_put 12 = .ok (.iconst (-1), 1) := by decide +kernel
theorem dX7_put_13 : decode cX7_put 13 = .ok (.ireturn, 1) := by decide +kernel
theorem dX7_put_14 : decode cX7_put 14 = .ok (.aload_n 0, 1) := by decide +kernel
theorem dX7_put_15 : decode cX7_put 15 = .ok (.getfield 43, 3) := by decide +kernel
theorem dX7_put_18 : decode cX7_put 18 = .ok (.iload_n 1, 1) := by decide +kernel
theorem dX7_put_19 : decode cX7_put 19 = .ok (.aaload, 1) := by decide +kernel
theorem dX7_put_20 : decode cX7_put 20 = .ok (.invokevirtual 201, 3) := by decide +kernel
theorem dX7_put_23 : decode cX7_put 23 = .ok (.ifCond .eq 9, 3) := by decide +kernel
theorem dX7_put_26 : decode cX7_put 26 = .ok (.aload_n 0, 1) := by decide +kernel
theorem dX7_put_27 : decode cX7_put 27 = .ok (.iconst 1, 1) := by decide +kernel
theorem dX7_put_28 : decode cX7_put 28 = .ok (.invokevirtual 66, 3) := by decide +kernel
theorem dX7_put_31 : decode cX7_put 31 = .ok (.ireturn, 1) := by decide +kernel
theorem dX7_put_32 : decode cX7_put 32 = .ok (.aload_n 0, 1) := by decide +kernel
theorem dX7_put_33 : decode cX7_put 33 = .ok (.getfield 43, 3) := by decide +kernel
theorem dX7_put_36 : decode cX7_put 36 = .ok (.iload_n 1, 1) := by decide +kernel
theorem dX7_put_37 : decode cX7_put 37 = .ok (.aaload, 1) := by decide +kernel
theorem dX7_put_38 : decode cX7_put 38 = .ok (.iload_n 2, 1) := by decide +kernel
theorem dX7_put_39 : decode cX7_put 39 = .ok (.iconst 1, 1) := by decide +kernel
theorem dX7_put_40 : decode cX7_put 40 = .ok (.invokevirtual 207, 3) := by decide +kernel
theorem dX7_put_43 : decode cX7_put 43 = .ok (.ifCond .ne 9, 3) := by decide +kernel
theorem dX7_put_46 : decode cX7_put 46 = .ok (.aload_n 0, 1) := by decide +kernel
theorem dX7_put_47 : decode cX7_put 47 = .ok (.iconst 3, 1) := by decide +kernel
theorem dX7_put_48 : decode cX7_put 48 = .ok (.invokevirtual 66, 3) := by decide +kernel
theorem dX7_put_51 : decode cX7_put 51 = .ok (.ireturn, 1) := by decide +kernel
theorem dX7_put_52 : decode cX7_put 52 = .ok (.aload_n 0, 1) := by decide +kernel
theorem dX7_put_53 : decode cX7_put 53 = .ok (.getfield 43, 3) := by decide +kernel
theorem dX7_put_56 : decode cX7_put 56 = .ok (.iload_n 1, 1) := by decide +kernel
theorem dX7_put_57 : decode cX7_put 57 = .ok (.aaload, 1) := by decide +kernel
theorem dX7_put_58 : decode cX7_put 58 = .ok (.iload_n 2, 1) := by decide +kernel
theorem dX7_put_59 : decode cX7_put 59 = .ok (.iload_n 3, 1) := by decide +kernel
theorem dX7_put_60 : decode cX7_put 60 = .ok (.invokevirtual 210, 3) := by decide +kernel
theorem dX7_put_63 : decode cX7_put 63 = .ok (.iconst 1, 1) := by decide +kernel
theorem dX7_put_64 : decode cX7_put 64 = .ok (.ireturn, 1) := by decide +kernel
set_option maxRecDepth 20000 in
theorem ggX7_cell_X7_isSheet : GoodIn wsX7_cell wsX7_isSheet := goodIn_r _ [7, 8, 9, 6, 10] (by decide +kernel) (by decide +kernel)
set_option maxRecDepth 20000 in
theorem gX7_cell_X7_isSheet : GoodIn wsX7_cell (va_wsS RX7 55 yX7_isSheet wsX7_isSheet) := goodIn_app (goodIn_of _ (by decide +kernel)) ggX7_cell_X7_isSheet
set_option maxRecDepth 20000 in
theorem ggX7_cell_X7_isLane : GoodIn wsX7_cell wsX7_isLane := goodIn_r _ [13, 8, 9, 6, 10] (by decide +kernel) (by decide +kernel)
set_option maxRecDepth 20000 in
theorem gX7_cell_X7_isLane : GoodIn wsX7_cell (va_wsS RX7 59 yX7_isLane wsX7_isLane) := goodIn_app (goodIn_of _ (by decide +kernel)) ggX7_cell_X7_isLane
set_option maxRecDepth 20000 in
theorem ggX7_cell_X4_faultOfTaking : GoodIn wsX7_cell wsX4_faultOfTaking := goodIn_r _ [18, 19, 20, 21, 22, 17, 23, 24, 25, 26, 27, 28, 41, 42, 43] (by decide +kernel) (by decide +kernel)
set_option maxRecDepth 20000 in
theorem gX7_cell_X4_faultOfTaking : GoodIn wsX7_cell (wsV RX7 62 RX4 yX4_faultOfTaking wsX4_faultOfTaking) := goodIn_app (goodIn_of _ (by decide +kernel)) ggX7_cell_X4_faultOfTaking
set_option maxRecDepth 20000 in
theorem ggX7_cell_X4_at : GoodIn wsX7_cell wsX4_at := goodIn_r _ [32, 28, 33, 41, 42, 43] (by decide +kernel) (by decide +kernel)
set_option maxRecDepth 20000 in
theorem gX7_cell_X4_at : GoodIn wsX7_cell (wsV RX7 213 RX4 yX4_at wsX4_at) := goodIn_app (goodIn_of _ (by decide +kernel)) ggX7_cell_X4_at
theorem dX7_cell_0 : decode cX7_cell 0 = .ok (.aload_n 0, 1) := by decide +kernel
theorem dX7_cell_1 : decode cX7_cell 1 = .ok (.iconst 0, 1) := by decide +kernel
theorem dX7_cell_2 : decode cX7_cell 2 = .ok (.putfield 52, 3) := by decide +kernel
theorem dX7_cell_5 : decode cX7_cell 5 = .ok (.iload_n 1, 1) := by decide +kernel
theorem dX7_cell_6 : decode cX7_cell 6 = .ok (.invokestatic 55, 3) := by decide +kernel
theorem dX7_cell_9 : decode cX7_cell 9 = .ok (.ifCond .eq 10, 3) := by decide +kernel
theorem dX7_cell_12 : decode cX7_cell 12 = .ok (.iload_n 3, 1) := by decide +kernel
theorem dX7_cell_13 : decode cX7_cell 13 = .ok (.invokestatic 59, 3) := by decide +kernel
theorem dX7_cell_16 : decode cX7_cell 16 = .ok (.ifCond .ne 7, 3) := by decide +kernel
theorem dX7_cell_19 : decode cX7_cell 19 = .ok (.ldc2_w 187, 3) := by decide +kernel
theorem dX7_cell_22 : decode cX7_cell 22 = .ok (.lreturn, 1) := by decide +kernel
theorem dX7_cell_23 : decode cX7_cell 23 = .ok (.aload_n 0, 1) := by decide +kernel
theorem dX7_cell_24 : decode cX7_cell 24 = .ok (.aload_n 0, 1) := by decide +kernel
theorem dX7_cell_25 : decode cX7_cell 25 = .ok (.getfield 43, 3) := by decide +kernel
theorem dX7_cell_28 : decode cX7_cell 28 = .ok (.iload_n 1, 1) := by decide +kernel
theorem dX7_cell_29 : decode cX7_cell 29 = .ok (.aaload, 1) := by decide +kernel
theorem dX7_cell_30 : decode cX7_cell 30 = .ok (.iload_n 3, 1) := by decide +kernel
theorem dX7_cell_31 : decode cX7_cell 31 = .ok (.iload_n 2, 1) := by decide +kernel
theorem dX7_cell_32 : decode cX7_cell 32 = .ok (.iconst 1, 1) := by decide +kernel
theorem dX7_cell_33 : decode cX7_cell 33 = .ok (.invokevirtual 62, 3) := by decide +kernel
theorem dX7_cell_36 : decode cX7_cell 36 = .ok (.putfield 52, 3) := by decide +kernel
theorem dX7_cell_39 : decode cX7_cell 39 = .ok (.aload_n 0, 1) := by decide +kernel
theorem dX7_cell_40 : decode cX7_cell 40 = .ok (.getfield 52, 3) := by decide +kernel
theorem dX7_cell_43 : decode cX7_cell 43 = .ok (.ifCond .ne 17, 3) := by decide +kernel
theorem dX7_cell_46 : decode cX7_cell 46 = .ok (.aload_n 0, 1) := by decide +kernel
theorem dX7_cell_47 : decode cX7_cell 47 = .ok (.getfield 43, 3) := by decide +kernel
theorem dX7_cell_50 : decode cX7_cell 50 = .ok (.iload_n 1, 1) := by decide +kernel
theorem dX7_cell_51 : decode cX7_cell 51 = .ok (.aaload, 1) := by decide +kernel
theorem dX7_cell_52 : decode cX7_cell 52 = .ok (.iload_n 2, 1) := by decide +kernel
theorem dX7_cell_53 : decode cX7_cell 53 = .ok (.invokevirtual 213, 3) := by decide +kernel
theorem dX7_cell_56 : decode cX7_cell 56 = .ok (.i2l, 1) := by decide +kernel
theorem dX7_cell_57 : decode cX7_cell 57 = .ok (.goto 6, 3) := by decide +kernel
theorem dX7_cell_60 : decode cX7_cell 60 = .ok (.ldc2_w 187, 3) := by decide +kernel
theorem dX7_cell_63 : decode cX7_cell 63 = .ok (.lreturn, 1) := by decide +kernel
set_option maxRecDepth 20000 in
theorem ggX7_copy_X7_isSheet : GoodIn wsX7_copy wsX7_isSheet := goodIn_r _ [12, 13, 14, 11, 15] (by decide +kernel) (by decide +kernel)
set_option maxRecDepth 20000 in
theorem gX7_copy_X7_isSheet : GoodIn wsX7_copy (va_wsS RX7 55 yX7_isSheet wsX7_isSheet) := goodIn_app (goodIn_of _ (by decide +kernel)) ggX7_copy_X7_isSheet
set_option maxRecDepth 20000 in
theorem ggX7_copy_X4_hasNothing : GoodIn wsX7_copy wsX4_hasNothing := goodIn_r _ [20, 21, 38, 39, 40] (by decide +kernel) (by decide +kernel)
set_option maxRecDepth 20000 in
theorem gX7_copy_X4_hasNothing : GoodIn wsX7_copy (wsV RX7 201 RX4 yX4_hasNothing wsX4_hasNothing) := goodIn_app (goodIn_of _ (by decide +kernel)) ggX7_copy_X4_hasNothing
set_option maxRecDepth 20000 in
theorem ggX7_copy_X7_failed : GoodIn wsX7_copy wsX7_failed := goodIn_r _ [25, 1, 31, 32, 33, 34, 35, 36, 37] (by decide +kernel) (by decide +kernel)
set_option maxRecDepth 20000 in
theorem gX7_copy_X7_failed : GoodIn wsX7_copy (wsV RX7 66 RX7 yX7_failed wsX7_failed) := goodIn_app (goodIn_of _ (by decide +kernel)) ggX7_copy_X7_failed
set_option maxRecDepth 20000 in
theorem ggX7_copy_X4_holds : GoodIn wsX7_copy wsX4_holds := goodIn_r _ [29, 30, 38, 39, 40] (by decide +kernel) (by decide +kernel)
set_option maxRecDepth 20000 in
theorem gX7_copy_X4_holds : GoodIn wsX7_copy (wsV RX7 207 RX4 yX4_holds wsX4_holds) := goodIn_app (goodIn_of _ (by decide +kernel)) ggX7_copy_X4_holds
theorem dX7_copy_0 : decode cX7_copy 0 = .ok (.aload_n 0, 1) := by decide +kernel
theorem dX7_copy_1 : decode cX7_copy 1 = .ok (.iconst 0, 1) := by decide +kernel
theorem dX7_copy_2 : decode cX7_copy 2 = .ok (.putfield 52, 3) := by decide +kernel
theorem dX7_copy_5 : decode cX7_copy 5 = .ok (.iload_n 1, 1) := by decide +kernel
theorem dX7_copy_6 : decode cX7_copy 6 = .ok (.invokestatic 55, 3) := by decide +kernel
theorem dX7_copy_9 : decode cX7_copy 9 = .ok (.ifCond .eq 10, 3) := by decide +kernel
theorem dX7_copy_12 : decode cX7_copy 12 = .ok (.iload_n 3, 1) := by decide +kernel
theorem dX7_copy_13 : decode cX7_copy 13 = .ok (.invokestatic 55, 3) := by decide +kernel
theorem dX7_copy_16 : decode cX7_copy 16 = .ok (.ifCond .ne 5, 3) := by decide +kernel
theorem dX7_copy_19 : decode cX7_copy 19 = .ok (.iconst (-1), 1) := by decide +kernel
theorem dX7_copy_20 : decode cX7_copy 20 = .ok (.ireturn, 1) := by decide +kernel
theorem dX7_copy_21 : decode cX7_copy 21 = .ok (.aload_n 0, 1) := by decide +kernel
theorem dX7_copy_22 : decode cX7_copy 22 = .ok (.getfield 43, 3) := by decide +kernel
theorem dX7_copy_25 : decode cX7_copy 25 = .ok (.iload_n 1, 1) := by decide +kernel
theorem dX7_copy_26 : decode cX7_copy 26 = .ok (.aaload, 1) := by decide +kernel
theorem dX7_copy_27 : decode cX7_copy 27 = .ok (.astore 6, 2) := by decide +kernel
theorem dX7_copy_29 : decode cX7_copy 29 = .ok (.aload_n 0, 1) := by decide +kernel
theorem dX7_copy_30 : decode cX7_copy 30 = .ok (.getfield 43, 3) := by decide +kernel
theorem dX7_copy_33 : decode cX7_copy 33 = .ok (.iload_n 3, 1) := by decide +kernel
theorem dX7_copy_34 : decode cX7_copy 34 = .ok (.aaload, 1) := by decide +kernel
theorem dX7_copy_35 : decode cX7_copy 35 = .ok (.astore 7, 2) := by decide +kernel
theorem dX7_copy_37 : decode cX7_copy 37 = .ok (.aload 6, 2) := by decide +kernel
theorem dX7_copy_39 : decode cX7_copy 39 = .ok (.invokevirtual 201, 3) := by decide +kernel
theorem dX7_copy_42 : decode cX7_copy 42 = .ok (.ifCond .ne 11, 3) := by decide +kernel
theorem dX7_copy_45 : decode cX7_copy 45 = .ok (.aload 7, 2) := by decide +kernel
theorem dX7_copy_47 : decode cX7_copy 47 = .ok (.invokevirtual 201, 3) := by decide +kernel
theorem dX7_copy_50 : decode cX7_copy 50 = .ok (.ifCond .eq 9, 3) := by decide +kernel
theorem dX7_copy_53 : decode cX7_copy 53 = .ok (.aload_n 0, 1) := by decide +kernel
theorem dX7_copy_54 : decode cX7_copy 54 = .ok (.iconst 1, 1) := by decide +kernel
theorem dX7_copy_55 : decode cX7_copy 55 = .ok (.invokevirtual 66, 3) := by decide +kernel
theorem dX7_copy_58 : decode cX7_copy 58 = .ok (.ireturn, 1) := by decide +kernel
theorem dX7_copy_59 : decode cX7_copy 59 = .ok (.aload 6, 2) := by decide +kernel
theorem dX7_copy_61 : decode cX7_copy 61 = .ok (.getfield 216, 3) := by decide +kernel
theorem dX7_copy_64 : decode cX7_copy 64 = .ok (.aload 7, 2) := by decide +kernel
theorem dX7_copy_66 : decode cX7_copy 66 = .ok (.getfield 216, 3) := by decide +kernel
theorem dX7_copy_69 : decode cX7_copy 69 = .ok (.if_icmp .eq 9, 3) := by decide +kernel
theorem dX7_copy_72 : decode cX7_copy 72 = .ok (.aload_n 0, 1) := by decide +kernel
theorem dX7_copy_73 : decode cX7_copy 73 = .ok (.iconst 2, 1) := by decide +kernel
theorem dX7_copy_74 : decode cX7_copy 74 = .ok (.invokevirtual 66, 3) := by decide +kernel
theorem dX7_copy_77 : decode cX7_copy 77 = .ok (.ireturn, 1) := by decide +kernel
theorem dX7_copy_78 : decode cX7_copy 78 = .ok (.aload 6, 2) := by decide +kernel
theorem dX7_copy_80 : decode cX7_copy 80 = .ok (.iload_n 2, 1) := by decide +kernel
theorem dX7_copy_81 : decode cX7_copy 81 = .ok (.iload 5, 2) := by decide +kernel
theorem dX7_copy_83 : decode cX7_copy 83 = .ok (.invokevirtual 207, 3) := by decide +kernel
theorem dX7_copy_86 : decode cX7_copy 86 = .ok (.ifCond .eq 15, 3) := by decide +kernel
theorem dX7_copy_89 : decode cX7_copy 89 = .ok (.aload 7, 2) := by decide +kernel
theorem dX7_copy_91 : decode cX7_copy 91 = .ok (.iload 4, 2) := by decide +kernel
theorem dX7_copy_93 : decode cX7_copy 93 = .ok (.iload 5, 2) := by decide +kernel
theorem dX7_copy_95 : decode cX7_copy 95 = .ok (.invokevirtual 207, 3) := by decide +kernel
theorem dX7_copy_98 : decode cX7_copy 98 = .ok (.ifCond .ne 9, 3) := by decide +kernel
theorem dX7_copy_101 : decode cX7_copy 101 = .ok (.aload_n 0, 1) := by decide +kernel
theorem dX7_copy_102 : decode cX7_copy 102 = .ok (.iconst 3, 1) := by decide +kernel
theorem dX7_copy_103 : decode cX7_copy 103 = .ok (.invokevirtual 66, 3) := by decide +kernel
theorem dX7_copy_106 : decode cX7_copy 106 = .ok (.ireturn, 1) := by decide +kernel
theorem dX7_copy_107 : decode cX7_copy 107 = .ok (.aload 6, 2) := by decide +kernel
theorem dX7_copy_109 : decode cX7_copy 109 = .ok (.getfield 219, 3) := by decide +kernel
theorem dX7_copy_112 : decode cX7_copy 112 = .ok (.iload_n 2, 1) := by decide +kernel
theorem dX7_copy_113 : decode cX7_copy 113 = .ok (.aload 7, 2) := by decide +kernel
theorem dX7_copy_115 : decode cX7_copy 115 = .ok (.getfield 219, 3) := by decide +kernel
theorem dX7_copy_118 : decode cX7_copy 118 = .ok (.iload 4, 2) := by decide +kernel
theorem dX7_copy_120 : decode cX7_copy 120 = .ok (.iload 5, 2) := by decide +kernel
theorem dX7_copy_122 : decode cX7_copy 122 = .ok (.invokestatic 222, 3) := by decide +kernel
theorem dX7_copy_125 : decode cX7_copy 125 = .ok (.iload 5, 2) := by decide +kernel
theorem dX7_copy_127 : decode cX7_copy 127 = .ok (.ireturn, 1) := by decide +kernel
set_option maxRecDepth 20000 in
theorem ggX7_tell_X1_isArticle : GoodIn wsX7_tell wsX1_isArticle := goodIn_r _ [8, 9, 36, 37, 38, 39, 40, 41] (by decide +kernel) (by decide +kernel)
set_option maxRecDepth 20000 in
theorem gX7_tell_X1_isArticle : GoodIn wsX7_tell (wsV RX7 86 RX1 yX1_isArticle wsX1_isArticle) := goodIn_app (goodIn_of _ (by decide +kernel)) ggX7_tell_X1_isArticle
set_option maxRecDepth 20000 in
theorem ggX7_tell_X7_tellAsPerson : GoodIn wsX7_tell wsX7_tellAsPerson := goodIn_r _ [14, 15, 16, 17, 13, 18, 19, 20, 21, 22, 23, 24, 25, 26, 27, 28, 29, 30, 31, 32, 33, 34, 35, 42, 43, 44, 45] (by decide +kernel) (by decide +kernel)
set_option maxRecDepth 20000 in
theorem gX7_tell_X7_tellAsPerson : GoodIn wsX7_tell (wsV RX7 228 RX7 yX7_tellAsPerson wsX7_tellAsPerson) := goodIn_app (goodIn_of _ (by decide +kernel)) ggX7_tell_X7_tellAsPerson
set_option maxRecDepth 20000 in
theorem ggX7_tell_X7_tellAsBeast : GoodIn wsX7_tell wsX7_tellAsBeast := goodIn_r _ [23, 15, 16, 17, 13, 18, 19, 24, 25, 26, 27, 28, 29, 30, 31, 32, 33, 34, 35, 42, 43, 44, 45] (by decide +kernel) (by decide +kernel)
set_option maxRecDepth 20000 in
theorem gX7_tell_X7_tellAsBeast : GoodIn wsX7_tell (wsV RX7 232 RX7 yX7_tellAsBeast wsX7_tellAsBeast) := goodIn_app (goodIn_of _ (by decide +kernel)) ggX7_tell_X7_tellAsBeast
set_option maxRecDepth 20000 in
theorem ggX7_tell_X7_tellAsThing : GoodIn wsX7_tell wsX7_tellAsThing := goodIn_r _ [27, 28, 15, 16, 17, 13, 18, 19, 42, 43, 44, 45, 29, 30, 31, 32, 33, 34, 35] (by decide +kernel) (by decide +kernel)
set_option maxRecDepth 20000 in
theorem gX7_tell_X7_tellAsThing : GoodIn wsX7_tell (wsV RX7 235 RX7 yX7_tellAsThing wsX7_tellAsThing) := goodIn_app (goodIn_of _ (by decide +kernel)) ggX7_tell_X7_tellAsThing
theorem dX7_tell_0 : decode cX7_tell 0 = .ok (.aload_n 0, 1) := by decide +kernel
theorem dX7_tell_1 : decode cX7_tell 1 = .ok (.getfield 12, 3) := by decide +kernel
theorem dX7_tell_4 : decode cX7_tell 4 = .ok (.iload_n 1, 1) := by decide +kernel
theorem dX7_tell_5 : decode cX7_tell 5 = .ok (.invokevirtual 86, 3) := by decide +kernel
theorem dX7_tell_8 : decode cX7_tell 8 = .ok (.ifCond .ne 5, 3) := by decide +kernel
theorem dX7_tell_11 : decode cX7_tell 11 = .ok (.iconst (-1), 1) := by decide +kernel
theorem dX7_tell_12 : decode cX7_tell 12 = .ok (.ireturn, 1) := by decide +kernel
theorem dX7_tell_13 : decode cX7_tell 13 = .ok (.aload_n 0, 1) := by decide +kernel
theorem dX7_tell_14 : decode cX7_tell 14 = .ok (.getfield 12, 3) := by decide +kernel
theorem dX7_tell_17 : decode cX7_tell 17 = .ok (.getfield 89, 3) := by decide +kernel
theorem dX7_tell_20 : decode cX7_tell 20 = .ok (.iload_n 1, 1) := by decide +kernel
theorem dX7_tell_21 : decode cX7_tell 21 = .ok (.aaload, 1) := by decide +kernel
theorem dX7_tell_22 : decode cX7_tell 22 = .ok (.astore_n 2, 1) := by decide +kernel
theorem dX7_tell_23 : decode cX7_tell 23 = .ok (.aload_n 2, 1) := by decide +kernel
theorem dX7_tell_24 : decode cX7_tell 24 = .ok (.getfield 93, 3) := by decide +kernel
theorem dX7_tell_27 : decode cX7_tell 27 = .ok (.lookupswitch 37 #[(1, 31), (2, 25)], 25) := by decide +kernel
theorem dX7_tell_52 : decode cX7_tell 52 = .ok (.aload_n 0, 1) := by decide +kernel
theorem dX7_tell_53 : decode cX7_tell 53 = .ok (.aload_n 2, 1) := by decide +kernel
theorem dX7_tell_54 : decode cX7_tell 54 = .ok (.invokevirtual 228, 3) := by decide +kernel
theorem dX7_tell_57 : decode cX7_tell 57 = .ok (.ireturn, 1) := by decide +kernel
theorem dX7_tell_58 : decode cX7_tell 58 = .ok (.aload_n 0, 1) := by decide +kernel
theorem dX7_tell_59 : decode cX7_tell 59 = .ok (.aload_n 2, 1) := by decide +kernel
theorem dX7_tell_60 : decode cX7_tell 60 = .ok (.invokevirtual 232, 3) := by decide +kernel
theorem dX7_tell_63 : decode cX7_tell 63 = .ok (.ireturn, 1) := by decide +kernel
theorem dX7_tell_64 : decode cX7_tell 64 = .ok (.aload_n 0, 1) := by decide +kernel
theorem dX7_tell_65 : decode cX7_tell 65 = .ok (.aload_n 2, 1) := by decide +kernel
theorem dX7_tell_66 : decode cX7_tell 66 = .ok (.invokevirtual 235, 3) := by decide +kernel
theorem dX7_tell_69 : decode cX7_tell 69 = .ok (.ireturn, 1) := by decide +kernel
set_option maxRecDepth 20000 in
theorem ggX7_announce_X1_isArticle : GoodIn wsX7_announce wsX1_isArticle := goodIn_r _ [8, 9, 23, 24, 25, 26, 27, 28] (by decide +kernel) (by decide +kernel)
set_option maxRecDepth 20000 in
theorem gX7_announce_X1_isArticle : GoodIn wsX7_announce (wsV RX7 86 RX1 yX1_isArticle wsX1_isArticle) := goodIn_app (goodIn_of _ (by decide +kernel)) ggX7_announce_X1_isArticle
set_option maxRecDepth 20000 in
theorem ggX7_announce_X7_begin : GoodIn wsX7_announce wsX7_begin := goodIn_r _ [14, 15, 16, 17, 18, 19, 20, 21, 22] (by decide +kernel) (by decide +kernel)
set_option maxRecDepth 20000 in
theorem gX7_announce_X7_begin : GoodIn wsX7_announce (wsV RX7 238 RX7 yX7_begin wsX7_begin) := goodIn_app (goodIn_of _ (by decide +kernel)) ggX7_announce_X7_begin
theorem dX7_announce_0 : decode cX7_announce 0 = .ok (.aload_n 0, 1) := by decide +kernel
theorem dX7_announce_1 : decode cX7_announce 1 = .ok (.getfield 12, 3) := by decide +kernel
theorem dX7_announce_4 : decode cX7_announce 4 = .ok (.iload_n 1, 1) := by decide +kernel
theorem dX7_announce_5 : decode cX7_announce 5 = .ok (.invokevirtual 86, 3) := by decide +kernel
theorem dX7_announce_8 : decode cX7_announce 8 = .ok (.ifCond .ne 5, 3) := by decide +kernel
theorem dX7_announce_11 : decode cX7_announce 11 = .ok (.iconst (-1), 1) := by decide +kernel
theorem dX7_announce_12 : decode cX7_announce 12 = .ok (.ireturn, 1) := by decide +kernel
theorem dX7_announce_13 : decode cX7_announce 13 = .ok (.aload_n 0, 1) := by decide +kernel
theorem dX7_announce_14 : decode cX7_announce 14 = .ok (.getfield 12, 3) := by decide +kernel
theorem dX7_announce_17 : decode cX7_announce 17 = .ok (.getfield 89, 3) := by decide +kernel
theorem dX7_announce_20 : decode cX7_announce 20 = .ok (.iload_n 1, 1) := by decide +kernel
theorem dX7_announce_21 : decode cX7_announce 21 = .ok (.aaload, 1) := by decide +kernel
theorem dX7_announce_22 : decode cX7_announce 22 = .ok (.getfield 93, 3) := by decide +kernel
theorem dX7_announce_25 : decode cX7_announce 25 = .ok (.iconst 2, 1) := by decide +kernel
theorem dX7_announce_26 : decode cX7_announce 26 = .ok (.if_icmp .ne 11, 3) := by decide +kernel
theorem dX7_announce_29 : decode cX7_announce 29 = .ok (.aload_n 0, 1) := by decide +kernel
theorem dX7_announce_30 : decode cX7_announce 30 = .ok (.iconst 5, 1) := by decide +kernel
theorem dX7_announce_31 : decode cX7_announce 31 = .ok (.invokevirtual 238, 3) := by decide +kernel
theorem dX7_announce_34 : decode cX7_announce 34 = .ok (.bipush 80, 2) := by decide +kernel
theorem dX7_announce_36 : decode cX7_announce 36 = .ok (.ireturn, 1) := by decide +kernel
theorem dX7_announce_37 : decode cX7_announce 37 = .ok (.aload_n 0, 1) := by decide +kernel
theorem dX7_announce_38 : decode cX7_announce 38 = .ok (.iconst 4, 1) := by decide +kernel
theorem dX7_announce_39 : decode cX7_announce 39 = .ok (.invokevirtual 238, 3) := by decide +kernel
theorem dX7_announce_42 : decode cX7_announce 42 = .ok (.iload_n 1, 1) := by decide +kernel
theorem dX7_announce_43 : decode cX7_announce 43 = .ok (.ireturn, 1) := by decide +kernel
set_option maxRecDepth 20000 in
theorem ggX7_as_X1_isArticle : GoodIn wsX7_as wsX1_isArticle := goodIn_r _ [9, 10, 26, 27, 28, 29, 30, 31] (by decide +kernel) (by decide +kernel)
set_option maxRecDepth 20000 in
theorem gX7_as_X1_isArticle : GoodIn wsX7_as (wsV RX7 86 RX1 yX1_isArticle wsX1_isArticle) := goodIn_app (goodIn_of _ (by decide +kernel)) ggX7_as_X1_isArticle
set_option maxRecDepth 20000 in
theorem ggX7_as_X7_within : GoodIn wsX7_as wsX7_within := goodIn_r _ [14] (by decide +kernel) (by decide +kernel)
set_option maxRecDepth 20000 in
theorem gX7_as_X7_within : GoodIn wsX7_as (va_wsS RX7 125 yX7_within wsX7_within) := goodIn_app (goodIn_of _ (by decide +kernel)) ggX7_as_X7_within
set_option maxRecDepth 20000 in
theorem ggX7_as_X7_failed : GoodIn wsX7_as wsX7_failed := goodIn_r _ [18, 1, 19, 20, 21, 22, 23, 24, 25] (by decide +kernel) (by decide +kernel)
set_option maxRecDepth 20000 in
theorem gX7_as_X7_failed : GoodIn wsX7_as (wsV RX7 66 RX7 yX7_failed wsX7_failed) := goodIn_app (goodIn_of _ (by decide +kernel)) ggX7_as_X7_failed
theorem dX7_as_0 : decode cX7_as 0 = .ok (.aload_n 0, 1) := by decide +kernel
theorem dX7_as_1 : decode cX7_as 1 = .ok (.iconst 0, 1) := by decide +kernel
theorem dX7_as_2 : decode cX7_as 2 = .ok (.putfield 52, 3) := by decide +kernel
theorem dX7_as_5 : decode cX7_as 5 = .ok (.aload_n 0, 1) := by decide +kernel
theorem dX7_as_6 : decode cX7_as 6 = .ok (.getfield 12, 3) := by decide +kernel
theorem dX7_as_9 : decode cX7_as 9 = .ok (.iload_n 1, 1) := by decide +kernel
theorem dX7_as_10 : decode cX7_as 10 = .ok (.invokevirtual 86, 3) := by decide +kernel
theorem dX7_as_13 : decode cX7_as 13 = .ok (.ifCond .ne 5, 3) := by decide +kernel
theorem dX7_as_16 : decode cX7_as 16 = .ok (.iconst (-1), 1) := by decide +kernel
theorem dX7_as_17 : decode cX7_as 17 = .ok (.ireturn, 1) := by decide +kernel
theorem dX7_as_18 : decode cX7_as 18 = .ok (.iload_n 2, 1) := by decide +kernel
theorem dX7_as_19 : decode cX7_as 19 = .ok (.iconst 0, 1) := by decide +kernel
theorem dX7_as_20 : decode cX7_as 20 = .ok (.iconst 2, 1) := by decide +kernel
theorem dX7_as_21 : decode cX7_as 21 = .ok (.invokestatic 125, 3) := by decide +kernel
theorem dX7_as_24 : decode cX7_as 24 = .ok (.ifCond .ne 6, 3) := by decide +kernel
theorem dX7_as_27 : decode cX7_as 27 = .ok (.bipush (-2), 2) := by decide +kernel
theorem dX7_as_29 : decode cX7_as 29 = .ok (.ireturn, 1) := by decide +kernel
theorem dX7_as_30 : decode cX7_as 30 = .ok (.iload_n 2, 1) := by decide +kernel
theorem dX7_as_31 : decode cX7_as 31 = .ok (.aload_n 0, 1) := by decide +kernel
theorem dX7_as_32 : decode cX7_as 32 = .ok (.getfield 12, 3) := by decide +kernel
theorem dX7_as_35 : decode cX7_as 35 = .ok (.getfield 89, 3) := by decide +kernel
theorem dX7_as_38 : decode cX7_as 38 = .ok (.iload_n 1, 1) := by decide +kernel
theorem dX7_as_39 : decode cX7_as 39 = .ok (.aaload, 1) := by decide +kernel
theorem dX7_as_40 : decode cX7_as 40 = .ok (.getfield 93, 3) := by decide +kernel
theorem dX7_as_43 : decode cX7_as 43 = .ok (.if_icmp .gt 7, 3) := by decide +kernel
theorem dX7_as_46 : decode cX7_as 46 = .ok (.iconst 1, 1) := by decide +kernel
theorem dX7_as_47 : decode cX7_as 47 = .ok (.goto 8, 3) := by decide +kernel
theorem dX7_as_50 : decode cX7_as 50 = .ok (.aload_n 0, 1) := by decide +kernel
theorem dX7_as_51 : decode cX7_as 51 = .ok (.iconst 2, 1) := by decide +kernel
theorem dX7_as_52 : decode cX7_as 52 = .ok (.invokevirtual 66, 3) := by decide +kernel
theorem dX7_as_55 : decode cX7_as 55 = .ok (.ireturn, 1) := by decide +kernel
theorem dX7_trace_0 : decode cX7_trace 0 = .ok (.aload_n 0, 1) := by decide +kernel
theorem dX7_trace_1 : decode cX7_trace 1 = .ok (.getfield 48, 3) := by decide +kernel
theorem dX7_trace_4 : decode cX7_trace 4 = .ok (.ireturn, 1) := by decide +kernel
theorem dX7_fault_0 : decode cX7_fault 0 = .ok (.aload_n 0, 1) := by decide +kernel
theorem dX7_fault_1 : decode cX7_fault 1 = .ok (.getfield 52, 3) := by decide +kernel
theorem dX7_fault_4 : decode cX7_fault 4 = .ok (.ireturn, 1) := by decide +kernel
set_option maxRecDepth 20000 in
theorem ggX7_many_J6_bitCount_0f7a4 : GoodIn wsX7_many wsJ6_bitCount_0f7a4 := goodIn_r _ [11, 12, 13, 14] (by decide +kernel) (by decide +kernel)
set_option maxRecDepth 20000 in
theorem gX7_many_J6_bitCount_0f7a4 : GoodIn wsX7_many (va_wsS RX7 192 yJ6_bitCount_0f7a4 wsJ6_bitCount_0f7a4) := goodIn_app (goodIn_of _ (by decide +kernel)) ggX7_many_J6_bitCount_0f7a4
theorem dX7_many_0 : decode cX7_many 0 = .ok (.iload_n 1, 1) := by decide +kernel
theorem dX7_many_1 : decode cX7_many 1 = .ok (.tableswitch 78 0 4 #[35, 43, 51, 62, 70], 35) := by decide +kernel
theorem dX7_many_36 : decode cX7_many 36 = .ok (.aload_n 0, 1) := by decide +kernel
theorem dX7_many_37 : decode cX7_many 37 = .ok (.getfield 12, 3) := by decide +kernel
theorem dX7_many_40 : decode cX7_many 40 = .ok (.getfield 83, 3) := by decide +kernel
theorem dX7_many_43 : decode cX7_many 43 = .ok (.ireturn, 1) := by decide +kernel
theorem dX7_many_44 : decode cX7_many 44 = .ok (.aload_n 0, 1) := by decide +kernel
theorem dX7_many_45 : decode cX7_many 45 = .ok (.getfield 12, 3) := by decide +kernel
theorem dX7_many_48 : decode cX7_many 48 = .ok (.getfield 241, 3) := by decide +kernel
theorem dX7_many_51 : decode cX7_many 51 = .ok (.ireturn, 1) := by decide +kernel
theorem dX7_many_52 : decode cX7_many 52 = .ok (.aload_n 0, 1) := by decide +kernel
theorem dX7_many_53 : decode cX7_many 53 = .ok (.getfield 12, 3) := by decide +kernel
theorem dX7_many_56 : decode cX7_many 56 = .ok (.getfield 111, 3) := by decide +kernel
theorem dX7_many_59 : decode cX7_many 59 = .ok (.invokestatic 192, 3) := by decide +kernel
theorem dX7_many_62 : decode cX7_many 62 = .ok (.ireturn, 1) := by decide +kernel
theorem dX7_many_63 : decode cX7_many 63 = .ok (.aload_n 0, 1) := by decide +kernel
theorem dX7_many_64 : decode cX7_many 64 = .ok (.getfield 12, 3) := by decide +kernel
theorem dX7_many_67 : decode cX7_many 67 = .ok (.getfield 136, 3) := by decide +kernel
theorem dX7_many_70 : decode cX7_many 70 = .ok (.ireturn, 1) := by decide +kernel
theorem dX7_many_71 : decode cX7_many 71 = .ok (.aload_n 0, 1) := by decide +kernel
theorem dX7_many_72 : decode cX7_many 72 = .ok (.getfield 21, 3) := by decide +kernel
theorem dX7_many_75 : decode cX7_many 75 = .ok (.getfield 80, 3) := by decide +kernel
theorem dX7_many_78 : decode cX7_many 78 = .ok (.ireturn, 1) := by decide +kernel
theorem dX7_many_79 : decode cX7_many 79 = .ok (.bipush (-2), 2) := by decide +kernel
theorem dX7_many_81 : decode cX7_many 81 = .ok (.ireturn, 1) := by decide +kernel
set_option maxRecDepth 20000 in
theorem ggX7_tellAsThing_X7_begin : GoodIn wsX7_tellAsThing wsX7_begin := goodIn_r _ [6, 7, 12, 13, 14, 15, 16, 17, 18] (by decide +kernel) (by decide +kernel)
set_option maxRecDepth 20000 in
theorem gX7_tellAsThing_X7_begin : GoodIn wsX7_tellAsThing (wsV RX7 238 RX7 yX7_begin wsX7_begin) := goodIn_app (goodIn_of _ (by decide +kernel)) ggX7_tellAsThing_X7_begin
theorem dX7_tellAsThing_0 : decode cX7_tellAsThing 0 = .ok (.aload_n 0, 1) := by decide +kernel
theorem dX7_tellAsThing_1 : decode cX7_tellAsThing 1 = .ok (.iconst 1, 1) := by decide +kernel
theorem dX7_tellAsThing_2 : decode cX7_tellAsThing 2 = .ok (.invokevirtual 238, 3) := by decide +kernel
theorem dX7_tellAsThing_5 : decode cX7_tellAsThing 5 = .ok (.aload_n 1, 1) := by decide +kernel
theorem dX7_tellAsThing_6 : decode cX7_tellAsThing 6 = .ok (.getfield 101, 3) := by decide +kernel
theorem dX7_tellAsThing_9 : decode cX7_tellAsThing 9 = .ok (.ireturn, 1) := by decide +kernel
set_option maxRecDepth 20000 in
theorem ggX7_tellAsBeast_X7_begin : GoodIn wsX7_tellAsBeast wsX7_begin := goodIn_r _ [5, 6, 12, 13, 14, 15, 16, 17, 18] (by decide +kernel) (by decide +kernel)
set_option maxRecDepth 20000 in
theorem gX7_tellAsBeast_X7_begin : GoodIn wsX7_tellAsBeast (wsV RX7 238 RX7 yX7_begin wsX7_begin) := goodIn_app (goodIn_of _ (by decide +kernel)) ggX7_tellAsBeast_X7_begin
set_option maxRecDepth 20000 in
theorem ggX7_tellAsBeast_X7_tellAsThing : GoodIn wsX7_tellAsBeast wsX7_tellAsThing := goodIn_r _ [10, 11, 1, 2, 3, 4, 5, 6, 19, 20, 21, 22, 12, 13, 14, 15, 16, 17, 18] (by decide +kernel) (by decide +kernel)
set_option maxRecDepth 20000 in
theorem gX7_tellAsBeast_X7_tellAsThing : GoodIn wsX7_tellAsBeast (wsV RX7 235 RX7 yX7_tellAsThing wsX7_tellAsThing) := goodIn_app (goodIn_of _ (by decide +kernel)) ggX7_tellAsBeast_X7_tellAsThing
theorem dX7_tellAsBeast_0 : decode cX7_tellAsBeast 0 = .ok (.aload_n 0, 1) := by decide +kernel
theorem dX7_tellAsBeast_1 : decode cX7_tellAsBeast 1 = .ok (.iconst 2, 1) := by decide +kernel
theorem dX7_tellAsBeast_2 : decode cX7_tellAsBeast 2 = .ok (.invokevirtual 238, 3) := by decide +kernel
theorem dX7_tellAsBeast_5 : decode cX7_tellAsBeast 5 = .ok (.aload_n 0, 1) := by decide +kernel
theorem dX7_tellAsBeast_6 : decode cX7_tellAsBeast 6 = .ok (.aload_n 1, 1) := by decide +kernel
theorem dX7_tellAsBeast_7 : decode cX7_tellAsBeast 7 = .ok (.invokevirtual 235, 3) := by decide +kernel
theorem dX7_tellAsBeast_10 : decode cX7_tellAsBeast 10 = .ok (.bipush 100, 2) := by decide +kernel
theorem dX7_tellAsBeast_12 : decode cX7_tellAsBeast 12 = .ok (.iadd, 1) := by decide +kernel
theorem dX7_tellAsBeast_13 : decode cX7_tellAsBeast 13 = .ok (.ireturn, 1) := by decide +kernel
set_option maxRecDepth 20000 in
theorem ggX7_tellAsPerson_X7_begin : GoodIn wsX7_tellAsPerson wsX7_begin := goodIn_r _ [5, 6, 16, 17, 18, 19, 20, 21, 22] (by decide +kernel) (by decide +kernel)
set_option maxRecDepth 20000 in
theorem gX7_tellAsPerson_X7_begin : GoodIn wsX7_tellAsPerson (wsV RX7 238 RX7 yX7_begin wsX7_begin) := goodIn_app (goodIn_of _ (by decide +kernel)) ggX7_tellAsPerson_X7_begin
set_option maxRecDepth 20000 in
theorem ggX7_tellAsPerson_X7_tellAsBeast : GoodIn wsX7_tellAsPerson wsX7_tellAsBeast := goodIn_r _ [10, 1, 2, 3, 4, 5, 6, 11, 12, 13, 14, 15, 16, 17, 18, 19, 20, 21, 22, 23, 24, 25, 26] (by decide +kernel) (by decide +kernel)
set_option maxRecDepth 20000 in
theorem gX7_tellAsPerson_X7_tellAsBeast : GoodIn wsX7_tellAsPerson (wsV RX7 232 RX7 yX7_tellAsBeast wsX7_tellAsBeast) := goodIn_app (goodIn_of _ (by decide +kernel)) ggX7_tellAsPerson_X7_tellAsBeast
set_option maxRecDepth 20000 in
theorem ggX7_tellAsPerson_X7_tellAsThing : GoodIn wsX7_tellAsPerson wsX7_tellAsThing := goodIn_r _ [14, 15, 1, 2, 3, 4, 5, 6, 23, 24, 25, 26, 16, 17, 18, 19, 20, 21, 22] (by decide +kernel) (by decide +kernel)
set_option maxRecDepth 20000 in
theorem gX7_tellAsPerson_X7_tellAsThing : GoodIn wsX7_tellAsPerson (wsV RX7 235 RX7 yX7_tellAsThing wsX7_tellAsThing) := goodIn_app (goodIn_of _ (by decide +kernel)) ggX7_tellAsPerson_X7_tellAsThing
theorem dX7_tellAsPerson_0 : decode cX7_tellAsPerson 0 = .ok (.aload_n 0, 1) := by decide +kernel
theorem dX7_tellAsPerson_1 : decode cX7_tellAsPerson 1 = .ok (.iconst 3, 1) := by decide +kernel
theorem dX7_tellAsPerson_2 : decode cX7_tellAsPerson 2 = .ok (.invokevirtual 238, 3) := by decide +kernel
theorem dX7_tellAsPerson_5 : decode cX7_tellAsPerson 5 = .ok (.aload_n 0, 1) := by decide +kernel
theorem dX7_tellAsPerson_6 : decode cX7_tellAsPerson 6 = .ok (.aload_n 1, 1) := by decide +kernel
theorem dX7_tellAsPerson_7 : decode cX7_tellAsPerson 7 = .ok (.invokevirtual 232, 3) := by decide +kernel
theorem dX7_tellAsPerson_10 : decode cX7_tellAsPerson 10 = .ok (.istore_n 2, 1) := by decide +kernel
theorem dX7_tellAsPerson_11 : decode cX7_tellAsPerson 11 = .ok (.iload_n 2, 1) := by decide +kernel
theorem dX7_tellAsPerson_12 : decode cX7_tellAsPerson 12 = .ok (.aload_n 0, 1) := by decide +kernel
theorem dX7_tellAsPerson_13 : decode cX7_tellAsPerson 13 = .ok (.aload_n 1, 1) := by decide +kernel
theorem dX7_tellAsPerson_14 : decode cX7_tellAsPerson 14 = .ok (.invokevirtual 235, 3) := by decide +kernel
theorem dX7_tellAsPerson_17 : decode cX7_tellAsPerson 17 = .ok (.iadd, 1) := by decide +kernel
theorem dX7_tellAsPerson_18 : decode cX7_tellAsPerson 18 = .ok (.ireturn, 1) := by decide +kernel
theorem dX7_begin_0 : decode cX7_begin 0 = .ok (.aload_n 0, 1) := by decide +kernel
theorem dX7_begin_1 : decode cX7_begin 1 = .ok (.bipush 31, 2) := by decide +kernel
theorem dX7_begin_3 : decode cX7_begin 3 = .ok (.aload_n 0, 1) := by decide +kernel
theorem dX7_begin_4 : decode cX7_begin 4 = .ok (.getfield 48, 3) := by decide +kernel
theorem dX7_begin_7 : decode cX7_begin 7 = .ok (.imul, 1) := by decide +kernel
theorem dX7_begin_8 : decode cX7_begin 8 = .ok (.iload_n 1, 1) := by decide +kernel
theorem dX7_begin_9 : decode cX7_begin 9 = .ok (.iadd, 1) := by decide +kernel
theorem dX7_begin_10 : decode cX7_begin 10 = .ok (.putfield 48, 3) := by decide +kernel
theorem dX7_begin_13 : decode cX7_begin 13 = .ok (.return_, 1) := by decide +kernel
theorem dX7_failed_0 : decode cX7_failed 0 = .ok (.aload_n 0, 1) := by decide +kernel
theorem dX7_failed_1 : decode cX7_failed 1 = .ok (.iload_n 1, 1) := by decide +kernel
theorem dX7_failed_2 : decode cX7_failed 2 = .ok (.putfield 52, 3) := by decide +kernel
theorem dX7_failed_5 : decode cX7_failed 5 = .ok (.bipush (-10), 2) := by decide +kernel
theorem dX7_failed_7 : decode cX7_failed 7 = .ok (.iload_n 1, 1) := by decide +kernel
theorem dX7_failed_8 : decode cX7_failed 8 = .ok (.isub, 1) := by decide +kernel
theorem dX7_failed_9 : decode cX7_failed 9 = .ok (.ireturn, 1) := by decide +kernel
theorem dX7_within_0 : decode cX7_within 0 = .ok (.iload_n 0, 1) := by decide +kernel
theorem dX7_within_1 : decode cX7_within 1 = .ok (.iload_n 1, 1) := by decide +kernel
theorem dX7_within_2 : decode cX7_within 2 = .ok (.if_icmp .lt 12, 3) := by decide +kernel
theorem dX7_within_5 : decode cX7_within 5 = .ok (.iload_n 0, 1) := by decide +kernel
theorem dX7_within_6 : decode cX7_within 6 = .ok (.iload_n 2, 1) := by decide +kernel
theorem dX7_within_7 : decode cX7_within 7 = .ok (.if_icmp .gt 7, 3) := by decide +kernel
theorem dX7_within_10 : decode cX7_within 10 = .ok (.iconst 1, 1) := by decide +kernel
theorem dX7_within_11 : decode cX7_within 11 = .ok (.goto 4, 3) := by decide +kernel
theorem dX7_within_14 : decode cX7_within 14 = .ok (.iconst 0, 1) := by decide +kernel
theorem dX7_within_15 : decode cX7_within 15 = .ok (.ireturn, 1) := by decide +kernel
theorem dX7_has_0 : decode cX7_has 0 = .ok (.iload_n 0, 1) := by decide +kernel
theorem dX7_has_1 : decode cX7_has 1 = .ok (.iload_n 1, 1) := by decide +kernel
theorem dX7_has_2 : decode cX7_has 2 = .ok (.ishr, 1) := by decide +kernel
theorem dX7_has_3 : decode cX7_has 3 = .ok (.iconst 1, 1) := by decide +kernel
theorem dX7_has_4 : decode cX7_has 4 = .ok (.iand, 1) := by decide +kernel
theorem dX7_has_5 : decode cX7_has 5 = .ok (.ifCond .eq 7, 3) := by decide +kernel
theorem dX7_has_8 : decode cX7_has 8 = .ok (.iconst 1, 1) := by decide +kernel
theorem dX7_has_9 : decode cX7_has 9 = .ok (.goto 4, 3) := by decide +kernel
theorem dX7_has_12 : decode cX7_has 12 = .ok (.iconst 0, 1) := by decide +kernel
theorem dX7_has_13 : decode cX7_has 13 = .ok (.ireturn, 1) := by decide +kernel
set_option maxRecDepth 20000 in
theorem ggX7_isSheet_X7_within : GoodIn wsX7_isSheet wsX7_within := goodIn_r _ [4] (by decide +kernel) (by decide +kernel)
set_option maxRecDepth 20000 in
theorem gX7_isSheet_X7_within : GoodIn wsX7_isSheet (va_wsS RX7 125 yX7_within wsX7_within) := goodIn_app (goodIn_of _ (by decide +kernel)) ggX7_isSheet_X7_within
theorem dX7_isSheet_0 : decode cX7_isSheet 0 = .ok (.iload_n 0, 1) := by decide +kernel
theorem dX7_isSheet_1 : decode cX7_isSheet 1 = .ok (.iconst 0, 1) := by decide +kernel
theorem dX7_isSheet_2 : decode cX7_isSheet 2 = .ok (.iconst 3, 1) := by decide +kernel
theorem dX7_isSheet_3 : decode cX7_isSheet 3 = .ok (.invokestatic 125, 3) := by decide +kernel
theorem dX7_isSheet_6 : decode cX7_isSheet 6 = .ok (.ireturn, 1) := by decide +kernel
set_option maxRecDepth 20000 in
theorem ggX7_isLane_X7_within : GoodIn wsX7_isLane wsX7_within := goodIn_r _ [4] (by decide +kernel) (by decide +kernel)
set_option maxRecDepth 20000 in
theorem gX7_isLane_X7_within : GoodIn wsX7_isLane (va_wsS RX7 125 yX7_within wsX7_within) := goodIn_app (goodIn_of _ (by decide +kernel)) ggX7_isLane_X7_within
theorem dX7_isLane_0 : decode cX7_isLane 0 = .ok (.iload_n 0, 1) := by decide +kernel
theorem dX7_isLane_1 : decode cX7_isLane 1 = .ok (.iconst 0, 1) := by decide +kernel
theorem dX7_isLane_2 : decode cX7_isLane 2 = .ok (.iconst 2, 1) := by decide +kernel
theorem dX7_isLane_3 : decode cX7_isLane 3 = .ok (.invokestatic 125, 3) := by decide +kernel
theorem dX7_isLane_6 : decode cX7_isLane 6 = .ok (.ireturn, 1) := by decide +kernel
set_option maxRecDepth 20000 in
theorem ggX7_isCorner_X7_within : GoodIn wsX7_isCorner wsX7_within := goodIn_r _ [4] (by decide +kernel) (by decide +kernel)
set_option maxRecDepth 20000 in
theorem gX7_isCorner_X7_within : GoodIn wsX7_isCorner (va_wsS RX7 125 yX7_within wsX7_within) := goodIn_app (goodIn_of _ (by decide +kernel)) ggX7_isCorner_X7_within
theorem dX7_isCorner_0 : decode cX7_isCorner 0 = .ok (.iload_n 0, 1) := by decide +kernel
theorem dX7_isCorner_1 : decode cX7_isCorner 1 = .ok (.iconst 0, 1) := by decide +kernel
theorem dX7_isCorner_2 : decode cX7_isCorner 2 = .ok (.bipush 63, 2) := by decide +kernel
theorem dX7_isCorner_4 : decode cX7_isCorner 4 = .ok (.invokestatic 125, 3) := by decide +kernel
theorem dX7_isCorner_7 : decode cX7_isCorner 7 = .ok (.ireturn, 1) := by decide +kernel
theorem dX7_carried_0 : decode cX7_carried 0 = .ok (.iload_n 1, 1) := by decide +kernel
theorem dX7_carried_1 : decode cX7_carried 1 = .ok (.bipush 8, 2) := by decide +kernel
theorem dX7_carried_3 : decode cX7_carried 3 = .ok (.irem, 1) := by decide +kernel
theorem dX7_carried_4 : decode cX7_carried 4 = .ok (.iload_n 2, 1) := by decide +kernel
theorem dX7_carried_5 : decode cX7_carried 5 = .ok (.bipush 8, 2) := by decide +kernel
theorem dX7_carried_7 : decode cX7_carried 7 = .ok (.irem, 1) := by decide +kernel
theorem dX7_carried_8 : decode cX7_carried 8 = .ok (.isub, 1) := by decide +kernel
theorem dX7_carried_9 : decode cX7_carried 9 = .ok (.invokestatic 244, 3) := by decide +kernel
theorem dX7_carried_12 : decode cX7_carried 12 = .ok (.istore_n 3, 1) := by decide +kernel
theorem dX7_carried_13 : decode cX7_carried 13 = .ok (.iload_n 1, 1) := by decide +kernel
theorem dX7_carried_14 : decode cX7_carried 14 = .ok (.bipush 8, 2) := by decide +kernel
theorem dX7_carried_16 : decode cX7_carried 16 = .ok (.idiv, 1) := by decide +kernel
theorem dX7_carried_17 : decode cX7_carried 17 = .ok (.iload_n 2, 1) := by decide +kernel
theorem dX7_carried_18 : decode cX7_carried 18 = .ok (.bipush 8, 2) := by decide +kernel
theorem dX7_carried_20 : decode cX7_carried 20 = .ok (.idiv, 1) := by decide +kernel
theorem dX7_carried_21 : decode cX7_carried 21 = .ok (.isub, 1) := by decide +kernel
theorem dX7_carried_22 : decode cX7_carried 22 = .ok (.invokestatic 244, 3) := by decide +kernel
theorem dX7_carried_25 : decode cX7_carried 25 = .ok (.istore 4, 2) := by decide +kernel
theorem dX7_carried_27 : decode cX7_carried 27 = .ok (.iconst 0, 1) := by decide +kernel
theorem dX7_carried_28 : decode cX7_carried 28 = .ok (.iload_n 0, 1) := by decide +kernel
theorem dX7_carried_29 : decode cX7_carried 29 = .ok (.iload_n 3, 1) := by decide +kernel
theorem dX7_carried_30 : decode cX7_carried 30 = .ok (.isub, 1) := by decide +kernel
theorem dX7_carried_31 : decode cX7_carried 31 = .ok (.iload 4, 2) := by decide +kernel
theorem dX7_carried_33 : decode cX7_carried 33 = .ok (.isub, 1) := by decide +kernel
theorem dX7_carried_34 : decode cX7_carried 34 = .ok (.invokestatic 249, 3) := by decide +kernel
theorem dX7_carried_37 : decode cX7_carried 37 = .ok (.ireturn, 1) := by decide +kernel
theorem dX8_init_0 : decode cX8_init 0 = .ok (.aload_n 0, 1) := by decide +kernel
theorem dX8_init_1 : decode cX8_init 1 = .ok (.invokespecial 1, 3) := by decide +kernel
theorem dX8_init_4 : decode cX8_init 4 = .ok (.aload_n 0, 1) := by decide +kernel
theorem dX8_init_5 : decode cX8_init 5 = .ok (.iconst 4, 1) := by decide +kernel
theorem dX8_init_6 : decode cX8_init 6 = .ok (.newarray .int, 2) := by decide +kernel
theorem dX8_init_8 : decode cX8_init 8 = .ok (.dup, 1) := by decide +kernel
theorem dX8_init_9 : decode cX8_init 9 = .ok (.iconst 0, 1) := by decide +kernel
theorem dX8_init_10 : decode cX8_init 10 = .ok (.bipush (-9), 2) := by decide +kernel
theorem dX8_init_12 : decode cX8_init 12 = .ok (.iastore, 1) := by decide +kernel
theorem dX8_init_13 : decode cX8_init 13 = .ok (.dup, 1) := by decide +kernel
theorem dX8_init_14 : decode cX8_init 14 = .ok (.iconst 1, 1) := by decide +kernel
theorem dX8_init_15 : decode cX8_init 15 = .ok (.bipush (-9), 2) := by decide +kernel
theorem dX8_init_17 : decode cX8_init 17 = .ok (.iastore, 1) := by decide +kernel
theorem dX8_init_18 : decode cX8_init 18 = .ok (.dup, 1) := by decide +kernel
theorem dX8_init_19 : decode cX8_init 19 = .ok (.iconst 2, 1) := by decide +kernel
theorem dX8_init_20 : decode cX8_init 20 = .ok (.bipush (-9), 2) := by decide +kernel
theorem dX8_init_22 : decode cX8_init 22 = .ok (.iastore, 1) := by decide +kernel
theorem dX8_init_23 : decode cX8_init 23 = .ok (.dup, 1) := by decide +kernel
theorem dX8_init_24 : decode cX8_init 24 = .ok (.iconst 3, 1) := by decide +kernel
theorem dX8_init_25 : decode cX8_init 25 = .ok (.bipush (-9), 2) := by decide +kernel
theorem dX8_init_27 : decode cX8_init 27 = .ok (.iastore, 1) := by decide +kernel
theorem dX8_init_28 : decode cX8_init 28 = .ok (.putfield 9, 3) := by decide +kernel
theorem dX8_init_31 : decode cX8_init 31 = .ok (.aload_n 0, 1) := by decide +kernel
theorem dX8_init_32 : decode cX8_init 32 = .ok (.iconst 4, 1) := by decide +kernel
theorem dX8_init_33 : decode cX8_init 33 = .ok (.newarray .int, 2) := by decide +kernel
theorem dX8_init_35 : decode cX8_init 35 = .ok (.putfield 13, 3) := by decide +kernel
theorem dX8_init_38 : decode cX8_init 38 = .ok (.aload_n 0, 1) := by decide +kernel
theorem dX8_init_39 : decode cX8_init 39 = .ok (.sipush 240, 3) := by decide +kernel
theorem dX8_init_42 : decode cX8_init 42 = .ok (.newarray .int, 2) := by decide +kernel
theorem dX8_init_44 : decode cX8_init 44 = .ok (.putfield 16, 3) := by decide +kernel
theorem dX8_init_47 : decode cX8_init 47 = .ok (.aload_n 0, 1) := by decide +kernel
theorem dX8_init_48 : decode cX8_init 48 = .ok (.iconst 4, 1) := by decide +kernel
theorem dX8_init_49 : decode cX8_init 49 = .ok (.newarray .int, 2) := by decide +kernel
theorem dX8_init_51 : decode cX8_init 51 = .ok (.putfield 19, 3) := by decide +kernel
theorem dX8_init_54 : decode cX8_init 54 = .ok (.aload_n 0, 1) := by decide +kernel
theorem dX8_init_55 : decode cX8_init 55 = .ok (.bipush 6, 2) := by decide +kernel
theorem dX8_init_57 : decode cX8_init 57 = .ok (.newarray .int, 2) := by decide +kernel
theorem dX8_init_59 : decode cX8_init 59 = .ok (.putfield 22, 3) := by decide +kernel
theorem dX8_init_62 : decode cX8_init 62 = .ok (.aload_n 0, 1) := by decide +kernel
theorem dX8_init_63 : decode cX8_init 63 = .ok (.bipush 6, 2) := by decide +kernel
theorem dX8_init_65 : decode cX8_init 65 = .ok (.newarray .int, 2) := by decide +kernel
theorem dX8_init_67 : decode cX8_init 67 = .ok (.putfield 25, 3) := by decide +kernel
theorem dX8_init_70 : decode cX8_init 70 = .ok (.aload_n 0, 1) := by decide +kernel
theorem dX8_init_71 : decode cX8_init 71 = .ok (.bipush 6, 2) := by decide +kernel
theorem dX8_init_73 : decode cX8_init 73 = .ok (.newarray .int, 2) := by decide +kernel
theorem dX8_init_75 : decode cX8_init 75 = .ok (.putfield 28, 3) := by decide +kernel
theorem dX8_init_78 : decode cX8_init 78 = .ok (.aload_n 0, 1) := by decide +kernel
theorem dX8_init_79 : decode cX8_init 79 = .ok (.bipush 6, 2) := by decide +kernel
theorem dX8_init_81 : decode cX8_init 81 = .ok (.newarray .int, 2) := by decide +kernel
theorem dX8_init_83 : decode cX8_init 83 = .ok (.putfield 31, 3) := by decide +kernel
theorem dX8_init_86 : decode cX8_init 86 = .ok (.aload_n 0, 1) := by decide +kernel
theorem dX8_init_87 : decode cX8_init 87 = .ok (.iconst 4, 1) := by decide +kernel
theorem dX8_init_88 : decode cX8_init 88 = .ok (.newarray .int, 2) := by decide +kernel
theorem dX8_init_90 : decode cX8_init 90 = .ok (.putfield 34, 3) := by decide +kernel
theorem dX8_init_93 : decode cX8_init 93 = .ok (.aload_n 0, 1) := by decide +kernel
theorem dX8_init_94 : decode cX8_init 94 = .ok (.bipush 6, 2) := by decide +kernel
theorem dX8_init_96 : decode cX8_init 96 = .ok (.newarray .int, 2) := by decide +kernel
theorem dX8_init_98 : decode cX8_init 98 = .ok (.putfield 37, 3) := by decide +kernel
theorem dX8_init_101 : decode cX8_init 101 = .ok (.aload_n 0, 1) := by decide +kernel
theorem dX8_init_102 : decode cX8_init 102 = .ok (.bipush 6, 2) := by decide +kernel
theorem dX8_init_104 : decode cX8_init 104 = .ok (.newarray .int, 2) := by decide +kernel
theorem dX8_init_106 : decode cX8_init 106 = .ok (.putfield 40, 3) := by decide +kernel
theorem dX8_init_109 : decode cX8_init 109 = .ok (.aload_n 0, 1) := by decide +kernel
theorem dX8_init_110 : decode cX8_init 110 = .ok (.bipush 6, 2) := by decide +kernel
theorem dX8_init_112 : decode cX8_init 112 = .ok (.newarray .int, 2) := by decide +kernel
theorem dX8_init_114 : decode cX8_init 114 = .ok (.putfield 43, 3) := by decide +kernel
theorem dX8_init_117 : decode cX8_init 117 = .ok (.aload_n 0, 1) := by decide +kernel
theorem dX8_init_118 : decode cX8_init 118 = .ok (.bipush 6, 2) := by decide +kernel
theorem dX8_init_120 : decode cX8_init 120 = .ok (.newarray .int, 2) := by decide +kernel
theorem dX8_init_122 : decode cX8_init 122 = .ok (.putfield 46, 3) := by decide +kernel
theorem dX8_init_125 : decode cX8_init 125 = .ok (.aload_n 0, 1) := by decide +kernel
theorem dX8_init_126 : decode cX8_init 126 = .ok (.bipush 6, 2) := by decide +kernel
theorem dX8_init_128 : decode cX8_init 128 = .ok (.newarray .int, 2) := by decide +kernel
theorem dX8_init_130 : decode cX8_init 130 = .ok (.putfield 49, 3) := by decide +kernel
theorem dX8_init_133 : decode cX8_init 133 = .ok (.aload_n 0, 1) := by decide +kernel
theorem dX8_init_134 : decode cX8_init 134 = .ok (.bipush 6, 2) := by decide +kernel
theorem dX8_init_136 : decode cX8_init 136 = .ok (.newarray .int, 2) := by decide +kernel
theorem dX8_init_138 : decode cX8_init 138 = .ok (.putfield 52, 3) := by decide +kernel
theorem dX8_init_141 : decode cX8_init 141 = .ok (.aload_n 0, 1) := by decide +kernel
theorem dX8_init_142 : decode cX8_init 142 = .ok (.iconst 4, 1) := by decide +kernel
theorem dX8_init_143 : decode cX8_init 143 = .ok (.newarray .int, 2) := by decide +kernel
theorem dX8_init_145 : decode cX8_init 145 = .ok (.putfield 55, 3) := by decide +kernel
theorem dX8_init_148 : decode cX8_init 148 = .ok (.aload_n 0, 1) := by decide +kernel
theorem dX8_init_149 : decode cX8_init 149 = .ok (.bipush 8, 2) := by decide +kernel
theorem dX8_init_151 : decode cX8_init 151 = .ok (.newarray .int, 2) := by decide +kernel
theorem dX8_init_153 : decode cX8_init 153 = .ok (.putfield 58, 3) := by decide +kernel
theorem dX8_init_156 : decode cX8_init 156 = .ok (.aload_n 0, 1) := by decide +kernel
theorem dX8_init_157 : decode cX8_init 157 = .ok (.bipush 8, 2) := by decide +kernel
theorem dX8_init_159 : decode cX8_init 159 = .ok (.newarray .int, 2) := by decide +kernel
theorem dX8_init_161 : decode cX8_init 161 = .ok (.putfield 61, 3) := by decide +kernel
theorem dX8_init_164 : decode cX8_init 164 = .ok (.return_, 1) := by decide +kernel
theorem dX8_fails_0 : decode cX8_fails 0 = .ok (.aload_n 0, 1) := by decide +kernel
theorem dX8_fails_1 : decode cX8_fails 1 = .ok (.iload_n 1, 1) := by decide +kernel
theorem dX8_fails_2 : decode cX8_fails 2 = .ok (.putfield 64, 3) := by decide +kernel
theorem dX8_fails_5 : decode cX8_fails 5 = .ok (.bipush (-10), 2) := by decide +kernel
theorem dX8_fails_7 : decode cX8_fails 7 = .ok (.iload_n 1, 1) := by decide +kernel
theorem dX8_fails_8 : decode cX8_fails 8 = .ok (.isub, 1) := by decide +kernel
theorem dX8_fails_9 : decode cX8_fails 9 = .ok (.ireturn, 1) := by decide +kernel
theorem dX8_lost_0 : decode cX8_lost 0 = .ok (.aload_n 0, 1) := by decide +kernel
theorem dX8_lost_1 : decode cX8_lost 1 = .ok (.iload_n 1, 1) := by decide +kernel
theorem dX8_lost_2 : decode cX8_lost 2 = .ok (.putfield 64, 3) := by decide +kernel
theorem dX8_lost_5 : decode cX8_lost 5 = .ok (.ldc2_w 68, 3) := by decide +kernel
theorem dX8_lost_8 : decode cX8_lost 8 = .ok (.lreturn, 1) := by decide +kernel
theorem dX8_within_0 : decode cX8_within 0 = .ok (.iload_n 0, 1) := by decide +kernel
theorem dX8_within_1 : decode cX8_within 1 = .ok (.iload_n 1, 1) := by decide +kernel
theorem dX8_within_2 : decode cX8_within 2 = .ok (.if_icmp .lt 12, 3) := by decide +kernel
theorem dX8_within_5 : decode cX8_within 5 = .ok (.iload_n 0, 1) := by decide +kernel
theorem dX8_within_6 : decode cX8_within 6 = .ok (.iload_n 2, 1) := by decide +kernel
theorem dX8_within_7 : decode cX8_within 7 = .ok (.if_icmp .gt 7, 3) := by decide +kernel
theorem dX8_within_10 : decode cX8_within 10 = .ok (.iconst 1, 1) := by decide +kernel
theorem dX8_within_11 : decode cX8_within 11 = .ok (.goto 4, 3) := by decide +kernel
theorem dX8_within_14 : decode cX8_within 14 = .ok (.iconst 0, 1) := by decide +kernel
theorem dX8_within_15 : decode cX8_within 15 = .ok (.ireturn, 1) := by decide +kernel
set_option maxRecDepth 20000 in
theorem ggX8_isSheet_X8_within : GoodIn wsX8_isSheet wsX8_within := goodIn_r _ [4] (by decide +kernel) (by decide +kernel)
set_option maxRecDepth 20000 in
theorem gX8_isSheet_X8_within : GoodIn wsX8_isSheet (va_wsS RX8 70 yX8_within wsX8_within) := goodIn_app (goodIn_of _ (by decide +kernel)) ggX8_isSheet_X8_within
theorem dX8_isSheet_0 : decode cX8_isSheet 0 = .ok (.iload_n 0, 1) := by decide +kernel
theorem dX8_isSheet_1 : decode cX8_isSheet 1 = .ok (.iconst 0, 1) := by decide +kernel
theorem dX8_isSheet_2 : decode cX8_isSheet 2 = .ok (.iconst 3, 1) := by decide +kernel
theorem dX8_isSheet_3 : decode cX8_isSheet 3 = .ok (.invokestatic 70, 3) := by decide +kernel
theorem dX8_isSheet_6 : decode cX8_isSheet 6 = .ok (.ireturn, 1) := by decide +kernel
set_option maxRecDepth 20000 in
theorem ggX8_isSort_X8_within : GoodIn wsX8_isSort wsX8_within := goodIn_r _ [4] (by decide +kernel) (by decide +kernel)
set_option maxRecDepth 20000 in
theorem gX8_isSort_X8_within : GoodIn wsX8_isSort (va_wsS RX8 70 yX8_within wsX8_within) := goodIn_app (goodIn_of _ (by decide +kernel)) ggX8_isSort_X8_within
theorem dX8_isSort_0 : decode cX8_isSort 0 = .ok (.iload_n 0, 1) := by decide +kernel
theorem dX8_isSort_1 : decode cX8_isSort 1 = .ok (.iconst 0, 1) := by decide +kernel
theorem dX8_isSort_2 : decode cX8_isSort 2 = .ok (.iconst 2, 1) := by decide +kernel
theorem dX8_isSort_3 : decode cX8_isSort 3 = .ok (.invokestatic 70, 3) := by decide +kernel
theorem dX8_isSort_6 : decode cX8_isSort 6 = .ok (.ireturn, 1) := by decide +kernel
theorem dX8_against_0 : decode cX8_against 0 = .ok (.aload_n 0, 1) := by decide +kernel
theorem dX8_against_1 : decode cX8_against 1 = .ok (.getfield 9, 3) := by decide +kernel
theorem dX8_against_4 : decode cX8_against 4 = .ok (.iload_n 1, 1) := by decide +kernel
theorem dX8_against_5 : decode cX8_against 5 = .ok (.iaload, 1) := by decide +kernel
theorem dX8_against_6 : decode cX8_against 6 = .ok (.bipush (-9), 2) := by decide +kernel
theorem dX8_against_8 : decode cX8_against 8 = .ok (.if_icmp .eq 15, 3) := by decide +kernel
theorem dX8_against_11 : decode cX8_against 11 = .ok (.aload_n 0, 1) := by decide +kernel
theorem dX8_against_12 : decode cX8_against 12 = .ok (.getfield 9, 3) := by decide +kernel
theorem dX8_against_15 : decode cX8_against 15 = .ok (.iload_n 1, 1) := by decide +kernel
theorem dX8_against_16 : decode cX8_against 16 = .ok (.iaload, 1) := by decide +kernel
theorem dX8_against_17 : decode cX8_against 17 = .ok (.iload_n 2, 1) := by decide +kernel
theorem dX8_against_18 : decode cX8_against 18 = .ok (.if_icmp .eq 5, 3) := by decide +kernel
theorem dX8_against_21 : decode cX8_against 21 = .ok (.iconst 2, 1) := by decide +kernel
theorem dX8_against_22 : decode cX8_against 22 = .ok (.ireturn, 1) := by decide +kernel
theorem dX8_against_23 : decode cX8_against 23 = .ok (.aload_n 0, 1) := by decide +kernel
theorem dX8_against_24 : decode cX8_against 24 = .ok (.getfield 9, 3) := by decide +kernel
theorem dX8_against_27 : decode cX8_against 27 = .ok (.iload_n 1, 1) := by decide +kernel
theorem dX8_against_28 : decode cX8_against 28 = .ok (.iaload, 1) := by decide +kernel
theorem dX8_against_29 : decode cX8_against 29 = .ok (.bipush (-9), 2) := by decide +kernel
theorem dX8_against_31 : decode cX8_against 31 = .ok (.if_icmp .ne 5, 3) := by decide +kernel
theorem dX8_against_34 : decode cX8_against 34 = .ok (.iconst 1, 1) := by decide +kernel
theorem dX8_against_35 : decode cX8_against 35 = .ok (.ireturn, 1) := by decide +kernel
theorem dX8_against_36 : decode cX8_against 36 = .ok (.iload 4, 2) := by decide +kernel
theorem dX8_against_38 : decode cX8_against 38 = .ok (.ifCond .ge 5, 3) := by decide +kernel
theorem dX8_against_41 : decode cX8_against 41 = .ok (.iconst 4, 1) := by decide +kernel
theorem dX8_against_42 : decode cX8_against 42 = .ok (.ireturn, 1) := by decide +kernel
theorem dX8_against_43 : decode cX8_against 43 = .ok (.iload_n 3, 1) := by decide +kernel
theorem dX8_against_44 : decode cX8_against 44 = .ok (.ifCond .lt 26, 3) := by decide +kernel
theorem dX8_against_47 : decode cX8_against 47 = .ok (.iload_n 3, 1) := by decide +kernel
theorem dX8_against_48 : decode cX8_against 48 = .ok (.aload_n 0, 1) := by decide +kernel
theorem dX8_against_49 : decode cX8_against 49 = .ok (.getfield 13, 3) := by decide +kernel
theorem dX8_against_52 : decode cX8_against 52 = .ok (.iload_n 1, 1) := by decide +kernel
theorem dX8_against_53 : decode cX8_against 53 = .ok (.iaload, 1) := by decide +kernel
theorem dX8_against_54 : decode cX8_against 54 = .ok (.if_icmp .gt 16, 3) := by decide +kernel
theorem dX8_against_57 : decode cX8_against 57 = .ok (.iload 4, 2) := by decide +kernel
theorem dX8_against_59 : decode cX8_against 59 = .ok (.aload_n 0, 1) := by decide +kernel
theorem dX8_against_60 : decode cX8_against 60 = .ok (.getfield 13, 3) := by decide +kernel
theorem dX8_against_63 : decode cX8_against 63 = .ok (.iload_n 1, 1) := by decide +kernel
theorem dX8_against_64 : decode cX8_against 64 = .ok (.iaload, 1) := by decide +kernel
theorem dX8_against_65 : decode cX8_against 65 = .ok (.iload_n 3, 1) := by decide +kernel
theorem dX8_against_66 : decode cX8_against 66 = .ok (.isub, 1) := by decide +kernel
theorem dX8_against_67 : decode cX8_against 67 = .ok (.if_icmp .le 7, 3) := by decide +kernel
theorem dX8_against_70 : decode cX8_against 70 = .ok (.iconst 3, 1) := by decide +kernel
theorem dX8_against_71 : decode cX8_against 71 = .ok (.goto 4, 3) := by decide +kernel
theorem dX8_against_74 : decode cX8_against 74 = .ok (.iconst 0, 1) := by decide +kernel
theorem dX8_against_75 : decode cX8_against 75 = .ok (.ireturn, 1) := by decide +kernel
theorem dX8_isArticle_0 : decode cX8_isArticle 0 = .ok (.iload_n 1, 1) := by decide +kernel
theorem dX8_isArticle_1 : decode cX8_isArticle 1 = .ok (.ifCond .lt 15, 3) := by decide +kernel
theorem dX8_isArticle_4 : decode cX8_isArticle 4 = .ok (.iload_n 1, 1) := by decide +kernel
theorem dX8_isArticle_5 : decode cX8_isArticle 5 = .ok (.aload_n 0, 1) := by decide +kernel
theorem dX8_isArticle_6 : decode cX8_isArticle 6 = .ok (.getfield 74, 3) := by decide +kernel
theorem dX8_isArticle_9 : decode cX8_isArticle 9 = .ok (.if_icmp .ge 7, 3) := by decide +kernel
theorem dX8_isArticle_12 : decode cX8_isArticle 12 = .ok (.iconst 1, 1) := by decide +kernel
theorem dX8_isArticle_13 : decode cX8_isArticle 13 = .ok (.goto 4, 3) := by decide +kernel
theorem dX8_isArticle_16 : decode cX8_isArticle 16 = .ok (.iconst 0, 1) := by decide +kernel
theorem dX8_isArticle_17 : decode cX8_isArticle 17 = .ok (.ireturn, 1) := by decide +kernel
theorem dX8_isRoom_0 : decode cX8_isRoom 0 = .ok (.iload_n 1, 1) := by decide +kernel
theorem dX8_isRoom_1 : decode cX8_isRoom 1 = .ok (.ifCond .lt 15, 3) := by decide +kernel
theorem dX8_isRoom_4 : decode cX8_isRoom 4 = .ok (.iload_n 1, 1) := by decide +kernel
theorem dX8_isRoom_5 : decode cX8_isRoom 5 = .ok (.aload_n 0, 1) := by decide +kernel
theorem dX8_isRoom_6 : decode cX8_isRoom 6 = .ok (.getfield 77, 3) := by decide +kernel
theorem dX8_isRoom_9 : decode cX8_isRoom 9 = .ok (.if_icmp .ge 7, 3) := by decide +kernel
theorem dX8_isRoom_12 : decode cX8_isRoom 12 = .ok (.iconst 1, 1) := by decide +kernel
theorem dX8_isRoom_13 : decode cX8_isRoom 13 = .ok (.goto 4, 3) := by decide +kernel
theorem dX8_isRoom_16 : decode cX8_isRoom 16 = .ok (.iconst 0, 1) := by decide +kernel
theorem dX8_isRoom_17 : decode cX8_isRoom 17 = .ok (.ireturn, 1) := by decide +kernel
set_option maxRecDepth 20000 in
theorem ggX8_isCorner_X8_within : GoodIn wsX8_isCorner wsX8_within := goodIn_r _ [4] (by decide +kernel) (by decide +kernel)
set_option maxRecDepth 20000 in
theorem gX8_isCorner_X8_within : GoodIn wsX8_isCorner (va_wsS RX8 70 yX8_within wsX8_within) := goodIn_app (goodIn_of _ (by decide +kernel)) ggX8_isCorner_X8_within
theorem dX8_isCorner_0 : decode cX8_isCorner 0 = .ok (.iload_n 0, 1) := by decide +kernel
theorem dX8_isCorner_1 : decode cX8_isCorner 1 = .ok (.iconst 0, 1) := by decide +kernel
theorem dX8_isCorner_2 : decode cX8_isCorner 2 = .ok (.bipush 63, 2) := by decide +kernel
theorem dX8_isCorner_4 : decode cX8_isCorner 4 = .ok (.invokestatic 70, 3) := by decide +kernel
theorem dX8_isCorner_7 : decode cX8_isCorner 7 = .ok (.ireturn, 1) := by decide +kernel
theorem dX8_isSet_0 : decode cX8_isSet 0 = .ok (.iload_n 1, 1) := by decide +kernel
theorem dX8_isSet_1 : decode cX8_isSet 1 = .ok (.ifCond .lt 17, 3) := by decide +kernel
theorem dX8_isSet_4 : decode cX8_isSet 4 = .ok (.iload_n 1, 1) := by decide +kernel
theorem dX8_isSet_5 : decode cX8_isSet 5 = .ok (.iconst 1, 1) := by decide +kernel
theorem dX8_isSet_6 : decode cX8_isSet 6 = .ok (.aload_n 0, 1) := by decide +kernel
theorem dX8_isSet_7 : decode cX8_isSet 7 = .ok (.getfield 74, 3) := by decide +kernel
theorem dX8_isSet_10 : decode cX8_isSet 10 = .ok (.ishl, 1) := by decide +kernel
theorem dX8_isSet_11 : decode cX8_isSet 11 = .ok (.if_icmp .ge 7, 3) := by decide +kernel
theorem dX8_isSet_14 : decode cX8_isSet 14 = .ok (.iconst 1, 1) := by decide +kernel
theorem dX8_isSet_15 : decode cX8_isSet 15 = .ok (.goto 4, 3) := by decide +kernel
theorem dX8_isSet_18 : decode cX8_isSet 18 = .ok (.iconst 0, 1) := by decide +kernel
theorem dX8_isSet_19 : decode cX8_isSet 19 = .ok (.ireturn, 1) := by decide +kernel
theorem dX8_isOf_0 : decode cX8_isOf 0 = .ok (.iload_n 0, 1) := by decide +kernel
theorem dX8_isOf_1 : decode cX8_isOf 1 = .ok (.iload_n 1, 1) := by decide +kernel
theorem dX8_isOf_2 : decode cX8_isOf 2 = .ok (.ishr, 1) := by decide +kernel
theorem dX8_isOf_3 : decode cX8_isOf 3 = .ok (.iconst 1, 1) := by decide +kernel
theorem dX8_isOf_4 : decode cX8_isOf 4 = .ok (.iand, 1) := by decide +kernel
theorem dX8_isOf_5 : decode cX8_isOf 5 = .ok (.iconst 1, 1) := by decide +kernel
theorem dX8_isOf_6 : decode cX8_isOf 6 = .ok (.if_icmp .ne 7, 3) := by decide +kernel
theorem dX8_isOf_9 : decode cX8_isOf 9 = .ok (.iconst 1, 1) := by decide +kernel
theorem dX8_isOf_10 : decode cX8_isOf 10 = .ok (.goto 4, 3) := by decide +kernel
theorem dX8_isOf_13 : decode cX8_isOf 13 = .ok (.iconst 0, 1) := by decide +kernel
theorem dX8_isOf_14 : decode cX8_isOf 14 = .ok (.ireturn, 1) := by decide +kernel
set_option maxRecDepth 20000 in
theorem ggX8_digit_X8_within : GoodIn wsX8_digit wsX8_within := goodIn_r _ [6] (by decide +kernel) (by decide +kernel)
set_option maxRecDepth 20000 in
theorem gX8_digit_X8_within : GoodIn wsX8_digit (va_wsS RX8 70 yX8_within wsX8_within) := goodIn_app (goodIn_of _ (by decide +kernel)) ggX8_digit_X8_within
theorem dX8_digit_0 : decode cX8_digit 0 = .ok (.aload_n 0, 1) := by decide +kernel
theorem dX8_digit_1 : decode cX8_digit 1 = .ok (.getfield 80, 3) := by decide +kernel
theorem dX8_digit_4 : decode cX8_digit 4 = .ok (.iload_n 1, 1) := by decide +kernel
theorem dX8_digit_5 : decode cX8_digit 5 = .ok (.if_icmp .ge 26, 3) := by decide +kernel
theorem dX8_digit_8 : decode cX8_digit 8 = .ok (.aload_n 0, 1) := by decide +kernel
theorem dX8_digit_9 : decode cX8_digit 9 = .ok (.getfield 16, 3) := by decide +kernel
theorem dX8_digit_12 : decode cX8_digit 12 = .ok (.aload_n 0, 1) := by decide +kernel
theorem dX8_digit_13 : decode cX8_digit 13 = .ok (.getfield 80, 3) := by decide +kernel
theorem dX8_digit_16 : decode cX8_digit 16 = .ok (.iaload, 1) := by decide +kernel
theorem dX8_digit_17 : decode cX8_digit 17 = .ok (.bipush 48, 2) := by decide +kernel
theorem dX8_digit_19 : decode cX8_digit 19 = .ok (.iload_n 2, 1) := by decide +kernel
theorem dX8_digit_20 : decode cX8_digit 20 = .ok (.iadd, 1) := by decide +kernel
theorem dX8_digit_21 : decode cX8_digit 21 = .ok (.bipush 48, 2) := by decide +kernel
theorem dX8_digit_23 : decode cX8_digit 23 = .ok (.iload_n 3, 1) := by decide +kernel
theorem dX8_digit_24 : decode cX8_digit 24 = .ok (.iadd, 1) := by decide +kernel
theorem dX8_digit_25 : decode cX8_digit 25 = .ok (.invokestatic 70, 3) := by decide +kernel
theorem dX8_digit_28 : decode cX8_digit 28 = .ok (.ifCond .ne 6, 3) := by decide +kernel
theorem dX8_digit_31 : decode cX8_digit 31 = .ok (.bipush (-9), 2) := by decide +kernel
theorem dX8_digit_33 : decode cX8_digit 33 = .ok (.ireturn, 1) := by decide +kernel
theorem dX8_digit_34 : decode cX8_digit 34 = .ok (.aload_n 0, 1) := by decide +kernel
theorem dX8_digit_35 : decode cX8_digit 35 = .ok (.dup, 1) := by decide +kernel
theorem dX8_digit_36 : decode cX8_digit 36 = .ok (.getfield 80, 3) := by decide +kernel
theorem dX8_digit_39 : decode cX8_digit 39 = .ok (.iconst 1, 1) := by decide +kernel
theorem dX8_digit_40 : decode cX8_digit 40 = .ok (.iadd, 1) := by decide +kernel
theorem dX8_digit_41 : decode cX8_digit 41 = .ok (.putfield 80, 3) := by decide +kernel
theorem dX8_digit_44 : decode cX8_digit 44 = .ok (.aload_n 0, 1) := by decide +kernel
theorem dX8_digit_45 : decode cX8_digit 45 = .ok (.getfield 16, 3) := by decide +kernel
theorem dX8_digit_48 : decode cX8_digit 48 = .ok (.aload_n 0, 1) := by decide +kernel
theorem dX8_digit_49 : decode cX8_digit 49 = .ok (.getfield 80, 3) := by decide +kernel
theorem dX8_digit_52 : decode cX8_digit 52 = .ok (.iconst 1, 1) := by decide +kernel
theorem dX8_digit_53 : decode cX8_digit 53 = .ok (.isub, 1) := by decide +kernel
theorem dX8_digit_54 : decode cX8_digit 54 = .ok (.iaload, 1) := by decide +kernel
theorem dX8_digit_55 : decode cX8_digit 55 = .ok (.bipush 48, 2) := by decide +kernel
theorem dX8_digit_57 : decode cX8_digit 57 = .ok (.isub, 1) := by decide +kernel
theorem dX8_digit_58 : decode cX8_digit 58 = .ok (.ireturn, 1) := by decide +kernel
theorem dX8_isSign_0 : decode cX8_isSign 0 = .ok (.aload_n 0, 1) := by decide +kernel
theorem dX8_isSign_1 : decode cX8_isSign 1 = .ok (.getfield 80, 3) := by decide +kernel
theorem dX8_isSign_4 : decode cX8_isSign 4 = .ok (.iload_n 1, 1) := by decide +kernel
theorem dX8_isSign_5 : decode cX8_isSign 5 = .ok (.if_icmp .ge 16, 3) := by decide +kernel
theorem dX8_isSign_8 : decode cX8_isSign 8 = .ok (.aload_n 0, 1) := by decide +kernel
theorem dX8_isSign_9 : decode cX8_isSign 9 = .ok (.getfield 16, 3) := by decide +kernel
theorem dX8_isSign_12 : decode cX8_isSign 12 = .ok (.aload_n 0, 1) := by decide +kernel
theorem dX8_isSign_13 : decode cX8_isSign 13 = .ok (.getfield 80, 3) := by decide +kernel
theorem dX8_isSign_16 : decode cX8_isSign 16 = .ok (.iaload, 1) := by decide +kernel
theorem dX8_isSign_17 : decode cX8_isSign 17 = .ok (.iload_n 2, 1) := by decide +kernel
theorem dX8_isSign_18 : decode cX8_isSign 18 = .ok (.if_icmp .eq 5, 3) := by decide +kernel
theorem dX8_isSign_21 : decode cX8_isSign 21 = .ok (.iconst 0, 1) := by decide +kernel
theorem dX8_isSign_22 : decode cX8_isSign 22 = .ok (.ireturn, 1) := by decide +kernel
theorem dX8_isSign_23 : decode cX8_isSign 23 = .ok (.aload_n 0, 1) := by decide +kernel
theorem dX8_isSign_24 : decode cX8_isSign 24 = .ok (.dup, 1) := by decide +kernel
theorem dX8_isSign_25 : decode cX8_isSign 25 = .ok (.getfield 80, 3) := by decide +kernel
theorem dX8_isSign_28 : decode cX8_isSign 28 = .ok (.iconst 1, 1) := by decide +kernel
theorem dX8_isSign_29 : decode cX8_isSign 29 = .ok (.iadd, 1) := by decide +kernel
theorem dX8_isSign_30 : decode cX8_isSign 30 = .ok (.putfield 80, 3) := by decide +kernel
theorem dX8_isSign_33 : decode cX8_isSign 33 = .ok (.iconst 1, 1) := by decide +kernel
theorem dX8_isSign_34 : decode cX8_isSign 34 = .ok (.ireturn, 1) := by decide +kernel
set_option maxRecDepth 20000 in
theorem ggX8_city_X8_isSheet : GoodIn wsX8_city wsX8_isSheet := goodIn_r _ [7, 8, 9, 6, 10] (by decide +kernel) (by decide +kernel)
set_option maxRecDepth 20000 in
theorem gX8_city_X8_isSheet : GoodIn wsX8_city (va_wsS RX8 83 yX8_isSheet wsX8_isSheet) := goodIn_app (goodIn_of _ (by decide +kernel)) ggX8_city_X8_isSheet
set_option maxRecDepth 20000 in
theorem ggX8_city_X8_isSort : GoodIn wsX8_city wsX8_isSort := goodIn_r _ [13, 8, 9, 6, 10] (by decide +kernel) (by decide +kernel)
set_option maxRecDepth 20000 in
theorem gX8_city_X8_isSort : GoodIn wsX8_city (va_wsS RX8 87 yX8_isSort wsX8_isSort) := goodIn_app (goodIn_of _ (by decide +kernel)) ggX8_city_X8_isSort
set_option maxRecDepth 20000 in
theorem ggX8_city_X8_against : GoodIn wsX8_city wsX8_against := goodIn_r _ [17, 18, 19, 66, 67, 68, 69, 70, 71, 72, 73, 74, 75, 76, 77, 78, 79, 80, 81, 82, 83, 84, 85, 86, 87, 88, 89, 90, 91, 92, 93, 94, 95, 96, 97] (by decide +kernel) (by decide +kernel)
set_option maxRecDepth 20000 in
theorem gX8_city_X8_against : GoodIn wsX8_city (wsV RX8 90 RX8 yX8_against wsX8_against) := goodIn_app (goodIn_of _ (by decide +kernel)) ggX8_city_X8_against
set_option maxRecDepth 20000 in
theorem ggX8_city_X8_fails : GoodIn wsX8_city wsX8_fails := goodIn_r _ [23, 1, 66, 67, 68, 69, 70, 71, 72, 73, 74, 75, 76, 77, 78, 79, 80, 81, 82, 83, 84, 85, 86, 87, 88, 89, 90, 91, 92, 93, 94, 95, 96, 97] (by decide +kernel) (by decide +kernel)
set_option maxRecDepth 20000 in
theorem gX8_city_X8_fails : GoodIn wsX8_city (wsV RX8 94 RX8 yX8_fails wsX8_fails) := goodIn_app (goodIn_of _ (by decide +kernel)) ggX8_city_X8_fails
set_option maxRecDepth 20000 in
theorem ggX8_city_X8_readCity : GoodIn wsX8_city wsX8_readCity := goodIn_r _ [27, 28, 29, 2, 30, 31, 32, 6, 33, 34, 35, 36, 37, 38, 8, 9, 10, 39, 40, 41, 42, 43, 44, 45, 46, 47, 48, 49, 50, 51, 52, 66, 67, 68, 69, 70, 71, 72, 73, 74, 75, 76, 77, 78, 79, 80, 81, 82, 83, 84, 85, 86, 87, 88, 89, 90, 91, 92, 93, 94, 95, 96, 97] (by decide +kernel) (by decide +kernel)
set_option maxRecDepth 20000 in
theorem gX8_city_X8_readCity : GoodIn wsX8_city (wsV RX8 98 RX8 yX8_readCity wsX8_readCity) := goodIn_app (goodIn_of _ (by decide +kernel)) ggX8_city_X8_readCity
set_option maxRecDepth 20000 in
theorem ggX8_city_X8_takeCity : GoodIn wsX8_city wsX8_takeCity := goodIn_r _ [56, 28, 57, 43, 58, 59, 44, 29, 3, 60, 49, 61, 50, 62, 51, 63, 52, 64, 65, 66, 67, 68, 69, 70, 71, 72, 73, 74, 75, 76, 77, 78, 79, 80, 81, 82, 83, 84, 85, 86, 87, 88, 89, 90, 91, 92, 93, 94, 95, 96, 97] (by decide +kernel) (by decide +kernel)
set_option maxRecDepth 20000 in
theorem gX8_city_X8_takeCity : GoodIn wsX8_city (wsV RX8 101 RX8 yX8_takeCity wsX8_takeCity) := goodIn_app (goodIn_of _ (by decide +kernel)) ggX8_city_X8_takeCity
theorem dX8_city_0 : decode cX8_city 0 = .ok (.aload_n 0, 1) := by decide +kernel
theorem dX8_city_1 : decode cX8_city 1 = .ok (.iconst 0, 1) := by decide +kernel
theorem dX8_city_2 : decode cX8_city 2 = .ok (.putfield 64, 3) := by decide +kernel
theorem dX8_city_5 : decode cX8_city 5 = .ok (.iload_n 1, 1) := by decide +kernel
theorem dX8_city_6 : decode cX8_city 6 = .ok (.invokestatic 83, 3) := by decide +kernel
theorem dX8_city_9 : decode cX8_city 9 = .ok (.ifCond .ne 5, 3) := by decide +kernel
theorem dX8_city_12 : decode cX8_city 12 = .ok (.iconst (-1), 1) := by decide +kernel
theorem dX8_city_13 : decode cX8_city 13 = .ok (.ireturn, 1) := by decide +kernel
theorem dX8_city_14 : decode cX8_city 14 = .ok (.iload_n 2, 1) := by decide +kernel
theorem dX8_city_15 : decode cX8_city 15 = .ok (.invokestatic 87, 3) := by decide +kernel
theorem dX8_city_18 : decode cX8_city 18 = .ok (.ifCond .ne 6, 3) := by decide +kernel
theorem dX8_city_21 : decode cX8_city 21 = .ok (.bipush (-2), 2) := by decide +kernel
theorem dX8_city_23 : decode cX8_city 23 = .ok (.ireturn, 1) := by decide +kernel
theorem dX8_city_24 : decode cX8_city 24 = .ok (.aload_n 0, 1) := by decide +kernel
theorem dX8_city_25 : decode cX8_city 25 = .ok (.iload_n 1, 1) := by decide +kernel
theorem dX8_city_26 : decode cX8_city 26 = .ok (.iload_n 2, 1) := by decide +kernel
theorem dX8_city_27 : decode cX8_city 27 = .ok (.iload_n 3, 1) := by decide +kernel
theorem dX8_city_28 : decode cX8_city 28 = .ok (.iload 4, 2) := by decide +kernel
theorem dX8_city_30 : decode cX8_city 30 = .ok (.invokevirtual 90, 3) := by decide +kernel
theorem dX8_city_33 : decode cX8_city 33 = .ok (.istore 5, 2) := by decide +kernel
theorem dX8_city_35 : decode cX8_city 35 = .ok (.iload 5, 2) := by decide +kernel
theorem dX8_city_37 : decode cX8_city 37 = .ok (.ifCond .eq 10, 3) := by decide +kernel
theorem dX8_city_40 : decode cX8_city 40 = .ok (.aload_n 0, 1) := by decide +kernel
theorem dX8_city_41 : decode cX8_city 41 = .ok (.iload 5, 2) := by decide +kernel
theorem dX8_city_43 : decode cX8_city 43 = .ok (.invokevirtual 94, 3) := by decide +kernel
theorem dX8_city_46 : decode cX8_city 46 = .ok (.ireturn, 1) := by decide +kernel
theorem dX8_city_47 : decode cX8_city 47 = .ok (.bipush 60, 2) := by decide +kernel
theorem dX8_city_49 : decode cX8_city 49 = .ok (.iload_n 1, 1) := by decide +kernel
theorem dX8_city_50 : decode cX8_city 50 = .ok (.imul, 1) := by decide +kernel
theorem dX8_city_51 : decode cX8_city 51 = .ok (.iload_n 3, 1) := by decide +kernel
theorem dX8_city_52 : decode cX8_city 52 = .ok (.iadd, 1) := by decide +kernel
theorem dX8_city_53 : decode cX8_city 53 = .ok (.istore 6, 2) := by decide +kernel
theorem dX8_city_55 : decode cX8_city 55 = .ok (.aload_n 0, 1) := by decide +kernel
theorem dX8_city_56 : decode cX8_city 56 = .ok (.iload 6, 2) := by decide +kernel
theorem dX8_city_58 : decode cX8_city 58 = .ok (.putfield 80, 3) := by decide +kernel
theorem dX8_city_61 : decode cX8_city 61 = .ok (.aload_n 0, 1) := by decide +kernel
theorem dX8_city_62 : decode cX8_city 62 = .ok (.iload 6, 2) := by decide +kernel
theorem dX8_city_64 : decode cX8_city 64 = .ok (.iload 4, 2) := by decide +kernel
theorem dX8_city_66 : decode cX8_city 66 = .ok (.iadd, 1) := by decide +kernel
theorem dX8_city_67 : decode cX8_city 67 = .ok (.invokevirtual 98, 3) := by decide +kernel
theorem dX8_city_70 : decode cX8_city 70 = .ok (.ifCond .ne 14, 3) := by decide +kernel
theorem dX8_city_73 : decode cX8_city 73 = .ok (.bipush (-100), 2) := by decide +kernel
theorem dX8_city_75 : decode cX8_city 75 = .ok (.aload_n 0, 1) := by decide +kernel
theorem dX8_city_76 : decode cX8_city 76 = .ok (.getfield 80, 3) := by decide +kernel
theorem dX8_city_79 : decode cX8_city 79 = .ok (.iload 6, 2) := by decide +kernel
theorem dX8_city_81 : decode cX8_city 81 = .ok (.isub, 1) := by decide +kernel
theorem dX8_city_82 : decode cX8_city 82 = .ok (.isub, 1) := by decide +kernel
theorem dX8_city_83 : decode cX8_city 83 = .ok (.ireturn, 1) := by decide +kernel
theorem dX8_city_84 : decode cX8_city 84 = .ok (.aload_n 0, 1) := by decide +kernel
theorem dX8_city_85 : decode cX8_city 85 = .ok (.invokevirtual 101, 3) := by decide +kernel
theorem dX8_city_88 : decode cX8_city 88 = .ok (.aload_n 0, 1) := by decide +kernel
theorem dX8_city_89 : decode cX8_city 89 = .ok (.getfield 74, 3) := by decide +kernel
theorem dX8_city_92 : decode cX8_city 92 = .ok (.ireturn, 1) := by decide +kernel
theorem dX8_takeCity_0 : decode cX8_takeCity 0 = .ok (.aload_n 0, 1) := by decide +kernel
theorem dX8_takeCity_1 : decode cX8_takeCity 1 = .ok (.aload_n 0, 1) := by decide +kernel
theorem dX8_takeCity_2 : decode cX8_takeCity 2 = .ok (.getfield 104, 3) := by decide +kernel
theorem dX8_takeCity_5 : decode cX8_takeCity 5 = .ok (.putfield 107, 3) := by decide +kernel
theorem dX8_takeCity_8 : decode cX8_takeCity 8 = .ok (.aload_n 0, 1) := by decide +kernel
theorem dX8_takeCity_9 : decode cX8_takeCity 9 = .ok (.aload_n 0, 1) := by decide +kernel
theorem dX8_takeCity_10 : decode cX8_takeCity 10 = .ok (.getfield 110, 3) := by decide +kernel
theorem dX8_takeCity_13 : decode cX8_takeCity 13 = .ok (.putfield 77, 3) := by decide +kernel
theorem dX8_takeCity_16 : decode cX8_takeCity 16 = .ok (.iconst 0, 1) := by decide +kernel
theorem dX8_takeCity_17 : decode cX8_takeCity 17 = .ok (.istore_n 1, 1) := by decide +kernel
theorem dX8_takeCity_18 : decode cX8_takeCity 18 = .ok (.iload_n 1, 1) := by decide +kernel
theorem dX8_takeCity_19 : decode cX8_takeCity 19 = .ok (.aload_n 0, 1) := by decide +kernel
theorem dX8_takeCity_20 : decode cX8_takeCity 20 = .ok (.getfield 77, 3) := by decide +kernel
theorem dX8_takeCity_23 : decode cX8_takeCity 23 = .ok (.if_icmp .ge 21, 3) := by decide +kernel
theorem dX8_takeCity_26 : decode cX8_takeCity 26 = .ok (.aload_n 0, 1) := by decide +kernel
theorem dX8_takeCity_27 : decode cX8_takeCity 27 = .ok (.getfield 19, 3) := by decide +kernel
theorem dX8_takeCity_30 : decode cX8_takeCity 30 = .ok (.iload_n 1, 1) := by decide +kernel
theorem dX8_takeCity_31 : decode cX8_takeCity 31 = .ok (.aload_n 0, 1) := by decide +kernel
theorem dX8_takeCity_32 : decode cX8_takeCity 32 = .ok (.getfield 34, 3) := by decide +kernel
theorem dX8_takeCity_35 : decode cX8_takeCity 35 = .ok (.iload_n 1, 1) := by decide +kernel
theorem dX8_takeCity_36 : decode cX8_takeCity 36 = .ok (.iaload, 1) := by decide +kernel
theorem dX8_takeCity_37 : decode cX8_takeCity 37 = .ok (.iastore, 1) := by decide +kernel
theorem dX8_takeCity_38 : decode cX8_takeCity 38 = .ok (.iinc 1 1, 3) := by decide +kernel
theorem dX8_takeCity_41 : decode cX8_takeCity 41 = .ok (.goto (-23), 3) := by decide +kernel
theorem dX8_takeCity_44 : decode cX8_takeCity 44 = .ok (.aload_n 0, 1) := by decide +kernel
theorem dX8_takeCity_45 : decode cX8_takeCity 45 = .ok (.aload_n 0, 1) := by decide +kernel
theorem dX8_takeCity_46 : decode cX8_takeCity 46 = .ok (.getfield 113, 3) := by decide +kernel
theorem dX8_takeCity_49 : decode cX8_takeCity 49 = .ok (.putfield 74, 3) := by decide +kernel
theorem dX8_takeCity_52 : decode cX8_takeCity 52 = .ok (.iconst 0, 1) := by decide +kernel
theorem dX8_takeCity_53 : decode cX8_takeCity 53 = .ok (.istore_n 1, 1) := by decide +kernel
theorem dX8_takeCity_54 : decode cX8_takeCity 54 = .ok (.iload_n 1, 1) := by decide +kernel
theorem dX8_takeCity_55 : decode cX8_takeCity 55 = .ok (.aload_n 0, 1) := by decide +kernel
theorem dX8_takeCity_56 : decode cX8_takeCity 56 = .ok (.getfield 74, 3) := by decide +kernel
theorem dX8_takeCity_59 : decode cX8_takeCity 59 = .ok (.if_icmp .ge 57, 3) := by decide +kernel
theorem dX8_takeCity_62 : decode cX8_takeCity 62 = .ok (.aload_n 0, 1) := by decide +kernel
theorem dX8_takeCity_63 : decode cX8_takeCity 63 = .ok (.getfield 22, 3) := by decide +kernel
theorem dX8_takeCity_66 : decode cX8_takeCity 66 = .ok (.iload_n 1, 1) := by decide +kernel
theorem dX8_takeCity_67 : decode cX8_takeCity 67 = .ok (.aload_n 0, 1) := by decide +kernel
theorem dX8_takeCity_68 : decode cX8_takeCity 68 = .ok (.getfield 37, 3) := by decide +kernel
theorem dX8_takeCity_71 : decode cX8_takeCity 71 = .ok (.iload_n 1, 1) := by decide +kernel
theorem dX8_takeCity_72 : decode cX8_takeCity 72 = .ok (.iaload, 1) := by decide +kernel
theorem dX8_takeCity_73 : decode cX8_takeCity 73 = .ok (.iastore, 1) := by decide +kernel
theorem dX8_takeCity_74 : decode cX8_takeCity 74 = .ok (.aload_n 0, 1) := by decide +kernel
theorem dX8_takeCity_75 : decode cX8_takeCity 75 = .ok (.getfield 25, 3) := by decide +kernel
theorem dX8_takeCity_78 : decode cX8_takeCity 78 = .ok (.iload_n 1, 1) := by decide +kernel
theorem dX8_takeCity_79 : decode cX8_takeCity 79 = .ok (.aload_n 0, 1) := by decide +kernel
theorem dX8_takeCity_80 : decode cX8_takeCity 80 = .ok (.getfield 40, 3) := by decide +kernel
theorem dX8_takeCity_83 : decode cX8_takeCity 83 = .ok (.iload_n 1, 1) := by decide +kernel
theorem dX8_takeCity_84 : decode cX8_takeCity 84 = .ok (.iaload, 1) := by decide +kernel
theorem dX8_takeCity_85 : decode cX8_takeCity 85 = .ok (.iastore, 1) := by decide +kernel
theorem dX8_takeCity_86 : decode cX8_takeCity 86 = .ok (.aload_n 0, 1) := by decide +kernel
theorem dX8_takeCity_87 : decode cX8_takeCity 87 = .ok (.getfield 28, 3) := by decide +kernel
theorem dX8_takeCity_90 : decode cX8_takeCity 90 = .ok (.iload_n 1, 1) := by decide +kernel
theorem dX8_takeCity_91 : decode cX8_takeCity 91 = .ok (.aload_n 0, 1) := by decide +kernel
theorem dX8_takeCity_92 : decode cX8_takeCity 92 = .ok (.getfield 43, 3) := by decide +kernel
theorem dX8_takeCity_95 : decode cX8_takeCity 95 = .ok (.iload_n 1, 1) := by decide +kernel
theorem dX8_takeCity_96 : decode cX8_takeCity 96 = .ok (.iaload, 1) := by decide +kernel
theorem dX8_takeCity_97 : decode cX8_takeCity 97 = .ok (.iastore, 1) := by decide +kernel
theorem dX8_takeCity_98 : decode cX8_takeCity 98 = .ok (.aload_n 0, 1) := by decide +kernel
theorem dX8_takeCity_99 : decode cX8_takeCity 99 = .ok (.getfield 31, 3) := by decide +kernel
theorem dX8_takeCity_102 : decode cX8_takeCity 102 = .ok (.iload_n 1, 1) := by decide +kernel
theorem dX8_takeCity_103 : decode cX8_takeCity 103 = .ok (.aload_n 0, 1) := by decide +kernel
theorem dX8_takeCity_104 : decode cX8_takeCity 104 = .ok (.getfield 46, 3) := by decide +kernel
theorem dX8_takeCity_107 : decode cX8_takeCity 107 = .ok (.iload_n 1, 1) := by decide +kernel
theorem dX8_takeCity_108 : decode cX8_takeCity 108 = .ok (.iaload, 1) := by decide +kernel
theorem dX8_takeCity_109 : decode cX8_takeCity 109 = .ok (.iastore, 1) := by decide +kernel
theorem dX8_takeCity_110 : decode cX8_takeCity 110 = .ok (.iinc 1 1, 3) := by decide +kernel
theorem dX8_takeCity_113 : decode cX8_takeCity 113 = .ok (.goto (-59), 3) := by decide +kernel
theorem dX8_takeCity_116 : decode cX8_takeCity 116 = .ok (.aload_n 0, 1) := by decide +kernel
theorem dX8_takeCity_117 : decode cX8_takeCity 117 = .ok (.iconst 0, 1) := by decide +kernel
theorem dX8_takeCity_118 : decode cX8_takeCity 118 = .ok (.putfield 116, 3) := by decide +kernel
theorem dX8_takeCity_121 : decode cX8_takeCity 121 = .ok (.aload_n 0, 1) := by decide +kernel
theorem dX8_takeCity_122 : decode cX8_takeCity 122 = .ok (.iconst 0, 1) := by decide +kernel
theorem dX8_takeCity_123 : decode cX8_takeCity 123 = .ok (.putfield 119, 3) := by decide +kernel
theorem dX8_takeCity_126 : decode cX8_takeCity 126 = .ok (.return_, 1) := by decide +kernel
set_option maxRecDepth 20000 in
theorem ggX8_readCity_X8_isSign : GoodIn wsX8_readCity wsX8_isSign := goodIn_r _ [8, 3, 9, 31, 32, 33, 34, 35, 36, 37, 38, 39, 40, 41, 42, 43, 44, 45, 46, 47, 48, 49, 50, 51, 52, 53, 54, 55, 56, 57, 58, 59, 60, 61, 62] (by decide +kernel) (by decide +kernel)
set_option maxRecDepth 20000 in
theorem gX8_readCity_X8_isSign : GoodIn wsX8_readCity (wsV RX8 122 RX8 yX8_isSign wsX8_isSign) := goodIn_app (goodIn_of _ (by decide +kernel)) ggX8_readCity_X8_isSign
set_option maxRecDepth 20000 in
theorem ggX8_readCity_X8_digit : GoodIn wsX8_readCity wsX8_digit := goodIn_r _ [13, 3, 9, 14, 15, 7, 16, 31, 32, 33, 34, 35, 36, 37, 38, 39, 40, 41, 42, 43, 44, 45, 46, 47, 48, 49, 50, 51, 52, 53, 54, 55, 56, 57, 58, 59, 60, 61, 62] (by decide +kernel) (by decide +kernel)
set_option maxRecDepth 20000 in
theorem gX8_readCity_X8_digit : GoodIn wsX8_readCity (wsV RX8 126 RX8 yX8_digit wsX8_digit) := goodIn_app (goodIn_of _ (by decide +kernel)) ggX8_readCity_X8_digit
set_option maxRecDepth 20000 in
theorem ggX8_readCity_X8_readTheRooms : GoodIn wsX8_readCity wsX8_readTheRooms := goodIn_r _ [20, 21, 22, 10, 11, 12, 7, 13, 3, 9, 14, 15, 16, 31, 32, 33, 34, 35, 36, 37, 38, 39, 40, 41, 42, 43, 44, 45, 46, 47, 48, 49, 50, 51, 52, 53, 54, 55, 56, 57, 58, 59, 60, 61, 62] (by decide +kernel) (by decide +kernel)
set_option maxRecDepth 20000 in
theorem gX8_readCity_X8_readTheRooms : GoodIn wsX8_readCity (wsV RX8 130 RX8 yX8_readTheRooms wsX8_readTheRooms) := goodIn_app (goodIn_of _ (by decide +kernel)) ggX8_readCity_X8_readTheRooms
set_option maxRecDepth 20000 in
theorem ggX8_readCity_X8_readArticle : GoodIn wsX8_readCity wsX8_readArticle := goodIn_r _ [26, 2, 3, 9, 27, 28, 29, 30, 10, 11, 12, 7, 13, 14, 15, 16, 31, 32, 33, 34, 35, 36, 37, 38, 39, 40, 41, 42, 43, 44, 45, 46, 47, 48, 49, 50, 51, 52, 53, 54, 55, 56, 57, 58, 59, 60, 61, 62] (by decide +kernel) (by decide +kernel)
set_option maxRecDepth 20000 in
theorem gX8_readCity_X8_readArticle : GoodIn wsX8_readCity (wsV RX8 133 RX8 yX8_readArticle wsX8_readArticle) := goodIn_app (goodIn_of _ (by decide +kernel)) ggX8_readCity_X8_readArticle
theorem dX8_readCity_0 : decode cX8_readCity 0 = .ok (.aload_n 0, 1) := by decide +kernel
theorem dX8_readCity_1 : decode cX8_readCity 1 = .ok (.iload_n 1, 1) := by decide +kernel
theorem dX8_readCity_2 : decode cX8_readCity 2 = .ok (.bipush 118, 2) := by decide +kernel
theorem dX8_readCity_4 : decode cX8_readCity 4 = .ok (.invokevirtual 122, 3) := by decide +kernel
theorem dX8_readCity_7 : decode cX8_readCity 7 = .ok (.ifCond .ne 5, 3) := by decide +kernel
theorem dX8_readCity_10 : decode cX8_readCity 10 = .ok (.iconst 0, 1) := by decide +kernel
theorem dX8_readCity_11 : decode cX8_readCity 11 = .ok (.ireturn, 1) := by decide +kernel
theorem dX8_readCity_12 : decode cX8_readCity 12 = .ok (.aload_n 0, 1) := by decide +kernel
theorem dX8_readCity_13 : decode cX8_readCity 13 = .ok (.iload_n 1, 1) := by decide +kernel
theorem dX8_readCity_14 : decode cX8_readCity 14 = .ok (.iconst 0, 1) := by decide +kernel
theorem dX8_readCity_15 : decode cX8_readCity 15 = .ok (.bipush 7, 2) := by decide +kernel
theorem dX8_readCity_17 : decode cX8_readCity 17 = .ok (.invokevirtual 126, 3) := by decide +kernel
theorem dX8_readCity_20 : decode cX8_readCity 20 = .ok (.istore_n 2, 1) := by decide +kernel
theorem dX8_readCity_21 : decode cX8_readCity 21 = .ok (.iload_n 2, 1) := by decide +kernel
theorem dX8_readCity_22 : decode cX8_readCity 22 = .ok (.bipush (-9), 2) := by decide +kernel
theorem dX8_readCity_24 : decode cX8_readCity 24 = .ok (.if_icmp .ne 5, 3) := by decide +kernel
theorem dX8_readCity_27 : decode cX8_readCity 27 = .ok (.iconst 0, 1) := by decide +kernel
theorem dX8_readCity_28 : decode cX8_readCity 28 = .ok (.ireturn, 1) := by decide +kernel
theorem dX8_readCity_29 : decode cX8_readCity 29 = .ok (.aload_n 0, 1) := by decide +kernel
theorem dX8_readCity_30 : decode cX8_readCity 30 = .ok (.iload_n 1, 1) := by decide +kernel
theorem dX8_readCity_31 : decode cX8_readCity 31 = .ok (.iconst 0, 1) := by decide +kernel
theorem dX8_readCity_32 : decode cX8_readCity 32 = .ok (.bipush 7, 2) := by decide +kernel
theorem dX8_readCity_34 : decode cX8_readCity 34 = .ok (.invokevirtual 126, 3) := by decide +kernel
theorem dX8_readCity_37 : decode cX8_readCity 37 = .ok (.istore_n 3, 1) := by decide +kernel
theorem dX8_readCity_38 : decode cX8_readCity 38 = .ok (.aload_n 0, 1) := by decide +kernel
theorem dX8_readCity_39 : decode cX8_readCity 39 = .ok (.bipush 8, 2) := by decide +kernel
theorem dX8_readCity_41 : decode cX8_readCity 41 = .ok (.iload_n 3, 1) := by decide +kernel
theorem dX8_readCity_42 : decode cX8_readCity 42 = .ok (.imul, 1) := by decide +kernel
theorem dX8_readCity_43 : decode cX8_readCity 43 = .ok (.iload_n 2, 1) := by decide +kernel
theorem dX8_readCity_44 : decode cX8_readCity 44 = .ok (.iadd, 1) := by decide +kernel
theorem dX8_readCity_45 : decode cX8_readCity 45 = .ok (.putfield 104, 3) := by decide +kernel
theorem dX8_readCity_48 : decode cX8_readCity 48 = .ok (.iload_n 3, 1) := by decide +kernel
theorem dX8_readCity_49 : decode cX8_readCity 49 = .ok (.bipush (-9), 2) := by decide +kernel
theorem dX8_readCity_51 : decode cX8_readCity 51 = .ok (.if_icmp .eq 21, 3) := by decide +kernel
theorem dX8_readCity_54 : decode cX8_readCity 54 = .ok (.aload_n 0, 1) := by decide +kernel
theorem dX8_readCity_55 : decode cX8_readCity 55 = .ok (.iload_n 1, 1) := by decide +kernel
theorem dX8_readCity_56 : decode cX8_readCity 56 = .ok (.bipush 47, 2) := by decide +kernel
theorem dX8_readCity_58 : decode cX8_readCity 58 = .ok (.invokevirtual 122, 3) := by decide +kernel
theorem dX8_readCity_61 : decode cX8_readCity 61 = .ok (.ifCond .eq 11, 3) := by decide +kernel
theorem dX8_readCity_64 : decode cX8_readCity 64 = .ok (.aload_n 0, 1) := by decide +kernel
theorem dX8_readCity_65 : decode cX8_readCity 65 = .ok (.iload_n 1, 1) := by decide +kernel
theorem dX8_readCity_66 : decode cX8_readCity 66 = .ok (.invokevirtual 130, 3) := by decide +kernel
theorem dX8_readCity_69 : decode cX8_readCity 69 = .ok (.ifCond .ne 5, 3) := by decide +kernel
theorem dX8_readCity_72 : decode cX8_readCity 72 = .ok (.iconst 0, 1) := by decide +kernel
theorem dX8_readCity_73 : decode cX8_readCity 73 = .ok (.ireturn, 1) := by decide +kernel
theorem dX8_readCity_74 : decode cX8_readCity 74 = .ok (.aload_n 0, 1) := by decide +kernel
theorem dX8_readCity_75 : decode cX8_readCity 75 = .ok (.iconst 0, 1) := by decide +kernel
theorem dX8_readCity_76 : decode cX8_readCity 76 = .ok (.putfield 113, 3) := by decide +kernel
theorem dX8_readCity_79 : decode cX8_readCity 79 = .ok (.aload_n 0, 1) := by decide +kernel
theorem dX8_readCity_80 : decode cX8_readCity 80 = .ok (.getfield 113, 3) := by decide +kernel
theorem dX8_readCity_83 : decode cX8_readCity 83 = .ok (.ifCond .eq 20, 3) := by decide +kernel
theorem dX8_readCity_86 : decode cX8_readCity 86 = .ok (.aload_n 0, 1) := by decide +kernel
theorem dX8_readCity_87 : decode cX8_readCity 87 = .ok (.getfield 113, 3) := by decide +kernel
theorem dX8_readCity_90 : decode cX8_readCity 90 = .ok (.bipush 6, 2) := by decide +kernel
theorem dX8_readCity_92 : decode cX8_readCity 92 = .ok (.if_icmp .ge 31, 3) := by decide +kernel
theorem dX8_readCity_95 : decode cX8_readCity 95 = .ok (.aload_n 0, 1) := by decide +kernel
theorem dX8_readCity_96 : decode cX8_readCity 96 = .ok (.getfield 80, 3) := by decide +kernel
theorem dX8_readCity_99 : decode cX8_readCity 99 = .ok (.iload_n 1, 1) := by decide +kernel
theorem dX8_readCity_100 : decode cX8_readCity 100 = .ok (.if_icmp .ge 23, 3) := by decide +kernel
theorem dX8_readCity_103 : decode cX8_readCity 103 = .ok (.aload_n 0, 1) := by decide +kernel
theorem dX8_readCity_104 : decode cX8_readCity 104 = .ok (.iload_n 1, 1) := by decide +kernel
theorem dX8_readCity_105 : decode cX8_readCity 105 = .ok (.bipush 59, 2) := by decide +kernel
theorem dX8_readCity_107 : decode cX8_readCity 107 = .ok (.invokevirtual 122, 3) := by decide +kernel
theorem dX8_readCity_110 : decode cX8_readCity 110 = .ok (.ifCond .eq 11, 3) := by decide +kernel
theorem dX8_readCity_113 : decode cX8_readCity 113 = .ok (.aload_n 0, 1) := by decide +kernel
theorem dX8_readCity_114 : decode cX8_readCity 114 = .ok (.iload_n 1, 1) := by decide +kernel
theorem dX8_readCity_115 : decode cX8_readCity 115 = .ok (.invokevirtual 133, 3) := by decide +kernel
theorem dX8_readCity_118 : decode cX8_readCity 118 = .ok (.ifCond .ne (-39), 3) := by decide +kernel
theorem dX8_readCity_121 : decode cX8_readCity 121 = .ok (.iconst 0, 1) := by decide +kernel
theorem dX8_readCity_122 : decode cX8_readCity 122 = .ok (.ireturn, 1) := by decide +kernel
theorem dX8_readCity_123 : decode cX8_readCity 123 = .ok (.aload_n 0, 1) := by decide +kernel
theorem dX8_readCity_124 : decode cX8_readCity 124 = .ok (.getfield 80, 3) := by decide +kernel
theorem dX8_readCity_127 : decode cX8_readCity 127 = .ok (.iload_n 1, 1) := by decide +kernel
theorem dX8_readCity_128 : decode cX8_readCity 128 = .ok (.if_icmp .ne 7, 3) := by decide +kernel
theorem dX8_readCity_131 : decode cX8_readCity 131 = .ok (.iconst 1, 1) := by decide +kernel
theorem dX8_readCity_132 : decode cX8_readCity 132 = .ok (.goto 4, 3) := by decide +kernel
theorem dX8_readCity_135 : decode cX8_readCity 135 = .ok (.iconst 0, 1) := by decide +kernel
theorem dX8_readCity_136 : decode cX8_readCity 136 = .ok (.ireturn, 1) := by decide +kernel
set_option maxRecDepth 20000 in
theorem ggX8_readTheRooms_X8_digit : GoodIn wsX8_readTheRooms wsX8_digit := goodIn_r _ [7, 8, 9, 10, 11, 6, 12, 13, 14, 15, 16, 17, 18, 19, 20, 21, 22, 23, 24, 25, 26, 27, 28, 29, 30, 31, 32, 33, 34, 35, 36, 37, 38, 39, 40, 41, 42, 43, 44] (by decide +kernel) (by decide +kernel)
set_option maxRecDepth 20000 in
theorem gX8_readTheRooms_X8_digit : GoodIn wsX8_readTheRooms (wsV RX8 126 RX8 yX8_digit wsX8_digit) := goodIn_app (goodIn_of _ (by decide +kernel)) ggX8_readTheRooms_X8_digit
theorem dX8_readTheRooms_0 : decode cX8_readTheRooms 0 = .ok (.aload_n 0, 1) := by decide +kernel
theorem dX8_readTheRooms_1 : decode cX8_readTheRooms 1 = .ok (.iconst 0, 1) := by decide +kernel
theorem dX8_readTheRooms_2 : decode cX8_readTheRooms 2 = .ok (.putfield 110, 3) := by decide +kernel
theorem dX8_readTheRooms_5 : decode cX8_readTheRooms 5 = .ok (.aload_n 0, 1) := by decide +kernel
theorem dX8_readTheRooms_6 : decode cX8_readTheRooms 6 = .ok (.getfield 110, 3) := by decide +kernel
theorem dX8_readTheRooms_9 : decode cX8_readTheRooms 9 = .ok (.iconst 4, 1) := by decide +kernel
theorem dX8_readTheRooms_10 : decode cX8_readTheRooms 10 = .ok (.if_icmp .ge 54, 3) := by decide +kernel
theorem dX8_readTheRooms_13 : decode cX8_readTheRooms 13 = .ok (.aload_n 0, 1) := by decide +kernel
theorem dX8_readTheRooms_14 : decode cX8_readTheRooms 14 = .ok (.iload_n 1, 1) := by decide +kernel
theorem dX8_readTheRooms_15 : decode cX8_readTheRooms 15 = .ok (.iconst 1, 1) := by decide +kernel
theorem dX8_readTheRooms_16 : decode cX8_readTheRooms 16 = .ok (.bipush 9, 2) := by decide +kernel
theorem dX8_readTheRooms_18 : decode cX8_readTheRooms 18 = .ok (.invokevirtual 126, 3) := by decide +kernel
theorem dX8_readTheRooms_21 : decode cX8_readTheRooms 21 = .ok (.istore_n 2, 1) := by decide +kernel
theorem dX8_readTheRooms_22 : decode cX8_readTheRooms 22 = .ok (.iload_n 2, 1) := by decide +kernel
theorem dX8_readTheRooms_23 : decode cX8_readTheRooms 23 = .ok (.bipush (-9), 2) := by decide +kernel
theorem dX8_readTheRooms_25 : decode cX8_readTheRooms 25 = .ok (.if_icmp .ne 16, 3) := by decide +kernel
theorem dX8_readTheRooms_28 : decode cX8_readTheRooms 28 = .ok (.aload_n 0, 1) := by decide +kernel
theorem dX8_readTheRooms_29 : decode cX8_readTheRooms 29 = .ok (.getfield 110, 3) := by decide +kernel
theorem dX8_readTheRooms_32 : decode cX8_readTheRooms 32 = .ok (.ifCond .le 7, 3) := by decide +kernel
theorem dX8_readTheRooms_35 : decode cX8_readTheRooms 35 = .ok (.iconst 1, 1) := by decide +kernel
theorem dX8_readTheRooms_36 : decode cX8_readTheRooms 36 = .ok (.goto 4, 3) := by decide +kernel
theorem dX8_readTheRooms_39 : decode cX8_readTheRooms 39 = .ok (.iconst 0, 1) := by decide +kernel
theorem dX8_readTheRooms_40 : decode cX8_readTheRooms 40 = .ok (.ireturn, 1) := by decide +kernel
theorem dX8_readTheRooms_41 : decode cX8_readTheRooms 41 = .ok (.aload_n 0, 1) := by decide +kernel
theorem dX8_readTheRooms_42 : decode cX8_readTheRooms 42 = .ok (.getfield 34, 3) := by decide +kernel
theorem dX8_readTheRooms_45 : decode cX8_readTheRooms 45 = .ok (.aload_n 0, 1) := by decide +kernel
theorem dX8_readTheRooms_46 : decode cX8_readTheRooms 46 = .ok (.getfield 110, 3) := by decide +kernel
theorem dX8_readTheRooms_49 : decode cX8_readTheRooms 49 = .ok (.iload_n 2, 1) := by decide +kernel
theorem dX8_readTheRooms_50 : decode cX8_readTheRooms 50 = .ok (.iastore, 1) := by decide +kernel
theorem dX8_readTheRooms_51 : decode cX8_readTheRooms 51 = .ok (.aload_n 0, 1) := by decide +kernel
theorem dX8_readTheRooms_52 : decode cX8_readTheRooms 52 = .ok (.dup, 1) := by decide +kernel
theorem dX8_readTheRooms_53 : decode cX8_readTheRooms 53 = .ok (.getfield 110, 3) := by decide +kernel
theorem dX8_readTheRooms_56 : decode cX8_readTheRooms 56 = .ok (.iconst 1, 1) := by decide +kernel
theorem dX8_readTheRooms_57 : decode cX8_readTheRooms 57 = .ok (.iadd, 1) := by decide +kernel
theorem dX8_readTheRooms_58 : decode cX8_readTheRooms 58 = .ok (.putfield 110, 3) := by decide +kernel
theorem dX8_readTheRooms_61 : decode cX8_readTheRooms 61 = .ok (.goto (-56), 3) := by decide +kernel
theorem dX8_readTheRooms_64 : decode cX8_readTheRooms 64 = .ok (.iconst 1, 1) := by decide +kernel
theorem dX8_readTheRooms_65 : decode cX8_readTheRooms 65 = .ok (.ireturn, 1) := by decide +kernel
set_option maxRecDepth 20000 in
theorem ggX8_readArticle_X8_digit : GoodIn wsX8_readArticle wsX8_digit := goodIn_r _ [12, 2, 3, 13, 14, 11, 15, 16, 17, 18, 19, 20, 21, 22, 23, 24, 25, 26, 27, 28, 29, 30, 31, 32, 33, 34, 35, 36, 37, 38, 39, 40, 41, 42, 43, 44, 45, 46, 47] (by decide +kernel) (by decide +kernel)
set_option maxRecDepth 20000 in
theorem gX8_readArticle_X8_digit : GoodIn wsX8_readArticle (wsV RX8 126 RX8 yX8_digit wsX8_digit) := goodIn_app (goodIn_of _ (by decide +kernel)) ggX8_readArticle_X8_digit
theorem dX8_readArticle_0 : decode cX8_readArticle 0 = .ok (.aload_n 0, 1) := by decide +kernel
theorem dX8_readArticle_1 : decode cX8_readArticle 1 = .ok (.getfield 113, 3) := by decide +kernel
theorem dX8_readArticle_4 : decode cX8_readArticle 4 = .ok (.istore_n 2, 1) := by decide +kernel
theorem dX8_readArticle_5 : decode cX8_readArticle 5 = .ok (.aload_n 0, 1) := by decide +kernel
theorem dX8_readArticle_6 : decode cX8_readArticle 6 = .ok (.getfield 80, 3) := by decide +kernel
theorem dX8_readArticle_9 : decode cX8_readArticle 9 = .ok (.iload_n 1, 1) := by decide +kernel
theorem dX8_readArticle_10 : decode cX8_readArticle 10 = .ok (.if_icmp .ge 15, 3) := by decide +kernel
theorem dX8_readArticle_13 : decode cX8_readArticle 13 = .ok (.aload_n 0, 1) := by decide +kernel
theorem dX8_readArticle_14 : decode cX8_readArticle 14 = .ok (.getfield 16, 3) := by decide +kernel
theorem dX8_readArticle_17 : decode cX8_readArticle 17 = .ok (.aload_n 0, 1) := by decide +kernel
theorem dX8_readArticle_18 : decode cX8_readArticle 18 = .ok (.getfield 80, 3) := by decide +kernel
theorem dX8_readArticle_21 : decode cX8_readArticle 21 = .ok (.iaload, 1) := by decide +kernel
theorem dX8_readArticle_22 : decode cX8_readArticle 22 = .ok (.goto 4, 3) := by decide +kernel
theorem dX8_readArticle_25 : decode cX8_readArticle 25 = .ok (.iconst 0, 1) := by decide +kernel
theorem dX8_readArticle_26 : decode cX8_readArticle 26 = .ok (.istore_n 3, 1) := by decide +kernel
theorem dX8_readArticle_27 : decode cX8_readArticle 27 = .ok (.aload_n 0, 1) := by decide +kernel
theorem dX8_readArticle_28 : decode cX8_readArticle 28 = .ok (.getfield 37, 3) := by decide +kernel
theorem dX8_readArticle_31 : decode cX8_readArticle 31 = .ok (.iload_n 2, 1) := by decide +kernel
theorem dX8_readArticle_32 : decode cX8_readArticle 32 = .ok (.iload_n 3, 1) := by decide +kernel
theorem dX8_readArticle_33 : decode cX8_readArticle 33 = .ok (.bipush 116, 2) := by decide +kernel
theorem dX8_readArticle_35 : decode cX8_readArticle 35 = .ok (.if_icmp .ne 7, 3) := by decide +kernel
theorem dX8_readArticle_38 : decode cX8_readArticle 38 = .ok (.iconst 0, 1) := by decide +kernel
theorem dX8_readArticle_39 : decode cX8_readArticle 39 = .ok (.goto 25, 3) := by decide +kernel
theorem dX8_readArticle_42 : decode cX8_readArticle 42 = .ok (.iload_n 3, 1) := by decide +kernel
theorem dX8_readArticle_43 : decode cX8_readArticle 43 = .ok (.bipush 98, 2) := by decide +kernel
theorem dX8_readArticle_45 : decode cX8_readArticle 45 = .ok (.if_icmp .ne 7, 3) := by decide +kernel
theorem dX8_readArticle_48 : decode cX8_readArticle 48 = .ok (.iconst 1, 1) := by decide +kernel
theorem dX8_readArticle_49 : decode cX8_readArticle 49 = .ok (.goto 15, 3) := by decide +kernel
theorem dX8_readArticle_52 : decode cX8_readArticle 52 = .ok (.iload_n 3, 1) := by decide +kernel
theorem dX8_readArticle_53 : decode cX8_readArticle 53 = .ok (.bipush 112, 2) := by decide +kernel
theorem dX8_readArticle_55 : decode cX8_readArticle 55 = .ok (.if_icmp .ne 7, 3) := by decide +kernel
theorem dX8_readArticle_58 : decode cX8_readArticle 58 = .ok (.iconst 2, 1) := by decide +kernel
theorem dX8_readArticle_59 : decode cX8_readArticle 59 = .ok (.goto 5, 3) := by decide +kernel
theorem dX8_readArticle_62 : decode cX8_readArticle 62 = .ok (.bipush (-9), 2) := by decide +kernel
theorem dX8_readArticle_64 : decode cX8_readArticle 64 = .ok (.iastore, 1) := by decide +kernel
theorem dX8_readArticle_65 : decode cX8_readArticle 65 = .ok (.aload_n 0, 1) := by decide +kernel
theorem dX8_readArticle_66 : decode cX8_readArticle 66 = .ok (.getfield 37, 3) := by decide +kernel
theorem dX8_readArticle_69 : decode cX8_readArticle 69 = .ok (.iload_n 2, 1) := by decide +kernel
theorem dX8_readArticle_70 : decode cX8_readArticle 70 = .ok (.iaload, 1) := by decide +kernel
theorem dX8_readArticle_71 : decode cX8_readArticle 71 = .ok (.bipush (-9), 2) := by decide +kernel
theorem dX8_readArticle_73 : decode cX8_readArticle 73 = .ok (.if_icmp .ne 5, 3) := by decide +kernel
theorem dX8_readArticle_76 : decode cX8_readArticle 76 = .ok (.iconst 0, 1) := by decide +kernel
theorem dX8_readArticle_77 : decode cX8_readArticle 77 = .ok (.ireturn, 1) := by decide +kernel
theorem dX8_readArticle_78 : decode cX8_readArticle 78 = .ok (.aload_n 0, 1) := by decide +kernel
theorem dX8_readArticle_79 : decode cX8_readArticle 79 = .ok (.dup, 1) := by decide +kernel
theorem dX8_readArticle_80 : decode cX8_readArticle 80 = .ok (.getfield 80, 3) := by decide +kernel
theorem dX8_readArticle_83 : decode cX8_readArticle 83 = .ok (.iconst 1, 1) := by decide +kernel
theorem dX8_readArticle_84 : decode cX8_readArticle 84 = .ok (.iadd, 1) := by decide +kernel
theorem dX8_readArticle_85 : decode cX8_readArticle 85 = .ok (.putfield 80, 3) := by decide +kernel
theorem dX8_readArticle_88 : decode cX8_readArticle 88 = .ok (.aload_n 0, 1) := by decide +kernel
theorem dX8_readArticle_89 : decode cX8_readArticle 89 = .ok (.getfield 40, 3) := by decide +kernel
theorem dX8_readArticle_92 : decode cX8_readArticle 92 = .ok (.iload_n 2, 1) := by decide +kernel
theorem dX8_readArticle_93 : decode cX8_readArticle 93 = .ok (.aload_n 0, 1) := by decide +kernel
theorem dX8_readArticle_94 : decode cX8_readArticle 94 = .ok (.iload_n 1, 1) := by decide +kernel
theorem dX8_readArticle_95 : decode cX8_readArticle 95 = .ok (.iconst 1, 1) := by decide +kernel
theorem dX8_readArticle_96 : decode cX8_readArticle 96 = .ok (.bipush 9, 2) := by decide +kernel
theorem dX8_readArticle_98 : decode cX8_readArticle 98 = .ok (.invokevirtual 126, 3) := by decide +kernel
theorem dX8_readArticle_101 : decode cX8_readArticle 101 = .ok (.iastore, 1) := by decide +kernel
theorem dX8_readArticle_102 : decode cX8_readArticle 102 = .ok (.aload_n 0, 1) := by decide +kernel
theorem dX8_readArticle_103 : decode cX8_readArticle 103 = .ok (.getfield 40, 3) := by decide +kernel
theorem dX8_readArticle_106 : decode cX8_readArticle 106 = .ok (.iload_n 2, 1) := by decide +kernel
theorem dX8_readArticle_107 : decode cX8_readArticle 107 = .ok (.iaload, 1) := by decide +kernel
theorem dX8_readArticle_108 : decode cX8_readArticle 108 = .ok (.bipush (-9), 2) := by decide +kernel
theorem dX8_readArticle_110 : decode cX8_readArticle 110 = .ok (.if_icmp .ne 5, 3) := by decide +kernel
theorem dX8_readArticle_113 : decode cX8_readArticle 113 = .ok (.iconst 0, 1) := by decide +kernel
theorem dX8_readArticle_114 : decode cX8_readArticle 114 = .ok (.ireturn, 1) := by decide +kernel
theorem dX8_readArticle_115 : decode cX8_readArticle 115 = .ok (.aload_n 0, 1) := by decide +kernel
theorem dX8_readArticle_116 : decode cX8_readArticle 116 = .ok (.getfield 43, 3) := by decide +kernel
theorem dX8_readArticle_119 : decode cX8_readArticle 119 = .ok (.iload_n 2, 1) := by decide +kernel
theorem dX8_readArticle_120 : decode cX8_readArticle 120 = .ok (.aload_n 0, 1) := by decide +kernel
theorem dX8_readArticle_121 : decode cX8_readArticle 121 = .ok (.iload_n 1, 1) := by decide +kernel
theorem dX8_readArticle_122 : decode cX8_readArticle 122 = .ok (.iconst 0, 1) := by decide +kernel
theorem dX8_readArticle_123 : decode cX8_readArticle 123 = .ok (.bipush 9, 2) := by decide +kernel
theorem dX8_readArticle_125 : decode cX8_readArticle 125 = .ok (.invokevirtual 126, 3) := by decide +kernel
theorem dX8_readArticle_128 : decode cX8_readArticle 128 = .ok (.iastore, 1) := by decide +kernel
theorem dX8_readArticle_129 : decode cX8_readArticle 129 = .ok (.aload_n 0, 1) := by decide +kernel
theorem dX8_readArticle_130 : decode cX8_readArticle 130 = .ok (.getfield 43, 3) := by decide +kernel
theorem dX8_readArticle_133 : decode cX8_readArticle 133 = .ok (.iload_n 2, 1) := by decide +kernel
theorem dX8_readArticle_134 : decode cX8_readArticle 134 = .ok (.iaload, 1) := by decide +kernel
theorem dX8_readArticle_135 : decode cX8_readArticle 135 = .ok (.bipush (-9), 2) := by decide +kernel
theorem dX8_readArticle_137 : decode cX8_readArticle 137 = .ok (.if_icmp .ne 5, 3) := by decide +kernel
theorem dX8_readArticle_140 : decode cX8_readArticle 140 = .ok (.iconst 0, 1) := by decide +kernel
theorem dX8_readArticle_141 : decode cX8_readArticle 141 = .ok (.ireturn, 1) := by decide +kernel
theorem dX8_readArticle_142 : decode cX8_readArticle 142 = .ok (.aload_n 0, 1) := by decide +kernel
theorem dX8_readArticle_143 : decode cX8_readArticle 143 = .ok (.iload_n 1, 1) := by decide +kernel
theorem dX8_readArticle_144 : decode cX8_readArticle 144 = .ok (.iconst 0, 1) := by decide +kernel
theorem dX8_readArticle_145 : decode cX8_readArticle 145 = .ok (.iconst 4, 1) := by decide +kernel
theorem dX8_readArticle_146 : decode cX8_readArticle 146 = .ok (.invokevirtual 126, 3) := by decide +kernel
theorem dX8_readArticle_149 : decode cX8_readArticle 149 = .ok (.istore 4, 2) := by decide +kernel
theorem dX8_readArticle_151 : decode cX8_readArticle 151 = .ok (.iload 4, 2) := by decide +kernel
theorem dX8_readArticle_153 : decode cX8_readArticle 153 = .ok (.bipush (-9), 2) := by decide +kernel
theorem dX8_readArticle_155 : decode cX8_readArticle 155 = .ok (.if_icmp .ne 5, 3) := by decide +kernel
theorem dX8_readArticle_158 : decode cX8_readArticle 158 = .ok (.iconst 0, 1) := by decide +kernel
theorem dX8_readArticle_159 : decode cX8_readArticle 159 = .ok (.ireturn, 1) := by decide +kernel
theorem dX8_readArticle_160 : decode cX8_readArticle 160 = .ok (.aload_n 0, 1) := by decide +kernel
theorem dX8_readArticle_161 : decode cX8_readArticle 161 = .ok (.iload_n 1, 1) := by decide +kernel
theorem dX8_readArticle_162 : decode cX8_readArticle 162 = .ok (.iconst 0, 1) := by decide +kernel
theorem dX8_readArticle_163 : decode cX8_readArticle 163 = .ok (.bipush 9, 2) := by decide +kernel
theorem dX8_readArticle_165 : decode cX8_readArticle 165 = .ok (.invokevirtual 126, 3) := by decide +kernel
theorem dX8_readArticle_168 : decode cX8_readArticle 168 = .ok (.istore 5, 2) := by decide +kernel
theorem dX8_readArticle_170 : decode cX8_readArticle 170 = .ok (.aload_n 0, 1) := by decide +kernel
theorem dX8_readArticle_171 : decode cX8_readArticle 171 = .ok (.getfield 46, 3) := by decide +kernel
theorem dX8_readArticle_174 : decode cX8_readArticle 174 = .ok (.iload_n 2, 1) := by decide +kernel
theorem dX8_readArticle_175 : decode cX8_readArticle 175 = .ok (.bipush 10, 2) := by decide +kernel
theorem dX8_readArticle_177 : decode cX8_readArticle 177 = .ok (.iload 4, 2) := by decide +kernel
theorem dX8_readArticle_179 : decode cX8_readArticle 179 = .ok (.imul, 1) := by decide +kernel
theorem dX8_readArticle_180 : decode cX8_readArticle 180 = .ok (.iload 5, 2) := by decide +kernel
theorem dX8_readArticle_182 : decode cX8_readArticle 182 = .ok (.iadd, 1) := by decide +kernel
theorem dX8_readArticle_183 : decode cX8_readArticle 183 = .ok (.iastore, 1) := by decide +kernel
theorem dX8_readArticle_184 : decode cX8_readArticle 184 = .ok (.aload_n 0, 1) := by decide +kernel
theorem dX8_readArticle_185 : decode cX8_readArticle 185 = .ok (.dup, 1) := by decide +kernel
theorem dX8_readArticle_186 : decode cX8_readArticle 186 = .ok (.getfield 113, 3) := by decide +kernel
theorem dX8_readArticle_189 : decode cX8_readArticle 189 = .ok (.iconst 1, 1) := by decide +kernel
theorem dX8_readArticle_190 : decode cX8_readArticle 190 = .ok (.iadd, 1) := by decide +kernel
theorem dX8_readArticle_191 : decode cX8_readArticle 191 = .ok (.putfield 113, 3) := by decide +kernel
theorem dX8_readArticle_194 : decode cX8_readArticle 194 = .ok (.iload 5, 2) := by decide +kernel
theorem dX8_readArticle_196 : decode cX8_readArticle 196 = .ok (.bipush (-9), 2) := by decide +kernel
theorem dX8_readArticle_198 : decode cX8_readArticle 198 = .ok (.if_icmp .eq 7, 3) := by decide +kernel
theorem dX8_readArticle_201 : decode cX8_readArticle 201 = .ok (.iconst 1, 1) := by decide +kernel
theorem dX8_readArticle_202 : decode cX8_readArticle 202 = .ok (.goto 4, 3) := by decide +kernel
theorem dX8_readArticle_205 : decode cX8_readArticle 205 = .ok (.iconst 0, 1) := by decide +kernel
theorem dX8_readArticle_206 : decode cX8_readArticle 206 = .ok (.ireturn, 1) := by decide +kernel
theorem dX8_laughOf_0 : decode cX8_laughOf 0 = .ok (.aload_n 0, 1) := by decide +kernel
theorem dX8_laughOf_1 : decode cX8_laughOf 1 = .ok (.getfield 22, 3) := by decide +kernel
theorem dX8_laughOf_4 : decode cX8_laughOf 4 = .ok (.iload_n 1, 1) := by decide +kernel
theorem dX8_laughOf_5 : decode cX8_laughOf 5 = .ok (.iaload, 1) := by decide +kernel
theorem dX8_laughOf_6 : decode cX8_laughOf 6 = .ok (.iconst 1, 1) := by decide +kernel
theorem dX8_laughOf_7 : decode cX8_laughOf 7 = .ok (.if_icmp .ne 25, 3) := by decide +kernel
theorem dX8_laughOf_10 : decode cX8_laughOf 10 = .ok (.aload_n 0, 1) := by decide +kernel
theorem dX8_laughOf_11 : decode cX8_laughOf 11 = .ok (.getfield 28, 3) := by decide +kernel
theorem dX8_laughOf_14 : decode cX8_laughOf 14 = .ok (.iload_n 1, 1) := by decide +kernel
theorem dX8_laughOf_15 : decode cX8_laughOf 15 = .ok (.iaload, 1) := by decide +kernel
theorem dX8_laughOf_16 : decode cX8_laughOf 16 = .ok (.ifCond .le 14, 3) := by decide +kernel
theorem dX8_laughOf_19 : decode cX8_laughOf 19 = .ok (.aload_n 0, 1) := by decide +kernel
theorem dX8_laughOf_20 : decode cX8_laughOf 20 = .ok (.getfield 28, 3) := by decide +kernel
theorem dX8_laughOf_23 : decode cX8_laughOf 23 = .ok (.iload_n 1, 1) := by decide +kernel
theorem dX8_laughOf_24 : decode cX8_laughOf 24 = .ok (.iaload, 1) := by decide +kernel
theorem dX8_laughOf_25 : decode cX8_laughOf 25 = .ok (.iconst 1, 1) := by decide +kernel
theorem dX8_laughOf_26 : decode cX8_laughOf 26 = .ok (.isub, 1) := by decide +kernel
theorem dX8_laughOf_27 : decode cX8_laughOf 27 = .ok (.goto 4, 3) := by decide +kernel
theorem dX8_laughOf_30 : decode cX8_laughOf 30 = .ok (.iconst 0, 1) := by decide +kernel
theorem dX8_laughOf_31 : decode cX8_laughOf 31 = .ok (.ireturn, 1) := by decide +kernel
theorem dX8_laughOf_32 : decode cX8_laughOf 32 = .ok (.aload_n 0, 1) := by decide +kernel
theorem dX8_laughOf_33 : decode cX8_laughOf 33 = .ok (.getfield 22, 3) := by decide +kernel
theorem dX8_laughOf_36 : decode cX8_laughOf 36 = .ok (.iload_n 1, 1) := by decide +kernel
theorem dX8_laughOf_37 : decode cX8_laughOf 37 = .ok (.iaload, 1) := by decide +kernel
theorem dX8_laughOf_38 : decode cX8_laughOf 38 = .ok (.ifCond .ne 12, 3) := by decide +kernel
theorem dX8_laughOf_41 : decode cX8_laughOf 41 = .ok (.aload_n 0, 1) := by decide +kernel
theorem dX8_laughOf_42 : decode cX8_laughOf 42 = .ok (.getfield 28, 3) := by decide +kernel
theorem dX8_laughOf_45 : decode cX8_laughOf 45 = .ok (.iload_n 1, 1) := by decide +kernel
theorem dX8_laughOf_46 : decode cX8_laughOf 46 = .ok (.iaload, 1) := by decide +kernel
theorem dX8_laughOf_47 : decode cX8_laughOf 47 = .ok (.goto 11, 3) := by decide +kernel
theorem dX8_laughOf_50 : decode cX8_laughOf 50 = .ok (.iconst 2, 1) := by decide +kernel
theorem dX8_laughOf_51 : decode cX8_laughOf 51 = .ok (.aload_n 0, 1) := by decide +kernel
theorem dX8_laughOf_52 : decode cX8_laughOf 52 = .ok (.getfield 28, 3) := by decide +kernel
theorem dX8_laughOf_55 : decode cX8_laughOf 55 = .ok (.iload_n 1, 1) := by decide +kernel
theorem dX8_laughOf_56 : decode cX8_laughOf 56 = .ok (.iaload, 1) := by decide +kernel
theorem dX8_laughOf_57 : decode cX8_laughOf 57 = .ok (.imul, 1) := by decide +kernel
theorem dX8_laughOf_58 : decode cX8_laughOf 58 = .ok (.ireturn, 1) := by decide +kernel
set_option maxRecDepth 20000 in
theorem ggX8_laughsOf_X8_isOf : GoodIn wsX8_laughsOf wsX8_isOf := goodIn_r _ [5] (by decide +kernel) (by decide +kernel)
set_option maxRecDepth 20000 in
theorem gX8_laughsOf_X8_isOf : GoodIn wsX8_laughsOf (va_wsS RX8 136 yX8_isOf wsX8_isOf) := goodIn_app (goodIn_of _ (by decide +kernel)) ggX8_laughsOf_X8_isOf
set_option maxRecDepth 20000 in
theorem ggX8_laughsOf_X8_laughOf : GoodIn wsX8_laughsOf wsX8_laughOf := goodIn_r _ [9, 10, 11, 12, 13, 14, 15, 16, 17, 18, 19, 20, 21, 22, 23, 24, 25, 26, 27, 28, 29, 30, 31, 32, 33, 34, 35, 36, 37, 38, 39, 40, 41, 42, 43] (by decide +kernel) (by decide +kernel)
set_option maxRecDepth 20000 in
theorem gX8_laughsOf_X8_laughOf : GoodIn wsX8_laughsOf (wsV RX8 139 RX8 yX8_laughOf wsX8_laughOf) := goodIn_app (goodIn_of _ (by decide +kernel)) ggX8_laughsOf_X8_laughOf
theorem dX8_laughsOf_0 : decode cX8_laughsOf 0 = .ok (.iconst 0, 1) := by decide +kernel
theorem dX8_laughsOf_1 : decode cX8_laughsOf 1 = .ok (.istore_n 2, 1) := by decide +kernel
theorem dX8_laughsOf_2 : decode cX8_laughsOf 2 = .ok (.iconst 0, 1) := by decide +kernel
theorem dX8_laughsOf_3 : decode cX8_laughsOf 3 = .ok (.istore_n 3, 1) := by decide +kernel
theorem dX8_laughsOf_4 : decode cX8_laughsOf 4 = .ok (.iload_n 3, 1) := by decide +kernel
theorem dX8_laughsOf_5 : decode cX8_laughsOf 5 = .ok (.aload_n 0, 1) := by decide +kernel
theorem dX8_laughsOf_6 : decode cX8_laughsOf 6 = .ok (.getfield 74, 3) := by decide +kernel
theorem dX8_laughsOf_9 : decode cX8_laughsOf 9 = .ok (.if_icmp .ge 29, 3) := by decide +kernel
theorem dX8_laughsOf_12 : decode cX8_laughsOf 12 = .ok (.iload_n 2, 1) := by decide +kernel
theorem dX8_laughsOf_13 : decode cX8_laughsOf 13 = .ok (.iload_n 1, 1) := by decide +kernel
theorem dX8_laughsOf_14 : decode cX8_laughsOf 14 = .ok (.iload_n 3, 1) := by decide +kernel
theorem dX8_laughsOf_15 : decode cX8_laughsOf 15 = .ok (.invokestatic 136, 3) := by decide +kernel
theorem dX8_laughsOf_18 : decode cX8_laughsOf 18 = .ok (.ifCond .eq 11, 3) := by decide +kernel
theorem dX8_laughsOf_21 : decode cX8_laughsOf 21 = .ok (.aload_n 0, 1) := by decide +kernel
theorem dX8_laughsOf_22 : decode cX8_laughsOf 22 = .ok (.iload_n 3, 1) := by decide +kernel
theorem dX8_laughsOf_23 : decode cX8_laughsOf 23 = .ok (.invokevirtual 139, 3) := by decide +kernel
theorem dX8_laughsOf_26 : decode cX8_laughsOf 26 = .ok (.goto 4, 3) := by decide +kernel
theorem dX8_laughsOf_29 : decode cX8_laughsOf 29 = .ok (.iconst 0, 1) := by decide +kernel
theorem dX8_laughsOf_30 : decode cX8_laughsOf 30 = .ok (.iadd, 1) := by decide +kernel
theorem dX8_laughsOf_31 : decode cX8_laughsOf 31 = .ok (.istore_n 2, 1) := by decide +kernel
theorem dX8_laughsOf_32 : decode cX8_laughsOf 32 = .ok (.iinc 3 1, 3) := by decide +kernel
theorem dX8_laughsOf_35 : decode cX8_laughsOf 35 = .ok (.goto (-31), 3) := by decide +kernel
theorem dX8_laughsOf_38 : decode cX8_laughsOf 38 = .ok (.iload_n 2, 1) := by decide +kernel
theorem dX8_laughsOf_39 : decode cX8_laughsOf 39 = .ok (.ireturn, 1) := by decide +kernel
set_option maxRecDepth 20000 in
theorem ggX8_ofArticle_X8_isArticle : GoodIn wsX8_ofArticle wsX8_isArticle := goodIn_r _ [10, 11, 16, 17, 18, 19, 20, 21, 22, 23, 24, 25, 26, 27, 28, 29, 30, 31, 32, 33, 34, 35, 36, 37, 38, 39, 40, 41, 42, 43, 44, 45, 46, 47] (by decide +kernel) (by decide +kernel)
set_option maxRecDepth 20000 in
theorem gX8_ofArticle_X8_isArticle : GoodIn wsX8_ofArticle (wsV RX8 142 RX8 yX8_isArticle wsX8_isArticle) := goodIn_app (goodIn_of _ (by decide +kernel)) ggX8_ofArticle_X8_isArticle
set_option maxRecDepth 20000 in
theorem ggX8_ofArticle_X8_laughOf : GoodIn wsX8_ofArticle wsX8_laughOf := goodIn_r _ [15, 1, 3, 16, 17, 18, 19, 20, 21, 22, 23, 24, 25, 26, 27, 28, 29, 30, 31, 32, 33, 34, 35, 36, 37, 38, 39, 40, 41, 42, 43, 44, 45, 46, 47] (by decide +kernel) (by decide +kernel)
set_option maxRecDepth 20000 in
theorem gX8_ofArticle_X8_laughOf : GoodIn wsX8_ofArticle (wsV RX8 139 RX8 yX8_laughOf wsX8_laughOf) := goodIn_app (goodIn_of _ (by decide +kernel)) ggX8_ofArticle_X8_laughOf
theorem dX8_ofArticle_0 : decode cX8_ofArticle 0 = .ok (.aload_n 0, 1) := by decide +kernel
theorem dX8_ofArticle_1 : decode cX8_ofArticle 1 = .ok (.iload_n 1, 1) := by decide +kernel
theorem dX8_ofArticle_2 : decode cX8_ofArticle 2 = .ok (.invokevirtual 142, 3) := by decide +kernel
theorem dX8_ofArticle_5 : decode cX8_ofArticle 5 = .ok (.ifCond .ne 5, 3) := by decide +kernel
theorem dX8_ofArticle_8 : decode cX8_ofArticle 8 = .ok (.iconst (-1), 1) := by decide +kernel
theorem dX8_ofArticle_9 : decode cX8_ofArticle 9 = .ok (.ireturn, 1) := by decide +kernel
theorem dX8_ofArticle_10 : decode cX8_ofArticle 10 = .ok (.iload_n 2, 1) := by decide +kernel
theorem dX8_ofArticle_11 : decode cX8_ofArticle 11 = .ok (.tableswitch 80 0 5 #[37, 44, 51, 58, 65, 71], 37) := by decide +kernel
theorem dX8_ofArticle_48 : decode cX8_ofArticle 48 = .ok (.aload_n 0, 1) := by decide +kernel
theorem dX8_ofArticle_49 : decode cX8_ofArticle 49 = .ok (.getfield 22, 3) := by decide +kernel
theorem dX8_ofArticle_52 : decode cX8_ofArticle 52 = .ok (.iload_n 1, 1) := by decide +kernel
theorem dX8_ofArticle_53 : decode cX8_ofArticle 53 = .ok (.iaload, 1) := by decide +kernel
theorem dX8_ofArticle_54 : decode cX8_ofArticle 54 = .ok (.ireturn, 1) := by decide +kernel
theorem dX8_ofArticle_55 : decode cX8_ofArticle 55 = .ok (.aload_n 0, 1) := by decide +kernel
theorem dX8_ofArticle_56 : decode cX8_ofArticle 56 = .ok (.getfield 25, 3) := by decide +kernel
theorem dX8_ofArticle_59 : decode cX8_ofArticle 59 = .ok (.iload_n 1, 1) := by decide +kernel
theorem dX8_ofArticle_60 : decode cX8_ofArticle 60 = .ok (.iaload, 1) := by decide +kernel
theorem dX8_ofArticle_61 : decode cX8_ofArticle 61 = .ok (.ireturn, 1) := by decide +kernel
theorem dX8_ofArticle_62 : decode cX8_ofArticle 62 = .ok (.aload_n 0, 1) := by decide +kernel
theorem dX8_ofArticle_63 : decode cX8_ofArticle 63 = .ok (.getfield 28, 3) := by decide +kernel
theorem dX8_ofArticle_66 : decode cX8_ofArticle 66 = .ok (.iload_n 1, 1) := by decide +kernel
theorem dX8_ofArticle_67 : decode cX8_ofArticle 67 = .ok (.iaload, 1) := by decide +kernel
theorem dX8_ofArticle_68 : decode cX8_ofArticle 68 = .ok (.ireturn, 1) := by decide +kernel
theorem dX8_ofArticle_69 : decode cX8_ofArticle 69 = .ok (.aload_n 0, 1) := by decide +kernel
theorem dX8_ofArticle_70 : decode cX8_ofArticle 70 = .ok (.getfield 31, 3) := by decide +kernel
theorem dX8_ofArticle_73 : decode cX8_ofArticle 73 = .ok (.iload_n 1, 1) := by decide +kernel
theorem dX8_ofArticle_74 : decode cX8_ofArticle 74 = .ok (.iaload, 1) := by decide +kernel
theorem dX8_ofArticle_75 : decode cX8_ofArticle 75 = .ok (.ireturn, 1) := by decide +kernel
theorem dX8_ofArticle_76 : decode cX8_ofArticle 76 = .ok (.aload_n 0, 1) := by decide +kernel
theorem dX8_ofArticle_77 : decode cX8_ofArticle 77 = .ok (.iload_n 1, 1) := by decide +kernel
theorem dX8_ofArticle_78 : decode cX8_ofArticle 78 = .ok (.invokevirtual 139, 3) := by decide +kernel
theorem dX8_ofArticle_81 : decode cX8_ofArticle 81 = .ok (.ireturn, 1) := by decide +kernel
theorem dX8_ofArticle_82 : decode cX8_ofArticle 82 = .ok (.aload_n 0, 1) := by decide +kernel
theorem dX8_ofArticle_83 : decode cX8_ofArticle 83 = .ok (.getfield 116, 3) := by decide +kernel
theorem dX8_ofArticle_86 : decode cX8_ofArticle 86 = .ok (.iload_n 1, 1) := by decide +kernel
theorem dX8_ofArticle_87 : decode cX8_ofArticle 87 = .ok (.ishr, 1) := by decide +kernel
theorem dX8_ofArticle_88 : decode cX8_ofArticle 88 = .ok (.iconst 1, 1) := by decide +kernel
theorem dX8_ofArticle_89 : decode cX8_ofArticle 89 = .ok (.iand, 1) := by decide +kernel
theorem dX8_ofArticle_90 : decode cX8_ofArticle 90 = .ok (.ireturn, 1) := by decide +kernel
theorem dX8_ofArticle_91 : decode cX8_ofArticle 91 = .ok (.bipush (-2), 2) := by decide +kernel
theorem dX8_ofArticle_93 : decode cX8_ofArticle 93 = .ok (.ireturn, 1) := by decide +kernel
set_option maxRecDepth 20000 in
theorem ggX8_space_X8_isRoom : GoodIn wsX8_space wsX8_isRoom := goodIn_r _ [6, 7, 8, 9, 10, 11, 12, 13, 14, 15, 16, 17, 18, 19, 20, 21, 22, 23, 24, 25, 26, 27, 28, 29, 30, 31, 32, 33, 34, 35, 36, 37, 38, 39] (by decide +kernel) (by decide +kernel)
set_option maxRecDepth 20000 in
theorem gX8_space_X8_isRoom : GoodIn wsX8_space (wsV RX8 145 RX8 yX8_isRoom wsX8_isRoom) := goodIn_app (goodIn_of _ (by decide +kernel)) ggX8_space_X8_isRoom
theorem dX8_space_0 : decode cX8_space 0 = .ok (.aload_n 0, 1) := by decide +kernel
theorem dX8_space_1 : decode cX8_space 1 = .ok (.iload_n 1, 1) := by decide +kernel
theorem dX8_space_2 : decode cX8_space 2 = .ok (.invokevirtual 145, 3) := by decide +kernel
theorem dX8_space_5 : decode cX8_space 5 = .ok (.ifCond .eq 12, 3) := by decide +kernel
theorem dX8_space_8 : decode cX8_space 8 = .ok (.aload_n 0, 1) := by decide +kernel
theorem dX8_space_9 : decode cX8_space 9 = .ok (.getfield 19, 3) := by decide +kernel
theorem dX8_space_12 : decode cX8_space 12 = .ok (.iload_n 1, 1) := by decide +kernel
theorem dX8_space_13 : decode cX8_space 13 = .ok (.iaload, 1) := by decide +kernel
theorem dX8_space_14 : decode cX8_space 14 = .ok (.goto 4, 3) := by decide +kernel
theorem dX8_space_17 : decode cX8_space 17 = .ok (.iconst (-1), 1) := by decide +kernel
theorem dX8_space_18 : decode cX8_space 18 = .ok (.ireturn, 1) := by decide +kernel
set_option maxRecDepth 20000 in
theorem ggX8_cheer_X8_isArticle : GoodIn wsX8_cheer wsX8_isArticle := goodIn_r _ [6, 7, 11, 12, 13, 14, 15, 16, 17, 18, 19, 20, 21, 22, 23, 24, 25, 26, 27, 28, 29, 30, 31, 32, 33, 34, 35, 36, 37, 38, 39, 40, 41, 42] (by decide +kernel) (by decide +kernel)
set_option maxRecDepth 20000 in
theorem gX8_cheer_X8_isArticle : GoodIn wsX8_cheer (wsV RX8 142 RX8 yX8_isArticle wsX8_isArticle) := goodIn_app (goodIn_of _ (by decide +kernel)) ggX8_cheer_X8_isArticle
set_option maxRecDepth 20000 in
theorem ggX8_cheer_X8_within : GoodIn wsX8_cheer wsX8_within := goodIn_r _ [10] (by decide +kernel) (by decide +kernel)
set_option maxRecDepth 20000 in
theorem gX8_cheer_X8_within : GoodIn wsX8_cheer (va_wsS RX8 70 yX8_within wsX8_within) := goodIn_app (goodIn_of _ (by decide +kernel)) ggX8_cheer_X8_within
theorem dX8_cheer_0 : decode cX8_cheer 0 = .ok (.aload_n 0, 1) := by decide +kernel
theorem dX8_cheer_1 : decode cX8_cheer 1 = .ok (.iload_n 1, 1) := by decide +kernel
theorem dX8_cheer_2 : decode cX8_cheer 2 = .ok (.invokevirtual 142, 3) := by decide +kernel
theorem dX8_cheer_5 : decode cX8_cheer 5 = .ok (.ifCond .ne 5, 3) := by decide +kernel
theorem dX8_cheer_8 : decode cX8_cheer 8 = .ok (.iconst (-1), 1) := by decide +kernel
theorem dX8_cheer_9 : decode cX8_cheer 9 = .ok (.ireturn, 1) := by decide +kernel
theorem dX8_cheer_10 : decode cX8_cheer 10 = .ok (.iload_n 2, 1) := by decide +kernel
theorem dX8_cheer_11 : decode cX8_cheer 11 = .ok (.iconst 0, 1) := by decide +kernel
theorem dX8_cheer_12 : decode cX8_cheer 12 = .ok (.bipush 9, 2) := by decide +kernel
theorem dX8_cheer_14 : decode cX8_cheer 14 = .ok (.invokestatic 70, 3) := by decide +kernel
theorem dX8_cheer_17 : decode cX8_cheer 17 = .ok (.ifCond .ne 6, 3) := by decide +kernel
theorem dX8_cheer_20 : decode cX8_cheer 20 = .ok (.bipush (-2), 2) := by decide +kernel
theorem dX8_cheer_22 : decode cX8_cheer 22 = .ok (.ireturn, 1) := by decide +kernel
theorem dX8_cheer_23 : decode cX8_cheer 23 = .ok (.aload_n 0, 1) := by decide +kernel
theorem dX8_cheer_24 : decode cX8_cheer 24 = .ok (.getfield 28, 3) := by decide +kernel
theorem dX8_cheer_27 : decode cX8_cheer 27 = .ok (.iload_n 1, 1) := by decide +kernel
theorem dX8_cheer_28 : decode cX8_cheer 28 = .ok (.iaload, 1) := by decide +kernel
theorem dX8_cheer_29 : decode cX8_cheer 29 = .ok (.istore_n 3, 1) := by decide +kernel
theorem dX8_cheer_30 : decode cX8_cheer 30 = .ok (.aload_n 0, 1) := by decide +kernel
theorem dX8_cheer_31 : decode cX8_cheer 31 = .ok (.getfield 28, 3) := by decide +kernel
theorem dX8_cheer_34 : decode cX8_cheer 34 = .ok (.iload_n 1, 1) := by decide +kernel
theorem dX8_cheer_35 : decode cX8_cheer 35 = .ok (.iload_n 2, 1) := by decide +kernel
theorem dX8_cheer_36 : decode cX8_cheer 36 = .ok (.iastore, 1) := by decide +kernel
theorem dX8_cheer_37 : decode cX8_cheer 37 = .ok (.iload_n 3, 1) := by decide +kernel
theorem dX8_cheer_38 : decode cX8_cheer 38 = .ok (.ireturn, 1) := by decide +kernel
set_option maxRecDepth 20000 in
theorem ggX8_miss_X8_isArticle : GoodIn wsX8_miss wsX8_isArticle := goodIn_r _ [6, 7, 11, 12, 13, 14, 15, 16, 17, 18, 19, 20, 21, 22, 23, 24, 25, 26, 27, 28, 29, 30, 31, 32, 33, 34, 35, 36, 37, 38, 39, 40, 41, 42] (by decide +kernel) (by decide +kernel)
set_option maxRecDepth 20000 in
theorem gX8_miss_X8_isArticle : GoodIn wsX8_miss (wsV RX8 142 RX8 yX8_isArticle wsX8_isArticle) := goodIn_app (goodIn_of _ (by decide +kernel)) ggX8_miss_X8_isArticle
set_option maxRecDepth 20000 in
theorem ggX8_miss_X8_within : GoodIn wsX8_miss wsX8_within := goodIn_r _ [10] (by decide +kernel) (by decide +kernel)
set_option maxRecDepth 20000 in
theorem gX8_miss_X8_within : GoodIn wsX8_miss (va_wsS RX8 70 yX8_within wsX8_within) := goodIn_app (goodIn_of _ (by decide +kernel)) ggX8_miss_X8_within
theorem dX8_miss_0 : decode cX8_miss 0 = .ok (.aload_n 0, 1) := by decide +kernel
theorem dX8_miss_1 : decode cX8_miss 1 = .ok (.iload_n 1, 1) := by decide +kernel
theorem dX8_miss_2 : decode cX8_miss 2 = .ok (.invokevirtual 142, 3) := by decide +kernel
theorem dX8_miss_5 : decode cX8_miss 5 = .ok (.ifCond .ne 5, 3) := by decide +kernel
theorem dX8_miss_8 : decode cX8_miss 8 = .ok (.iconst (-1), 1) := by decide +kernel
theorem dX8_miss_9 : decode cX8_miss 9 = .ok (.ireturn, 1) := by decide +kernel
theorem dX8_miss_10 : decode cX8_miss 10 = .ok (.iload_n 2, 1) := by decide +kernel
theorem dX8_miss_11 : decode cX8_miss 11 = .ok (.iconst 0, 1) := by decide +kernel
theorem dX8_miss_12 : decode cX8_miss 12 = .ok (.bipush 49, 2) := by decide +kernel
theorem dX8_miss_14 : decode cX8_miss 14 = .ok (.invokestatic 70, 3) := by decide +kernel
theorem dX8_miss_17 : decode cX8_miss 17 = .ok (.ifCond .ne 6, 3) := by decide +kernel
theorem dX8_miss_20 : decode cX8_miss 20 = .ok (.bipush (-2), 2) := by decide +kernel
theorem dX8_miss_22 : decode cX8_miss 22 = .ok (.ireturn, 1) := by decide +kernel
theorem dX8_miss_23 : decode cX8_miss 23 = .ok (.aload_n 0, 1) := by decide +kernel
theorem dX8_miss_24 : decode cX8_miss 24 = .ok (.getfield 31, 3) := by decide +kernel
theorem dX8_miss_27 : decode cX8_miss 27 = .ok (.iload_n 1, 1) := by decide +kernel
theorem dX8_miss_28 : decode cX8_miss 28 = .ok (.iaload, 1) := by decide +kernel
theorem dX8_miss_29 : decode cX8_miss 29 = .ok (.istore_n 3, 1) := by decide +kernel
theorem dX8_miss_30 : decode cX8_miss 30 = .ok (.aload_n 0, 1) := by decide +kernel
theorem dX8_miss_31 : decode cX8_miss 31 = .ok (.getfield 31, 3) := by decide +kernel
theorem dX8_miss_34 : decode cX8_miss 34 = .ok (.iload_n 1, 1) := by decide +kernel
theorem dX8_miss_35 : decode cX8_miss 35 = .ok (.iload_n 2, 1) := by decide +kernel
theorem dX8_miss_36 : decode cX8_miss 36 = .ok (.iastore, 1) := by decide +kernel
theorem dX8_miss_37 : decode cX8_miss 37 = .ok (.iload_n 3, 1) := by decide +kernel
theorem dX8_miss_38 : decode cX8_miss 38 = .ok (.ireturn, 1) := by decide +kernel
set_option maxRecDepth 20000 in
theorem ggX8_widen_X8_isRoom : GoodIn wsX8_widen wsX8_isRoom := goodIn_r _ [6, 7, 11, 12, 13, 14, 15, 16, 17, 18, 19, 20, 21, 22, 23, 24, 25, 26, 27, 28, 29, 30, 31, 32, 33, 34, 35, 36, 37, 38, 39, 40, 41, 42] (by decide +kernel) (by decide +kernel)
set_option maxRecDepth 20000 in
theorem gX8_widen_X8_isRoom : GoodIn wsX8_widen (wsV RX8 145 RX8 yX8_isRoom wsX8_isRoom) := goodIn_app (goodIn_of _ (by decide +kernel)) ggX8_widen_X8_isRoom
set_option maxRecDepth 20000 in
theorem ggX8_widen_X8_within : GoodIn wsX8_widen wsX8_within := goodIn_r _ [10] (by decide +kernel) (by decide +kernel)
set_option maxRecDepth 20000 in
theorem gX8_widen_X8_within : GoodIn wsX8_widen (va_wsS RX8 70 yX8_within wsX8_within) := goodIn_app (goodIn_of _ (by decide +kernel)) ggX8_widen_X8_within
theorem dX8_widen_0 : decode cX8_widen 0 = .ok (.aload_n 0, 1) := by decide +kernel
theorem dX8_widen_1 : decode cX8_widen 1 = .ok (.iload_n 1, 1) := by decide +kernel
theorem dX8_widen_2 : decode cX8_widen 2 = .ok (.invokevirtual 145, 3) := by decide +kernel
theorem dX8_widen_5 : decode cX8_widen 5 = .ok (.ifCond .ne 5, 3) := by decide +kernel
theorem dX8_widen_8 : decode cX8_widen 8 = .ok (.iconst (-1), 1) := by decide +kernel
theorem dX8_widen_9 : decode cX8_widen 9 = .ok (.ireturn, 1) := by decide +kernel
theorem dX8_widen_10 : decode cX8_widen 10 = .ok (.iload_n 2, 1) := by decide +kernel
theorem dX8_widen_11 : decode cX8_widen 11 = .ok (.iconst 1, 1) := by decide +kernel
theorem dX8_widen_12 : decode cX8_widen 12 = .ok (.bipush 9, 2) := by decide +kernel
theorem dX8_widen_14 : decode cX8_widen 14 = .ok (.invokestatic 70, 3) := by decide +kernel
theorem dX8_widen_17 : decode cX8_widen 17 = .ok (.ifCond .ne 6, 3) := by decide +kernel
theorem dX8_widen_20 : decode cX8_widen 20 = .ok (.bipush (-2), 2) := by decide +kernel
theorem dX8_widen_22 : decode cX8_widen 22 = .ok (.ireturn, 1) := by decide +kernel
theorem dX8_widen_23 : decode cX8_widen 23 = .ok (.aload_n 0, 1) := by decide +kernel
theorem dX8_widen_24 : decode cX8_widen 24 = .ok (.getfield 19, 3) := by decide +kernel
theorem dX8_widen_27 : decode cX8_widen 27 = .ok (.iload_n 1, 1) := by decide +kernel
theorem dX8_widen_28 : decode cX8_widen 28 = .ok (.iaload, 1) := by decide +kernel
theorem dX8_widen_29 : decode cX8_widen 29 = .ok (.istore_n 3, 1) := by decide +kernel
theorem dX8_widen_30 : decode cX8_widen 30 = .ok (.aload_n 0, 1) := by decide +kernel
theorem dX8_widen_31 : decode cX8_widen 31 = .ok (.getfield 19, 3) := by decide +kernel
theorem dX8_widen_34 : decode cX8_widen 34 = .ok (.iload_n 1, 1) := by decide +kernel
theorem dX8_widen_35 : decode cX8_widen 35 = .ok (.iload_n 2, 1) := by decide +kernel
theorem dX8_widen_36 : decode cX8_widen 36 = .ok (.iastore, 1) := by decide +kernel
theorem dX8_widen_37 : decode cX8_widen 37 = .ok (.iload_n 3, 1) := by decide +kernel
theorem dX8_widen_38 : decode cX8_widen 38 = .ok (.ireturn, 1) := by decide +kernel
set_option maxRecDepth 20000 in
theorem ggX8_shift_X8_isCorner : GoodIn wsX8_shift wsX8_isCorner := goodIn_r _ [6, 7, 8, 5, 9] (by decide +kernel) (by decide +kernel)
set_option maxRecDepth 20000 in
theorem gX8_shift_X8_isCorner : GoodIn wsX8_shift (va_wsS RX8 148 yX8_isCorner wsX8_isCorner) := goodIn_app (goodIn_of _ (by decide +kernel)) ggX8_shift_X8_isCorner
theorem dX8_shift_0 : decode cX8_shift 0 = .ok (.iload_n 1, 1) := by decide +kernel
theorem dX8_shift_1 : decode cX8_shift 1 = .ok (.invokestatic 148, 3) := by decide +kernel
theorem dX8_shift_4 : decode cX8_shift 4 = .ok (.ifCond .ne 6, 3) := by decide +kernel
theorem dX8_shift_7 : decode cX8_shift 7 = .ok (.bipush (-2), 2) := by decide +kernel
theorem dX8_shift_9 : decode cX8_shift 9 = .ok (.ireturn, 1) := by decide +kernel
theorem dX8_shift_10 : decode cX8_shift 10 = .ok (.aload_n 0, 1) := by decide +kernel
theorem dX8_shift_11 : decode cX8_shift 11 = .ok (.getfield 74, 3) := by decide +kernel
theorem dX8_shift_14 : decode cX8_shift 14 = .ok (.ifCond .ne 6, 3) := by decide +kernel
theorem dX8_shift_17 : decode cX8_shift 17 = .ok (.bipush (-3), 2) := by decide +kernel
theorem dX8_shift_19 : decode cX8_shift 19 = .ok (.ireturn, 1) := by decide +kernel
theorem dX8_shift_20 : decode cX8_shift 20 = .ok (.aload_n 0, 1) := by decide +kernel
theorem dX8_shift_21 : decode cX8_shift 21 = .ok (.getfield 107, 3) := by decide +kernel
theorem dX8_shift_24 : decode cX8_shift 24 = .ok (.istore_n 2, 1) := by decide +kernel
theorem dX8_shift_25 : decode cX8_shift 25 = .ok (.aload_n 0, 1) := by decide +kernel
theorem dX8_shift_26 : decode cX8_shift 26 = .ok (.iload_n 1, 1) := by decide +kernel
theorem dX8_shift_27 : decode cX8_shift 27 = .ok (.putfield 107, 3) := by decide +kernel
theorem dX8_shift_30 : decode cX8_shift 30 = .ok (.iload_n 2, 1) := by decide +kernel
theorem dX8_shift_31 : decode cX8_shift 31 = .ok (.ireturn, 1) := by decide +kernel
set_option maxRecDepth 20000 in
theorem ggX8_companyOf_X8_laughsOf : GoodIn wsX8_companyOf wsX8_laughsOf := goodIn_r _ [7, 1, 8, 9, 6, 10, 11, 12, 13, 14, 15, 16, 17, 18, 19, 20, 21, 22, 23, 24, 25, 26, 27, 28, 29, 30, 31, 32, 33, 34, 35, 36, 37, 38, 39, 40, 41, 42, 43, 44, 45, 46, 47, 48] (by decide +kernel) (by decide +kernel)
set_option maxRecDepth 20000 in
theorem gX8_companyOf_X8_laughsOf : GoodIn wsX8_companyOf (wsV RX8 151 RX8 yX8_laughsOf wsX8_laughsOf) := goodIn_app (goodIn_of _ (by decide +kernel)) ggX8_companyOf_X8_laughsOf
set_option maxRecDepth 20000 in
theorem ggX8_companyOf_X8_isOf : GoodIn wsX8_companyOf wsX8_isOf := goodIn_r _ [10] (by decide +kernel) (by decide +kernel)
set_option maxRecDepth 20000 in
theorem gX8_companyOf_X8_isOf : GoodIn wsX8_companyOf (va_wsS RX8 136 yX8_isOf wsX8_isOf) := goodIn_app (goodIn_of _ (by decide +kernel)) ggX8_companyOf_X8_isOf
set_option maxRecDepth 20000 in
theorem ggX8_companyOf_X8_laughOf : GoodIn wsX8_companyOf wsX8_laughOf := goodIn_r _ [14, 15, 16, 17, 18, 19, 20, 21, 22, 23, 24, 25, 26, 27, 28, 29, 30, 31, 32, 33, 34, 35, 36, 37, 38, 39, 40, 41, 42, 43, 44, 45, 46, 47, 48] (by decide +kernel) (by decide +kernel)
set_option maxRecDepth 20000 in
theorem gX8_companyOf_X8_laughOf : GoodIn wsX8_companyOf (wsV RX8 139 RX8 yX8_laughOf wsX8_laughOf) := goodIn_app (goodIn_of _ (by decide +kernel)) ggX8_companyOf_X8_laughOf
theorem dX8_companyOf_0 : decode cX8_companyOf 0 = .ok (.iload_n 1, 1) := by decide +kernel
theorem dX8_companyOf_1 : decode cX8_companyOf 1 = .ok (.istore_n 2, 1) := by decide +kernel
theorem dX8_companyOf_2 : decode cX8_companyOf 2 = .ok (.iconst 0, 1) := by decide +kernel
theorem dX8_companyOf_3 : decode cX8_companyOf 3 = .ok (.istore_n 3, 1) := by decide +kernel
theorem dX8_companyOf_4 : decode cX8_companyOf 4 = .ok (.iload_n 3, 1) := by decide +kernel
theorem dX8_companyOf_5 : decode cX8_companyOf 5 = .ok (.bipush 6, 2) := by decide +kernel
theorem dX8_companyOf_7 : decode cX8_companyOf 7 = .ok (.if_icmp .ge 81, 3) := by decide +kernel
theorem dX8_companyOf_10 : decode cX8_companyOf 10 = .ok (.aload_n 0, 1) := by decide +kernel
theorem dX8_companyOf_11 : decode cX8_companyOf 11 = .ok (.iload_n 2, 1) := by decide +kernel
theorem dX8_companyOf_12 : decode cX8_companyOf 12 = .ok (.invokevirtual 151, 3) := by decide +kernel
theorem dX8_companyOf_15 : decode cX8_companyOf 15 = .ok (.istore 4, 2) := by decide +kernel
theorem dX8_companyOf_17 : decode cX8_companyOf 17 = .ok (.iconst 0, 1) := by decide +kernel
theorem dX8_companyOf_18 : decode cX8_companyOf 18 = .ok (.istore 5, 2) := by decide +kernel
theorem dX8_companyOf_20 : decode cX8_companyOf 20 = .ok (.iconst 0, 1) := by decide +kernel
theorem dX8_companyOf_21 : decode cX8_companyOf 21 = .ok (.istore 6, 2) := by decide +kernel
theorem dX8_companyOf_23 : decode cX8_companyOf 23 = .ok (.iload 6, 2) := by decide +kernel
theorem dX8_companyOf_25 : decode cX8_companyOf 25 = .ok (.aload_n 0, 1) := by decide +kernel
theorem dX8_companyOf_26 : decode cX8_companyOf 26 = .ok (.getfield 74, 3) := by decide +kernel
theorem dX8_companyOf_29 : decode cX8_companyOf 29 = .ok (.if_icmp .ge 50, 3) := by decide +kernel
theorem dX8_companyOf_32 : decode cX8_companyOf 32 = .ok (.iload 5, 2) := by decide +kernel
theorem dX8_companyOf_34 : decode cX8_companyOf 34 = .ok (.iload_n 2, 1) := by decide +kernel
theorem dX8_companyOf_35 : decode cX8_companyOf 35 = .ok (.iload 6, 2) := by decide +kernel
theorem dX8_companyOf_37 : decode cX8_companyOf 37 = .ok (.invokestatic 136, 3) := by decide +kernel
theorem dX8_companyOf_40 : decode cX8_companyOf 40 = .ok (.ifCond .eq 29, 3) := by decide +kernel
theorem dX8_companyOf_43 : decode cX8_companyOf 43 = .ok (.iload 4, 2) := by decide +kernel
theorem dX8_companyOf_45 : decode cX8_companyOf 45 = .ok (.aload_n 0, 1) := by decide +kernel
theorem dX8_companyOf_46 : decode cX8_companyOf 46 = .ok (.iload 6, 2) := by decide +kernel
theorem dX8_companyOf_48 : decode cX8_companyOf 48 = .ok (.invokevirtual 139, 3) := by decide +kernel
theorem dX8_companyOf_51 : decode cX8_companyOf 51 = .ok (.isub, 1) := by decide +kernel
theorem dX8_companyOf_52 : decode cX8_companyOf 52 = .ok (.aload_n 0, 1) := by decide +kernel
theorem dX8_companyOf_53 : decode cX8_companyOf 53 = .ok (.getfield 31, 3) := by decide +kernel
theorem dX8_companyOf_56 : decode cX8_companyOf 56 = .ok (.iload 6, 2) := by decide +kernel
theorem dX8_companyOf_58 : decode cX8_companyOf 58 = .ok (.iaload, 1) := by decide +kernel
theorem dX8_companyOf_59 : decode cX8_companyOf 59 = .ok (.if_icmp .lt 10, 3) := by decide +kernel
theorem dX8_companyOf_62 : decode cX8_companyOf 62 = .ok (.iconst 1, 1) := by decide +kernel
theorem dX8_companyOf_63 : decode cX8_companyOf 63 = .ok (.iload 6, 2) := by decide +kernel
theorem dX8_companyOf_65 : decode cX8_companyOf 65 = .ok (.ishl, 1) := by decide +kernel
theorem dX8_companyOf_66 : decode cX8_companyOf 66 = .ok (.goto 4, 3) := by decide +kernel
theorem dX8_companyOf_69 : decode cX8_companyOf 69 = .ok (.iconst 0, 1) := by decide +kernel
theorem dX8_companyOf_70 : decode cX8_companyOf 70 = .ok (.ior, 1) := by decide +kernel
theorem dX8_companyOf_71 : decode cX8_companyOf 71 = .ok (.istore 5, 2) := by decide +kernel
theorem dX8_companyOf_73 : decode cX8_companyOf 73 = .ok (.iinc 6 1, 3) := by decide +kernel
theorem dX8_companyOf_76 : decode cX8_companyOf 76 = .ok (.goto (-53), 3) := by decide +kernel
theorem dX8_companyOf_79 : decode cX8_companyOf 79 = .ok (.iload 5, 2) := by decide +kernel
theorem dX8_companyOf_81 : decode cX8_companyOf 81 = .ok (.istore_n 2, 1) := by decide +kernel
theorem dX8_companyOf_82 : decode cX8_companyOf 82 = .ok (.iinc 3 1, 3) := by decide +kernel
theorem dX8_companyOf_85 : decode cX8_companyOf 85 = .ok (.goto (-81), 3) := by decide +kernel
theorem dX8_companyOf_88 : decode cX8_companyOf 88 = .ok (.iload_n 2, 1) := by decide +kernel
theorem dX8_companyOf_89 : decode cX8_companyOf 89 = .ok (.ireturn, 1) := by decide +kernel
theorem dX8_there_0 : decode cX8_there 0 = .ok (.aload_n 0, 1) := by decide +kernel
theorem dX8_there_1 : decode cX8_there 1 = .ok (.getfield 74, 3) := by decide +kernel
theorem dX8_there_4 : decode cX8_there 4 = .ok (.ifCond .ne 8, 3) := by decide +kernel
theorem dX8_there_7 : decode cX8_there 7 = .ok (.bipush (-3), 2) := by decide +kernel
theorem dX8_there_9 : decode cX8_there 9 = .ok (.goto 7, 3) := by decide +kernel
theorem dX8_there_12 : decode cX8_there 12 = .ok (.aload_n 0, 1) := by decide +kernel
theorem dX8_there_13 : decode cX8_there 13 = .ok (.getfield 116, 3) := by decide +kernel
theorem dX8_there_16 : decode cX8_there 16 = .ok (.ireturn, 1) := by decide +kernel
set_option maxRecDepth 20000 in
theorem ggX8_company_X8_isSet : GoodIn wsX8_company wsX8_isSet := goodIn_r _ [6, 1, 25, 26, 27, 28, 29, 30, 31, 32, 33, 34, 35, 36, 37, 38, 39, 40, 41, 42, 43, 44, 45, 46, 47, 48, 49, 50, 51, 52, 53, 54, 55, 56] (by decide +kernel) (by decide +kernel)
set_option maxRecDepth 20000 in
theorem gX8_company_X8_isSet : GoodIn wsX8_company (wsV RX8 154 RX8 yX8_isSet wsX8_isSet) := goodIn_app (goodIn_of _ (by decide +kernel)) ggX8_company_X8_isSet
set_option maxRecDepth 20000 in
theorem ggX8_company_X8_companyOf : GoodIn wsX8_company wsX8_companyOf := goodIn_r _ [10, 1, 11, 12, 13, 14, 5, 15, 16, 17, 18, 19, 20, 21, 22, 23, 24, 25, 26, 27, 28, 29, 30, 31, 32, 33, 34, 35, 36, 37, 38, 39, 40, 41, 42, 43, 44, 45, 46, 47, 48, 49, 50, 51, 52, 53, 54, 55, 56] (by decide +kernel) (by decide +kernel)
set_option maxRecDepth 20000 in
theorem gX8_company_X8_companyOf : GoodIn wsX8_company (wsV RX8 157 RX8 yX8_companyOf wsX8_companyOf) := goodIn_app (goodIn_of _ (by decide +kernel)) ggX8_company_X8_companyOf
theorem dX8_company_0 : decode cX8_company 0 = .ok (.aload_n 0, 1) := by decide +kernel
theorem dX8_company_1 : decode cX8_company 1 = .ok (.getfield 74, 3) := by decide +kernel
theorem dX8_company_4 : decode cX8_company 4 = .ok (.ifCond .ne 6, 3) := by decide +kernel
theorem dX8_company_7 : decode cX8_company 7 = .ok (.bipush (-3), 2) := by decide +kernel
theorem dX8_company_9 : decode cX8_company 9 = .ok (.ireturn, 1) := by decide +kernel
theorem dX8_company_10 : decode cX8_company 10 = .ok (.aload_n 0, 1) := by decide +kernel
theorem dX8_company_11 : decode cX8_company 11 = .ok (.iload_n 1, 1) := by decide +kernel
theorem dX8_company_12 : decode cX8_company 12 = .ok (.invokevirtual 154, 3) := by decide +kernel
theorem dX8_company_15 : decode cX8_company 15 = .ok (.ifCond .eq 11, 3) := by decide +kernel
theorem dX8_company_18 : decode cX8_company 18 = .ok (.aload_n 0, 1) := by decide +kernel
theorem dX8_company_19 : decode cX8_company 19 = .ok (.iload_n 1, 1) := by decide +kernel
theorem dX8_company_20 : decode cX8_company 20 = .ok (.invokevirtual 157, 3) := by decide +kernel
theorem dX8_company_23 : decode cX8_company 23 = .ok (.goto 5, 3) := by decide +kernel
theorem dX8_company_26 : decode cX8_company 26 = .ok (.bipush (-2), 2) := by decide +kernel
theorem dX8_company_28 : decode cX8_company 28 = .ok (.ireturn, 1) := by decide +kernel
set_option maxRecDepth 20000 in
theorem ggX8_comes_X8_companyOf : GoodIn wsX8_comes wsX8_companyOf := goodIn_r _ [6, 7, 8, 9, 10, 11, 5, 12, 13, 14, 15, 16, 17, 18, 19, 20, 21, 22, 23, 24, 25, 26, 27, 28, 29, 30, 31, 32, 33, 34, 35, 36, 37, 38, 39, 40, 41, 42, 43, 44, 45, 46, 47, 48, 49, 50, 51, 52, 53] (by decide +kernel) (by decide +kernel)
set_option maxRecDepth 20000 in
theorem gX8_comes_X8_companyOf : GoodIn wsX8_comes (wsV RX8 157 RX8 yX8_companyOf wsX8_companyOf) := goodIn_app (goodIn_of _ (by decide +kernel)) ggX8_comes_X8_companyOf
theorem dX8_comes_0 : decode cX8_comes 0 = .ok (.aload_n 0, 1) := by decide +kernel
theorem dX8_comes_1 : decode cX8_comes 1 = .ok (.aload_n 0, 1) := by decide +kernel
theorem dX8_comes_2 : decode cX8_comes 2 = .ok (.iload_n 1, 1) := by decide +kernel
theorem dX8_comes_3 : decode cX8_comes 3 = .ok (.invokevirtual 157, 3) := by decide +kernel
theorem dX8_comes_6 : decode cX8_comes 6 = .ok (.putfield 116, 3) := by decide +kernel
theorem dX8_comes_9 : decode cX8_comes 9 = .ok (.iload_n 1, 1) := by decide +kernel
theorem dX8_comes_10 : decode cX8_comes 10 = .ok (.aload_n 0, 1) := by decide +kernel
theorem dX8_comes_11 : decode cX8_comes 11 = .ok (.getfield 116, 3) := by decide +kernel
theorem dX8_comes_14 : decode cX8_comes 14 = .ok (.iconst (-1), 1) := by decide +kernel
theorem dX8_comes_15 : decode cX8_comes 15 = .ok (.ixor, 1) := by decide +kernel
theorem dX8_comes_16 : decode cX8_comes 16 = .ok (.iand, 1) := by decide +kernel
theorem dX8_comes_17 : decode cX8_comes 17 = .ok (.ireturn, 1) := by decide +kernel
set_option maxRecDepth 20000 in
theorem ggX8_send_X8_isArticle : GoodIn wsX8_send wsX8_isArticle := goodIn_r _ [6, 7, 30, 31, 32, 33, 34, 35, 36, 37, 38, 39, 40, 41, 42, 43, 44, 45, 46, 47, 48, 49, 50, 51, 52, 53, 54, 55, 56, 57, 58, 59, 60, 61] (by decide +kernel) (by decide +kernel)
set_option maxRecDepth 20000 in
theorem gX8_send_X8_isArticle : GoodIn wsX8_send (wsV RX8 142 RX8 yX8_isArticle wsX8_isArticle) := goodIn_app (goodIn_of _ (by decide +kernel)) ggX8_send_X8_isArticle
set_option maxRecDepth 20000 in
theorem ggX8_send_X8_isOf : GoodIn wsX8_send wsX8_isOf := goodIn_r _ [10] (by decide +kernel) (by decide +kernel)
set_option maxRecDepth 20000 in
theorem gX8_send_X8_isOf : GoodIn wsX8_send (va_wsS RX8 136 yX8_isOf wsX8_isOf) := goodIn_app (goodIn_of _ (by decide +kernel)) ggX8_send_X8_isOf
set_option maxRecDepth 20000 in
theorem ggX8_send_X8_comes : GoodIn wsX8_send wsX8_comes := goodIn_r _ [14, 1, 15, 16, 17, 5, 18, 7, 19, 20, 21, 22, 23, 8, 9, 10, 24, 25, 26, 27, 28, 29, 30, 31, 32, 33, 34, 35, 36, 37, 38, 39, 40, 41, 42, 43, 44, 45, 46, 47, 48, 49, 50, 51, 52, 53, 54, 55, 56, 57, 58, 59, 60, 61] (by decide +kernel) (by decide +kernel)
set_option maxRecDepth 20000 in
theorem gX8_send_X8_comes : GoodIn wsX8_send (wsV RX8 160 RX8 yX8_comes wsX8_comes) := goodIn_app (goodIn_of _ (by decide +kernel)) ggX8_send_X8_comes
theorem dX8_send_0 : decode cX8_send 0 = .ok (.aload_n 0, 1) := by decide +kernel
theorem dX8_send_1 : decode cX8_send 1 = .ok (.iload_n 1, 1) := by decide +kernel
theorem dX8_send_2 : decode cX8_send 2 = .ok (.invokevirtual 142, 3) := by decide +kernel
theorem dX8_send_5 : decode cX8_send 5 = .ok (.ifCond .ne 5, 3) := by decide +kernel
theorem dX8_send_8 : decode cX8_send 8 = .ok (.iconst (-1), 1) := by decide +kernel
theorem dX8_send_9 : decode cX8_send 9 = .ok (.ireturn, 1) := by decide +kernel
theorem dX8_send_10 : decode cX8_send 10 = .ok (.aload_n 0, 1) := by decide +kernel
theorem dX8_send_11 : decode cX8_send 11 = .ok (.getfield 116, 3) := by decide +kernel
theorem dX8_send_14 : decode cX8_send 14 = .ok (.iload_n 1, 1) := by decide +kernel
theorem dX8_send_15 : decode cX8_send 15 = .ok (.invokestatic 136, 3) := by decide +kernel
theorem dX8_send_18 : decode cX8_send 18 = .ok (.ifCond .eq 8, 3) := by decide +kernel
theorem dX8_send_21 : decode cX8_send 21 = .ok (.bipush (-3), 2) := by decide +kernel
theorem dX8_send_23 : decode cX8_send 23 = .ok (.goto 15, 3) := by decide +kernel
theorem dX8_send_26 : decode cX8_send 26 = .ok (.aload_n 0, 1) := by decide +kernel
theorem dX8_send_27 : decode cX8_send 27 = .ok (.aload_n 0, 1) := by decide +kernel
theorem dX8_send_28 : decode cX8_send 28 = .ok (.getfield 116, 3) := by decide +kernel
theorem dX8_send_31 : decode cX8_send 31 = .ok (.iconst 1, 1) := by decide +kernel
theorem dX8_send_32 : decode cX8_send 32 = .ok (.iload_n 1, 1) := by decide +kernel
theorem dX8_send_33 : decode cX8_send 33 = .ok (.ishl, 1) := by decide +kernel
theorem dX8_send_34 : decode cX8_send 34 = .ok (.ior, 1) := by decide +kernel
theorem dX8_send_35 : decode cX8_send 35 = .ok (.invokevirtual 160, 3) := by decide +kernel
theorem dX8_send_38 : decode cX8_send 38 = .ok (.ireturn, 1) := by decide +kernel
set_option maxRecDepth 20000 in
theorem ggX8_call_X8_isArticle : GoodIn wsX8_call wsX8_isArticle := goodIn_r _ [6, 7, 30, 31, 32, 33, 34, 35, 36, 37, 38, 39, 40, 41, 42, 43, 44, 45, 46, 47, 48, 49, 50, 51, 52, 53, 54, 55, 56, 57, 58, 59, 60, 61] (by decide +kernel) (by decide +kernel)
set_option maxRecDepth 20000 in
theorem gX8_call_X8_isArticle : GoodIn wsX8_call (wsV RX8 142 RX8 yX8_isArticle wsX8_isArticle) := goodIn_app (goodIn_of _ (by decide +kernel)) ggX8_call_X8_isArticle
set_option maxRecDepth 20000 in
theorem ggX8_call_X8_isOf : GoodIn wsX8_call wsX8_isOf := goodIn_r _ [10] (by decide +kernel) (by decide +kernel)
set_option maxRecDepth 20000 in
theorem gX8_call_X8_isOf : GoodIn wsX8_call (va_wsS RX8 136 yX8_isOf wsX8_isOf) := goodIn_app (goodIn_of _ (by decide +kernel)) ggX8_call_X8_isOf
set_option maxRecDepth 20000 in
theorem ggX8_call_X8_comes : GoodIn wsX8_call wsX8_comes := goodIn_r _ [14, 1, 15, 16, 17, 5, 18, 7, 19, 20, 21, 22, 23, 8, 9, 10, 24, 25, 26, 27, 28, 29, 30, 31, 32, 33, 34, 35, 36, 37, 38, 39, 40, 41, 42, 43, 44, 45, 46, 47, 48, 49, 50, 51, 52, 53, 54, 55, 56, 57, 58, 59, 60, 61] (by decide +kernel) (by decide +kernel)
set_option maxRecDepth 20000 in
theorem gX8_call_X8_comes : GoodIn wsX8_call (wsV RX8 160 RX8 yX8_comes wsX8_comes) := goodIn_app (goodIn_of _ (by decide +kernel)) ggX8_call_X8_comes
theorem dX8_call_0 : decode cX8_call 0 = .ok (.aload_n 0, 1) := by decide +kernel
theorem dX8_call_1 : decode cX8_call 1 = .ok (.iload_n 1, 1) := by decide +kernel
theorem dX8_call_2 : decode cX8_call 2 = .ok (.invokevirtual 142, 3) := by decide +kernel
theorem dX8_call_5 : decode cX8_call 5 = .ok (.ifCond .ne 5, 3) := by decide +kernel
theorem dX8_call_8 : decode cX8_call 8 = .ok (.iconst (-1), 1) := by decide +kernel
theorem dX8_call_9 : decode cX8_call 9 = .ok (.ireturn, 1) := by decide +kernel
theorem dX8_call_10 : decode cX8_call 10 = .ok (.aload_n 0, 1) := by decide +kernel
theorem dX8_call_11 : decode cX8_call 11 = .ok (.getfield 116, 3) := by decide +kernel
theorem dX8_call_14 : decode cX8_call 14 = .ok (.iload_n 1, 1) := by decide +kernel
theorem dX8_call_15 : decode cX8_call 15 = .ok (.invokestatic 136, 3) := by decide +kernel
theorem dX8_call_18 : decode cX8_call 18 = .ok (.ifCond .eq 20, 3) := by decide +kernel
theorem dX8_call_21 : decode cX8_call 21 = .ok (.aload_n 0, 1) := by decide +kernel
theorem dX8_call_22 : decode cX8_call 22 = .ok (.aload_n 0, 1) := by decide +kernel
theorem dX8_call_23 : decode cX8_call 23 = .ok (.getfield 116, 3) := by decide +kernel
theorem dX8_call_26 : decode cX8_call 26 = .ok (.iconst 1, 1) := by decide +kernel
theorem dX8_call_27 : decode cX8_call 27 = .ok (.iload_n 1, 1) := by decide +kernel
theorem dX8_call_28 : decode cX8_call 28 = .ok (.ishl, 1) := by decide +kernel
theorem dX8_call_29 : decode cX8_call 29 = .ok (.iconst (-1), 1) := by decide +kernel
theorem dX8_call_30 : decode cX8_call 30 = .ok (.ixor, 1) := by decide +kernel
theorem dX8_call_31 : decode cX8_call 31 = .ok (.iand, 1) := by decide +kernel
theorem dX8_call_32 : decode cX8_call 32 = .ok (.invokevirtual 160, 3) := by decide +kernel
theorem dX8_call_35 : decode cX8_call 35 = .ok (.goto 5, 3) := by decide +kernel
theorem dX8_call_38 : decode cX8_call 38 = .ok (.bipush (-3), 2) := by decide +kernel
theorem dX8_call_40 : decode cX8_call 40 = .ok (.ireturn, 1) := by decide +kernel
set_option maxRecDepth 20000 in
theorem ggX8_laughter_X8_laughsOf : GoodIn wsX8_laughter wsX8_laughsOf := goodIn_r _ [7, 1, 8, 9, 6, 10, 11, 12, 13, 14, 15, 16, 17, 18, 19, 20, 21, 22, 23, 24, 25, 26, 27, 28, 29, 30, 31, 32, 33, 34, 35, 36, 37, 38, 39, 40, 41, 42, 43, 44, 45, 46, 47, 48] (by decide +kernel) (by decide +kernel)
set_option maxRecDepth 20000 in
theorem gX8_laughter_X8_laughsOf : GoodIn wsX8_laughter (wsV RX8 151 RX8 yX8_laughsOf wsX8_laughsOf) := goodIn_app (goodIn_of _ (by decide +kernel)) ggX8_laughter_X8_laughsOf
theorem dX8_laughter_0 : decode cX8_laughter 0 = .ok (.aload_n 0, 1) := by decide +kernel
theorem dX8_laughter_1 : decode cX8_laughter 1 = .ok (.getfield 74, 3) := by decide +kernel
theorem dX8_laughter_4 : decode cX8_laughter 4 = .ok (.ifCond .ne 8, 3) := by decide +kernel
theorem dX8_laughter_7 : decode cX8_laughter 7 = .ok (.bipush (-3), 2) := by decide +kernel
theorem dX8_laughter_9 : decode cX8_laughter 9 = .ok (.goto 11, 3) := by decide +kernel
theorem dX8_laughter_12 : decode cX8_laughter 12 = .ok (.aload_n 0, 1) := by decide +kernel
theorem dX8_laughter_13 : decode cX8_laughter 13 = .ok (.aload_n 0, 1) := by decide +kernel
theorem dX8_laughter_14 : decode cX8_laughter 14 = .ok (.getfield 116, 3) := by decide +kernel
theorem dX8_laughter_17 : decode cX8_laughter 17 = .ok (.invokevirtual 151, 3) := by decide +kernel
theorem dX8_laughter_20 : decode cX8_laughter 20 = .ok (.ireturn, 1) := by decide +kernel
theorem dX8_apart_0 : decode cX8_apart 0 = .ok (.iload_n 0, 1) := by decide +kernel
theorem dX8_apart_1 : decode cX8_apart 1 = .ok (.iload_n 1, 1) := by decide +kernel
theorem dX8_apart_2 : decode cX8_apart 2 = .ok (.if_icmp .ge 9, 3) := by decide +kernel
theorem dX8_apart_5 : decode cX8_apart 5 = .ok (.iload_n 1, 1) := by decide +kernel
theorem dX8_apart_6 : decode cX8_apart 6 = .ok (.iload_n 0, 1) := by decide +kernel
theorem dX8_apart_7 : decode cX8_apart 7 = .ok (.isub, 1) := by decide +kernel
theorem dX8_apart_8 : decode cX8_apart 8 = .ok (.goto 6, 3) := by decide +kernel
theorem dX8_apart_11 : decode cX8_apart 11 = .ok (.iload_n 0, 1) := by decide +kernel
theorem dX8_apart_12 : decode cX8_apart 12 = .ok (.iload_n 1, 1) := by decide +kernel
theorem dX8_apart_13 : decode cX8_apart 13 = .ok (.isub, 1) := by decide +kernel
theorem dX8_apart_14 : decode cX8_apart 14 = .ok (.ireturn, 1) := by decide +kernel
set_option maxRecDepth 20000 in
theorem ggX8_heardAt_X8_apart : GoodIn wsX8_heardAt wsX8_apart := goodIn_r _ [6] (by decide +kernel) (by decide +kernel)
set_option maxRecDepth 20000 in
theorem gX8_heardAt_X8_apart : GoodIn wsX8_heardAt (va_wsS RX8 163 yX8_apart wsX8_apart) := goodIn_app (goodIn_of _ (by decide +kernel)) ggX8_heardAt_X8_apart
set_option maxRecDepth 20000 in
theorem ggX8_heardAt_X8_laughsOf : GoodIn wsX8_heardAt wsX8_laughsOf := goodIn_r _ [10, 11, 12, 13, 5, 14, 15, 16, 17, 18, 19, 20, 21, 22, 23, 24, 25, 26, 27, 28, 29, 30, 31, 32, 33, 34, 35, 36, 37, 38, 39, 40, 41, 42, 43, 44, 45, 46, 47, 48, 49, 50, 51, 52] (by decide +kernel) (by decide +kernel)
set_option maxRecDepth 20000 in
theorem gX8_heardAt_X8_laughsOf : GoodIn wsX8_heardAt (wsV RX8 151 RX8 yX8_laughsOf wsX8_laughsOf) := goodIn_app (goodIn_of _ (by decide +kernel)) ggX8_heardAt_X8_laughsOf
theorem dX8_heardAt_0 : decode cX8_heardAt 0 = .ok (.iload_n 1, 1) := by decide +kernel
theorem dX8_heardAt_1 : decode cX8_heardAt 1 = .ok (.bipush 8, 2) := by decide +kernel
theorem dX8_heardAt_3 : decode cX8_heardAt 3 = .ok (.irem, 1) := by decide +kernel
theorem dX8_heardAt_4 : decode cX8_heardAt 4 = .ok (.aload_n 0, 1) := by decide +kernel
theorem dX8_heardAt_5 : decode cX8_heardAt 5 = .ok (.getfield 107, 3) := by decide +kernel
theorem dX8_heardAt_8 : decode cX8_heardAt 8 = .ok (.bipush 8, 2) := by decide +kernel
theorem dX8_heardAt_10 : decode cX8_heardAt 10 = .ok (.irem, 1) := by decide +kernel
theorem dX8_heardAt_11 : decode cX8_heardAt 11 = .ok (.invokestatic 163, 3) := by decide +kernel
theorem dX8_heardAt_14 : decode cX8_heardAt 14 = .ok (.iload_n 1, 1) := by decide +kernel
theorem dX8_heardAt_15 : decode cX8_heardAt 15 = .ok (.bipush 8, 2) := by decide +kernel
theorem dX8_heardAt_17 : decode cX8_heardAt 17 = .ok (.idiv, 1) := by decide +kernel
theorem dX8_heardAt_18 : decode cX8_heardAt 18 = .ok (.aload_n 0, 1) := by decide +kernel
theorem dX8_heardAt_19 : decode cX8_heardAt 19 = .ok (.getfield 107, 3) := by decide +kernel
theorem dX8_heardAt_22 : decode cX8_heardAt 22 = .ok (.bipush 8, 2) := by decide +kernel
theorem dX8_heardAt_24 : decode cX8_heardAt 24 = .ok (.idiv, 1) := by decide +kernel
end
section
theorem dX8_heardAt_25 : decode cX8_heardAt 25 = .ok (.invokestatic 163, 3) := by decide +kernel
theorem dX8_heardAt_28 : decode cX8_heardAt 28 = .ok (.iadd, 1) := by decide +kernel
theorem dX8_heardAt_29 : decode cX8_heardAt 29 = .ok (.istore_n 2, 1) := by decide +kernel
theorem dX8_heardAt_30 : decode cX8_heardAt 30 = .ok (.aload_n 0, 1) := by decide +kernel
theorem dX8_heardAt_31 : decode cX8_heardAt 31 = .ok (.aload_n 0, 1) := by decide +kernel
theorem dX8_heardAt_32 : decode cX8_heardAt 32 = .ok (.getfield 116, 3) := by decide +kernel
theorem dX8_heardAt_35 : decode cX8_heardAt 35 = .ok (.invokevirtual 151, 3) := by decide +kernel
theorem dX8_heardAt_38 : decode cX8_heardAt 38 = .ok (.istore_n 3, 1) := by decide +kernel
theorem dX8_heardAt_39 : decode cX8_heardAt 39 = .ok (.iload_n 3, 1) := by decide +kernel
theorem dX8_heardAt_40 : decode cX8_heardAt 40 = .ok (.iload_n 2, 1) := by decide +kernel
theorem dX8_heardAt_41 : decode cX8_heardAt 41 = .ok (.if_icmp .le 9, 3) := by decide +kernel
theorem dX8_heardAt_44 : decode cX8_heardAt 44 = .ok (.iload_n 3, 1) := by decide +kernel
theorem dX8_heardAt_45 : decode cX8_heardAt 45 = .ok (.iload_n 2, 1) := by decide +kernel
theorem dX8_heardAt_46 : decode cX8_heardAt 46 = .ok (.isub, 1) := by decide +kernel
theorem dX8_heardAt_47 : decode cX8_heardAt 47 = .ok (.goto 4, 3) := by decide +kernel
theorem dX8_heardAt_50 : decode cX8_heardAt 50 = .ok (.iconst 0, 1) := by decide +kernel
theorem dX8_heardAt_51 : decode cX8_heardAt 51 = .ok (.ireturn, 1) := by decide +kernel
set_option maxRecDepth 20000 in
theorem ggX8_heard_X8_isCorner : GoodIn wsX8_heard wsX8_isCorner := goodIn_r _ [5, 6, 7, 4, 8] (by decide +kernel) (by decide +kernel)
set_option maxRecDepth 20000 in
theorem gX8_heard_X8_isCorner : GoodIn wsX8_heard (va_wsS RX8 148 yX8_isCorner wsX8_isCorner) := goodIn_app (goodIn_of _ (by decide +kernel)) ggX8_heard_X8_isCorner
set_option maxRecDepth 20000 in
theorem ggX8_heard_X8_heardAt : GoodIn wsX8_heard wsX8_heardAt := goodIn_r _ [12, 13, 14, 15, 16, 4, 17, 18, 19, 20, 21, 1, 22, 23, 24, 25, 26, 27, 28, 29, 30, 31, 32, 33, 34, 35, 36, 37, 38, 39, 40, 41, 42, 43, 44, 45, 46, 47, 48, 49, 50, 51, 52, 53, 54, 55, 56, 57, 58, 59, 60, 61, 62] (by decide +kernel) (by decide +kernel)
set_option maxRecDepth 20000 in
theorem gX8_heard_X8_heardAt : GoodIn wsX8_heard (wsV RX8 167 RX8 yX8_heardAt wsX8_heardAt) := goodIn_app (goodIn_of _ (by decide +kernel)) ggX8_heard_X8_heardAt
theorem dX8_heard_0 : decode cX8_heard 0 = .ok (.iload_n 1, 1) := by decide +kernel
theorem dX8_heard_1 : decode cX8_heard 1 = .ok (.invokestatic 148, 3) := by decide +kernel
theorem dX8_heard_4 : decode cX8_heard 4 = .ok (.ifCond .ne 6, 3) := by decide +kernel
theorem dX8_heard_7 : decode cX8_heard 7 = .ok (.bipush (-2), 2) := by decide +kernel
theorem dX8_heard_9 : decode cX8_heard 9 = .ok (.ireturn, 1) := by decide +kernel
theorem dX8_heard_10 : decode cX8_heard 10 = .ok (.aload_n 0, 1) := by decide +kernel
theorem dX8_heard_11 : decode cX8_heard 11 = .ok (.getfield 74, 3) := by decide +kernel
theorem dX8_heard_14 : decode cX8_heard 14 = .ok (.ifCond .ne 8, 3) := by decide +kernel
theorem dX8_heard_17 : decode cX8_heard 17 = .ok (.bipush (-3), 2) := by decide +kernel
theorem dX8_heard_19 : decode cX8_heard 19 = .ok (.goto 8, 3) := by decide +kernel
theorem dX8_heard_22 : decode cX8_heard 22 = .ok (.aload_n 0, 1) := by decide +kernel
theorem dX8_heard_23 : decode cX8_heard 23 = .ok (.iload_n 1, 1) := by decide +kernel
theorem dX8_heard_24 : decode cX8_heard 24 = .ok (.invokevirtual 167, 3) := by decide +kernel
theorem dX8_heard_27 : decode cX8_heard 27 = .ok (.ireturn, 1) := by decide +kernel
theorem dX8_size_0 : decode cX8_size 0 = .ok (.iconst 0, 1) := by decide +kernel
theorem dX8_size_1 : decode cX8_size 1 = .ok (.istore_n 1, 1) := by decide +kernel
theorem dX8_size_2 : decode cX8_size 2 = .ok (.iload_n 0, 1) := by decide +kernel
theorem dX8_size_3 : decode cX8_size 3 = .ok (.istore_n 2, 1) := by decide +kernel
theorem dX8_size_4 : decode cX8_size 4 = .ok (.iload_n 2, 1) := by decide +kernel
theorem dX8_size_5 : decode cX8_size 5 = .ok (.ifCond .le 16, 3) := by decide +kernel
theorem dX8_size_8 : decode cX8_size 8 = .ok (.iload_n 1, 1) := by decide +kernel
theorem dX8_size_9 : decode cX8_size 9 = .ok (.iload_n 2, 1) := by decide +kernel
theorem dX8_size_10 : decode cX8_size 10 = .ok (.iconst 1, 1) := by decide +kernel
theorem dX8_size_11 : decode cX8_size 11 = .ok (.iand, 1) := by decide +kernel
theorem dX8_size_12 : decode cX8_size 12 = .ok (.iadd, 1) := by decide +kernel
theorem dX8_size_13 : decode cX8_size 13 = .ok (.istore_n 1, 1) := by decide +kernel
theorem dX8_size_14 : decode cX8_size 14 = .ok (.iload_n 2, 1) := by decide +kernel
theorem dX8_size_15 : decode cX8_size 15 = .ok (.iconst 1, 1) := by decide +kernel
theorem dX8_size_16 : decode cX8_size 16 = .ok (.ishr, 1) := by decide +kernel
theorem dX8_size_17 : decode cX8_size 17 = .ok (.istore_n 2, 1) := by decide +kernel
theorem dX8_size_18 : decode cX8_size 18 = .ok (.goto (-14), 3) := by decide +kernel
theorem dX8_size_21 : decode cX8_size 21 = .ok (.iload_n 1, 1) := by decide +kernel
theorem dX8_size_22 : decode cX8_size 22 = .ok (.ireturn, 1) := by decide +kernel
set_option maxRecDepth 20000 in
theorem ggX8_goYear_X8_isOf : GoodIn wsX8_goYear wsX8_isOf := goodIn_r _ [8] (by decide +kernel) (by decide +kernel)
set_option maxRecDepth 20000 in
theorem gX8_goYear_X8_isOf : GoodIn wsX8_goYear (va_wsS RX8 136 yX8_isOf wsX8_isOf) := goodIn_app (goodIn_of _ (by decide +kernel)) ggX8_goYear_X8_isOf
set_option maxRecDepth 20000 in
theorem ggX8_goYear_X8_comes : GoodIn wsX8_goYear wsX8_comes := goodIn_r _ [12, 4, 13, 14, 15, 7, 16, 17, 18, 19, 20, 21, 22, 5, 6, 8, 23, 24, 25, 26, 27, 28, 32, 33, 34, 35, 36, 37, 38, 39, 40, 41, 42, 43, 44, 45, 46, 47, 48, 49, 50, 51, 52, 53, 54, 55, 56, 57, 58, 59, 60, 61, 62, 63] (by decide +kernel) (by decide +kernel)
set_option maxRecDepth 20000 in
theorem gX8_goYear_X8_comes : GoodIn wsX8_goYear (wsV RX8 160 RX8 yX8_comes wsX8_comes) := goodIn_app (goodIn_of _ (by decide +kernel)) ggX8_goYear_X8_comes
set_option maxRecDepth 20000 in
theorem ggX8_goYear_X8_size : GoodIn wsX8_goYear wsX8_size := goodIn_r _ [31] (by decide +kernel) (by decide +kernel)
set_option maxRecDepth 20000 in
theorem gX8_goYear_X8_size : GoodIn wsX8_goYear (va_wsS RX8 176 yX8_size wsX8_size) := goodIn_app (goodIn_of _ (by decide +kernel)) ggX8_goYear_X8_size
set_option maxRecDepth 20000 in
theorem ggX8_goYear_X8_laughsOf : GoodIn wsX8_goYear wsX8_laughsOf := goodIn_r _ [22, 17, 5, 6, 7, 8, 23, 24, 25, 26, 27, 28, 32, 33, 34, 35, 36, 37, 38, 39, 40, 41, 42, 43, 44, 45, 46, 47, 48, 49, 50, 51, 52, 53, 54, 55, 56, 57, 58, 59, 60, 61, 62, 63] (by decide +kernel) (by decide +kernel)
set_option maxRecDepth 20000 in
theorem gX8_goYear_X8_laughsOf : GoodIn wsX8_goYear (wsV RX8 151 RX8 yX8_laughsOf wsX8_laughsOf) := goodIn_app (goodIn_of _ (by decide +kernel)) ggX8_goYear_X8_laughsOf
theorem dX8_goYear_0 : decode cX8_goYear 0 = .ok (.aload_n 0, 1) := by decide +kernel
theorem dX8_goYear_1 : decode cX8_goYear 1 = .ok (.iconst 0, 1) := by decide +kernel
theorem dX8_goYear_2 : decode cX8_goYear 2 = .ok (.putfield 170, 3) := by decide +kernel
theorem dX8_goYear_5 : decode cX8_goYear 5 = .ok (.aload_n 0, 1) := by decide +kernel
theorem dX8_goYear_6 : decode cX8_goYear 6 = .ok (.iconst 0, 1) := by decide +kernel
theorem dX8_goYear_7 : decode cX8_goYear 7 = .ok (.putfield 173, 3) := by decide +kernel
theorem dX8_goYear_10 : decode cX8_goYear 10 = .ok (.iconst 0, 1) := by decide +kernel
theorem dX8_goYear_11 : decode cX8_goYear 11 = .ok (.istore_n 3, 1) := by decide +kernel
theorem dX8_goYear_12 : decode cX8_goYear 12 = .ok (.iload_n 3, 1) := by decide +kernel
theorem dX8_goYear_13 : decode cX8_goYear 13 = .ok (.iload_n 2, 1) := by decide +kernel
theorem dX8_goYear_14 : decode cX8_goYear 14 = .ok (.if_icmp .ge 136, 3) := by decide +kernel
theorem dX8_goYear_17 : decode cX8_goYear 17 = .ok (.aload_n 0, 1) := by decide +kernel
theorem dX8_goYear_18 : decode cX8_goYear 18 = .ok (.getfield 16, 3) := by decide +kernel
theorem dX8_goYear_21 : decode cX8_goYear 21 = .ok (.iload_n 1, 1) := by decide +kernel
theorem dX8_goYear_22 : decode cX8_goYear 22 = .ok (.iconst 2, 1) := by decide +kernel
theorem dX8_goYear_23 : decode cX8_goYear 23 = .ok (.iload_n 3, 1) := by decide +kernel
theorem dX8_goYear_24 : decode cX8_goYear 24 = .ok (.imul, 1) := by decide +kernel
theorem dX8_goYear_25 : decode cX8_goYear 25 = .ok (.iadd, 1) := by decide +kernel
theorem dX8_goYear_26 : decode cX8_goYear 26 = .ok (.iaload, 1) := by decide +kernel
theorem dX8_goYear_27 : decode cX8_goYear 27 = .ok (.istore 4, 2) := by decide +kernel
theorem dX8_goYear_29 : decode cX8_goYear 29 = .ok (.aload_n 0, 1) := by decide +kernel
theorem dX8_goYear_30 : decode cX8_goYear 30 = .ok (.getfield 16, 3) := by decide +kernel
theorem dX8_goYear_33 : decode cX8_goYear 33 = .ok (.iload_n 1, 1) := by decide +kernel
theorem dX8_goYear_34 : decode cX8_goYear 34 = .ok (.iconst 2, 1) := by decide +kernel
theorem dX8_goYear_35 : decode cX8_goYear 35 = .ok (.iload_n 3, 1) := by decide +kernel
theorem dX8_goYear_36 : decode cX8_goYear 36 = .ok (.imul, 1) := by decide +kernel
theorem dX8_goYear_37 : decode cX8_goYear 37 = .ok (.iadd, 1) := by decide +kernel
theorem dX8_goYear_38 : decode cX8_goYear 38 = .ok (.iconst 1, 1) := by decide +kernel
theorem dX8_goYear_39 : decode cX8_goYear 39 = .ok (.iadd, 1) := by decide +kernel
theorem dX8_goYear_40 : decode cX8_goYear 40 = .ok (.iaload, 1) := by decide +kernel
theorem dX8_goYear_41 : decode cX8_goYear 41 = .ok (.iconst 1, 1) := by decide +kernel
theorem dX8_goYear_42 : decode cX8_goYear 42 = .ok (.if_icmp .ne 7, 3) := by decide +kernel
theorem dX8_goYear_45 : decode cX8_goYear 45 = .ok (.iconst 1, 1) := by decide +kernel
theorem dX8_goYear_46 : decode cX8_goYear 46 = .ok (.goto 4, 3) := by decide +kernel
theorem dX8_goYear_49 : decode cX8_goYear 49 = .ok (.iconst 0, 1) := by decide +kernel
theorem dX8_goYear_50 : decode cX8_goYear 50 = .ok (.istore 5, 2) := by decide +kernel
theorem dX8_goYear_52 : decode cX8_goYear 52 = .ok (.aload_n 0, 1) := by decide +kernel
theorem dX8_goYear_53 : decode cX8_goYear 53 = .ok (.getfield 116, 3) := by decide +kernel
theorem dX8_goYear_56 : decode cX8_goYear 56 = .ok (.iload 4, 2) := by decide +kernel
theorem dX8_goYear_58 : decode cX8_goYear 58 = .ok (.invokestatic 136, 3) := by decide +kernel
theorem dX8_goYear_61 : decode cX8_goYear 61 = .ok (.iload 5, 2) := by decide +kernel
theorem dX8_goYear_63 : decode cX8_goYear 63 = .ok (.if_icmp .eq 5, 3) := by decide +kernel
theorem dX8_goYear_66 : decode cX8_goYear 66 = .ok (.iload_n 3, 1) := by decide +kernel
theorem dX8_goYear_67 : decode cX8_goYear 67 = .ok (.ireturn, 1) := by decide +kernel
theorem dX8_goYear_68 : decode cX8_goYear 68 = .ok (.aload_n 0, 1) := by decide +kernel
theorem dX8_goYear_69 : decode cX8_goYear 69 = .ok (.dup, 1) := by decide +kernel
theorem dX8_goYear_70 : decode cX8_goYear 70 = .ok (.getfield 170, 3) := by decide +kernel
theorem dX8_goYear_73 : decode cX8_goYear 73 = .ok (.aload_n 0, 1) := by decide +kernel
theorem dX8_goYear_74 : decode cX8_goYear 74 = .ok (.iload 5, 2) := by decide +kernel
theorem dX8_goYear_76 : decode cX8_goYear 76 = .ok (.ifCond .eq 17, 3) := by decide +kernel
theorem dX8_goYear_79 : decode cX8_goYear 79 = .ok (.aload_n 0, 1) := by decide +kernel
theorem dX8_goYear_80 : decode cX8_goYear 80 = .ok (.getfield 116, 3) := by decide +kernel
theorem dX8_goYear_83 : decode cX8_goYear 83 = .ok (.iconst 1, 1) := by decide +kernel
theorem dX8_goYear_84 : decode cX8_goYear 84 = .ok (.iload 4, 2) := by decide +kernel
theorem dX8_goYear_86 : decode cX8_goYear 86 = .ok (.ishl, 1) := by decide +kernel
theorem dX8_goYear_87 : decode cX8_goYear 87 = .ok (.iconst (-1), 1) := by decide +kernel
theorem dX8_goYear_88 : decode cX8_goYear 88 = .ok (.ixor, 1) := by decide +kernel
theorem dX8_goYear_89 : decode cX8_goYear 89 = .ok (.iand, 1) := by decide +kernel
theorem dX8_goYear_90 : decode cX8_goYear 90 = .ok (.goto 12, 3) := by decide +kernel
theorem dX8_goYear_93 : decode cX8_goYear 93 = .ok (.aload_n 0, 1) := by decide +kernel
theorem dX8_goYear_94 : decode cX8_goYear 94 = .ok (.getfield 116, 3) := by decide +kernel
theorem dX8_goYear_97 : decode cX8_goYear 97 = .ok (.iconst 1, 1) := by decide +kernel
theorem dX8_goYear_98 : decode cX8_goYear 98 = .ok (.iload 4, 2) := by decide +kernel
theorem dX8_goYear_100 : decode cX8_goYear 100 = .ok (.ishl, 1) := by decide +kernel
theorem dX8_goYear_101 : decode cX8_goYear 101 = .ok (.ior, 1) := by decide +kernel
theorem dX8_goYear_102 : decode cX8_goYear 102 = .ok (.invokevirtual 160, 3) := by decide +kernel
theorem dX8_goYear_105 : decode cX8_goYear 105 = .ok (.invokestatic 176, 3) := by decide +kernel
theorem dX8_goYear_108 : decode cX8_goYear 108 = .ok (.iadd, 1) := by decide +kernel
theorem dX8_goYear_109 : decode cX8_goYear 109 = .ok (.putfield 170, 3) := by decide +kernel
theorem dX8_goYear_112 : decode cX8_goYear 112 = .ok (.aload_n 0, 1) := by decide +kernel
theorem dX8_goYear_113 : decode cX8_goYear 113 = .ok (.aload_n 0, 1) := by decide +kernel
theorem dX8_goYear_114 : decode cX8_goYear 114 = .ok (.getfield 116, 3) := by decide +kernel
theorem dX8_goYear_117 : decode cX8_goYear 117 = .ok (.invokevirtual 151, 3) := by decide +kernel
theorem dX8_goYear_120 : decode cX8_goYear 120 = .ok (.istore 6, 2) := by decide +kernel
theorem dX8_goYear_122 : decode cX8_goYear 122 = .ok (.aload_n 0, 1) := by decide +kernel
theorem dX8_goYear_123 : decode cX8_goYear 123 = .ok (.iload 6, 2) := by decide +kernel
theorem dX8_goYear_125 : decode cX8_goYear 125 = .ok (.aload_n 0, 1) := by decide +kernel
theorem dX8_goYear_126 : decode cX8_goYear 126 = .ok (.getfield 173, 3) := by decide +kernel
theorem dX8_goYear_129 : decode cX8_goYear 129 = .ok (.if_icmp .le 8, 3) := by decide +kernel
theorem dX8_goYear_132 : decode cX8_goYear 132 = .ok (.iload 6, 2) := by decide +kernel
theorem dX8_goYear_134 : decode cX8_goYear 134 = .ok (.goto 7, 3) := by decide +kernel
theorem dX8_goYear_137 : decode cX8_goYear 137 = .ok (.aload_n 0, 1) := by decide +kernel
theorem dX8_goYear_138 : decode cX8_goYear 138 = .ok (.getfield 173, 3) := by decide +kernel
theorem dX8_goYear_141 : decode cX8_goYear 141 = .ok (.putfield 173, 3) := by decide +kernel
theorem dX8_goYear_144 : decode cX8_goYear 144 = .ok (.iinc 3 1, 3) := by decide +kernel
theorem dX8_goYear_147 : decode cX8_goYear 147 = .ok (.goto (-135), 3) := by decide +kernel
theorem dX8_goYear_150 : decode cX8_goYear 150 = .ok (.bipush (-9), 2) := by decide +kernel
theorem dX8_goYear_152 : decode cX8_goYear 152 = .ok (.ireturn, 1) := by decide +kernel
set_option maxRecDepth 20000 in
theorem ggX8_year_X8_isSheet : GoodIn wsX8_year wsX8_isSheet := goodIn_r _ [8, 9, 10, 7, 11] (by decide +kernel) (by decide +kernel)
set_option maxRecDepth 20000 in
theorem gX8_year_X8_isSheet : GoodIn wsX8_year (va_wsS RX8 83 yX8_isSheet wsX8_isSheet) := goodIn_app (goodIn_of _ (by decide +kernel)) ggX8_year_X8_isSheet
set_option maxRecDepth 20000 in
theorem ggX8_year_X8_isSort : GoodIn wsX8_year wsX8_isSort := goodIn_r _ [14, 9, 10, 7, 11] (by decide +kernel) (by decide +kernel)
set_option maxRecDepth 20000 in
theorem gX8_year_X8_isSort : GoodIn wsX8_year (va_wsS RX8 87 yX8_isSort wsX8_isSort) := goodIn_app (goodIn_of _ (by decide +kernel)) ggX8_year_X8_isSort
set_option maxRecDepth 20000 in
theorem ggX8_year_X8_within : GoodIn wsX8_year wsX8_within := goodIn_r _ [11] (by decide +kernel) (by decide +kernel)
set_option maxRecDepth 20000 in
theorem gX8_year_X8_within : GoodIn wsX8_year (va_wsS RX8 70 yX8_within wsX8_within) := goodIn_app (goodIn_of _ (by decide +kernel)) ggX8_year_X8_within
set_option maxRecDepth 20000 in
theorem ggX8_year_X8_against : GoodIn wsX8_year wsX8_against := goodIn_r _ [18, 19, 20, 64, 65, 66, 67, 68, 69, 70, 71, 72, 73, 74, 75, 76, 77, 78, 79, 80, 81, 82, 83, 84, 85, 86, 87, 88, 89, 90, 91, 92, 93, 94, 95] (by decide +kernel) (by decide +kernel)
set_option maxRecDepth 20000 in
theorem gX8_year_X8_against : GoodIn wsX8_year (wsV RX8 90 RX8 yX8_against wsX8_against) := goodIn_app (goodIn_of _ (by decide +kernel)) ggX8_year_X8_against
set_option maxRecDepth 20000 in
theorem ggX8_year_X8_fails : GoodIn wsX8_year wsX8_fails := goodIn_r _ [24, 1, 64, 65, 66, 67, 68, 69, 70, 71, 72, 73, 74, 75, 76, 77, 78, 79, 80, 81, 82, 83, 84, 85, 86, 87, 88, 89, 90, 91, 92, 93, 94, 95] (by decide +kernel) (by decide +kernel)
set_option maxRecDepth 20000 in
theorem gX8_year_X8_fails : GoodIn wsX8_year (wsV RX8 94 RX8 yX8_fails wsX8_fails) := goodIn_app (goodIn_of _ (by decide +kernel)) ggX8_year_X8_fails
set_option maxRecDepth 20000 in
theorem ggX8_year_X8_isArticle : GoodIn wsX8_year wsX8_isArticle := goodIn_r _ [28, 2, 64, 65, 66, 67, 68, 69, 70, 71, 72, 73, 74, 75, 76, 77, 78, 79, 80, 81, 82, 83, 84, 85, 86, 87, 88, 89, 90, 91, 92, 93, 94, 95] (by decide +kernel) (by decide +kernel)
set_option maxRecDepth 20000 in
theorem gX8_year_X8_isArticle : GoodIn wsX8_year (wsV RX8 142 RX8 yX8_isArticle wsX8_isArticle) := goodIn_app (goodIn_of _ (by decide +kernel)) ggX8_year_X8_isArticle
set_option maxRecDepth 20000 in
theorem ggX8_year_X8_goYear : GoodIn wsX8_year wsX8_goYear := goodIn_r _ [32, 33, 34, 3, 4, 35, 36, 7, 37, 38, 39, 40, 41, 42, 43, 44, 45, 2, 46, 47, 48, 49, 50, 51, 52, 53, 54, 55, 56, 57, 58, 59, 64, 65, 66, 67, 68, 69, 70, 71, 72, 73, 74, 75, 76, 77, 78, 79, 80, 81, 82, 83, 84, 85, 86, 87, 88, 89, 90, 91, 92, 93, 94, 95] (by decide +kernel) (by decide +kernel)
set_option maxRecDepth 20000 in
theorem gX8_year_X8_goYear : GoodIn wsX8_year (wsV RX8 179 RX8 yX8_goYear wsX8_goYear) := goodIn_app (goodIn_of _ (by decide +kernel)) ggX8_year_X8_goYear
set_option maxRecDepth 20000 in
theorem ggX8_year_X8_tellYear : GoodIn wsX8_year wsX8_tellYear := goodIn_r _ [63, 4, 33, 34, 57, 58, 7, 59, 47, 48, 49, 50, 2, 35, 36, 37, 51, 52, 53, 54, 55, 56, 64, 65, 66, 67, 68, 69, 70, 71, 72, 73, 74, 75, 76, 77, 78, 79, 80, 81, 82, 83, 84, 85, 86, 87, 88, 89, 90, 91, 92, 93, 94, 95] (by decide +kernel) (by decide +kernel)
set_option maxRecDepth 20000 in
theorem gX8_year_X8_tellYear : GoodIn wsX8_year (wsV RX8 182 RX8 yX8_tellYear wsX8_tellYear) := goodIn_app (goodIn_of _ (by decide +kernel)) ggX8_year_X8_tellYear
theorem dX8_year_0 : decode cX8_year 0 = .ok (.aload_n 0, 1) := by decide +kernel
theorem dX8_year_1 : decode cX8_year 1 = .ok (.iconst 0, 1) := by decide +kernel
theorem dX8_year_2 : decode cX8_year 2 = .ok (.putfield 64, 3) := by decide +kernel
theorem dX8_year_5 : decode cX8_year 5 = .ok (.iload_n 1, 1) := by decide +kernel
theorem dX8_year_6 : decode cX8_year 6 = .ok (.invokestatic 83, 3) := by decide +kernel
theorem dX8_year_9 : decode cX8_year 9 = .ok (.ifCond .ne 5, 3) := by decide +kernel
theorem dX8_year_12 : decode cX8_year 12 = .ok (.iconst (-1), 1) := by decide +kernel
theorem dX8_year_13 : decode cX8_year 13 = .ok (.ireturn, 1) := by decide +kernel
theorem dX8_year_14 : decode cX8_year 14 = .ok (.iload_n 2, 1) := by decide +kernel
theorem dX8_year_15 : decode cX8_year 15 = .ok (.invokestatic 87, 3) := by decide +kernel
theorem dX8_year_18 : decode cX8_year 18 = .ok (.ifCond .eq 24, 3) := by decide +kernel
theorem dX8_year_21 : decode cX8_year 21 = .ok (.iload 4, 2) := by decide +kernel
theorem dX8_year_23 : decode cX8_year 23 = .ok (.iconst 0, 1) := by decide +kernel
theorem dX8_year_24 : decode cX8_year 24 = .ok (.bipush 20, 2) := by decide +kernel
theorem dX8_year_26 : decode cX8_year 26 = .ok (.invokestatic 70, 3) := by decide +kernel
theorem dX8_year_29 : decode cX8_year 29 = .ok (.ifCond .eq 13, 3) := by decide +kernel
theorem dX8_year_32 : decode cX8_year 32 = .ok (.iload 5, 2) := by decide +kernel
theorem dX8_year_34 : decode cX8_year 34 = .ok (.iconst 0, 1) := by decide +kernel
theorem dX8_year_35 : decode cX8_year 35 = .ok (.iconst 5, 1) := by decide +kernel
theorem dX8_year_36 : decode cX8_year 36 = .ok (.invokestatic 70, 3) := by decide +kernel
theorem dX8_year_39 : decode cX8_year 39 = .ok (.ifCond .ne 6, 3) := by decide +kernel
theorem dX8_year_42 : decode cX8_year 42 = .ok (.bipush (-2), 2) := by decide +kernel
theorem dX8_year_44 : decode cX8_year 44 = .ok (.ireturn, 1) := by decide +kernel
theorem dX8_year_45 : decode cX8_year 45 = .ok (.aload_n 0, 1) := by decide +kernel
theorem dX8_year_46 : decode cX8_year 46 = .ok (.iload_n 1, 1) := by decide +kernel
theorem dX8_year_47 : decode cX8_year 47 = .ok (.iload_n 2, 1) := by decide +kernel
theorem dX8_year_48 : decode cX8_year 48 = .ok (.iload_n 3, 1) := by decide +kernel
theorem dX8_year_49 : decode cX8_year 49 = .ok (.iconst 2, 1) := by decide +kernel
theorem dX8_year_50 : decode cX8_year 50 = .ok (.iload 4, 2) := by decide +kernel
theorem dX8_year_52 : decode cX8_year 52 = .ok (.imul, 1) := by decide +kernel
theorem dX8_year_53 : decode cX8_year 53 = .ok (.invokevirtual 90, 3) := by decide +kernel
theorem dX8_year_56 : decode cX8_year 56 = .ok (.istore 6, 2) := by decide +kernel
theorem dX8_year_58 : decode cX8_year 58 = .ok (.iload 6, 2) := by decide +kernel
theorem dX8_year_60 : decode cX8_year 60 = .ok (.ifCond .eq 10, 3) := by decide +kernel
theorem dX8_year_63 : decode cX8_year 63 = .ok (.aload_n 0, 1) := by decide +kernel
theorem dX8_year_64 : decode cX8_year 64 = .ok (.iload 6, 2) := by decide +kernel
theorem dX8_year_66 : decode cX8_year 66 = .ok (.invokevirtual 94, 3) := by decide +kernel
theorem dX8_year_69 : decode cX8_year 69 = .ok (.ireturn, 1) := by decide +kernel
theorem dX8_year_70 : decode cX8_year 70 = .ok (.aload_n 0, 1) := by decide +kernel
theorem dX8_year_71 : decode cX8_year 71 = .ok (.getfield 74, 3) := by decide +kernel
theorem dX8_year_74 : decode cX8_year 74 = .ok (.ifCond .ne 6, 3) := by decide +kernel
theorem dX8_year_77 : decode cX8_year 77 = .ok (.bipush (-3), 2) := by decide +kernel
theorem dX8_year_79 : decode cX8_year 79 = .ok (.ireturn, 1) := by decide +kernel
theorem dX8_year_80 : decode cX8_year 80 = .ok (.bipush 60, 2) := by decide +kernel
theorem dX8_year_82 : decode cX8_year 82 = .ok (.iload_n 1, 1) := by decide +kernel
theorem dX8_year_83 : decode cX8_year 83 = .ok (.imul, 1) := by decide +kernel
theorem dX8_year_84 : decode cX8_year 84 = .ok (.iload_n 3, 1) := by decide +kernel
theorem dX8_year_85 : decode cX8_year 85 = .ok (.iadd, 1) := by decide +kernel
theorem dX8_year_86 : decode cX8_year 86 = .ok (.istore 7, 2) := by decide +kernel
theorem dX8_year_88 : decode cX8_year 88 = .ok (.iconst 0, 1) := by decide +kernel
theorem dX8_year_89 : decode cX8_year 89 = .ok (.istore 8, 2) := by decide +kernel
theorem dX8_year_91 : decode cX8_year 91 = .ok (.iload 8, 2) := by decide +kernel
theorem dX8_year_93 : decode cX8_year 93 = .ok (.iload 4, 2) := by decide +kernel
theorem dX8_year_95 : decode cX8_year 95 = .ok (.if_icmp .ge 55, 3) := by decide +kernel
theorem dX8_year_98 : decode cX8_year 98 = .ok (.aload_n 0, 1) := by decide +kernel
theorem dX8_year_99 : decode cX8_year 99 = .ok (.aload_n 0, 1) := by decide +kernel
theorem dX8_year_100 : decode cX8_year 100 = .ok (.getfield 16, 3) := by decide +kernel
theorem dX8_year_103 : decode cX8_year 103 = .ok (.iload 7, 2) := by decide +kernel
theorem dX8_year_105 : decode cX8_year 105 = .ok (.iconst 2, 1) := by decide +kernel
theorem dX8_year_106 : decode cX8_year 106 = .ok (.iload 8, 2) := by decide +kernel
theorem dX8_year_108 : decode cX8_year 108 = .ok (.imul, 1) := by decide +kernel
theorem dX8_year_109 : decode cX8_year 109 = .ok (.iadd, 1) := by decide +kernel
theorem dX8_year_110 : decode cX8_year 110 = .ok (.iaload, 1) := by decide +kernel
theorem dX8_year_111 : decode cX8_year 111 = .ok (.invokevirtual 142, 3) := by decide +kernel
theorem dX8_year_114 : decode cX8_year 114 = .ok (.ifCond .ne 5, 3) := by decide +kernel
theorem dX8_year_117 : decode cX8_year 117 = .ok (.iconst (-1), 1) := by decide +kernel
theorem dX8_year_118 : decode cX8_year 118 = .ok (.ireturn, 1) := by decide +kernel
theorem dX8_year_119 : decode cX8_year 119 = .ok (.aload_n 0, 1) := by decide +kernel
theorem dX8_year_120 : decode cX8_year 120 = .ok (.getfield 16, 3) := by decide +kernel
theorem dX8_year_123 : decode cX8_year 123 = .ok (.iload 7, 2) := by decide +kernel
theorem dX8_year_125 : decode cX8_year 125 = .ok (.iconst 2, 1) := by decide +kernel
theorem dX8_year_126 : decode cX8_year 126 = .ok (.iload 8, 2) := by decide +kernel
theorem dX8_year_128 : decode cX8_year 128 = .ok (.imul, 1) := by decide +kernel
theorem dX8_year_129 : decode cX8_year 129 = .ok (.iadd, 1) := by decide +kernel
theorem dX8_year_130 : decode cX8_year 130 = .ok (.iconst 1, 1) := by decide +kernel
theorem dX8_year_131 : decode cX8_year 131 = .ok (.iadd, 1) := by decide +kernel
theorem dX8_year_132 : decode cX8_year 132 = .ok (.iaload, 1) := by decide +kernel
theorem dX8_year_133 : decode cX8_year 133 = .ok (.iconst 0, 1) := by decide +kernel
theorem dX8_year_134 : decode cX8_year 134 = .ok (.iconst 1, 1) := by decide +kernel
theorem dX8_year_135 : decode cX8_year 135 = .ok (.invokestatic 70, 3) := by decide +kernel
theorem dX8_year_138 : decode cX8_year 138 = .ok (.ifCond .ne 6, 3) := by decide +kernel
theorem dX8_year_141 : decode cX8_year 141 = .ok (.bipush (-2), 2) := by decide +kernel
theorem dX8_year_143 : decode cX8_year 143 = .ok (.ireturn, 1) := by decide +kernel
theorem dX8_year_144 : decode cX8_year 144 = .ok (.iinc 8 1, 3) := by decide +kernel
theorem dX8_year_147 : decode cX8_year 147 = .ok (.goto (-56), 3) := by decide +kernel
theorem dX8_year_150 : decode cX8_year 150 = .ok (.aload_n 0, 1) := by decide +kernel
theorem dX8_year_151 : decode cX8_year 151 = .ok (.getfield 116, 3) := by decide +kernel
theorem dX8_year_154 : decode cX8_year 154 = .ok (.istore 8, 2) := by decide +kernel
theorem dX8_year_156 : decode cX8_year 156 = .ok (.aload_n 0, 1) := by decide +kernel
theorem dX8_year_157 : decode cX8_year 157 = .ok (.iload 7, 2) := by decide +kernel
theorem dX8_year_159 : decode cX8_year 159 = .ok (.iload 4, 2) := by decide +kernel
theorem dX8_year_161 : decode cX8_year 161 = .ok (.invokevirtual 179, 3) := by decide +kernel
theorem dX8_year_164 : decode cX8_year 164 = .ok (.istore 9, 2) := by decide +kernel
theorem dX8_year_166 : decode cX8_year 166 = .ok (.aload_n 0, 1) := by decide +kernel
theorem dX8_year_167 : decode cX8_year 167 = .ok (.iload 5, 2) := by decide +kernel
theorem dX8_year_169 : decode cX8_year 169 = .ok (.invokevirtual 182, 3) := by decide +kernel
theorem dX8_year_172 : decode cX8_year 172 = .ok (.istore 10, 2) := by decide +kernel
theorem dX8_year_174 : decode cX8_year 174 = .ok (.aload_n 0, 1) := by decide +kernel
theorem dX8_year_175 : decode cX8_year 175 = .ok (.iload 8, 2) := by decide +kernel
theorem dX8_year_177 : decode cX8_year 177 = .ok (.putfield 116, 3) := by decide +kernel
theorem dX8_year_180 : decode cX8_year 180 = .ok (.iload 5, 2) := by decide +kernel
theorem dX8_year_182 : decode cX8_year 182 = .ok (.iconst 1, 1) := by decide +kernel
theorem dX8_year_183 : decode cX8_year 183 = .ok (.if_icmp .ne 8, 3) := by decide +kernel
theorem dX8_year_186 : decode cX8_year 186 = .ok (.iload 9, 2) := by decide +kernel
theorem dX8_year_188 : decode cX8_year 188 = .ok (.goto 20, 3) := by decide +kernel
theorem dX8_year_191 : decode cX8_year 191 = .ok (.iload 9, 2) := by decide +kernel
theorem dX8_year_193 : decode cX8_year 193 = .ok (.bipush (-9), 2) := by decide +kernel
theorem dX8_year_195 : decode cX8_year 195 = .ok (.if_icmp .ne 8, 3) := by decide +kernel
theorem dX8_year_198 : decode cX8_year 198 = .ok (.iload 10, 2) := by decide +kernel
theorem dX8_year_200 : decode cX8_year 200 = .ok (.goto 8, 3) := by decide +kernel
theorem dX8_year_203 : decode cX8_year 203 = .ok (.bipush (-100), 2) := by decide +kernel
theorem dX8_year_205 : decode cX8_year 205 = .ok (.iload 9, 2) := by decide +kernel
theorem dX8_year_207 : decode cX8_year 207 = .ok (.isub, 1) := by decide +kernel
theorem dX8_year_208 : decode cX8_year 208 = .ok (.ireturn, 1) := by decide +kernel
set_option maxRecDepth 20000 in
theorem ggX8_tellYear_X8_size : GoodIn wsX8_tellYear wsX8_size := goodIn_r _ [7] (by decide +kernel) (by decide +kernel)
set_option maxRecDepth 20000 in
theorem gX8_tellYear_X8_size : GoodIn wsX8_tellYear (va_wsS RX8 176 yX8_size wsX8_size) := goodIn_app (goodIn_of _ (by decide +kernel)) ggX8_tellYear_X8_size
set_option maxRecDepth 20000 in
theorem ggX8_tellYear_X8_laughsOf : GoodIn wsX8_tellYear wsX8_laughsOf := goodIn_r _ [11, 12, 13, 14, 6, 15, 16, 17, 18, 19, 20, 21, 22, 23, 24, 25, 26, 27, 28, 29, 30, 31, 32, 33, 34, 35, 36, 37, 38, 39, 40, 41, 42, 43, 44, 45, 46, 47, 48, 49, 50, 51, 52, 53] (by decide +kernel) (by decide +kernel)
set_option maxRecDepth 20000 in
theorem gX8_tellYear_X8_laughsOf : GoodIn wsX8_tellYear (wsV RX8 151 RX8 yX8_laughsOf wsX8_laughsOf) := goodIn_app (goodIn_of _ (by decide +kernel)) ggX8_tellYear_X8_laughsOf
theorem dX8_tellYear_0 : decode cX8_tellYear 0 = .ok (.iload_n 1, 1) := by decide +kernel
theorem dX8_tellYear_1 : decode cX8_tellYear 1 = .ok (.tableswitch 62 0 4 #[35, 62, 43, 48, 53], 35) := by decide +kernel
theorem dX8_tellYear_36 : decode cX8_tellYear 36 = .ok (.aload_n 0, 1) := by decide +kernel
theorem dX8_tellYear_37 : decode cX8_tellYear 37 = .ok (.getfield 116, 3) := by decide +kernel
theorem dX8_tellYear_40 : decode cX8_tellYear 40 = .ok (.invokestatic 176, 3) := by decide +kernel
theorem dX8_tellYear_43 : decode cX8_tellYear 43 = .ok (.ireturn, 1) := by decide +kernel
theorem dX8_tellYear_44 : decode cX8_tellYear 44 = .ok (.aload_n 0, 1) := by decide +kernel
theorem dX8_tellYear_45 : decode cX8_tellYear 45 = .ok (.getfield 116, 3) := by decide +kernel
theorem dX8_tellYear_48 : decode cX8_tellYear 48 = .ok (.ireturn, 1) := by decide +kernel
theorem dX8_tellYear_49 : decode cX8_tellYear 49 = .ok (.aload_n 0, 1) := by decide +kernel
theorem dX8_tellYear_50 : decode cX8_tellYear 50 = .ok (.getfield 170, 3) := by decide +kernel
theorem dX8_tellYear_53 : decode cX8_tellYear 53 = .ok (.ireturn, 1) := by decide +kernel
theorem dX8_tellYear_54 : decode cX8_tellYear 54 = .ok (.aload_n 0, 1) := by decide +kernel
theorem dX8_tellYear_55 : decode cX8_tellYear 55 = .ok (.aload_n 0, 1) := by decide +kernel
theorem dX8_tellYear_56 : decode cX8_tellYear 56 = .ok (.getfield 116, 3) := by decide +kernel
theorem dX8_tellYear_59 : decode cX8_tellYear 59 = .ok (.invokevirtual 151, 3) := by decide +kernel
theorem dX8_tellYear_62 : decode cX8_tellYear 62 = .ok (.ireturn, 1) := by decide +kernel
theorem dX8_tellYear_63 : decode cX8_tellYear 63 = .ok (.aload_n 0, 1) := by decide +kernel
theorem dX8_tellYear_64 : decode cX8_tellYear 64 = .ok (.getfield 173, 3) := by decide +kernel
theorem dX8_tellYear_67 : decode cX8_tellYear 67 = .ok (.ireturn, 1) := by decide +kernel
set_option maxRecDepth 20000 in
theorem ggX8_holds_X8_isOf : GoodIn wsX8_holds wsX8_isOf := goodIn_r _ [10] (by decide +kernel) (by decide +kernel)
set_option maxRecDepth 20000 in
theorem gX8_holds_X8_isOf : GoodIn wsX8_holds (va_wsS RX8 136 yX8_isOf wsX8_isOf) := goodIn_app (goodIn_of _ (by decide +kernel)) ggX8_holds_X8_isOf
theorem dX8_holds_0 : decode cX8_holds 0 = .ok (.iload_n 2, 1) := by decide +kernel
theorem dX8_holds_1 : decode cX8_holds 1 = .ok (.istore_n 3, 1) := by decide +kernel
theorem dX8_holds_2 : decode cX8_holds 2 = .ok (.iconst 0, 1) := by decide +kernel
theorem dX8_holds_3 : decode cX8_holds 3 = .ok (.istore 4, 2) := by decide +kernel
theorem dX8_holds_5 : decode cX8_holds 5 = .ok (.iload 4, 2) := by decide +kernel
theorem dX8_holds_7 : decode cX8_holds 7 = .ok (.aload_n 0, 1) := by decide +kernel
theorem dX8_holds_8 : decode cX8_holds 8 = .ok (.getfield 77, 3) := by decide +kernel
theorem dX8_holds_11 : decode cX8_holds 11 = .ok (.if_icmp .ge 17, 3) := by decide +kernel
theorem dX8_holds_14 : decode cX8_holds 14 = .ok (.aload_n 0, 1) := by decide +kernel
theorem dX8_holds_15 : decode cX8_holds 15 = .ok (.getfield 55, 3) := by decide +kernel
theorem dX8_holds_18 : decode cX8_holds 18 = .ok (.iload 4, 2) := by decide +kernel
theorem dX8_holds_20 : decode cX8_holds 20 = .ok (.iconst 0, 1) := by decide +kernel
theorem dX8_holds_21 : decode cX8_holds 21 = .ok (.iastore, 1) := by decide +kernel
theorem dX8_holds_22 : decode cX8_holds 22 = .ok (.iinc 4 1, 3) := by decide +kernel
theorem dX8_holds_25 : decode cX8_holds 25 = .ok (.goto (-20), 3) := by decide +kernel
theorem dX8_holds_28 : decode cX8_holds 28 = .ok (.aload_n 0, 1) := by decide +kernel
theorem dX8_holds_29 : decode cX8_holds 29 = .ok (.getfield 74, 3) := by decide +kernel
theorem dX8_holds_32 : decode cX8_holds 32 = .ok (.iconst 1, 1) := by decide +kernel
theorem dX8_holds_33 : decode cX8_holds 33 = .ok (.isub, 1) := by decide +kernel
theorem dX8_holds_34 : decode cX8_holds 34 = .ok (.istore 4, 2) := by decide +kernel
theorem dX8_holds_36 : decode cX8_holds 36 = .ok (.iload 4, 2) := by decide +kernel
theorem dX8_holds_38 : decode cX8_holds 38 = .ok (.ifCond .lt 69, 3) := by decide +kernel
theorem dX8_holds_41 : decode cX8_holds 41 = .ok (.aload_n 0, 1) := by decide +kernel
theorem dX8_holds_42 : decode cX8_holds 42 = .ok (.getfield 49, 3) := by decide +kernel
theorem dX8_holds_45 : decode cX8_holds 45 = .ok (.iload 4, 2) := by decide +kernel
theorem dX8_holds_47 : decode cX8_holds 47 = .ok (.bipush (-9), 2) := by decide +kernel
theorem dX8_holds_49 : decode cX8_holds 49 = .ok (.iastore, 1) := by decide +kernel
theorem dX8_holds_50 : decode cX8_holds 50 = .ok (.iload_n 1, 1) := by decide +kernel
theorem dX8_holds_51 : decode cX8_holds 51 = .ok (.iload 4, 2) := by decide +kernel
theorem dX8_holds_53 : decode cX8_holds 53 = .ok (.invokestatic 136, 3) := by decide +kernel
theorem dX8_holds_56 : decode cX8_holds 56 = .ok (.ifCond .eq 45, 3) := by decide +kernel
theorem dX8_holds_59 : decode cX8_holds 59 = .ok (.aload_n 0, 1) := by decide +kernel
theorem dX8_holds_60 : decode cX8_holds 60 = .ok (.getfield 49, 3) := by decide +kernel
theorem dX8_holds_63 : decode cX8_holds 63 = .ok (.iload 4, 2) := by decide +kernel
theorem dX8_holds_65 : decode cX8_holds 65 = .ok (.iload_n 3, 1) := by decide +kernel
theorem dX8_holds_66 : decode cX8_holds 66 = .ok (.aload_n 0, 1) := by decide +kernel
theorem dX8_holds_67 : decode cX8_holds 67 = .ok (.getfield 77, 3) := by decide +kernel
theorem dX8_holds_70 : decode cX8_holds 70 = .ok (.irem, 1) := by decide +kernel
theorem dX8_holds_71 : decode cX8_holds 71 = .ok (.iastore, 1) := by decide +kernel
theorem dX8_holds_72 : decode cX8_holds 72 = .ok (.iload_n 3, 1) := by decide +kernel
theorem dX8_holds_73 : decode cX8_holds 73 = .ok (.aload_n 0, 1) := by decide +kernel
theorem dX8_holds_74 : decode cX8_holds 74 = .ok (.getfield 77, 3) := by decide +kernel
theorem dX8_holds_77 : decode cX8_holds 77 = .ok (.idiv, 1) := by decide +kernel
theorem dX8_holds_78 : decode cX8_holds 78 = .ok (.istore_n 3, 1) := by decide +kernel
theorem dX8_holds_79 : decode cX8_holds 79 = .ok (.aload_n 0, 1) := by decide +kernel
theorem dX8_holds_80 : decode cX8_holds 80 = .ok (.getfield 55, 3) := by decide +kernel
theorem dX8_holds_83 : decode cX8_holds 83 = .ok (.aload_n 0, 1) := by decide +kernel
theorem dX8_holds_84 : decode cX8_holds 84 = .ok (.getfield 49, 3) := by decide +kernel
theorem dX8_holds_87 : decode cX8_holds 87 = .ok (.iload 4, 2) := by decide +kernel
theorem dX8_holds_89 : decode cX8_holds 89 = .ok (.iaload, 1) := by decide +kernel
theorem dX8_holds_90 : decode cX8_holds 90 = .ok (.dup2, 1) := by decide +kernel
theorem dX8_holds_91 : decode cX8_holds 91 = .ok (.iaload, 1) := by decide +kernel
theorem dX8_holds_92 : decode cX8_holds 92 = .ok (.aload_n 0, 1) := by decide +kernel
theorem dX8_holds_93 : decode cX8_holds 93 = .ok (.getfield 25, 3) := by decide +kernel
theorem dX8_holds_96 : decode cX8_holds 96 = .ok (.iload 4, 2) := by decide +kernel
theorem dX8_holds_98 : decode cX8_holds 98 = .ok (.iaload, 1) := by decide +kernel
theorem dX8_holds_99 : decode cX8_holds 99 = .ok (.iadd, 1) := by decide +kernel
theorem dX8_holds_100 : decode cX8_holds 100 = .ok (.iastore, 1) := by decide +kernel
theorem dX8_holds_101 : decode cX8_holds 101 = .ok (.iinc 4 (-1), 3) := by decide +kernel
theorem dX8_holds_104 : decode cX8_holds 104 = .ok (.goto (-68), 3) := by decide +kernel
theorem dX8_holds_107 : decode cX8_holds 107 = .ok (.iconst 0, 1) := by decide +kernel
theorem dX8_holds_108 : decode cX8_holds 108 = .ok (.istore 4, 2) := by decide +kernel
theorem dX8_holds_110 : decode cX8_holds 110 = .ok (.iload 4, 2) := by decide +kernel
theorem dX8_holds_112 : decode cX8_holds 112 = .ok (.aload_n 0, 1) := by decide +kernel
theorem dX8_holds_113 : decode cX8_holds 113 = .ok (.getfield 77, 3) := by decide +kernel
theorem dX8_holds_116 : decode cX8_holds 116 = .ok (.if_icmp .ge 28, 3) := by decide +kernel
theorem dX8_holds_119 : decode cX8_holds 119 = .ok (.aload_n 0, 1) := by decide +kernel
theorem dX8_holds_120 : decode cX8_holds 120 = .ok (.getfield 55, 3) := by decide +kernel
theorem dX8_holds_123 : decode cX8_holds 123 = .ok (.iload 4, 2) := by decide +kernel
theorem dX8_holds_125 : decode cX8_holds 125 = .ok (.iaload, 1) := by decide +kernel
theorem dX8_holds_126 : decode cX8_holds 126 = .ok (.aload_n 0, 1) := by decide +kernel
theorem dX8_holds_127 : decode cX8_holds 127 = .ok (.getfield 19, 3) := by decide +kernel
theorem dX8_holds_130 : decode cX8_holds 130 = .ok (.iload 4, 2) := by decide +kernel
theorem dX8_holds_132 : decode cX8_holds 132 = .ok (.iaload, 1) := by decide +kernel
theorem dX8_holds_133 : decode cX8_holds 133 = .ok (.if_icmp .le 5, 3) := by decide +kernel
theorem dX8_holds_136 : decode cX8_holds 136 = .ok (.iconst 0, 1) := by decide +kernel
theorem dX8_holds_137 : decode cX8_holds 137 = .ok (.ireturn, 1) := by decide +kernel
theorem dX8_holds_138 : decode cX8_holds 138 = .ok (.iinc 4 1, 3) := by decide +kernel
theorem dX8_holds_141 : decode cX8_holds 141 = .ok (.goto (-31), 3) := by decide +kernel
theorem dX8_holds_144 : decode cX8_holds 144 = .ok (.iconst 1, 1) := by decide +kernel
theorem dX8_holds_145 : decode cX8_holds 145 = .ok (.ireturn, 1) := by decide +kernel
set_option maxRecDepth 20000 in
theorem ggX8_findPacks_X8_size : GoodIn wsX8_findPacks wsX8_size := goodIn_r _ [9] (by decide +kernel) (by decide +kernel)
set_option maxRecDepth 20000 in
theorem gX8_findPacks_X8_size : GoodIn wsX8_findPacks (va_wsS RX8 176 yX8_size wsX8_size) := goodIn_app (goodIn_of _ (by decide +kernel)) ggX8_findPacks_X8_size
set_option maxRecDepth 20000 in
theorem ggX8_findPacks_X8_holds : GoodIn wsX8_findPacks wsX8_holds := goodIn_r _ [13, 2, 14, 3, 5, 15, 16, 17, 18, 8, 19, 20, 21, 22, 23, 24, 25, 26, 27, 28, 29, 30, 31, 32, 33, 34, 35, 36, 37, 38, 39, 40, 41, 42, 43, 44, 45, 46, 47, 48, 49, 50, 51] (by decide +kernel) (by decide +kernel)
set_option maxRecDepth 20000 in
theorem gX8_findPacks_X8_holds : GoodIn wsX8_findPacks (wsV RX8 188 RX8 yX8_holds wsX8_holds) := goodIn_app (goodIn_of _ (by decide +kernel)) ggX8_findPacks_X8_holds
theorem dX8_findPacks_0 : decode cX8_findPacks 0 = .ok (.aload_n 0, 1) := by decide +kernel
theorem dX8_findPacks_1 : decode cX8_findPacks 1 = .ok (.iconst 0, 1) := by decide +kernel
theorem dX8_findPacks_2 : decode cX8_findPacks 2 = .ok (.putfield 185, 3) := by decide +kernel
theorem dX8_findPacks_5 : decode cX8_findPacks 5 = .ok (.iconst 1, 1) := by decide +kernel
theorem dX8_findPacks_6 : decode cX8_findPacks 6 = .ok (.istore_n 2, 1) := by decide +kernel
theorem dX8_findPacks_7 : decode cX8_findPacks 7 = .ok (.iload_n 1, 1) := by decide +kernel
theorem dX8_findPacks_8 : decode cX8_findPacks 8 = .ok (.invokestatic 176, 3) := by decide +kernel
theorem dX8_findPacks_11 : decode cX8_findPacks 11 = .ok (.istore_n 3, 1) := by decide +kernel
theorem dX8_findPacks_12 : decode cX8_findPacks 12 = .ok (.iload_n 3, 1) := by decide +kernel
theorem dX8_findPacks_13 : decode cX8_findPacks 13 = .ok (.ifCond .le 16, 3) := by decide +kernel
theorem dX8_findPacks_16 : decode cX8_findPacks 16 = .ok (.iload_n 2, 1) := by decide +kernel
theorem dX8_findPacks_17 : decode cX8_findPacks 17 = .ok (.aload_n 0, 1) := by decide +kernel
theorem dX8_findPacks_18 : decode cX8_findPacks 18 = .ok (.getfield 77, 3) := by decide +kernel
theorem dX8_findPacks_21 : decode cX8_findPacks 21 = .ok (.imul, 1) := by decide +kernel
theorem dX8_findPacks_22 : decode cX8_findPacks 22 = .ok (.istore_n 2, 1) := by decide +kernel
theorem dX8_findPacks_23 : decode cX8_findPacks 23 = .ok (.iinc 3 (-1), 3) := by decide +kernel
theorem dX8_findPacks_26 : decode cX8_findPacks 26 = .ok (.goto (-14), 3) := by decide +kernel
theorem dX8_findPacks_29 : decode cX8_findPacks 29 = .ok (.iconst 0, 1) := by decide +kernel
theorem dX8_findPacks_30 : decode cX8_findPacks 30 = .ok (.istore_n 3, 1) := by decide +kernel
theorem dX8_findPacks_31 : decode cX8_findPacks 31 = .ok (.iload_n 3, 1) := by decide +kernel
theorem dX8_findPacks_32 : decode cX8_findPacks 32 = .ok (.iload_n 2, 1) := by decide +kernel
theorem dX8_findPacks_33 : decode cX8_findPacks 33 = .ok (.if_icmp .ge 68, 3) := by decide +kernel
theorem dX8_findPacks_36 : decode cX8_findPacks 36 = .ok (.aload_n 0, 1) := by decide +kernel
theorem dX8_findPacks_37 : decode cX8_findPacks 37 = .ok (.iload_n 1, 1) := by decide +kernel
theorem dX8_findPacks_38 : decode cX8_findPacks 38 = .ok (.iload_n 3, 1) := by decide +kernel
theorem dX8_findPacks_39 : decode cX8_findPacks 39 = .ok (.invokevirtual 188, 3) := by decide +kernel
theorem dX8_findPacks_42 : decode cX8_findPacks 42 = .ok (.ifCond .eq 53, 3) := by decide +kernel
theorem dX8_findPacks_45 : decode cX8_findPacks 45 = .ok (.aload_n 0, 1) := by decide +kernel
theorem dX8_findPacks_46 : decode cX8_findPacks 46 = .ok (.dup, 1) := by decide +kernel
theorem dX8_findPacks_47 : decode cX8_findPacks 47 = .ok (.getfield 185, 3) := by decide +kernel
theorem dX8_findPacks_50 : decode cX8_findPacks 50 = .ok (.iconst 1, 1) := by decide +kernel
theorem dX8_findPacks_51 : decode cX8_findPacks 51 = .ok (.iadd, 1) := by decide +kernel
theorem dX8_findPacks_52 : decode cX8_findPacks 52 = .ok (.putfield 185, 3) := by decide +kernel
theorem dX8_findPacks_55 : decode cX8_findPacks 55 = .ok (.iconst 0, 1) := by decide +kernel
theorem dX8_findPacks_56 : decode cX8_findPacks 56 = .ok (.istore 4, 2) := by decide +kernel
theorem dX8_findPacks_58 : decode cX8_findPacks 58 = .ok (.iload 4, 2) := by decide +kernel
theorem dX8_findPacks_60 : decode cX8_findPacks 60 = .ok (.aload_n 0, 1) := by decide +kernel
theorem dX8_findPacks_61 : decode cX8_findPacks 61 = .ok (.getfield 74, 3) := by decide +kernel
theorem dX8_findPacks_64 : decode cX8_findPacks 64 = .ok (.if_icmp .ge 31, 3) := by decide +kernel
theorem dX8_findPacks_67 : decode cX8_findPacks 67 = .ok (.aload_n 0, 1) := by decide +kernel
theorem dX8_findPacks_68 : decode cX8_findPacks 68 = .ok (.getfield 185, 3) := by decide +kernel
theorem dX8_findPacks_71 : decode cX8_findPacks 71 = .ok (.iconst 1, 1) := by decide +kernel
theorem dX8_findPacks_72 : decode cX8_findPacks 72 = .ok (.if_icmp .ne 23, 3) := by decide +kernel
theorem dX8_findPacks_75 : decode cX8_findPacks 75 = .ok (.aload_n 0, 1) := by decide +kernel
theorem dX8_findPacks_76 : decode cX8_findPacks 76 = .ok (.getfield 52, 3) := by decide +kernel
theorem dX8_findPacks_79 : decode cX8_findPacks 79 = .ok (.iload 4, 2) := by decide +kernel
theorem dX8_findPacks_81 : decode cX8_findPacks 81 = .ok (.aload_n 0, 1) := by decide +kernel
theorem dX8_findPacks_82 : decode cX8_findPacks 82 = .ok (.getfield 49, 3) := by decide +kernel
theorem dX8_findPacks_85 : decode cX8_findPacks 85 = .ok (.iload 4, 2) := by decide +kernel
theorem dX8_findPacks_87 : decode cX8_findPacks 87 = .ok (.iaload, 1) := by decide +kernel
theorem dX8_findPacks_88 : decode cX8_findPacks 88 = .ok (.iastore, 1) := by decide +kernel
theorem dX8_findPacks_89 : decode cX8_findPacks 89 = .ok (.iinc 4 1, 3) := by decide +kernel
theorem dX8_findPacks_92 : decode cX8_findPacks 92 = .ok (.goto (-34), 3) := by decide +kernel
theorem dX8_findPacks_95 : decode cX8_findPacks 95 = .ok (.iinc 3 1, 3) := by decide +kernel
theorem dX8_findPacks_98 : decode cX8_findPacks 98 = .ok (.goto (-67), 3) := by decide +kernel
theorem dX8_findPacks_101 : decode cX8_findPacks 101 = .ok (.return_, 1) := by decide +kernel
set_option maxRecDepth 20000 in
theorem ggX8_packs_X8_isSet : GoodIn wsX8_packs wsX8_isSet := goodIn_r _ [8, 1, 35, 36, 37, 38, 39, 40, 41, 42, 43, 44, 45, 46, 47, 48, 49, 50, 51, 52, 53, 54, 55, 56, 57, 58, 59, 60, 61, 62, 63, 64, 65, 66] (by decide +kernel) (by decide +kernel)
set_option maxRecDepth 20000 in
theorem gX8_packs_X8_isSet : GoodIn wsX8_packs (wsV RX8 154 RX8 yX8_isSet wsX8_isSet) := goodIn_app (goodIn_of _ (by decide +kernel)) ggX8_packs_X8_isSet
set_option maxRecDepth 20000 in
theorem ggX8_packs_X8_within : GoodIn wsX8_packs wsX8_within := goodIn_r _ [11] (by decide +kernel) (by decide +kernel)
set_option maxRecDepth 20000 in
theorem gX8_packs_X8_within : GoodIn wsX8_packs (va_wsS RX8 70 yX8_within wsX8_within) := goodIn_app (goodIn_of _ (by decide +kernel)) ggX8_packs_X8_within
set_option maxRecDepth 20000 in
theorem ggX8_packs_X8_findPacks : GoodIn wsX8_packs wsX8_findPacks := goodIn_r _ [15, 2, 16, 1, 3, 17, 18, 19, 7, 20, 21, 22, 23, 24, 25, 26, 27, 28, 29, 30, 35, 36, 37, 38, 39, 40, 41, 42, 43, 44, 45, 46, 47, 48, 49, 50, 51, 52, 53, 54, 55, 56, 57, 58, 59, 60, 61, 62, 63, 64, 65, 66] (by decide +kernel) (by decide +kernel)
set_option maxRecDepth 20000 in
theorem gX8_packs_X8_findPacks : GoodIn wsX8_packs (wsV RX8 191 RX8 yX8_findPacks wsX8_findPacks) := goodIn_app (goodIn_of _ (by decide +kernel)) ggX8_packs_X8_findPacks
set_option maxRecDepth 20000 in
theorem ggX8_packs_X8_isArticle : GoodIn wsX8_packs wsX8_isArticle := goodIn_r _ [34, 1, 35, 36, 37, 38, 39, 40, 41, 42, 43, 44, 45, 46, 47, 48, 49, 50, 51, 52, 53, 54, 55, 56, 57, 58, 59, 60, 61, 62, 63, 64, 65, 66] (by decide +kernel) (by decide +kernel)
set_option maxRecDepth 20000 in
theorem gX8_packs_X8_isArticle : GoodIn wsX8_packs (wsV RX8 142 RX8 yX8_isArticle wsX8_isArticle) := goodIn_app (goodIn_of _ (by decide +kernel)) ggX8_packs_X8_isArticle
theorem dX8_packs_0 : decode cX8_packs 0 = .ok (.aload_n 0, 1) := by decide +kernel
theorem dX8_packs_1 : decode cX8_packs 1 = .ok (.getfield 74, 3) := by decide +kernel
theorem dX8_packs_4 : decode cX8_packs 4 = .ok (.ifCond .ne 6, 3) := by decide +kernel
theorem dX8_packs_7 : decode cX8_packs 7 = .ok (.bipush (-3), 2) := by decide +kernel
theorem dX8_packs_9 : decode cX8_packs 9 = .ok (.ireturn, 1) := by decide +kernel
theorem dX8_packs_10 : decode cX8_packs 10 = .ok (.aload_n 0, 1) := by decide +kernel
theorem dX8_packs_11 : decode cX8_packs 11 = .ok (.iload_n 1, 1) := by decide +kernel
theorem dX8_packs_12 : decode cX8_packs 12 = .ok (.invokevirtual 154, 3) := by decide +kernel
theorem dX8_packs_15 : decode cX8_packs 15 = .ok (.ifCond .eq 12, 3) := by decide +kernel
theorem dX8_packs_18 : decode cX8_packs 18 = .ok (.iload_n 2, 1) := by decide +kernel
theorem dX8_packs_19 : decode cX8_packs 19 = .ok (.iconst (-1), 1) := by decide +kernel
theorem dX8_packs_20 : decode cX8_packs 20 = .ok (.iconst 5, 1) := by decide +kernel
theorem dX8_packs_21 : decode cX8_packs 21 = .ok (.invokestatic 70, 3) := by decide +kernel
theorem dX8_packs_24 : decode cX8_packs 24 = .ok (.ifCond .ne 6, 3) := by decide +kernel
theorem dX8_packs_27 : decode cX8_packs 27 = .ok (.bipush (-2), 2) := by decide +kernel
theorem dX8_packs_29 : decode cX8_packs 29 = .ok (.ireturn, 1) := by decide +kernel
theorem dX8_packs_30 : decode cX8_packs 30 = .ok (.aload_n 0, 1) := by decide +kernel
theorem dX8_packs_31 : decode cX8_packs 31 = .ok (.iload_n 1, 1) := by decide +kernel
theorem dX8_packs_32 : decode cX8_packs 32 = .ok (.invokevirtual 191, 3) := by decide +kernel
theorem dX8_packs_35 : decode cX8_packs 35 = .ok (.iload_n 2, 1) := by decide +kernel
theorem dX8_packs_36 : decode cX8_packs 36 = .ok (.iconst (-1), 1) := by decide +kernel
theorem dX8_packs_37 : decode cX8_packs 37 = .ok (.if_icmp .ne 8, 3) := by decide +kernel
theorem dX8_packs_40 : decode cX8_packs 40 = .ok (.aload_n 0, 1) := by decide +kernel
theorem dX8_packs_41 : decode cX8_packs 41 = .ok (.getfield 185, 3) := by decide +kernel
theorem dX8_packs_44 : decode cX8_packs 44 = .ok (.ireturn, 1) := by decide +kernel
theorem dX8_packs_45 : decode cX8_packs 45 = .ok (.aload_n 0, 1) := by decide +kernel
theorem dX8_packs_46 : decode cX8_packs 46 = .ok (.getfield 185, 3) := by decide +kernel
theorem dX8_packs_49 : decode cX8_packs 49 = .ok (.ifCond .le 20, 3) := by decide +kernel
theorem dX8_packs_52 : decode cX8_packs 52 = .ok (.aload_n 0, 1) := by decide +kernel
theorem dX8_packs_53 : decode cX8_packs 53 = .ok (.iload_n 2, 1) := by decide +kernel
theorem dX8_packs_54 : decode cX8_packs 54 = .ok (.invokevirtual 142, 3) := by decide +kernel
theorem dX8_packs_57 : decode cX8_packs 57 = .ok (.ifCond .eq 12, 3) := by decide +kernel
theorem dX8_packs_60 : decode cX8_packs 60 = .ok (.aload_n 0, 1) := by decide +kernel
theorem dX8_packs_61 : decode cX8_packs 61 = .ok (.getfield 52, 3) := by decide +kernel
theorem dX8_packs_64 : decode cX8_packs 64 = .ok (.iload_n 2, 1) := by decide +kernel
theorem dX8_packs_65 : decode cX8_packs 65 = .ok (.iaload, 1) := by decide +kernel
theorem dX8_packs_66 : decode cX8_packs 66 = .ok (.goto 5, 3) := by decide +kernel
theorem dX8_packs_69 : decode cX8_packs 69 = .ok (.bipush (-9), 2) := by decide +kernel
theorem dX8_packs_71 : decode cX8_packs 71 = .ok (.ireturn, 1) := by decide +kernel
set_option maxRecDepth 20000 in
theorem ggX8_fewestFor_X8_size : GoodIn wsX8_fewestFor wsX8_size := goodIn_r _ [6] (by decide +kernel) (by decide +kernel)
set_option maxRecDepth 20000 in
theorem gX8_fewestFor_X8_size : GoodIn wsX8_fewestFor (va_wsS RX8 176 yX8_size wsX8_size) := goodIn_app (goodIn_of _ (by decide +kernel)) ggX8_fewestFor_X8_size
set_option maxRecDepth 20000 in
theorem ggX8_fewestFor_X8_companyOf : GoodIn wsX8_fewestFor wsX8_companyOf := goodIn_r _ [10, 1, 11, 12, 13, 14, 5, 15, 16, 17, 18, 19, 20, 21, 22, 23, 24, 25, 26, 27, 28, 29, 30, 31, 32, 33, 34, 35, 36, 37, 38, 39, 40, 41, 42, 43, 44, 45, 46, 47, 48, 49, 50, 51, 52, 53, 54, 55, 56] (by decide +kernel) (by decide +kernel)
set_option maxRecDepth 20000 in
theorem gX8_fewestFor_X8_companyOf : GoodIn wsX8_fewestFor (wsV RX8 157 RX8 yX8_companyOf wsX8_companyOf) := goodIn_app (goodIn_of _ (by decide +kernel)) ggX8_fewestFor_X8_companyOf
theorem dX8_fewestFor_0 : decode cX8_fewestFor 0 = .ok (.bipush (-9), 2) := by decide +kernel
theorem dX8_fewestFor_2 : decode cX8_fewestFor 2 = .ok (.istore_n 3, 1) := by decide +kernel
theorem dX8_fewestFor_3 : decode cX8_fewestFor 3 = .ok (.iconst 0, 1) := by decide +kernel
theorem dX8_fewestFor_4 : decode cX8_fewestFor 4 = .ok (.istore 4, 2) := by decide +kernel
theorem dX8_fewestFor_6 : decode cX8_fewestFor 6 = .ok (.iload 4, 2) := by decide +kernel
theorem dX8_fewestFor_8 : decode cX8_fewestFor 8 = .ok (.iconst 1, 1) := by decide +kernel
theorem dX8_fewestFor_9 : decode cX8_fewestFor 9 = .ok (.aload_n 0, 1) := by decide +kernel
theorem dX8_fewestFor_10 : decode cX8_fewestFor 10 = .ok (.getfield 74, 3) := by decide +kernel
theorem dX8_fewestFor_13 : decode cX8_fewestFor 13 = .ok (.ishl, 1) := by decide +kernel
theorem dX8_fewestFor_14 : decode cX8_fewestFor 14 = .ok (.if_icmp .ge 79, 3) := by decide +kernel
theorem dX8_fewestFor_17 : decode cX8_fewestFor 17 = .ok (.iload 4, 2) := by decide +kernel
theorem dX8_fewestFor_19 : decode cX8_fewestFor 19 = .ok (.aload_n 0, 1) := by decide +kernel
theorem dX8_fewestFor_20 : decode cX8_fewestFor 20 = .ok (.getfield 116, 3) := by decide +kernel
theorem dX8_fewestFor_23 : decode cX8_fewestFor 23 = .ok (.iconst (-1), 1) := by decide +kernel
theorem dX8_fewestFor_24 : decode cX8_fewestFor 24 = .ok (.ixor, 1) := by decide +kernel
theorem dX8_fewestFor_25 : decode cX8_fewestFor 25 = .ok (.iand, 1) := by decide +kernel
theorem dX8_fewestFor_26 : decode cX8_fewestFor 26 = .ok (.ifCond .ne 32, 3) := by decide +kernel
theorem dX8_fewestFor_29 : decode cX8_fewestFor 29 = .ok (.iload 4, 2) := by decide +kernel
theorem dX8_fewestFor_31 : decode cX8_fewestFor 31 = .ok (.iload_n 2, 1) := by decide +kernel
theorem dX8_fewestFor_32 : decode cX8_fewestFor 32 = .ok (.iand, 1) := by decide +kernel
theorem dX8_fewestFor_33 : decode cX8_fewestFor 33 = .ok (.ifCond .ne 25, 3) := by decide +kernel
theorem dX8_fewestFor_36 : decode cX8_fewestFor 36 = .ok (.iload_n 3, 1) := by decide +kernel
theorem dX8_fewestFor_37 : decode cX8_fewestFor 37 = .ok (.bipush (-9), 2) := by decide +kernel
theorem dX8_fewestFor_39 : decode cX8_fewestFor 39 = .ok (.if_icmp .eq 15, 3) := by decide +kernel
theorem dX8_fewestFor_42 : decode cX8_fewestFor 42 = .ok (.iload 4, 2) := by decide +kernel
theorem dX8_fewestFor_44 : decode cX8_fewestFor 44 = .ok (.invokestatic 176, 3) := by decide +kernel
theorem dX8_fewestFor_47 : decode cX8_fewestFor 47 = .ok (.iload_n 3, 1) := by decide +kernel
theorem dX8_fewestFor_48 : decode cX8_fewestFor 48 = .ok (.invokestatic 176, 3) := by decide +kernel
theorem dX8_fewestFor_51 : decode cX8_fewestFor 51 = .ok (.if_icmp .ge 7, 3) := by decide +kernel
theorem dX8_fewestFor_54 : decode cX8_fewestFor 54 = .ok (.iconst 1, 1) := by decide +kernel
theorem dX8_fewestFor_55 : decode cX8_fewestFor 55 = .ok (.goto 4, 3) := by decide +kernel
theorem dX8_fewestFor_58 : decode cX8_fewestFor 58 = .ok (.iconst 0, 1) := by decide +kernel
theorem dX8_fewestFor_59 : decode cX8_fewestFor 59 = .ok (.istore 5, 2) := by decide +kernel
theorem dX8_fewestFor_61 : decode cX8_fewestFor 61 = .ok (.iload 5, 2) := by decide +kernel
theorem dX8_fewestFor_63 : decode cX8_fewestFor 63 = .ok (.ifCond .eq 24, 3) := by decide +kernel
theorem dX8_fewestFor_66 : decode cX8_fewestFor 66 = .ok (.aload_n 0, 1) := by decide +kernel
theorem dX8_fewestFor_67 : decode cX8_fewestFor 67 = .ok (.aload_n 0, 1) := by decide +kernel
theorem dX8_fewestFor_68 : decode cX8_fewestFor 68 = .ok (.getfield 116, 3) := by decide +kernel
theorem dX8_fewestFor_71 : decode cX8_fewestFor 71 = .ok (.iload 4, 2) := by decide +kernel
theorem dX8_fewestFor_73 : decode cX8_fewestFor 73 = .ok (.iconst (-1), 1) := by decide +kernel
theorem dX8_fewestFor_74 : decode cX8_fewestFor 74 = .ok (.ixor, 1) := by decide +kernel
theorem dX8_fewestFor_75 : decode cX8_fewestFor 75 = .ok (.iand, 1) := by decide +kernel
theorem dX8_fewestFor_76 : decode cX8_fewestFor 76 = .ok (.invokevirtual 157, 3) := by decide +kernel
theorem dX8_fewestFor_79 : decode cX8_fewestFor 79 = .ok (.iload_n 1, 1) := by decide +kernel
theorem dX8_fewestFor_80 : decode cX8_fewestFor 80 = .ok (.iand, 1) := by decide +kernel
theorem dX8_fewestFor_81 : decode cX8_fewestFor 81 = .ok (.ifCond .ne 6, 3) := by decide +kernel
theorem dX8_fewestFor_84 : decode cX8_fewestFor 84 = .ok (.iload 4, 2) := by decide +kernel
theorem dX8_fewestFor_86 : decode cX8_fewestFor 86 = .ok (.istore_n 3, 1) := by decide +kernel
theorem dX8_fewestFor_87 : decode cX8_fewestFor 87 = .ok (.iinc 4 1, 3) := by decide +kernel
theorem dX8_fewestFor_90 : decode cX8_fewestFor 90 = .ok (.goto (-84), 3) := by decide +kernel
theorem dX8_fewestFor_93 : decode cX8_fewestFor 93 = .ok (.iload_n 3, 1) := by decide +kernel
theorem dX8_fewestFor_94 : decode cX8_fewestFor 94 = .ok (.ireturn, 1) := by decide +kernel
set_option maxRecDepth 20000 in
theorem ggX8_fetch_X8_isSet : GoodIn wsX8_fetch wsX8_isSet := goodIn_r _ [7, 1, 33, 34, 35, 36, 37, 38, 39, 40, 41, 42, 43, 44, 45, 46, 47, 48, 49, 50, 51, 52, 53, 54, 55, 56, 57, 58, 59, 60, 61, 62, 63, 64] (by decide +kernel) (by decide +kernel)
set_option maxRecDepth 20000 in
theorem gX8_fetch_X8_isSet : GoodIn wsX8_fetch (wsV RX8 154 RX8 yX8_isSet wsX8_isSet) := goodIn_app (goodIn_of _ (by decide +kernel)) ggX8_fetch_X8_isSet
set_option maxRecDepth 20000 in
theorem ggX8_fetch_X8_fewestFor : GoodIn wsX8_fetch wsX8_fewestFor := goodIn_r _ [11, 1, 2, 12, 13, 6, 14, 15, 16, 17, 18, 19, 20, 21, 22, 23, 24, 25, 26, 27, 28, 29, 30, 31, 32, 33, 34, 35, 36, 37, 38, 39, 40, 41, 42, 43, 44, 45, 46, 47, 48, 49, 50, 51, 52, 53, 54, 55, 56, 57, 58, 59, 60, 61, 62, 63, 64] (by decide +kernel) (by decide +kernel)
set_option maxRecDepth 20000 in
theorem gX8_fetch_X8_fewestFor : GoodIn wsX8_fetch (wsV RX8 195 RX8 yX8_fewestFor wsX8_fewestFor) := goodIn_app (goodIn_of _ (by decide +kernel)) ggX8_fetch_X8_fewestFor
theorem dX8_fetch_0 : decode cX8_fetch 0 = .ok (.aload_n 0, 1) := by decide +kernel
theorem dX8_fetch_1 : decode cX8_fetch 1 = .ok (.getfield 74, 3) := by decide +kernel
theorem dX8_fetch_4 : decode cX8_fetch 4 = .ok (.ifCond .ne 6, 3) := by decide +kernel
theorem dX8_fetch_7 : decode cX8_fetch 7 = .ok (.bipush (-3), 2) := by decide +kernel
theorem dX8_fetch_9 : decode cX8_fetch 9 = .ok (.ireturn, 1) := by decide +kernel
theorem dX8_fetch_10 : decode cX8_fetch 10 = .ok (.aload_n 0, 1) := by decide +kernel
theorem dX8_fetch_11 : decode cX8_fetch 11 = .ok (.iload_n 1, 1) := by decide +kernel
theorem dX8_fetch_12 : decode cX8_fetch 12 = .ok (.invokevirtual 154, 3) := by decide +kernel
theorem dX8_fetch_15 : decode cX8_fetch 15 = .ok (.ifCond .ne 6, 3) := by decide +kernel
theorem dX8_fetch_18 : decode cX8_fetch 18 = .ok (.bipush (-2), 2) := by decide +kernel
theorem dX8_fetch_20 : decode cX8_fetch 20 = .ok (.ireturn, 1) := by decide +kernel
theorem dX8_fetch_21 : decode cX8_fetch 21 = .ok (.iload_n 1, 1) := by decide +kernel
theorem dX8_fetch_22 : decode cX8_fetch 22 = .ok (.aload_n 0, 1) := by decide +kernel
theorem dX8_fetch_23 : decode cX8_fetch 23 = .ok (.getfield 116, 3) := by decide +kernel
theorem dX8_fetch_26 : decode cX8_fetch 26 = .ok (.iconst (-1), 1) := by decide +kernel
theorem dX8_fetch_27 : decode cX8_fetch 27 = .ok (.ixor, 1) := by decide +kernel
theorem dX8_fetch_28 : decode cX8_fetch 28 = .ok (.iand, 1) := by decide +kernel
theorem dX8_fetch_29 : decode cX8_fetch 29 = .ok (.ifCond .ne 12, 3) := by decide +kernel
theorem dX8_fetch_32 : decode cX8_fetch 32 = .ok (.aload_n 0, 1) := by decide +kernel
theorem dX8_fetch_33 : decode cX8_fetch 33 = .ok (.iload_n 1, 1) := by decide +kernel
theorem dX8_fetch_34 : decode cX8_fetch 34 = .ok (.iconst 0, 1) := by decide +kernel
theorem dX8_fetch_35 : decode cX8_fetch 35 = .ok (.invokevirtual 195, 3) := by decide +kernel
theorem dX8_fetch_38 : decode cX8_fetch 38 = .ok (.goto 5, 3) := by decide +kernel
theorem dX8_fetch_41 : decode cX8_fetch 41 = .ok (.bipush (-3), 2) := by decide +kernel
theorem dX8_fetch_43 : decode cX8_fetch 43 = .ok (.ireturn, 1) := by decide +kernel
set_option maxRecDepth 20000 in
theorem ggX8_lure_X8_isArticle : GoodIn wsX8_lure wsX8_isArticle := goodIn_r _ [6, 7, 33, 34, 35, 36, 37, 38, 39, 40, 41, 42, 43, 44, 45, 46, 47, 48, 49, 50, 51, 52, 53, 54, 55, 56, 57, 58, 59, 60, 61, 62, 63, 64] (by decide +kernel) (by decide +kernel)
set_option maxRecDepth 20000 in
theorem gX8_lure_X8_isArticle : GoodIn wsX8_lure (wsV RX8 142 RX8 yX8_isArticle wsX8_isArticle) := goodIn_app (goodIn_of _ (by decide +kernel)) ggX8_lure_X8_isArticle
set_option maxRecDepth 20000 in
theorem ggX8_lure_X8_isOf : GoodIn wsX8_lure wsX8_isOf := goodIn_r _ [10] (by decide +kernel) (by decide +kernel)
set_option maxRecDepth 20000 in
theorem gX8_lure_X8_isOf : GoodIn wsX8_lure (va_wsS RX8 136 yX8_isOf wsX8_isOf) := goodIn_app (goodIn_of _ (by decide +kernel)) ggX8_lure_X8_isOf
set_option maxRecDepth 20000 in
theorem ggX8_lure_X8_fewestFor : GoodIn wsX8_lure wsX8_fewestFor := goodIn_r _ [14, 7, 1, 15, 16, 5, 17, 18, 19, 20, 21, 22, 23, 24, 25, 26, 8, 9, 10, 27, 28, 29, 30, 31, 32, 33, 34, 35, 36, 37, 38, 39, 40, 41, 42, 43, 44, 45, 46, 47, 48, 49, 50, 51, 52, 53, 54, 55, 56, 57, 58, 59, 60, 61, 62, 63, 64] (by decide +kernel) (by decide +kernel)
set_option maxRecDepth 20000 in
theorem gX8_lure_X8_fewestFor : GoodIn wsX8_lure (wsV RX8 195 RX8 yX8_fewestFor wsX8_fewestFor) := goodIn_app (goodIn_of _ (by decide +kernel)) ggX8_lure_X8_fewestFor
theorem dX8_lure_0 : decode cX8_lure 0 = .ok (.aload_n 0, 1) := by decide +kernel
theorem dX8_lure_1 : decode cX8_lure 1 = .ok (.iload_n 1, 1) := by decide +kernel
theorem dX8_lure_2 : decode cX8_lure 2 = .ok (.invokevirtual 142, 3) := by decide +kernel
theorem dX8_lure_5 : decode cX8_lure 5 = .ok (.ifCond .ne 5, 3) := by decide +kernel
theorem dX8_lure_8 : decode cX8_lure 8 = .ok (.iconst (-1), 1) := by decide +kernel
theorem dX8_lure_9 : decode cX8_lure 9 = .ok (.ireturn, 1) := by decide +kernel
theorem dX8_lure_10 : decode cX8_lure 10 = .ok (.aload_n 0, 1) := by decide +kernel
theorem dX8_lure_11 : decode cX8_lure 11 = .ok (.getfield 116, 3) := by decide +kernel
theorem dX8_lure_14 : decode cX8_lure 14 = .ok (.iload_n 1, 1) := by decide +kernel
theorem dX8_lure_15 : decode cX8_lure 15 = .ok (.invokestatic 136, 3) := by decide +kernel
theorem dX8_lure_18 : decode cX8_lure 18 = .ok (.ifCond .eq 16, 3) := by decide +kernel
theorem dX8_lure_21 : decode cX8_lure 21 = .ok (.aload_n 0, 1) := by decide +kernel
theorem dX8_lure_22 : decode cX8_lure 22 = .ok (.iconst 1, 1) := by decide +kernel
theorem dX8_lure_23 : decode cX8_lure 23 = .ok (.iload_n 1, 1) := by decide +kernel
theorem dX8_lure_24 : decode cX8_lure 24 = .ok (.ishl, 1) := by decide +kernel
theorem dX8_lure_25 : decode cX8_lure 25 = .ok (.iconst 1, 1) := by decide +kernel
theorem dX8_lure_26 : decode cX8_lure 26 = .ok (.iload_n 1, 1) := by decide +kernel
theorem dX8_lure_27 : decode cX8_lure 27 = .ok (.ishl, 1) := by decide +kernel
theorem dX8_lure_28 : decode cX8_lure 28 = .ok (.invokevirtual 195, 3) := by decide +kernel
theorem dX8_lure_31 : decode cX8_lure 31 = .ok (.goto 5, 3) := by decide +kernel
theorem dX8_lure_34 : decode cX8_lure 34 = .ok (.bipush (-3), 2) := by decide +kernel
theorem dX8_lure_36 : decode cX8_lure 36 = .ok (.ireturn, 1) := by decide +kernel
set_option maxRecDepth 20000 in
theorem ggX8_reading_X8_isCorner : GoodIn wsX8_reading wsX8_isCorner := goodIn_r _ [8, 9, 10, 7, 11] (by decide +kernel) (by decide +kernel)
set_option maxRecDepth 20000 in
theorem gX8_reading_X8_isCorner : GoodIn wsX8_reading (va_wsS RX8 148 yX8_isCorner wsX8_isCorner) := goodIn_app (goodIn_of _ (by decide +kernel)) ggX8_reading_X8_isCorner
set_option maxRecDepth 20000 in
theorem ggX8_reading_X8_within : GoodIn wsX8_reading wsX8_within := goodIn_r _ [11] (by decide +kernel) (by decide +kernel)
set_option maxRecDepth 20000 in
theorem gX8_reading_X8_within : GoodIn wsX8_reading (va_wsS RX8 70 yX8_within wsX8_within) := goodIn_app (goodIn_of _ (by decide +kernel)) ggX8_reading_X8_within
theorem dX8_reading_0 : decode cX8_reading 0 = .ok (.iload_n 1, 1) := by decide +kernel
theorem dX8_reading_1 : decode cX8_reading 1 = .ok (.invokestatic 148, 3) := by decide +kernel
theorem dX8_reading_4 : decode cX8_reading 4 = .ok (.ifCond .eq 13, 3) := by decide +kernel
theorem dX8_reading_7 : decode cX8_reading 7 = .ok (.iload_n 2, 1) := by decide +kernel
theorem dX8_reading_8 : decode cX8_reading 8 = .ok (.iconst 0, 1) := by decide +kernel
theorem dX8_reading_9 : decode cX8_reading 9 = .ok (.bipush 99, 2) := by decide +kernel
theorem dX8_reading_11 : decode cX8_reading 11 = .ok (.invokestatic 70, 3) := by decide +kernel
theorem dX8_reading_14 : decode cX8_reading 14 = .ok (.ifCond .ne 6, 3) := by decide +kernel
theorem dX8_reading_17 : decode cX8_reading 17 = .ok (.bipush (-2), 2) := by decide +kernel
theorem dX8_reading_19 : decode cX8_reading 19 = .ok (.ireturn, 1) := by decide +kernel
theorem dX8_reading_20 : decode cX8_reading 20 = .ok (.aload_n 0, 1) := by decide +kernel
theorem dX8_reading_21 : decode cX8_reading 21 = .ok (.getfield 74, 3) := by decide +kernel
theorem dX8_reading_24 : decode cX8_reading 24 = .ok (.ifCond .ne 6, 3) := by decide +kernel
theorem dX8_reading_27 : decode cX8_reading 27 = .ok (.bipush (-3), 2) := by decide +kernel
theorem dX8_reading_29 : decode cX8_reading 29 = .ok (.ireturn, 1) := by decide +kernel
theorem dX8_reading_30 : decode cX8_reading 30 = .ok (.aload_n 0, 1) := by decide +kernel
theorem dX8_reading_31 : decode cX8_reading 31 = .ok (.getfield 119, 3) := by decide +kernel
theorem dX8_reading_34 : decode cX8_reading 34 = .ok (.bipush 8, 2) := by decide +kernel
theorem dX8_reading_36 : decode cX8_reading 36 = .ok (.if_icmp .ne 6, 3) := by decide +kernel
theorem dX8_reading_39 : decode cX8_reading 39 = .ok (.bipush (-4), 2) := by decide +kernel
theorem dX8_reading_41 : decode cX8_reading 41 = .ok (.ireturn, 1) := by decide +kernel
theorem dX8_reading_42 : decode cX8_reading 42 = .ok (.aload_n 0, 1) := by decide +kernel
theorem dX8_reading_43 : decode cX8_reading 43 = .ok (.getfield 58, 3) := by decide +kernel
theorem dX8_reading_46 : decode cX8_reading 46 = .ok (.aload_n 0, 1) := by decide +kernel
theorem dX8_reading_47 : decode cX8_reading 47 = .ok (.getfield 119, 3) := by decide +kernel
theorem dX8_reading_50 : decode cX8_reading 50 = .ok (.iload_n 1, 1) := by decide +kernel
theorem dX8_reading_51 : decode cX8_reading 51 = .ok (.iastore, 1) := by decide +kernel
theorem dX8_reading_52 : decode cX8_reading 52 = .ok (.aload_n 0, 1) := by decide +kernel
theorem dX8_reading_53 : decode cX8_reading 53 = .ok (.getfield 61, 3) := by decide +kernel
theorem dX8_reading_56 : decode cX8_reading 56 = .ok (.aload_n 0, 1) := by decide +kernel
theorem dX8_reading_57 : decode cX8_reading 57 = .ok (.getfield 119, 3) := by decide +kernel
theorem dX8_reading_60 : decode cX8_reading 60 = .ok (.iload_n 2, 1) := by decide +kernel
theorem dX8_reading_61 : decode cX8_reading 61 = .ok (.iastore, 1) := by decide +kernel
theorem dX8_reading_62 : decode cX8_reading 62 = .ok (.aload_n 0, 1) := by decide +kernel
theorem dX8_reading_63 : decode cX8_reading 63 = .ok (.dup, 1) := by decide +kernel
theorem dX8_reading_64 : decode cX8_reading 64 = .ok (.getfield 119, 3) := by decide +kernel
theorem dX8_reading_67 : decode cX8_reading 67 = .ok (.iconst 1, 1) := by decide +kernel
theorem dX8_reading_68 : decode cX8_reading 68 = .ok (.iadd, 1) := by decide +kernel
theorem dX8_reading_69 : decode cX8_reading 69 = .ok (.putfield 119, 3) := by decide +kernel
theorem dX8_reading_72 : decode cX8_reading 72 = .ok (.aload_n 0, 1) := by decide +kernel
theorem dX8_reading_73 : decode cX8_reading 73 = .ok (.getfield 119, 3) := by decide +kernel
theorem dX8_reading_76 : decode cX8_reading 76 = .ok (.iconst 1, 1) := by decide +kernel
theorem dX8_reading_77 : decode cX8_reading 77 = .ok (.isub, 1) := by decide +kernel
theorem dX8_reading_78 : decode cX8_reading 78 = .ok (.ireturn, 1) := by decide +kernel
set_option maxRecDepth 20000 in
theorem ggX8_back_X8_within : GoodIn wsX8_back wsX8_within := goodIn_r _ [5] (by decide +kernel) (by decide +kernel)
set_option maxRecDepth 20000 in
theorem gX8_back_X8_within : GoodIn wsX8_back (va_wsS RX8 70 yX8_within wsX8_within) := goodIn_app (goodIn_of _ (by decide +kernel)) ggX8_back_X8_within
theorem dX8_back_0 : decode cX8_back 0 = .ok (.iload_n 1, 1) := by decide +kernel
theorem dX8_back_1 : decode cX8_back 1 = .ok (.iconst 0, 1) := by decide +kernel
theorem dX8_back_2 : decode cX8_back 2 = .ok (.aload_n 0, 1) := by decide +kernel
theorem dX8_back_3 : decode cX8_back 3 = .ok (.getfield 119, 3) := by decide +kernel
theorem dX8_back_6 : decode cX8_back 6 = .ok (.invokestatic 70, 3) := by decide +kernel
theorem dX8_back_9 : decode cX8_back 9 = .ok (.ifCond .ne 6, 3) := by decide +kernel
theorem dX8_back_12 : decode cX8_back 12 = .ok (.bipush (-2), 2) := by decide +kernel
theorem dX8_back_14 : decode cX8_back 14 = .ok (.ireturn, 1) := by decide +kernel
theorem dX8_back_15 : decode cX8_back 15 = .ok (.aload_n 0, 1) := by decide +kernel
theorem dX8_back_16 : decode cX8_back 16 = .ok (.dup, 1) := by decide +kernel
theorem dX8_back_17 : decode cX8_back 17 = .ok (.getfield 119, 3) := by decide +kernel
theorem dX8_back_20 : decode cX8_back 20 = .ok (.iload_n 1, 1) := by decide +kernel
theorem dX8_back_21 : decode cX8_back 21 = .ok (.isub, 1) := by decide +kernel
theorem dX8_back_22 : decode cX8_back 22 = .ok (.putfield 119, 3) := by decide +kernel
theorem dX8_back_25 : decode cX8_back 25 = .ok (.aload_n 0, 1) := by decide +kernel
theorem dX8_back_26 : decode cX8_back 26 = .ok (.getfield 119, 3) := by decide +kernel
theorem dX8_back_29 : decode cX8_back 29 = .ok (.ireturn, 1) := by decide +kernel
set_option maxRecDepth 20000 in
theorem ggX8_areSo_X8_heardAt : GoodIn wsX8_areSo wsX8_heardAt := goodIn_r _ [8, 9, 10, 11, 12, 7, 13, 14, 15, 16, 17, 18, 19, 20, 21, 22, 23, 24, 25, 26, 27, 28, 29, 30, 31, 32, 33, 34, 35, 36, 37, 38, 39, 40, 41, 42, 43, 44, 45, 46, 47, 48, 49, 50, 51, 52, 53, 54, 55, 56, 57, 58, 59] (by decide +kernel) (by decide +kernel)
set_option maxRecDepth 20000 in
theorem gX8_areSo_X8_heardAt : GoodIn wsX8_areSo (wsV RX8 167 RX8 yX8_heardAt wsX8_heardAt) := goodIn_app (goodIn_of _ (by decide +kernel)) ggX8_areSo_X8_heardAt
theorem dX8_areSo_0 : decode cX8_areSo 0 = .ok (.iconst 0, 1) := by decide +kernel
theorem dX8_areSo_1 : decode cX8_areSo 1 = .ok (.istore_n 1, 1) := by decide +kernel
theorem dX8_areSo_2 : decode cX8_areSo 2 = .ok (.iload_n 1, 1) := by decide +kernel
theorem dX8_areSo_3 : decode cX8_areSo 3 = .ok (.aload_n 0, 1) := by decide +kernel
theorem dX8_areSo_4 : decode cX8_areSo 4 = .ok (.getfield 119, 3) := by decide +kernel
theorem dX8_areSo_7 : decode cX8_areSo 7 = .ok (.if_icmp .ge 30, 3) := by decide +kernel
theorem dX8_areSo_10 : decode cX8_areSo 10 = .ok (.aload_n 0, 1) := by decide +kernel
theorem dX8_areSo_11 : decode cX8_areSo 11 = .ok (.aload_n 0, 1) := by decide +kernel
theorem dX8_areSo_12 : decode cX8_areSo 12 = .ok (.getfield 58, 3) := by decide +kernel
theorem dX8_areSo_15 : decode cX8_areSo 15 = .ok (.iload_n 1, 1) := by decide +kernel
theorem dX8_areSo_16 : decode cX8_areSo 16 = .ok (.iaload, 1) := by decide +kernel
theorem dX8_areSo_17 : decode cX8_areSo 17 = .ok (.invokevirtual 167, 3) := by decide +kernel
theorem dX8_areSo_20 : decode cX8_areSo 20 = .ok (.aload_n 0, 1) := by decide +kernel
theorem dX8_areSo_21 : decode cX8_areSo 21 = .ok (.getfield 61, 3) := by decide +kernel
theorem dX8_areSo_24 : decode cX8_areSo 24 = .ok (.iload_n 1, 1) := by decide +kernel
theorem dX8_areSo_25 : decode cX8_areSo 25 = .ok (.iaload, 1) := by decide +kernel
theorem dX8_areSo_26 : decode cX8_areSo 26 = .ok (.if_icmp .eq 5, 3) := by decide +kernel
theorem dX8_areSo_29 : decode cX8_areSo 29 = .ok (.iconst 0, 1) := by decide +kernel
theorem dX8_areSo_30 : decode cX8_areSo 30 = .ok (.ireturn, 1) := by decide +kernel
theorem dX8_areSo_31 : decode cX8_areSo 31 = .ok (.iinc 1 1, 3) := by decide +kernel
theorem dX8_areSo_34 : decode cX8_areSo 34 = .ok (.goto (-32), 3) := by decide +kernel
theorem dX8_areSo_37 : decode cX8_areSo 37 = .ok (.iconst 1, 1) := by decide +kernel
theorem dX8_areSo_38 : decode cX8_areSo 38 = .ok (.ireturn, 1) := by decide +kernel
set_option maxRecDepth 20000 in
theorem ggX8_gaieties_X8_isArticle : GoodIn wsX8_gaieties wsX8_isArticle := goodIn_r _ [6, 7, 36, 37, 38, 39, 40, 41, 42, 43, 44, 45, 46, 47, 48, 49, 50, 51, 52, 53, 54, 55, 56, 57, 58, 59, 60, 61, 62, 63, 64, 65, 66, 67] (by decide +kernel) (by decide +kernel)
set_option maxRecDepth 20000 in
theorem gX8_gaieties_X8_isArticle : GoodIn wsX8_gaieties (wsV RX8 142 RX8 yX8_isArticle wsX8_isArticle) := goodIn_app (goodIn_of _ (by decide +kernel)) ggX8_gaieties_X8_isArticle
set_option maxRecDepth 20000 in
theorem ggX8_gaieties_X8_areSo : GoodIn wsX8_gaieties wsX8_areSo := goodIn_r _ [11, 12, 13, 14, 15, 16, 17, 5, 18, 19, 20, 21, 22, 23, 24, 25, 26, 27, 7, 28, 29, 30, 31, 32, 33, 34, 35, 1, 36, 37, 38, 39, 40, 41, 42, 43, 44, 45, 46, 47, 48, 49, 50, 51, 52, 53, 54, 55, 56, 57, 58, 59, 60, 61, 62, 63, 64, 65, 66, 67] (by decide +kernel) (by decide +kernel)
set_option maxRecDepth 20000 in
theorem gX8_gaieties_X8_areSo : GoodIn wsX8_gaieties (wsV RX8 198 RX8 yX8_areSo wsX8_areSo) := goodIn_app (goodIn_of _ (by decide +kernel)) ggX8_gaieties_X8_areSo
theorem dX8_gaieties_0 : decode cX8_gaieties 0 = .ok (.aload_n 0, 1) := by decide +kernel
theorem dX8_gaieties_1 : decode cX8_gaieties 1 = .ok (.iload_n 1, 1) := by decide +kernel
theorem dX8_gaieties_2 : decode cX8_gaieties 2 = .ok (.invokevirtual 142, 3) := by decide +kernel
theorem dX8_gaieties_5 : decode cX8_gaieties 5 = .ok (.ifCond .ne 5, 3) := by decide +kernel
theorem dX8_gaieties_8 : decode cX8_gaieties 8 = .ok (.iconst (-1), 1) := by decide +kernel
theorem dX8_gaieties_9 : decode cX8_gaieties 9 = .ok (.ireturn, 1) := by decide +kernel
theorem dX8_gaieties_10 : decode cX8_gaieties 10 = .ok (.aload_n 0, 1) := by decide +kernel
theorem dX8_gaieties_11 : decode cX8_gaieties 11 = .ok (.getfield 28, 3) := by decide +kernel
theorem dX8_gaieties_14 : decode cX8_gaieties 14 = .ok (.iload_n 1, 1) := by decide +kernel
theorem dX8_gaieties_15 : decode cX8_gaieties 15 = .ok (.iaload, 1) := by decide +kernel
theorem dX8_gaieties_16 : decode cX8_gaieties 16 = .ok (.istore_n 2, 1) := by decide +kernel
theorem dX8_gaieties_17 : decode cX8_gaieties 17 = .ok (.iconst 0, 1) := by decide +kernel
theorem dX8_gaieties_18 : decode cX8_gaieties 18 = .ok (.istore_n 3, 1) := by decide +kernel
theorem dX8_gaieties_19 : decode cX8_gaieties 19 = .ok (.iconst 0, 1) := by decide +kernel
theorem dX8_gaieties_20 : decode cX8_gaieties 20 = .ok (.istore 4, 2) := by decide +kernel
theorem dX8_gaieties_22 : decode cX8_gaieties 22 = .ok (.iload 4, 2) := by decide +kernel
theorem dX8_gaieties_24 : decode cX8_gaieties 24 = .ok (.bipush 9, 2) := by decide +kernel
theorem dX8_gaieties_26 : decode cX8_gaieties 26 = .ok (.if_icmp .gt 35, 3) := by decide +kernel
theorem dX8_gaieties_29 : decode cX8_gaieties 29 = .ok (.aload_n 0, 1) := by decide +kernel
theorem dX8_gaieties_30 : decode cX8_gaieties 30 = .ok (.getfield 28, 3) := by decide +kernel
theorem dX8_gaieties_33 : decode cX8_gaieties 33 = .ok (.iload_n 1, 1) := by decide +kernel
theorem dX8_gaieties_34 : decode cX8_gaieties 34 = .ok (.iload 4, 2) := by decide +kernel
theorem dX8_gaieties_36 : decode cX8_gaieties 36 = .ok (.iastore, 1) := by decide +kernel
theorem dX8_gaieties_37 : decode cX8_gaieties 37 = .ok (.iload_n 3, 1) := by decide +kernel
theorem dX8_gaieties_38 : decode cX8_gaieties 38 = .ok (.aload_n 0, 1) := by decide +kernel
theorem dX8_gaieties_39 : decode cX8_gaieties 39 = .ok (.invokevirtual 198, 3) := by decide +kernel
theorem dX8_gaieties_42 : decode cX8_gaieties 42 = .ok (.ifCond .eq 10, 3) := by decide +kernel
theorem dX8_gaieties_45 : decode cX8_gaieties 45 = .ok (.iconst 1, 1) := by decide +kernel
theorem dX8_gaieties_46 : decode cX8_gaieties 46 = .ok (.iload 4, 2) := by decide +kernel
theorem dX8_gaieties_48 : decode cX8_gaieties 48 = .ok (.ishl, 1) := by decide +kernel
theorem dX8_gaieties_49 : decode cX8_gaieties 49 = .ok (.goto 4, 3) := by decide +kernel
theorem dX8_gaieties_52 : decode cX8_gaieties 52 = .ok (.iconst 0, 1) := by decide +kernel
theorem dX8_gaieties_53 : decode cX8_gaieties 53 = .ok (.ior, 1) := by decide +kernel
theorem dX8_gaieties_54 : decode cX8_gaieties 54 = .ok (.istore_n 3, 1) := by decide +kernel
theorem dX8_gaieties_55 : decode cX8_gaieties 55 = .ok (.iinc 4 1, 3) := by decide +kernel
theorem dX8_gaieties_58 : decode cX8_gaieties 58 = .ok (.goto (-36), 3) := by decide +kernel
theorem dX8_gaieties_61 : decode cX8_gaieties 61 = .ok (.aload_n 0, 1) := by decide +kernel
theorem dX8_gaieties_62 : decode cX8_gaieties 62 = .ok (.getfield 28, 3) := by decide +kernel
theorem dX8_gaieties_65 : decode cX8_gaieties 65 = .ok (.iload_n 1, 1) := by decide +kernel
theorem dX8_gaieties_66 : decode cX8_gaieties 66 = .ok (.iload_n 2, 1) := by decide +kernel
theorem dX8_gaieties_67 : decode cX8_gaieties 67 = .ok (.iastore, 1) := by decide +kernel
theorem dX8_gaieties_68 : decode cX8_gaieties 68 = .ok (.iload_n 3, 1) := by decide +kernel
theorem dX8_gaieties_69 : decode cX8_gaieties 69 = .ok (.ireturn, 1) := by decide +kernel
set_option maxRecDepth 20000 in
theorem ggX8_kinds_X8_isArticle : GoodIn wsX8_kinds wsX8_isArticle := goodIn_r _ [6, 7, 36, 37, 38, 39, 40, 41, 42, 43, 44, 45, 46, 47, 48, 49, 50, 51, 52, 53, 54, 55, 56, 57, 58, 59, 60, 61, 62, 63, 64, 65, 66, 67] (by decide +kernel) (by decide +kernel)
set_option maxRecDepth 20000 in
theorem gX8_kinds_X8_isArticle : GoodIn wsX8_kinds (wsV RX8 142 RX8 yX8_isArticle wsX8_isArticle) := goodIn_app (goodIn_of _ (by decide +kernel)) ggX8_kinds_X8_isArticle
set_option maxRecDepth 20000 in
theorem ggX8_kinds_X8_areSo : GoodIn wsX8_kinds wsX8_areSo := goodIn_r _ [11, 12, 13, 14, 15, 16, 17, 5, 18, 19, 20, 21, 22, 23, 24, 25, 26, 27, 7, 28, 29, 30, 31, 32, 33, 34, 1, 35, 36, 37, 38, 39, 40, 41, 42, 43, 44, 45, 46, 47, 48, 49, 50, 51, 52, 53, 54, 55, 56, 57, 58, 59, 60, 61, 62, 63, 64, 65, 66, 67] (by decide +kernel) (by decide +kernel)
set_option maxRecDepth 20000 in
theorem gX8_kinds_X8_areSo : GoodIn wsX8_kinds (wsV RX8 198 RX8 yX8_areSo wsX8_areSo) := goodIn_app (goodIn_of _ (by decide +kernel)) ggX8_kinds_X8_areSo
theorem dX8_kinds_0 : decode cX8_kinds 0 = .ok (.aload_n 0, 1) := by decide +kernel
theorem dX8_kinds_1 : decode cX8_kinds 1 = .ok (.iload_n 1, 1) := by decide +kernel
theorem dX8_kinds_2 : decode cX8_kinds 2 = .ok (.invokevirtual 142, 3) := by decide +kernel
theorem dX8_kinds_5 : decode cX8_kinds 5 = .ok (.ifCond .ne 5, 3) := by decide +kernel
theorem dX8_kinds_8 : decode cX8_kinds 8 = .ok (.iconst (-1), 1) := by decide +kernel
theorem dX8_kinds_9 : decode cX8_kinds 9 = .ok (.ireturn, 1) := by decide +kernel
theorem dX8_kinds_10 : decode cX8_kinds 10 = .ok (.aload_n 0, 1) := by decide +kernel
theorem dX8_kinds_11 : decode cX8_kinds 11 = .ok (.getfield 22, 3) := by decide +kernel
theorem dX8_kinds_14 : decode cX8_kinds 14 = .ok (.iload_n 1, 1) := by decide +kernel
theorem dX8_kinds_15 : decode cX8_kinds 15 = .ok (.iaload, 1) := by decide +kernel
theorem dX8_kinds_16 : decode cX8_kinds 16 = .ok (.istore_n 2, 1) := by decide +kernel
theorem dX8_kinds_17 : decode cX8_kinds 17 = .ok (.iconst 0, 1) := by decide +kernel
theorem dX8_kinds_18 : decode cX8_kinds 18 = .ok (.istore_n 3, 1) := by decide +kernel
theorem dX8_kinds_19 : decode cX8_kinds 19 = .ok (.iconst 0, 1) := by decide +kernel
theorem dX8_kinds_20 : decode cX8_kinds 20 = .ok (.istore 4, 2) := by decide +kernel
theorem dX8_kinds_22 : decode cX8_kinds 22 = .ok (.iload 4, 2) := by decide +kernel
theorem dX8_kinds_24 : decode cX8_kinds 24 = .ok (.iconst 3, 1) := by decide +kernel
theorem dX8_kinds_25 : decode cX8_kinds 25 = .ok (.if_icmp .ge 35, 3) := by decide +kernel
theorem dX8_kinds_28 : decode cX8_kinds 28 = .ok (.aload_n 0, 1) := by decide +kernel
theorem dX8_kinds_29 : decode cX8_kinds 29 = .ok (.getfield 22, 3) := by decide +kernel
theorem dX8_kinds_32 : decode cX8_kinds 32 = .ok (.iload_n 1, 1) := by decide +kernel
theorem dX8_kinds_33 : decode cX8_kinds 33 = .ok (.iload 4, 2) := by decide +kernel
theorem dX8_kinds_35 : decode cX8_kinds 35 = .ok (.iastore, 1) := by decide +kernel
theorem dX8_kinds_36 : decode cX8_kinds 36 = .ok (.iload_n 3, 1) := by decide +kernel
theorem dX8_kinds_37 : decode cX8_kinds 37 = .ok (.aload_n 0, 1) := by decide +kernel
theorem dX8_kinds_38 : decode cX8_kinds 38 = .ok (.invokevirtual 198, 3) := by decide +kernel
theorem dX8_kinds_41 : decode cX8_kinds 41 = .ok (.ifCond .eq 10, 3) := by decide +kernel
theorem dX8_kinds_44 : decode cX8_kinds 44 = .ok (.iconst 1, 1) := by decide +kernel
theorem dX8_kinds_45 : decode cX8_kinds 45 = .ok (.iload 4, 2) := by decide +kernel
theorem dX8_kinds_47 : decode cX8_kinds 47 = .ok (.ishl, 1) := by decide +kernel
theorem dX8_kinds_48 : decode cX8_kinds 48 = .ok (.goto 4, 3) := by decide +kernel
theorem dX8_kinds_51 : decode cX8_kinds 51 = .ok (.iconst 0, 1) := by decide +kernel
theorem dX8_kinds_52 : decode cX8_kinds 52 = .ok (.ior, 1) := by decide +kernel
theorem dX8_kinds_53 : decode cX8_kinds 53 = .ok (.istore_n 3, 1) := by decide +kernel
theorem dX8_kinds_54 : decode cX8_kinds 54 = .ok (.iinc 4 1, 3) := by decide +kernel
theorem dX8_kinds_57 : decode cX8_kinds 57 = .ok (.goto (-35), 3) := by decide +kernel
theorem dX8_kinds_60 : decode cX8_kinds 60 = .ok (.aload_n 0, 1) := by decide +kernel
theorem dX8_kinds_61 : decode cX8_kinds 61 = .ok (.getfield 22, 3) := by decide +kernel
theorem dX8_kinds_64 : decode cX8_kinds 64 = .ok (.iload_n 1, 1) := by decide +kernel
theorem dX8_kinds_65 : decode cX8_kinds 65 = .ok (.iload_n 2, 1) := by decide +kernel
theorem dX8_kinds_66 : decode cX8_kinds 66 = .ok (.iastore, 1) := by decide +kernel
theorem dX8_kinds_67 : decode cX8_kinds 67 = .ok (.iload_n 3, 1) := by decide +kernel
theorem dX8_kinds_68 : decode cX8_kinds 68 = .ok (.ireturn, 1) := by decide +kernel
set_option maxRecDepth 20000 in
theorem ggX8_wheres_X8_within : GoodIn wsX8_wheres wsX8_within := goodIn_r _ [7] (by decide +kernel) (by decide +kernel)
set_option maxRecDepth 20000 in
theorem gX8_wheres_X8_within : GoodIn wsX8_wheres (va_wsS RX8 70 yX8_within wsX8_within) := goodIn_app (goodIn_of _ (by decide +kernel)) ggX8_wheres_X8_within
set_option maxRecDepth 20000 in
theorem ggX8_wheres_X8_areSo : GoodIn wsX8_wheres wsX8_areSo := goodIn_r _ [11, 12, 13, 14, 15, 16, 17, 6, 18, 3, 19, 20, 21, 22, 23, 24, 25, 26, 1, 27, 28, 29, 30, 31, 32, 33, 34, 35, 36, 37, 38, 39, 40, 41, 42, 43, 44, 45, 46, 47, 48, 49, 50, 51, 52, 53, 54, 55, 56, 57, 58, 59, 60, 61, 62, 63, 64, 65, 66, 67] (by decide +kernel) (by decide +kernel)
set_option maxRecDepth 20000 in
theorem gX8_wheres_X8_areSo : GoodIn wsX8_wheres (wsV RX8 198 RX8 yX8_areSo wsX8_areSo) := goodIn_app (goodIn_of _ (by decide +kernel)) ggX8_wheres_X8_areSo
theorem dX8_wheres_0 : decode cX8_wheres 0 = .ok (.iload_n 1, 1) := by decide +kernel
theorem dX8_wheres_1 : decode cX8_wheres 1 = .ok (.iconst 0, 1) := by decide +kernel
theorem dX8_wheres_2 : decode cX8_wheres 2 = .ok (.iconst 1, 1) := by decide +kernel
theorem dX8_wheres_3 : decode cX8_wheres 3 = .ok (.invokestatic 70, 3) := by decide +kernel
theorem dX8_wheres_6 : decode cX8_wheres 6 = .ok (.ifCond .eq 10, 3) := by decide +kernel
theorem dX8_wheres_9 : decode cX8_wheres 9 = .ok (.aload_n 0, 1) := by decide +kernel
theorem dX8_wheres_10 : decode cX8_wheres 10 = .ok (.getfield 74, 3) := by decide +kernel
theorem dX8_wheres_13 : decode cX8_wheres 13 = .ok (.ifCond .ne 7, 3) := by decide +kernel
theorem dX8_wheres_16 : decode cX8_wheres 16 = .ok (.ldc2_w 68, 3) := by decide +kernel
theorem dX8_wheres_19 : decode cX8_wheres 19 = .ok (.lreturn, 1) := by decide +kernel
theorem dX8_wheres_20 : decode cX8_wheres 20 = .ok (.aload_n 0, 1) := by decide +kernel
theorem dX8_wheres_21 : decode cX8_wheres 21 = .ok (.getfield 107, 3) := by decide +kernel
theorem dX8_wheres_24 : decode cX8_wheres 24 = .ok (.istore_n 2, 1) := by decide +kernel
theorem dX8_wheres_25 : decode cX8_wheres 25 = .ok (.lconst 0, 1) := by decide +kernel
theorem dX8_wheres_26 : decode cX8_wheres 26 = .ok (.lstore_n 3, 1) := by decide +kernel
theorem dX8_wheres_27 : decode cX8_wheres 27 = .ok (.iconst 0, 1) := by decide +kernel
theorem dX8_wheres_28 : decode cX8_wheres 28 = .ok (.istore 5, 2) := by decide +kernel
theorem dX8_wheres_30 : decode cX8_wheres 30 = .ok (.iload 5, 2) := by decide +kernel
theorem dX8_wheres_32 : decode cX8_wheres 32 = .ok (.bipush 32, 2) := by decide +kernel
theorem dX8_wheres_34 : decode cX8_wheres 34 = .ok (.if_icmp .ge 38, 3) := by decide +kernel
theorem dX8_wheres_37 : decode cX8_wheres 37 = .ok (.aload_n 0, 1) := by decide +kernel
theorem dX8_wheres_38 : decode cX8_wheres 38 = .ok (.bipush 32, 2) := by decide +kernel
theorem dX8_wheres_40 : decode cX8_wheres 40 = .ok (.iload_n 1, 1) := by decide +kernel
theorem dX8_wheres_41 : decode cX8_wheres 41 = .ok (.imul, 1) := by decide +kernel
theorem dX8_wheres_42 : decode cX8_wheres 42 = .ok (.iload 5, 2) := by decide +kernel
theorem dX8_wheres_44 : decode cX8_wheres 44 = .ok (.iadd, 1) := by decide +kernel
theorem dX8_wheres_45 : decode cX8_wheres 45 = .ok (.putfield 107, 3) := by decide +kernel
theorem dX8_wheres_48 : decode cX8_wheres 48 = .ok (.lload_n 3, 1) := by decide +kernel
theorem dX8_wheres_49 : decode cX8_wheres 49 = .ok (.aload_n 0, 1) := by decide +kernel
theorem dX8_wheres_50 : decode cX8_wheres 50 = .ok (.invokevirtual 198, 3) := by decide +kernel
theorem dX8_wheres_53 : decode cX8_wheres 53 = .ok (.ifCond .eq 10, 3) := by decide +kernel
theorem dX8_wheres_56 : decode cX8_wheres 56 = .ok (.lconst 1, 1) := by decide +kernel
theorem dX8_wheres_57 : decode cX8_wheres 57 = .ok (.iload 5, 2) := by decide +kernel
theorem dX8_wheres_59 : decode cX8_wheres 59 = .ok (.lshl, 1) := by decide +kernel
theorem dX8_wheres_60 : decode cX8_wheres 60 = .ok (.goto 4, 3) := by decide +kernel
theorem dX8_wheres_63 : decode cX8_wheres 63 = .ok (.lconst 0, 1) := by decide +kernel
theorem dX8_wheres_64 : decode cX8_wheres 64 = .ok (.lor, 1) := by decide +kernel
theorem dX8_wheres_65 : decode cX8_wheres 65 = .ok (.lstore_n 3, 1) := by decide +kernel
theorem dX8_wheres_66 : decode cX8_wheres 66 = .ok (.iinc 5 1, 3) := by decide +kernel
theorem dX8_wheres_69 : decode cX8_wheres 69 = .ok (.goto (-39), 3) := by decide +kernel
theorem dX8_wheres_72 : decode cX8_wheres 72 = .ok (.aload_n 0, 1) := by decide +kernel
theorem dX8_wheres_73 : decode cX8_wheres 73 = .ok (.iload_n 2, 1) := by decide +kernel
theorem dX8_wheres_74 : decode cX8_wheres 74 = .ok (.putfield 107, 3) := by decide +kernel
theorem dX8_wheres_77 : decode cX8_wheres 77 = .ok (.lload_n 3, 1) := by decide +kernel
theorem dX8_wheres_78 : decode cX8_wheres 78 = .ok (.lreturn, 1) := by decide +kernel
theorem dX8_inLeastTerms_0 : decode cX8_inLeastTerms 0 = .ok (.lload_n 0, 1) := by decide +kernel
theorem dX8_inLeastTerms_1 : decode cX8_inLeastTerms 1 = .ok (.lstore 5, 2) := by decide +kernel
theorem dX8_inLeastTerms_3 : decode cX8_inLeastTerms 3 = .ok (.lload_n 2, 1) := by decide +kernel
theorem dX8_inLeastTerms_4 : decode cX8_inLeastTerms 4 = .ok (.lstore 7, 2) := by decide +kernel
theorem dX8_inLeastTerms_6 : decode cX8_inLeastTerms 6 = .ok (.lload 7, 2) := by decide +kernel
theorem dX8_inLeastTerms_8 : decode cX8_inLeastTerms 8 = .ok (.lconst 0, 1) := by decide +kernel
theorem dX8_inLeastTerms_9 : decode cX8_inLeastTerms 9 = .ok (.lcmp, 1) := by decide +kernel
theorem dX8_inLeastTerms_10 : decode cX8_inLeastTerms 10 = .ok (.ifCond .eq 21, 3) := by decide +kernel
theorem dX8_inLeastTerms_13 : decode cX8_inLeastTerms 13 = .ok (.lload 5, 2) := by decide +kernel
theorem dX8_inLeastTerms_15 : decode cX8_inLeastTerms 15 = .ok (.lload 7, 2) := by decide +kernel
theorem dX8_inLeastTerms_17 : decode cX8_inLeastTerms 17 = .ok (.lrem, 1) := by decide +kernel
theorem dX8_inLeastTerms_18 : decode cX8_inLeastTerms 18 = .ok (.lstore 9, 2) := by decide +kernel
theorem dX8_inLeastTerms_20 : decode cX8_inLeastTerms 20 = .ok (.lload 7, 2) := by decide +kernel
theorem dX8_inLeastTerms_22 : decode cX8_inLeastTerms 22 = .ok (.lstore 5, 2) := by decide +kernel
theorem dX8_inLeastTerms_24 : decode cX8_inLeastTerms 24 = .ok (.lload 9, 2) := by decide +kernel
theorem dX8_inLeastTerms_26 : decode cX8_inLeastTerms 26 = .ok (.lstore 7, 2) := by decide +kernel
theorem dX8_inLeastTerms_28 : decode cX8_inLeastTerms 28 = .ok (.goto (-22), 3) := by decide +kernel
theorem dX8_inLeastTerms_31 : decode cX8_inLeastTerms 31 = .ok (.iload 4, 2) := by decide +kernel
theorem dX8_inLeastTerms_33 : decode cX8_inLeastTerms 33 = .ok (.ifCond .ne 10, 3) := by decide +kernel
theorem dX8_inLeastTerms_36 : decode cX8_inLeastTerms 36 = .ok (.lload_n 0, 1) := by decide +kernel
theorem dX8_inLeastTerms_37 : decode cX8_inLeastTerms 37 = .ok (.lload 5, 2) := by decide +kernel
theorem dX8_inLeastTerms_39 : decode cX8_inLeastTerms 39 = .ok (.ldiv, 1) := by decide +kernel
theorem dX8_inLeastTerms_40 : decode cX8_inLeastTerms 40 = .ok (.goto 7, 3) := by decide +kernel
theorem dX8_inLeastTerms_43 : decode cX8_inLeastTerms 43 = .ok (.lload_n 2, 1) := by decide +kernel
theorem dX8_inLeastTerms_44 : decode cX8_inLeastTerms 44 = .ok (.lload 5, 2) := by decide +kernel
theorem dX8_inLeastTerms_46 : decode cX8_inLeastTerms 46 = .ok (.ldiv, 1) := by decide +kernel
theorem dX8_inLeastTerms_47 : decode cX8_inLeastTerms 47 = .ok (.lreturn, 1) := by decide +kernel
set_option maxRecDepth 20000 in
theorem ggX8_odds_X8_isArticle : GoodIn wsX8_odds wsX8_isArticle := goodIn_r _ [8, 3, 33, 34, 35, 36, 37, 38, 39, 40, 41, 42, 43, 44, 45, 46, 47, 48, 49, 50, 51, 52, 53, 54, 55, 56, 57, 58, 59, 60, 61, 62, 63, 64] (by decide +kernel) (by decide +kernel)
set_option maxRecDepth 20000 in
theorem gX8_odds_X8_isArticle : GoodIn wsX8_odds (wsV RX8 142 RX8 yX8_isArticle wsX8_isArticle) := goodIn_app (goodIn_of _ (by decide +kernel)) ggX8_odds_X8_isArticle
set_option maxRecDepth 20000 in
theorem ggX8_odds_X8_within : GoodIn wsX8_odds wsX8_within := goodIn_r _ [11] (by decide +kernel) (by decide +kernel)
set_option maxRecDepth 20000 in
theorem gX8_odds_X8_within : GoodIn wsX8_odds (va_wsS RX8 70 yX8_within wsX8_within) := goodIn_app (goodIn_of _ (by decide +kernel)) ggX8_odds_X8_within
set_option maxRecDepth 20000 in
theorem ggX8_odds_X8_isOf : GoodIn wsX8_odds wsX8_isOf := goodIn_r _ [14] (by decide +kernel) (by decide +kernel)
set_option maxRecDepth 20000 in
theorem gX8_odds_X8_isOf : GoodIn wsX8_odds (va_wsS RX8 136 yX8_isOf wsX8_isOf) := goodIn_app (goodIn_of _ (by decide +kernel)) ggX8_odds_X8_isOf
set_option maxRecDepth 20000 in
theorem ggX8_odds_X8_companyOf : GoodIn wsX8_odds wsX8_companyOf := goodIn_r _ [18, 3, 19, 20, 21, 22, 7, 23, 12, 13, 14, 24, 25, 26, 27, 28, 29, 33, 34, 35, 36, 37, 38, 39, 40, 41, 42, 43, 44, 45, 46, 47, 48, 49, 50, 51, 52, 53, 54, 55, 56, 57, 58, 59, 60, 61, 62, 63, 64] (by decide +kernel) (by decide +kernel)
set_option maxRecDepth 20000 in
theorem gX8_odds_X8_companyOf : GoodIn wsX8_odds (wsV RX8 157 RX8 yX8_companyOf wsX8_companyOf) := goodIn_app (goodIn_of _ (by decide +kernel)) ggX8_odds_X8_companyOf
set_option maxRecDepth 20000 in
theorem ggX8_odds_X8_inLeastTerms : GoodIn wsX8_odds wsX8_inLeastTerms := goodIn_r _ [32] (by decide +kernel) (by decide +kernel)
set_option maxRecDepth 20000 in
theorem gX8_odds_X8_inLeastTerms : GoodIn wsX8_odds (va_wsS RX8 202 yX8_inLeastTerms wsX8_inLeastTerms) := goodIn_app (goodIn_of _ (by decide +kernel)) ggX8_odds_X8_inLeastTerms
theorem dX8_odds_0 : decode cX8_odds 0 = .ok (.aload_n 0, 1) := by decide +kernel
theorem dX8_odds_1 : decode cX8_odds 1 = .ok (.iload_n 1, 1) := by decide +kernel
theorem dX8_odds_2 : decode cX8_odds 2 = .ok (.invokevirtual 142, 3) := by decide +kernel
theorem dX8_odds_5 : decode cX8_odds 5 = .ok (.ifCond .eq 23, 3) := by decide +kernel
theorem dX8_odds_8 : decode cX8_odds 8 = .ok (.iload_n 2, 1) := by decide +kernel
theorem dX8_odds_9 : decode cX8_odds 9 = .ok (.iconst 0, 1) := by decide +kernel
theorem dX8_odds_10 : decode cX8_odds 10 = .ok (.iconst 1, 1) := by decide +kernel
theorem dX8_odds_11 : decode cX8_odds 11 = .ok (.invokestatic 70, 3) := by decide +kernel
theorem dX8_odds_14 : decode cX8_odds 14 = .ok (.ifCond .eq 14, 3) := by decide +kernel
theorem dX8_odds_17 : decode cX8_odds 17 = .ok (.aload_n 0, 1) := by decide +kernel
theorem dX8_odds_18 : decode cX8_odds 18 = .ok (.getfield 116, 3) := by decide +kernel
theorem dX8_odds_21 : decode cX8_odds 21 = .ok (.iload_n 1, 1) := by decide +kernel
theorem dX8_odds_22 : decode cX8_odds 22 = .ok (.invokestatic 136, 3) := by decide +kernel
theorem dX8_odds_25 : decode cX8_odds 25 = .ok (.ifCond .ne 7, 3) := by decide +kernel
theorem dX8_odds_28 : decode cX8_odds 28 = .ok (.ldc2_w 68, 3) := by decide +kernel
theorem dX8_odds_31 : decode cX8_odds 31 = .ok (.lreturn, 1) := by decide +kernel
theorem dX8_odds_32 : decode cX8_odds 32 = .ok (.iconst 0, 1) := by decide +kernel
theorem dX8_odds_33 : decode cX8_odds 33 = .ok (.istore_n 3, 1) := by decide +kernel
theorem dX8_odds_34 : decode cX8_odds 34 = .ok (.iconst 0, 1) := by decide +kernel
theorem dX8_odds_35 : decode cX8_odds 35 = .ok (.istore 4, 2) := by decide +kernel
theorem dX8_odds_37 : decode cX8_odds 37 = .ok (.iconst 0, 1) := by decide +kernel
theorem dX8_odds_38 : decode cX8_odds 38 = .ok (.istore 5, 2) := by decide +kernel
theorem dX8_odds_40 : decode cX8_odds 40 = .ok (.iload 5, 2) := by decide +kernel
theorem dX8_odds_42 : decode cX8_odds 42 = .ok (.iconst 1, 1) := by decide +kernel
theorem dX8_odds_43 : decode cX8_odds 43 = .ok (.aload_n 0, 1) := by decide +kernel
theorem dX8_odds_44 : decode cX8_odds 44 = .ok (.getfield 74, 3) := by decide +kernel
theorem dX8_odds_47 : decode cX8_odds 47 = .ok (.ishl, 1) := by decide +kernel
theorem dX8_odds_48 : decode cX8_odds 48 = .ok (.if_icmp .ge 52, 3) := by decide +kernel
theorem dX8_odds_51 : decode cX8_odds 51 = .ok (.iload 5, 2) := by decide +kernel
theorem dX8_odds_53 : decode cX8_odds 53 = .ok (.aload_n 0, 1) := by decide +kernel
theorem dX8_odds_54 : decode cX8_odds 54 = .ok (.getfield 116, 3) := by decide +kernel
theorem dX8_odds_57 : decode cX8_odds 57 = .ok (.iconst (-1), 1) := by decide +kernel
theorem dX8_odds_58 : decode cX8_odds 58 = .ok (.ixor, 1) := by decide +kernel
theorem dX8_odds_59 : decode cX8_odds 59 = .ok (.iand, 1) := by decide +kernel
theorem dX8_odds_60 : decode cX8_odds 60 = .ok (.ifCond .ne 34, 3) := by decide +kernel
theorem dX8_odds_63 : decode cX8_odds 63 = .ok (.iinc 4 1, 3) := by decide +kernel
theorem dX8_odds_66 : decode cX8_odds 66 = .ok (.iload_n 3, 1) := by decide +kernel
theorem dX8_odds_67 : decode cX8_odds 67 = .ok (.aload_n 0, 1) := by decide +kernel
theorem dX8_odds_68 : decode cX8_odds 68 = .ok (.aload_n 0, 1) := by decide +kernel
theorem dX8_odds_69 : decode cX8_odds 69 = .ok (.getfield 116, 3) := by decide +kernel
theorem dX8_odds_72 : decode cX8_odds 72 = .ok (.iload 5, 2) := by decide +kernel
theorem dX8_odds_74 : decode cX8_odds 74 = .ok (.iconst (-1), 1) := by decide +kernel
theorem dX8_odds_75 : decode cX8_odds 75 = .ok (.ixor, 1) := by decide +kernel
theorem dX8_odds_76 : decode cX8_odds 76 = .ok (.iand, 1) := by decide +kernel
theorem dX8_odds_77 : decode cX8_odds 77 = .ok (.invokevirtual 157, 3) := by decide +kernel
theorem dX8_odds_80 : decode cX8_odds 80 = .ok (.iload_n 1, 1) := by decide +kernel
theorem dX8_odds_81 : decode cX8_odds 81 = .ok (.invokestatic 136, 3) := by decide +kernel
theorem dX8_odds_84 : decode cX8_odds 84 = .ok (.ifCond .eq 7, 3) := by decide +kernel
theorem dX8_odds_87 : decode cX8_odds 87 = .ok (.iconst 1, 1) := by decide +kernel
theorem dX8_odds_88 : decode cX8_odds 88 = .ok (.goto 4, 3) := by decide +kernel
theorem dX8_odds_91 : decode cX8_odds 91 = .ok (.iconst 0, 1) := by decide +kernel
theorem dX8_odds_92 : decode cX8_odds 92 = .ok (.iadd, 1) := by decide +kernel
theorem dX8_odds_93 : decode cX8_odds 93 = .ok (.istore_n 3, 1) := by decide +kernel
theorem dX8_odds_94 : decode cX8_odds 94 = .ok (.iinc 5 1, 3) := by decide +kernel
theorem dX8_odds_97 : decode cX8_odds 97 = .ok (.goto (-57), 3) := by decide +kernel
theorem dX8_odds_100 : decode cX8_odds 100 = .ok (.iload_n 3, 1) := by decide +kernel
theorem dX8_odds_101 : decode cX8_odds 101 = .ok (.i2l, 1) := by decide +kernel
theorem dX8_odds_102 : decode cX8_odds 102 = .ok (.iload 4, 2) := by decide +kernel
theorem dX8_odds_104 : decode cX8_odds 104 = .ok (.i2l, 1) := by decide +kernel
theorem dX8_odds_105 : decode cX8_odds 105 = .ok (.iload_n 2, 1) := by decide +kernel
theorem dX8_odds_106 : decode cX8_odds 106 = .ok (.invokestatic 202, 3) := by decide +kernel
theorem dX8_odds_109 : decode cX8_odds 109 = .ok (.lreturn, 1) := by decide +kernel
set_option maxRecDepth 20000 in
theorem ggX8_sheet_X8_isSheet : GoodIn wsX8_sheet wsX8_isSheet := goodIn_r _ [8, 9, 10, 7, 11] (by decide +kernel) (by decide +kernel)
set_option maxRecDepth 20000 in
theorem gX8_sheet_X8_isSheet : GoodIn wsX8_sheet (va_wsS RX8 83 yX8_isSheet wsX8_isSheet) := goodIn_app (goodIn_of _ (by decide +kernel)) ggX8_sheet_X8_isSheet
set_option maxRecDepth 20000 in
theorem ggX8_sheet_X8_isSort : GoodIn wsX8_sheet wsX8_isSort := goodIn_r _ [14, 9, 10, 7, 11] (by decide +kernel) (by decide +kernel)
set_option maxRecDepth 20000 in
theorem gX8_sheet_X8_isSort : GoodIn wsX8_sheet (va_wsS RX8 87 yX8_isSort wsX8_isSort) := goodIn_app (goodIn_of _ (by decide +kernel)) ggX8_sheet_X8_isSort
set_option maxRecDepth 20000 in
theorem ggX8_sheet_X8_fails : GoodIn wsX8_sheet wsX8_fails := goodIn_r _ [18, 1, 19, 20, 21, 22, 23, 24, 25, 26, 27, 28, 29, 30, 31, 32, 33, 34, 35, 36, 37, 38, 39, 40, 41, 42, 43, 44, 45, 46, 47, 48, 49, 50] (by decide +kernel) (by decide +kernel)
set_option maxRecDepth 20000 in
theorem gX8_sheet_X8_fails : GoodIn wsX8_sheet (wsV RX8 94 RX8 yX8_fails wsX8_fails) := goodIn_app (goodIn_of _ (by decide +kernel)) ggX8_sheet_X8_fails
theorem dX8_sheet_0 : decode cX8_sheet 0 = .ok (.aload_n 0, 1) := by decide +kernel
theorem dX8_sheet_1 : decode cX8_sheet 1 = .ok (.iconst 0, 1) := by decide +kernel
theorem dX8_sheet_2 : decode cX8_sheet 2 = .ok (.putfield 64, 3) := by decide +kernel
theorem dX8_sheet_5 : decode cX8_sheet 5 = .ok (.iload_n 1, 1) := by decide +kernel
theorem dX8_sheet_6 : decode cX8_sheet 6 = .ok (.invokestatic 83, 3) := by decide +kernel
theorem dX8_sheet_9 : decode cX8_sheet 9 = .ok (.ifCond .ne 5, 3) := by decide +kernel
theorem dX8_sheet_12 : decode cX8_sheet 12 = .ok (.iconst (-1), 1) := by decide +kernel
theorem dX8_sheet_13 : decode cX8_sheet 13 = .ok (.ireturn, 1) := by decide +kernel
theorem dX8_sheet_14 : decode cX8_sheet 14 = .ok (.iload_n 2, 1) := by decide +kernel
theorem dX8_sheet_15 : decode cX8_sheet 15 = .ok (.invokestatic 87, 3) := by decide +kernel
theorem dX8_sheet_18 : decode cX8_sheet 18 = .ok (.ifCond .eq 9, 3) := by decide +kernel
theorem dX8_sheet_21 : decode cX8_sheet 21 = .ok (.iload_n 3, 1) := by decide +kernel
theorem dX8_sheet_22 : decode cX8_sheet 22 = .ok (.bipush 60, 2) := by decide +kernel
theorem dX8_sheet_24 : decode cX8_sheet 24 = .ok (.if_icmp .le 6, 3) := by decide +kernel
theorem dX8_sheet_27 : decode cX8_sheet 27 = .ok (.bipush (-2), 2) := by decide +kernel
theorem dX8_sheet_29 : decode cX8_sheet 29 = .ok (.ireturn, 1) := by decide +kernel
theorem dX8_sheet_30 : decode cX8_sheet 30 = .ok (.iload_n 3, 1) := by decide +kernel
theorem dX8_sheet_31 : decode cX8_sheet 31 = .ok (.ifCond .ge 9, 3) := by decide +kernel
theorem dX8_sheet_34 : decode cX8_sheet 34 = .ok (.aload_n 0, 1) := by decide +kernel
theorem dX8_sheet_35 : decode cX8_sheet 35 = .ok (.iconst 4, 1) := by decide +kernel
theorem dX8_sheet_36 : decode cX8_sheet 36 = .ok (.invokevirtual 94, 3) := by decide +kernel
theorem dX8_sheet_39 : decode cX8_sheet 39 = .ok (.ireturn, 1) := by decide +kernel
theorem dX8_sheet_40 : decode cX8_sheet 40 = .ok (.aload_n 0, 1) := by decide +kernel
theorem dX8_sheet_41 : decode cX8_sheet 41 = .ok (.getfield 9, 3) := by decide +kernel
theorem dX8_sheet_44 : decode cX8_sheet 44 = .ok (.iload_n 1, 1) := by decide +kernel
theorem dX8_sheet_45 : decode cX8_sheet 45 = .ok (.iload_n 2, 1) := by decide +kernel
theorem dX8_sheet_46 : decode cX8_sheet 46 = .ok (.iastore, 1) := by decide +kernel
theorem dX8_sheet_47 : decode cX8_sheet 47 = .ok (.aload_n 0, 1) := by decide +kernel
theorem dX8_sheet_48 : decode cX8_sheet 48 = .ok (.getfield 13, 3) := by decide +kernel
theorem dX8_sheet_51 : decode cX8_sheet 51 = .ok (.iload_n 1, 1) := by decide +kernel
theorem dX8_sheet_52 : decode cX8_sheet 52 = .ok (.iload_n 3, 1) := by decide +kernel
theorem dX8_sheet_53 : decode cX8_sheet 53 = .ok (.iastore, 1) := by decide +kernel
theorem dX8_sheet_54 : decode cX8_sheet 54 = .ok (.iconst 0, 1) := by decide +kernel
theorem dX8_sheet_55 : decode cX8_sheet 55 = .ok (.istore 4, 2) := by decide +kernel
theorem dX8_sheet_57 : decode cX8_sheet 57 = .ok (.iload 4, 2) := by decide +kernel
theorem dX8_sheet_59 : decode cX8_sheet 59 = .ok (.bipush 60, 2) := by decide +kernel
theorem dX8_sheet_61 : decode cX8_sheet 61 = .ok (.if_icmp .ge 22, 3) := by decide +kernel
theorem dX8_sheet_64 : decode cX8_sheet 64 = .ok (.aload_n 0, 1) := by decide +kernel
theorem dX8_sheet_65 : decode cX8_sheet 65 = .ok (.getfield 16, 3) := by decide +kernel
theorem dX8_sheet_68 : decode cX8_sheet 68 = .ok (.bipush 60, 2) := by decide +kernel
theorem dX8_sheet_70 : decode cX8_sheet 70 = .ok (.iload_n 1, 1) := by decide +kernel
theorem dX8_sheet_71 : decode cX8_sheet 71 = .ok (.imul, 1) := by decide +kernel
theorem dX8_sheet_72 : decode cX8_sheet 72 = .ok (.iload 4, 2) := by decide +kernel
theorem dX8_sheet_74 : decode cX8_sheet 74 = .ok (.iadd, 1) := by decide +kernel
theorem dX8_sheet_75 : decode cX8_sheet 75 = .ok (.iconst 0, 1) := by decide +kernel
theorem dX8_sheet_76 : decode cX8_sheet 76 = .ok (.iastore, 1) := by decide +kernel
theorem dX8_sheet_77 : decode cX8_sheet 77 = .ok (.iinc 4 1, 3) := by decide +kernel
theorem dX8_sheet_80 : decode cX8_sheet 80 = .ok (.goto (-23), 3) := by decide +kernel
theorem dX8_sheet_83 : decode cX8_sheet 83 = .ok (.iconst 1, 1) := by decide +kernel
theorem dX8_sheet_84 : decode cX8_sheet 84 = .ok (.ireturn, 1) := by decide +kernel
set_option maxRecDepth 20000 in
theorem ggX8_lose_X8_isSheet : GoodIn wsX8_lose wsX8_isSheet := goodIn_r _ [5, 6, 7, 4, 8] (by decide +kernel) (by decide +kernel)
set_option maxRecDepth 20000 in
theorem gX8_lose_X8_isSheet : GoodIn wsX8_lose (va_wsS RX8 83 yX8_isSheet wsX8_isSheet) := goodIn_app (goodIn_of _ (by decide +kernel)) ggX8_lose_X8_isSheet
theorem dX8_lose_0 : decode cX8_lose 0 = .ok (.iload_n 1, 1) := by decide +kernel
theorem dX8_lose_1 : decode cX8_lose 1 = .ok (.invokestatic 83, 3) := by decide +kernel
theorem dX8_lose_4 : decode cX8_lose 4 = .ok (.ifCond .ne 5, 3) := by decide +kernel
theorem dX8_lose_7 : decode cX8_lose 7 = .ok (.iconst (-1), 1) := by decide +kernel
theorem dX8_lose_8 : decode cX8_lose 8 = .ok (.ireturn, 1) := by decide +kernel
theorem dX8_lose_9 : decode cX8_lose 9 = .ok (.aload_n 0, 1) := by decide +kernel
theorem dX8_lose_10 : decode cX8_lose 10 = .ok (.getfield 9, 3) := by decide +kernel
theorem dX8_lose_13 : decode cX8_lose 13 = .ok (.iload_n 1, 1) := by decide +kernel
theorem dX8_lose_14 : decode cX8_lose 14 = .ok (.iaload, 1) := by decide +kernel
theorem dX8_lose_15 : decode cX8_lose 15 = .ok (.bipush (-9), 2) := by decide +kernel
theorem dX8_lose_17 : decode cX8_lose 17 = .ok (.if_icmp .ne 7, 3) := by decide +kernel
theorem dX8_lose_20 : decode cX8_lose 20 = .ok (.iconst 0, 1) := by decide +kernel
theorem dX8_lose_21 : decode cX8_lose 21 = .ok (.goto 4, 3) := by decide +kernel
theorem dX8_lose_24 : decode cX8_lose 24 = .ok (.iconst 1, 1) := by decide +kernel
theorem dX8_lose_25 : decode cX8_lose 25 = .ok (.istore_n 2, 1) := by decide +kernel
theorem dX8_lose_26 : decode cX8_lose 26 = .ok (.aload_n 0, 1) := by decide +kernel
theorem dX8_lose_27 : decode cX8_lose 27 = .ok (.getfield 9, 3) := by decide +kernel
theorem dX8_lose_30 : decode cX8_lose 30 = .ok (.iload_n 1, 1) := by decide +kernel
theorem dX8_lose_31 : decode cX8_lose 31 = .ok (.bipush (-9), 2) := by decide +kernel
theorem dX8_lose_33 : decode cX8_lose 33 = .ok (.iastore, 1) := by decide +kernel
theorem dX8_lose_34 : decode cX8_lose 34 = .ok (.iload_n 2, 1) := by decide +kernel
theorem dX8_lose_35 : decode cX8_lose 35 = .ok (.ireturn, 1) := by decide +kernel
set_option maxRecDepth 20000 in
theorem ggX8_put_X8_isSheet : GoodIn wsX8_put wsX8_isSheet := goodIn_r _ [8, 9, 10, 7, 11] (by decide +kernel) (by decide +kernel)
set_option maxRecDepth 20000 in
theorem gX8_put_X8_isSheet : GoodIn wsX8_put (va_wsS RX8 83 yX8_isSheet wsX8_isSheet) := goodIn_app (goodIn_of _ (by decide +kernel)) ggX8_put_X8_isSheet
set_option maxRecDepth 20000 in
theorem ggX8_put_X8_fails : GoodIn wsX8_put wsX8_fails := goodIn_r _ [15, 1, 16, 17, 18, 19, 20, 21, 22, 23, 24, 25, 26, 27, 28, 29, 30, 31, 32, 33, 34, 35, 36, 37, 38, 39, 40, 41, 42, 43, 44, 45, 46, 47] (by decide +kernel) (by decide +kernel)
set_option maxRecDepth 20000 in
theorem gX8_put_X8_fails : GoodIn wsX8_put (wsV RX8 94 RX8 yX8_fails wsX8_fails) := goodIn_app (goodIn_of _ (by decide +kernel)) ggX8_put_X8_fails
set_option maxRecDepth 20000 in
theorem ggX8_put_X8_within : GoodIn wsX8_put wsX8_within := goodIn_r _ [11] (by decide +kernel) (by decide +kernel)
set_option maxRecDepth 20000 in
theorem gX8_put_X8_within : GoodIn wsX8_put (va_wsS RX8 70 yX8_within wsX8_within) := goodIn_app (goodIn_of _ (by decide +kernel)) ggX8_put_X8_within
theorem dX8_put_0 : decode cX8_put 0 = .ok (.aload_n 0, 1) := by decide +kernel
theorem dX8_put_1 : decode cX8_put 1 = .ok (.iconst 0, 1) := by decide +kernel
theorem dX8_put_2 : decode cX8_put 2 = .ok (.putfield 64, 3) := by decide +kernel
theorem dX8_put_5 : decode cX8_put 5 = .ok (.iload_n 1, 1) := by decide +kernel
theorem dX8_put_6 : decode cX8_put 6 = .ok (.invokestatic 83, 3) := by decide +kernel
theorem dX8_put_9 : decode cX8_put 9 = .ok (.ifCond .ne 5, 3) := by decide +kernel
theorem dX8_put_12 : decode cX8_put 12 = .ok (.iconst (-1), 1) := by decide +kernel
theorem dX8_put_13 : decode cX8_put 13 = .ok (.ireturn, 1) := by decide +kernel
theorem dX8_put_14 : decode cX8_put 14 = .ok (.aload_n 0, 1) := by decide +kernel
theorem dX8_put_15 : decode cX8_put 15 = .ok (.getfield 9, 3) := by decide +kernel
theorem dX8_put_18 : decode cX8_put 18 = .ok (.iload_n 1, 1) := by decide +kernel
theorem dX8_put_19 : decode cX8_put 19 = .ok (.iaload, 1) := by decide +kernel
theorem dX8_put_20 : decode cX8_put 20 = .ok (.bipush (-9), 2) := by decide +kernel
theorem dX8_put_22 : decode cX8_put 22 = .ok (.if_icmp .ne 9, 3) := by decide +kernel
theorem dX8_put_25 : decode cX8_put 25 = .ok (.aload_n 0, 1) := by decide +kernel
theorem dX8_put_26 : decode cX8_put 26 = .ok (.iconst 1, 1) := by decide +kernel
theorem dX8_put_27 : decode cX8_put 27 = .ok (.invokevirtual 94, 3) := by decide +kernel
theorem dX8_put_30 : decode cX8_put 30 = .ok (.ireturn, 1) := by decide +kernel
theorem dX8_put_31 : decode cX8_put 31 = .ok (.iload_n 2, 1) := by decide +kernel
theorem dX8_put_32 : decode cX8_put 32 = .ok (.iconst 0, 1) := by decide +kernel
theorem dX8_put_33 : decode cX8_put 33 = .ok (.aload_n 0, 1) := by decide +kernel
theorem dX8_put_34 : decode cX8_put 34 = .ok (.getfield 13, 3) := by decide +kernel
theorem dX8_put_37 : decode cX8_put 37 = .ok (.iload_n 1, 1) := by decide +kernel
theorem dX8_put_38 : decode cX8_put 38 = .ok (.iaload, 1) := by decide +kernel
theorem dX8_put_39 : decode cX8_put 39 = .ok (.iconst 1, 1) := by decide +kernel
theorem dX8_put_40 : decode cX8_put 40 = .ok (.isub, 1) := by decide +kernel
theorem dX8_put_41 : decode cX8_put 41 = .ok (.invokestatic 70, 3) := by decide +kernel
theorem dX8_put_44 : decode cX8_put 44 = .ok (.ifCond .ne 9, 3) := by decide +kernel
theorem dX8_put_47 : decode cX8_put 47 = .ok (.aload_n 0, 1) := by decide +kernel
theorem dX8_put_48 : decode cX8_put 48 = .ok (.iconst 3, 1) := by decide +kernel
theorem dX8_put_49 : decode cX8_put 49 = .ok (.invokevirtual 94, 3) := by decide +kernel
theorem dX8_put_52 : decode cX8_put 52 = .ok (.ireturn, 1) := by decide +kernel
theorem dX8_put_53 : decode cX8_put 53 = .ok (.aload_n 0, 1) := by decide +kernel
theorem dX8_put_54 : decode cX8_put 54 = .ok (.getfield 16, 3) := by decide +kernel
theorem dX8_put_57 : decode cX8_put 57 = .ok (.bipush 60, 2) := by decide +kernel
theorem dX8_put_59 : decode cX8_put 59 = .ok (.iload_n 1, 1) := by decide +kernel
theorem dX8_put_60 : decode cX8_put 60 = .ok (.imul, 1) := by decide +kernel
theorem dX8_put_61 : decode cX8_put 61 = .ok (.iload_n 2, 1) := by decide +kernel
theorem dX8_put_62 : decode cX8_put 62 = .ok (.iadd, 1) := by decide +kernel
theorem dX8_put_63 : decode cX8_put 63 = .ok (.aload_n 0, 1) := by decide +kernel
theorem dX8_put_64 : decode cX8_put 64 = .ok (.getfield 9, 3) := by decide +kernel
theorem dX8_put_67 : decode cX8_put 67 = .ok (.iload_n 1, 1) := by decide +kernel
theorem dX8_put_68 : decode cX8_put 68 = .ok (.iaload, 1) := by decide +kernel
theorem dX8_put_69 : decode cX8_put 69 = .ok (.ifCond .ne 8, 3) := by decide +kernel
theorem dX8_put_72 : decode cX8_put 72 = .ok (.iload_n 3, 1) := by decide +kernel
theorem dX8_put_73 : decode cX8_put 73 = .ok (.i2b, 1) := by decide +kernel
theorem dX8_put_74 : decode cX8_put 74 = .ok (.goto 19, 3) := by decide +kernel
theorem dX8_put_77 : decode cX8_put 77 = .ok (.aload_n 0, 1) := by decide +kernel
theorem dX8_put_78 : decode cX8_put 78 = .ok (.getfield 9, 3) := by decide +kernel
theorem dX8_put_81 : decode cX8_put 81 = .ok (.iload_n 1, 1) := by decide +kernel
theorem dX8_put_82 : decode cX8_put 82 = .ok (.iaload, 1) := by decide +kernel
theorem dX8_put_83 : decode cX8_put 83 = .ok (.iconst 1, 1) := by decide +kernel
theorem dX8_put_84 : decode cX8_put 84 = .ok (.if_icmp .ne 8, 3) := by decide +kernel
theorem dX8_put_87 : decode cX8_put 87 = .ok (.iload_n 3, 1) := by decide +kernel
theorem dX8_put_88 : decode cX8_put 88 = .ok (.i2s, 1) := by decide +kernel
theorem dX8_put_89 : decode cX8_put 89 = .ok (.goto 4, 3) := by decide +kernel
theorem dX8_put_92 : decode cX8_put 92 = .ok (.iload_n 3, 1) := by decide +kernel
theorem dX8_put_93 : decode cX8_put 93 = .ok (.iastore, 1) := by decide +kernel
theorem dX8_put_94 : decode cX8_put 94 = .ok (.iconst 1, 1) := by decide +kernel
theorem dX8_put_95 : decode cX8_put 95 = .ok (.ireturn, 1) := by decide +kernel
set_option maxRecDepth 20000 in
theorem ggX8_cell_X8_isSheet : GoodIn wsX8_cell wsX8_isSheet := goodIn_r _ [9, 10, 11, 8, 12] (by decide +kernel) (by decide +kernel)
set_option maxRecDepth 20000 in
theorem gX8_cell_X8_isSheet : GoodIn wsX8_cell (va_wsS RX8 83 yX8_isSheet wsX8_isSheet) := goodIn_app (goodIn_of _ (by decide +kernel)) ggX8_cell_X8_isSheet
set_option maxRecDepth 20000 in
theorem ggX8_cell_X8_isSort : GoodIn wsX8_cell wsX8_isSort := goodIn_r _ [15, 10, 11, 8, 12] (by decide +kernel) (by decide +kernel)
set_option maxRecDepth 20000 in
theorem gX8_cell_X8_isSort : GoodIn wsX8_cell (va_wsS RX8 87 yX8_isSort wsX8_isSort) := goodIn_app (goodIn_of _ (by decide +kernel)) ggX8_cell_X8_isSort
set_option maxRecDepth 20000 in
theorem ggX8_cell_X8_lost : GoodIn wsX8_cell wsX8_lost := goodIn_r _ [19, 1, 2, 20, 21, 22, 23, 24, 25, 26, 27, 28, 29, 30, 31, 32, 33, 34, 35, 36, 37, 38, 39, 40, 41, 42, 43, 44, 45, 46, 47, 48, 49, 50, 51] (by decide +kernel) (by decide +kernel)
set_option maxRecDepth 20000 in
theorem gX8_cell_X8_lost : GoodIn wsX8_cell (wsV RX8 206 RX8 yX8_lost wsX8_lost) := goodIn_app (goodIn_of _ (by decide +kernel)) ggX8_cell_X8_lost
set_option maxRecDepth 20000 in
theorem ggX8_cell_X8_within : GoodIn wsX8_cell wsX8_within := goodIn_r _ [12] (by decide +kernel) (by decide +kernel)
set_option maxRecDepth 20000 in
theorem gX8_cell_X8_within : GoodIn wsX8_cell (va_wsS RX8 70 yX8_within wsX8_within) := goodIn_app (goodIn_of _ (by decide +kernel)) ggX8_cell_X8_within
theorem dX8_cell_0 : decode cX8_cell 0 = .ok (.aload_n 0, 1) := by decide +kernel
theorem dX8_cell_1 : decode cX8_cell 1 = .ok (.iconst 0, 1) := by decide +kernel
theorem dX8_cell_2 : decode cX8_cell 2 = .ok (.putfield 64, 3) := by decide +kernel
theorem dX8_cell_5 : decode cX8_cell 5 = .ok (.iload_n 1, 1) := by decide +kernel
theorem dX8_cell_6 : decode cX8_cell 6 = .ok (.invokestatic 83, 3) := by decide +kernel
theorem dX8_cell_9 : decode cX8_cell 9 = .ok (.ifCond .eq 10, 3) := by decide +kernel
theorem dX8_cell_12 : decode cX8_cell 12 = .ok (.iload_n 3, 1) := by decide +kernel
theorem dX8_cell_13 : decode cX8_cell 13 = .ok (.invokestatic 87, 3) := by decide +kernel
theorem dX8_cell_16 : decode cX8_cell 16 = .ok (.ifCond .ne 7, 3) := by decide +kernel
theorem dX8_cell_19 : decode cX8_cell 19 = .ok (.ldc2_w 68, 3) := by decide +kernel
theorem dX8_cell_22 : decode cX8_cell 22 = .ok (.lreturn, 1) := by decide +kernel
theorem dX8_cell_23 : decode cX8_cell 23 = .ok (.aload_n 0, 1) := by decide +kernel
theorem dX8_cell_24 : decode cX8_cell 24 = .ok (.getfield 9, 3) := by decide +kernel
theorem dX8_cell_27 : decode cX8_cell 27 = .ok (.iload_n 1, 1) := by decide +kernel
theorem dX8_cell_28 : decode cX8_cell 28 = .ok (.iaload, 1) := by decide +kernel
theorem dX8_cell_29 : decode cX8_cell 29 = .ok (.bipush (-9), 2) := by decide +kernel
theorem dX8_cell_31 : decode cX8_cell 31 = .ok (.if_icmp .eq 19, 3) := by decide +kernel
theorem dX8_cell_34 : decode cX8_cell 34 = .ok (.aload_n 0, 1) := by decide +kernel
theorem dX8_cell_35 : decode cX8_cell 35 = .ok (.getfield 9, 3) := by decide +kernel
theorem dX8_cell_38 : decode cX8_cell 38 = .ok (.iload_n 1, 1) := by decide +kernel
theorem dX8_cell_39 : decode cX8_cell 39 = .ok (.iaload, 1) := by decide +kernel
theorem dX8_cell_40 : decode cX8_cell 40 = .ok (.iload_n 3, 1) := by decide +kernel
theorem dX8_cell_41 : decode cX8_cell 41 = .ok (.if_icmp .eq 9, 3) := by decide +kernel
theorem dX8_cell_44 : decode cX8_cell 44 = .ok (.aload_n 0, 1) := by decide +kernel
theorem dX8_cell_45 : decode cX8_cell 45 = .ok (.iconst 2, 1) := by decide +kernel
theorem dX8_cell_46 : decode cX8_cell 46 = .ok (.invokevirtual 206, 3) := by decide +kernel
theorem dX8_cell_49 : decode cX8_cell 49 = .ok (.lreturn, 1) := by decide +kernel
theorem dX8_cell_50 : decode cX8_cell 50 = .ok (.aload_n 0, 1) := by decide +kernel
theorem dX8_cell_51 : decode cX8_cell 51 = .ok (.getfield 9, 3) := by decide +kernel
theorem dX8_cell_54 : decode cX8_cell 54 = .ok (.iload_n 1, 1) := by decide +kernel
theorem dX8_cell_55 : decode cX8_cell 55 = .ok (.iaload, 1) := by decide +kernel
theorem dX8_cell_56 : decode cX8_cell 56 = .ok (.bipush (-9), 2) := by decide +kernel
theorem dX8_cell_58 : decode cX8_cell 58 = .ok (.if_icmp .ne 9, 3) := by decide +kernel
theorem dX8_cell_61 : decode cX8_cell 61 = .ok (.aload_n 0, 1) := by decide +kernel
theorem dX8_cell_62 : decode cX8_cell 62 = .ok (.iconst 1, 1) := by decide +kernel
theorem dX8_cell_63 : decode cX8_cell 63 = .ok (.invokevirtual 206, 3) := by decide +kernel
theorem dX8_cell_66 : decode cX8_cell 66 = .ok (.lreturn, 1) := by decide +kernel
theorem dX8_cell_67 : decode cX8_cell 67 = .ok (.iload_n 2, 1) := by decide +kernel
theorem dX8_cell_68 : decode cX8_cell 68 = .ok (.iconst 0, 1) := by decide +kernel
theorem dX8_cell_69 : decode cX8_cell 69 = .ok (.aload_n 0, 1) := by decide +kernel
theorem dX8_cell_70 : decode cX8_cell 70 = .ok (.getfield 13, 3) := by decide +kernel
theorem dX8_cell_73 : decode cX8_cell 73 = .ok (.iload_n 1, 1) := by decide +kernel
theorem dX8_cell_74 : decode cX8_cell 74 = .ok (.iaload, 1) := by decide +kernel
theorem dX8_cell_75 : decode cX8_cell 75 = .ok (.iconst 1, 1) := by decide +kernel
theorem dX8_cell_76 : decode cX8_cell 76 = .ok (.isub, 1) := by decide +kernel
theorem dX8_cell_77 : decode cX8_cell 77 = .ok (.invokestatic 70, 3) := by decide +kernel
theorem dX8_cell_80 : decode cX8_cell 80 = .ok (.ifCond .ne 9, 3) := by decide +kernel
theorem dX8_cell_83 : decode cX8_cell 83 = .ok (.aload_n 0, 1) := by decide +kernel
theorem dX8_cell_84 : decode cX8_cell 84 = .ok (.iconst 3, 1) := by decide +kernel
theorem dX8_cell_85 : decode cX8_cell 85 = .ok (.invokevirtual 206, 3) := by decide +kernel
theorem dX8_cell_88 : decode cX8_cell 88 = .ok (.lreturn, 1) := by decide +kernel
theorem dX8_cell_89 : decode cX8_cell 89 = .ok (.aload_n 0, 1) := by decide +kernel
theorem dX8_cell_90 : decode cX8_cell 90 = .ok (.getfield 16, 3) := by decide +kernel
theorem dX8_cell_93 : decode cX8_cell 93 = .ok (.bipush 60, 2) := by decide +kernel
theorem dX8_cell_95 : decode cX8_cell 95 = .ok (.iload_n 1, 1) := by decide +kernel
theorem dX8_cell_96 : decode cX8_cell 96 = .ok (.imul, 1) := by decide +kernel
theorem dX8_cell_97 : decode cX8_cell 97 = .ok (.iload_n 2, 1) := by decide +kernel
theorem dX8_cell_98 : decode cX8_cell 98 = .ok (.iadd, 1) := by decide +kernel
theorem dX8_cell_99 : decode cX8_cell 99 = .ok (.iaload, 1) := by decide +kernel
theorem dX8_cell_100 : decode cX8_cell 100 = .ok (.i2l, 1) := by decide +kernel
theorem dX8_cell_101 : decode cX8_cell 101 = .ok (.lreturn, 1) := by decide +kernel
set_option maxRecDepth 20000 in
theorem ggX8_copy_X8_isSheet : GoodIn wsX8_copy wsX8_isSheet := goodIn_r _ [8, 9, 10, 7, 11] (by decide +kernel) (by decide +kernel)
set_option maxRecDepth 20000 in
theorem gX8_copy_X8_isSheet : GoodIn wsX8_copy (va_wsS RX8 83 yX8_isSheet wsX8_isSheet) := goodIn_app (goodIn_of _ (by decide +kernel)) ggX8_copy_X8_isSheet
set_option maxRecDepth 20000 in
theorem ggX8_copy_X8_fails : GoodIn wsX8_copy wsX8_fails := goodIn_r _ [15, 1, 16, 17, 18, 19, 20, 21, 22, 23, 24, 25, 26, 27, 28, 29, 30, 31, 32, 33, 34, 35, 36, 37, 38, 39, 40, 41, 42, 43, 44, 45, 46, 47] (by decide +kernel) (by decide +kernel)
set_option maxRecDepth 20000 in
theorem gX8_copy_X8_fails : GoodIn wsX8_copy (wsV RX8 94 RX8 yX8_fails wsX8_fails) := goodIn_app (goodIn_of _ (by decide +kernel)) ggX8_copy_X8_fails
theorem dX8_copy_0 : decode cX8_copy 0 = .ok (.aload_n 0, 1) := by decide +kernel
theorem dX8_copy_1 : decode cX8_copy 1 = .ok (.iconst 0, 1) := by decide +kernel
theorem dX8_copy_2 : decode cX8_copy 2 = .ok (.putfield 64, 3) := by decide +kernel
theorem dX8_copy_5 : decode cX8_copy 5 = .ok (.iload_n 1, 1) := by decide +kernel
theorem dX8_copy_6 : decode cX8_copy 6 = .ok (.invokestatic 83, 3) := by decide +kernel
theorem dX8_copy_9 : decode cX8_copy 9 = .ok (.ifCond .eq 10, 3) := by decide +kernel
theorem dX8_copy_12 : decode cX8_copy 12 = .ok (.iload_n 3, 1) := by decide +kernel
theorem dX8_copy_13 : decode cX8_copy 13 = .ok (.invokestatic 83, 3) := by decide +kernel
theorem dX8_copy_16 : decode cX8_copy 16 = .ok (.ifCond .ne 5, 3) := by decide +kernel
theorem dX8_copy_19 : decode cX8_copy 19 = .ok (.iconst (-1), 1) := by decide +kernel
theorem dX8_copy_20 : decode cX8_copy 20 = .ok (.ireturn, 1) := by decide +kernel
theorem dX8_copy_21 : decode cX8_copy 21 = .ok (.aload_n 0, 1) := by decide +kernel
theorem dX8_copy_22 : decode cX8_copy 22 = .ok (.getfield 9, 3) := by decide +kernel
theorem dX8_copy_25 : decode cX8_copy 25 = .ok (.iload_n 1, 1) := by decide +kernel
theorem dX8_copy_26 : decode cX8_copy 26 = .ok (.iaload, 1) := by decide +kernel
theorem dX8_copy_27 : decode cX8_copy 27 = .ok (.bipush (-9), 2) := by decide +kernel
theorem dX8_copy_29 : decode cX8_copy 29 = .ok (.if_icmp .eq 14, 3) := by decide +kernel
theorem dX8_copy_32 : decode cX8_copy 32 = .ok (.aload_n 0, 1) := by decide +kernel
theorem dX8_copy_33 : decode cX8_copy 33 = .ok (.getfield 9, 3) := by decide +kernel
theorem dX8_copy_36 : decode cX8_copy 36 = .ok (.iload_n 3, 1) := by decide +kernel
theorem dX8_copy_37 : decode cX8_copy 37 = .ok (.iaload, 1) := by decide +kernel
theorem dX8_copy_38 : decode cX8_copy 38 = .ok (.bipush (-9), 2) := by decide +kernel
theorem dX8_copy_40 : decode cX8_copy 40 = .ok (.if_icmp .ne 9, 3) := by decide +kernel
theorem dX8_copy_43 : decode cX8_copy 43 = .ok (.aload_n 0, 1) := by decide +kernel
theorem dX8_copy_44 : decode cX8_copy 44 = .ok (.iconst 1, 1) := by decide +kernel
theorem dX8_copy_45 : decode cX8_copy 45 = .ok (.invokevirtual 94, 3) := by decide +kernel
theorem dX8_copy_48 : decode cX8_copy 48 = .ok (.ireturn, 1) := by decide +kernel
theorem dX8_copy_49 : decode cX8_copy 49 = .ok (.aload_n 0, 1) := by decide +kernel
theorem dX8_copy_50 : decode cX8_copy 50 = .ok (.getfield 9, 3) := by decide +kernel
theorem dX8_copy_53 : decode cX8_copy 53 = .ok (.iload_n 1, 1) := by decide +kernel
theorem dX8_copy_54 : decode cX8_copy 54 = .ok (.iaload, 1) := by decide +kernel
theorem dX8_copy_55 : decode cX8_copy 55 = .ok (.aload_n 0, 1) := by decide +kernel
theorem dX8_copy_56 : decode cX8_copy 56 = .ok (.getfield 9, 3) := by decide +kernel
theorem dX8_copy_59 : decode cX8_copy 59 = .ok (.iload_n 3, 1) := by decide +kernel
theorem dX8_copy_60 : decode cX8_copy 60 = .ok (.iaload, 1) := by decide +kernel
theorem dX8_copy_61 : decode cX8_copy 61 = .ok (.if_icmp .eq 9, 3) := by decide +kernel
theorem dX8_copy_64 : decode cX8_copy 64 = .ok (.aload_n 0, 1) := by decide +kernel
theorem dX8_copy_65 : decode cX8_copy 65 = .ok (.iconst 2, 1) := by decide +kernel
theorem dX8_copy_66 : decode cX8_copy 66 = .ok (.invokevirtual 94, 3) := by decide +kernel
theorem dX8_copy_69 : decode cX8_copy 69 = .ok (.ireturn, 1) := by decide +kernel
theorem dX8_copy_70 : decode cX8_copy 70 = .ok (.iload_n 2, 1) := by decide +kernel
theorem dX8_copy_71 : decode cX8_copy 71 = .ok (.ifCond .lt 38, 3) := by decide +kernel
theorem dX8_copy_74 : decode cX8_copy 74 = .ok (.iload 4, 2) := by decide +kernel
theorem dX8_copy_76 : decode cX8_copy 76 = .ok (.ifCond .lt 33, 3) := by decide +kernel
theorem dX8_copy_79 : decode cX8_copy 79 = .ok (.iload 5, 2) := by decide +kernel
theorem dX8_copy_81 : decode cX8_copy 81 = .ok (.ifCond .lt 28, 3) := by decide +kernel
theorem dX8_copy_84 : decode cX8_copy 84 = .ok (.iload_n 2, 1) := by decide +kernel
theorem dX8_copy_85 : decode cX8_copy 85 = .ok (.aload_n 0, 1) := by decide +kernel
theorem dX8_copy_86 : decode cX8_copy 86 = .ok (.getfield 13, 3) := by decide +kernel
theorem dX8_copy_89 : decode cX8_copy 89 = .ok (.iload_n 1, 1) := by decide +kernel
theorem dX8_copy_90 : decode cX8_copy 90 = .ok (.iaload, 1) := by decide +kernel
theorem dX8_copy_91 : decode cX8_copy 91 = .ok (.if_icmp .gt 18, 3) := by decide +kernel
theorem dX8_copy_94 : decode cX8_copy 94 = .ok (.iload 4, 2) := by decide +kernel
theorem dX8_copy_96 : decode cX8_copy 96 = .ok (.aload_n 0, 1) := by decide +kernel
theorem dX8_copy_97 : decode cX8_copy 97 = .ok (.getfield 13, 3) := by decide +kernel
theorem dX8_copy_100 : decode cX8_copy 100 = .ok (.iload_n 3, 1) := by decide +kernel
theorem dX8_copy_101 : decode cX8_copy 101 = .ok (.iaload, 1) := by decide +kernel
theorem dX8_copy_102 : decode cX8_copy 102 = .ok (.if_icmp .gt 7, 3) := by decide +kernel
theorem dX8_copy_105 : decode cX8_copy 105 = .ok (.iconst 1, 1) := by decide +kernel
theorem dX8_copy_106 : decode cX8_copy 106 = .ok (.goto 4, 3) := by decide +kernel
theorem dX8_copy_109 : decode cX8_copy 109 = .ok (.iconst 0, 1) := by decide +kernel
theorem dX8_copy_110 : decode cX8_copy 110 = .ok (.istore 6, 2) := by decide +kernel
theorem dX8_copy_112 : decode cX8_copy 112 = .ok (.iload 6, 2) := by decide +kernel
theorem dX8_copy_114 : decode cX8_copy 114 = .ok (.ifCond .eq 30, 3) := by decide +kernel
theorem dX8_copy_117 : decode cX8_copy 117 = .ok (.iload 5, 2) := by decide +kernel
theorem dX8_copy_119 : decode cX8_copy 119 = .ok (.aload_n 0, 1) := by decide +kernel
theorem dX8_copy_120 : decode cX8_copy 120 = .ok (.getfield 13, 3) := by decide +kernel
theorem dX8_copy_123 : decode cX8_copy 123 = .ok (.iload_n 1, 1) := by decide +kernel
theorem dX8_copy_124 : decode cX8_copy 124 = .ok (.iaload, 1) := by decide +kernel
theorem dX8_copy_125 : decode cX8_copy 125 = .ok (.iload_n 2, 1) := by decide +kernel
theorem dX8_copy_126 : decode cX8_copy 126 = .ok (.isub, 1) := by decide +kernel
theorem dX8_copy_127 : decode cX8_copy 127 = .ok (.if_icmp .gt 17, 3) := by decide +kernel
theorem dX8_copy_130 : decode cX8_copy 130 = .ok (.iload 5, 2) := by decide +kernel
theorem dX8_copy_132 : decode cX8_copy 132 = .ok (.aload_n 0, 1) := by decide +kernel
theorem dX8_copy_133 : decode cX8_copy 133 = .ok (.getfield 13, 3) := by decide +kernel
theorem dX8_copy_136 : decode cX8_copy 136 = .ok (.iload_n 3, 1) := by decide +kernel
theorem dX8_copy_137 : decode cX8_copy 137 = .ok (.iaload, 1) := by decide +kernel
theorem dX8_copy_138 : decode cX8_copy 138 = .ok (.iload 4, 2) := by decide +kernel
theorem dX8_copy_140 : decode cX8_copy 140 = .ok (.isub, 1) := by decide +kernel
theorem dX8_copy_141 : decode cX8_copy 141 = .ok (.if_icmp .le 9, 3) := by decide +kernel
theorem dX8_copy_144 : decode cX8_copy 144 = .ok (.aload_n 0, 1) := by decide +kernel
theorem dX8_copy_145 : decode cX8_copy 145 = .ok (.iconst 3, 1) := by decide +kernel
theorem dX8_copy_146 : decode cX8_copy 146 = .ok (.invokevirtual 94, 3) := by decide +kernel
theorem dX8_copy_149 : decode cX8_copy 149 = .ok (.ireturn, 1) := by decide +kernel
theorem dX8_copy_150 : decode cX8_copy 150 = .ok (.iload_n 2, 1) := by decide +kernel
theorem dX8_copy_151 : decode cX8_copy 151 = .ok (.iload 4, 2) := by decide +kernel
theorem dX8_copy_153 : decode cX8_copy 153 = .ok (.if_icmp .ge 7, 3) := by decide +kernel
theorem dX8_copy_156 : decode cX8_copy 156 = .ok (.iconst 1, 1) := by decide +kernel
theorem dX8_copy_157 : decode cX8_copy 157 = .ok (.goto 4, 3) := by decide +kernel
theorem dX8_copy_160 : decode cX8_copy 160 = .ok (.iconst 0, 1) := by decide +kernel
theorem dX8_copy_161 : decode cX8_copy 161 = .ok (.istore 7, 2) := by decide +kernel
theorem dX8_copy_163 : decode cX8_copy 163 = .ok (.iconst 0, 1) := by decide +kernel
theorem dX8_copy_164 : decode cX8_copy 164 = .ok (.istore 8, 2) := by decide +kernel
theorem dX8_copy_166 : decode cX8_copy 166 = .ok (.iload 8, 2) := by decide +kernel
theorem dX8_copy_168 : decode cX8_copy 168 = .ok (.iload 5, 2) := by decide +kernel
theorem dX8_copy_170 : decode cX8_copy 170 = .ok (.if_icmp .ge 57, 3) := by decide +kernel
theorem dX8_copy_173 : decode cX8_copy 173 = .ok (.iload 7, 2) := by decide +kernel
theorem dX8_copy_175 : decode cX8_copy 175 = .ok (.ifCond .eq 13, 3) := by decide +kernel
theorem dX8_copy_178 : decode cX8_copy 178 = .ok (.iload 5, 2) := by decide +kernel
theorem dX8_copy_180 : decode cX8_copy 180 = .ok (.iconst 1, 1) := by decide +kernel
theorem dX8_copy_181 : decode cX8_copy 181 = .ok (.isub, 1) := by decide +kernel
theorem dX8_copy_182 : decode cX8_copy 182 = .ok (.iload 8, 2) := by decide +kernel
theorem dX8_copy_184 : decode cX8_copy 184 = .ok (.isub, 1) := by decide +kernel
theorem dX8_copy_185 : decode cX8_copy 185 = .ok (.goto 5, 3) := by decide +kernel
theorem dX8_copy_188 : decode cX8_copy 188 = .ok (.iload 8, 2) := by decide +kernel
theorem dX8_copy_190 : decode cX8_copy 190 = .ok (.istore 9, 2) := by decide +kernel
theorem dX8_copy_192 : decode cX8_copy 192 = .ok (.aload_n 0, 1) := by decide +kernel
theorem dX8_copy_193 : decode cX8_copy 193 = .ok (.getfield 16, 3) := by decide +kernel
theorem dX8_copy_196 : decode cX8_copy 196 = .ok (.bipush 60, 2) := by decide +kernel
theorem dX8_copy_198 : decode cX8_copy 198 = .ok (.iload_n 3, 1) := by decide +kernel
theorem dX8_copy_199 : decode cX8_copy 199 = .ok (.imul, 1) := by decide +kernel
theorem dX8_copy_200 : decode cX8_copy 200 = .ok (.iload 4, 2) := by decide +kernel
theorem dX8_copy_202 : decode cX8_copy 202 = .ok (.iadd, 1) := by decide +kernel
theorem dX8_copy_203 : decode cX8_copy 203 = .ok (.iload 9, 2) := by decide +kernel
theorem dX8_copy_205 : decode cX8_copy 205 = .ok (.iadd, 1) := by decide +kernel
theorem dX8_copy_206 : decode cX8_copy 206 = .ok (.aload_n 0, 1) := by decide +kernel
theorem dX8_copy_207 : decode cX8_copy 207 = .ok (.getfield 16, 3) := by decide +kernel
theorem dX8_copy_210 : decode cX8_copy 210 = .ok (.bipush 60, 2) := by decide +kernel
theorem dX8_copy_212 : decode cX8_copy 212 = .ok (.iload_n 1, 1) := by decide +kernel
theorem dX8_copy_213 : decode cX8_copy 213 = .ok (.imul, 1) := by decide +kernel
theorem dX8_copy_214 : decode cX8_copy 214 = .ok (.iload_n 2, 1) := by decide +kernel
theorem dX8_copy_215 : decode cX8_copy 215 = .ok (.iadd, 1) := by decide +kernel
theorem dX8_copy_216 : decode cX8_copy 216 = .ok (.iload 9, 2) := by decide +kernel
theorem dX8_copy_218 : decode cX8_copy 218 = .ok (.iadd, 1) := by decide +kernel
theorem dX8_copy_219 : decode cX8_copy 219 = .ok (.iaload, 1) := by decide +kernel
theorem dX8_copy_220 : decode cX8_copy 220 = .ok (.iastore, 1) := by decide +kernel
theorem dX8_copy_221 : decode cX8_copy 221 = .ok (.iinc 8 1, 3) := by decide +kernel
theorem dX8_copy_224 : decode cX8_copy 224 = .ok (.goto (-58), 3) := by decide +kernel
theorem dX8_copy_227 : decode cX8_copy 227 = .ok (.iload 5, 2) := by decide +kernel
theorem dX8_copy_229 : decode cX8_copy 229 = .ok (.ireturn, 1) := by decide +kernel
theorem dX8_begins_0 : decode cX8_begins 0 = .ok (.aload_n 0, 1) := by decide +kernel
theorem dX8_begins_1 : decode cX8_begins 1 = .ok (.bipush 31, 2) := by decide +kernel
theorem dX8_begins_3 : decode cX8_begins 3 = .ok (.aload_n 0, 1) := by decide +kernel
theorem dX8_begins_4 : decode cX8_begins 4 = .ok (.getfield 210, 3) := by decide +kernel
theorem dX8_begins_7 : decode cX8_begins 7 = .ok (.imul, 1) := by decide +kernel
theorem dX8_begins_8 : decode cX8_begins 8 = .ok (.iload_n 1, 1) := by decide +kernel
theorem dX8_begins_9 : decode cX8_begins 9 = .ok (.iadd, 1) := by decide +kernel
theorem dX8_begins_10 : decode cX8_begins 10 = .ok (.putfield 210, 3) := by decide +kernel
theorem dX8_begins_13 : decode cX8_begins 13 = .ok (.return_, 1) := by decide +kernel
set_option maxRecDepth 20000 in
theorem ggX8_tell_X8_isArticle : GoodIn wsX8_tell wsX8_isArticle := goodIn_r _ [7, 8, 14, 15, 16, 17, 18, 19, 20, 21, 22, 23, 24, 25, 26, 27, 28, 29, 30, 31, 32, 33, 34, 35, 36, 37, 38, 39, 40, 41, 42, 43, 44, 45] (by decide +kernel) (by decide +kernel)
set_option maxRecDepth 20000 in
theorem gX8_tell_X8_isArticle : GoodIn wsX8_tell (wsV RX8 142 RX8 yX8_isArticle wsX8_isArticle) := goodIn_app (goodIn_of _ (by decide +kernel)) ggX8_tell_X8_isArticle
set_option maxRecDepth 20000 in
theorem ggX8_tell_X8_begins : GoodIn wsX8_tell wsX8_begins := goodIn_r _ [12, 13, 14, 15, 16, 17, 18, 19, 20, 21, 22, 23, 24, 25, 26, 27, 28, 29, 30, 31, 32, 33, 34, 35, 36, 37, 38, 39, 40, 41, 42, 43, 44, 45] (by decide +kernel) (by decide +kernel)
set_option maxRecDepth 20000 in
theorem gX8_tell_X8_begins : GoodIn wsX8_tell (wsV RX8 213 RX8 yX8_begins wsX8_begins) := goodIn_app (goodIn_of _ (by decide +kernel)) ggX8_tell_X8_begins
theorem dX8_tell_0 : decode cX8_tell 0 = .ok (.aload_n 0, 1) := by decide +kernel
theorem dX8_tell_1 : decode cX8_tell 1 = .ok (.iload_n 1, 1) := by decide +kernel
theorem dX8_tell_2 : decode cX8_tell 2 = .ok (.invokevirtual 142, 3) := by decide +kernel
theorem dX8_tell_5 : decode cX8_tell 5 = .ok (.ifCond .ne 5, 3) := by decide +kernel
theorem dX8_tell_8 : decode cX8_tell 8 = .ok (.iconst (-1), 1) := by decide +kernel
theorem dX8_tell_9 : decode cX8_tell 9 = .ok (.ireturn, 1) := by decide +kernel
theorem dX8_tell_10 : decode cX8_tell 10 = .ok (.aload_n 0, 1) := by decide +kernel
theorem dX8_tell_11 : decode cX8_tell 11 = .ok (.getfield 28, 3) := by decide +kernel
theorem dX8_tell_14 : decode cX8_tell 14 = .ok (.iload_n 1, 1) := by decide +kernel
theorem dX8_tell_15 : decode cX8_tell 15 = .ok (.iaload, 1) := by decide +kernel
theorem dX8_tell_16 : decode cX8_tell 16 = .ok (.istore_n 2, 1) := by decide +kernel
theorem dX8_tell_17 : decode cX8_tell 17 = .ok (.aload_n 0, 1) := by decide +kernel
theorem dX8_tell_18 : decode cX8_tell 18 = .ok (.getfield 22, 3) := by decide +kernel
theorem dX8_tell_21 : decode cX8_tell 21 = .ok (.iload_n 1, 1) := by decide +kernel
theorem dX8_tell_22 : decode cX8_tell 22 = .ok (.iaload, 1) := by decide +kernel
theorem dX8_tell_23 : decode cX8_tell 23 = .ok (.lookupswitch 67 #[(1, 25), (2, 40)], 25) := by decide +kernel
theorem dX8_tell_48 : decode cX8_tell 48 = .ok (.aload_n 0, 1) := by decide +kernel
theorem dX8_tell_49 : decode cX8_tell 49 = .ok (.iconst 2, 1) := by decide +kernel
theorem dX8_tell_50 : decode cX8_tell 50 = .ok (.invokevirtual 213, 3) := by decide +kernel
theorem dX8_tell_53 : decode cX8_tell 53 = .ok (.aload_n 0, 1) := by decide +kernel
theorem dX8_tell_54 : decode cX8_tell 54 = .ok (.iconst 1, 1) := by decide +kernel
theorem dX8_tell_55 : decode cX8_tell 55 = .ok (.invokevirtual 213, 3) := by decide +kernel
theorem dX8_tell_58 : decode cX8_tell 58 = .ok (.iload_n 2, 1) := by decide +kernel
theorem dX8_tell_59 : decode cX8_tell 59 = .ok (.bipush 100, 2) := by decide +kernel
theorem dX8_tell_61 : decode cX8_tell 61 = .ok (.iadd, 1) := by decide +kernel
theorem dX8_tell_62 : decode cX8_tell 62 = .ok (.ireturn, 1) := by decide +kernel
theorem dX8_tell_63 : decode cX8_tell 63 = .ok (.aload_n 0, 1) := by decide +kernel
theorem dX8_tell_64 : decode cX8_tell 64 = .ok (.iconst 3, 1) := by decide +kernel
theorem dX8_tell_65 : decode cX8_tell 65 = .ok (.invokevirtual 213, 3) := by decide +kernel
theorem dX8_tell_68 : decode cX8_tell 68 = .ok (.aload_n 0, 1) := by decide +kernel
theorem dX8_tell_69 : decode cX8_tell 69 = .ok (.iconst 2, 1) := by decide +kernel
theorem dX8_tell_70 : decode cX8_tell 70 = .ok (.invokevirtual 213, 3) := by decide +kernel
theorem dX8_tell_73 : decode cX8_tell 73 = .ok (.aload_n 0, 1) := by decide +kernel
theorem dX8_tell_74 : decode cX8_tell 74 = .ok (.iconst 1, 1) := by decide +kernel
theorem dX8_tell_75 : decode cX8_tell 75 = .ok (.invokevirtual 213, 3) := by decide +kernel
theorem dX8_tell_78 : decode cX8_tell 78 = .ok (.aload_n 0, 1) := by decide +kernel
theorem dX8_tell_79 : decode cX8_tell 79 = .ok (.iconst 1, 1) := by decide +kernel
theorem dX8_tell_80 : decode cX8_tell 80 = .ok (.invokevirtual 213, 3) := by decide +kernel
theorem dX8_tell_83 : decode cX8_tell 83 = .ok (.iconst 2, 1) := by decide +kernel
theorem dX8_tell_84 : decode cX8_tell 84 = .ok (.iload_n 2, 1) := by decide +kernel
theorem dX8_tell_85 : decode cX8_tell 85 = .ok (.imul, 1) := by decide +kernel
theorem dX8_tell_86 : decode cX8_tell 86 = .ok (.bipush 100, 2) := by decide +kernel
theorem dX8_tell_88 : decode cX8_tell 88 = .ok (.iadd, 1) := by decide +kernel
theorem dX8_tell_89 : decode cX8_tell 89 = .ok (.ireturn, 1) := by decide +kernel
theorem dX8_tell_90 : decode cX8_tell 90 = .ok (.aload_n 0, 1) := by decide +kernel
theorem dX8_tell_91 : decode cX8_tell 91 = .ok (.iconst 1, 1) := by decide +kernel
theorem dX8_tell_92 : decode cX8_tell 92 = .ok (.invokevirtual 213, 3) := by decide +kernel
theorem dX8_tell_95 : decode cX8_tell 95 = .ok (.iload_n 2, 1) := by decide +kernel
theorem dX8_tell_96 : decode cX8_tell 96 = .ok (.ireturn, 1) := by decide +kernel
set_option maxRecDepth 20000 in
theorem ggX8_announce_X8_isArticle : GoodIn wsX8_announce wsX8_isArticle := goodIn_r _ [6, 7, 13, 14, 15, 16, 17, 18, 19, 20, 21, 22, 23, 24, 25, 26, 27, 28, 29, 30, 31, 32, 33, 34, 35, 36, 37, 38, 39, 40, 41, 42, 43, 44] (by decide +kernel) (by decide +kernel)
set_option maxRecDepth 20000 in
theorem gX8_announce_X8_isArticle : GoodIn wsX8_announce (wsV RX8 142 RX8 yX8_isArticle wsX8_isArticle) := goodIn_app (goodIn_of _ (by decide +kernel)) ggX8_announce_X8_isArticle
set_option maxRecDepth 20000 in
theorem ggX8_announce_X8_begins : GoodIn wsX8_announce wsX8_begins := goodIn_r _ [11, 12, 13, 14, 15, 16, 17, 18, 19, 20, 21, 22, 23, 24, 25, 26, 27, 28, 29, 30, 31, 32, 33, 34, 35, 36, 37, 38, 39, 40, 41, 42, 43, 44] (by decide +kernel) (by decide +kernel)
set_option maxRecDepth 20000 in
theorem gX8_announce_X8_begins : GoodIn wsX8_announce (wsV RX8 213 RX8 yX8_begins wsX8_begins) := goodIn_app (goodIn_of _ (by decide +kernel)) ggX8_announce_X8_begins
theorem dX8_announce_0 : decode cX8_announce 0 = .ok (.aload_n 0, 1) := by decide +kernel
theorem dX8_announce_1 : decode cX8_announce 1 = .ok (.iload_n 1, 1) := by decide +kernel
theorem dX8_announce_2 : decode cX8_announce 2 = .ok (.invokevirtual 142, 3) := by decide +kernel
theorem dX8_announce_5 : decode cX8_announce 5 = .ok (.ifCond .ne 5, 3) := by decide +kernel
theorem dX8_announce_8 : decode cX8_announce 8 = .ok (.iconst (-1), 1) := by decide +kernel
theorem dX8_announce_9 : decode cX8_announce 9 = .ok (.ireturn, 1) := by decide +kernel
theorem dX8_announce_10 : decode cX8_announce 10 = .ok (.aload_n 0, 1) := by decide +kernel
theorem dX8_announce_11 : decode cX8_announce 11 = .ok (.aload_n 0, 1) := by decide +kernel
theorem dX8_announce_12 : decode cX8_announce 12 = .ok (.getfield 22, 3) := by decide +kernel
theorem dX8_announce_15 : decode cX8_announce 15 = .ok (.iload_n 1, 1) := by decide +kernel
theorem dX8_announce_16 : decode cX8_announce 16 = .ok (.iaload, 1) := by decide +kernel
theorem dX8_announce_17 : decode cX8_announce 17 = .ok (.iconst 2, 1) := by decide +kernel
theorem dX8_announce_18 : decode cX8_announce 18 = .ok (.if_icmp .ne 7, 3) := by decide +kernel
theorem dX8_announce_21 : decode cX8_announce 21 = .ok (.iconst 5, 1) := by decide +kernel
theorem dX8_announce_22 : decode cX8_announce 22 = .ok (.goto 4, 3) := by decide +kernel
theorem dX8_announce_25 : decode cX8_announce 25 = .ok (.iconst 4, 1) := by decide +kernel
theorem dX8_announce_26 : decode cX8_announce 26 = .ok (.invokevirtual 213, 3) := by decide +kernel
theorem dX8_announce_29 : decode cX8_announce 29 = .ok (.aload_n 0, 1) := by decide +kernel
theorem dX8_announce_30 : decode cX8_announce 30 = .ok (.getfield 22, 3) := by decide +kernel
theorem dX8_announce_33 : decode cX8_announce 33 = .ok (.iload_n 1, 1) := by decide +kernel
theorem dX8_announce_34 : decode cX8_announce 34 = .ok (.iaload, 1) := by decide +kernel
theorem dX8_announce_35 : decode cX8_announce 35 = .ok (.iconst 2, 1) := by decide +kernel
theorem dX8_announce_36 : decode cX8_announce 36 = .ok (.if_icmp .ne 8, 3) := by decide +kernel
theorem dX8_announce_39 : decode cX8_announce 39 = .ok (.bipush 80, 2) := by decide +kernel
theorem dX8_announce_41 : decode cX8_announce 41 = .ok (.goto 4, 3) := by decide +kernel
theorem dX8_announce_44 : decode cX8_announce 44 = .ok (.iload_n 1, 1) := by decide +kernel
theorem dX8_announce_45 : decode cX8_announce 45 = .ok (.ireturn, 1) := by decide +kernel
set_option maxRecDepth 20000 in
theorem ggX8_as_X8_isArticle : GoodIn wsX8_as wsX8_isArticle := goodIn_r _ [7, 8, 16, 17, 18, 19, 20, 21, 22, 23, 24, 25, 26, 27, 28, 29, 30, 31, 32, 33, 34, 35, 36, 37, 38, 39, 40, 41, 42, 43, 44, 45, 46, 47] (by decide +kernel) (by decide +kernel)
set_option maxRecDepth 20000 in
theorem gX8_as_X8_isArticle : GoodIn wsX8_as (wsV RX8 142 RX8 yX8_isArticle wsX8_isArticle) := goodIn_app (goodIn_of _ (by decide +kernel)) ggX8_as_X8_isArticle
set_option maxRecDepth 20000 in
theorem ggX8_as_X8_within : GoodIn wsX8_as wsX8_within := goodIn_r _ [11] (by decide +kernel) (by decide +kernel)
set_option maxRecDepth 20000 in
theorem gX8_as_X8_within : GoodIn wsX8_as (va_wsS RX8 70 yX8_within wsX8_within) := goodIn_app (goodIn_of _ (by decide +kernel)) ggX8_as_X8_within
set_option maxRecDepth 20000 in
theorem ggX8_as_X8_fails : GoodIn wsX8_as wsX8_fails := goodIn_r _ [15, 1, 16, 17, 18, 19, 20, 21, 22, 23, 24, 25, 26, 27, 28, 29, 30, 31, 32, 33, 34, 35, 36, 37, 38, 39, 40, 41, 42, 43, 44, 45, 46, 47] (by decide +kernel) (by decide +kernel)
set_option maxRecDepth 20000 in
theorem gX8_as_X8_fails : GoodIn wsX8_as (wsV RX8 94 RX8 yX8_fails wsX8_fails) := goodIn_app (goodIn_of _ (by decide +kernel)) ggX8_as_X8_fails
theorem dX8_as_0 : decode cX8_as 0 = .ok (.aload_n 0, 1) := by decide +kernel
theorem dX8_as_1 : decode cX8_as 1 = .ok (.iconst 0, 1) := by decide +kernel
theorem dX8_as_2 : decode cX8_as 2 = .ok (.putfield 64, 3) := by decide +kernel
theorem dX8_as_5 : decode cX8_as 5 = .ok (.aload_n 0, 1) := by decide +kernel
theorem dX8_as_6 : decode cX8_as 6 = .ok (.iload_n 1, 1) := by decide +kernel
theorem dX8_as_7 : decode cX8_as 7 = .ok (.invokevirtual 142, 3) := by decide +kernel
theorem dX8_as_10 : decode cX8_as 10 = .ok (.ifCond .ne 5, 3) := by decide +kernel
theorem dX8_as_13 : decode cX8_as 13 = .ok (.iconst (-1), 1) := by decide +kernel
theorem dX8_as_14 : decode cX8_as 14 = .ok (.ireturn, 1) := by decide +kernel
theorem dX8_as_15 : decode cX8_as 15 = .ok (.iload_n 2, 1) := by decide +kernel
theorem dX8_as_16 : decode cX8_as 16 = .ok (.iconst 0, 1) := by decide +kernel
theorem dX8_as_17 : decode cX8_as 17 = .ok (.iconst 2, 1) := by decide +kernel
theorem dX8_as_18 : decode cX8_as 18 = .ok (.invokestatic 70, 3) := by decide +kernel
theorem dX8_as_21 : decode cX8_as 21 = .ok (.ifCond .ne 6, 3) := by decide +kernel
theorem dX8_as_24 : decode cX8_as 24 = .ok (.bipush (-2), 2) := by decide +kernel
theorem dX8_as_26 : decode cX8_as 26 = .ok (.ireturn, 1) := by decide +kernel
theorem dX8_as_27 : decode cX8_as 27 = .ok (.aload_n 0, 1) := by decide +kernel
theorem dX8_as_28 : decode cX8_as 28 = .ok (.getfield 22, 3) := by decide +kernel
theorem dX8_as_31 : decode cX8_as 31 = .ok (.iload_n 1, 1) := by decide +kernel
theorem dX8_as_32 : decode cX8_as 32 = .ok (.iaload, 1) := by decide +kernel
theorem dX8_as_33 : decode cX8_as 33 = .ok (.iload_n 2, 1) := by decide +kernel
theorem dX8_as_34 : decode cX8_as 34 = .ok (.if_icmp .lt 7, 3) := by decide +kernel
theorem dX8_as_37 : decode cX8_as 37 = .ok (.iconst 1, 1) := by decide +kernel
theorem dX8_as_38 : decode cX8_as 38 = .ok (.goto 8, 3) := by decide +kernel
theorem dX8_as_41 : decode cX8_as 41 = .ok (.aload_n 0, 1) := by decide +kernel
theorem dX8_as_42 : decode cX8_as 42 = .ok (.iconst 2, 1) := by decide +kernel
theorem dX8_as_43 : decode cX8_as 43 = .ok (.invokevirtual 94, 3) := by decide +kernel
theorem dX8_as_46 : decode cX8_as 46 = .ok (.ireturn, 1) := by decide +kernel
theorem dX8_trace_0 : decode cX8_trace 0 = .ok (.aload_n 0, 1) := by decide +kernel
theorem dX8_trace_1 : decode cX8_trace 1 = .ok (.getfield 210, 3) := by decide +kernel
theorem dX8_trace_4 : decode cX8_trace 4 = .ok (.ireturn, 1) := by decide +kernel
theorem dX8_fault_0 : decode cX8_fault 0 = .ok (.aload_n 0, 1) := by decide +kernel
theorem dX8_fault_1 : decode cX8_fault 1 = .ok (.getfield 64, 3) := by decide +kernel
theorem dX8_fault_4 : decode cX8_fault 4 = .ok (.ireturn, 1) := by decide +kernel
set_option maxRecDepth 20000 in
theorem ggX8_many_X8_size : GoodIn wsX8_many wsX8_size := goodIn_r _ [9] (by decide +kernel) (by decide +kernel)
set_option maxRecDepth 20000 in
theorem gX8_many_X8_size : GoodIn wsX8_many (va_wsS RX8 176 yX8_size wsX8_size) := goodIn_app (goodIn_of _ (by decide +kernel)) ggX8_many_X8_size
theorem dX8_many_0 : decode cX8_many 0 = .ok (.iload_n 1, 1) := by decide +kernel
theorem dX8_many_1 : decode cX8_many 1 = .ok (.tableswitch 63 0 4 #[35, 40, 45, 53, 58], 35) := by decide +kernel
theorem dX8_many_36 : decode cX8_many 36 = .ok (.aload_n 0, 1) := by decide +kernel
theorem dX8_many_37 : decode cX8_many 37 = .ok (.getfield 74, 3) := by decide +kernel
theorem dX8_many_40 : decode cX8_many 40 = .ok (.ireturn, 1) := by decide +kernel
theorem dX8_many_41 : decode cX8_many 41 = .ok (.aload_n 0, 1) := by decide +kernel
theorem dX8_many_42 : decode cX8_many 42 = .ok (.getfield 77, 3) := by decide +kernel
theorem dX8_many_45 : decode cX8_many 45 = .ok (.ireturn, 1) := by decide +kernel
theorem dX8_many_46 : decode cX8_many 46 = .ok (.aload_n 0, 1) := by decide +kernel
theorem dX8_many_47 : decode cX8_many 47 = .ok (.getfield 116, 3) := by decide +kernel
theorem dX8_many_50 : decode cX8_many 50 = .ok (.invokestatic 176, 3) := by decide +kernel
theorem dX8_many_53 : decode cX8_many 53 = .ok (.ireturn, 1) := by decide +kernel
theorem dX8_many_54 : decode cX8_many 54 = .ok (.aload_n 0, 1) := by decide +kernel
theorem dX8_many_55 : decode cX8_many 55 = .ok (.getfield 107, 3) := by decide +kernel
theorem dX8_many_58 : decode cX8_many 58 = .ok (.ireturn, 1) := by decide +kernel
theorem dX8_many_59 : decode cX8_many 59 = .ok (.aload_n 0, 1) := by decide +kernel
theorem dX8_many_60 : decode cX8_many 60 = .ok (.getfield 119, 3) := by decide +kernel
theorem dX8_many_63 : decode cX8_many 63 = .ok (.ireturn, 1) := by decide +kernel
theorem dX8_many_64 : decode cX8_many 64 = .ok (.bipush (-2), 2) := by decide +kernel
theorem dX8_many_66 : decode cX8_many 66 = .ok (.ireturn, 1) := by decide +kernel
theorem dJ6_bitCount_0f7a4_0 : decode cJ6_bitCount_0f7a4 0 = .ok (.iload_n 0, 1) := by decide +kernel
theorem dJ6_bitCount_0f7a4_1 : decode cJ6_bitCount_0f7a4 1 = .ok (.iload_n 0, 1) := by decide +kernel
theorem dJ6_bitCount_0f7a4_2 : decode cJ6_bitCount_0f7a4 2 = .ok (.iconst 1, 1) := by decide +kernel
theorem dJ6_bitCount_0f7a4_3 : decode cJ6_bitCount_0f7a4 3 = .ok (.iushr, 1) := by decide +kernel
theorem dJ6_bitCount_0f7a4_4 : decode cJ6_bitCount_0f7a4 4 = .ok (.ldc_w 265, 3) := by decide +kernel
theorem dJ6_bitCount_0f7a4_7 : decode cJ6_bitCount_0f7a4 7 = .ok (.iand, 1) := by decide +kernel
theorem dJ6_bitCount_0f7a4_8 : decode cJ6_bitCount_0f7a4 8 = .ok (.isub, 1) := by decide +kernel
theorem dJ6_bitCount_0f7a4_9 : decode cJ6_bitCount_0f7a4 9 = .ok (.istore_n 0, 1) := by decide +kernel
theorem dJ6_bitCount_0f7a4_10 : decode cJ6_bitCount_0f7a4 10 = .ok (.iload_n 0, 1) := by decide +kernel
theorem dJ6_bitCount_0f7a4_11 : decode cJ6_bitCount_0f7a4 11 = .ok (.ldc_w 266, 3) := by decide +kernel
theorem dJ6_bitCount_0f7a4_14 : decode cJ6_bitCount_0f7a4 14 = .ok (.iand, 1) := by decide +kernel
theorem dJ6_bitCount_0f7a4_15 : decode cJ6_bitCount_0f7a4 15 = .ok (.iload_n 0, 1) := by decide +kernel
theorem dJ6_bitCount_0f7a4_16 : decode cJ6_bitCount_0f7a4 16 = .ok (.iconst 2, 1) := by decide +kernel
theorem dJ6_bitCount_0f7a4_17 : decode cJ6_bitCount_0f7a4 17 = .ok (.iushr, 1) := by decide +kernel
theorem dJ6_bitCount_0f7a4_18 : decode cJ6_bitCount_0f7a4 18 = .ok (.ldc_w 266, 3) := by decide +kernel
theorem dJ6_bitCount_0f7a4_21 : decode cJ6_bitCount_0f7a4 21 = .ok (.iand, 1) := by decide +kernel
theorem dJ6_bitCount_0f7a4_22 : decode cJ6_bitCount_0f7a4 22 = .ok (.iadd, 1) := by decide +kernel
theorem dJ6_bitCount_0f7a4_23 : decode cJ6_bitCount_0f7a4 23 = .ok (.istore_n 0, 1) := by decide +kernel
theorem dJ6_bitCount_0f7a4_24 : decode cJ6_bitCount_0f7a4 24 = .ok (.iload_n 0, 1) := by decide +kernel
theorem dJ6_bitCount_0f7a4_25 : decode cJ6_bitCount_0f7a4 25 = .ok (.iload_n 0, 1) := by decide +kernel
theorem dJ6_bitCount_0f7a4_26 : decode cJ6_bitCount_0f7a4 26 = .ok (.iconst 4, 1) := by decide +kernel
theorem dJ6_bitCount_0f7a4_27 : decode cJ6_bitCount_0f7a4 27 = .ok (.iushr, 1) := by decide +kernel
theorem dJ6_bitCount_0f7a4_28 : decode cJ6_bitCount_0f7a4 28 = .ok (.iadd, 1) := by decide +kernel
theorem dJ6_bitCount_0f7a4_29 : decode cJ6_bitCount_0f7a4 29 = .ok (.ldc_w 267, 3) := by decide +kernel
theorem dJ6_bitCount_0f7a4_32 : decode cJ6_bitCount_0f7a4 32 = .ok (.iand, 1) := by decide +kernel
theorem dJ6_bitCount_0f7a4_33 : decode cJ6_bitCount_0f7a4 33 = .ok (.istore_n 0, 1) := by decide +kernel
theorem dJ6_bitCount_0f7a4_34 : decode cJ6_bitCount_0f7a4 34 = .ok (.iload_n 0, 1) := by decide +kernel
theorem dJ6_bitCount_0f7a4_35 : decode cJ6_bitCount_0f7a4 35 = .ok (.iload_n 0, 1) := by decide +kernel
theorem dJ6_bitCount_0f7a4_36 : decode cJ6_bitCount_0f7a4 36 = .ok (.bipush 8, 2) := by decide +kernel
theorem dJ6_bitCount_0f7a4_38 : decode cJ6_bitCount_0f7a4 38 = .ok (.iushr, 1) := by decide +kernel
theorem dJ6_bitCount_0f7a4_39 : decode cJ6_bitCount_0f7a4 39 = .ok (.iadd, 1) := by decide +kernel
theorem dJ6_bitCount_0f7a4_40 : decode cJ6_bitCount_0f7a4 40 = .ok (.istore_n 0, 1) := by decide +kernel
theorem dJ6_bitCount_0f7a4_41 : decode cJ6_bitCount_0f7a4 41 = .ok (.iload_n 0, 1) := by decide +kernel
theorem dJ6_bitCount_0f7a4_42 : decode cJ6_bitCount_0f7a4 42 = .ok (.iload_n 0, 1) := by decide +kernel
theorem dJ6_bitCount_0f7a4_43 : decode cJ6_bitCount_0f7a4 43 = .ok (.bipush 16, 2) := by decide +kernel
theorem dJ6_bitCount_0f7a4_45 : decode cJ6_bitCount_0f7a4 45 = .ok (.iushr, 1) := by decide +kernel
theorem dJ6_bitCount_0f7a4_46 : decode cJ6_bitCount_0f7a4 46 = .ok (.iadd, 1) := by decide +kernel
theorem dJ6_bitCount_0f7a4_47 : decode cJ6_bitCount_0f7a4 47 = .ok (.istore_n 0, 1) := by decide +kernel
theorem dJ6_bitCount_0f7a4_48 : decode cJ6_bitCount_0f7a4 48 = .ok (.iload_n 0, 1) := by decide +kernel
theorem dJ6_bitCount_0f7a4_49 : decode cJ6_bitCount_0f7a4 49 = .ok (.bipush 63, 2) := by decide +kernel
theorem dJ6_bitCount_0f7a4_51 : decode cJ6_bitCount_0f7a4 51 = .ok (.iand, 1) := by decide +kernel
theorem dJ6_bitCount_0f7a4_52 : decode cJ6_bitCount_0f7a4 52 = .ok (.ireturn, 1) := by decide +kernel
theorem dJ9_abs_0f7a4_0 : decode cJ9_abs_0f7a4 0 = .ok (.iload_n 0, 1) := by decide +kernel
theorem dJ9_abs_0f7a4_1 : decode cJ9_abs_0f7a4 1 = .ok (.ifCond .ge 8, 3) := by decide +kernel
theorem dJ9_abs_0f7a4_4 : decode cJ9_abs_0f7a4 4 = .ok (.iload_n 0, 1) := by decide +kernel
theorem dJ9_abs_0f7a4_5 : decode cJ9_abs_0f7a4 5 = .ok (.ineg, 1) := by decide +kernel
theorem dJ9_abs_0f7a4_6 : decode cJ9_abs_0f7a4 6 = .ok (.goto 4, 3) := by decide +kernel
theorem dJ9_abs_0f7a4_9 : decode cJ9_abs_0f7a4 9 = .ok (.iload_n 0, 1) := by decide +kernel
theorem dJ9_abs_0f7a4_10 : decode cJ9_abs_0f7a4 10 = .ok (.ireturn, 1) := by decide +kernel
theorem dJ9_max_7cf53_0 : decode cJ9_max_7cf53 0 = .ok (.iload_n 0, 1) := by decide +kernel
theorem dJ9_max_7cf53_1 : decode cJ9_max_7cf53 1 = .ok (.iload_n 1, 1) := by decide +kernel
theorem dJ9_max_7cf53_2 : decode cJ9_max_7cf53 2 = .ok (.if_icmp .lt 7, 3) := by decide +kernel
theorem dJ9_max_7cf53_5 : decode cJ9_max_7cf53 5 = .ok (.iload_n 0, 1) := by decide +kernel
theorem dJ9_max_7cf53_6 : decode cJ9_max_7cf53 6 = .ok (.goto 4, 3) := by decide +kernel
theorem dJ9_max_7cf53_9 : decode cJ9_max_7cf53 9 = .ok (.iload_n 1, 1) := by decide +kernel
theorem dJ9_max_7cf53_10 : decode cJ9_max_7cf53 10 = .ok (.ireturn, 1) := by decide +kernel
theorem dJ9_min_7cf53_0 : decode cJ9_min_7cf53 0 = .ok (.iload_n 0, 1) := by decide +kernel
theorem dJ9_min_7cf53_1 : decode cJ9_min_7cf53 1 = .ok (.iload_n 1, 1) := by decide +kernel
theorem dJ9_min_7cf53_2 : decode cJ9_min_7cf53 2 = .ok (.if_icmp .gt 7, 3) := by decide +kernel
theorem dJ9_min_7cf53_5 : decode cJ9_min_7cf53 5 = .ok (.iload_n 0, 1) := by decide +kernel
theorem dJ9_min_7cf53_6 : decode cJ9_min_7cf53 6 = .ok (.goto 4, 3) := by decide +kernel
theorem dJ9_min_7cf53_9 : decode cJ9_min_7cf53 9 = .ok (.iload_n 1, 1) := by decide +kernel
theorem dJ9_min_7cf53_10 : decode cJ9_min_7cf53 10 = .ok (.ireturn, 1) := by decide +kernel
end
section
/-! my own rows over the kit: worlds by state functions, contracts that only read (QR) or change the state (QW) -/
abbrev ST : Type := (Nat → Int32) × (Nat → Nat → Int32)
def bI (b : Bool) : Int32 := if b = true then 1 else 0
theorem bI_f {b : Bool} (h : bI b = 0) : ¬ b = true := by
  intro hb
  rw [hb] at h
  exact absurd h (by decide)
theorem bI_t {b : Bool} (h : ¬ bI b = 0) : b = true := by
  cases b with
  | false => exact absurd rfl h
  | true => rfl
theorem bI_nar (b : Bool) : narrow .boolean (.int (bI b)) = .int (bI b) := by cases b <;> rfl
def inR (i : Int32) (N : Nat) : Bool := !(decide (i < 0) || decide (N ≤ i.toNatClampNeg))
theorem inR_vp {i : Int32} {N : Nat} (h : inR i N = true) : vp_in i N := by
  intro hc
  rcases hc with hc | hc <;> simp [inR, hc] at h
theorem inR_lt {i : Int32} {N : Nat} (h : inR i N = true) : i.toNatClampNeg < N := Nat.not_le.mp fun q => inR_vp h (Or.inr q)
theorem gd {α : Type} {b : Bool} {x : Option α} {y : α} (h : (if b = true then x else none) = some y) : b = true ∧ x = some y := by
  by_cases hb : b = true
  · rw [if_pos hb] at h; exact ⟨hb, h⟩
  · rw [if_neg hb] at h; cases h
theorem gn {α : Type} {c : Prop} [Decidable c] {x : Option α} {y : α} (h : (if c then none else x) = some y) : ¬ c ∧ x = some y := by
  by_cases hb : c
  · rw [if_pos hb] at h; cases h
  · rw [if_neg hb] at h; exact ⟨hb, h⟩
theorem bd {α β : Type} {x : Option α} {K : α → Option β} {y : β} (h : x.bind K = some y) : ∃ z, x = some z ∧ K z = some y := by
  cases x with
  | none => cases h
  | some z => exact ⟨z, rfl, h⟩
def cpOK (sp dp n : Int32) : Bool := decide (¬ sp < 0) && decide (¬ dp < 0) && decide (¬ n < 0) && decide (sp.toNatClampNeg + n.toNatClampNeg ≤ 60) && decide (dp.toNatClampNeg + n.toNatClampNeg ≤ 60)
/-- the links across the nest -/
def NW (U : State) : Prop := va_Nw (.methodLinkNest RX1 29 yX7_has "TrickHouse") U ∧ va_Nw (.methodLinkNest RX2 42 yX7_has "TrickHouse") U ∧ va_Nw (.methodLinkNest RX3 22 yX7_carried "TrickHouse") U ∧ va_Nw (.methodLinkNest RX5 92 yX7_within "TrickHouse") U ∧ va_Nw (.methodLinkNest RX6 27 yX7_within "TrickHouse") U ∧ va_Nw (.methodLinkNest RX6 45 yX7_has "TrickHouse") U ∧ va_Nw (.methodLinkNest RX1 17 yX0_init "TrickHouse") U
theorem NW.warm {s U : State} (hW : s.WarmedH U.vm) (h : NW s) : NW U := ⟨va_Nw.warmM hW h.1, va_Nw.warmM hW h.2.1, va_Nw.warmM hW h.2.2.1, va_Nw.warmM hW h.2.2.2.1, va_Nw.warmM hW h.2.2.2.2.1, va_Nw.warmM hW h.2.2.2.2.2.1, va_Nw.warmM hW h.2.2.2.2.2.2⟩
theorem NW.same {s U : State} (e : s.vm = U.vm) (h : NW s) : NW U := ⟨va_Nw.same rfl e h.1, va_Nw.same rfl e h.2.1, va_Nw.same rfl e h.2.2.1, va_Nw.same rfl e h.2.2.2.1, va_Nw.same rfl e h.2.2.2.2.1, va_Nw.same rfl e h.2.2.2.2.2.1, va_Nw.same rfl e h.2.2.2.2.2.2⟩
/-- the world ws, the array classes tys -/
def GW (D : va_G) (tys : List (ClassId × FieldType)) (ws : va_W) (A0 : Nat → Prop) (U : State) : Prop := va_P D vwCl ws U.heap ∧ va_K D vwCl tys U ∧ va_D A0 ws ∧ NW U
def IW (D : va_G) (ws : va_W) (A0 : Nat → Prop) (H0 H : Heap) (locs : List Loc) : Prop := va_P D vwCl ws H ∧ va_D A0 ws ∧ va_S A0 H0 H locs
def QR (res : Value) : Array Value → State → Outcome → State → Prop := fun _ st oc t => oc = .returned (some res) ∧ t.heap = st.heap
def QW (res : Option Value) (G : State → Prop) (A0 : Nat → Prop) : Array Value → State → Outcome → State → Prop := fun _ st oc t => oc = .returned res ∧ G t ∧ va_F A0 st t
theorem GW_blind {D : va_G} {tys : List (ClassId × FieldType)} {ws : va_W} {A0 : Nat → Prop} {av : List Value} : FrameBlind (va_Pc av (GW D tys ws A0)) := by
  intro a U g mk q
  obtain ⟨q0, qP, qK, qD, qN⟩ := q
  exact ⟨q0, qP, va_K.moved (u := U) (U := U.calling g mk a) (Vm.Alike.refl U.vm) qK, qD, NW.same (U := U.calling g mk a) rfl qN⟩
theorem NW_blind {av : List Value} : FrameBlind (va_Pc av NW) := by
  intro a U g mk q
  exact ⟨q.1, NW.same (U := U.calling g mk a) rfl q.2⟩
section BASE
variable {p : Program} {l : Launch} {e : Env} {R : Room} {s : State} {m : MethodId} {args : Array Value} {below : List Frame} {meth : Method} {c : Code} {H : Heap} {locs : List Loc} {cells slots : Nat} {Q : State → Prop}
variable {cc : ByteArray} {pc : Nat} {ls : Array Slot} {rest st0 : List Value} {D : va_G} {A0 : Nat → Prop} {tys : List (ClassId × FieldType)} {ws0 : va_W} {H0 : Heap}
variable {y : MethodName} {bytes : ByteArray} {maxL nL n index : Nat} {ret : Option FieldType} {ws : List Cond} {rm : Room} {Ts : List Cond} {own C host : String} {b : Addr} {As : List Value}
theorem GW_of (hI : IW D ws0 A0 H0 H locs) (hK : va_K D vwCl tys s) (hN : NW s) {av : List Value} : ∀ U : State, U.heap = H → s.WarmedH U.vm → va_Pc av (GW D tys ws0 A0) av.toArray U := fun U hU hW => ⟨rfl, by rw [hU]; exact hI.1, va_K.moved hW.alike hK, hI.2.1, NW.warm hW hN⟩
theorem NW_of (hN : NW s) {av : List Value} : ∀ U : State, U.heap = H → s.WarmedH U.vm → va_Pc av NW av.toArray U := fun U _ hW => ⟨rfl, NW.warm hW hN⟩
theorem run_ro {res : Value} {free : Addr → Prop} {a : Array Value} (hfree : ∀ q, ¬ free q) (hr : va_Run p l e R s m args below meth c H locs cells slots 0 0 (F0 m pc ls st0) rest (QR res a) free)
    (kk : W p l e R s m args below meth c H locs cells slots Q (F0 m (pc + 3) ls (res :: rest))) : W p l e R s m args below meth c H locs cells slots Q (F0 m pc ls st0) := by
  intro T hT X
  obtain ⟨v, st₀, t, T', L, h0, X', hL, e1, e2, ⟨hv, hh⟩, st⟩ := hr T hT X
  cases hv
  have hL0 : L = [] := by
    cases L with
    | nil => rfl
    | cons q L => exact absurd (hL q List.mem_cons_self) (hfree _)
  subst hL0
  rw [List.append_nil] at X'
  obtain ⟨t2, a1, b1⟩ := kk T' (by rw [e1, hh, h0]) X'
  exact ⟨t2, st t2 a1, b1⟩
theorem run_rw {res : Option Value} {ws1 : va_W} {a : Array Value} (hr : va_Run p l e R s m args below meth c H locs cells slots 0 0 (F0 m pc ls st0) rest (QW res (GW D tys ws1 A0) A0 a) A0) (hI : IW D ws0 A0 H0 H locs)
    (kk : ∀ (H1 : Heap) (locs1 : List Loc), IW D ws1 A0 H0 H1 locs1 → W p l e R s m args below meth c H1 locs1 cells slots Q (F0 m (pc + 3) ls (res.toList ++ rest))) : W p l e R s m args below meth c H locs cells slots Q (F0 m pc ls st0) := by
  intro T hT X
  obtain ⟨v, st₀, t, T', L, h0, X', hL, e1, e2, ⟨hv, hG, hF⟩, st⟩ := hr T hT X
  cases hv
  obtain ⟨hP1, hK1, hD1, hN1⟩ := hG
  obtain ⟨hz, hk⟩ := hF
  rw [h0] at hz hk
  have hS := hI.2.2
  obtain ⟨t2, a1, b1⟩ := kk T'.heap (locs ++ L) ⟨by rw [e1]; exact hP1, hD1, Nat.le_trans hS.1 (by rw [e1]; exact hz), fun q h1 h2 => by rw [e1, hk q (Nat.lt_of_lt_of_le h1 hS.1) h2]; exact hS.2.1 q h1 h2, fun q hq => by
    rcases List.mem_append.mp hq with h | h
    · exact hS.2.2 q h
    · exact hL q h⟩ T' rfl X'
  exact ⟨t2, st t2 a1, b1⟩
theorem ro_v {res : Value} (S : CallFix p m c cc nL s args Ts own) (hM : Met l y ws rm (va_Pc (.ref b :: As) (GW D tys ws0 A0)) (QR res) 0 0 (fun _ => False)) (cw : CallW R s args own C index y bytes maxL ret ws rm 0 0 n) (hI : IW D ws0 A0 H0 H locs) (hK : va_K D vwCl tys s) (hN : NW s)
    {ci q0 : Nat} {q : vw_C} {fs : List Value} (hc : vwCl[ci]? = some q) (he : ws0[q0]? = some (b, .inr (ci, fs))) (hCq : q.1 = C) (hn : As.length = n) (hsize : ls.size = nL) (hstack : st0 = As.reverse ++ .ref b :: rest) (hW : (rest.map fun v => v.category).sum ≤ 8) (hdg : decode cc pc = .ok (.invokevirtual index, 3)) (hf : cells ≤ R.cells ∧ slots ≤ R.slots)
    (kk : W p l e R s m args below meth c H locs cells slots Q (F0 m (pc + 3) ls (res :: rest))) : W p l e R s m args below meth c H locs cells slots Q (F0 m pc ls st0) := by
  subst hCq
  exact run_ro (fun _ h => h) (va_runV S hM cw ⟨GW_blind, va_recv hK hI.1 hc he, GW_of hI hK hN⟩ rfl hn hsize hstack (lv_room hW) hdg hf) kk
theorem rw_v {res : Option Value} {ws1 : va_W} (S : CallFix p m c cc nL s args Ts own) (hM : Met l y ws rm (va_Pc (.ref b :: As) (GW D tys ws0 A0)) (QW res (GW D tys ws1 A0) A0) 0 0 A0) (cw : CallW R s args own C index y bytes maxL ret ws rm 0 0 n) (hI : IW D ws0 A0 H0 H locs) (hK : va_K D vwCl tys s) (hN : NW s)
    {ci q0 : Nat} {q : vw_C} {fs : List Value} (hc : vwCl[ci]? = some q) (he : ws0[q0]? = some (b, .inr (ci, fs))) (hCq : q.1 = C) (hn : As.length = n) (hsize : ls.size = nL) (hstack : st0 = As.reverse ++ .ref b :: rest) (hW : (rest.map fun v => v.category).sum ≤ 8) (hdg : decode cc pc = .ok (.invokevirtual index, 3)) (hf : cells ≤ R.cells ∧ slots ≤ R.slots)
    (kk : ∀ (H1 : Heap) (locs1 : List Loc), IW D ws1 A0 H0 H1 locs1 → W p l e R s m args below meth c H1 locs1 cells slots Q (F0 m (pc + 3) ls (res.toList ++ rest))) : W p l e R s m args below meth c H locs cells slots Q (F0 m pc ls st0) := by
  subst hCq
  exact run_rw (va_runV S hM cw ⟨GW_blind, va_recv hK hI.1 hc he, GW_of hI hK hN⟩ rfl hn hsize hstack (lv_room hW) hdg hf) hI kk
theorem ro_s {res : Value} (S : CallFix p m c cc nL s args Ts own) (hM : Met l y ws rm (va_Pc As (GW D tys ws0 A0)) (QR res) 0 0 (fun _ => False)) (cw : CallB R s args own index y bytes maxL ret ws rm 0 0 n ∧ (Cond.static y).before args s = true) (hI : IW D ws0 A0 H0 H locs) (hK : va_K D vwCl tys s) (hN : NW s)
    (hn : As.length = n) (hsize : ls.size = nL) (hstack : st0 = As.reverse ++ rest) (hW : (rest.map fun v => v.category).sum ≤ 8) (hdg : decode cc pc = .ok (.invokestatic index, 3)) (hf : cells ≤ R.cells ∧ slots ≤ R.slots)
    (kk : W p l e R s m args below meth c H locs cells slots Q (F0 m (pc + 3) ls (res :: rest))) : W p l e R s m args below meth c H locs cells slots Q (F0 m pc ls st0) :=
  run_ro (fun _ h => h) (va_runS S hM cw ⟨GW_blind, GW_of hI hK hN⟩ rfl hn hsize hstack (lv_room hW) hdg hf) kk
theorem rw_s {res : Option Value} {ws1 : va_W} (S : CallFix p m c cc nL s args Ts own) (hM : Met l y ws rm (va_Pc As (GW D tys ws0 A0)) (QW res (GW D tys ws1 A0) A0) 0 0 A0) (cw : CallB R s args own index y bytes maxL ret ws rm 0 0 n ∧ (Cond.static y).before args s = true) (hI : IW D ws0 A0 H0 H locs) (hK : va_K D vwCl tys s) (hN : NW s)
    (hn : As.length = n) (hsize : ls.size = nL) (hstack : st0 = As.reverse ++ rest) (hW : (rest.map fun v => v.category).sum ≤ 8) (hdg : decode cc pc = .ok (.invokestatic index, 3)) (hf : cells ≤ R.cells ∧ slots ≤ R.slots)
    (kk : ∀ (H1 : Heap) (locs1 : List Loc), IW D ws1 A0 H0 H1 locs1 → W p l e R s m args below meth c H1 locs1 cells slots Q (F0 m (pc + 3) ls (res.toList ++ rest))) : W p l e R s m args below meth c H locs cells slots Q (F0 m pc ls st0) :=
  run_rw (va_runS S hM cw ⟨GW_blind, GW_of hI hK hN⟩ rfl hn hsize hstack (lv_room hW) hdg hf) hI kk
/-- a static method that reads no cell -/
theorem pu_s {res : Value} (S : CallFix p m c cc nL s args Ts own) (hM : Met l y ws rm (va_Pc As NW) (QR res) 0 0 (fun _ => False)) (cw : CallB R s args own index y bytes maxL ret ws rm 0 0 n ∧ (Cond.static y).before args s = true) (hN : NW s)
    (hn : As.length = n) (hsize : ls.size = nL) (hstack : st0 = As.reverse ++ rest) (hW : (rest.map fun v => v.category).sum ≤ 8) (hdg : decode cc pc = .ok (.invokestatic index, 3)) (hf : cells ≤ R.cells ∧ slots ≤ R.slots)
    (kk : W p l e R s m args below meth c H locs cells slots Q (F0 m (pc + 3) ls (res :: rest))) : W p l e R s m args below meth c H locs cells slots Q (F0 m pc ls st0) :=
  run_ro (fun _ h => h) (va_runS S hM cw ⟨NW_blind, NW_of hN⟩ rfl hn hsize hstack (lv_room hW) hdg hf) kk
theorem pu_n {res : Value} (S : CallFix p m c cc nL s args Ts own) (hM : Met l y ws rm (va_Pc As NW) (QR res) 0 0 (fun _ => False)) (cw : va_CN R s args own index y host bytes maxL ret ws rm 0 0 n ∧ (Cond.static y).before args s = true ∧ True) (hN : NW s)
    (hn : As.length = n) (hsize : ls.size = nL) (hstack : st0 = As.reverse ++ rest) (hW : (rest.map fun v => v.category).sum ≤ 8) (hdg : decode cc pc = .ok (.invokestatic index, 3)) (hf : cells ≤ R.cells ∧ slots ≤ R.slots)
    (kk : W p l e R s m args below meth c H locs cells slots Q (F0 m (pc + 3) ls (res :: rest))) : W p l e R s m args below meth c H locs cells slots Q (F0 m pc ls st0) :=
  run_ro (fun _ h => h) (va_runSN S hM cw ⟨NW_blind, NW_of hN⟩ rfl hn hsize hstack (lv_room hW) hdg hf) kk
theorem th_get (hexec : p.tables.exec = Jvm.exec) (hb : c.code = cc) {ref : String} {T : u_T} {N ci : Nat} {a : Nat} (hts : ∀ w ∈ Ts, w.before args s = true) (hin : ∀ w ∈ u_ws C T N, w ∈ Ts) (hown : s.vm.findClass own = some m.cls) (hK : va_K D vwCl tys s) (hI : IW D ws0 A0 H0 H locs) (q0 : Nat) {fs : List Value} (he : ws0[q0]? = some (a, .inr (ci, fs))) (hc : vwCl[ci]? = some (C, T, N)) (k : Nat) (hk : k < N) (hlink : (Cond.fieldLink own index ref (T k).2.1 (T k).2.2.1).before args s = true) (hsame : (T k).1 = ref) {v : Value} (hv : fs[k]? = some v) (hdg : decode cc pc = .ok (.getfield index, 3))
    (kk : W p l e R s m args below meth c H locs cells slots Q (F0 m (pc + 3) ls (v :: rest))) : W p l e R s m args below meth c H locs cells slots Q (F0 m pc ls (.ref a :: rest)) := by
  subst hsame
  exact va_get hexec hb hts hin hown hK hI.1 q0 he hc k hk hlink (fun _ h9 => h9) hv hdg kk
theorem th_put (hexec : p.tables.exec = Jvm.exec) (hb : c.code = cc) {ref : String} {T : u_T} {N ci : Nat} {a : Nat} {ws1 : va_W} (hts : ∀ w ∈ Ts, w.before args s = true) (hin : ∀ w ∈ u_ws C T N, w ∈ Ts) (ty0 : Nat → FieldType) (hty : ∀ k, k < N → parseFieldDescriptor (T k).2.2.1 = some (ty0 k)) (hnm : ∀ a, a < N → ∀ b, b < N → a ≠ b → (T a).2.1 ≠ (T b).2.1) (hown : s.vm.findClass own = some m.cls) (hK : va_K D vwCl tys s) (hI : IW D ws0 A0 H0 H locs) (q0 : Nat) {fs : List Value} (he : ws0[q0]? = some (a, .inr (ci, fs))) (hc : vwCl[ci]? = some (C, T, N)) (k : Nat) (hk : k < N) (hlink : (Cond.fieldLink own index ref (T k).2.1 (T k).2.2.1).before args s = true) (hsame : (T k).1 = ref) (hfin : (T k).2.2.2 = false) {x : Int32} (hd : parseFieldDescriptor (T k).2.2.1 = some .int) (hl : k < fs.length) (hset : ws0.set q0 (a, .inr (ci, fs.set k (.int x))) = ws1)
    (hdg : decode cc pc = .ok (.putfield index, 3)) (kk : ∀ (H1 : Heap) (locs1 : List Loc), IW D ws1 A0 H0 H1 locs1 → W p l e R s m args below meth c H1 locs1 cells slots Q (F0 m (pc + 3) ls rest)) : W p l e R s m args below meth c H locs cells slots Q (F0 m pc ls (.int x :: .ref a :: rest)) := by
  subst hsame
  subst hset
  exact va_put (v := .int x) hexec hb hts hin ty0 hty hnm hown hK hI.1 hI.2.1 hI.2.2 q0 he hc k hk hlink (fun _ h9 => h9) hfin hd rfl rfl hl hdg (fun H1 locs1 h1 h2 h3 => kk H1 locs1 ⟨h1, h2, h3⟩)
theorem th_ild (hexec : p.tables.exec = Jvm.exec) (hb : c.code = cc) {a : Nat} (hK : va_K D vwCl tys s) (hI : IW D ws0 A0 H0 H locs) (q0 t0 : Nat) {cA : ClassId} {N : Nat} {f : Nat → Int32} (ha : ws0[q0]? = some (a, .inl (cA, N, .inl f))) (ht : tys[t0]? = some (cA, .int)) {i : Int32} (hin : inR i N = true) (hdg : decode cc pc = .ok (.iaload, 1))
    (kk : W p l e R s m args below meth c H locs cells slots Q (F0 m (pc + 1) ls (.int (f i.toNatClampNeg) :: rest))) : W p l e R s m args below meth c H locs cells slots Q (F0 m pc ls (.int i :: .ref a :: rest)) :=
  va_iald hexec hb hK hI.1 q0 t0 ha ht (inR_vp hin) hdg kk
theorem th_ist (hexec : p.tables.exec = Jvm.exec) (hb : c.code = cc) {a : Nat} {ws1 : va_W} (hK : va_K D vwCl tys s) (hI : IW D ws0 A0 H0 H locs) (q0 t0 : Nat) {cA : ClassId} {N : Nat} {f : Nat → Int32} (ha : ws0[q0]? = some (a, .inl (cA, N, .inl f))) (ht : tys[t0]? = some (cA, .int)) {i x : Int32} (hin : inR i N = true) (hset : ws0.set q0 (a, .inl (cA, N, .inl (upd f i.toNatClampNeg x))) = ws1) (hdg : decode cc pc = .ok (.iastore, 1))
    (kk : ∀ (H1 : Heap) (locs1 : List Loc), IW D ws1 A0 H0 H1 locs1 → W p l e R s m args below meth c H1 locs1 cells slots Q (F0 m (pc + 1) ls rest)) : W p l e R s m args below meth c H locs cells slots Q (F0 m pc ls (.int x :: .int i :: .ref a :: rest)) := by
  subst hset
  exact va_iast hexec hb hK hI.1 hI.2.1 hI.2.2 q0 t0 ha ht (inR_vp hin) hdg (fun H1 locs1 h1 h2 h3 => kk H1 locs1 ⟨h1, h2, h3⟩)
theorem th_ald (hexec : p.tables.exec = Jvm.exec) (hb : c.code = cc) {a : Nat} (hK : va_K D vwCl tys s) (hI : IW D ws0 A0 H0 H locs) (q0 t0 : Nat) {cA : ClassId} {CC : String} {N : Nat} {f : Nat → Nat} (ha : ws0[q0]? = some (a, .inl (cA, N, .inr (.inr (.inr (.inr (fun k => some (f k)))))))) (ht : tys[t0]? = some (cA, .object CC)) {i : Int32} (hin : inR i N = true) (hdg : decode cc pc = .ok (.aaload, 1))
    (kk : W p l e R s m args below meth c H locs cells slots Q (F0 m (pc + 1) ls (.ref (f i.toNatClampNeg) :: rest))) : W p l e R s m args below meth c H locs cells slots Q (F0 m pc ls (.int i :: .ref a :: rest)) :=
  va_aldq hexec hb hK hI.1 q0 t0 ha ht (inR_vp hin) hdg kk
end BASE
abbrev tyC (cy : Nat → ClassId) : List (ClassId × FieldType) := [(cy 0, .int), (cy 1, .object "TrickHouse$Article"), (cy 2, .object "TrickHouse$Sheet")]
abbrev tyM (cy : Nat → ClassId) : List (ClassId × FieldType) := tyC cy
def pcC (cy : Nat → ClassId) (A : Nat → Nat) (v : Nat → Int32) (r : Nat → Nat → Int32) : va_W := [(A 0, .inr (6, [.ref (A 1), .ref (A 4), .ref (A 7), .ref (A 11), .ref (A 12), .int (v 0), .int (v 1)])), (A 1, .inr (1, [.ref (A 2), .ref (A 3), .int (v 2), .int (v 3), .int (v 4), .int (v 5)])), (A 2, .inl (cy 1, 6, .inr (.inr (.inr (.inr (fun k => some (A (13 + k)))))))), (A 3, .inl (cy 0, 4, .inl (r 4))), (A 4, .inr (3, [.ref (A 5), .ref (A 6), .int (v 6)])), (A 5, .inl (cy 0, 8, .inl (r 5))), (A 6, .inl (cy 0, 8, .inl (r 6))), (A 7, .inr (2, [.ref (A 1), .ref (A 8), .ref (A 9), .ref (A 10), .int (v 7)])), (A 8, .inl (cy 0, 4, .inl (r 7))), (A 9, .inl (cy 0, 6, .inl (r 8))), (A 10, .inl (cy 0, 6, .inl (r 9))), (A 11, .inr (5, [.ref (A 1), .int (v 8), .int (v 9), .int (v 10), .int (v 11)])), (A 12, .inl (cy 2, 4, .inr (.inr (.inr (.inr (fun k => some (A (19 + k)))))))), (A 13, .inr (0, [.int (r 0 0), .int (r 1 0), .int (r 2 0), .int (r 3 0)])), (A 14, .inr (0, [.int (r 0 1), .int (r 1 1), .int (r 2 1), .int (r 3 1)])), (A 15, .inr (0, [.int (r 0 2), .int (r 1 2), .int (r 2 2), .int (r 3 2)])), (A 16, .inr (0, [.int (r 0 3), .int (r 1 3), .int (r 2 3), .int (r 3 3)])), (A 17, .inr (0, [.int (r 0 4), .int (r 1 4), .int (r 2 4), .int (r 3 4)])), (A 18, .inr (0, [.int (r 0 5), .int (r 1 5), .int (r 2 5), .int (r 3 5)])), (A 19, .inr (4, [.ref (A 23), .int (r 10 0), .int (r 11 0)])), (A 20, .inr (4, [.ref (A 24), .int (r 10 1), .int (r 11 1)])), (A 21, .inr (4, [.ref (A 25), .int (r 10 2), .int (r 11 2)])), (A 22, .inr (4, [.ref (A 26), .int (r 10 3), .int (r 11 3)])), (A 23, .inl (cy 0, 60, .inl (r 12))), (A 24, .inl (cy 0, 60, .inl (r 13))), (A 25, .inl (cy 0, 60, .inl (r 14))), (A 26, .inl (cy 0, 60, .inl (r 15)))]
def pcM (cy : Nat → ClassId) (A : Nat → Nat) (v : Nat → Int32) (r : Nat → Nat → Int32) : va_W := [(A 0, .inr (7, [.int (v 0), .int (v 1), .ref (A 1), .ref (A 2), .ref (A 3), .int (v 2), .int (v 3), .int (v 4), .int (v 5), .ref (A 4), .ref (A 5), .ref (A 6), .ref (A 7), .ref (A 8), .int (v 6), .int (v 7), .int (v 8), .int (v 9), .ref (A 9), .ref (A 10), .ref (A 11), .ref (A 12), .ref (A 13), .int (v 10), .int (v 11), .ref (A 14), .ref (A 15), .ref (A 16), .int (v 12), .int (v 13), .ref (A 17), .ref (A 18)])), (A 1, .inl (cy 0, 4, .inl (r 0))), (A 2, .inl (cy 0, 4, .inl (r 1))), (A 3, .inl (cy 0, 240, .inl (r 2))), (A 4, .inl (cy 0, 4, .inl (r 3))), (A 5, .inl (cy 0, 6, .inl (r 4))), (A 6, .inl (cy 0, 6, .inl (r 5))), (A 7, .inl (cy 0, 6, .inl (r 6))), (A 8, .inl (cy 0, 6, .inl (r 7))), (A 9, .inl (cy 0, 4, .inl (r 8))), (A 10, .inl (cy 0, 6, .inl (r 9))), (A 11, .inl (cy 0, 6, .inl (r 10))), (A 12, .inl (cy 0, 6, .inl (r 11))), (A 13, .inl (cy 0, 6, .inl (r 12))), (A 14, .inl (cy 0, 6, .inl (r 13))), (A 15, .inl (cy 0, 6, .inl (r 14))), (A 16, .inl (cy 0, 4, .inl (r 15))), (A 17, .inl (cy 0, 8, .inl (r 16))), (A 18, .inl (cy 0, 8, .inl (r 17)))]
theorem atC_0 {cy : Nat → ClassId} {A : Nat → Nat} {v : Nat → Int32} {r : Nat → Nat → Int32} {X : va_W} : (pcC cy A v r ++ X)[0]? = some (A 0, .inr (6, [.ref (A 1), .ref (A 4), .ref (A 7), .ref (A 11), .ref (A 12), .int (v 0), .int (v 1)])) := rfl
theorem atC_1 {cy : Nat → ClassId} {A : Nat → Nat} {v : Nat → Int32} {r : Nat → Nat → Int32} {X : va_W} : (pcC cy A v r ++ X)[1]? = some (A 1, .inr (1, [.ref (A 2), .ref (A 3), .int (v 2), .int (v 3), .int (v 4), .int (v 5)])) := rfl
theorem atC_4 {cy : Nat → ClassId} {A : Nat → Nat} {v : Nat → Int32} {r : Nat → Nat → Int32} {X : va_W} : (pcC cy A v r ++ X)[4]? = some (A 4, .inr (3, [.ref (A 5), .ref (A 6), .int (v 6)])) := rfl
theorem atC_7 {cy : Nat → ClassId} {A : Nat → Nat} {v : Nat → Int32} {r : Nat → Nat → Int32} {X : va_W} : (pcC cy A v r ++ X)[7]? = some (A 7, .inr (2, [.ref (A 1), .ref (A 8), .ref (A 9), .ref (A 10), .int (v 7)])) := rfl
theorem atC_11 {cy : Nat → ClassId} {A : Nat → Nat} {v : Nat → Int32} {r : Nat → Nat → Int32} {X : va_W} : (pcC cy A v r ++ X)[11]? = some (A 11, .inr (5, [.ref (A 1), .int (v 8), .int (v 9), .int (v 10), .int (v 11)])) := rfl
theorem atM_0 {cy : Nat → ClassId} {A : Nat → Nat} {v : Nat → Int32} {r : Nat → Nat → Int32} {X : va_W} : (pcM cy A v r ++ X)[0]? = some (A 0, .inr (7, [.int (v 0), .int (v 1), .ref (A 1), .ref (A 2), .ref (A 3), .int (v 2), .int (v 3), .int (v 4), .int (v 5), .ref (A 4), .ref (A 5), .ref (A 6), .ref (A 7), .ref (A 8), .int (v 6), .int (v 7), .int (v 8), .int (v 9), .ref (A 9), .ref (A 10), .ref (A 11), .ref (A 12), .ref (A 13), .int (v 10), .int (v 11), .ref (A 14), .ref (A 15), .ref (A 16), .int (v 12), .int (v 13), .ref (A 17), .ref (A 18)])) := rfl
theorem atC_art {cy : Nat → ClassId} {A : Nat → Nat} {v : Nat → Int32} {r : Nat → Nat → Int32} {X : va_W} {k : Nat} (hk : k < 6) : (pcC cy A v r ++ X)[13 + k]? = some (A (13 + k), .inr (0, [.int (r 0 k), .int (r 1 k), .int (r 2 k), .int (r 3 k)])) := by
  match k, hk with
  | 0, _ => rfl
  | 1, _ => rfl
  | 2, _ => rfl
  | 3, _ => rfl
  | 4, _ => rfl
  | 5, _ => rfl
  | k + 6, h => exact absurd h (by omega)
theorem atC_sh {cy : Nat → ClassId} {A : Nat → Nat} {v : Nat → Int32} {r : Nat → Nat → Int32} {X : va_W} {k : Nat} (hk : k < 4) : (pcC cy A v r ++ X)[19 + k]? = some (A (19 + k), .inr (4, [.ref (A (23 + k)), .int (r 10 k), .int (r 11 k)])) := by
  match k, hk with
  | 0, _ => rfl
  | 1, _ => rfl
  | 2, _ => rfl
  | 3, _ => rfl
  | k + 4, h => exact absurd h (by omega)
theorem atC_cells {cy : Nat → ClassId} {A : Nat → Nat} {v : Nat → Int32} {r : Nat → Nat → Int32} {X : va_W} {k : Nat} (hk : k < 4) : (pcC cy A v r ++ X)[23 + k]? = some (A (23 + k), .inl (cy 0, 60, .inl (r (12 + k)))) := by
  match k, hk with
  | 0, _ => rfl
  | 1, _ => rfl
  | 2, _ => rfl
  | 3, _ => rfl
  | k + 4, h => exact absurd h (by omega)
theorem stC_r4 {cy : Nat → ClassId} {A : Nat → Nat} {v : Nat → Int32} {r : Nat → Nat → Int32} {X : va_W} {f : Nat → Int32} : (pcC cy A v r ++ X).set 3 (A 3, .inl (cy 0, 4, .inl f)) = pcC cy A v (va_up r 4 f) ++ X := rfl
theorem stC_r5 {cy : Nat → ClassId} {A : Nat → Nat} {v : Nat → Int32} {r : Nat → Nat → Int32} {X : va_W} {f : Nat → Int32} : (pcC cy A v r ++ X).set 5 (A 5, .inl (cy 0, 8, .inl f)) = pcC cy A v (va_up r 5 f) ++ X := rfl
theorem stC_r6 {cy : Nat → ClassId} {A : Nat → Nat} {v : Nat → Int32} {r : Nat → Nat → Int32} {X : va_W} {f : Nat → Int32} : (pcC cy A v r ++ X).set 6 (A 6, .inl (cy 0, 8, .inl f)) = pcC cy A v (va_up r 6 f) ++ X := rfl
theorem stC_r7 {cy : Nat → ClassId} {A : Nat → Nat} {v : Nat → Int32} {r : Nat → Nat → Int32} {X : va_W} {f : Nat → Int32} : (pcC cy A v r ++ X).set 8 (A 8, .inl (cy 0, 4, .inl f)) = pcC cy A v (va_up r 7 f) ++ X := rfl
theorem stC_r8 {cy : Nat → ClassId} {A : Nat → Nat} {v : Nat → Int32} {r : Nat → Nat → Int32} {X : va_W} {f : Nat → Int32} : (pcC cy A v r ++ X).set 9 (A 9, .inl (cy 0, 6, .inl f)) = pcC cy A v (va_up r 8 f) ++ X := rfl
theorem stC_r9 {cy : Nat → ClassId} {A : Nat → Nat} {v : Nat → Int32} {r : Nat → Nat → Int32} {X : va_W} {f : Nat → Int32} : (pcC cy A v r ++ X).set 10 (A 10, .inl (cy 0, 6, .inl f)) = pcC cy A v (va_up r 9 f) ++ X := rfl
theorem stC_cells {cy : Nat → ClassId} {A : Nat → Nat} {v : Nat → Int32} {r : Nat → Nat → Int32} {X : va_W} {f : Nat → Int32} {k : Nat} (hk : k < 4) : (pcC cy A v r ++ X).set (23 + k) (A (23 + k), .inl (cy 0, 60, .inl f)) = pcC cy A v (va_up r (12 + k) f) ++ X := by
  match k, hk with
  | 0, _ => rfl
  | 1, _ => rfl
  | 2, _ => rfl
  | 3, _ => rfl
  | k + 4, h => exact absurd h (by omega)
theorem stM_r1 {cy : Nat → ClassId} {A : Nat → Nat} {v : Nat → Int32} {r : Nat → Nat → Int32} {X : va_W} {f : Nat → Int32} : (pcM cy A v r ++ X).set 1 (A 1, .inl (cy 0, 4, .inl f)) = pcM cy A v (va_up r 0 f) ++ X := rfl
theorem stM_r2 {cy : Nat → ClassId} {A : Nat → Nat} {v : Nat → Int32} {r : Nat → Nat → Int32} {X : va_W} {f : Nat → Int32} : (pcM cy A v r ++ X).set 2 (A 2, .inl (cy 0, 4, .inl f)) = pcM cy A v (va_up r 1 f) ++ X := rfl
theorem stM_r3 {cy : Nat → ClassId} {A : Nat → Nat} {v : Nat → Int32} {r : Nat → Nat → Int32} {X : va_W} {f : Nat → Int32} : (pcM cy A v r ++ X).set 3 (A 3, .inl (cy 0, 240, .inl f)) = pcM cy A v (va_up r 2 f) ++ X := rfl
theorem stM_r4 {cy : Nat → ClassId} {A : Nat → Nat} {v : Nat → Int32} {r : Nat → Nat → Int32} {X : va_W} {f : Nat → Int32} : (pcM cy A v r ++ X).set 4 (A 4, .inl (cy 0, 4, .inl f)) = pcM cy A v (va_up r 3 f) ++ X := rfl
theorem stM_r5 {cy : Nat → ClassId} {A : Nat → Nat} {v : Nat → Int32} {r : Nat → Nat → Int32} {X : va_W} {f : Nat → Int32} : (pcM cy A v r ++ X).set 5 (A 5, .inl (cy 0, 6, .inl f)) = pcM cy A v (va_up r 4 f) ++ X := rfl
theorem stM_r6 {cy : Nat → ClassId} {A : Nat → Nat} {v : Nat → Int32} {r : Nat → Nat → Int32} {X : va_W} {f : Nat → Int32} : (pcM cy A v r ++ X).set 6 (A 6, .inl (cy 0, 6, .inl f)) = pcM cy A v (va_up r 5 f) ++ X := rfl
theorem stM_r7 {cy : Nat → ClassId} {A : Nat → Nat} {v : Nat → Int32} {r : Nat → Nat → Int32} {X : va_W} {f : Nat → Int32} : (pcM cy A v r ++ X).set 7 (A 7, .inl (cy 0, 6, .inl f)) = pcM cy A v (va_up r 6 f) ++ X := rfl
theorem stM_r8 {cy : Nat → ClassId} {A : Nat → Nat} {v : Nat → Int32} {r : Nat → Nat → Int32} {X : va_W} {f : Nat → Int32} : (pcM cy A v r ++ X).set 8 (A 8, .inl (cy 0, 6, .inl f)) = pcM cy A v (va_up r 7 f) ++ X := rfl
theorem stM_r9 {cy : Nat → ClassId} {A : Nat → Nat} {v : Nat → Int32} {r : Nat → Nat → Int32} {X : va_W} {f : Nat → Int32} : (pcM cy A v r ++ X).set 9 (A 9, .inl (cy 0, 4, .inl f)) = pcM cy A v (va_up r 8 f) ++ X := rfl
theorem stM_r10 {cy : Nat → ClassId} {A : Nat → Nat} {v : Nat → Int32} {r : Nat → Nat → Int32} {X : va_W} {f : Nat → Int32} : (pcM cy A v r ++ X).set 10 (A 10, .inl (cy 0, 6, .inl f)) = pcM cy A v (va_up r 9 f) ++ X := rfl
theorem stM_r11 {cy : Nat → ClassId} {A : Nat → Nat} {v : Nat → Int32} {r : Nat → Nat → Int32} {X : va_W} {f : Nat → Int32} : (pcM cy A v r ++ X).set 11 (A 11, .inl (cy 0, 6, .inl f)) = pcM cy A v (va_up r 10 f) ++ X := rfl
theorem stM_r12 {cy : Nat → ClassId} {A : Nat → Nat} {v : Nat → Int32} {r : Nat → Nat → Int32} {X : va_W} {f : Nat → Int32} : (pcM cy A v r ++ X).set 12 (A 12, .inl (cy 0, 6, .inl f)) = pcM cy A v (va_up r 11 f) ++ X := rfl
theorem stM_r13 {cy : Nat → ClassId} {A : Nat → Nat} {v : Nat → Int32} {r : Nat → Nat → Int32} {X : va_W} {f : Nat → Int32} : (pcM cy A v r ++ X).set 13 (A 13, .inl (cy 0, 6, .inl f)) = pcM cy A v (va_up r 12 f) ++ X := rfl
theorem stM_r14 {cy : Nat → ClassId} {A : Nat → Nat} {v : Nat → Int32} {r : Nat → Nat → Int32} {X : va_W} {f : Nat → Int32} : (pcM cy A v r ++ X).set 14 (A 14, .inl (cy 0, 6, .inl f)) = pcM cy A v (va_up r 13 f) ++ X := rfl
theorem stM_r15 {cy : Nat → ClassId} {A : Nat → Nat} {v : Nat → Int32} {r : Nat → Nat → Int32} {X : va_W} {f : Nat → Int32} : (pcM cy A v r ++ X).set 15 (A 15, .inl (cy 0, 6, .inl f)) = pcM cy A v (va_up r 14 f) ++ X := rfl
theorem stM_r16 {cy : Nat → ClassId} {A : Nat → Nat} {v : Nat → Int32} {r : Nat → Nat → Int32} {X : va_W} {f : Nat → Int32} : (pcM cy A v r ++ X).set 16 (A 16, .inl (cy 0, 4, .inl f)) = pcM cy A v (va_up r 15 f) ++ X := rfl
theorem stM_r17 {cy : Nat → ClassId} {A : Nat → Nat} {v : Nat → Int32} {r : Nat → Nat → Int32} {X : va_W} {f : Nat → Int32} : (pcM cy A v r ++ X).set 17 (A 17, .inl (cy 0, 8, .inl f)) = pcM cy A v (va_up r 16 f) ++ X := rfl
theorem stM_r18 {cy : Nat → ClassId} {A : Nat → Nat} {v : Nat → Int32} {r : Nat → Nat → Int32} {X : va_W} {f : Nat → Int32} : (pcM cy A v r ++ X).set 18 (A 18, .inl (cy 0, 8, .inl f)) = pcM cy A v (va_up r 17 f) ++ X := rfl
theorem stC_X0_kind {cy : Nat → ClassId} {A : Nat → Nat} {v : Nat → Int32} {r : Nat → Nat → Int32} {X : va_W} {k : Nat} (hk : k < 6) {x : Int32} : (pcC cy A v r ++ X).set (13 + k) (A (13 + k), .inr (0, ([.int (r 0 k), .int (r 1 k), .int (r 2 k), .int (r 3 k)] : List Value).set 0 (.int x))) = pcC cy A v (va_up r 0 (upd (r 0) k x)) ++ X := by
  match k, hk with
  | 0, _ => rfl
  | 1, _ => rfl
  | 2, _ => rfl
  | 3, _ => rfl
  | 4, _ => rfl
  | 5, _ => rfl
  | k + 6, h => exact absurd h (by omega)
theorem stC_X0_bulk {cy : Nat → ClassId} {A : Nat → Nat} {v : Nat → Int32} {r : Nat → Nat → Int32} {X : va_W} {k : Nat} (hk : k < 6) {x : Int32} : (pcC cy A v r ++ X).set (13 + k) (A (13 + k), .inr (0, ([.int (r 0 k), .int (r 1 k), .int (r 2 k), .int (r 3 k)] : List Value).set 1 (.int x))) = pcC cy A v (va_up r 1 (upd (r 1) k x)) ++ X := by
  match k, hk with
  | 0, _ => rfl
  | 1, _ => rfl
  | 2, _ => rfl
  | 3, _ => rfl
  | 4, _ => rfl
  | 5, _ => rfl
  | k + 6, h => exact absurd h (by omega)
theorem stC_X0_gaiety {cy : Nat → ClassId} {A : Nat → Nat} {v : Nat → Int32} {r : Nat → Nat → Int32} {X : va_W} {k : Nat} (hk : k < 6) {x : Int32} : (pcC cy A v r ++ X).set (13 + k) (A (13 + k), .inr (0, ([.int (r 0 k), .int (r 1 k), .int (r 2 k), .int (r 3 k)] : List Value).set 2 (.int x))) = pcC cy A v (va_up r 2 (upd (r 2) k x)) ++ X := by
  match k, hk with
  | 0, _ => rfl
  | 1, _ => rfl
  | 2, _ => rfl
  | 3, _ => rfl
  | 4, _ => rfl
  | 5, _ => rfl
  | k + 6, h => exact absurd h (by omega)
theorem stC_X0_longing {cy : Nat → ClassId} {A : Nat → Nat} {v : Nat → Int32} {r : Nat → Nat → Int32} {X : va_W} {k : Nat} (hk : k < 6) {x : Int32} : (pcC cy A v r ++ X).set (13 + k) (A (13 + k), .inr (0, ([.int (r 0 k), .int (r 1 k), .int (r 2 k), .int (r 3 k)] : List Value).set 3 (.int x))) = pcC cy A v (va_up r 3 (upd (r 3) k x)) ++ X := by
  match k, hk with
  | 0, _ => rfl
  | 1, _ => rfl
  | 2, _ => rfl
  | 3, _ => rfl
  | 4, _ => rfl
  | 5, _ => rfl
  | k + 6, h => exact absurd h (by omega)
theorem stC_X4_lane {cy : Nat → ClassId} {A : Nat → Nat} {v : Nat → Int32} {r : Nat → Nat → Int32} {X : va_W} {k : Nat} (hk : k < 4) {x : Int32} : (pcC cy A v r ++ X).set (19 + k) (A (19 + k), .inr (4, ([.ref (A (23 + k)), .int (r 10 k), .int (r 11 k)] : List Value).set 1 (.int x))) = pcC cy A v (va_up r 10 (upd (r 10) k x)) ++ X := by
  match k, hk with
  | 0, _ => rfl
  | 1, _ => rfl
  | 2, _ => rfl
  | 3, _ => rfl
  | k + 4, h => exact absurd h (by omega)
theorem stC_X4_size {cy : Nat → ClassId} {A : Nat → Nat} {v : Nat → Int32} {r : Nat → Nat → Int32} {X : va_W} {k : Nat} (hk : k < 4) {x : Int32} : (pcC cy A v r ++ X).set (19 + k) (A (19 + k), .inr (4, ([.ref (A (23 + k)), .int (r 10 k), .int (r 11 k)] : List Value).set 2 (.int x))) = pcC cy A v (va_up r 11 (upd (r 11) k x)) ++ X := by
  match k, hk with
  | 0, _ => rfl
  | 1, _ => rfl
  | 2, _ => rfl
  | 3, _ => rfl
  | k + 4, h => exact absurd h (by omega)
section ROWS
variable {p : Program} {l : Launch} {e : Env} {R : Room} {s : State} {m : MethodId} {args : Array Value} {below : List Frame} {meth : Method} {c : Code} {H : Heap} {locs : List Loc} {cells slots : Nat} {Q : State → Prop} {cc : ByteArray} {pc : Nat} {ls : Array Slot} {rest : List Value} {D : va_G} {A0 : Nat → Prop} {H0 : Heap} {Ts : List Cond} {own : String} {index : Nat}
variable {cy : Nat → ClassId} {A : Nat → Nat} {v : Nat → Int32} {r : Nat → Nat → Int32} {X : va_W}
theorem gC_X7_house (hx : p.tables.exec = Jvm.exec) (hb : c.code = cc) (hts : ∀ w ∈ Ts, w.before args s = true) (hin : ∀ w ∈ wsX70, w ∈ Ts) (hown : s.vm.findClass own = some m.cls) (hK : va_K D vwCl (tyC cy) s) (hI : IW D (pcC cy A v r ++ X) A0 H0 H locs) (hlink : (Cond.fieldLink own index "TrickHouse" "house" "LTrickHouse$House;").before args s = true) (hdg : decode cc pc = .ok (.getfield index, 3)) (kk : W p l e R s m args below meth c H locs cells slots Q (F0 m (pc + 3) ls (.ref (A 1) :: rest))) : W p l e R s m args below meth c H locs cells slots Q (F0 m pc ls (.ref (A 0) :: rest)) := th_get (C := RX7) (T := TX7) (N := 7) hx hb hts hin hown hK hI 0 atC_0 rfl 0 (by decide) hlink rfl rfl hdg kk
theorem gC_X7_readings (hx : p.tables.exec = Jvm.exec) (hb : c.code = cc) (hts : ∀ w ∈ Ts, w.before args s = true) (hin : ∀ w ∈ wsX70, w ∈ Ts) (hown : s.vm.findClass own = some m.cls) (hK : va_K D vwCl (tyC cy) s) (hI : IW D (pcC cy A v r ++ X) A0 H0 H locs) (hlink : (Cond.fieldLink own index "TrickHouse" "readings" "LTrickHouse$Readings;").before args s = true) (hdg : decode cc pc = .ok (.getfield index, 3)) (kk : W p l e R s m args below meth c H locs cells slots Q (F0 m (pc + 3) ls (.ref (A 4) :: rest))) : W p l e R s m args below meth c H locs cells slots Q (F0 m pc ls (.ref (A 0) :: rest)) := th_get (C := RX7) (T := TX7) (N := 7) hx hb hts hin hown hK hI 0 atC_0 rfl 1 (by decide) hlink rfl rfl hdg kk
theorem gC_X7_packing (hx : p.tables.exec = Jvm.exec) (hb : c.code = cc) (hts : ∀ w ∈ Ts, w.before args s = true) (hin : ∀ w ∈ wsX70, w ∈ Ts) (hown : s.vm.findClass own = some m.cls) (hK : va_K D vwCl (tyC cy) s) (hI : IW D (pcC cy A v r ++ X) A0 H0 H locs) (hlink : (Cond.fieldLink own index "TrickHouse" "packing" "LTrickHouse$Packing;").before args s = true) (hdg : decode cc pc = .ok (.getfield index, 3)) (kk : W p l e R s m args below meth c H locs cells slots Q (F0 m (pc + 3) ls (.ref (A 7) :: rest))) : W p l e R s m args below meth c H locs cells slots Q (F0 m pc ls (.ref (A 0) :: rest)) := th_get (C := RX7) (T := TX7) (N := 7) hx hb hts hin hown hK hI 0 atC_0 rfl 2 (by decide) hlink rfl rfl hdg kk
theorem gC_X7_toldYear (hx : p.tables.exec = Jvm.exec) (hb : c.code = cc) (hts : ∀ w ∈ Ts, w.before args s = true) (hin : ∀ w ∈ wsX70, w ∈ Ts) (hown : s.vm.findClass own = some m.cls) (hK : va_K D vwCl (tyC cy) s) (hI : IW D (pcC cy A v r ++ X) A0 H0 H locs) (hlink : (Cond.fieldLink own index "TrickHouse" "toldYear" "LTrickHouse$Year;").before args s = true) (hdg : decode cc pc = .ok (.getfield index, 3)) (kk : W p l e R s m args below meth c H locs cells slots Q (F0 m (pc + 3) ls (.ref (A 11) :: rest))) : W p l e R s m args below meth c H locs cells slots Q (F0 m pc ls (.ref (A 0) :: rest)) := th_get (C := RX7) (T := TX7) (N := 7) hx hb hts hin hown hK hI 0 atC_0 rfl 3 (by decide) hlink rfl rfl hdg kk
theorem gC_X7_sheets (hx : p.tables.exec = Jvm.exec) (hb : c.code = cc) (hts : ∀ w ∈ Ts, w.before args s = true) (hin : ∀ w ∈ wsX70, w ∈ Ts) (hown : s.vm.findClass own = some m.cls) (hK : va_K D vwCl (tyC cy) s) (hI : IW D (pcC cy A v r ++ X) A0 H0 H locs) (hlink : (Cond.fieldLink own index "TrickHouse" "sheets" "[LTrickHouse$Sheet;").before args s = true) (hdg : decode cc pc = .ok (.getfield index, 3)) (kk : W p l e R s m args below meth c H locs cells slots Q (F0 m (pc + 3) ls (.ref (A 12) :: rest))) : W p l e R s m args below meth c H locs cells slots Q (F0 m pc ls (.ref (A 0) :: rest)) := th_get (C := RX7) (T := TX7) (N := 7) hx hb hts hin hown hK hI 0 atC_0 rfl 4 (by decide) hlink rfl rfl hdg kk
theorem gC_X7_traced (hx : p.tables.exec = Jvm.exec) (hb : c.code = cc) (hts : ∀ w ∈ Ts, w.before args s = true) (hin : ∀ w ∈ wsX70, w ∈ Ts) (hown : s.vm.findClass own = some m.cls) (hK : va_K D vwCl (tyC cy) s) (hI : IW D (pcC cy A v r ++ X) A0 H0 H locs) (hlink : (Cond.fieldLink own index "TrickHouse" "traced" "I").before args s = true) (hdg : decode cc pc = .ok (.getfield index, 3)) (kk : W p l e R s m args below meth c H locs cells slots Q (F0 m (pc + 3) ls (.int (v 0) :: rest))) : W p l e R s m args below meth c H locs cells slots Q (F0 m pc ls (.ref (A 0) :: rest)) := th_get (C := RX7) (T := TX7) (N := 7) hx hb hts hin hown hK hI 0 atC_0 rfl 5 (by decide) hlink rfl rfl hdg kk
theorem pC_X7_traced {x : Int32} (hx : p.tables.exec = Jvm.exec) (hb : c.code = cc) (hts : ∀ w ∈ Ts, w.before args s = true) (hin : ∀ w ∈ wsX70, w ∈ Ts) (hown : s.vm.findClass own = some m.cls) (hK : va_K D vwCl (tyC cy) s) (hI : IW D (pcC cy A v r ++ X) A0 H0 H locs) (hlink : (Cond.fieldLink own index "TrickHouse" "traced" "I").before args s = true) (hdg : decode cc pc = .ok (.putfield index, 3)) (kk : ∀ (H1 : Heap) (locs1 : List Loc), IW D (pcC cy A (upd v 0 x) r ++ X) A0 H0 H1 locs1 → W p l e R s m args below meth c H1 locs1 cells slots Q (F0 m (pc + 3) ls rest)) : W p l e R s m args below meth c H locs cells slots Q (F0 m pc ls (.int x :: .ref (A 0) :: rest)) := th_put (C := RX7) (T := TX7) (N := 7) hx hb hts hin tyX7 tyX7_ok nmX7 hown hK hI 0 atC_0 rfl 5 (by decide) hlink rfl rfl (by decide +kernel) (by simp) rfl hdg kk
theorem gC_X7_lastFault (hx : p.tables.exec = Jvm.exec) (hb : c.code = cc) (hts : ∀ w ∈ Ts, w.before args s = true) (hin : ∀ w ∈ wsX70, w ∈ Ts) (hown : s.vm.findClass own = some m.cls) (hK : va_K D vwCl (tyC cy) s) (hI : IW D (pcC cy A v r ++ X) A0 H0 H locs) (hlink : (Cond.fieldLink own index "TrickHouse" "lastFault" "I").before args s = true) (hdg : decode cc pc = .ok (.getfield index, 3)) (kk : W p l e R s m args below meth c H locs cells slots Q (F0 m (pc + 3) ls (.int (v 1) :: rest))) : W p l e R s m args below meth c H locs cells slots Q (F0 m pc ls (.ref (A 0) :: rest)) := th_get (C := RX7) (T := TX7) (N := 7) hx hb hts hin hown hK hI 0 atC_0 rfl 6 (by decide) hlink rfl rfl hdg kk
theorem pC_X7_lastFault {x : Int32} (hx : p.tables.exec = Jvm.exec) (hb : c.code = cc) (hts : ∀ w ∈ Ts, w.before args s = true) (hin : ∀ w ∈ wsX70, w ∈ Ts) (hown : s.vm.findClass own = some m.cls) (hK : va_K D vwCl (tyC cy) s) (hI : IW D (pcC cy A v r ++ X) A0 H0 H locs) (hlink : (Cond.fieldLink own index "TrickHouse" "lastFault" "I").before args s = true) (hdg : decode cc pc = .ok (.putfield index, 3)) (kk : ∀ (H1 : Heap) (locs1 : List Loc), IW D (pcC cy A (upd v 1 x) r ++ X) A0 H0 H1 locs1 → W p l e R s m args below meth c H1 locs1 cells slots Q (F0 m (pc + 3) ls rest)) : W p l e R s m args below meth c H locs cells slots Q (F0 m pc ls (.int x :: .ref (A 0) :: rest)) := th_put (C := RX7) (T := TX7) (N := 7) hx hb hts hin tyX7 tyX7_ok nmX7 hown hK hI 0 atC_0 rfl 6 (by decide) hlink rfl rfl (by decide +kernel) (by simp) rfl hdg kk
theorem gC_X1_articles (hx : p.tables.exec = Jvm.exec) (hb : c.code = cc) (hts : ∀ w ∈ Ts, w.before args s = true) (hin : ∀ w ∈ wsX10, w ∈ Ts) (hown : s.vm.findClass own = some m.cls) (hK : va_K D vwCl (tyC cy) s) (hI : IW D (pcC cy A v r ++ X) A0 H0 H locs) (hlink : (Cond.fieldLink own index "TrickHouse$House" "articles" "[LTrickHouse$Article;").before args s = true) (hdg : decode cc pc = .ok (.getfield index, 3)) (kk : W p l e R s m args below meth c H locs cells slots Q (F0 m (pc + 3) ls (.ref (A 2) :: rest))) : W p l e R s m args below meth c H locs cells slots Q (F0 m pc ls (.ref (A 1) :: rest)) := th_get (C := RX1) (T := TX1) (N := 6) hx hb hts hin hown hK hI 1 atC_1 rfl 0 (by decide) hlink rfl rfl hdg kk
theorem gC_X1_spaces (hx : p.tables.exec = Jvm.exec) (hb : c.code = cc) (hts : ∀ w ∈ Ts, w.before args s = true) (hin : ∀ w ∈ wsX10, w ∈ Ts) (hown : s.vm.findClass own = some m.cls) (hK : va_K D vwCl (tyC cy) s) (hI : IW D (pcC cy A v r ++ X) A0 H0 H locs) (hlink : (Cond.fieldLink own index "TrickHouse$House" "spaces" "[I").before args s = true) (hdg : decode cc pc = .ok (.getfield index, 3)) (kk : W p l e R s m args below meth c H locs cells slots Q (F0 m (pc + 3) ls (.ref (A 3) :: rest))) : W p l e R s m args below meth c H locs cells slots Q (F0 m pc ls (.ref (A 1) :: rest)) := th_get (C := RX1) (T := TX1) (N := 6) hx hb hts hin hown hK hI 1 atC_1 rfl 1 (by decide) hlink rfl rfl hdg kk
theorem gC_X1_articleCount (hx : p.tables.exec = Jvm.exec) (hb : c.code = cc) (hts : ∀ w ∈ Ts, w.before args s = true) (hin : ∀ w ∈ wsX10, w ∈ Ts) (hown : s.vm.findClass own = some m.cls) (hK : va_K D vwCl (tyC cy) s) (hI : IW D (pcC cy A v r ++ X) A0 H0 H locs) (hlink : (Cond.fieldLink own index "TrickHouse$House" "articleCount" "I").before args s = true) (hdg : decode cc pc = .ok (.getfield index, 3)) (kk : W p l e R s m args below meth c H locs cells slots Q (F0 m (pc + 3) ls (.int (v 2) :: rest))) : W p l e R s m args below meth c H locs cells slots Q (F0 m pc ls (.ref (A 1) :: rest)) := th_get (C := RX1) (T := TX1) (N := 6) hx hb hts hin hown hK hI 1 atC_1 rfl 2 (by decide) hlink rfl rfl hdg kk
theorem pC_X1_articleCount {x : Int32} (hx : p.tables.exec = Jvm.exec) (hb : c.code = cc) (hts : ∀ w ∈ Ts, w.before args s = true) (hin : ∀ w ∈ wsX10, w ∈ Ts) (hown : s.vm.findClass own = some m.cls) (hK : va_K D vwCl (tyC cy) s) (hI : IW D (pcC cy A v r ++ X) A0 H0 H locs) (hlink : (Cond.fieldLink own index "TrickHouse$House" "articleCount" "I").before args s = true) (hdg : decode cc pc = .ok (.putfield index, 3)) (kk : ∀ (H1 : Heap) (locs1 : List Loc), IW D (pcC cy A (upd v 2 x) r ++ X) A0 H0 H1 locs1 → W p l e R s m args below meth c H1 locs1 cells slots Q (F0 m (pc + 3) ls rest)) : W p l e R s m args below meth c H locs cells slots Q (F0 m pc ls (.int x :: .ref (A 1) :: rest)) := th_put (C := RX1) (T := TX1) (N := 6) hx hb hts hin tyX1 tyX1_ok nmX1 hown hK hI 1 atC_1 rfl 2 (by decide) hlink rfl rfl (by decide +kernel) (by simp) rfl hdg kk
theorem gC_X1_roomCount (hx : p.tables.exec = Jvm.exec) (hb : c.code = cc) (hts : ∀ w ∈ Ts, w.before args s = true) (hin : ∀ w ∈ wsX10, w ∈ Ts) (hown : s.vm.findClass own = some m.cls) (hK : va_K D vwCl (tyC cy) s) (hI : IW D (pcC cy A v r ++ X) A0 H0 H locs) (hlink : (Cond.fieldLink own index "TrickHouse$House" "roomCount" "I").before args s = true) (hdg : decode cc pc = .ok (.getfield index, 3)) (kk : W p l e R s m args below meth c H locs cells slots Q (F0 m (pc + 3) ls (.int (v 3) :: rest))) : W p l e R s m args below meth c H locs cells slots Q (F0 m pc ls (.ref (A 1) :: rest)) := th_get (C := RX1) (T := TX1) (N := 6) hx hb hts hin hown hK hI 1 atC_1 rfl 3 (by decide) hlink rfl rfl hdg kk
theorem pC_X1_roomCount {x : Int32} (hx : p.tables.exec = Jvm.exec) (hb : c.code = cc) (hts : ∀ w ∈ Ts, w.before args s = true) (hin : ∀ w ∈ wsX10, w ∈ Ts) (hown : s.vm.findClass own = some m.cls) (hK : va_K D vwCl (tyC cy) s) (hI : IW D (pcC cy A v r ++ X) A0 H0 H locs) (hlink : (Cond.fieldLink own index "TrickHouse$House" "roomCount" "I").before args s = true) (hdg : decode cc pc = .ok (.putfield index, 3)) (kk : ∀ (H1 : Heap) (locs1 : List Loc), IW D (pcC cy A (upd v 3 x) r ++ X) A0 H0 H1 locs1 → W p l e R s m args below meth c H1 locs1 cells slots Q (F0 m (pc + 3) ls rest)) : W p l e R s m args below meth c H locs cells slots Q (F0 m pc ls (.int x :: .ref (A 1) :: rest)) := th_put (C := RX1) (T := TX1) (N := 6) hx hb hts hin tyX1 tyX1_ok nmX1 hown hK hI 1 atC_1 rfl 3 (by decide) hlink rfl rfl (by decide +kernel) (by simp) rfl hdg kk
theorem gC_X1_corner (hx : p.tables.exec = Jvm.exec) (hb : c.code = cc) (hts : ∀ w ∈ Ts, w.before args s = true) (hin : ∀ w ∈ wsX10, w ∈ Ts) (hown : s.vm.findClass own = some m.cls) (hK : va_K D vwCl (tyC cy) s) (hI : IW D (pcC cy A v r ++ X) A0 H0 H locs) (hlink : (Cond.fieldLink own index "TrickHouse$House" "corner" "I").before args s = true) (hdg : decode cc pc = .ok (.getfield index, 3)) (kk : W p l e R s m args below meth c H locs cells slots Q (F0 m (pc + 3) ls (.int (v 4) :: rest))) : W p l e R s m args below meth c H locs cells slots Q (F0 m pc ls (.ref (A 1) :: rest)) := th_get (C := RX1) (T := TX1) (N := 6) hx hb hts hin hown hK hI 1 atC_1 rfl 4 (by decide) hlink rfl rfl hdg kk
theorem pC_X1_corner {x : Int32} (hx : p.tables.exec = Jvm.exec) (hb : c.code = cc) (hts : ∀ w ∈ Ts, w.before args s = true) (hin : ∀ w ∈ wsX10, w ∈ Ts) (hown : s.vm.findClass own = some m.cls) (hK : va_K D vwCl (tyC cy) s) (hI : IW D (pcC cy A v r ++ X) A0 H0 H locs) (hlink : (Cond.fieldLink own index "TrickHouse$House" "corner" "I").before args s = true) (hdg : decode cc pc = .ok (.putfield index, 3)) (kk : ∀ (H1 : Heap) (locs1 : List Loc), IW D (pcC cy A (upd v 4 x) r ++ X) A0 H0 H1 locs1 → W p l e R s m args below meth c H1 locs1 cells slots Q (F0 m (pc + 3) ls rest)) : W p l e R s m args below meth c H locs cells slots Q (F0 m pc ls (.int x :: .ref (A 1) :: rest)) := th_put (C := RX1) (T := TX1) (N := 6) hx hb hts hin tyX1 tyX1_ok nmX1 hown hK hI 1 atC_1 rfl 4 (by decide) hlink rfl rfl (by decide +kernel) (by simp) rfl hdg kk
theorem gC_X1_present (hx : p.tables.exec = Jvm.exec) (hb : c.code = cc) (hts : ∀ w ∈ Ts, w.before args s = true) (hin : ∀ w ∈ wsX10, w ∈ Ts) (hown : s.vm.findClass own = some m.cls) (hK : va_K D vwCl (tyC cy) s) (hI : IW D (pcC cy A v r ++ X) A0 H0 H locs) (hlink : (Cond.fieldLink own index "TrickHouse$House" "present" "I").before args s = true) (hdg : decode cc pc = .ok (.getfield index, 3)) (kk : W p l e R s m args below meth c H locs cells slots Q (F0 m (pc + 3) ls (.int (v 5) :: rest))) : W p l e R s m args below meth c H locs cells slots Q (F0 m pc ls (.ref (A 1) :: rest)) := th_get (C := RX1) (T := TX1) (N := 6) hx hb hts hin hown hK hI 1 atC_1 rfl 5 (by decide) hlink rfl rfl hdg kk
theorem pC_X1_present {x : Int32} (hx : p.tables.exec = Jvm.exec) (hb : c.code = cc) (hts : ∀ w ∈ Ts, w.before args s = true) (hin : ∀ w ∈ wsX10, w ∈ Ts) (hown : s.vm.findClass own = some m.cls) (hK : va_K D vwCl (tyC cy) s) (hI : IW D (pcC cy A v r ++ X) A0 H0 H locs) (hlink : (Cond.fieldLink own index "TrickHouse$House" "present" "I").before args s = true) (hdg : decode cc pc = .ok (.putfield index, 3)) (kk : ∀ (H1 : Heap) (locs1 : List Loc), IW D (pcC cy A (upd v 5 x) r ++ X) A0 H0 H1 locs1 → W p l e R s m args below meth c H1 locs1 cells slots Q (F0 m (pc + 3) ls rest)) : W p l e R s m args below meth c H locs cells slots Q (F0 m pc ls (.int x :: .ref (A 1) :: rest)) := th_put (C := RX1) (T := TX1) (N := 6) hx hb hts hin tyX1 tyX1_ok nmX1 hown hK hI 1 atC_1 rfl 5 (by decide) hlink rfl rfl (by decide +kernel) (by simp) rfl hdg kk
theorem gC_X3_corners (hx : p.tables.exec = Jvm.exec) (hb : c.code = cc) (hts : ∀ w ∈ Ts, w.before args s = true) (hin : ∀ w ∈ wsX30, w ∈ Ts) (hown : s.vm.findClass own = some m.cls) (hK : va_K D vwCl (tyC cy) s) (hI : IW D (pcC cy A v r ++ X) A0 H0 H locs) (hlink : (Cond.fieldLink own index "TrickHouse$Readings" "corners" "[I").before args s = true) (hdg : decode cc pc = .ok (.getfield index, 3)) (kk : W p l e R s m args below meth c H locs cells slots Q (F0 m (pc + 3) ls (.ref (A 5) :: rest))) : W p l e R s m args below meth c H locs cells slots Q (F0 m pc ls (.ref (A 4) :: rest)) := th_get (C := RX3) (T := TX3) (N := 3) hx hb hts hin hown hK hI 4 atC_4 rfl 0 (by decide) hlink rfl rfl hdg kk
theorem gC_X3_values (hx : p.tables.exec = Jvm.exec) (hb : c.code = cc) (hts : ∀ w ∈ Ts, w.before args s = true) (hin : ∀ w ∈ wsX30, w ∈ Ts) (hown : s.vm.findClass own = some m.cls) (hK : va_K D vwCl (tyC cy) s) (hI : IW D (pcC cy A v r ++ X) A0 H0 H locs) (hlink : (Cond.fieldLink own index "TrickHouse$Readings" "values" "[I").before args s = true) (hdg : decode cc pc = .ok (.getfield index, 3)) (kk : W p l e R s m args below meth c H locs cells slots Q (F0 m (pc + 3) ls (.ref (A 6) :: rest))) : W p l e R s m args below meth c H locs cells slots Q (F0 m pc ls (.ref (A 4) :: rest)) := th_get (C := RX3) (T := TX3) (N := 3) hx hb hts hin hown hK hI 4 atC_4 rfl 1 (by decide) hlink rfl rfl hdg kk
theorem gC_X3_count (hx : p.tables.exec = Jvm.exec) (hb : c.code = cc) (hts : ∀ w ∈ Ts, w.before args s = true) (hin : ∀ w ∈ wsX30, w ∈ Ts) (hown : s.vm.findClass own = some m.cls) (hK : va_K D vwCl (tyC cy) s) (hI : IW D (pcC cy A v r ++ X) A0 H0 H locs) (hlink : (Cond.fieldLink own index "TrickHouse$Readings" "count" "I").before args s = true) (hdg : decode cc pc = .ok (.getfield index, 3)) (kk : W p l e R s m args below meth c H locs cells slots Q (F0 m (pc + 3) ls (.int (v 6) :: rest))) : W p l e R s m args below meth c H locs cells slots Q (F0 m pc ls (.ref (A 4) :: rest)) := th_get (C := RX3) (T := TX3) (N := 3) hx hb hts hin hown hK hI 4 atC_4 rfl 2 (by decide) hlink rfl rfl hdg kk
theorem pC_X3_count {x : Int32} (hx : p.tables.exec = Jvm.exec) (hb : c.code = cc) (hts : ∀ w ∈ Ts, w.before args s = true) (hin : ∀ w ∈ wsX30, w ∈ Ts) (hown : s.vm.findClass own = some m.cls) (hK : va_K D vwCl (tyC cy) s) (hI : IW D (pcC cy A v r ++ X) A0 H0 H locs) (hlink : (Cond.fieldLink own index "TrickHouse$Readings" "count" "I").before args s = true) (hdg : decode cc pc = .ok (.putfield index, 3)) (kk : ∀ (H1 : Heap) (locs1 : List Loc), IW D (pcC cy A (upd v 6 x) r ++ X) A0 H0 H1 locs1 → W p l e R s m args below meth c H1 locs1 cells slots Q (F0 m (pc + 3) ls rest)) : W p l e R s m args below meth c H locs cells slots Q (F0 m pc ls (.int x :: .ref (A 4) :: rest)) := th_put (C := RX3) (T := TX3) (N := 3) hx hb hts hin tyX3 tyX3_ok nmX3 hown hK hI 4 atC_4 rfl 2 (by decide) hlink rfl rfl (by decide +kernel) (by simp) rfl hdg kk
theorem gC_X2_house (hx : p.tables.exec = Jvm.exec) (hb : c.code = cc) (hts : ∀ w ∈ Ts, w.before args s = true) (hin : ∀ w ∈ wsX20, w ∈ Ts) (hown : s.vm.findClass own = some m.cls) (hK : va_K D vwCl (tyC cy) s) (hI : IW D (pcC cy A v r ++ X) A0 H0 H locs) (hlink : (Cond.fieldLink own index "TrickHouse$Packing" "house" "LTrickHouse$House;").before args s = true) (hdg : decode cc pc = .ok (.getfield index, 3)) (kk : W p l e R s m args below meth c H locs cells slots Q (F0 m (pc + 3) ls (.ref (A 1) :: rest))) : W p l e R s m args below meth c H locs cells slots Q (F0 m pc ls (.ref (A 7) :: rest)) := th_get (C := RX2) (T := TX2) (N := 5) hx hb hts hin hown hK hI 7 atC_7 rfl 0 (by decide) hlink rfl rfl hdg kk
theorem gC_X2_loads (hx : p.tables.exec = Jvm.exec) (hb : c.code = cc) (hts : ∀ w ∈ Ts, w.before args s = true) (hin : ∀ w ∈ wsX20, w ∈ Ts) (hown : s.vm.findClass own = some m.cls) (hK : va_K D vwCl (tyC cy) s) (hI : IW D (pcC cy A v r ++ X) A0 H0 H locs) (hlink : (Cond.fieldLink own index "TrickHouse$Packing" "loads" "[I").before args s = true) (hdg : decode cc pc = .ok (.getfield index, 3)) (kk : W p l e R s m args below meth c H locs cells slots Q (F0 m (pc + 3) ls (.ref (A 8) :: rest))) : W p l e R s m args below meth c H locs cells slots Q (F0 m pc ls (.ref (A 7) :: rest)) := th_get (C := RX2) (T := TX2) (N := 5) hx hb hts hin hown hK hI 7 atC_7 rfl 1 (by decide) hlink rfl rfl hdg kk
theorem gC_X2_tried (hx : p.tables.exec = Jvm.exec) (hb : c.code = cc) (hts : ∀ w ∈ Ts, w.before args s = true) (hin : ∀ w ∈ wsX20, w ∈ Ts) (hown : s.vm.findClass own = some m.cls) (hK : va_K D vwCl (tyC cy) s) (hI : IW D (pcC cy A v r ++ X) A0 H0 H locs) (hlink : (Cond.fieldLink own index "TrickHouse$Packing" "tried" "[I").before args s = true) (hdg : decode cc pc = .ok (.getfield index, 3)) (kk : W p l e R s m args below meth c H locs cells slots Q (F0 m (pc + 3) ls (.ref (A 9) :: rest))) : W p l e R s m args below meth c H locs cells slots Q (F0 m pc ls (.ref (A 7) :: rest)) := th_get (C := RX2) (T := TX2) (N := 5) hx hb hts hin hown hK hI 7 atC_7 rfl 2 (by decide) hlink rfl rfl hdg kk
theorem gC_X2_first (hx : p.tables.exec = Jvm.exec) (hb : c.code = cc) (hts : ∀ w ∈ Ts, w.before args s = true) (hin : ∀ w ∈ wsX20, w ∈ Ts) (hown : s.vm.findClass own = some m.cls) (hK : va_K D vwCl (tyC cy) s) (hI : IW D (pcC cy A v r ++ X) A0 H0 H locs) (hlink : (Cond.fieldLink own index "TrickHouse$Packing" "first" "[I").before args s = true) (hdg : decode cc pc = .ok (.getfield index, 3)) (kk : W p l e R s m args below meth c H locs cells slots Q (F0 m (pc + 3) ls (.ref (A 10) :: rest))) : W p l e R s m args below meth c H locs cells slots Q (F0 m pc ls (.ref (A 7) :: rest)) := th_get (C := RX2) (T := TX2) (N := 5) hx hb hts hin hown hK hI 7 atC_7 rfl 3 (by decide) hlink rfl rfl hdg kk
theorem gC_X2_ways (hx : p.tables.exec = Jvm.exec) (hb : c.code = cc) (hts : ∀ w ∈ Ts, w.before args s = true) (hin : ∀ w ∈ wsX20, w ∈ Ts) (hown : s.vm.findClass own = some m.cls) (hK : va_K D vwCl (tyC cy) s) (hI : IW D (pcC cy A v r ++ X) A0 H0 H locs) (hlink : (Cond.fieldLink own index "TrickHouse$Packing" "ways" "I").before args s = true) (hdg : decode cc pc = .ok (.getfield index, 3)) (kk : W p l e R s m args below meth c H locs cells slots Q (F0 m (pc + 3) ls (.int (v 7) :: rest))) : W p l e R s m args below meth c H locs cells slots Q (F0 m pc ls (.ref (A 7) :: rest)) := th_get (C := RX2) (T := TX2) (N := 5) hx hb hts hin hown hK hI 7 atC_7 rfl 4 (by decide) hlink rfl rfl hdg kk
theorem pC_X2_ways {x : Int32} (hx : p.tables.exec = Jvm.exec) (hb : c.code = cc) (hts : ∀ w ∈ Ts, w.before args s = true) (hin : ∀ w ∈ wsX20, w ∈ Ts) (hown : s.vm.findClass own = some m.cls) (hK : va_K D vwCl (tyC cy) s) (hI : IW D (pcC cy A v r ++ X) A0 H0 H locs) (hlink : (Cond.fieldLink own index "TrickHouse$Packing" "ways" "I").before args s = true) (hdg : decode cc pc = .ok (.putfield index, 3)) (kk : ∀ (H1 : Heap) (locs1 : List Loc), IW D (pcC cy A (upd v 7 x) r ++ X) A0 H0 H1 locs1 → W p l e R s m args below meth c H1 locs1 cells slots Q (F0 m (pc + 3) ls rest)) : W p l e R s m args below meth c H locs cells slots Q (F0 m pc ls (.int x :: .ref (A 7) :: rest)) := th_put (C := RX2) (T := TX2) (N := 5) hx hb hts hin tyX2 tyX2_ok nmX2 hown hK hI 7 atC_7 rfl 4 (by decide) hlink rfl rfl (by decide +kernel) (by simp) rfl hdg kk
theorem gC_X6_house (hx : p.tables.exec = Jvm.exec) (hb : c.code = cc) (hts : ∀ w ∈ Ts, w.before args s = true) (hin : ∀ w ∈ wsX60, w ∈ Ts) (hown : s.vm.findClass own = some m.cls) (hK : va_K D vwCl (tyC cy) s) (hI : IW D (pcC cy A v r ++ X) A0 H0 H locs) (hlink : (Cond.fieldLink own index "TrickHouse$Year" "house" "LTrickHouse$House;").before args s = true) (hdg : decode cc pc = .ok (.getfield index, 3)) (kk : W p l e R s m args below meth c H locs cells slots Q (F0 m (pc + 3) ls (.ref (A 1) :: rest))) : W p l e R s m args below meth c H locs cells slots Q (F0 m pc ls (.ref (A 11) :: rest)) := th_get (C := RX6) (T := TX6) (N := 5) hx hb hts hin hown hK hI 11 atC_11 rfl 0 (by decide) hlink rfl rfl hdg kk
theorem gC_X6_present (hx : p.tables.exec = Jvm.exec) (hb : c.code = cc) (hts : ∀ w ∈ Ts, w.before args s = true) (hin : ∀ w ∈ wsX60, w ∈ Ts) (hown : s.vm.findClass own = some m.cls) (hK : va_K D vwCl (tyC cy) s) (hI : IW D (pcC cy A v r ++ X) A0 H0 H locs) (hlink : (Cond.fieldLink own index "TrickHouse$Year" "present" "I").before args s = true) (hdg : decode cc pc = .ok (.getfield index, 3)) (kk : W p l e R s m args below meth c H locs cells slots Q (F0 m (pc + 3) ls (.int (v 8) :: rest))) : W p l e R s m args below meth c H locs cells slots Q (F0 m pc ls (.ref (A 11) :: rest)) := th_get (C := RX6) (T := TX6) (N := 5) hx hb hts hin hown hK hI 11 atC_11 rfl 1 (by decide) hlink rfl rfl hdg kk
theorem pC_X6_present {x : Int32} (hx : p.tables.exec = Jvm.exec) (hb : c.code = cc) (hts : ∀ w ∈ Ts, w.before args s = true) (hin : ∀ w ∈ wsX60, w ∈ Ts) (hown : s.vm.findClass own = some m.cls) (hK : va_K D vwCl (tyC cy) s) (hI : IW D (pcC cy A v r ++ X) A0 H0 H locs) (hlink : (Cond.fieldLink own index "TrickHouse$Year" "present" "I").before args s = true) (hdg : decode cc pc = .ok (.putfield index, 3)) (kk : ∀ (H1 : Heap) (locs1 : List Loc), IW D (pcC cy A (upd v 8 x) r ++ X) A0 H0 H1 locs1 → W p l e R s m args below meth c H1 locs1 cells slots Q (F0 m (pc + 3) ls rest)) : W p l e R s m args below meth c H locs cells slots Q (F0 m pc ls (.int x :: .ref (A 11) :: rest)) := th_put (C := RX6) (T := TX6) (N := 5) hx hb hts hin tyX6 tyX6_ok nmX6 hown hK hI 11 atC_11 rfl 1 (by decide) hlink rfl rfl (by decide +kernel) (by simp) rfl hdg kk
theorem gC_X6_away (hx : p.tables.exec = Jvm.exec) (hb : c.code = cc) (hts : ∀ w ∈ Ts, w.before args s = true) (hin : ∀ w ∈ wsX60, w ∈ Ts) (hown : s.vm.findClass own = some m.cls) (hK : va_K D vwCl (tyC cy) s) (hI : IW D (pcC cy A v r ++ X) A0 H0 H locs) (hlink : (Cond.fieldLink own index "TrickHouse$Year" "away" "I").before args s = true) (hdg : decode cc pc = .ok (.getfield index, 3)) (kk : W p l e R s m args below meth c H locs cells slots Q (F0 m (pc + 3) ls (.int (v 9) :: rest))) : W p l e R s m args below meth c H locs cells slots Q (F0 m pc ls (.ref (A 11) :: rest)) := th_get (C := RX6) (T := TX6) (N := 5) hx hb hts hin hown hK hI 11 atC_11 rfl 2 (by decide) hlink rfl rfl hdg kk
theorem pC_X6_away {x : Int32} (hx : p.tables.exec = Jvm.exec) (hb : c.code = cc) (hts : ∀ w ∈ Ts, w.before args s = true) (hin : ∀ w ∈ wsX60, w ∈ Ts) (hown : s.vm.findClass own = some m.cls) (hK : va_K D vwCl (tyC cy) s) (hI : IW D (pcC cy A v r ++ X) A0 H0 H locs) (hlink : (Cond.fieldLink own index "TrickHouse$Year" "away" "I").before args s = true) (hdg : decode cc pc = .ok (.putfield index, 3)) (kk : ∀ (H1 : Heap) (locs1 : List Loc), IW D (pcC cy A (upd v 9 x) r ++ X) A0 H0 H1 locs1 → W p l e R s m args below meth c H1 locs1 cells slots Q (F0 m (pc + 3) ls rest)) : W p l e R s m args below meth c H locs cells slots Q (F0 m pc ls (.int x :: .ref (A 11) :: rest)) := th_put (C := RX6) (T := TX6) (N := 5) hx hb hts hin tyX6 tyX6_ok nmX6 hown hK hI 11 atC_11 rfl 2 (by decide) hlink rfl rfl (by decide +kernel) (by simp) rfl hdg kk
theorem gC_X6_greatest (hx : p.tables.exec = Jvm.exec) (hb : c.code = cc) (hts : ∀ w ∈ Ts, w.before args s = true) (hin : ∀ w ∈ wsX60, w ∈ Ts) (hown : s.vm.findClass own = some m.cls) (hK : va_K D vwCl (tyC cy) s) (hI : IW D (pcC cy A v r ++ X) A0 H0 H locs) (hlink : (Cond.fieldLink own index "TrickHouse$Year" "greatest" "I").before args s = true) (hdg : decode cc pc = .ok (.getfield index, 3)) (kk : W p l e R s m args below meth c H locs cells slots Q (F0 m (pc + 3) ls (.int (v 10) :: rest))) : W p l e R s m args below meth c H locs cells slots Q (F0 m pc ls (.ref (A 11) :: rest)) := th_get (C := RX6) (T := TX6) (N := 5) hx hb hts hin hown hK hI 11 atC_11 rfl 3 (by decide) hlink rfl rfl hdg kk
theorem pC_X6_greatest {x : Int32} (hx : p.tables.exec = Jvm.exec) (hb : c.code = cc) (hts : ∀ w ∈ Ts, w.before args s = true) (hin : ∀ w ∈ wsX60, w ∈ Ts) (hown : s.vm.findClass own = some m.cls) (hK : va_K D vwCl (tyC cy) s) (hI : IW D (pcC cy A v r ++ X) A0 H0 H locs) (hlink : (Cond.fieldLink own index "TrickHouse$Year" "greatest" "I").before args s = true) (hdg : decode cc pc = .ok (.putfield index, 3)) (kk : ∀ (H1 : Heap) (locs1 : List Loc), IW D (pcC cy A (upd v 10 x) r ++ X) A0 H0 H1 locs1 → W p l e R s m args below meth c H1 locs1 cells slots Q (F0 m (pc + 3) ls rest)) : W p l e R s m args below meth c H locs cells slots Q (F0 m pc ls (.int x :: .ref (A 11) :: rest)) := th_put (C := RX6) (T := TX6) (N := 5) hx hb hts hin tyX6 tyX6_ok nmX6 hown hK hI 11 atC_11 rfl 3 (by decide) hlink rfl rfl (by decide +kernel) (by simp) rfl hdg kk
theorem gC_X6_wrong (hx : p.tables.exec = Jvm.exec) (hb : c.code = cc) (hts : ∀ w ∈ Ts, w.before args s = true) (hin : ∀ w ∈ wsX60, w ∈ Ts) (hown : s.vm.findClass own = some m.cls) (hK : va_K D vwCl (tyC cy) s) (hI : IW D (pcC cy A v r ++ X) A0 H0 H locs) (hlink : (Cond.fieldLink own index "TrickHouse$Year" "wrong" "I").before args s = true) (hdg : decode cc pc = .ok (.getfield index, 3)) (kk : W p l e R s m args below meth c H locs cells slots Q (F0 m (pc + 3) ls (.int (v 11) :: rest))) : W p l e R s m args below meth c H locs cells slots Q (F0 m pc ls (.ref (A 11) :: rest)) := th_get (C := RX6) (T := TX6) (N := 5) hx hb hts hin hown hK hI 11 atC_11 rfl 4 (by decide) hlink rfl rfl hdg kk
theorem pC_X6_wrong {x : Int32} (hx : p.tables.exec = Jvm.exec) (hb : c.code = cc) (hts : ∀ w ∈ Ts, w.before args s = true) (hin : ∀ w ∈ wsX60, w ∈ Ts) (hown : s.vm.findClass own = some m.cls) (hK : va_K D vwCl (tyC cy) s) (hI : IW D (pcC cy A v r ++ X) A0 H0 H locs) (hlink : (Cond.fieldLink own index "TrickHouse$Year" "wrong" "I").before args s = true) (hdg : decode cc pc = .ok (.putfield index, 3)) (kk : ∀ (H1 : Heap) (locs1 : List Loc), IW D (pcC cy A (upd v 11 x) r ++ X) A0 H0 H1 locs1 → W p l e R s m args below meth c H1 locs1 cells slots Q (F0 m (pc + 3) ls rest)) : W p l e R s m args below meth c H locs cells slots Q (F0 m pc ls (.int x :: .ref (A 11) :: rest)) := th_put (C := RX6) (T := TX6) (N := 5) hx hb hts hin tyX6 tyX6_ok nmX6 hown hK hI 11 atC_11 rfl 4 (by decide) hlink rfl rfl (by decide +kernel) (by simp) rfl hdg kk
theorem gC_X0_kind {k : Nat} (hk : k < 6) (hx : p.tables.exec = Jvm.exec) (hb : c.code = cc) (hts : ∀ w ∈ Ts, w.before args s = true) (hin : ∀ w ∈ wsX00, w ∈ Ts) (hown : s.vm.findClass own = some m.cls) (hK : va_K D vwCl (tyC cy) s) (hI : IW D (pcC cy A v r ++ X) A0 H0 H locs) (hlink : (Cond.fieldLink own index "TrickHouse$Article" "kind" "I").before args s = true) (hdg : decode cc pc = .ok (.getfield index, 3)) (kk : W p l e R s m args below meth c H locs cells slots Q (F0 m (pc + 3) ls (.int (r 0 k) :: rest))) : W p l e R s m args below meth c H locs cells slots Q (F0 m pc ls (.ref (A (13 + k)) :: rest)) := th_get (C := RX0) (T := TX0) (N := 4) hx hb hts hin hown hK hI (13 + k) (atC_art hk) rfl 0 (by decide) hlink rfl rfl hdg kk
theorem pC_X0_kind {k : Nat} (hk : k < 6) {x : Int32} (hx : p.tables.exec = Jvm.exec) (hb : c.code = cc) (hts : ∀ w ∈ Ts, w.before args s = true) (hin : ∀ w ∈ wsX00, w ∈ Ts) (hown : s.vm.findClass own = some m.cls) (hK : va_K D vwCl (tyC cy) s) (hI : IW D (pcC cy A v r ++ X) A0 H0 H locs) (hlink : (Cond.fieldLink own index "TrickHouse$Article" "kind" "I").before args s = true) (hdg : decode cc pc = .ok (.putfield index, 3)) (kk : ∀ (H1 : Heap) (locs1 : List Loc), IW D (pcC cy A v (va_up r 0 (upd (r 0) k x)) ++ X) A0 H0 H1 locs1 → W p l e R s m args below meth c H1 locs1 cells slots Q (F0 m (pc + 3) ls rest)) : W p l e R s m args below meth c H locs cells slots Q (F0 m pc ls (.int x :: .ref (A (13 + k)) :: rest)) := th_put (C := RX0) (T := TX0) (N := 4) hx hb hts hin tyX0 tyX0_ok nmX0 hown hK hI (13 + k) (atC_art hk) rfl 0 (by decide) hlink rfl rfl (by decide +kernel) (by simp) (stC_X0_kind hk) hdg kk
theorem gC_X0_bulk {k : Nat} (hk : k < 6) (hx : p.tables.exec = Jvm.exec) (hb : c.code = cc) (hts : ∀ w ∈ Ts, w.before args s = true) (hin : ∀ w ∈ wsX00, w ∈ Ts) (hown : s.vm.findClass own = some m.cls) (hK : va_K D vwCl (tyC cy) s) (hI : IW D (pcC cy A v r ++ X) A0 H0 H locs) (hlink : (Cond.fieldLink own index "TrickHouse$Article" "bulk" "I").before args s = true) (hdg : decode cc pc = .ok (.getfield index, 3)) (kk : W p l e R s m args below meth c H locs cells slots Q (F0 m (pc + 3) ls (.int (r 1 k) :: rest))) : W p l e R s m args below meth c H locs cells slots Q (F0 m pc ls (.ref (A (13 + k)) :: rest)) := th_get (C := RX0) (T := TX0) (N := 4) hx hb hts hin hown hK hI (13 + k) (atC_art hk) rfl 1 (by decide) hlink rfl rfl hdg kk
theorem pC_X0_bulk {k : Nat} (hk : k < 6) {x : Int32} (hx : p.tables.exec = Jvm.exec) (hb : c.code = cc) (hts : ∀ w ∈ Ts, w.before args s = true) (hin : ∀ w ∈ wsX00, w ∈ Ts) (hown : s.vm.findClass own = some m.cls) (hK : va_K D vwCl (tyC cy) s) (hI : IW D (pcC cy A v r ++ X) A0 H0 H locs) (hlink : (Cond.fieldLink own index "TrickHouse$Article" "bulk" "I").before args s = true) (hdg : decode cc pc = .ok (.putfield index, 3)) (kk : ∀ (H1 : Heap) (locs1 : List Loc), IW D (pcC cy A v (va_up r 1 (upd (r 1) k x)) ++ X) A0 H0 H1 locs1 → W p l e R s m args below meth c H1 locs1 cells slots Q (F0 m (pc + 3) ls rest)) : W p l e R s m args below meth c H locs cells slots Q (F0 m pc ls (.int x :: .ref (A (13 + k)) :: rest)) := th_put (C := RX0) (T := TX0) (N := 4) hx hb hts hin tyX0 tyX0_ok nmX0 hown hK hI (13 + k) (atC_art hk) rfl 1 (by decide) hlink rfl rfl (by decide +kernel) (by simp) (stC_X0_bulk hk) hdg kk
theorem gC_X0_gaiety {k : Nat} (hk : k < 6) (hx : p.tables.exec = Jvm.exec) (hb : c.code = cc) (hts : ∀ w ∈ Ts, w.before args s = true) (hin : ∀ w ∈ wsX00, w ∈ Ts) (hown : s.vm.findClass own = some m.cls) (hK : va_K D vwCl (tyC cy) s) (hI : IW D (pcC cy A v r ++ X) A0 H0 H locs) (hlink : (Cond.fieldLink own index "TrickHouse$Article" "gaiety" "I").before args s = true) (hdg : decode cc pc = .ok (.getfield index, 3)) (kk : W p l e R s m args below meth c H locs cells slots Q (F0 m (pc + 3) ls (.int (r 2 k) :: rest))) : W p l e R s m args below meth c H locs cells slots Q (F0 m pc ls (.ref (A (13 + k)) :: rest)) := th_get (C := RX0) (T := TX0) (N := 4) hx hb hts hin hown hK hI (13 + k) (atC_art hk) rfl 2 (by decide) hlink rfl rfl hdg kk
theorem pC_X0_gaiety {k : Nat} (hk : k < 6) {x : Int32} (hx : p.tables.exec = Jvm.exec) (hb : c.code = cc) (hts : ∀ w ∈ Ts, w.before args s = true) (hin : ∀ w ∈ wsX00, w ∈ Ts) (hown : s.vm.findClass own = some m.cls) (hK : va_K D vwCl (tyC cy) s) (hI : IW D (pcC cy A v r ++ X) A0 H0 H locs) (hlink : (Cond.fieldLink own index "TrickHouse$Article" "gaiety" "I").before args s = true) (hdg : decode cc pc = .ok (.putfield index, 3)) (kk : ∀ (H1 : Heap) (locs1 : List Loc), IW D (pcC cy A v (va_up r 2 (upd (r 2) k x)) ++ X) A0 H0 H1 locs1 → W p l e R s m args below meth c H1 locs1 cells slots Q (F0 m (pc + 3) ls rest)) : W p l e R s m args below meth c H locs cells slots Q (F0 m pc ls (.int x :: .ref (A (13 + k)) :: rest)) := th_put (C := RX0) (T := TX0) (N := 4) hx hb hts hin tyX0 tyX0_ok nmX0 hown hK hI (13 + k) (atC_art hk) rfl 2 (by decide) hlink rfl rfl (by decide +kernel) (by simp) (stC_X0_gaiety hk) hdg kk
theorem gC_X0_longing {k : Nat} (hk : k < 6) (hx : p.tables.exec = Jvm.exec) (hb : c.code = cc) (hts : ∀ w ∈ Ts, w.before args s = true) (hin : ∀ w ∈ wsX00, w ∈ Ts) (hown : s.vm.findClass own = some m.cls) (hK : va_K D vwCl (tyC cy) s) (hI : IW D (pcC cy A v r ++ X) A0 H0 H locs) (hlink : (Cond.fieldLink own index "TrickHouse$Article" "longing" "I").before args s = true) (hdg : decode cc pc = .ok (.getfield index, 3)) (kk : W p l e R s m args below meth c H locs cells slots Q (F0 m (pc + 3) ls (.int (r 3 k) :: rest))) : W p l e R s m args below meth c H locs cells slots Q (F0 m pc ls (.ref (A (13 + k)) :: rest)) := th_get (C := RX0) (T := TX0) (N := 4) hx hb hts hin hown hK hI (13 + k) (atC_art hk) rfl 3 (by decide) hlink rfl rfl hdg kk
theorem pC_X0_longing {k : Nat} (hk : k < 6) {x : Int32} (hx : p.tables.exec = Jvm.exec) (hb : c.code = cc) (hts : ∀ w ∈ Ts, w.before args s = true) (hin : ∀ w ∈ wsX00, w ∈ Ts) (hown : s.vm.findClass own = some m.cls) (hK : va_K D vwCl (tyC cy) s) (hI : IW D (pcC cy A v r ++ X) A0 H0 H locs) (hlink : (Cond.fieldLink own index "TrickHouse$Article" "longing" "I").before args s = true) (hdg : decode cc pc = .ok (.putfield index, 3)) (kk : ∀ (H1 : Heap) (locs1 : List Loc), IW D (pcC cy A v (va_up r 3 (upd (r 3) k x)) ++ X) A0 H0 H1 locs1 → W p l e R s m args below meth c H1 locs1 cells slots Q (F0 m (pc + 3) ls rest)) : W p l e R s m args below meth c H locs cells slots Q (F0 m pc ls (.int x :: .ref (A (13 + k)) :: rest)) := th_put (C := RX0) (T := TX0) (N := 4) hx hb hts hin tyX0 tyX0_ok nmX0 hown hK hI (13 + k) (atC_art hk) rfl 3 (by decide) hlink rfl rfl (by decide +kernel) (by simp) (stC_X0_longing hk) hdg kk
theorem gC_X4_cells {k : Nat} (hk : k < 4) (hx : p.tables.exec = Jvm.exec) (hb : c.code = cc) (hts : ∀ w ∈ Ts, w.before args s = true) (hin : ∀ w ∈ wsX40, w ∈ Ts) (hown : s.vm.findClass own = some m.cls) (hK : va_K D vwCl (tyC cy) s) (hI : IW D (pcC cy A v r ++ X) A0 H0 H locs) (hlink : (Cond.fieldLink own index "TrickHouse$Sheet" "cells" "[I").before args s = true) (hdg : decode cc pc = .ok (.getfield index, 3)) (kk : W p l e R s m args below meth c H locs cells slots Q (F0 m (pc + 3) ls (.ref (A (23 + k)) :: rest))) : W p l e R s m args below meth c H locs cells slots Q (F0 m pc ls (.ref (A (19 + k)) :: rest)) := th_get (C := RX4) (T := TX4) (N := 3) hx hb hts hin hown hK hI (19 + k) (atC_sh hk) rfl 0 (by decide) hlink rfl rfl hdg kk
theorem gC_X4_lane {k : Nat} (hk : k < 4) (hx : p.tables.exec = Jvm.exec) (hb : c.code = cc) (hts : ∀ w ∈ Ts, w.before args s = true) (hin : ∀ w ∈ wsX40, w ∈ Ts) (hown : s.vm.findClass own = some m.cls) (hK : va_K D vwCl (tyC cy) s) (hI : IW D (pcC cy A v r ++ X) A0 H0 H locs) (hlink : (Cond.fieldLink own index "TrickHouse$Sheet" "lane" "I").before args s = true) (hdg : decode cc pc = .ok (.getfield index, 3)) (kk : W p l e R s m args below meth c H locs cells slots Q (F0 m (pc + 3) ls (.int (r 10 k) :: rest))) : W p l e R s m args below meth c H locs cells slots Q (F0 m pc ls (.ref (A (19 + k)) :: rest)) := th_get (C := RX4) (T := TX4) (N := 3) hx hb hts hin hown hK hI (19 + k) (atC_sh hk) rfl 1 (by decide) hlink rfl rfl hdg kk
theorem pC_X4_lane {k : Nat} (hk : k < 4) {x : Int32} (hx : p.tables.exec = Jvm.exec) (hb : c.code = cc) (hts : ∀ w ∈ Ts, w.before args s = true) (hin : ∀ w ∈ wsX40, w ∈ Ts) (hown : s.vm.findClass own = some m.cls) (hK : va_K D vwCl (tyC cy) s) (hI : IW D (pcC cy A v r ++ X) A0 H0 H locs) (hlink : (Cond.fieldLink own index "TrickHouse$Sheet" "lane" "I").before args s = true) (hdg : decode cc pc = .ok (.putfield index, 3)) (kk : ∀ (H1 : Heap) (locs1 : List Loc), IW D (pcC cy A v (va_up r 10 (upd (r 10) k x)) ++ X) A0 H0 H1 locs1 → W p l e R s m args below meth c H1 locs1 cells slots Q (F0 m (pc + 3) ls rest)) : W p l e R s m args below meth c H locs cells slots Q (F0 m pc ls (.int x :: .ref (A (19 + k)) :: rest)) := th_put (C := RX4) (T := TX4) (N := 3) hx hb hts hin tyX4 tyX4_ok nmX4 hown hK hI (19 + k) (atC_sh hk) rfl 1 (by decide) hlink rfl rfl (by decide +kernel) (by simp) (stC_X4_lane hk) hdg kk
theorem gC_X4_size {k : Nat} (hk : k < 4) (hx : p.tables.exec = Jvm.exec) (hb : c.code = cc) (hts : ∀ w ∈ Ts, w.before args s = true) (hin : ∀ w ∈ wsX40, w ∈ Ts) (hown : s.vm.findClass own = some m.cls) (hK : va_K D vwCl (tyC cy) s) (hI : IW D (pcC cy A v r ++ X) A0 H0 H locs) (hlink : (Cond.fieldLink own index "TrickHouse$Sheet" "size" "I").before args s = true) (hdg : decode cc pc = .ok (.getfield index, 3)) (kk : W p l e R s m args below meth c H locs cells slots Q (F0 m (pc + 3) ls (.int (r 11 k) :: rest))) : W p l e R s m args below meth c H locs cells slots Q (F0 m pc ls (.ref (A (19 + k)) :: rest)) := th_get (C := RX4) (T := TX4) (N := 3) hx hb hts hin hown hK hI (19 + k) (atC_sh hk) rfl 2 (by decide) hlink rfl rfl hdg kk
theorem pC_X4_size {k : Nat} (hk : k < 4) {x : Int32} (hx : p.tables.exec = Jvm.exec) (hb : c.code = cc) (hts : ∀ w ∈ Ts, w.before args s = true) (hin : ∀ w ∈ wsX40, w ∈ Ts) (hown : s.vm.findClass own = some m.cls) (hK : va_K D vwCl (tyC cy) s) (hI : IW D (pcC cy A v r ++ X) A0 H0 H locs) (hlink : (Cond.fieldLink own index "TrickHouse$Sheet" "size" "I").before args s = true) (hdg : decode cc pc = .ok (.putfield index, 3)) (kk : ∀ (H1 : Heap) (locs1 : List Loc), IW D (pcC cy A v (va_up r 11 (upd (r 11) k x)) ++ X) A0 H0 H1 locs1 → W p l e R s m args below meth c H1 locs1 cells slots Q (F0 m (pc + 3) ls rest)) : W p l e R s m args below meth c H locs cells slots Q (F0 m pc ls (.int x :: .ref (A (19 + k)) :: rest)) := th_put (C := RX4) (T := TX4) (N := 3) hx hb hts hin tyX4 tyX4_ok nmX4 hown hK hI (19 + k) (atC_sh hk) rfl 2 (by decide) hlink rfl rfl (by decide +kernel) (by simp) (stC_X4_size hk) hdg kk
theorem gM_fault (hx : p.tables.exec = Jvm.exec) (hb : c.code = cc) (hts : ∀ w ∈ Ts, w.before args s = true) (hin : ∀ w ∈ wsX80, w ∈ Ts) (hown : s.vm.findClass own = some m.cls) (hK : va_K D vwCl (tyC cy) s) (hI : IW D (pcM cy A v r ++ X) A0 H0 H locs) (hlink : (Cond.fieldLink own index "TrickHouseModel" "fault" "I").before args s = true) (hdg : decode cc pc = .ok (.getfield index, 3)) (kk : W p l e R s m args below meth c H locs cells slots Q (F0 m (pc + 3) ls (.int (v 0) :: rest))) : W p l e R s m args below meth c H locs cells slots Q (F0 m pc ls (.ref (A 0) :: rest)) := th_get (C := RX8) (T := TX8) (N := 32) hx hb hts hin hown hK hI 0 atM_0 rfl 0 (by decide) hlink rfl rfl hdg kk
theorem pM_fault {x : Int32} (hx : p.tables.exec = Jvm.exec) (hb : c.code = cc) (hts : ∀ w ∈ Ts, w.before args s = true) (hin : ∀ w ∈ wsX80, w ∈ Ts) (hown : s.vm.findClass own = some m.cls) (hK : va_K D vwCl (tyC cy) s) (hI : IW D (pcM cy A v r ++ X) A0 H0 H locs) (hlink : (Cond.fieldLink own index "TrickHouseModel" "fault" "I").before args s = true) (hdg : decode cc pc = .ok (.putfield index, 3)) (kk : ∀ (H1 : Heap) (locs1 : List Loc), IW D (pcM cy A (upd v 0 x) r ++ X) A0 H0 H1 locs1 → W p l e R s m args below meth c H1 locs1 cells slots Q (F0 m (pc + 3) ls rest)) : W p l e R s m args below meth c H locs cells slots Q (F0 m pc ls (.int x :: .ref (A 0) :: rest)) := th_put (C := RX8) (T := TX8) (N := 32) hx hb hts hin tyX8 tyX8_ok nmX8 hown hK hI 0 atM_0 rfl 0 (by decide) hlink rfl rfl (by decide +kernel) (by simp) rfl hdg kk
theorem gM_trace (hx : p.tables.exec = Jvm.exec) (hb : c.code = cc) (hts : ∀ w ∈ Ts, w.before args s = true) (hin : ∀ w ∈ wsX80, w ∈ Ts) (hown : s.vm.findClass own = some m.cls) (hK : va_K D vwCl (tyC cy) s) (hI : IW D (pcM cy A v r ++ X) A0 H0 H locs) (hlink : (Cond.fieldLink own index "TrickHouseModel" "trace" "I").before args s = true) (hdg : decode cc pc = .ok (.getfield index, 3)) (kk : W p l e R s m args below meth c H locs cells slots Q (F0 m (pc + 3) ls (.int (v 1) :: rest))) : W p l e R s m args below meth c H locs cells slots Q (F0 m pc ls (.ref (A 0) :: rest)) := th_get (C := RX8) (T := TX8) (N := 32) hx hb hts hin hown hK hI 0 atM_0 rfl 1 (by decide) hlink rfl rfl hdg kk
theorem pM_trace {x : Int32} (hx : p.tables.exec = Jvm.exec) (hb : c.code = cc) (hts : ∀ w ∈ Ts, w.before args s = true) (hin : ∀ w ∈ wsX80, w ∈ Ts) (hown : s.vm.findClass own = some m.cls) (hK : va_K D vwCl (tyC cy) s) (hI : IW D (pcM cy A v r ++ X) A0 H0 H locs) (hlink : (Cond.fieldLink own index "TrickHouseModel" "trace" "I").before args s = true) (hdg : decode cc pc = .ok (.putfield index, 3)) (kk : ∀ (H1 : Heap) (locs1 : List Loc), IW D (pcM cy A (upd v 1 x) r ++ X) A0 H0 H1 locs1 → W p l e R s m args below meth c H1 locs1 cells slots Q (F0 m (pc + 3) ls rest)) : W p l e R s m args below meth c H locs cells slots Q (F0 m pc ls (.int x :: .ref (A 0) :: rest)) := th_put (C := RX8) (T := TX8) (N := 32) hx hb hts hin tyX8 tyX8_ok nmX8 hown hK hI 0 atM_0 rfl 1 (by decide) hlink rfl rfl (by decide +kernel) (by simp) rfl hdg kk
theorem gM_sorts (hx : p.tables.exec = Jvm.exec) (hb : c.code = cc) (hts : ∀ w ∈ Ts, w.before args s = true) (hin : ∀ w ∈ wsX80, w ∈ Ts) (hown : s.vm.findClass own = some m.cls) (hK : va_K D vwCl (tyC cy) s) (hI : IW D (pcM cy A v r ++ X) A0 H0 H locs) (hlink : (Cond.fieldLink own index "TrickHouseModel" "sorts" "[I").before args s = true) (hdg : decode cc pc = .ok (.getfield index, 3)) (kk : W p l e R s m args below meth c H locs cells slots Q (F0 m (pc + 3) ls (.ref (A 1) :: rest))) : W p l e R s m args below meth c H locs cells slots Q (F0 m pc ls (.ref (A 0) :: rest)) := th_get (C := RX8) (T := TX8) (N := 32) hx hb hts hin hown hK hI 0 atM_0 rfl 2 (by decide) hlink rfl rfl hdg kk
theorem gM_sheetLong (hx : p.tables.exec = Jvm.exec) (hb : c.code = cc) (hts : ∀ w ∈ Ts, w.before args s = true) (hin : ∀ w ∈ wsX80, w ∈ Ts) (hown : s.vm.findClass own = some m.cls) (hK : va_K D vwCl (tyC cy) s) (hI : IW D (pcM cy A v r ++ X) A0 H0 H locs) (hlink : (Cond.fieldLink own index "TrickHouseModel" "sheetLong" "[I").before args s = true) (hdg : decode cc pc = .ok (.getfield index, 3)) (kk : W p l e R s m args below meth c H locs cells slots Q (F0 m (pc + 3) ls (.ref (A 2) :: rest))) : W p l e R s m args below meth c H locs cells slots Q (F0 m pc ls (.ref (A 0) :: rest)) := th_get (C := RX8) (T := TX8) (N := 32) hx hb hts hin hown hK hI 0 atM_0 rfl 3 (by decide) hlink rfl rfl hdg kk
theorem gM_cells (hx : p.tables.exec = Jvm.exec) (hb : c.code = cc) (hts : ∀ w ∈ Ts, w.before args s = true) (hin : ∀ w ∈ wsX80, w ∈ Ts) (hown : s.vm.findClass own = some m.cls) (hK : va_K D vwCl (tyC cy) s) (hI : IW D (pcM cy A v r ++ X) A0 H0 H locs) (hlink : (Cond.fieldLink own index "TrickHouseModel" "cells" "[I").before args s = true) (hdg : decode cc pc = .ok (.getfield index, 3)) (kk : W p l e R s m args below meth c H locs cells slots Q (F0 m (pc + 3) ls (.ref (A 3) :: rest))) : W p l e R s m args below meth c H locs cells slots Q (F0 m pc ls (.ref (A 0) :: rest)) := th_get (C := RX8) (T := TX8) (N := 32) hx hb hts hin hown hK hI 0 atM_0 rfl 4 (by decide) hlink rfl rfl hdg kk
theorem gM_stands (hx : p.tables.exec = Jvm.exec) (hb : c.code = cc) (hts : ∀ w ∈ Ts, w.before args s = true) (hin : ∀ w ∈ wsX80, w ∈ Ts) (hown : s.vm.findClass own = some m.cls) (hK : va_K D vwCl (tyC cy) s) (hI : IW D (pcM cy A v r ++ X) A0 H0 H locs) (hlink : (Cond.fieldLink own index "TrickHouseModel" "stands" "I").before args s = true) (hdg : decode cc pc = .ok (.getfield index, 3)) (kk : W p l e R s m args below meth c H locs cells slots Q (F0 m (pc + 3) ls (.int (v 2) :: rest))) : W p l e R s m args below meth c H locs cells slots Q (F0 m pc ls (.ref (A 0) :: rest)) := th_get (C := RX8) (T := TX8) (N := 32) hx hb hts hin hown hK hI 0 atM_0 rfl 5 (by decide) hlink rfl rfl hdg kk
theorem pM_stands {x : Int32} (hx : p.tables.exec = Jvm.exec) (hb : c.code = cc) (hts : ∀ w ∈ Ts, w.before args s = true) (hin : ∀ w ∈ wsX80, w ∈ Ts) (hown : s.vm.findClass own = some m.cls) (hK : va_K D vwCl (tyC cy) s) (hI : IW D (pcM cy A v r ++ X) A0 H0 H locs) (hlink : (Cond.fieldLink own index "TrickHouseModel" "stands" "I").before args s = true) (hdg : decode cc pc = .ok (.putfield index, 3)) (kk : ∀ (H1 : Heap) (locs1 : List Loc), IW D (pcM cy A (upd v 2 x) r ++ X) A0 H0 H1 locs1 → W p l e R s m args below meth c H1 locs1 cells slots Q (F0 m (pc + 3) ls rest)) : W p l e R s m args below meth c H locs cells slots Q (F0 m pc ls (.int x :: .ref (A 0) :: rest)) := th_put (C := RX8) (T := TX8) (N := 32) hx hb hts hin tyX8 tyX8_ok nmX8 hown hK hI 0 atM_0 rfl 5 (by decide) hlink rfl rfl (by decide +kernel) (by simp) rfl hdg kk
theorem gM_rooms (hx : p.tables.exec = Jvm.exec) (hb : c.code = cc) (hts : ∀ w ∈ Ts, w.before args s = true) (hin : ∀ w ∈ wsX80, w ∈ Ts) (hown : s.vm.findClass own = some m.cls) (hK : va_K D vwCl (tyC cy) s) (hI : IW D (pcM cy A v r ++ X) A0 H0 H locs) (hlink : (Cond.fieldLink own index "TrickHouseModel" "rooms" "I").before args s = true) (hdg : decode cc pc = .ok (.getfield index, 3)) (kk : W p l e R s m args below meth c H locs cells slots Q (F0 m (pc + 3) ls (.int (v 3) :: rest))) : W p l e R s m args below meth c H locs cells slots Q (F0 m pc ls (.ref (A 0) :: rest)) := th_get (C := RX8) (T := TX8) (N := 32) hx hb hts hin hown hK hI 0 atM_0 rfl 6 (by decide) hlink rfl rfl hdg kk
theorem pM_rooms {x : Int32} (hx : p.tables.exec = Jvm.exec) (hb : c.code = cc) (hts : ∀ w ∈ Ts, w.before args s = true) (hin : ∀ w ∈ wsX80, w ∈ Ts) (hown : s.vm.findClass own = some m.cls) (hK : va_K D vwCl (tyC cy) s) (hI : IW D (pcM cy A v r ++ X) A0 H0 H locs) (hlink : (Cond.fieldLink own index "TrickHouseModel" "rooms" "I").before args s = true) (hdg : decode cc pc = .ok (.putfield index, 3)) (kk : ∀ (H1 : Heap) (locs1 : List Loc), IW D (pcM cy A (upd v 3 x) r ++ X) A0 H0 H1 locs1 → W p l e R s m args below meth c H1 locs1 cells slots Q (F0 m (pc + 3) ls rest)) : W p l e R s m args below meth c H locs cells slots Q (F0 m pc ls (.int x :: .ref (A 0) :: rest)) := th_put (C := RX8) (T := TX8) (N := 32) hx hb hts hin tyX8 tyX8_ok nmX8 hown hK hI 0 atM_0 rfl 6 (by decide) hlink rfl rfl (by decide +kernel) (by simp) rfl hdg kk
theorem gM_articles (hx : p.tables.exec = Jvm.exec) (hb : c.code = cc) (hts : ∀ w ∈ Ts, w.before args s = true) (hin : ∀ w ∈ wsX80, w ∈ Ts) (hown : s.vm.findClass own = some m.cls) (hK : va_K D vwCl (tyC cy) s) (hI : IW D (pcM cy A v r ++ X) A0 H0 H locs) (hlink : (Cond.fieldLink own index "TrickHouseModel" "articles" "I").before args s = true) (hdg : decode cc pc = .ok (.getfield index, 3)) (kk : W p l e R s m args below meth c H locs cells slots Q (F0 m (pc + 3) ls (.int (v 4) :: rest))) : W p l e R s m args below meth c H locs cells slots Q (F0 m pc ls (.ref (A 0) :: rest)) := th_get (C := RX8) (T := TX8) (N := 32) hx hb hts hin hown hK hI 0 atM_0 rfl 7 (by decide) hlink rfl rfl hdg kk
theorem pM_articles {x : Int32} (hx : p.tables.exec = Jvm.exec) (hb : c.code = cc) (hts : ∀ w ∈ Ts, w.before args s = true) (hin : ∀ w ∈ wsX80, w ∈ Ts) (hown : s.vm.findClass own = some m.cls) (hK : va_K D vwCl (tyC cy) s) (hI : IW D (pcM cy A v r ++ X) A0 H0 H locs) (hlink : (Cond.fieldLink own index "TrickHouseModel" "articles" "I").before args s = true) (hdg : decode cc pc = .ok (.putfield index, 3)) (kk : ∀ (H1 : Heap) (locs1 : List Loc), IW D (pcM cy A (upd v 4 x) r ++ X) A0 H0 H1 locs1 → W p l e R s m args below meth c H1 locs1 cells slots Q (F0 m (pc + 3) ls rest)) : W p l e R s m args below meth c H locs cells slots Q (F0 m pc ls (.int x :: .ref (A 0) :: rest)) := th_put (C := RX8) (T := TX8) (N := 32) hx hb hts hin tyX8 tyX8_ok nmX8 hown hK hI 0 atM_0 rfl 7 (by decide) hlink rfl rfl (by decide +kernel) (by simp) rfl hdg kk
theorem gM_thereNow (hx : p.tables.exec = Jvm.exec) (hb : c.code = cc) (hts : ∀ w ∈ Ts, w.before args s = true) (hin : ∀ w ∈ wsX80, w ∈ Ts) (hown : s.vm.findClass own = some m.cls) (hK : va_K D vwCl (tyC cy) s) (hI : IW D (pcM cy A v r ++ X) A0 H0 H locs) (hlink : (Cond.fieldLink own index "TrickHouseModel" "thereNow" "I").before args s = true) (hdg : decode cc pc = .ok (.getfield index, 3)) (kk : W p l e R s m args below meth c H locs cells slots Q (F0 m (pc + 3) ls (.int (v 5) :: rest))) : W p l e R s m args below meth c H locs cells slots Q (F0 m pc ls (.ref (A 0) :: rest)) := th_get (C := RX8) (T := TX8) (N := 32) hx hb hts hin hown hK hI 0 atM_0 rfl 8 (by decide) hlink rfl rfl hdg kk
theorem pM_thereNow {x : Int32} (hx : p.tables.exec = Jvm.exec) (hb : c.code = cc) (hts : ∀ w ∈ Ts, w.before args s = true) (hin : ∀ w ∈ wsX80, w ∈ Ts) (hown : s.vm.findClass own = some m.cls) (hK : va_K D vwCl (tyC cy) s) (hI : IW D (pcM cy A v r ++ X) A0 H0 H locs) (hlink : (Cond.fieldLink own index "TrickHouseModel" "thereNow" "I").before args s = true) (hdg : decode cc pc = .ok (.putfield index, 3)) (kk : ∀ (H1 : Heap) (locs1 : List Loc), IW D (pcM cy A (upd v 5 x) r ++ X) A0 H0 H1 locs1 → W p l e R s m args below meth c H1 locs1 cells slots Q (F0 m (pc + 3) ls rest)) : W p l e R s m args below meth c H locs cells slots Q (F0 m pc ls (.int x :: .ref (A 0) :: rest)) := th_put (C := RX8) (T := TX8) (N := 32) hx hb hts hin tyX8 tyX8_ok nmX8 hown hK hI 0 atM_0 rfl 8 (by decide) hlink rfl rfl (by decide +kernel) (by simp) rfl hdg kk
theorem gM_spaceOf (hx : p.tables.exec = Jvm.exec) (hb : c.code = cc) (hts : ∀ w ∈ Ts, w.before args s = true) (hin : ∀ w ∈ wsX80, w ∈ Ts) (hown : s.vm.findClass own = some m.cls) (hK : va_K D vwCl (tyC cy) s) (hI : IW D (pcM cy A v r ++ X) A0 H0 H locs) (hlink : (Cond.fieldLink own index "TrickHouseModel" "spaceOf" "[I").before args s = true) (hdg : decode cc pc = .ok (.getfield index, 3)) (kk : W p l e R s m args below meth c H locs cells slots Q (F0 m (pc + 3) ls (.ref (A 4) :: rest))) : W p l e R s m args below meth c H locs cells slots Q (F0 m pc ls (.ref (A 0) :: rest)) := th_get (C := RX8) (T := TX8) (N := 32) hx hb hts hin hown hK hI 0 atM_0 rfl 9 (by decide) hlink rfl rfl hdg kk
theorem gM_kind (hx : p.tables.exec = Jvm.exec) (hb : c.code = cc) (hts : ∀ w ∈ Ts, w.before args s = true) (hin : ∀ w ∈ wsX80, w ∈ Ts) (hown : s.vm.findClass own = some m.cls) (hK : va_K D vwCl (tyC cy) s) (hI : IW D (pcM cy A v r ++ X) A0 H0 H locs) (hlink : (Cond.fieldLink own index "TrickHouseModel" "kind" "[I").before args s = true) (hdg : decode cc pc = .ok (.getfield index, 3)) (kk : W p l e R s m args below meth c H locs cells slots Q (F0 m (pc + 3) ls (.ref (A 5) :: rest))) : W p l e R s m args below meth c H locs cells slots Q (F0 m pc ls (.ref (A 0) :: rest)) := th_get (C := RX8) (T := TX8) (N := 32) hx hb hts hin hown hK hI 0 atM_0 rfl 10 (by decide) hlink rfl rfl hdg kk
theorem gM_bulk (hx : p.tables.exec = Jvm.exec) (hb : c.code = cc) (hts : ∀ w ∈ Ts, w.before args s = true) (hin : ∀ w ∈ wsX80, w ∈ Ts) (hown : s.vm.findClass own = some m.cls) (hK : va_K D vwCl (tyC cy) s) (hI : IW D (pcM cy A v r ++ X) A0 H0 H locs) (hlink : (Cond.fieldLink own index "TrickHouseModel" "bulk" "[I").before args s = true) (hdg : decode cc pc = .ok (.getfield index, 3)) (kk : W p l e R s m args below meth c H locs cells slots Q (F0 m (pc + 3) ls (.ref (A 6) :: rest))) : W p l e R s m args below meth c H locs cells slots Q (F0 m pc ls (.ref (A 0) :: rest)) := th_get (C := RX8) (T := TX8) (N := 32) hx hb hts hin hown hK hI 0 atM_0 rfl 11 (by decide) hlink rfl rfl hdg kk
theorem gM_gaiety (hx : p.tables.exec = Jvm.exec) (hb : c.code = cc) (hts : ∀ w ∈ Ts, w.before args s = true) (hin : ∀ w ∈ wsX80, w ∈ Ts) (hown : s.vm.findClass own = some m.cls) (hK : va_K D vwCl (tyC cy) s) (hI : IW D (pcM cy A v r ++ X) A0 H0 H locs) (hlink : (Cond.fieldLink own index "TrickHouseModel" "gaiety" "[I").before args s = true) (hdg : decode cc pc = .ok (.getfield index, 3)) (kk : W p l e R s m args below meth c H locs cells slots Q (F0 m (pc + 3) ls (.ref (A 7) :: rest))) : W p l e R s m args below meth c H locs cells slots Q (F0 m pc ls (.ref (A 0) :: rest)) := th_get (C := RX8) (T := TX8) (N := 32) hx hb hts hin hown hK hI 0 atM_0 rfl 12 (by decide) hlink rfl rfl hdg kk
theorem gM_longing (hx : p.tables.exec = Jvm.exec) (hb : c.code = cc) (hts : ∀ w ∈ Ts, w.before args s = true) (hin : ∀ w ∈ wsX80, w ∈ Ts) (hown : s.vm.findClass own = some m.cls) (hK : va_K D vwCl (tyC cy) s) (hI : IW D (pcM cy A v r ++ X) A0 H0 H locs) (hlink : (Cond.fieldLink own index "TrickHouseModel" "longing" "[I").before args s = true) (hdg : decode cc pc = .ok (.getfield index, 3)) (kk : W p l e R s m args below meth c H locs cells slots Q (F0 m (pc + 3) ls (.ref (A 8) :: rest))) : W p l e R s m args below meth c H locs cells slots Q (F0 m pc ls (.ref (A 0) :: rest)) := th_get (C := RX8) (T := TX8) (N := 32) hx hb hts hin hown hK hI 0 atM_0 rfl 13 (by decide) hlink rfl rfl hdg kk
theorem gM_at (hx : p.tables.exec = Jvm.exec) (hb : c.code = cc) (hts : ∀ w ∈ Ts, w.before args s = true) (hin : ∀ w ∈ wsX80, w ∈ Ts) (hown : s.vm.findClass own = some m.cls) (hK : va_K D vwCl (tyC cy) s) (hI : IW D (pcM cy A v r ++ X) A0 H0 H locs) (hlink : (Cond.fieldLink own index "TrickHouseModel" "at" "I").before args s = true) (hdg : decode cc pc = .ok (.getfield index, 3)) (kk : W p l e R s m args below meth c H locs cells slots Q (F0 m (pc + 3) ls (.int (v 6) :: rest))) : W p l e R s m args below meth c H locs cells slots Q (F0 m pc ls (.ref (A 0) :: rest)) := th_get (C := RX8) (T := TX8) (N := 32) hx hb hts hin hown hK hI 0 atM_0 rfl 14 (by decide) hlink rfl rfl hdg kk
theorem pM_at {x : Int32} (hx : p.tables.exec = Jvm.exec) (hb : c.code = cc) (hts : ∀ w ∈ Ts, w.before args s = true) (hin : ∀ w ∈ wsX80, w ∈ Ts) (hown : s.vm.findClass own = some m.cls) (hK : va_K D vwCl (tyC cy) s) (hI : IW D (pcM cy A v r ++ X) A0 H0 H locs) (hlink : (Cond.fieldLink own index "TrickHouseModel" "at" "I").before args s = true) (hdg : decode cc pc = .ok (.putfield index, 3)) (kk : ∀ (H1 : Heap) (locs1 : List Loc), IW D (pcM cy A (upd v 6 x) r ++ X) A0 H0 H1 locs1 → W p l e R s m args below meth c H1 locs1 cells slots Q (F0 m (pc + 3) ls rest)) : W p l e R s m args below meth c H locs cells slots Q (F0 m pc ls (.int x :: .ref (A 0) :: rest)) := th_put (C := RX8) (T := TX8) (N := 32) hx hb hts hin tyX8 tyX8_ok nmX8 hown hK hI 0 atM_0 rfl 14 (by decide) hlink rfl rfl (by decide +kernel) (by simp) rfl hdg kk
theorem gM_readStands (hx : p.tables.exec = Jvm.exec) (hb : c.code = cc) (hts : ∀ w ∈ Ts, w.before args s = true) (hin : ∀ w ∈ wsX80, w ∈ Ts) (hown : s.vm.findClass own = some m.cls) (hK : va_K D vwCl (tyC cy) s) (hI : IW D (pcM cy A v r ++ X) A0 H0 H locs) (hlink : (Cond.fieldLink own index "TrickHouseModel" "readStands" "I").before args s = true) (hdg : decode cc pc = .ok (.getfield index, 3)) (kk : W p l e R s m args below meth c H locs cells slots Q (F0 m (pc + 3) ls (.int (v 7) :: rest))) : W p l e R s m args below meth c H locs cells slots Q (F0 m pc ls (.ref (A 0) :: rest)) := th_get (C := RX8) (T := TX8) (N := 32) hx hb hts hin hown hK hI 0 atM_0 rfl 15 (by decide) hlink rfl rfl hdg kk
theorem pM_readStands {x : Int32} (hx : p.tables.exec = Jvm.exec) (hb : c.code = cc) (hts : ∀ w ∈ Ts, w.before args s = true) (hin : ∀ w ∈ wsX80, w ∈ Ts) (hown : s.vm.findClass own = some m.cls) (hK : va_K D vwCl (tyC cy) s) (hI : IW D (pcM cy A v r ++ X) A0 H0 H locs) (hlink : (Cond.fieldLink own index "TrickHouseModel" "readStands" "I").before args s = true) (hdg : decode cc pc = .ok (.putfield index, 3)) (kk : ∀ (H1 : Heap) (locs1 : List Loc), IW D (pcM cy A (upd v 7 x) r ++ X) A0 H0 H1 locs1 → W p l e R s m args below meth c H1 locs1 cells slots Q (F0 m (pc + 3) ls rest)) : W p l e R s m args below meth c H locs cells slots Q (F0 m pc ls (.int x :: .ref (A 0) :: rest)) := th_put (C := RX8) (T := TX8) (N := 32) hx hb hts hin tyX8 tyX8_ok nmX8 hown hK hI 0 atM_0 rfl 15 (by decide) hlink rfl rfl (by decide +kernel) (by simp) rfl hdg kk
theorem gM_readRooms (hx : p.tables.exec = Jvm.exec) (hb : c.code = cc) (hts : ∀ w ∈ Ts, w.before args s = true) (hin : ∀ w ∈ wsX80, w ∈ Ts) (hown : s.vm.findClass own = some m.cls) (hK : va_K D vwCl (tyC cy) s) (hI : IW D (pcM cy A v r ++ X) A0 H0 H locs) (hlink : (Cond.fieldLink own index "TrickHouseModel" "readRooms" "I").before args s = true) (hdg : decode cc pc = .ok (.getfield index, 3)) (kk : W p l e R s m args below meth c H locs cells slots Q (F0 m (pc + 3) ls (.int (v 8) :: rest))) : W p l e R s m args below meth c H locs cells slots Q (F0 m pc ls (.ref (A 0) :: rest)) := th_get (C := RX8) (T := TX8) (N := 32) hx hb hts hin hown hK hI 0 atM_0 rfl 16 (by decide) hlink rfl rfl hdg kk
theorem pM_readRooms {x : Int32} (hx : p.tables.exec = Jvm.exec) (hb : c.code = cc) (hts : ∀ w ∈ Ts, w.before args s = true) (hin : ∀ w ∈ wsX80, w ∈ Ts) (hown : s.vm.findClass own = some m.cls) (hK : va_K D vwCl (tyC cy) s) (hI : IW D (pcM cy A v r ++ X) A0 H0 H locs) (hlink : (Cond.fieldLink own index "TrickHouseModel" "readRooms" "I").before args s = true) (hdg : decode cc pc = .ok (.putfield index, 3)) (kk : ∀ (H1 : Heap) (locs1 : List Loc), IW D (pcM cy A (upd v 8 x) r ++ X) A0 H0 H1 locs1 → W p l e R s m args below meth c H1 locs1 cells slots Q (F0 m (pc + 3) ls rest)) : W p l e R s m args below meth c H locs cells slots Q (F0 m pc ls (.int x :: .ref (A 0) :: rest)) := th_put (C := RX8) (T := TX8) (N := 32) hx hb hts hin tyX8 tyX8_ok nmX8 hown hK hI 0 atM_0 rfl 16 (by decide) hlink rfl rfl (by decide +kernel) (by simp) rfl hdg kk
theorem gM_readArticles (hx : p.tables.exec = Jvm.exec) (hb : c.code = cc) (hts : ∀ w ∈ Ts, w.before args s = true) (hin : ∀ w ∈ wsX80, w ∈ Ts) (hown : s.vm.findClass own = some m.cls) (hK : va_K D vwCl (tyC cy) s) (hI : IW D (pcM cy A v r ++ X) A0 H0 H locs) (hlink : (Cond.fieldLink own index "TrickHouseModel" "readArticles" "I").before args s = true) (hdg : decode cc pc = .ok (.getfield index, 3)) (kk : W p l e R s m args below meth c H locs cells slots Q (F0 m (pc + 3) ls (.int (v 9) :: rest))) : W p l e R s m args below meth c H locs cells slots Q (F0 m pc ls (.ref (A 0) :: rest)) := th_get (C := RX8) (T := TX8) (N := 32) hx hb hts hin hown hK hI 0 atM_0 rfl 17 (by decide) hlink rfl rfl hdg kk
theorem pM_readArticles {x : Int32} (hx : p.tables.exec = Jvm.exec) (hb : c.code = cc) (hts : ∀ w ∈ Ts, w.before args s = true) (hin : ∀ w ∈ wsX80, w ∈ Ts) (hown : s.vm.findClass own = some m.cls) (hK : va_K D vwCl (tyC cy) s) (hI : IW D (pcM cy A v r ++ X) A0 H0 H locs) (hlink : (Cond.fieldLink own index "TrickHouseModel" "readArticles" "I").before args s = true) (hdg : decode cc pc = .ok (.putfield index, 3)) (kk : ∀ (H1 : Heap) (locs1 : List Loc), IW D (pcM cy A (upd v 9 x) r ++ X) A0 H0 H1 locs1 → W p l e R s m args below meth c H1 locs1 cells slots Q (F0 m (pc + 3) ls rest)) : W p l e R s m args below meth c H locs cells slots Q (F0 m pc ls (.int x :: .ref (A 0) :: rest)) := th_put (C := RX8) (T := TX8) (N := 32) hx hb hts hin tyX8 tyX8_ok nmX8 hown hK hI 0 atM_0 rfl 17 (by decide) hlink rfl rfl (by decide +kernel) (by simp) rfl hdg kk
theorem gM_readSpace (hx : p.tables.exec = Jvm.exec) (hb : c.code = cc) (hts : ∀ w ∈ Ts, w.before args s = true) (hin : ∀ w ∈ wsX80, w ∈ Ts) (hown : s.vm.findClass own = some m.cls) (hK : va_K D vwCl (tyC cy) s) (hI : IW D (pcM cy A v r ++ X) A0 H0 H locs) (hlink : (Cond.fieldLink own index "TrickHouseModel" "readSpace" "[I").before args s = true) (hdg : decode cc pc = .ok (.getfield index, 3)) (kk : W p l e R s m args below meth c H locs cells slots Q (F0 m (pc + 3) ls (.ref (A 9) :: rest))) : W p l e R s m args below meth c H locs cells slots Q (F0 m pc ls (.ref (A 0) :: rest)) := th_get (C := RX8) (T := TX8) (N := 32) hx hb hts hin hown hK hI 0 atM_0 rfl 18 (by decide) hlink rfl rfl hdg kk
theorem gM_readKind (hx : p.tables.exec = Jvm.exec) (hb : c.code = cc) (hts : ∀ w ∈ Ts, w.before args s = true) (hin : ∀ w ∈ wsX80, w ∈ Ts) (hown : s.vm.findClass own = some m.cls) (hK : va_K D vwCl (tyC cy) s) (hI : IW D (pcM cy A v r ++ X) A0 H0 H locs) (hlink : (Cond.fieldLink own index "TrickHouseModel" "readKind" "[I").before args s = true) (hdg : decode cc pc = .ok (.getfield index, 3)) (kk : W p l e R s m args below meth c H locs cells slots Q (F0 m (pc + 3) ls (.ref (A 10) :: rest))) : W p l e R s m args below meth c H locs cells slots Q (F0 m pc ls (.ref (A 0) :: rest)) := th_get (C := RX8) (T := TX8) (N := 32) hx hb hts hin hown hK hI 0 atM_0 rfl 19 (by decide) hlink rfl rfl hdg kk
theorem gM_readBulk (hx : p.tables.exec = Jvm.exec) (hb : c.code = cc) (hts : ∀ w ∈ Ts, w.before args s = true) (hin : ∀ w ∈ wsX80, w ∈ Ts) (hown : s.vm.findClass own = some m.cls) (hK : va_K D vwCl (tyC cy) s) (hI : IW D (pcM cy A v r ++ X) A0 H0 H locs) (hlink : (Cond.fieldLink own index "TrickHouseModel" "readBulk" "[I").before args s = true) (hdg : decode cc pc = .ok (.getfield index, 3)) (kk : W p l e R s m args below meth c H locs cells slots Q (F0 m (pc + 3) ls (.ref (A 11) :: rest))) : W p l e R s m args below meth c H locs cells slots Q (F0 m pc ls (.ref (A 0) :: rest)) := th_get (C := RX8) (T := TX8) (N := 32) hx hb hts hin hown hK hI 0 atM_0 rfl 20 (by decide) hlink rfl rfl hdg kk
theorem gM_readGaiety (hx : p.tables.exec = Jvm.exec) (hb : c.code = cc) (hts : ∀ w ∈ Ts, w.before args s = true) (hin : ∀ w ∈ wsX80, w ∈ Ts) (hown : s.vm.findClass own = some m.cls) (hK : va_K D vwCl (tyC cy) s) (hI : IW D (pcM cy A v r ++ X) A0 H0 H locs) (hlink : (Cond.fieldLink own index "TrickHouseModel" "readGaiety" "[I").before args s = true) (hdg : decode cc pc = .ok (.getfield index, 3)) (kk : W p l e R s m args below meth c H locs cells slots Q (F0 m (pc + 3) ls (.ref (A 12) :: rest))) : W p l e R s m args below meth c H locs cells slots Q (F0 m pc ls (.ref (A 0) :: rest)) := th_get (C := RX8) (T := TX8) (N := 32) hx hb hts hin hown hK hI 0 atM_0 rfl 21 (by decide) hlink rfl rfl hdg kk
theorem gM_readLonging (hx : p.tables.exec = Jvm.exec) (hb : c.code = cc) (hts : ∀ w ∈ Ts, w.before args s = true) (hin : ∀ w ∈ wsX80, w ∈ Ts) (hown : s.vm.findClass own = some m.cls) (hK : va_K D vwCl (tyC cy) s) (hI : IW D (pcM cy A v r ++ X) A0 H0 H locs) (hlink : (Cond.fieldLink own index "TrickHouseModel" "readLonging" "[I").before args s = true) (hdg : decode cc pc = .ok (.getfield index, 3)) (kk : W p l e R s m args below meth c H locs cells slots Q (F0 m (pc + 3) ls (.ref (A 13) :: rest))) : W p l e R s m args below meth c H locs cells slots Q (F0 m pc ls (.ref (A 0) :: rest)) := th_get (C := RX8) (T := TX8) (N := 32) hx hb hts hin hown hK hI 0 atM_0 rfl 22 (by decide) hlink rfl rfl hdg kk
theorem gM_away (hx : p.tables.exec = Jvm.exec) (hb : c.code = cc) (hts : ∀ w ∈ Ts, w.before args s = true) (hin : ∀ w ∈ wsX80, w ∈ Ts) (hown : s.vm.findClass own = some m.cls) (hK : va_K D vwCl (tyC cy) s) (hI : IW D (pcM cy A v r ++ X) A0 H0 H locs) (hlink : (Cond.fieldLink own index "TrickHouseModel" "away" "I").before args s = true) (hdg : decode cc pc = .ok (.getfield index, 3)) (kk : W p l e R s m args below meth c H locs cells slots Q (F0 m (pc + 3) ls (.int (v 10) :: rest))) : W p l e R s m args below meth c H locs cells slots Q (F0 m pc ls (.ref (A 0) :: rest)) := th_get (C := RX8) (T := TX8) (N := 32) hx hb hts hin hown hK hI 0 atM_0 rfl 23 (by decide) hlink rfl rfl hdg kk
theorem pM_away {x : Int32} (hx : p.tables.exec = Jvm.exec) (hb : c.code = cc) (hts : ∀ w ∈ Ts, w.before args s = true) (hin : ∀ w ∈ wsX80, w ∈ Ts) (hown : s.vm.findClass own = some m.cls) (hK : va_K D vwCl (tyC cy) s) (hI : IW D (pcM cy A v r ++ X) A0 H0 H locs) (hlink : (Cond.fieldLink own index "TrickHouseModel" "away" "I").before args s = true) (hdg : decode cc pc = .ok (.putfield index, 3)) (kk : ∀ (H1 : Heap) (locs1 : List Loc), IW D (pcM cy A (upd v 10 x) r ++ X) A0 H0 H1 locs1 → W p l e R s m args below meth c H1 locs1 cells slots Q (F0 m (pc + 3) ls rest)) : W p l e R s m args below meth c H locs cells slots Q (F0 m pc ls (.int x :: .ref (A 0) :: rest)) := th_put (C := RX8) (T := TX8) (N := 32) hx hb hts hin tyX8 tyX8_ok nmX8 hown hK hI 0 atM_0 rfl 23 (by decide) hlink rfl rfl (by decide +kernel) (by simp) rfl hdg kk
theorem gM_loudest (hx : p.tables.exec = Jvm.exec) (hb : c.code = cc) (hts : ∀ w ∈ Ts, w.before args s = true) (hin : ∀ w ∈ wsX80, w ∈ Ts) (hown : s.vm.findClass own = some m.cls) (hK : va_K D vwCl (tyC cy) s) (hI : IW D (pcM cy A v r ++ X) A0 H0 H locs) (hlink : (Cond.fieldLink own index "TrickHouseModel" "loudest" "I").before args s = true) (hdg : decode cc pc = .ok (.getfield index, 3)) (kk : W p l e R s m args below meth c H locs cells slots Q (F0 m (pc + 3) ls (.int (v 11) :: rest))) : W p l e R s m args below meth c H locs cells slots Q (F0 m pc ls (.ref (A 0) :: rest)) := th_get (C := RX8) (T := TX8) (N := 32) hx hb hts hin hown hK hI 0 atM_0 rfl 24 (by decide) hlink rfl rfl hdg kk
theorem pM_loudest {x : Int32} (hx : p.tables.exec = Jvm.exec) (hb : c.code = cc) (hts : ∀ w ∈ Ts, w.before args s = true) (hin : ∀ w ∈ wsX80, w ∈ Ts) (hown : s.vm.findClass own = some m.cls) (hK : va_K D vwCl (tyC cy) s) (hI : IW D (pcM cy A v r ++ X) A0 H0 H locs) (hlink : (Cond.fieldLink own index "TrickHouseModel" "loudest" "I").before args s = true) (hdg : decode cc pc = .ok (.putfield index, 3)) (kk : ∀ (H1 : Heap) (locs1 : List Loc), IW D (pcM cy A (upd v 11 x) r ++ X) A0 H0 H1 locs1 → W p l e R s m args below meth c H1 locs1 cells slots Q (F0 m (pc + 3) ls rest)) : W p l e R s m args below meth c H locs cells slots Q (F0 m pc ls (.int x :: .ref (A 0) :: rest)) := th_put (C := RX8) (T := TX8) (N := 32) hx hb hts hin tyX8 tyX8_ok nmX8 hown hK hI 0 atM_0 rfl 24 (by decide) hlink rfl rfl (by decide +kernel) (by simp) rfl hdg kk
theorem gM_room (hx : p.tables.exec = Jvm.exec) (hb : c.code = cc) (hts : ∀ w ∈ Ts, w.before args s = true) (hin : ∀ w ∈ wsX80, w ∈ Ts) (hown : s.vm.findClass own = some m.cls) (hK : va_K D vwCl (tyC cy) s) (hI : IW D (pcM cy A v r ++ X) A0 H0 H locs) (hlink : (Cond.fieldLink own index "TrickHouseModel" "room" "[I").before args s = true) (hdg : decode cc pc = .ok (.getfield index, 3)) (kk : W p l e R s m args below meth c H locs cells slots Q (F0 m (pc + 3) ls (.ref (A 14) :: rest))) : W p l e R s m args below meth c H locs cells slots Q (F0 m pc ls (.ref (A 0) :: rest)) := th_get (C := RX8) (T := TX8) (N := 32) hx hb hts hin hown hK hI 0 atM_0 rfl 25 (by decide) hlink rfl rfl hdg kk
theorem gM_firstRoom (hx : p.tables.exec = Jvm.exec) (hb : c.code = cc) (hts : ∀ w ∈ Ts, w.before args s = true) (hin : ∀ w ∈ wsX80, w ∈ Ts) (hown : s.vm.findClass own = some m.cls) (hK : va_K D vwCl (tyC cy) s) (hI : IW D (pcM cy A v r ++ X) A0 H0 H locs) (hlink : (Cond.fieldLink own index "TrickHouseModel" "firstRoom" "[I").before args s = true) (hdg : decode cc pc = .ok (.getfield index, 3)) (kk : W p l e R s m args below meth c H locs cells slots Q (F0 m (pc + 3) ls (.ref (A 15) :: rest))) : W p l e R s m args below meth c H locs cells slots Q (F0 m pc ls (.ref (A 0) :: rest)) := th_get (C := RX8) (T := TX8) (N := 32) hx hb hts hin hown hK hI 0 atM_0 rfl 26 (by decide) hlink rfl rfl hdg kk
theorem gM_filled (hx : p.tables.exec = Jvm.exec) (hb : c.code = cc) (hts : ∀ w ∈ Ts, w.before args s = true) (hin : ∀ w ∈ wsX80, w ∈ Ts) (hown : s.vm.findClass own = some m.cls) (hK : va_K D vwCl (tyC cy) s) (hI : IW D (pcM cy A v r ++ X) A0 H0 H locs) (hlink : (Cond.fieldLink own index "TrickHouseModel" "filled" "[I").before args s = true) (hdg : decode cc pc = .ok (.getfield index, 3)) (kk : W p l e R s m args below meth c H locs cells slots Q (F0 m (pc + 3) ls (.ref (A 16) :: rest))) : W p l e R s m args below meth c H locs cells slots Q (F0 m pc ls (.ref (A 0) :: rest)) := th_get (C := RX8) (T := TX8) (N := 32) hx hb hts hin hown hK hI 0 atM_0 rfl 27 (by decide) hlink rfl rfl hdg kk
theorem gM_packed (hx : p.tables.exec = Jvm.exec) (hb : c.code = cc) (hts : ∀ w ∈ Ts, w.before args s = true) (hin : ∀ w ∈ wsX80, w ∈ Ts) (hown : s.vm.findClass own = some m.cls) (hK : va_K D vwCl (tyC cy) s) (hI : IW D (pcM cy A v r ++ X) A0 H0 H locs) (hlink : (Cond.fieldLink own index "TrickHouseModel" "packed" "I").before args s = true) (hdg : decode cc pc = .ok (.getfield index, 3)) (kk : W p l e R s m args below meth c H locs cells slots Q (F0 m (pc + 3) ls (.int (v 12) :: rest))) : W p l e R s m args below meth c H locs cells slots Q (F0 m pc ls (.ref (A 0) :: rest)) := th_get (C := RX8) (T := TX8) (N := 32) hx hb hts hin hown hK hI 0 atM_0 rfl 28 (by decide) hlink rfl rfl hdg kk
theorem pM_packed {x : Int32} (hx : p.tables.exec = Jvm.exec) (hb : c.code = cc) (hts : ∀ w ∈ Ts, w.before args s = true) (hin : ∀ w ∈ wsX80, w ∈ Ts) (hown : s.vm.findClass own = some m.cls) (hK : va_K D vwCl (tyC cy) s) (hI : IW D (pcM cy A v r ++ X) A0 H0 H locs) (hlink : (Cond.fieldLink own index "TrickHouseModel" "packed" "I").before args s = true) (hdg : decode cc pc = .ok (.putfield index, 3)) (kk : ∀ (H1 : Heap) (locs1 : List Loc), IW D (pcM cy A (upd v 12 x) r ++ X) A0 H0 H1 locs1 → W p l e R s m args below meth c H1 locs1 cells slots Q (F0 m (pc + 3) ls rest)) : W p l e R s m args below meth c H locs cells slots Q (F0 m pc ls (.int x :: .ref (A 0) :: rest)) := th_put (C := RX8) (T := TX8) (N := 32) hx hb hts hin tyX8 tyX8_ok nmX8 hown hK hI 0 atM_0 rfl 28 (by decide) hlink rfl rfl (by decide +kernel) (by simp) rfl hdg kk
theorem gM_readings (hx : p.tables.exec = Jvm.exec) (hb : c.code = cc) (hts : ∀ w ∈ Ts, w.before args s = true) (hin : ∀ w ∈ wsX80, w ∈ Ts) (hown : s.vm.findClass own = some m.cls) (hK : va_K D vwCl (tyC cy) s) (hI : IW D (pcM cy A v r ++ X) A0 H0 H locs) (hlink : (Cond.fieldLink own index "TrickHouseModel" "readings" "I").before args s = true) (hdg : decode cc pc = .ok (.getfield index, 3)) (kk : W p l e R s m args below meth c H locs cells slots Q (F0 m (pc + 3) ls (.int (v 13) :: rest))) : W p l e R s m args below meth c H locs cells slots Q (F0 m pc ls (.ref (A 0) :: rest)) := th_get (C := RX8) (T := TX8) (N := 32) hx hb hts hin hown hK hI 0 atM_0 rfl 29 (by decide) hlink rfl rfl hdg kk
theorem pM_readings {x : Int32} (hx : p.tables.exec = Jvm.exec) (hb : c.code = cc) (hts : ∀ w ∈ Ts, w.before args s = true) (hin : ∀ w ∈ wsX80, w ∈ Ts) (hown : s.vm.findClass own = some m.cls) (hK : va_K D vwCl (tyC cy) s) (hI : IW D (pcM cy A v r ++ X) A0 H0 H locs) (hlink : (Cond.fieldLink own index "TrickHouseModel" "readings" "I").before args s = true) (hdg : decode cc pc = .ok (.putfield index, 3)) (kk : ∀ (H1 : Heap) (locs1 : List Loc), IW D (pcM cy A (upd v 13 x) r ++ X) A0 H0 H1 locs1 → W p l e R s m args below meth c H1 locs1 cells slots Q (F0 m (pc + 3) ls rest)) : W p l e R s m args below meth c H locs cells slots Q (F0 m pc ls (.int x :: .ref (A 0) :: rest)) := th_put (C := RX8) (T := TX8) (N := 32) hx hb hts hin tyX8 tyX8_ok nmX8 hown hK hI 0 atM_0 rfl 29 (by decide) hlink rfl rfl (by decide +kernel) (by simp) rfl hdg kk
theorem gM_readCorner (hx : p.tables.exec = Jvm.exec) (hb : c.code = cc) (hts : ∀ w ∈ Ts, w.before args s = true) (hin : ∀ w ∈ wsX80, w ∈ Ts) (hown : s.vm.findClass own = some m.cls) (hK : va_K D vwCl (tyC cy) s) (hI : IW D (pcM cy A v r ++ X) A0 H0 H locs) (hlink : (Cond.fieldLink own index "TrickHouseModel" "readCorner" "[I").before args s = true) (hdg : decode cc pc = .ok (.getfield index, 3)) (kk : W p l e R s m args below meth c H locs cells slots Q (F0 m (pc + 3) ls (.ref (A 17) :: rest))) : W p l e R s m args below meth c H locs cells slots Q (F0 m pc ls (.ref (A 0) :: rest)) := th_get (C := RX8) (T := TX8) (N := 32) hx hb hts hin hown hK hI 0 atM_0 rfl 30 (by decide) hlink rfl rfl hdg kk
theorem gM_readHeard (hx : p.tables.exec = Jvm.exec) (hb : c.code = cc) (hts : ∀ w ∈ Ts, w.before args s = true) (hin : ∀ w ∈ wsX80, w ∈ Ts) (hown : s.vm.findClass own = some m.cls) (hK : va_K D vwCl (tyC cy) s) (hI : IW D (pcM cy A v r ++ X) A0 H0 H locs) (hlink : (Cond.fieldLink own index "TrickHouseModel" "readHeard" "[I").before args s = true) (hdg : decode cc pc = .ok (.getfield index, 3)) (kk : W p l e R s m args below meth c H locs cells slots Q (F0 m (pc + 3) ls (.ref (A 18) :: rest))) : W p l e R s m args below meth c H locs cells slots Q (F0 m pc ls (.ref (A 0) :: rest)) := th_get (C := RX8) (T := TX8) (N := 32) hx hb hts hin hown hK hI 0 atM_0 rfl 31 (by decide) hlink rfl rfl hdg kk
theorem th_copyC {k0 k1 : Nat} (hk0 : k0 < 4) (hk1 : k1 < 4) {sp dp n : Int32} (hx : p.tables.exec = Jvm.exec) (hb : c.code = cc) (hml : c.maxLocals = ls.size) (hown : s.vm.findClass own = some m.cls) (hlink : (Cond.methodLink own index arraycopyName).before args s = true) (hnat : (Cond.native arraycopyName).before args s = true) (hstat : (Cond.static arraycopyName).before args s = true) (hini : (Cond.initialized "java/lang/System").before args s = true) (hK : va_K D vwCl (tyC cy) s) (hI : IW D (pcC cy A v r ++ X) A0 H0 H locs) (hok : cpOK sp dp n = true) (hframes : 1 ≤ R.frames) (hlocals : (rest.map fun v => v.category).sum + (nativeFrameWords "java/lang/System" "arraycopy" 5 + 11) ≤ R.locals) (hdg : decode cc pc = .ok (.invokestatic index, 3))
    (kk : ∀ (H1 : Heap) (locs1 : List Loc), IW D (pcC cy A v (va_up r (12 + k1) (va_cpy (r (12 + k0)) (r (12 + k1)) sp.toNatClampNeg dp.toNatClampNeg n.toNatClampNeg)) ++ X) A0 H0 H1 locs1 → W p l e R s m args below meth c H1 locs1 cells slots Q (F0 m (pc + 3) ls rest)) : W p l e R s m args below meth c H locs cells slots Q (F0 m pc ls (.int n :: .int dp :: .ref (A (23 + k1)) :: .int sp :: .ref (A (23 + k0)) :: rest)) := by
  simp only [cpOK, Bool.and_eq_true, decide_eq_true_eq] at hok
  obtain ⟨⟨⟨⟨h1, h2⟩, h3⟩, h4⟩, h5⟩ := hok
  refine va_copyi hx hb hml hown hlink hnat hstat hini hK hI.1 hI.2.1 hI.2.2 (23 + k0) (23 + k1) 0 0 (atC_cells hk0) (atC_cells hk1) rfl rfl rfl h1 h2 h3 h4 h5 (fun i _ => rfl) hframes hlocals hdg (fun H1 locs1 g1 g2 g3 => ?_)
  rw [stC_cells hk1] at g1 g2
  exact kk H1 locs1 ⟨g1, g2, g3⟩
end ROWS
end
section
abbrev rm_X7_within : Room := { frames := 0, cells := 0, slots := 0, locals := 0 }
def f_X7_within (a0 : Int32) (a1 : Int32) (a2 : Int32) : Bool := (if a0 < a1 then (false) else (if a2 < a0 then (false) else (true)))
set_option maxHeartbeats 4000000 in
set_option maxRecDepth 100000 in
theorem c_X7_within (l : Launch) (a0 : Int32) (a1 : Int32) (a2 : Int32) (res : Bool) (hres : f_X7_within a0 a1 a2 = res) : Met l yX7_within wsX7_within rm_X7_within (va_Pc [.int a0, .int a1, .int a2] NW) (QR (.int (bI res))) 0 0 (fun _ => False) := by
  refine Met.ofW (cc := cX7_within) (maxL := 3) (ret := (some .boolean)) (by decide) rfl ?_
  intro p e s m args below meth c s₁ B hml hv
  obtain ⟨hargs, hN⟩ := hv
  have hx := B.exec
  have hb := B.bytes
  have hr := B.returns
  have hts := atoms_spec (ws := wsX7_within) B.pre
  have hown : s.vm.findClass RX7 = some m.cls := findClass_of_methodNamed B.named
  have hlocks := B.notSynchronized
  have hl := lv_entry ([.int a0, .int a1, .int a2]) (n := 3) (Nat.le_of_ble_eq_true rfl)
  have hE : entryFrame m args 3 = F0 m 0 ((lg_sl ([.int a0, .int a1, .int a2]) ++ List.replicate (3 - (lg_sl ([.int a0, .int a1, .int a2])).length) Slot.unset).toArray) [] := by rw [hargs]; exact lg_entry_eq m [.int a0, .int a1, .int a2] 3
  rw [hE]
  generalize (lg_sl ([.int a0, .int a1, .int a2]) ++ List.replicate (3 - (lg_sl ([.int a0, .int a1, .int a2])).length) Slot.unset).toArray = ls at hl ⊢
  have hl : lv_has ls 3 [(0, .int a0), (1, .int a1), (2, .int a2)] := hl
  unfold f_X7_within at hres
  refine lv_iload_n hx hb dX7_within_0 rfl (lv_at hl 0 rfl) ?_
  refine lv_iload_n hx hb dX7_within_1 rfl (lv_at hl 1 rfl) ?_
  refine lv_icmp_lt (tgt := 14) hx hb dX7_within_2 (by decide) (fun c1 => ?_) (fun c1 => ?_)
  · replace hres := (if_pos c1).symm.trans hres
    refine lv_iconst (v := 0) hx hb dX7_within_14 (by decide) ?_
    cases hres
    exact W.zret hx hb hr rfl (fun t ht hW => ⟨rfl, ht⟩) (fun _ h => absurd h List.not_mem_nil) dX7_within_15
  · replace hres := (if_neg c1).symm.trans hres
    refine lv_iload_n hx hb dX7_within_5 rfl (lv_at hl 0 rfl) ?_
    refine lv_iload_n hx hb dX7_within_6 rfl (lv_at hl 2 rfl) ?_
    refine lv_icmp_gt (tgt := 14) hx hb dX7_within_7 (by decide) (fun c2 => ?_) (fun c2 => ?_)
    · replace hres := (if_pos c2).symm.trans hres
      refine lv_iconst (v := 0) hx hb dX7_within_14 (by decide) ?_
      cases hres
      exact W.zret hx hb hr rfl (fun t ht hW => ⟨rfl, ht⟩) (fun _ h => absurd h List.not_mem_nil) dX7_within_15
    · replace hres := (if_neg c2).symm.trans hres
      refine lv_iconst (v := 1) hx hb dX7_within_10 (by decide) ?_
      refine lv_goto (tgt := 15) hx hb dX7_within_11 (by decide) ?_
      cases hres
      exact W.zret hx hb hr rfl (fun t ht hW => ⟨rfl, ht⟩) (fun _ h => absurd h List.not_mem_nil) dX7_within_15
abbrev rm_X7_has : Room := { frames := 0, cells := 0, slots := 0, locals := 0 }
def f_X7_has (a0 : Int32) (a1 : Int32) : Bool := (if ((a0 >>> (a1 &&& 31)) &&& 1) = 0 then (false) else (true))
set_option maxHeartbeats 4000000 in
set_option maxRecDepth 100000 in
theorem c_X7_has (l : Launch) (a0 : Int32) (a1 : Int32) (res : Bool) (hres : f_X7_has a0 a1 = res) : Met l yX7_has wsX7_has rm_X7_has (va_Pc [.int a0, .int a1] NW) (QR (.int (bI res))) 0 0 (fun _ => False) := by
  refine Met.ofW (cc := cX7_has) (maxL := 2) (ret := (some .boolean)) (by decide) rfl ?_
  intro p e s m args below meth c s₁ B hml hv
  obtain ⟨hargs, hN⟩ := hv
  have hx := B.exec
  have hb := B.bytes
  have hr := B.returns
  have hts := atoms_spec (ws := wsX7_has) B.pre
  have hown : s.vm.findClass RX7 = some m.cls := findClass_of_methodNamed B.named
  have hlocks := B.notSynchronized
  have hl := lv_entry ([.int a0, .int a1]) (n := 2) (Nat.le_of_ble_eq_true rfl)
  have hE : entryFrame m args 2 = F0 m 0 ((lg_sl ([.int a0, .int a1]) ++ List.replicate (2 - (lg_sl ([.int a0, .int a1])).length) Slot.unset).toArray) [] := by rw [hargs]; exact lg_entry_eq m [.int a0, .int a1] 2
  rw [hE]
  generalize (lg_sl ([.int a0, .int a1]) ++ List.replicate (2 - (lg_sl ([.int a0, .int a1])).length) Slot.unset).toArray = ls at hl ⊢
  have hl : lv_has ls 2 [(0, .int a0), (1, .int a1)] := hl
  unfold f_X7_has at hres
  refine lv_iload_n hx hb dX7_has_0 rfl (lv_at hl 0 rfl) ?_
  refine lv_iload_n hx hb dX7_has_1 rfl (lv_at hl 1 rfl) ?_
  refine lv_ishr hx hb dX7_has_2 ?_
  refine lv_iconst (v := 1) hx hb dX7_has_3 (by decide) ?_
  refine lv_iand hx hb dX7_has_4 ?_
  refine lv_if_eq (tgt := 12) hx hb dX7_has_5 (by decide) (fun c1 => ?_) (fun c1 => ?_)
  · replace hres := (if_pos c1).symm.trans hres
    refine lv_iconst (v := 0) hx hb dX7_has_12 (by decide) ?_
    cases hres
    exact W.zret hx hb hr rfl (fun t ht hW => ⟨rfl, ht⟩) (fun _ h => absurd h List.not_mem_nil) dX7_has_13
  · replace hres := (if_neg c1).symm.trans hres
    refine lv_iconst (v := 1) hx hb dX7_has_8 (by decide) ?_
    refine lv_goto (tgt := 13) hx hb dX7_has_9 (by decide) ?_
    cases hres
    exact W.zret hx hb hr rfl (fun t ht hW => ⟨rfl, ht⟩) (fun _ h => absurd h List.not_mem_nil) dX7_has_13
abbrev rm_X7_isSheet : Room := { frames := 1, cells := 0, slots := 0, locals := 22 }
def f_X7_isSheet (a0 : Int32) : Bool := ((f_X7_within a0 (0 : Int32) (3 : Int32)))
set_option maxHeartbeats 4000000 in
set_option maxRecDepth 100000 in
theorem c_X7_isSheet (l : Launch) (a0 : Int32) (res : Bool) (hres : f_X7_isSheet a0 = res) : Met l yX7_isSheet wsX7_isSheet rm_X7_isSheet (va_Pc [.int a0] NW) (QR (.int (bI res))) 0 0 (fun _ => False) := by
  refine Met.ofW (cc := cX7_isSheet) (maxL := 1) (ret := (some .boolean)) (by decide) rfl ?_
  intro p e s m args below meth c s₁ B hml hv
  obtain ⟨hargs, hN⟩ := hv
  have hx := B.exec
  have hb := B.bytes
  have hr := B.returns
  have hts := atoms_spec (ws := wsX7_isSheet) B.pre
  have hown : s.vm.findClass RX7 = some m.cls := findClass_of_methodNamed B.named
  have hlocks := B.notSynchronized
  have S : CallFix p m c cX7_isSheet 1 s args wsX7_isSheet RX7 := ⟨hx, hb, hml, hown, hts⟩
  have hl := lv_entry ([.int a0]) (n := 1) (Nat.le_of_ble_eq_true rfl)
  have hE : entryFrame m args 1 = F0 m 0 ((lg_sl ([.int a0]) ++ List.replicate (1 - (lg_sl ([.int a0])).length) Slot.unset).toArray) [] := by rw [hargs]; exact lg_entry_eq m [.int a0] 1
  rw [hE]
  generalize (lg_sl ([.int a0]) ++ List.replicate (1 - (lg_sl ([.int a0])).length) Slot.unset).toArray = ls at hl ⊢
  have hl : lv_has ls 1 [(0, .int a0)] := hl
  unfold f_X7_isSheet at hres
  refine lv_iload_n hx hb dX7_isSheet_0 rfl (lv_at hl 0 rfl) ?_
  refine lv_iconst (v := 0) hx hb dX7_isSheet_1 (by decide) ?_
  refine lv_iconst (v := 3) hx hb dX7_isSheet_2 (by decide) ?_
  refine pu_s S (c_X7_within l a0 (0 : Int32) (3 : Int32) _ rfl) (va_cwS 3 hts gX7_isSheet_X7_within rfl rfl rfl (by decide +kernel) ⟨Nat.le_of_ble_eq_true rfl, Nat.le_of_ble_eq_true rfl⟩) hN rfl hl.1 rfl (Nat.le_of_ble_eq_true rfl) dX7_isSheet_3 ⟨Nat.zero_le _, Nat.zero_le _⟩ ?_
  cases hres
  exact W.zret hx hb hr (bI_nar _) (fun t ht hW => ⟨rfl, ht⟩) (fun _ h => absurd h List.not_mem_nil) dX7_isSheet_6
abbrev rm_X7_isLane : Room := { frames := 1, cells := 0, slots := 0, locals := 22 }
def f_X7_isLane (a0 : Int32) : Bool := ((f_X7_within a0 (0 : Int32) (2 : Int32)))
set_option maxHeartbeats 4000000 in
set_option maxRecDepth 100000 in
theorem c_X7_isLane (l : Launch) (a0 : Int32) (res : Bool) (hres : f_X7_isLane a0 = res) : Met l yX7_isLane wsX7_isLane rm_X7_isLane (va_Pc [.int a0] NW) (QR (.int (bI res))) 0 0 (fun _ => False) := by
  refine Met.ofW (cc := cX7_isLane) (maxL := 1) (ret := (some .boolean)) (by decide) rfl ?_
  intro p e s m args below meth c s₁ B hml hv
  obtain ⟨hargs, hN⟩ := hv
  have hx := B.exec
  have hb := B.bytes
  have hr := B.returns
  have hts := atoms_spec (ws := wsX7_isLane) B.pre
  have hown : s.vm.findClass RX7 = some m.cls := findClass_of_methodNamed B.named
  have hlocks := B.notSynchronized
  have S : CallFix p m c cX7_isLane 1 s args wsX7_isLane RX7 := ⟨hx, hb, hml, hown, hts⟩
  have hl := lv_entry ([.int a0]) (n := 1) (Nat.le_of_ble_eq_true rfl)
  have hE : entryFrame m args 1 = F0 m 0 ((lg_sl ([.int a0]) ++ List.replicate (1 - (lg_sl ([.int a0])).length) Slot.unset).toArray) [] := by rw [hargs]; exact lg_entry_eq m [.int a0] 1
  rw [hE]
  generalize (lg_sl ([.int a0]) ++ List.replicate (1 - (lg_sl ([.int a0])).length) Slot.unset).toArray = ls at hl ⊢
  have hl : lv_has ls 1 [(0, .int a0)] := hl
  unfold f_X7_isLane at hres
  refine lv_iload_n hx hb dX7_isLane_0 rfl (lv_at hl 0 rfl) ?_
  refine lv_iconst (v := 0) hx hb dX7_isLane_1 (by decide) ?_
  refine lv_iconst (v := 2) hx hb dX7_isLane_2 (by decide) ?_
  refine pu_s S (c_X7_within l a0 (0 : Int32) (2 : Int32) _ rfl) (va_cwS 3 hts gX7_isLane_X7_within rfl rfl rfl (by decide +kernel) ⟨Nat.le_of_ble_eq_true rfl, Nat.le_of_ble_eq_true rfl⟩) hN rfl hl.1 rfl (Nat.le_of_ble_eq_true rfl) dX7_isLane_3 ⟨Nat.zero_le _, Nat.zero_le _⟩ ?_
  cases hres
  exact W.zret hx hb hr (bI_nar _) (fun t ht hW => ⟨rfl, ht⟩) (fun _ h => absurd h List.not_mem_nil) dX7_isLane_6
abbrev rm_X7_isCorner : Room := { frames := 1, cells := 0, slots := 0, locals := 22 }
def f_X7_isCorner (a0 : Int32) : Bool := ((f_X7_within a0 (0 : Int32) (63 : Int32)))
set_option maxHeartbeats 4000000 in
set_option maxRecDepth 100000 in
theorem c_X7_isCorner (l : Launch) (a0 : Int32) (res : Bool) (hres : f_X7_isCorner a0 = res) : Met l yX7_isCorner wsX7_isCorner rm_X7_isCorner (va_Pc [.int a0] NW) (QR (.int (bI res))) 0 0 (fun _ => False) := by
  refine Met.ofW (cc := cX7_isCorner) (maxL := 1) (ret := (some .boolean)) (by decide) rfl ?_
  intro p e s m args below meth c s₁ B hml hv
  obtain ⟨hargs, hN⟩ := hv
  have hx := B.exec
  have hb := B.bytes
  have hr := B.returns
  have hts := atoms_spec (ws := wsX7_isCorner) B.pre
  have hown : s.vm.findClass RX7 = some m.cls := findClass_of_methodNamed B.named
  have hlocks := B.notSynchronized
  have S : CallFix p m c cX7_isCorner 1 s args wsX7_isCorner RX7 := ⟨hx, hb, hml, hown, hts⟩
  have hl := lv_entry ([.int a0]) (n := 1) (Nat.le_of_ble_eq_true rfl)
  have hE : entryFrame m args 1 = F0 m 0 ((lg_sl ([.int a0]) ++ List.replicate (1 - (lg_sl ([.int a0])).length) Slot.unset).toArray) [] := by rw [hargs]; exact lg_entry_eq m [.int a0] 1
  rw [hE]
  generalize (lg_sl ([.int a0]) ++ List.replicate (1 - (lg_sl ([.int a0])).length) Slot.unset).toArray = ls at hl ⊢
  have hl : lv_has ls 1 [(0, .int a0)] := hl
  unfold f_X7_isCorner at hres
  refine lv_iload_n hx hb dX7_isCorner_0 rfl (lv_at hl 0 rfl) ?_
  refine lv_iconst (v := 0) hx hb dX7_isCorner_1 (by decide) ?_
  refine lv_bipush (v := 63) hx hb dX7_isCorner_2 (by decide) ?_
  refine pu_s S (c_X7_within l a0 (0 : Int32) (63 : Int32) _ rfl) (va_cwS 3 hts gX7_isCorner_X7_within rfl rfl rfl (by decide +kernel) ⟨Nat.le_of_ble_eq_true rfl, Nat.le_of_ble_eq_true rfl⟩) hN rfl hl.1 rfl (Nat.le_of_ble_eq_true rfl) dX7_isCorner_4 ⟨Nat.zero_le _, Nat.zero_le _⟩ ?_
  cases hres
  exact W.zret hx hb hr (bI_nar _) (fun t ht hW => ⟨rfl, ht⟩) (fun _ h => absurd h List.not_mem_nil) dX7_isCorner_7
abbrev rm_X7_carried : Room := { frames := 1, cells := 0, slots := 0, locals := 24 }
def f_X7_carried (a0 : Int32) (a1 : Int32) (a2 : Int32) : Int32 := ((if 0 < ((a0 - (if 0 ≤ ((a1 - a1 / 8 * 8) - (a2 - a2 / 8 * 8)) then ((a1 - a1 / 8 * 8) - (a2 - a2 / 8 * 8)) else 0 - ((a1 - a1 / 8 * 8) - (a2 - a2 / 8 * 8)))) - (if 0 ≤ ((a1 / 8) - (a2 / 8)) then ((a1 / 8) - (a2 / 8)) else 0 - ((a1 / 8) - (a2 / 8)))) then ((a0 - (if 0 ≤ ((a1 - a1 / 8 * 8) - (a2 - a2 / 8 * 8)) then ((a1 - a1 / 8 * 8) - (a2 - a2 / 8 * 8)) else 0 - ((a1 - a1 / 8 * 8) - (a2 - a2 / 8 * 8)))) - (if 0 ≤ ((a1 / 8) - (a2 / 8)) then ((a1 / 8) - (a2 / 8)) else 0 - ((a1 / 8) - (a2 / 8)))) else 0))
set_option maxHeartbeats 4000000 in
set_option maxRecDepth 100000 in
theorem c_X7_carried (l : Launch) (a0 : Int32) (a1 : Int32) (a2 : Int32) (res : Int32) (hres : f_X7_carried a0 a1 a2 = res) : Met l yX7_carried wsX7_carried rm_X7_carried (va_Pc [.int a0, .int a1, .int a2] NW) (QR (.int res)) 0 0 (fun _ => False) := by
  refine Met.ofW (cc := cX7_carried) (maxL := 5) (ret := (some .int)) (by decide) rfl ?_
  intro p e s m args below meth c s₁ B hml hv
  obtain ⟨hargs, hN⟩ := hv
  have hx := B.exec
  have hb := B.bytes
  have hr := B.returns
  have hts := atoms_spec (ws := wsX7_carried) B.pre
  have hown : s.vm.findClass RX7 = some m.cls := findClass_of_methodNamed B.named
  have hlocks := B.notSynchronized
  have hl := lv_entry ([.int a0, .int a1, .int a2]) (n := 5) (Nat.le_of_ble_eq_true rfl)
  have hE : entryFrame m args 5 = F0 m 0 ((lg_sl ([.int a0, .int a1, .int a2]) ++ List.replicate (5 - (lg_sl ([.int a0, .int a1, .int a2])).length) Slot.unset).toArray) [] := by rw [hargs]; exact lg_entry_eq m [.int a0, .int a1, .int a2] 5
  rw [hE]
  generalize (lg_sl ([.int a0, .int a1, .int a2]) ++ List.replicate (5 - (lg_sl ([.int a0, .int a1, .int a2])).length) Slot.unset).toArray = ls at hl ⊢
  have hl : lv_has ls 5 [(0, .int a0), (1, .int a1), (2, .int a2)] := hl
  unfold f_X7_carried at hres
  refine lv_iload_n hx hb dX7_carried_0 rfl (lv_at hl 1 rfl) ?_
  refine lv_bipush (v := 8) hx hb dX7_carried_1 (by decide) ?_
  refine lv_irem hx hb dX7_carried_3 (by decide) ?_
  refine lv_iload_n hx hb dX7_carried_4 rfl (lv_at hl 2 rfl) ?_
  refine lv_bipush (v := 8) hx hb dX7_carried_5 (by decide) ?_
  refine lv_irem hx hb dX7_carried_7 (by decide) ?_
  refine lv_isub hx hb dX7_carried_8 ?_
  refine va_mabs hx hb (hml.trans hl.1.symm) hown (hts (.methodLink RX7 244 Lib.Math.abs.name) (by decide +kernel)) (hts (.static Lib.Math.abs.name) (by decide +kernel)) (hts (.initialized "java/lang/Math") (by decide +kernel)) (hts (.code Lib.Math.abs.name Lib.Math.abs.code 1 (some .int)) (List.mem_of_getElem? (i := 4) rfl)) (Nat.le_of_ble_eq_true rfl) (Nat.le_of_ble_eq_true rfl) (Nat.zero_le _) (Nat.zero_le _) dX7_carried_9 ?_
  refine lv_istore_n (lv' := [(3, .int (if 0 ≤ ((a1 - a1 / 8 * 8) - (a2 - a2 / 8 * 8)) then ((a1 - a1 / 8 * 8) - (a2 - a2 / 8 * 8)) else 0 - ((a1 - a1 / 8 * 8) - (a2 - a2 / 8 * 8)))), (0, .int a0), (1, .int a1), (2, .int a2)]) hx hb dX7_carried_12 rfl hl (by decide) rfl (fun ls hl => ?_)
  refine lv_iload_n hx hb dX7_carried_13 rfl (lv_at hl 2 rfl) ?_
  refine lv_bipush (v := 8) hx hb dX7_carried_14 (by decide) ?_
  refine lv_idiv hx hb dX7_carried_16 (by decide) ?_
  refine lv_iload_n hx hb dX7_carried_17 rfl (lv_at hl 3 rfl) ?_
  refine lv_bipush (v := 8) hx hb dX7_carried_18 (by decide) ?_
  refine lv_idiv hx hb dX7_carried_20 (by decide) ?_
  refine lv_isub hx hb dX7_carried_21 ?_
  refine va_mabs hx hb (hml.trans hl.1.symm) hown (hts (.methodLink RX7 244 Lib.Math.abs.name) (by decide +kernel)) (hts (.static Lib.Math.abs.name) (by decide +kernel)) (hts (.initialized "java/lang/Math") (by decide +kernel)) (hts (.code Lib.Math.abs.name Lib.Math.abs.code 1 (some .int)) (List.mem_of_getElem? (i := 4) rfl)) (Nat.le_of_ble_eq_true rfl) (Nat.le_of_ble_eq_true rfl) (Nat.zero_le _) (Nat.zero_le _) dX7_carried_22 ?_
  refine lv_istore (lv' := [(4, .int (if 0 ≤ ((a1 / 8) - (a2 / 8)) then ((a1 / 8) - (a2 / 8)) else 0 - ((a1 / 8) - (a2 / 8)))), (3, .int (if 0 ≤ ((a1 - a1 / 8 * 8) - (a2 - a2 / 8 * 8)) then ((a1 - a1 / 8 * 8) - (a2 - a2 / 8 * 8)) else 0 - ((a1 - a1 / 8 * 8) - (a2 - a2 / 8 * 8)))), (0, .int a0), (1, .int a1), (2, .int a2)]) hx hb dX7_carried_25 hl (by decide) rfl (fun ls hl => ?_)
  refine lv_iconst (v := 0) hx hb dX7_carried_27 (by decide) ?_
  refine lv_iload_n hx hb dX7_carried_28 rfl (lv_at hl 2 rfl) ?_
  refine lv_iload_n hx hb dX7_carried_29 rfl (lv_at hl 1 rfl) ?_
  refine lv_isub hx hb dX7_carried_30 ?_
  refine lv_iload hx hb dX7_carried_31 (lv_at hl 0 rfl) ?_
  refine lv_isub hx hb dX7_carried_33 ?_
  refine va_mmax hx hb (hml.trans hl.1.symm) hown (hts (.methodLink RX7 249 Lib.Math.max.name) (by decide +kernel)) (hts (.static Lib.Math.max.name) (by decide +kernel)) (hts (.initialized "java/lang/Math") (by decide +kernel)) (hts (.code Lib.Math.max.name Lib.Math.max.code 2 (some .int)) (List.mem_of_getElem? (i := 7) rfl)) (Nat.le_of_ble_eq_true rfl) (Nat.le_of_ble_eq_true rfl) (Nat.zero_le _) (Nat.zero_le _) dX7_carried_34 ?_
  cases hres
  exact W.iret hx hb hr (fun t ht hW => ⟨rfl, ht⟩) (fun _ h => absurd h List.not_mem_nil) dX7_carried_37
abbrev rm_X0_laughOfKind : Room := { frames := 1, cells := 0, slots := 0, locals := 24 }
def f_X0_laughOfKind (a0 : Int32) (a1 : Int32) : Int32 := (if a0 = 1 then ((if 0 < (a1 - 1) then (a1 - 1) else 0)) else (if a0 = 2 then ((2 * a1)) else (a1)))
set_option maxHeartbeats 4000000 in
set_option maxRecDepth 100000 in
theorem c_X0_laughOfKind (l : Launch) (a0 : Int32) (a1 : Int32) (res : Int32) (hres : f_X0_laughOfKind a0 a1 = res) : Met l yX0_laughOfKind wsX0_laughOfKind rm_X0_laughOfKind (va_Pc [.int a0, .int a1] NW) (QR (.int res)) 0 0 (fun _ => False) := by
  refine Met.ofW (cc := cX0_laughOfKind) (maxL := 2) (ret := (some .int)) (by decide) rfl ?_
  intro p e s m args below meth c s₁ B hml hv
  obtain ⟨hargs, hN⟩ := hv
  have hx := B.exec
  have hb := B.bytes
  have hr := B.returns
  have hts := atoms_spec (ws := wsX0_laughOfKind) B.pre
  have hown : s.vm.findClass RX0 = some m.cls := findClass_of_methodNamed B.named
  have hlocks := B.notSynchronized
  have hl := lv_entry ([.int a0, .int a1]) (n := 2) (Nat.le_of_ble_eq_true rfl)
  have hE : entryFrame m args 2 = F0 m 0 ((lg_sl ([.int a0, .int a1]) ++ List.replicate (2 - (lg_sl ([.int a0, .int a1])).length) Slot.unset).toArray) [] := by rw [hargs]; exact lg_entry_eq m [.int a0, .int a1] 2
  rw [hE]
  generalize (lg_sl ([.int a0, .int a1]) ++ List.replicate (2 - (lg_sl ([.int a0, .int a1])).length) Slot.unset).toArray = ls at hl ⊢
  have hl : lv_has ls 2 [(0, .int a0), (1, .int a1)] := hl
  unfold f_X0_laughOfKind at hres
  refine lv_iload_n hx hb dX0_laughOfKind_0 rfl (lv_at hl 0 rfl) ?_
  by_cases c1 : a0 = 1
  · replace hres := (if_pos c1).symm.trans hres
    refine lv_lookup (off := 31) (tgt := 32) hx hb dX0_laughOfKind_1 (by decide) (by rw [c1]; decide) (by decide) ?_
    refine lv_iconst (v := 0) hx hb dX0_laughOfKind_32 (by decide) ?_
    refine lv_iload_n hx hb dX0_laughOfKind_33 rfl (lv_at hl 1 rfl) ?_
    refine lv_iconst (v := 1) hx hb dX0_laughOfKind_34 (by decide) ?_
    refine lv_isub hx hb dX0_laughOfKind_35 ?_
    refine va_mmax hx hb (hml.trans hl.1.symm) hown (hts (.methodLink RX0 22 Lib.Math.max.name) (by decide +kernel)) (hts (.static Lib.Math.max.name) (by decide +kernel)) (hts (.initialized "java/lang/Math") (by decide +kernel)) (hts (.code Lib.Math.max.name Lib.Math.max.code 2 (some .int)) (List.mem_of_getElem? (i := 4) rfl)) (Nat.le_of_ble_eq_true rfl) (Nat.le_of_ble_eq_true rfl) (Nat.zero_le _) (Nat.zero_le _) dX0_laughOfKind_36 ?_
    cases hres
    exact W.iret hx hb hr (fun t ht hW => ⟨rfl, ht⟩) (fun _ h => absurd h List.not_mem_nil) dX0_laughOfKind_39
  · replace hres := (if_neg c1).symm.trans hres
    by_cases c2 : a0 = 2
    · replace hres := (if_pos c2).symm.trans hres
      refine lv_lookup (off := 27) (tgt := 28) hx hb dX0_laughOfKind_1 (by decide) (by rw [c2]; decide) (by decide) ?_
      refine lv_iconst (v := 2) hx hb dX0_laughOfKind_28 (by decide) ?_
      refine lv_iload_n hx hb dX0_laughOfKind_29 rfl (lv_at hl 1 rfl) ?_
      refine lv_imul hx hb dX0_laughOfKind_30 ?_
      cases hres
      exact W.iret hx hb hr (fun t ht hW => ⟨rfl, ht⟩) (fun _ h => absurd h List.not_mem_nil) dX0_laughOfKind_31
    · replace hres := (if_neg c2).symm.trans hres
      refine lv_lookup (off := 39) (tgt := 40) hx hb dX0_laughOfKind_1 (by decide) ((lv_osw c1 rfl).trans ((lv_osw c2 rfl).trans rfl)) (by decide) ?_
      refine lv_iload_n hx hb dX0_laughOfKind_40 rfl (lv_at hl 1 rfl) ?_
      cases hres
      exact W.iret hx hb hr (fun t ht hW => ⟨rfl, ht⟩) (fun _ h => absurd h List.not_mem_nil) dX0_laughOfKind_41
abbrev rm_X0_laugh : Room := { frames := 2, cells := 0, slots := 0, locals := 45 }
def f_X0_laugh (v : Nat → Int32) (r : Nat → Nat → Int32) (k0 : Nat) : Int32 := ((f_X0_laughOfKind (r 0 k0) (r 2 k0)))
set_option maxHeartbeats 4000000 in
set_option maxRecDepth 100000 in
theorem c_X0_laugh (l : Launch) (D : va_G) (cy : Nat → ClassId) (A : Nat → Nat) (X : va_W) (A0 : Nat → Prop) (v : Nat → Int32) (r : Nat → Nat → Int32) (k0 : Nat) (hk0 : k0 < 6) (res : Int32) (hres : f_X0_laugh v r k0 = res) : Met l yX0_laugh wsX0_laugh rm_X0_laugh (va_Pc [.ref (A (13 + k0))] (GW D (tyC cy) (pcC cy A v r ++ X) A0)) (QR (.int res)) 0 0 (fun _ => False) := by
  refine Met.ofW (cc := cX0_laugh) (maxL := 1) (ret := (some .int)) (by decide) rfl ?_
  intro p e s m args below meth c s₁ B hml hv
  obtain ⟨hargs, hP, hK, hD0, hN⟩ := hv
  have hx := B.exec
  have hb := B.bytes
  have hr := B.returns
  have hts := atoms_spec (ws := wsX0_laugh) B.pre
  have hown : s.vm.findClass RX0 = some m.cls := findClass_of_methodNamed B.named
  have hlocks := B.notSynchronized
  have hI : IW D (pcC cy A v r ++ X) A0 s.heap s.heap [] := ⟨hP, hD0, va_S.rf⟩
  have S : CallFix p m c cX0_laugh 1 s args wsX0_laugh RX0 := ⟨hx, hb, hml, hown, hts⟩
  have in0 : ∀ w ∈ wsX00, w ∈ wsX0_laugh := fun _ h => List.mem_cons_of_mem _ (List.mem_append_right _ h)
  have hl := lv_entry ([.ref (A (13 + k0))]) (n := 1) (Nat.le_of_ble_eq_true rfl)
  have hE : entryFrame m args 1 = F0 m 0 ((lg_sl ([.ref (A (13 + k0))]) ++ List.replicate (1 - (lg_sl ([.ref (A (13 + k0))])).length) Slot.unset).toArray) [] := by rw [hargs]; exact lg_entry_eq m [.ref (A (13 + k0))] 1
  rw [hE]
  generalize (lg_sl ([.ref (A (13 + k0))]) ++ List.replicate (1 - (lg_sl ([.ref (A (13 + k0))])).length) Slot.unset).toArray = ls at hl ⊢
  have hl : lv_has ls 1 [(0, .ref (A (13 + k0)))] := hl
  unfold f_X0_laugh at hres
  refine lv_aload_n hx hb dX0_laugh_0 rfl (lv_at hl 0 rfl) ?_
  refine gC_X0_kind hk0 hx hb hts in0 hown hK hI (hts (.fieldLink RX0 9 "TrickHouse$Article" "kind" "I") (by decide +kernel)) dX0_laugh_1 ?_
  refine lv_aload_n hx hb dX0_laugh_4 rfl (lv_at hl 0 rfl) ?_
  refine gC_X0_gaiety hk0 hx hb hts in0 hown hK hI (hts (.fieldLink RX0 15 "TrickHouse$Article" "gaiety" "I") (by decide +kernel)) dX0_laugh_5 ?_
  refine pu_s S (c_X0_laughOfKind l (r 0 k0) (r 2 k0) _ rfl) (va_cwS 2 hts gX0_laugh_X0_laughOfKind rfl rfl rfl (by decide +kernel) ⟨Nat.le_of_ble_eq_true rfl, Nat.le_of_ble_eq_true rfl⟩) hN rfl hl.1 rfl (Nat.le_of_ble_eq_true rfl) dX0_laugh_8 ⟨Nat.zero_le _, Nat.zero_le _⟩ ?_
  cases hres
  exact W.iret hx hb hr (fun t ht hW => ⟨rfl, ht⟩) (fun _ h => absurd h List.not_mem_nil) dX0_laugh_11
abbrev rm_J6_bitCount_0f7a4 : Room := { frames := 0, cells := 0, slots := 0, locals := 0 }
def bc1 (a0 : Int32) : Int32 := (a0 - ((a0.toUInt32 >>> ((1 : Int32).toUInt32 &&& Int32.toUInt32 31)).toInt32 &&& (1431655765)))
def bc2 (a0 : Int32) : Int32 := (((bc1 a0) &&& (858993459)) + (((bc1 a0).toUInt32 >>> ((2 : Int32).toUInt32 &&& Int32.toUInt32 31)).toInt32 &&& (858993459)))
def bc3 (a0 : Int32) : Int32 := (((bc2 a0) + ((bc2 a0).toUInt32 >>> ((4 : Int32).toUInt32 &&& Int32.toUInt32 31)).toInt32) &&& (252645135))
def bc4 (a0 : Int32) : Int32 := ((bc3 a0) + ((bc3 a0).toUInt32 >>> ((8 : Int32).toUInt32 &&& Int32.toUInt32 31)).toInt32)
def bc5 (a0 : Int32) : Int32 := ((bc4 a0) + ((bc4 a0).toUInt32 >>> ((16 : Int32).toUInt32 &&& Int32.toUInt32 31)).toInt32)
def f_J6_bitCount_0f7a4 (a0 : Int32) : Int32 := (((bc5 a0) &&& 63))
set_option maxHeartbeats 4000000 in
set_option maxRecDepth 100000 in
theorem c_J6_bitCount_0f7a4 (l : Launch) (a0 : Int32) (res : Int32) (hres : f_J6_bitCount_0f7a4 a0 = res) : Met l yJ6_bitCount_0f7a4 wsJ6_bitCount_0f7a4 rm_J6_bitCount_0f7a4 (va_Pc [.int a0] NW) (QR (.int res)) 0 0 (fun _ => False) := by
  refine Met.ofW (cc := cJ6_bitCount_0f7a4) (maxL := 1) (ret := (some .int)) (by decide) rfl ?_
  intro p e s m args below meth c s₁ B hml hv
  obtain ⟨hargs, hN⟩ := hv
  have hx := B.exec
  have hb := B.bytes
  have hr := B.returns
  have hts := atoms_spec (ws := wsJ6_bitCount_0f7a4) B.pre
  have hown : s.vm.findClass RJ6 = some m.cls := findClass_of_methodNamed B.named
  have hlocks := B.notSynchronized
  have hl := lv_entry ([.int a0]) (n := 1) (Nat.le_of_ble_eq_true rfl)
  have hE : entryFrame m args 1 = F0 m 0 ((lg_sl ([.int a0]) ++ List.replicate (1 - (lg_sl ([.int a0])).length) Slot.unset).toArray) [] := by rw [hargs]; exact lg_entry_eq m [.int a0] 1
  rw [hE]
  generalize (lg_sl ([.int a0]) ++ List.replicate (1 - (lg_sl ([.int a0])).length) Slot.unset).toArray = ls at hl ⊢
  have hl : lv_has ls 1 [(0, .int a0)] := hl
  unfold f_J6_bitCount_0f7a4 at hres
  refine lv_iload_n hx hb dJ6_bitCount_0f7a4_0 rfl (lv_at hl 0 rfl) ?_
  refine lv_iload_n hx hb dJ6_bitCount_0f7a4_1 rfl (lv_at hl 0 rfl) ?_
  refine lv_iconst (v := 1) hx hb dJ6_bitCount_0f7a4_2 (by decide) ?_
  refine lv_iushr hx hb dJ6_bitCount_0f7a4_3 rfl ?_
  refine lv_ldcw hx hb hown (hts (.constant RJ6 265 (1431655765)) (by decide +kernel)) dJ6_bitCount_0f7a4_4 ?_
  refine lv_iand hx hb dJ6_bitCount_0f7a4_7 ?_
  refine lv_isub hx hb dJ6_bitCount_0f7a4_8 ?_
  refine lv_istore_n (lv' := [(0, .int (bc1 a0))]) hx hb dJ6_bitCount_0f7a4_9 rfl hl (by decide) rfl (fun ls hl => ?_)
  refine lv_iload_n hx hb dJ6_bitCount_0f7a4_10 rfl (lv_at hl 0 rfl) ?_
  refine lv_ldcw hx hb hown (hts (.constant RJ6 266 (858993459)) (by decide +kernel)) dJ6_bitCount_0f7a4_11 ?_
  refine lv_iand hx hb dJ6_bitCount_0f7a4_14 ?_
  refine lv_iload_n hx hb dJ6_bitCount_0f7a4_15 rfl (lv_at hl 0 rfl) ?_
  refine lv_iconst (v := 2) hx hb dJ6_bitCount_0f7a4_16 (by decide) ?_
  refine lv_iushr hx hb dJ6_bitCount_0f7a4_17 rfl ?_
  refine lv_ldcw hx hb hown (hts (.constant RJ6 266 (858993459)) (by decide +kernel)) dJ6_bitCount_0f7a4_18 ?_
  refine lv_iand hx hb dJ6_bitCount_0f7a4_21 ?_
  refine lv_iadd hx hb dJ6_bitCount_0f7a4_22 ?_
  refine lv_istore_n (lv' := [(0, .int (bc2 a0))]) hx hb dJ6_bitCount_0f7a4_23 rfl hl (by decide) rfl (fun ls hl => ?_)
  refine lv_iload_n hx hb dJ6_bitCount_0f7a4_24 rfl (lv_at hl 0 rfl) ?_
  refine lv_iload_n hx hb dJ6_bitCount_0f7a4_25 rfl (lv_at hl 0 rfl) ?_
  refine lv_iconst (v := 4) hx hb dJ6_bitCount_0f7a4_26 (by decide) ?_
  refine lv_iushr hx hb dJ6_bitCount_0f7a4_27 rfl ?_
  refine lv_iadd hx hb dJ6_bitCount_0f7a4_28 ?_
  refine lv_ldcw hx hb hown (hts (.constant RJ6 267 (252645135)) (by decide +kernel)) dJ6_bitCount_0f7a4_29 ?_
  refine lv_iand hx hb dJ6_bitCount_0f7a4_32 ?_
  refine lv_istore_n (lv' := [(0, .int (bc3 a0))]) hx hb dJ6_bitCount_0f7a4_33 rfl hl (by decide) rfl (fun ls hl => ?_)
  refine lv_iload_n hx hb dJ6_bitCount_0f7a4_34 rfl (lv_at hl 0 rfl) ?_
  refine lv_iload_n hx hb dJ6_bitCount_0f7a4_35 rfl (lv_at hl 0 rfl) ?_
  refine lv_bipush (v := 8) hx hb dJ6_bitCount_0f7a4_36 (by decide) ?_
  refine lv_iushr hx hb dJ6_bitCount_0f7a4_38 rfl ?_
  refine lv_iadd hx hb dJ6_bitCount_0f7a4_39 ?_
  refine lv_istore_n (lv' := [(0, .int (bc4 a0))]) hx hb dJ6_bitCount_0f7a4_40 rfl hl (by decide) rfl (fun ls hl => ?_)
  refine lv_iload_n hx hb dJ6_bitCount_0f7a4_41 rfl (lv_at hl 0 rfl) ?_
  refine lv_iload_n hx hb dJ6_bitCount_0f7a4_42 rfl (lv_at hl 0 rfl) ?_
  refine lv_bipush (v := 16) hx hb dJ6_bitCount_0f7a4_43 (by decide) ?_
  refine lv_iushr hx hb dJ6_bitCount_0f7a4_45 rfl ?_
  refine lv_iadd hx hb dJ6_bitCount_0f7a4_46 ?_
  refine lv_istore_n (lv' := [(0, .int (bc5 a0))]) hx hb dJ6_bitCount_0f7a4_47 rfl hl (by decide) rfl (fun ls hl => ?_)
  refine lv_iload_n hx hb dJ6_bitCount_0f7a4_48 rfl (lv_at hl 0 rfl) ?_
  refine lv_bipush (v := 63) hx hb dJ6_bitCount_0f7a4_49 (by decide) ?_
  refine lv_iand hx hb dJ6_bitCount_0f7a4_51 ?_
  cases hres
  exact W.iret hx hb hr (fun t ht hW => ⟨rfl, ht⟩) (fun _ h => absurd h List.not_mem_nil) dJ6_bitCount_0f7a4_52
abbrev rm_X1_stands : Room := { frames := 0, cells := 0, slots := 0, locals := 0 }
def f_X1_stands (v : Nat → Int32) (r : Nat → Nat → Int32) : Bool := (if (v 2) ≤ 0 then (false) else (true))
set_option maxHeartbeats 4000000 in
set_option maxRecDepth 100000 in
theorem c_X1_stands (l : Launch) (D : va_G) (cy : Nat → ClassId) (A : Nat → Nat) (X : va_W) (A0 : Nat → Prop) (v : Nat → Int32) (r : Nat → Nat → Int32) (res : Bool) (hres : f_X1_stands v r = res) : Met l yX1_stands wsX1_stands rm_X1_stands (va_Pc [.ref (A 1)] (GW D (tyC cy) (pcC cy A v r ++ X) A0)) (QR (.int (bI res))) 0 0 (fun _ => False) := by
  refine Met.ofW (cc := cX1_stands) (maxL := 1) (ret := (some .boolean)) (by decide) rfl ?_
  intro p e s m args below meth c s₁ B hml hv
  obtain ⟨hargs, hP, hK, hD0, hN⟩ := hv
  have hx := B.exec
  have hb := B.bytes
  have hr := B.returns
  have hts := atoms_spec (ws := wsX1_stands) B.pre
  have hown : s.vm.findClass RX1 = some m.cls := findClass_of_methodNamed B.named
  have hlocks := B.notSynchronized
  have hI : IW D (pcC cy A v r ++ X) A0 s.heap s.heap [] := ⟨hP, hD0, va_S.rf⟩
  have in1 : ∀ w ∈ wsX10, w ∈ wsX1_stands := fun _ h => List.mem_cons_of_mem _ (List.mem_append_right _ h)
  have hl := lv_entry ([.ref (A 1)]) (n := 1) (Nat.le_of_ble_eq_true rfl)
  have hE : entryFrame m args 1 = F0 m 0 ((lg_sl ([.ref (A 1)]) ++ List.replicate (1 - (lg_sl ([.ref (A 1)])).length) Slot.unset).toArray) [] := by rw [hargs]; exact lg_entry_eq m [.ref (A 1)] 1
  rw [hE]
  generalize (lg_sl ([.ref (A 1)]) ++ List.replicate (1 - (lg_sl ([.ref (A 1)])).length) Slot.unset).toArray = ls at hl ⊢
  have hl : lv_has ls 1 [(0, .ref (A 1))] := hl
  unfold f_X1_stands at hres
  refine lv_aload_n hx hb dX1_stands_0 rfl (lv_at hl 0 rfl) ?_
  refine gC_X1_articleCount hx hb hts in1 hown hK hI (hts (.fieldLink RX1 22 "TrickHouse$House" "articleCount" "I") (by decide +kernel)) dX1_stands_1 ?_
  refine lv_if_le (tgt := 11) hx hb dX1_stands_4 (by decide) (fun c1 => ?_) (fun c1 => ?_)
  · replace hres := (if_pos c1).symm.trans hres
    refine lv_iconst (v := 0) hx hb dX1_stands_11 (by decide) ?_
    cases hres
    exact W.zret hx hb hr rfl (fun t ht hW => ⟨rfl, ht⟩) (fun _ h => absurd h List.not_mem_nil) dX1_stands_12
  · replace hres := (if_neg c1).symm.trans hres
    refine lv_iconst (v := 1) hx hb dX1_stands_7 (by decide) ?_
    refine lv_goto (tgt := 12) hx hb dX1_stands_8 (by decide) ?_
    cases hres
    exact W.zret hx hb hr rfl (fun t ht hW => ⟨rfl, ht⟩) (fun _ h => absurd h List.not_mem_nil) dX1_stands_12
abbrev rm_X1_isArticle : Room := { frames := 0, cells := 0, slots := 0, locals := 0 }
def f_X1_isArticle (v : Nat → Int32) (r : Nat → Nat → Int32) (a1 : Int32) : Bool := (if a1 < 0 then (false) else (if (v 2) ≤ a1 then (false) else (true)))
set_option maxHeartbeats 4000000 in
set_option maxRecDepth 100000 in
theorem c_X1_isArticle (l : Launch) (D : va_G) (cy : Nat → ClassId) (A : Nat → Nat) (X : va_W) (A0 : Nat → Prop) (v : Nat → Int32) (r : Nat → Nat → Int32) (a1 : Int32) (res : Bool) (hres : f_X1_isArticle v r a1 = res) : Met l yX1_isArticle wsX1_isArticle rm_X1_isArticle (va_Pc [.ref (A 1), .int a1] (GW D (tyC cy) (pcC cy A v r ++ X) A0)) (QR (.int (bI res))) 0 0 (fun _ => False) := by
  refine Met.ofW (cc := cX1_isArticle) (maxL := 2) (ret := (some .boolean)) (by decide) rfl ?_
  intro p e s m args below meth c s₁ B hml hv
  obtain ⟨hargs, hP, hK, hD0, hN⟩ := hv
  have hx := B.exec
  have hb := B.bytes
  have hr := B.returns
  have hts := atoms_spec (ws := wsX1_isArticle) B.pre
  have hown : s.vm.findClass RX1 = some m.cls := findClass_of_methodNamed B.named
  have hlocks := B.notSynchronized
  have hI : IW D (pcC cy A v r ++ X) A0 s.heap s.heap [] := ⟨hP, hD0, va_S.rf⟩
  have in1 : ∀ w ∈ wsX10, w ∈ wsX1_isArticle := fun _ h => List.mem_cons_of_mem _ (List.mem_append_right _ h)
  have hl := lv_entry ([.ref (A 1), .int a1]) (n := 2) (Nat.le_of_ble_eq_true rfl)
  have hE : entryFrame m args 2 = F0 m 0 ((lg_sl ([.ref (A 1), .int a1]) ++ List.replicate (2 - (lg_sl ([.ref (A 1), .int a1])).length) Slot.unset).toArray) [] := by rw [hargs]; exact lg_entry_eq m [.ref (A 1), .int a1] 2
  rw [hE]
  generalize (lg_sl ([.ref (A 1), .int a1]) ++ List.replicate (2 - (lg_sl ([.ref (A 1), .int a1])).length) Slot.unset).toArray = ls at hl ⊢
  have hl : lv_has ls 2 [(0, .ref (A 1)), (1, .int a1)] := hl
  unfold f_X1_isArticle at hres
  refine lv_iload_n hx hb dX1_isArticle_0 rfl (lv_at hl 1 rfl) ?_
  refine lv_if_lt (tgt := 16) hx hb dX1_isArticle_1 (by decide) (fun c1 => ?_) (fun c1 => ?_)
  · replace hres := (if_pos c1).symm.trans hres
    refine lv_iconst (v := 0) hx hb dX1_isArticle_16 (by decide) ?_
    cases hres
    exact W.zret hx hb hr rfl (fun t ht hW => ⟨rfl, ht⟩) (fun _ h => absurd h List.not_mem_nil) dX1_isArticle_17
  · replace hres := (if_neg c1).symm.trans hres
    refine lv_iload_n hx hb dX1_isArticle_4 rfl (lv_at hl 1 rfl) ?_
    refine lv_aload_n hx hb dX1_isArticle_5 rfl (lv_at hl 0 rfl) ?_
    refine gC_X1_articleCount hx hb hts in1 hown hK hI (hts (.fieldLink RX1 22 "TrickHouse$House" "articleCount" "I") (by decide +kernel)) dX1_isArticle_6 ?_
    refine lv_icmp_ge (tgt := 16) hx hb dX1_isArticle_9 (by decide) (fun c2 => ?_) (fun c2 => ?_)
    · replace hres := (if_pos c2).symm.trans hres
      refine lv_iconst (v := 0) hx hb dX1_isArticle_16 (by decide) ?_
      cases hres
      exact W.zret hx hb hr rfl (fun t ht hW => ⟨rfl, ht⟩) (fun _ h => absurd h List.not_mem_nil) dX1_isArticle_17
    · replace hres := (if_neg c2).symm.trans hres
      refine lv_iconst (v := 1) hx hb dX1_isArticle_12 (by decide) ?_
      refine lv_goto (tgt := 17) hx hb dX1_isArticle_13 (by decide) ?_
      cases hres
      exact W.zret hx hb hr rfl (fun t ht hW => ⟨rfl, ht⟩) (fun _ h => absurd h List.not_mem_nil) dX1_isArticle_17
abbrev rm_X1_isRoom : Room := { frames := 0, cells := 0, slots := 0, locals := 0 }
def f_X1_isRoom (v : Nat → Int32) (r : Nat → Nat → Int32) (a1 : Int32) : Bool := (if a1 < 0 then (false) else (if (v 3) ≤ a1 then (false) else (true)))
set_option maxHeartbeats 4000000 in
set_option maxRecDepth 100000 in
theorem c_X1_isRoom (l : Launch) (D : va_G) (cy : Nat → ClassId) (A : Nat → Nat) (X : va_W) (A0 : Nat → Prop) (v : Nat → Int32) (r : Nat → Nat → Int32) (a1 : Int32) (res : Bool) (hres : f_X1_isRoom v r a1 = res) : Met l yX1_isRoom wsX1_isRoom rm_X1_isRoom (va_Pc [.ref (A 1), .int a1] (GW D (tyC cy) (pcC cy A v r ++ X) A0)) (QR (.int (bI res))) 0 0 (fun _ => False) := by
  refine Met.ofW (cc := cX1_isRoom) (maxL := 2) (ret := (some .boolean)) (by decide) rfl ?_
  intro p e s m args below meth c s₁ B hml hv
  obtain ⟨hargs, hP, hK, hD0, hN⟩ := hv
  have hx := B.exec
  have hb := B.bytes
  have hr := B.returns
  have hts := atoms_spec (ws := wsX1_isRoom) B.pre
  have hown : s.vm.findClass RX1 = some m.cls := findClass_of_methodNamed B.named
  have hlocks := B.notSynchronized
  have hI : IW D (pcC cy A v r ++ X) A0 s.heap s.heap [] := ⟨hP, hD0, va_S.rf⟩
  have in1 : ∀ w ∈ wsX10, w ∈ wsX1_isRoom := fun _ h => List.mem_cons_of_mem _ (List.mem_append_right _ h)
  have hl := lv_entry ([.ref (A 1), .int a1]) (n := 2) (Nat.le_of_ble_eq_true rfl)
  have hE : entryFrame m args 2 = F0 m 0 ((lg_sl ([.ref (A 1), .int a1]) ++ List.replicate (2 - (lg_sl ([.ref (A 1), .int a1])).length) Slot.unset).toArray) [] := by rw [hargs]; exact lg_entry_eq m [.ref (A 1), .int a1] 2
  rw [hE]
  generalize (lg_sl ([.ref (A 1), .int a1]) ++ List.replicate (2 - (lg_sl ([.ref (A 1), .int a1])).length) Slot.unset).toArray = ls at hl ⊢
  have hl : lv_has ls 2 [(0, .ref (A 1)), (1, .int a1)] := hl
  unfold f_X1_isRoom at hres
  refine lv_iload_n hx hb dX1_isRoom_0 rfl (lv_at hl 1 rfl) ?_
  refine lv_if_lt (tgt := 16) hx hb dX1_isRoom_1 (by decide) (fun c1 => ?_) (fun c1 => ?_)
  · replace hres := (if_pos c1).symm.trans hres
    refine lv_iconst (v := 0) hx hb dX1_isRoom_16 (by decide) ?_
    cases hres
    exact W.zret hx hb hr rfl (fun t ht hW => ⟨rfl, ht⟩) (fun _ h => absurd h List.not_mem_nil) dX1_isRoom_17
  · replace hres := (if_neg c1).symm.trans hres
    refine lv_iload_n hx hb dX1_isRoom_4 rfl (lv_at hl 1 rfl) ?_
    refine lv_aload_n hx hb dX1_isRoom_5 rfl (lv_at hl 0 rfl) ?_
    refine gC_X1_roomCount hx hb hts in1 hown hK hI (hts (.fieldLink RX1 26 "TrickHouse$House" "roomCount" "I") (by decide +kernel)) dX1_isRoom_6 ?_
    refine lv_icmp_ge (tgt := 16) hx hb dX1_isRoom_9 (by decide) (fun c2 => ?_) (fun c2 => ?_)
    · replace hres := (if_pos c2).symm.trans hres
      refine lv_iconst (v := 0) hx hb dX1_isRoom_16 (by decide) ?_
      cases hres
      exact W.zret hx hb hr rfl (fun t ht hW => ⟨rfl, ht⟩) (fun _ h => absurd h List.not_mem_nil) dX1_isRoom_17
    · replace hres := (if_neg c2).symm.trans hres
      refine lv_iconst (v := 1) hx hb dX1_isRoom_12 (by decide) ?_
      refine lv_goto (tgt := 17) hx hb dX1_isRoom_13 (by decide) ?_
      cases hres
      exact W.zret hx hb hr rfl (fun t ht hW => ⟨rfl, ht⟩) (fun _ h => absurd h List.not_mem_nil) dX1_isRoom_17
abbrev rm_X1_isSet : Room := { frames := 0, cells := 0, slots := 0, locals := 0 }
def f_X1_isSet (v : Nat → Int32) (r : Nat → Nat → Int32) (a1 : Int32) : Bool := (if a1 < 0 then (false) else (if ((1 : Int32) <<< ((v 2) &&& 31)) ≤ a1 then (false) else (true)))
set_option maxHeartbeats 4000000 in
set_option maxRecDepth 100000 in
theorem c_X1_isSet (l : Launch) (D : va_G) (cy : Nat → ClassId) (A : Nat → Nat) (X : va_W) (A0 : Nat → Prop) (v : Nat → Int32) (r : Nat → Nat → Int32) (a1 : Int32) (res : Bool) (hres : f_X1_isSet v r a1 = res) : Met l yX1_isSet wsX1_isSet rm_X1_isSet (va_Pc [.ref (A 1), .int a1] (GW D (tyC cy) (pcC cy A v r ++ X) A0)) (QR (.int (bI res))) 0 0 (fun _ => False) := by
  refine Met.ofW (cc := cX1_isSet) (maxL := 2) (ret := (some .boolean)) (by decide) rfl ?_
  intro p e s m args below meth c s₁ B hml hv
  obtain ⟨hargs, hP, hK, hD0, hN⟩ := hv
  have hx := B.exec
  have hb := B.bytes
  have hr := B.returns
  have hts := atoms_spec (ws := wsX1_isSet) B.pre
  have hown : s.vm.findClass RX1 = some m.cls := findClass_of_methodNamed B.named
  have hlocks := B.notSynchronized
  have hI : IW D (pcC cy A v r ++ X) A0 s.heap s.heap [] := ⟨hP, hD0, va_S.rf⟩
  have in1 : ∀ w ∈ wsX10, w ∈ wsX1_isSet := fun _ h => List.mem_cons_of_mem _ (List.mem_append_right _ h)
  have hl := lv_entry ([.ref (A 1), .int a1]) (n := 2) (Nat.le_of_ble_eq_true rfl)
  have hE : entryFrame m args 2 = F0 m 0 ((lg_sl ([.ref (A 1), .int a1]) ++ List.replicate (2 - (lg_sl ([.ref (A 1), .int a1])).length) Slot.unset).toArray) [] := by rw [hargs]; exact lg_entry_eq m [.ref (A 1), .int a1] 2
  rw [hE]
  generalize (lg_sl ([.ref (A 1), .int a1]) ++ List.replicate (2 - (lg_sl ([.ref (A 1), .int a1])).length) Slot.unset).toArray = ls at hl ⊢
  have hl : lv_has ls 2 [(0, .ref (A 1)), (1, .int a1)] := hl
  unfold f_X1_isSet at hres
  refine lv_iload_n hx hb dX1_isSet_0 rfl (lv_at hl 1 rfl) ?_
  refine lv_if_lt (tgt := 18) hx hb dX1_isSet_1 (by decide) (fun c1 => ?_) (fun c1 => ?_)
  · replace hres := (if_pos c1).symm.trans hres
    refine lv_iconst (v := 0) hx hb dX1_isSet_18 (by decide) ?_
    cases hres
    exact W.zret hx hb hr rfl (fun t ht hW => ⟨rfl, ht⟩) (fun _ h => absurd h List.not_mem_nil) dX1_isSet_19
  · replace hres := (if_neg c1).symm.trans hres
    refine lv_iload_n hx hb dX1_isSet_4 rfl (lv_at hl 1 rfl) ?_
    refine lv_iconst (v := 1) hx hb dX1_isSet_5 (by decide) ?_
    refine lv_aload_n hx hb dX1_isSet_6 rfl (lv_at hl 0 rfl) ?_
    refine gC_X1_articleCount hx hb hts in1 hown hK hI (hts (.fieldLink RX1 22 "TrickHouse$House" "articleCount" "I") (by decide +kernel)) dX1_isSet_7 ?_
    refine lv_ishl hx hb dX1_isSet_10 ?_
    refine lv_icmp_ge (tgt := 18) hx hb dX1_isSet_11 (by decide) (fun c2 => ?_) (fun c2 => ?_)
    · replace hres := (if_pos c2).symm.trans hres
      refine lv_iconst (v := 0) hx hb dX1_isSet_18 (by decide) ?_
      cases hres
      exact W.zret hx hb hr rfl (fun t ht hW => ⟨rfl, ht⟩) (fun _ h => absurd h List.not_mem_nil) dX1_isSet_19
    · replace hres := (if_neg c2).symm.trans hres
      refine lv_iconst (v := 1) hx hb dX1_isSet_14 (by decide) ?_
      refine lv_goto (tgt := 19) hx hb dX1_isSet_15 (by decide) ?_
      cases hres
      exact W.zret hx hb hr rfl (fun t ht hW => ⟨rfl, ht⟩) (fun _ h => absurd h List.not_mem_nil) dX1_isSet_19
abbrev rm_X1_laughOf : Room := { frames := 3, cells := 0, slots := 0, locals := 65 }
def f_X1_laughOf_4 (v : Nat → Int32) (r : Nat → Nat → Int32) (a1 : Int32) : Nat → Int32 → Int32 → Option Int32
  | 0, _, _ => none
  | n4 + 1, x2, x3 => (if (v 2) ≤ x3 then some (x2) else (if (f_X7_has a1 x3) = true then if inR x3 6 = true then f_X1_laughOf_4 v r a1 n4 (x2 + (f_X0_laugh v r x3.toNatClampNeg)) (x3 + 1) else none else f_X1_laughOf_4 v r a1 n4 x2 (x3 + 1)))
theorem f_X1_laughOf_4_s (v : Nat → Int32) (r : Nat → Nat → Int32) (a1 : Int32) (n4 : Nat) (x2 : Int32) (x3 : Int32) : f_X1_laughOf_4 v r a1 (n4 + 1) x2 x3 = (if (v 2) ≤ x3 then some (x2) else (if (f_X7_has a1 x3) = true then if inR x3 6 = true then f_X1_laughOf_4 v r a1 n4 (x2 + (f_X0_laugh v r x3.toNatClampNeg)) (x3 + 1) else none else f_X1_laughOf_4 v r a1 n4 x2 (x3 + 1))) := rfl
def f_X1_laughOf (v : Nat → Int32) (r : Nat → Nat → Int32) (a1 : Int32) : Option Int32 := f_X1_laughOf_4 v r a1 80 (0 : Int32) (0 : Int32)
set_option maxHeartbeats 4000000 in
set_option maxRecDepth 100000 in
theorem c_X1_laughOf (l : Launch) (D : va_G) (cy : Nat → ClassId) (A : Nat → Nat) (X : va_W) (A0 : Nat → Prop) (v : Nat → Int32) (r : Nat → Nat → Int32) (a1 : Int32) (res : Int32) (hres : f_X1_laughOf v r a1 = some res) : Met l yX1_laughOf wsX1_laughOf rm_X1_laughOf (va_Pc [.ref (A 1), .int a1] (GW D (tyC cy) (pcC cy A v r ++ X) A0)) (QR (.int res)) 0 0 (fun _ => False) := by
  refine Met.ofW (cc := cX1_laughOf) (maxL := 4) (ret := (some .int)) (by decide) rfl ?_
  intro p e s m args below meth c s₁ B hml hv
  obtain ⟨hargs, hP, hK, hD0, hN⟩ := hv
  have hx := B.exec
  have hb := B.bytes
  have hr := B.returns
  have hts := atoms_spec (ws := wsX1_laughOf) B.pre
  have hown : s.vm.findClass RX1 = some m.cls := findClass_of_methodNamed B.named
  have hlocks := B.notSynchronized
  have hI : IW D (pcC cy A v r ++ X) A0 s.heap s.heap [] := ⟨hP, hD0, va_S.rf⟩
  have S : CallFix p m c cX1_laughOf 4 s args wsX1_laughOf RX1 := ⟨hx, hb, hml, hown, hts⟩
  have in1 : ∀ w ∈ wsX10, w ∈ wsX1_laughOf := fun _ h => List.mem_cons_of_mem _ (List.mem_append_left _ (List.mem_append_right _ h))
  have hl := lv_entry ([.ref (A 1), .int a1]) (n := 4) (Nat.le_of_ble_eq_true rfl)
  have hE : entryFrame m args 4 = F0 m 0 ((lg_sl ([.ref (A 1), .int a1]) ++ List.replicate (4 - (lg_sl ([.ref (A 1), .int a1])).length) Slot.unset).toArray) [] := by rw [hargs]; exact lg_entry_eq m [.ref (A 1), .int a1] 4
  rw [hE]
  generalize (lg_sl ([.ref (A 1), .int a1]) ++ List.replicate (4 - (lg_sl ([.ref (A 1), .int a1])).length) Slot.unset).toArray = ls at hl ⊢
  have hl : lv_has ls 4 [(0, .ref (A 1)), (1, .int a1)] := hl
  unfold f_X1_laughOf at hres
  refine lv_iconst (v := 0) hx hb dX1_laughOf_0 (by decide) ?_
  refine lv_istore_n (lv' := [(2, .int 0), (0, .ref (A 1)), (1, .int a1)]) hx hb dX1_laughOf_1 rfl hl (by decide) rfl (fun ls hl => ?_)
  refine lv_iconst (v := 0) hx hb dX1_laughOf_2 (by decide) ?_
  refine lv_istore_n (lv' := [(3, .int 0), (2, .int 0), (0, .ref (A 1)), (1, .int a1)]) hx hb dX1_laughOf_3 rfl hl (by decide) rfl (fun ls hl => ?_)
  have w4 : ∀ (n4 : Nat) (x2 : Int32) (x3 : Int32), f_X1_laughOf_4 v r a1 n4 x2 x3 = some res → ∀ ls : Array Slot, lv_has ls 4 [(2, .int x2), (3, .int x3), (0, .ref (A 1)), (1, .int a1)] → W p l e (headSpec wsX1_laughOf rm_X1_laughOf).room s m args below meth c s.heap [] 0 0 (MQ below (QR (.int res)) args s 0 0 (fun _ => False)) (F0 m 4 ls []) := by
    intro n4
    induction n4 with
    | zero =>
      intro x2 x3  hres
      have hres : (none : Option Int32) = some res := hres
      cases hres
    | succ n4 ih4 =>
      intro x2 x3  hres ls hl
      replace hres := (f_X1_laughOf_4_s v r a1 n4 x2 x3).symm.trans hres
      refine lv_iload_n hx hb dX1_laughOf_4 rfl (lv_at hl 1 rfl) ?_
      refine lv_aload_n hx hb dX1_laughOf_5 rfl (lv_at hl 2 rfl) ?_
      refine gC_X1_articleCount hx hb hts in1 hown hK hI (hts (.fieldLink RX1 22 "TrickHouse$House" "articleCount" "I") (by decide +kernel)) dX1_laughOf_6 ?_
      refine lv_icmp_ge (tgt := 38) hx hb dX1_laughOf_9 (by decide) (fun c1 => ?_) (fun c1 => ?_)
      · replace hres := (if_pos c1).symm.trans hres
        refine lv_iload_n hx hb dX1_laughOf_38 rfl (lv_at hl 0 rfl) ?_
        cases hres
        exact W.iret hx hb hr (fun t ht hW => ⟨rfl, ht⟩) (fun _ h => absurd h List.not_mem_nil) dX1_laughOf_39
      · replace hres := (if_neg c1).symm.trans hres
        refine lv_iload_n hx hb dX1_laughOf_12 rfl (lv_at hl 3 rfl) ?_
        refine lv_iload_n hx hb dX1_laughOf_13 rfl (lv_at hl 1 rfl) ?_
        refine pu_n S (c_X7_has l a1 x3 _ rfl) ⟨va_cnB 2 hts gX1_laughOf_X7_has_n29 rfl rfl rfl hN.1 (hts (.initialized RX7) (by decide +kernel)) (by decide +kernel) ⟨Nat.le_of_ble_eq_true rfl, Nat.le_of_ble_eq_true rfl⟩, hts (.static yX7_has) (by decide +kernel), trivial⟩ hN rfl hl.1 rfl (Nat.le_of_ble_eq_true rfl) dX1_laughOf_14 ⟨Nat.zero_le _, Nat.zero_le _⟩ ?_
        refine lv_if_eq (tgt := 32) hx hb dX1_laughOf_17 (by decide) (fun c3 => ?_) (fun c3 => ?_)
        · replace hres := (if_neg (bI_f c3)).symm.trans hres
          refine lv_iinc (v := (x3 + 1)) (lv' := [(3, .int (x3 + 1)), (2, .int x2), (0, .ref (A 1)), (1, .int a1)]) hx hb dX1_laughOf_32 hl (k := 1) rfl rfl (by decide) rfl (fun ls hl => ?_)
          refine lv_goto (tgt := 4) hx hb dX1_laughOf_35 (by decide) ?_
          exact ih4 x2 (x3 + 1) hres ls (lv_sub hl [1, 0, 2, 3] rfl)
        · replace hres := (if_pos (bI_t c3)).symm.trans hres
          refine lv_iload_n hx hb dX1_laughOf_20 rfl (lv_at hl 0 rfl) ?_
          refine lv_aload_n hx hb dX1_laughOf_21 rfl (lv_at hl 2 rfl) ?_
          refine gC_X1_articles hx hb hts in1 hown hK hI (hts (.fieldLink RX1 11 "TrickHouse$House" "articles" "[LTrickHouse$Article;") (by decide +kernel)) dX1_laughOf_22 ?_
          refine lv_iload_n hx hb dX1_laughOf_25 rfl (lv_at hl 1 rfl) ?_
          obtain ⟨g4, hres⟩ := gd hres
          refine th_ald (f := fun k => A (13 + k)) hx hb hK hI 2 1 rfl rfl g4 dX1_laughOf_26 ?_
          refine ro_v S (c_X0_laugh l D cy A X A0 v r x3.toNatClampNeg (inR_lt g4) _ rfl) (cwV 0 hts gX1_laughOf_X0_laugh rfl rfl rfl (by decide +kernel) ⟨Nat.le_of_ble_eq_true rfl, Nat.le_of_ble_eq_true rfl⟩) hI hK hN (ci := 0) rfl (atC_art (inR_lt g4)) rfl rfl hl.1 rfl (Nat.le_of_ble_eq_true rfl) dX1_laughOf_27 ⟨Nat.zero_le _, Nat.zero_le _⟩ ?_
          refine lv_iadd hx hb dX1_laughOf_30 ?_
          refine lv_istore_n (lv' := [(2, .int (x2 + (f_X0_laugh v r x3.toNatClampNeg))), (3, .int x3), (0, .ref (A 1)), (1, .int a1)]) hx hb dX1_laughOf_31 rfl hl (by decide) rfl (fun ls hl => ?_)
          refine lv_iinc (v := (x3 + 1)) (lv' := [(3, .int (x3 + 1)), (2, .int (x2 + (f_X0_laugh v r x3.toNatClampNeg))), (0, .ref (A 1)), (1, .int a1)]) hx hb dX1_laughOf_32 hl (k := 1) rfl rfl (by decide) rfl (fun ls hl => ?_)
          refine lv_goto (tgt := 4) hx hb dX1_laughOf_35 (by decide) ?_
          exact ih4 (x2 + (f_X0_laugh v r x3.toNatClampNeg)) (x3 + 1) hres ls (lv_sub hl [1, 0, 2, 3] rfl)
  exact w4 80 (0 : Int32) (0 : Int32) hres ls (lv_sub hl [1, 0, 2, 3] rfl)
abbrev rm_X1_laughIf : Room := { frames := 4, cells := 0, slots := 0, locals := 88 }
def f_X1_laughIf (v : Nat → Int32) (r : Nat → Nat → Int32) (a1 : Int32) (a2 : Int32) (a3 : Int32) : Option Int32 := (f_X1_laughOf v r ((v 5) &&& (((1 : Int32) <<< (a1 &&& 31)) ^^^ (-1)))).bind (fun y1 => (if (f_X7_has (v 5) a1) = true then some ((y1 + (f_X0_laughOfKind a2 a3))) else some (y1)))
set_option maxHeartbeats 4000000 in
set_option maxRecDepth 100000 in
theorem c_X1_laughIf (l : Launch) (D : va_G) (cy : Nat → ClassId) (A : Nat → Nat) (X : va_W) (A0 : Nat → Prop) (v : Nat → Int32) (r : Nat → Nat → Int32) (a1 : Int32) (a2 : Int32) (a3 : Int32) (res : Int32) (hres : f_X1_laughIf v r a1 a2 a3 = some res) : Met l yX1_laughIf wsX1_laughIf rm_X1_laughIf (va_Pc [.ref (A 1), .int a1, .int a2, .int a3] (GW D (tyC cy) (pcC cy A v r ++ X) A0)) (QR (.int res)) 0 0 (fun _ => False) := by
  refine Met.ofW (cc := cX1_laughIf) (maxL := 5) (ret := (some .int)) (by decide) rfl ?_
  intro p e s m args below meth c s₁ B hml hv
  obtain ⟨hargs, hP, hK, hD0, hN⟩ := hv
  have hx := B.exec
  have hb := B.bytes
  have hr := B.returns
  have hts := atoms_spec (ws := wsX1_laughIf) B.pre
  have hown : s.vm.findClass RX1 = some m.cls := findClass_of_methodNamed B.named
  have hlocks := B.notSynchronized
  have hI : IW D (pcC cy A v r ++ X) A0 s.heap s.heap [] := ⟨hP, hD0, va_S.rf⟩
  have S : CallFix p m c cX1_laughIf 5 s args wsX1_laughIf RX1 := ⟨hx, hb, hml, hown, hts⟩
  have in1 : ∀ w ∈ wsX10, w ∈ wsX1_laughIf := fun _ h => List.mem_cons_of_mem _ (List.mem_append_left _ (List.mem_append_right _ h))
  have hl := lv_entry ([.ref (A 1), .int a1, .int a2, .int a3]) (n := 5) (Nat.le_of_ble_eq_true rfl)
  have hE : entryFrame m args 5 = F0 m 0 ((lg_sl ([.ref (A 1), .int a1, .int a2, .int a3]) ++ List.replicate (5 - (lg_sl ([.ref (A 1), .int a1, .int a2, .int a3])).length) Slot.unset).toArray) [] := by rw [hargs]; exact lg_entry_eq m [.ref (A 1), .int a1, .int a2, .int a3] 5
  rw [hE]
  generalize (lg_sl ([.ref (A 1), .int a1, .int a2, .int a3]) ++ List.replicate (5 - (lg_sl ([.ref (A 1), .int a1, .int a2, .int a3])).length) Slot.unset).toArray = ls at hl ⊢
  have hl : lv_has ls 5 [(0, .ref (A 1)), (1, .int a1), (2, .int a2), (3, .int a3)] := hl
  unfold f_X1_laughIf at hres
  refine lv_aload_n hx hb dX1_laughIf_0 rfl (lv_at hl 0 rfl) ?_
  refine lv_aload_n hx hb dX1_laughIf_1 rfl (lv_at hl 0 rfl) ?_
  refine gC_X1_present hx hb hts in1 hown hK hI (hts (.fieldLink RX1 37 "TrickHouse$House" "present" "I") (by decide +kernel)) dX1_laughIf_2 ?_
  refine lv_iconst (v := 1) hx hb dX1_laughIf_5 (by decide) ?_
  refine lv_iload_n hx hb dX1_laughIf_6 rfl (lv_at hl 1 rfl) ?_
  refine lv_ishl hx hb dX1_laughIf_7 ?_
  refine lv_iconst (v := (-1)) hx hb dX1_laughIf_8 (by decide) ?_
  refine lv_ixor hx hb dX1_laughIf_9 ?_
  refine lv_iand hx hb dX1_laughIf_10 ?_
  obtain ⟨y1, e1, hres⟩ := bd hres
  refine ro_v S (c_X1_laughOf l D cy A X A0 v r ((v 5) &&& (((1 : Int32) <<< (a1 &&& 31)) ^^^ (-1))) y1 e1) (cwV 1 hts gX1_laughIf_X1_laughOf rfl rfl rfl (by decide +kernel) ⟨Nat.le_of_ble_eq_true rfl, Nat.le_of_ble_eq_true rfl⟩) hI hK hN (ci := 1) rfl (atC_1) rfl rfl hl.1 rfl (Nat.le_of_ble_eq_true rfl) dX1_laughIf_11 ⟨Nat.zero_le _, Nat.zero_le _⟩ ?_
  refine lv_istore (lv' := [(4, .int y1), (0, .ref (A 1)), (1, .int a1), (2, .int a2), (3, .int a3)]) hx hb dX1_laughIf_14 hl (by decide) rfl (fun ls hl => ?_)
  refine lv_aload_n hx hb dX1_laughIf_16 rfl (lv_at hl 1 rfl) ?_
  refine gC_X1_present hx hb hts in1 hown hK hI (hts (.fieldLink RX1 37 "TrickHouse$House" "present" "I") (by decide +kernel)) dX1_laughIf_17 ?_
  refine lv_iload_n hx hb dX1_laughIf_20 rfl (lv_at hl 2 rfl) ?_
  refine pu_n S (c_X7_has l (v 5) a1 _ rfl) ⟨va_cnB 2 hts gX1_laughIf_X7_has_n29 rfl rfl rfl hN.1 (hts (.initialized RX7) (by decide +kernel)) (by decide +kernel) ⟨Nat.le_of_ble_eq_true rfl, Nat.le_of_ble_eq_true rfl⟩, hts (.static yX7_has) (by decide +kernel), trivial⟩ hN rfl hl.1 rfl (Nat.le_of_ble_eq_true rfl) dX1_laughIf_21 ⟨Nat.zero_le _, Nat.zero_le _⟩ ?_
  refine lv_if_eq (tgt := 38) hx hb dX1_laughIf_24 (by decide) (fun c3 => ?_) (fun c3 => ?_)
  · replace hres := (if_neg (bI_f c3)).symm.trans hres
    refine lv_iload hx hb dX1_laughIf_38 (lv_at hl 0 rfl) ?_
    cases hres
    exact W.iret hx hb hr (fun t ht hW => ⟨rfl, ht⟩) (fun _ h => absurd h List.not_mem_nil) dX1_laughIf_40
  · replace hres := (if_pos (bI_t c3)).symm.trans hres
    refine lv_iload hx hb dX1_laughIf_27 (lv_at hl 0 rfl) ?_
    refine lv_iload_n hx hb dX1_laughIf_29 rfl (lv_at hl 3 rfl) ?_
    refine lv_iload_n hx hb dX1_laughIf_30 rfl (lv_at hl 4 rfl) ?_
    refine pu_s S (c_X0_laughOfKind l a2 a3 _ rfl) (va_cwS 2 hts gX1_laughIf_X0_laughOfKind rfl rfl rfl (by decide +kernel) ⟨Nat.le_of_ble_eq_true rfl, Nat.le_of_ble_eq_true rfl⟩) hN rfl hl.1 rfl (Nat.le_of_ble_eq_true rfl) dX1_laughIf_31 ⟨Nat.zero_le _, Nat.zero_le _⟩ ?_
    refine lv_iadd hx hb dX1_laughIf_34 ?_
    refine lv_goto (tgt := 40) hx hb dX1_laughIf_35 (by decide) ?_
    cases hres
    exact W.iret hx hb hr (fun t ht hW => ⟨rfl, ht⟩) (fun _ h => absurd h List.not_mem_nil) dX1_laughIf_40
abbrev rm_X1_leaversOf : Room := { frames := 4, cells := 0, slots := 0, locals := 88 }
def f_X1_leaversOf_11 (v : Nat → Int32) (r : Nat → Nat → Int32) (a1 : Int32) : Nat → Int32 → Int32 → Int32 → Option Int32
  | 0, _, _, _ => none
  | n11 + 1, x2, x3, x4 => (if (v 2) ≤ x4 then some (x3) else (if (f_X7_has a1 x4) = true then if inR x4 6 = true then if inR x4 6 = true then (if (r 3 x4.toNatClampNeg) ≤ (x2 - (f_X0_laugh v r x4.toNatClampNeg)) then f_X1_leaversOf_11 v r a1 n11 x2 x3 (x4 + 1) else f_X1_leaversOf_11 v r a1 n11 x2 (x3 ||| ((1 : Int32) <<< (x4 &&& 31))) (x4 + 1)) else none else none else f_X1_leaversOf_11 v r a1 n11 x2 x3 (x4 + 1)))
theorem f_X1_leaversOf_11_s (v : Nat → Int32) (r : Nat → Nat → Int32) (a1 : Int32) (n11 : Nat) (x2 : Int32) (x3 : Int32) (x4 : Int32) : f_X1_leaversOf_11 v r a1 (n11 + 1) x2 x3 x4 = (if (v 2) ≤ x4 then some (x3) else (if (f_X7_has a1 x4) = true then if inR x4 6 = true then if inR x4 6 = true then (if (r 3 x4.toNatClampNeg) ≤ (x2 - (f_X0_laugh v r x4.toNatClampNeg)) then f_X1_leaversOf_11 v r a1 n11 x2 x3 (x4 + 1) else f_X1_leaversOf_11 v r a1 n11 x2 (x3 ||| ((1 : Int32) <<< (x4 &&& 31))) (x4 + 1)) else none else none else f_X1_leaversOf_11 v r a1 n11 x2 x3 (x4 + 1))) := rfl
def f_X1_leaversOf (v : Nat → Int32) (r : Nat → Nat → Int32) (a1 : Int32) : Option Int32 := (f_X1_laughOf v r a1).bind (fun y1 => f_X1_leaversOf_11 v r a1 80 y1 (0 : Int32) (0 : Int32))
set_option maxHeartbeats 4000000 in
set_option maxRecDepth 100000 in
theorem c_X1_leaversOf (l : Launch) (D : va_G) (cy : Nat → ClassId) (A : Nat → Nat) (X : va_W) (A0 : Nat → Prop) (v : Nat → Int32) (r : Nat → Nat → Int32) (a1 : Int32) (res : Int32) (hres : f_X1_leaversOf v r a1 = some res) : Met l yX1_leaversOf wsX1_leaversOf rm_X1_leaversOf (va_Pc [.ref (A 1), .int a1] (GW D (tyC cy) (pcC cy A v r ++ X) A0)) (QR (.int res)) 0 0 (fun _ => False) := by
  refine Met.ofW (cc := cX1_leaversOf) (maxL := 5) (ret := (some .int)) (by decide) rfl ?_
  intro p e s m args below meth c s₁ B hml hv
  obtain ⟨hargs, hP, hK, hD0, hN⟩ := hv
  have hx := B.exec
  have hb := B.bytes
  have hr := B.returns
  have hts := atoms_spec (ws := wsX1_leaversOf) B.pre
  have hown : s.vm.findClass RX1 = some m.cls := findClass_of_methodNamed B.named
  have hlocks := B.notSynchronized
  have hI : IW D (pcC cy A v r ++ X) A0 s.heap s.heap [] := ⟨hP, hD0, va_S.rf⟩
  have S : CallFix p m c cX1_leaversOf 5 s args wsX1_leaversOf RX1 := ⟨hx, hb, hml, hown, hts⟩
  have in0 : ∀ w ∈ wsX00, w ∈ wsX1_leaversOf := fun _ h => List.mem_cons_of_mem _ (List.mem_append_right _ h)
  have in1 : ∀ w ∈ wsX10, w ∈ wsX1_leaversOf := fun _ h => List.mem_cons_of_mem _ (List.mem_append_left _ (List.mem_append_right _ h))
  have hl := lv_entry ([.ref (A 1), .int a1]) (n := 5) (Nat.le_of_ble_eq_true rfl)
  have hE : entryFrame m args 5 = F0 m 0 ((lg_sl ([.ref (A 1), .int a1]) ++ List.replicate (5 - (lg_sl ([.ref (A 1), .int a1])).length) Slot.unset).toArray) [] := by rw [hargs]; exact lg_entry_eq m [.ref (A 1), .int a1] 5
  rw [hE]
  generalize (lg_sl ([.ref (A 1), .int a1]) ++ List.replicate (5 - (lg_sl ([.ref (A 1), .int a1])).length) Slot.unset).toArray = ls at hl ⊢
  have hl : lv_has ls 5 [(0, .ref (A 1)), (1, .int a1)] := hl
  unfold f_X1_leaversOf at hres
  refine lv_aload_n hx hb dX1_leaversOf_0 rfl (lv_at hl 0 rfl) ?_
  refine lv_iload_n hx hb dX1_leaversOf_1 rfl (lv_at hl 1 rfl) ?_
  obtain ⟨y1, e1, hres⟩ := bd hres
  refine ro_v S (c_X1_laughOf l D cy A X A0 v r a1 y1 e1) (cwV 1 hts gX1_leaversOf_X1_laughOf rfl rfl rfl (by decide +kernel) ⟨Nat.le_of_ble_eq_true rfl, Nat.le_of_ble_eq_true rfl⟩) hI hK hN (ci := 1) rfl (atC_1) rfl rfl hl.1 rfl (Nat.le_of_ble_eq_true rfl) dX1_leaversOf_2 ⟨Nat.zero_le _, Nat.zero_le _⟩ ?_
  refine lv_istore_n (lv' := [(2, .int y1), (0, .ref (A 1)), (1, .int a1)]) hx hb dX1_leaversOf_5 rfl hl (by decide) rfl (fun ls hl => ?_)
  refine lv_iconst (v := 0) hx hb dX1_leaversOf_6 (by decide) ?_
  refine lv_istore_n (lv' := [(3, .int 0), (2, .int y1), (0, .ref (A 1)), (1, .int a1)]) hx hb dX1_leaversOf_7 rfl hl (by decide) rfl (fun ls hl => ?_)
  refine lv_iconst (v := 0) hx hb dX1_leaversOf_8 (by decide) ?_
  refine lv_istore (lv' := [(4, .int 0), (3, .int 0), (2, .int y1), (0, .ref (A 1)), (1, .int a1)]) hx hb dX1_leaversOf_9 hl (by decide) rfl (fun ls hl => ?_)
  have w11 : ∀ (n11 : Nat) (x2 : Int32) (x3 : Int32) (x4 : Int32), f_X1_leaversOf_11 v r a1 n11 x2 x3 x4 = some res → ∀ ls : Array Slot, lv_has ls 5 [(2, .int x2), (3, .int x3), (4, .int x4), (0, .ref (A 1)), (1, .int a1)] → W p l e (headSpec wsX1_leaversOf rm_X1_leaversOf).room s m args below meth c s.heap [] 0 0 (MQ below (QR (.int res)) args s 0 0 (fun _ => False)) (F0 m 11 ls []) := by
    intro n11
    induction n11 with
    | zero =>
      intro x2 x3 x4  hres
      have hres : (none : Option Int32) = some res := hres
      cases hres
    | succ n11 ih11 =>
      intro x2 x3 x4  hres ls hl
      replace hres := (f_X1_leaversOf_11_s v r a1 n11 x2 x3 x4).symm.trans hres
      refine lv_iload hx hb dX1_leaversOf_11 (lv_at hl 2 rfl) ?_
      refine lv_aload_n hx hb dX1_leaversOf_13 rfl (lv_at hl 3 rfl) ?_
      refine gC_X1_articleCount hx hb hts in1 hown hK hI (hts (.fieldLink RX1 22 "TrickHouse$House" "articleCount" "I") (by decide +kernel)) dX1_leaversOf_14 ?_
      refine lv_icmp_ge (tgt := 67) hx hb dX1_leaversOf_17 (by decide) (fun c2 => ?_) (fun c2 => ?_)
      · replace hres := (if_pos c2).symm.trans hres
        refine lv_iload_n hx hb dX1_leaversOf_67 rfl (lv_at hl 1 rfl) ?_
        cases hres
        exact W.iret hx hb hr (fun t ht hW => ⟨rfl, ht⟩) (fun _ h => absurd h List.not_mem_nil) dX1_leaversOf_68
      · replace hres := (if_neg c2).symm.trans hres
        refine lv_iload_n hx hb dX1_leaversOf_20 rfl (lv_at hl 4 rfl) ?_
        refine lv_iload hx hb dX1_leaversOf_21 (lv_at hl 2 rfl) ?_
        refine pu_n S (c_X7_has l a1 x4 _ rfl) ⟨va_cnB 2 hts gX1_leaversOf_X7_has_n29 rfl rfl rfl hN.1 (hts (.initialized RX7) (by decide +kernel)) (by decide +kernel) ⟨Nat.le_of_ble_eq_true rfl, Nat.le_of_ble_eq_true rfl⟩, hts (.static yX7_has) (by decide +kernel), trivial⟩ hN rfl hl.1 rfl (Nat.le_of_ble_eq_true rfl) dX1_leaversOf_23 ⟨Nat.zero_le _, Nat.zero_le _⟩ ?_
        refine lv_if_eq (tgt := 61) hx hb dX1_leaversOf_26 (by decide) (fun c4 => ?_) (fun c4 => ?_)
        · replace hres := (if_neg (bI_f c4)).symm.trans hres
          refine lv_iinc (v := (x4 + 1)) (lv' := [(4, .int (x4 + 1)), (2, .int x2), (3, .int x3), (0, .ref (A 1)), (1, .int a1)]) hx hb dX1_leaversOf_61 hl (k := 2) rfl rfl (by decide) rfl (fun ls hl => ?_)
          refine lv_goto (tgt := 11) hx hb dX1_leaversOf_64 (by decide) ?_
          exact ih11 x2 x3 (x4 + 1) hres ls (lv_sub hl [1, 2, 0, 3, 4] rfl)
        · replace hres := (if_pos (bI_t c4)).symm.trans hres
          refine lv_iload_n hx hb dX1_leaversOf_29 rfl (lv_at hl 0 rfl) ?_
          refine lv_aload_n hx hb dX1_leaversOf_30 rfl (lv_at hl 3 rfl) ?_
          refine gC_X1_articles hx hb hts in1 hown hK hI (hts (.fieldLink RX1 11 "TrickHouse$House" "articles" "[LTrickHouse$Article;") (by decide +kernel)) dX1_leaversOf_31 ?_
          refine lv_iload hx hb dX1_leaversOf_34 (lv_at hl 2 rfl) ?_
          obtain ⟨g5, hres⟩ := gd hres
          refine th_ald (f := fun k => A (13 + k)) hx hb hK hI 2 1 rfl rfl g5 dX1_leaversOf_36 ?_
          refine ro_v S (c_X0_laugh l D cy A X A0 v r x4.toNatClampNeg (inR_lt g5) _ rfl) (cwV 0 hts gX1_leaversOf_X0_laugh rfl rfl rfl (by decide +kernel) ⟨Nat.le_of_ble_eq_true rfl, Nat.le_of_ble_eq_true rfl⟩) hI hK hN (ci := 0) rfl (atC_art (inR_lt g5)) rfl rfl hl.1 rfl (Nat.le_of_ble_eq_true rfl) dX1_leaversOf_37 ⟨Nat.zero_le _, Nat.zero_le _⟩ ?_
          refine lv_isub hx hb dX1_leaversOf_40 ?_
          refine lv_aload_n hx hb dX1_leaversOf_41 rfl (lv_at hl 3 rfl) ?_
          refine gC_X1_articles hx hb hts in1 hown hK hI (hts (.fieldLink RX1 11 "TrickHouse$House" "articles" "[LTrickHouse$Article;") (by decide +kernel)) dX1_leaversOf_42 ?_
          refine lv_iload hx hb dX1_leaversOf_45 (lv_at hl 2 rfl) ?_
          obtain ⟨g7, hres⟩ := gd hres
          refine th_ald (f := fun k => A (13 + k)) hx hb hK hI 2 1 rfl rfl g7 dX1_leaversOf_47 ?_
          refine gC_X0_longing (inR_lt g7) hx hb hts in0 hown hK hI (hts (.fieldLink RX1 51 "TrickHouse$Article" "longing" "I") (by decide +kernel)) dX1_leaversOf_48 ?_
          refine lv_icmp_ge (tgt := 61) hx hb dX1_leaversOf_51 (by decide) (fun c8 => ?_) (fun c8 => ?_)
          · replace hres := (if_pos c8).symm.trans hres
            refine lv_iinc (v := (x4 + 1)) (lv' := [(4, .int (x4 + 1)), (2, .int x2), (3, .int x3), (0, .ref (A 1)), (1, .int a1)]) hx hb dX1_leaversOf_61 hl (k := 2) rfl rfl (by decide) rfl (fun ls hl => ?_)
            refine lv_goto (tgt := 11) hx hb dX1_leaversOf_64 (by decide) ?_
            exact ih11 x2 x3 (x4 + 1) hres ls (lv_sub hl [1, 2, 0, 3, 4] rfl)
          · replace hres := (if_neg c8).symm.trans hres
            refine lv_iload_n hx hb dX1_leaversOf_54 rfl (lv_at hl 1 rfl) ?_
            refine lv_iconst (v := 1) hx hb dX1_leaversOf_55 (by decide) ?_
            refine lv_iload hx hb dX1_leaversOf_56 (lv_at hl 2 rfl) ?_
            refine lv_ishl hx hb dX1_leaversOf_58 ?_
            refine lv_ior hx hb dX1_leaversOf_59 ?_
            refine lv_istore_n (lv' := [(3, .int (x3 ||| ((1 : Int32) <<< (x4 &&& 31)))), (2, .int x2), (4, .int x4), (0, .ref (A 1)), (1, .int a1)]) hx hb dX1_leaversOf_60 rfl hl (by decide) rfl (fun ls hl => ?_)
            refine lv_iinc (v := (x4 + 1)) (lv' := [(4, .int (x4 + 1)), (3, .int (x3 ||| ((1 : Int32) <<< (x4 &&& 31)))), (2, .int x2), (0, .ref (A 1)), (1, .int a1)]) hx hb dX1_leaversOf_61 hl (k := 2) rfl rfl (by decide) rfl (fun ls hl => ?_)
            refine lv_goto (tgt := 11) hx hb dX1_leaversOf_64 (by decide) ?_
            exact ih11 x2 (x3 ||| ((1 : Int32) <<< (x4 &&& 31))) (x4 + 1) hres ls (lv_sub hl [2, 1, 0, 3, 4] rfl)
  exact w11 80 y1 (0 : Int32) (0 : Int32) hres ls (lv_sub hl [2, 1, 0, 3, 4] rfl)
abbrev rm_X1_companyOf : Room := { frames := 5, cells := 0, slots := 0, locals := 112 }
def f_X1_companyOf_4 (v : Nat → Int32) (r : Nat → Nat → Int32) (a1 : Int32) : Nat → Int32 → Int32 → Option Int32
  | 0, _, _ => none
  | n4 + 1, x2, x3 => (if 6 ≤ x3 then some (x2) else (f_X1_leaversOf v r x2).bind (fun y2 => (if y2 = 0 then some (x2) else f_X1_companyOf_4 v r a1 n4 (x2 &&& (y2 ^^^ (-1))) (x3 + 1))))
theorem f_X1_companyOf_4_s (v : Nat → Int32) (r : Nat → Nat → Int32) (a1 : Int32) (n4 : Nat) (x2 : Int32) (x3 : Int32) : f_X1_companyOf_4 v r a1 (n4 + 1) x2 x3 = (if 6 ≤ x3 then some (x2) else (f_X1_leaversOf v r x2).bind (fun y2 => (if y2 = 0 then some (x2) else f_X1_companyOf_4 v r a1 n4 (x2 &&& (y2 ^^^ (-1))) (x3 + 1)))) := rfl
def f_X1_companyOf (v : Nat → Int32) (r : Nat → Nat → Int32) (a1 : Int32) : Option Int32 := f_X1_companyOf_4 v r a1 80 a1 (0 : Int32)
set_option maxHeartbeats 4000000 in
set_option maxRecDepth 100000 in
theorem c_X1_companyOf (l : Launch) (D : va_G) (cy : Nat → ClassId) (A : Nat → Nat) (X : va_W) (A0 : Nat → Prop) (v : Nat → Int32) (r : Nat → Nat → Int32) (a1 : Int32) (res : Int32) (hres : f_X1_companyOf v r a1 = some res) : Met l yX1_companyOf wsX1_companyOf rm_X1_companyOf (va_Pc [.ref (A 1), .int a1] (GW D (tyC cy) (pcC cy A v r ++ X) A0)) (QR (.int res)) 0 0 (fun _ => False) := by
  refine Met.ofW (cc := cX1_companyOf) (maxL := 5) (ret := (some .int)) (by decide) rfl ?_
  intro p e s m args below meth c s₁ B hml hv
  obtain ⟨hargs, hP, hK, hD0, hN⟩ := hv
  have hx := B.exec
  have hb := B.bytes
  have hr := B.returns
  have hts := atoms_spec (ws := wsX1_companyOf) B.pre
  have hown : s.vm.findClass RX1 = some m.cls := findClass_of_methodNamed B.named
  have hlocks := B.notSynchronized
  have hI : IW D (pcC cy A v r ++ X) A0 s.heap s.heap [] := ⟨hP, hD0, va_S.rf⟩
  have S : CallFix p m c cX1_companyOf 5 s args wsX1_companyOf RX1 := ⟨hx, hb, hml, hown, hts⟩
  have hl := lv_entry ([.ref (A 1), .int a1]) (n := 5) (Nat.le_of_ble_eq_true rfl)
  have hE : entryFrame m args 5 = F0 m 0 ((lg_sl ([.ref (A 1), .int a1]) ++ List.replicate (5 - (lg_sl ([.ref (A 1), .int a1])).length) Slot.unset).toArray) [] := by rw [hargs]; exact lg_entry_eq m [.ref (A 1), .int a1] 5
  rw [hE]
  generalize (lg_sl ([.ref (A 1), .int a1]) ++ List.replicate (5 - (lg_sl ([.ref (A 1), .int a1])).length) Slot.unset).toArray = ls at hl ⊢
  have hl : lv_has ls 5 [(0, .ref (A 1)), (1, .int a1)] := hl
  unfold f_X1_companyOf at hres
  refine lv_iload_n hx hb dX1_companyOf_0 rfl (lv_at hl 1 rfl) ?_
  refine lv_istore_n (lv' := [(2, .int a1), (0, .ref (A 1)), (1, .int a1)]) hx hb dX1_companyOf_1 rfl hl (by decide) rfl (fun ls hl => ?_)
  refine lv_iconst (v := 0) hx hb dX1_companyOf_2 (by decide) ?_
  refine lv_istore_n (lv' := [(3, .int 0), (2, .int a1), (0, .ref (A 1)), (1, .int a1)]) hx hb dX1_companyOf_3 rfl hl (by decide) rfl (fun ls hl => ?_)
  have w4 : ∀ (n4 : Nat) (x2 : Int32) (x3 : Int32), f_X1_companyOf_4 v r a1 n4 x2 x3 = some res → ∀ ls : Array Slot, lv_has ls 5 [(2, .int x2), (3, .int x3), (0, .ref (A 1))] → W p l e (headSpec wsX1_companyOf rm_X1_companyOf).room s m args below meth c s.heap [] 0 0 (MQ below (QR (.int res)) args s 0 0 (fun _ => False)) (F0 m 4 ls []) := by
    intro n4
    induction n4 with
    | zero =>
      intro x2 x3  hres
      have hres : (none : Option Int32) = some res := hres
      cases hres
    | succ n4 ih4 =>
      intro x2 x3  hres ls hl
      replace hres := (f_X1_companyOf_4_s v r a1 n4 x2 x3).symm.trans hres
      refine lv_iload_n hx hb dX1_companyOf_4 rfl (lv_at hl 1 rfl) ?_
      refine lv_bipush (v := 6) hx hb dX1_companyOf_5 (by decide) ?_
      refine lv_icmp_ge (tgt := 38) hx hb dX1_companyOf_7 (by decide) (fun c1 => ?_) (fun c1 => ?_)
      · replace hres := (if_pos c1).symm.trans hres
        refine lv_iload_n hx hb dX1_companyOf_38 rfl (lv_at hl 0 rfl) ?_
        cases hres
        exact W.iret hx hb hr (fun t ht hW => ⟨rfl, ht⟩) (fun _ h => absurd h List.not_mem_nil) dX1_companyOf_39
      · replace hres := (if_neg c1).symm.trans hres
        refine lv_aload_n hx hb dX1_companyOf_10 rfl (lv_at hl 2 rfl) ?_
        refine lv_iload_n hx hb dX1_companyOf_11 rfl (lv_at hl 0 rfl) ?_
        obtain ⟨y2, e2, hres⟩ := bd hres
        refine ro_v S (c_X1_leaversOf l D cy A X A0 v r x2 y2 e2) (cwV 1 hts gX1_companyOf_X1_leaversOf rfl rfl rfl (by decide +kernel) ⟨Nat.le_of_ble_eq_true rfl, Nat.le_of_ble_eq_true rfl⟩) hI hK hN (ci := 1) rfl (atC_1) rfl rfl hl.1 rfl (Nat.le_of_ble_eq_true rfl) dX1_companyOf_12 ⟨Nat.zero_le _, Nat.zero_le _⟩ ?_
        refine lv_istore (lv' := [(4, .int y2), (2, .int x2), (3, .int x3), (0, .ref (A 1))]) hx hb dX1_companyOf_15 hl (by decide) rfl (fun ls hl => ?_)
        refine lv_iload hx hb dX1_companyOf_17 (lv_at hl 0 rfl) ?_
        refine lv_if_ne (tgt := 25) hx hb dX1_companyOf_19 (by decide) (fun c3 => ?_) (fun c3 => ?_)
        · replace hres := (if_neg c3).symm.trans hres
          refine lv_iload_n hx hb dX1_companyOf_25 rfl (lv_at hl 1 rfl) ?_
          refine lv_iload hx hb dX1_companyOf_26 (lv_at hl 0 rfl) ?_
          refine lv_iconst (v := (-1)) hx hb dX1_companyOf_28 (by decide) ?_
          refine lv_ixor hx hb dX1_companyOf_29 ?_
          refine lv_iand hx hb dX1_companyOf_30 ?_
          refine lv_istore_n (lv' := [(2, .int (x2 &&& (y2 ^^^ (-1)))), (4, .int y2), (3, .int x3), (0, .ref (A 1))]) hx hb dX1_companyOf_31 rfl hl (by decide) rfl (fun ls hl => ?_)
          refine lv_iinc (v := (x3 + 1)) (lv' := [(3, .int (x3 + 1)), (2, .int (x2 &&& (y2 ^^^ (-1)))), (4, .int y2), (0, .ref (A 1))]) hx hb dX1_companyOf_32 hl (k := 2) rfl rfl (by decide) rfl (fun ls hl => ?_)
          refine lv_goto (tgt := 4) hx hb dX1_companyOf_35 (by decide) ?_
          exact ih4 (x2 &&& (y2 ^^^ (-1))) (x3 + 1) hres ls (lv_sub hl [1, 0, 3] rfl)
        · replace hres := (if_pos c3).symm.trans hres
          refine lv_goto (tgt := 38) hx hb dX1_companyOf_22 (by decide) ?_
          refine lv_iload_n hx hb dX1_companyOf_38 rfl (lv_at hl 1 rfl) ?_
          cases hres
          exact W.iret hx hb hr (fun t ht hW => ⟨rfl, ht⟩) (fun _ h => absurd h List.not_mem_nil) dX1_companyOf_39
  exact w4 80 a1 (0 : Int32) hres ls (lv_sub hl [1, 0, 2] rfl)
abbrev rm_X1_keepCompanyOf : Room := { frames := 6, cells := 0, slots := 0, locals := 136 }
def f_X1_keepCompanyOf (v : Nat → Int32) (r : Nat → Nat → Int32) (a1 : Int32) : Option (Int32 × ST) := (f_X1_companyOf v r a1).bind (fun y1 => some ((a1 &&& (((upd v 5 y1) 5) ^^^ (-1))), ((upd v 5 y1), r)))
set_option maxHeartbeats 4000000 in
set_option maxRecDepth 100000 in
theorem c_X1_keepCompanyOf (l : Launch) (D : va_G) (cy : Nat → ClassId) (A : Nat → Nat) (X : va_W) (A0 : Nat → Prop) (v : Nat → Int32) (r : Nat → Nat → Int32) (a1 : Int32) (res : Int32) (v2 : Nat → Int32) (r2 : Nat → Nat → Int32) (hres : f_X1_keepCompanyOf v r a1 = some (res, (v2, r2))) : Met l yX1_keepCompanyOf wsX1_keepCompanyOf rm_X1_keepCompanyOf (va_Pc [.ref (A 1), .int a1] (GW D (tyC cy) (pcC cy A v r ++ X) A0)) (QW (some (.int res)) (GW D (tyC cy) (pcC cy A v2 r2 ++ X) A0) A0) 0 0 A0 := by
  refine Met.ofW (cc := cX1_keepCompanyOf) (maxL := 2) (ret := (some .int)) (by decide) rfl ?_
  intro p e s m args below meth c s₁ B hml hv
  obtain ⟨hargs, hP, hK, hD0, hN⟩ := hv
  have hx := B.exec
  have hb := B.bytes
  have hr := B.returns
  have hts := atoms_spec (ws := wsX1_keepCompanyOf) B.pre
  have hown : s.vm.findClass RX1 = some m.cls := findClass_of_methodNamed B.named
  have hlocks := B.notSynchronized
  have hI : IW D (pcC cy A v r ++ X) A0 s.heap s.heap [] := ⟨hP, hD0, va_S.rf⟩
  have S : CallFix p m c cX1_keepCompanyOf 2 s args wsX1_keepCompanyOf RX1 := ⟨hx, hb, hml, hown, hts⟩
  have in1 : ∀ w ∈ wsX10, w ∈ wsX1_keepCompanyOf := fun _ h => List.mem_cons_of_mem _ (List.mem_append_left _ (List.mem_append_right _ h))
  have hl := lv_entry ([.ref (A 1), .int a1]) (n := 2) (Nat.le_of_ble_eq_true rfl)
  have hE : entryFrame m args 2 = F0 m 0 ((lg_sl ([.ref (A 1), .int a1]) ++ List.replicate (2 - (lg_sl ([.ref (A 1), .int a1])).length) Slot.unset).toArray) [] := by rw [hargs]; exact lg_entry_eq m [.ref (A 1), .int a1] 2
  rw [hE]
  generalize (lg_sl ([.ref (A 1), .int a1]) ++ List.replicate (2 - (lg_sl ([.ref (A 1), .int a1])).length) Slot.unset).toArray = ls at hl ⊢
  have hl : lv_has ls 2 [(0, .ref (A 1)), (1, .int a1)] := hl
  unfold f_X1_keepCompanyOf at hres
  refine lv_aload_n hx hb dX1_keepCompanyOf_0 rfl (lv_at hl 0 rfl) ?_
  refine lv_aload_n hx hb dX1_keepCompanyOf_1 rfl (lv_at hl 0 rfl) ?_
  refine lv_iload_n hx hb dX1_keepCompanyOf_2 rfl (lv_at hl 1 rfl) ?_
  obtain ⟨y1, e1, hres⟩ := bd hres
  refine ro_v S (c_X1_companyOf l D cy A X A0 v r a1 y1 e1) (cwV 1 hts gX1_keepCompanyOf_X1_companyOf rfl rfl rfl (by decide +kernel) ⟨Nat.le_of_ble_eq_true rfl, Nat.le_of_ble_eq_true rfl⟩) hI hK hN (ci := 1) rfl (atC_1) rfl rfl hl.1 rfl (Nat.le_of_ble_eq_true rfl) dX1_keepCompanyOf_3 ⟨Nat.zero_le _, Nat.zero_le _⟩ ?_
  refine pC_X1_present hx hb hts in1 hown hK hI (hts (.fieldLink RX1 37 "TrickHouse$House" "present" "I") (by decide +kernel)) dX1_keepCompanyOf_6 (fun H locs hI => ?_)
  refine lv_iload_n hx hb dX1_keepCompanyOf_9 rfl (lv_at hl 1 rfl) ?_
  refine lv_aload_n hx hb dX1_keepCompanyOf_10 rfl (lv_at hl 0 rfl) ?_
  refine gC_X1_present hx hb hts in1 hown hK hI (hts (.fieldLink RX1 37 "TrickHouse$House" "present" "I") (by decide +kernel)) dX1_keepCompanyOf_11 ?_
  refine lv_iconst (v := (-1)) hx hb dX1_keepCompanyOf_14 (by decide) ?_
  refine lv_ixor hx hb dX1_keepCompanyOf_15 ?_
  refine lv_iand hx hb dX1_keepCompanyOf_16 ?_
  cases hres
  exact W.iret hx hb hr (fun t ht hW => ⟨rfl, ⟨by rw [ht]; exact hI.1, va_K.moved hW.alike hK, hI.2.1, NW.warm hW hN⟩, hI.2.2.F ht⟩) hI.2.2.2.2 dX1_keepCompanyOf_17
abbrev rm_X1_fewestCalls : Room := { frames := 6, cells := 0, slots := 0, locals := 136 }
def f_X1_fewestCalls_10 (v : Nat → Int32) (r : Nat → Nat → Int32) (a1 : Int32) (a2 : Int32) : Nat → Int32 → Int32 → Int32 → Option Int32
  | 0, _, _, _ => none
  | n10 + 1, x3, x4, x5 => (if a2 < x5 then some (x3) else (if (x5 &&& (a2 ^^^ (-1))) = 0 then (if x4 ≤ (f_J6_bitCount_0f7a4 x5) then f_X1_fewestCalls_10 v r a1 a2 n10 x3 x4 (x5 + 1) else (f_X1_companyOf v r ((v 5) &&& (x5 ^^^ (-1)))).bind (fun y8 => (if (y8 &&& a1) = 0 then f_X1_fewestCalls_10 v r a1 a2 n10 x5 (f_J6_bitCount_0f7a4 x5) (x5 + 1) else f_X1_fewestCalls_10 v r a1 a2 n10 x3 x4 (x5 + 1)))) else f_X1_fewestCalls_10 v r a1 a2 n10 x3 x4 (x5 + 1)))
theorem f_X1_fewestCalls_10_s (v : Nat → Int32) (r : Nat → Nat → Int32) (a1 : Int32) (a2 : Int32) (n10 : Nat) (x3 : Int32) (x4 : Int32) (x5 : Int32) : f_X1_fewestCalls_10 v r a1 a2 (n10 + 1) x3 x4 x5 = (if a2 < x5 then some (x3) else (if (x5 &&& (a2 ^^^ (-1))) = 0 then (if x4 ≤ (f_J6_bitCount_0f7a4 x5) then f_X1_fewestCalls_10 v r a1 a2 n10 x3 x4 (x5 + 1) else (f_X1_companyOf v r ((v 5) &&& (x5 ^^^ (-1)))).bind (fun y8 => (if (y8 &&& a1) = 0 then f_X1_fewestCalls_10 v r a1 a2 n10 x5 (f_J6_bitCount_0f7a4 x5) (x5 + 1) else f_X1_fewestCalls_10 v r a1 a2 n10 x3 x4 (x5 + 1)))) else f_X1_fewestCalls_10 v r a1 a2 n10 x3 x4 (x5 + 1))) := rfl
def f_X1_fewestCalls (v : Nat → Int32) (r : Nat → Nat → Int32) (a1 : Int32) (a2 : Int32) : Option Int32 := f_X1_fewestCalls_10 v r a1 a2 80 ((-9) : Int32) (7 : Int32) (0 : Int32)
set_option maxHeartbeats 4000000 in
set_option maxRecDepth 100000 in
theorem c_X1_fewestCalls (l : Launch) (D : va_G) (cy : Nat → ClassId) (A : Nat → Nat) (X : va_W) (A0 : Nat → Prop) (v : Nat → Int32) (r : Nat → Nat → Int32) (a1 : Int32) (a2 : Int32) (res : Int32) (hres : f_X1_fewestCalls v r a1 a2 = some res) : Met l yX1_fewestCalls wsX1_fewestCalls rm_X1_fewestCalls (va_Pc [.ref (A 1), .int a1, .int a2] (GW D (tyC cy) (pcC cy A v r ++ X) A0)) (QR (.int res)) 0 0 (fun _ => False) := by
  refine Met.ofW (cc := cX1_fewestCalls) (maxL := 7) (ret := (some .int)) (by decide) rfl ?_
  intro p e s m args below meth c s₁ B hml hv
  obtain ⟨hargs, hP, hK, hD0, hN⟩ := hv
  have hx := B.exec
  have hb := B.bytes
  have hr := B.returns
  have hts := atoms_spec (ws := wsX1_fewestCalls) B.pre
  have hown : s.vm.findClass RX1 = some m.cls := findClass_of_methodNamed B.named
  have hlocks := B.notSynchronized
  have hI : IW D (pcC cy A v r ++ X) A0 s.heap s.heap [] := ⟨hP, hD0, va_S.rf⟩
  have S : CallFix p m c cX1_fewestCalls 7 s args wsX1_fewestCalls RX1 := ⟨hx, hb, hml, hown, hts⟩
  have in1 : ∀ w ∈ wsX10, w ∈ wsX1_fewestCalls := fun _ h => List.mem_cons_of_mem _ (List.mem_append_left _ (List.mem_append_right _ h))
  have hl := lv_entry ([.ref (A 1), .int a1, .int a2]) (n := 7) (Nat.le_of_ble_eq_true rfl)
  have hE : entryFrame m args 7 = F0 m 0 ((lg_sl ([.ref (A 1), .int a1, .int a2]) ++ List.replicate (7 - (lg_sl ([.ref (A 1), .int a1, .int a2])).length) Slot.unset).toArray) [] := by rw [hargs]; exact lg_entry_eq m [.ref (A 1), .int a1, .int a2] 7
  rw [hE]
  generalize (lg_sl ([.ref (A 1), .int a1, .int a2]) ++ List.replicate (7 - (lg_sl ([.ref (A 1), .int a1, .int a2])).length) Slot.unset).toArray = ls at hl ⊢
  have hl : lv_has ls 7 [(0, .ref (A 1)), (1, .int a1), (2, .int a2)] := hl
  unfold f_X1_fewestCalls at hres
  refine lv_bipush (v := (-9)) hx hb dX1_fewestCalls_0 (by decide) ?_
  refine lv_istore_n (lv' := [(3, .int (-9)), (0, .ref (A 1)), (1, .int a1), (2, .int a2)]) hx hb dX1_fewestCalls_2 rfl hl (by decide) rfl (fun ls hl => ?_)
  refine lv_bipush (v := 7) hx hb dX1_fewestCalls_3 (by decide) ?_
  refine lv_istore (lv' := [(4, .int 7), (3, .int (-9)), (0, .ref (A 1)), (1, .int a1), (2, .int a2)]) hx hb dX1_fewestCalls_5 hl (by decide) rfl (fun ls hl => ?_)
  refine lv_iconst (v := 0) hx hb dX1_fewestCalls_7 (by decide) ?_
  refine lv_istore (lv' := [(5, .int 0), (4, .int 7), (3, .int (-9)), (0, .ref (A 1)), (1, .int a1), (2, .int a2)]) hx hb dX1_fewestCalls_8 hl (by decide) rfl (fun ls hl => ?_)
  have w10 : ∀ (n10 : Nat) (x3 : Int32) (x4 : Int32) (x5 : Int32), f_X1_fewestCalls_10 v r a1 a2 n10 x3 x4 x5 = some res → ∀ ls : Array Slot, lv_has ls 7 [(3, .int x3), (4, .int x4), (5, .int x5), (0, .ref (A 1)), (1, .int a1), (2, .int a2)] → W p l e (headSpec wsX1_fewestCalls rm_X1_fewestCalls).room s m args below meth c s.heap [] 0 0 (MQ below (QR (.int res)) args s 0 0 (fun _ => False)) (F0 m 10 ls []) := by
    intro n10
    induction n10 with
    | zero =>
      intro x3 x4 x5  hres
      have hres : (none : Option Int32) = some res := hres
      cases hres
    | succ n10 ih10 =>
      intro x3 x4 x5  hres ls hl
      replace hres := (f_X1_fewestCalls_10_s v r a1 a2 n10 x3 x4 x5).symm.trans hres
      refine lv_iload hx hb dX1_fewestCalls_10 (lv_at hl 2 rfl) ?_
      refine lv_iload_n hx hb dX1_fewestCalls_12 rfl (lv_at hl 5 rfl) ?_
      refine lv_icmp_gt (tgt := 81) hx hb dX1_fewestCalls_13 (by decide) (fun c1 => ?_) (fun c1 => ?_)
      · replace hres := (if_pos c1).symm.trans hres
        refine lv_iload_n hx hb dX1_fewestCalls_81 rfl (lv_at hl 0 rfl) ?_
        cases hres
        exact W.iret hx hb hr (fun t ht hW => ⟨rfl, ht⟩) (fun _ h => absurd h List.not_mem_nil) dX1_fewestCalls_82
      · replace hres := (if_neg c1).symm.trans hres
        refine lv_iload hx hb dX1_fewestCalls_16 (lv_at hl 2 rfl) ?_
        refine lv_iload_n hx hb dX1_fewestCalls_18 rfl (lv_at hl 5 rfl) ?_
        refine lv_iconst (v := (-1)) hx hb dX1_fewestCalls_19 (by decide) ?_
        refine lv_ixor hx hb dX1_fewestCalls_20 ?_
        refine lv_iand hx hb dX1_fewestCalls_21 ?_
        refine lv_if_ne (tgt := 39) hx hb dX1_fewestCalls_22 (by decide) (fun c2 => ?_) (fun c2 => ?_)
        · replace hres := (if_neg c2).symm.trans hres
          refine lv_iconst (v := 0) hx hb dX1_fewestCalls_39 (by decide) ?_
          refine lv_istore (lv' := [(6, .int 0), (3, .int x3), (4, .int x4), (5, .int x5), (0, .ref (A 1)), (1, .int a1), (2, .int a2)]) hx hb dX1_fewestCalls_40 hl (by decide) rfl (fun ls hl => ?_)
          refine lv_iload hx hb dX1_fewestCalls_42 (lv_at hl 0 rfl) ?_
          refine lv_if_eq (tgt := 75) hx hb dX1_fewestCalls_44 (by decide) (fun c3 => ?_) (fun c3 => absurd (by decide) c3)
          refine lv_iinc (v := (x5 + 1)) (lv' := [(5, .int (x5 + 1)), (6, .int 0), (3, .int x3), (4, .int x4), (0, .ref (A 1)), (1, .int a1), (2, .int a2)]) hx hb dX1_fewestCalls_75 hl (k := 3) rfl rfl (by decide) rfl (fun ls hl => ?_)
          refine lv_goto (tgt := 10) hx hb dX1_fewestCalls_78 (by decide) ?_
          exact ih10 x3 x4 (x5 + 1) hres ls (lv_sub hl [2, 3, 0, 4, 5, 6] rfl)
        · replace hres := (if_pos c2).symm.trans hres
          refine lv_iload hx hb dX1_fewestCalls_25 (lv_at hl 2 rfl) ?_
          refine pu_s S (c_J6_bitCount_0f7a4 l x5 _ rfl) (va_cwS 1 hts gX1_fewestCalls_J6_bitCount_0f7a4 rfl rfl rfl (by decide +kernel) ⟨Nat.le_of_ble_eq_true rfl, Nat.le_of_ble_eq_true rfl⟩) hN rfl hl.1 rfl (Nat.le_of_ble_eq_true rfl) dX1_fewestCalls_27 ⟨Nat.zero_le _, Nat.zero_le _⟩ ?_
          refine lv_iload hx hb dX1_fewestCalls_30 (lv_at hl 1 rfl) ?_
          refine lv_icmp_ge (tgt := 39) hx hb dX1_fewestCalls_32 (by decide) (fun c5 => ?_) (fun c5 => ?_)
          · replace hres := (if_pos c5).symm.trans hres
            refine lv_iconst (v := 0) hx hb dX1_fewestCalls_39 (by decide) ?_
            refine lv_istore (lv' := [(6, .int 0), (3, .int x3), (4, .int x4), (5, .int x5), (0, .ref (A 1)), (1, .int a1), (2, .int a2)]) hx hb dX1_fewestCalls_40 hl (by decide) rfl (fun ls hl => ?_)
            refine lv_iload hx hb dX1_fewestCalls_42 (lv_at hl 0 rfl) ?_
            refine lv_if_eq (tgt := 75) hx hb dX1_fewestCalls_44 (by decide) (fun c6 => ?_) (fun c6 => absurd (by decide) c6)
            refine lv_iinc (v := (x5 + 1)) (lv' := [(5, .int (x5 + 1)), (6, .int 0), (3, .int x3), (4, .int x4), (0, .ref (A 1)), (1, .int a1), (2, .int a2)]) hx hb dX1_fewestCalls_75 hl (k := 3) rfl rfl (by decide) rfl (fun ls hl => ?_)
            refine lv_goto (tgt := 10) hx hb dX1_fewestCalls_78 (by decide) ?_
            exact ih10 x3 x4 (x5 + 1) hres ls (lv_sub hl [2, 3, 0, 4, 5, 6] rfl)
          · replace hres := (if_neg c5).symm.trans hres
            refine lv_iconst (v := 1) hx hb dX1_fewestCalls_35 (by decide) ?_
            refine lv_goto (tgt := 40) hx hb dX1_fewestCalls_36 (by decide) ?_
            refine lv_istore (lv' := [(6, .int 1), (3, .int x3), (4, .int x4), (5, .int x5), (0, .ref (A 1)), (1, .int a1), (2, .int a2)]) hx hb dX1_fewestCalls_40 hl (by decide) rfl (fun ls hl => ?_)
            refine lv_iload hx hb dX1_fewestCalls_42 (lv_at hl 0 rfl) ?_
            refine lv_if_eq (tgt := 75) hx hb dX1_fewestCalls_44 (by decide) (fun c7 => absurd c7 (by decide)) (fun c7 => ?_)
            refine lv_aload_n hx hb dX1_fewestCalls_47 rfl (lv_at hl 4 rfl) ?_
            refine lv_aload_n hx hb dX1_fewestCalls_48 rfl (lv_at hl 4 rfl) ?_
            refine gC_X1_present hx hb hts in1 hown hK hI (hts (.fieldLink RX1 37 "TrickHouse$House" "present" "I") (by decide +kernel)) dX1_fewestCalls_49 ?_
            refine lv_iload hx hb dX1_fewestCalls_52 (lv_at hl 3 rfl) ?_
            refine lv_iconst (v := (-1)) hx hb dX1_fewestCalls_54 (by decide) ?_
            refine lv_ixor hx hb dX1_fewestCalls_55 ?_
            refine lv_iand hx hb dX1_fewestCalls_56 ?_
            obtain ⟨y8, e8, hres⟩ := bd hres
            refine ro_v S (c_X1_companyOf l D cy A X A0 v r ((v 5) &&& (x5 ^^^ (-1))) y8 e8) (cwV 1 hts gX1_fewestCalls_X1_companyOf rfl rfl rfl (by decide +kernel) ⟨Nat.le_of_ble_eq_true rfl, Nat.le_of_ble_eq_true rfl⟩) hI hK hN (ci := 1) rfl (atC_1) rfl rfl hl.1 rfl (Nat.le_of_ble_eq_true rfl) dX1_fewestCalls_57 ⟨Nat.zero_le _, Nat.zero_le _⟩ ?_
            refine lv_iload_n hx hb dX1_fewestCalls_60 rfl (lv_at hl 5 rfl) ?_
            refine lv_iand hx hb dX1_fewestCalls_61 ?_
            refine lv_if_ne (tgt := 75) hx hb dX1_fewestCalls_62 (by decide) (fun c9 => ?_) (fun c9 => ?_)
            · replace hres := (if_neg c9).symm.trans hres
              refine lv_iinc (v := (x5 + 1)) (lv' := [(5, .int (x5 + 1)), (6, .int 1), (3, .int x3), (4, .int x4), (0, .ref (A 1)), (1, .int a1), (2, .int a2)]) hx hb dX1_fewestCalls_75 hl (k := 3) rfl rfl (by decide) rfl (fun ls hl => ?_)
              refine lv_goto (tgt := 10) hx hb dX1_fewestCalls_78 (by decide) ?_
              exact ih10 x3 x4 (x5 + 1) hres ls (lv_sub hl [2, 3, 0, 4, 5, 6] rfl)
            · replace hres := (if_pos c9).symm.trans hres
              refine lv_iload hx hb dX1_fewestCalls_65 (lv_at hl 3 rfl) ?_
              refine lv_istore_n (lv' := [(3, .int x5), (6, .int 1), (4, .int x4), (5, .int x5), (0, .ref (A 1)), (1, .int a1), (2, .int a2)]) hx hb dX1_fewestCalls_67 rfl hl (by decide) rfl (fun ls hl => ?_)
              refine lv_iload hx hb dX1_fewestCalls_68 (lv_at hl 3 rfl) ?_
              refine pu_s S (c_J6_bitCount_0f7a4 l x5 _ rfl) (va_cwS 1 hts gX1_fewestCalls_J6_bitCount_0f7a4 rfl rfl rfl (by decide +kernel) ⟨Nat.le_of_ble_eq_true rfl, Nat.le_of_ble_eq_true rfl⟩) hN rfl hl.1 rfl (Nat.le_of_ble_eq_true rfl) dX1_fewestCalls_70 ⟨Nat.zero_le _, Nat.zero_le _⟩ ?_
              refine lv_istore (lv' := [(4, .int (f_J6_bitCount_0f7a4 x5)), (3, .int x5), (6, .int 1), (5, .int x5), (0, .ref (A 1)), (1, .int a1), (2, .int a2)]) hx hb dX1_fewestCalls_73 hl (by decide) rfl (fun ls hl => ?_)
              refine lv_iinc (v := (x5 + 1)) (lv' := [(5, .int (x5 + 1)), (4, .int (f_J6_bitCount_0f7a4 x5)), (3, .int x5), (6, .int 1), (0, .ref (A 1)), (1, .int a1), (2, .int a2)]) hx hb dX1_fewestCalls_75 hl (k := 3) rfl rfl (by decide) rfl (fun ls hl => ?_)
              refine lv_goto (tgt := 10) hx hb dX1_fewestCalls_78 (by decide) ?_
              exact ih10 x5 (f_J6_bitCount_0f7a4 x5) (x5 + 1) hres ls (lv_sub hl [2, 1, 0, 4, 5, 6] rfl)
  exact w10 80 ((-9) : Int32) (7 : Int32) (0 : Int32) hres ls (lv_sub hl [2, 1, 0, 3, 4, 5] rfl)
abbrev rm_X1_setsThatLeave : Room := { frames := 6, cells := 0, slots := 0, locals := 136 }
def f_X1_setsThatLeave_4 (v : Nat → Int32) (r : Nat → Nat → Int32) (a1 : Int32) : Nat → Int32 → Int32 → Option Int32
  | 0, _, _ => none
  | n4 + 1, x2, x3 => (if (v 5) < x3 then some (x2) else (if (x3 &&& ((v 5) ^^^ (-1))) = 0 then (f_X1_companyOf v r ((v 5) &&& (x3 ^^^ (-1)))).bind (fun y3 => (if (f_X7_has y3 a1) = true then f_X1_setsThatLeave_4 v r a1 n4 (x2 + 1) (x3 + 1) else f_X1_setsThatLeave_4 v r a1 n4 x2 (x3 + 1))) else f_X1_setsThatLeave_4 v r a1 n4 x2 (x3 + 1)))
theorem f_X1_setsThatLeave_4_s (v : Nat → Int32) (r : Nat → Nat → Int32) (a1 : Int32) (n4 : Nat) (x2 : Int32) (x3 : Int32) : f_X1_setsThatLeave_4 v r a1 (n4 + 1) x2 x3 = (if (v 5) < x3 then some (x2) else (if (x3 &&& ((v 5) ^^^ (-1))) = 0 then (f_X1_companyOf v r ((v 5) &&& (x3 ^^^ (-1)))).bind (fun y3 => (if (f_X7_has y3 a1) = true then f_X1_setsThatLeave_4 v r a1 n4 (x2 + 1) (x3 + 1) else f_X1_setsThatLeave_4 v r a1 n4 x2 (x3 + 1))) else f_X1_setsThatLeave_4 v r a1 n4 x2 (x3 + 1))) := rfl
def f_X1_setsThatLeave (v : Nat → Int32) (r : Nat → Nat → Int32) (a1 : Int32) : Option Int32 := f_X1_setsThatLeave_4 v r a1 80 (0 : Int32) (0 : Int32)
set_option maxHeartbeats 4000000 in
set_option maxRecDepth 100000 in
theorem c_X1_setsThatLeave (l : Launch) (D : va_G) (cy : Nat → ClassId) (A : Nat → Nat) (X : va_W) (A0 : Nat → Prop) (v : Nat → Int32) (r : Nat → Nat → Int32) (a1 : Int32) (res : Int32) (hres : f_X1_setsThatLeave v r a1 = some res) : Met l yX1_setsThatLeave wsX1_setsThatLeave rm_X1_setsThatLeave (va_Pc [.ref (A 1), .int a1] (GW D (tyC cy) (pcC cy A v r ++ X) A0)) (QR (.int res)) 0 0 (fun _ => False) := by
  refine Met.ofW (cc := cX1_setsThatLeave) (maxL := 4) (ret := (some .int)) (by decide) rfl ?_
  intro p e s m args below meth c s₁ B hml hv
  obtain ⟨hargs, hP, hK, hD0, hN⟩ := hv
  have hx := B.exec
  have hb := B.bytes
  have hr := B.returns
  have hts := atoms_spec (ws := wsX1_setsThatLeave) B.pre
  have hown : s.vm.findClass RX1 = some m.cls := findClass_of_methodNamed B.named
  have hlocks := B.notSynchronized
  have hI : IW D (pcC cy A v r ++ X) A0 s.heap s.heap [] := ⟨hP, hD0, va_S.rf⟩
  have S : CallFix p m c cX1_setsThatLeave 4 s args wsX1_setsThatLeave RX1 := ⟨hx, hb, hml, hown, hts⟩
  have in1 : ∀ w ∈ wsX10, w ∈ wsX1_setsThatLeave := fun _ h => List.mem_cons_of_mem _ (List.mem_append_left _ (List.mem_append_right _ h))
  have hl := lv_entry ([.ref (A 1), .int a1]) (n := 4) (Nat.le_of_ble_eq_true rfl)
  have hE : entryFrame m args 4 = F0 m 0 ((lg_sl ([.ref (A 1), .int a1]) ++ List.replicate (4 - (lg_sl ([.ref (A 1), .int a1])).length) Slot.unset).toArray) [] := by rw [hargs]; exact lg_entry_eq m [.ref (A 1), .int a1] 4
  rw [hE]
  generalize (lg_sl ([.ref (A 1), .int a1]) ++ List.replicate (4 - (lg_sl ([.ref (A 1), .int a1])).length) Slot.unset).toArray = ls at hl ⊢
  have hl : lv_has ls 4 [(0, .ref (A 1)), (1, .int a1)] := hl
  unfold f_X1_setsThatLeave at hres
  refine lv_iconst (v := 0) hx hb dX1_setsThatLeave_0 (by decide) ?_
  refine lv_istore_n (lv' := [(2, .int 0), (0, .ref (A 1)), (1, .int a1)]) hx hb dX1_setsThatLeave_1 rfl hl (by decide) rfl (fun ls hl => ?_)
  refine lv_iconst (v := 0) hx hb dX1_setsThatLeave_2 (by decide) ?_
  refine lv_istore_n (lv' := [(3, .int 0), (2, .int 0), (0, .ref (A 1)), (1, .int a1)]) hx hb dX1_setsThatLeave_3 rfl hl (by decide) rfl (fun ls hl => ?_)
  have w4 : ∀ (n4 : Nat) (x2 : Int32) (x3 : Int32), f_X1_setsThatLeave_4 v r a1 n4 x2 x3 = some res → ∀ ls : Array Slot, lv_has ls 4 [(2, .int x2), (3, .int x3), (0, .ref (A 1)), (1, .int a1)] → W p l e (headSpec wsX1_setsThatLeave rm_X1_setsThatLeave).room s m args below meth c s.heap [] 0 0 (MQ below (QR (.int res)) args s 0 0 (fun _ => False)) (F0 m 4 ls []) := by
    intro n4
    induction n4 with
    | zero =>
      intro x2 x3  hres
      have hres : (none : Option Int32) = some res := hres
      cases hres
    | succ n4 ih4 =>
      intro x2 x3  hres ls hl
      replace hres := (f_X1_setsThatLeave_4_s v r a1 n4 x2 x3).symm.trans hres
      refine lv_iload_n hx hb dX1_setsThatLeave_4 rfl (lv_at hl 1 rfl) ?_
      refine lv_aload_n hx hb dX1_setsThatLeave_5 rfl (lv_at hl 2 rfl) ?_
      refine gC_X1_present hx hb hts in1 hown hK hI (hts (.fieldLink RX1 37 "TrickHouse$House" "present" "I") (by decide +kernel)) dX1_setsThatLeave_6 ?_
      refine lv_icmp_gt (tgt := 51) hx hb dX1_setsThatLeave_9 (by decide) (fun c1 => ?_) (fun c1 => ?_)
      · replace hres := (if_pos c1).symm.trans hres
        refine lv_iload_n hx hb dX1_setsThatLeave_51 rfl (lv_at hl 0 rfl) ?_
        cases hres
        exact W.iret hx hb hr (fun t ht hW => ⟨rfl, ht⟩) (fun _ h => absurd h List.not_mem_nil) dX1_setsThatLeave_52
      · replace hres := (if_neg c1).symm.trans hres
        refine lv_iload_n hx hb dX1_setsThatLeave_12 rfl (lv_at hl 1 rfl) ?_
        refine lv_aload_n hx hb dX1_setsThatLeave_13 rfl (lv_at hl 2 rfl) ?_
        refine gC_X1_present hx hb hts in1 hown hK hI (hts (.fieldLink RX1 37 "TrickHouse$House" "present" "I") (by decide +kernel)) dX1_setsThatLeave_14 ?_
        refine lv_iconst (v := (-1)) hx hb dX1_setsThatLeave_17 (by decide) ?_
        refine lv_ixor hx hb dX1_setsThatLeave_18 ?_
        refine lv_iand hx hb dX1_setsThatLeave_19 ?_
        refine lv_if_ne (tgt := 45) hx hb dX1_setsThatLeave_20 (by decide) (fun c2 => ?_) (fun c2 => ?_)
        · replace hres := (if_neg c2).symm.trans hres
          refine lv_iinc (v := (x3 + 1)) (lv' := [(3, .int (x3 + 1)), (2, .int x2), (0, .ref (A 1)), (1, .int a1)]) hx hb dX1_setsThatLeave_45 hl (k := 1) rfl rfl (by decide) rfl (fun ls hl => ?_)
          refine lv_goto (tgt := 4) hx hb dX1_setsThatLeave_48 (by decide) ?_
          exact ih4 x2 (x3 + 1) hres ls (lv_sub hl [1, 0, 2, 3] rfl)
        · replace hres := (if_pos c2).symm.trans hres
          refine lv_aload_n hx hb dX1_setsThatLeave_23 rfl (lv_at hl 2 rfl) ?_
          refine lv_aload_n hx hb dX1_setsThatLeave_24 rfl (lv_at hl 2 rfl) ?_
          refine gC_X1_present hx hb hts in1 hown hK hI (hts (.fieldLink RX1 37 "TrickHouse$House" "present" "I") (by decide +kernel)) dX1_setsThatLeave_25 ?_
          refine lv_iload_n hx hb dX1_setsThatLeave_28 rfl (lv_at hl 1 rfl) ?_
          refine lv_iconst (v := (-1)) hx hb dX1_setsThatLeave_29 (by decide) ?_
          refine lv_ixor hx hb dX1_setsThatLeave_30 ?_
          refine lv_iand hx hb dX1_setsThatLeave_31 ?_
          obtain ⟨y3, e3, hres⟩ := bd hres
          refine ro_v S (c_X1_companyOf l D cy A X A0 v r ((v 5) &&& (x3 ^^^ (-1))) y3 e3) (cwV 1 hts gX1_setsThatLeave_X1_companyOf rfl rfl rfl (by decide +kernel) ⟨Nat.le_of_ble_eq_true rfl, Nat.le_of_ble_eq_true rfl⟩) hI hK hN (ci := 1) rfl (atC_1) rfl rfl hl.1 rfl (Nat.le_of_ble_eq_true rfl) dX1_setsThatLeave_32 ⟨Nat.zero_le _, Nat.zero_le _⟩ ?_
          refine lv_iload_n hx hb dX1_setsThatLeave_35 rfl (lv_at hl 3 rfl) ?_
          refine pu_n S (c_X7_has l y3 a1 _ rfl) ⟨va_cnB 2 hts gX1_setsThatLeave_X7_has_n29 rfl rfl rfl hN.1 (hts (.initialized RX7) (by decide +kernel)) (by decide +kernel) ⟨Nat.le_of_ble_eq_true rfl, Nat.le_of_ble_eq_true rfl⟩, hts (.static yX7_has) (by decide +kernel), trivial⟩ hN rfl hl.1 rfl (Nat.le_of_ble_eq_true rfl) dX1_setsThatLeave_36 ⟨Nat.zero_le _, Nat.zero_le _⟩ ?_
          refine lv_if_eq (tgt := 45) hx hb dX1_setsThatLeave_39 (by decide) (fun c5 => ?_) (fun c5 => ?_)
          · replace hres := (if_neg (bI_f c5)).symm.trans hres
            refine lv_iinc (v := (x3 + 1)) (lv' := [(3, .int (x3 + 1)), (2, .int x2), (0, .ref (A 1)), (1, .int a1)]) hx hb dX1_setsThatLeave_45 hl (k := 1) rfl rfl (by decide) rfl (fun ls hl => ?_)
            refine lv_goto (tgt := 4) hx hb dX1_setsThatLeave_48 (by decide) ?_
            exact ih4 x2 (x3 + 1) hres ls (lv_sub hl [1, 0, 2, 3] rfl)
          · replace hres := (if_pos (bI_t c5)).symm.trans hres
            refine lv_iinc (v := (x2 + 1)) (lv' := [(2, .int (x2 + 1)), (3, .int x3), (0, .ref (A 1)), (1, .int a1)]) hx hb dX1_setsThatLeave_42 hl (k := 0) rfl rfl (by decide) rfl (fun ls hl => ?_)
            refine lv_iinc (v := (x3 + 1)) (lv' := [(3, .int (x3 + 1)), (2, .int (x2 + 1)), (0, .ref (A 1)), (1, .int a1)]) hx hb dX1_setsThatLeave_45 hl (k := 1) rfl rfl (by decide) rfl (fun ls hl => ?_)
            refine lv_goto (tgt := 4) hx hb dX1_setsThatLeave_48 (by decide) ?_
            exact ih4 (x2 + 1) (x3 + 1) hres ls (lv_sub hl [1, 0, 2, 3] rfl)
  exact w4 80 (0 : Int32) (0 : Int32) hres ls (lv_sub hl [1, 0, 2, 3] rfl)
end
