-- ===== PART A: goes FIRST, ahead of the names: the tables' words, and 'selects' of the private methods out of them =====
/-- a private method of a class that the tables say can be made, by its rows of tables_1 -/
def lw_okq (q : MethodName × Nat) : Prop := (q.1.cls ≠ "java/lang/invoke/MethodHandle" ∧ q.1.cls ≠ "java/lang/invoke/VarHandle") ∧ Cond.instantiable q.1.cls q.2 ∈ tables_1 ∧ Cond.privateMethod q.1 ∈ tables_1 ∧ Cond.instanceMethod q.1 ∈ tables_1
theorem lw_p0 : lw_okq (⟨"java/lang/Throwable", "fillInStackTrace", "(I)Ljava/lang/Throwable;"⟩, 6) := ⟨⟨by decide +kernel, by decide +kernel⟩, List.mem_of_getElem? (i := 281) (by decide +kernel), List.mem_of_getElem? (i := 279) (by decide +kernel), List.mem_of_getElem? (i := 280) (by decide +kernel)⟩
theorem lw_p1 : lw_okq (⟨"TilePyramid$SeamFinder", "addUpRow", "(II)V"⟩, 5) := ⟨⟨by decide +kernel, by decide +kernel⟩, List.mem_of_getElem? (i := 88) (by decide +kernel), List.mem_of_getElem? (i := 588) (by decide +kernel), List.mem_of_getElem? (i := 589) (by decide +kernel)⟩
theorem lw_p2 : lw_okq (⟨"TilePyramid$SeamFinder", "cheapestNear", "(III)I"⟩, 5) := ⟨⟨by decide +kernel, by decide +kernel⟩, List.mem_of_getElem? (i := 88) (by decide +kernel), List.mem_of_getElem? (i := 593) (by decide +kernel), List.mem_of_getElem? (i := 594) (by decide +kernel)⟩
theorem lw_p3 : lw_okq (⟨"TilePyramid$SeamFinder", "cheapest", "(III)I"⟩, 5) := ⟨⟨by decide +kernel, by decide +kernel⟩, List.mem_of_getElem? (i := 88) (by decide +kernel), List.mem_of_getElem? (i := 599) (by decide +kernel), List.mem_of_getElem? (i := 600) (by decide +kernel)⟩
theorem lw_p4 : lw_okq (⟨"TilePyramidModel", "isPlace", "(II)Z"⟩, 19) := ⟨⟨by decide +kernel, by decide +kernel⟩, List.mem_of_getElem? (i := 610) (by decide +kernel), List.mem_of_getElem? (i := 684) (by decide +kernel), List.mem_of_getElem? (i := 685) (by decide +kernel)⟩
theorem lw_p5 : lw_okq (⟨"TilePyramidModel", "throwing", "(ZZ)Z"⟩, 19) := ⟨⟨by decide +kernel, by decide +kernel⟩, List.mem_of_getElem? (i := 610) (by decide +kernel), List.mem_of_getElem? (i := 694) (by decide +kernel), List.mem_of_getElem? (i := 695) (by decide +kernel)⟩
theorem lw_p6 : lw_okq (⟨"TilePyramidModel", "many", "()I"⟩, 19) := ⟨⟨by decide +kernel, by decide +kernel⟩, List.mem_of_getElem? (i := 610) (by decide +kernel), List.mem_of_getElem? (i := 705) (by decide +kernel), List.mem_of_getElem? (i := 706) (by decide +kernel)⟩
theorem lw_p7 : lw_okq (⟨"TilePyramidModel", "isLevel", "(I)Z"⟩, 19) := ⟨⟨by decide +kernel, by decide +kernel⟩, List.mem_of_getElem? (i := 610) (by decide +kernel), List.mem_of_getElem? (i := 720) (by decide +kernel), List.mem_of_getElem? (i := 721) (by decide +kernel)⟩
theorem lw_p8 : lw_okq (⟨"TilePyramidModel", "across", "(I)I"⟩, 19) := ⟨⟨by decide +kernel, by decide +kernel⟩, List.mem_of_getElem? (i := 610) (by decide +kernel), List.mem_of_getElem? (i := 724) (by decide +kernel), List.mem_of_getElem? (i := 725) (by decide +kernel)⟩
theorem lw_p9 : lw_okq (⟨"TilePyramidModel", "down", "(I)I"⟩, 19) := ⟨⟨by decide +kernel, by decide +kernel⟩, List.mem_of_getElem? (i := 610) (by decide +kernel), List.mem_of_getElem? (i := 728) (by decide +kernel), List.mem_of_getElem? (i := 729) (by decide +kernel)⟩
theorem lw_p10 : lw_okq (⟨"TilePyramidModel", "isAt", "(III)Z"⟩, 19) := ⟨⟨by decide +kernel, by decide +kernel⟩, List.mem_of_getElem? (i := 610) (by decide +kernel), List.mem_of_getElem? (i := 736) (by decide +kernel), List.mem_of_getElem? (i := 737) (by decide +kernel)⟩
theorem lw_p11 : lw_okq (⟨"TilePyramidModel", "sample", "(III)I"⟩, 19) := ⟨⟨by decide +kernel, by decide +kernel⟩, List.mem_of_getElem? (i := 610) (by decide +kernel), List.mem_of_getElem? (i := 740) (by decide +kernel), List.mem_of_getElem? (i := 741) (by decide +kernel)⟩
theorem lw_p12 : lw_okq (⟨"TilePyramidModel", "countUnder", "(III)I"⟩, 19) := ⟨⟨by decide +kernel, by decide +kernel⟩, List.mem_of_getElem? (i := 610) (by decide +kernel), List.mem_of_getElem? (i := 744) (by decide +kernel), List.mem_of_getElem? (i := 745) (by decide +kernel)⟩
theorem lw_p13 : lw_okq (⟨"TilePyramidModel", "under", "(III)I"⟩, 19) := ⟨⟨by decide +kernel, by decide +kernel⟩, List.mem_of_getElem? (i := 610) (by decide +kernel), List.mem_of_getElem? (i := 748) (by decide +kernel), List.mem_of_getElem? (i := 749) (by decide +kernel)⟩
theorem lw_p14 : lw_okq (⟨"TilePyramidModel", "sumUnder", "(III)I"⟩, 19) := ⟨⟨by decide +kernel, by decide +kernel⟩, List.mem_of_getElem? (i := 610) (by decide +kernel), List.mem_of_getElem? (i := 752) (by decide +kernel), List.mem_of_getElem? (i := 753) (by decide +kernel)⟩
theorem lw_p15 : lw_okq (⟨"TilePyramidModel", "isTile", "(III)Z"⟩, 19) := ⟨⟨by decide +kernel, by decide +kernel⟩, List.mem_of_getElem? (i := 610) (by decide +kernel), List.mem_of_getElem? (i := 772) (by decide +kernel), List.mem_of_getElem? (i := 773) (by decide +kernel)⟩
def lw_privs_1 : List (MethodName × Nat) := [(⟨"java/lang/Throwable", "fillInStackTrace", "(I)Ljava/lang/Throwable;"⟩, 6), (⟨"TilePyramid$SeamFinder", "addUpRow", "(II)V"⟩, 5), (⟨"TilePyramid$SeamFinder", "cheapestNear", "(III)I"⟩, 5), (⟨"TilePyramid$SeamFinder", "cheapest", "(III)I"⟩, 5), (⟨"TilePyramidModel", "isPlace", "(II)Z"⟩, 19), (⟨"TilePyramidModel", "throwing", "(ZZ)Z"⟩, 19), (⟨"TilePyramidModel", "many", "()I"⟩, 19), (⟨"TilePyramidModel", "isLevel", "(I)Z"⟩, 19), (⟨"TilePyramidModel", "across", "(I)I"⟩, 19), (⟨"TilePyramidModel", "down", "(I)I"⟩, 19), (⟨"TilePyramidModel", "isAt", "(III)Z"⟩, 19), (⟨"TilePyramidModel", "sample", "(III)I"⟩, 19), (⟨"TilePyramidModel", "countUnder", "(III)I"⟩, 19), (⟨"TilePyramidModel", "under", "(III)I"⟩, 19), (⟨"TilePyramidModel", "sumUnder", "(III)I"⟩, 19), (⟨"TilePyramidModel", "isTile", "(III)Z"⟩, 19)]
theorem lw_r1 : ∀ q ∈ lw_privs_1, lw_okq q := List.forall_mem_cons.mpr ⟨lw_p0, List.forall_mem_cons.mpr ⟨lw_p1, List.forall_mem_cons.mpr ⟨lw_p2, List.forall_mem_cons.mpr ⟨lw_p3, List.forall_mem_cons.mpr ⟨lw_p4, List.forall_mem_cons.mpr ⟨lw_p5, List.forall_mem_cons.mpr ⟨lw_p6, List.forall_mem_cons.mpr ⟨lw_p7, List.forall_mem_cons.mpr ⟨lw_p8, List.forall_mem_cons.mpr ⟨lw_p9, List.forall_mem_cons.mpr ⟨lw_p10, List.forall_mem_cons.mpr ⟨lw_p11, List.forall_mem_cons.mpr ⟨lw_p12, List.forall_mem_cons.mpr ⟨lw_p13, List.forall_mem_cons.mpr ⟨lw_p14, List.forall_mem_cons.mpr ⟨lw_p15, fun _ h => absurd h List.not_mem_nil⟩⟩⟩⟩⟩⟩⟩⟩⟩⟩⟩⟩⟩⟩⟩⟩
theorem lw_p16 : lw_okq (⟨"TilePyramidModel", "write", "(I)V"⟩, 19) := ⟨⟨by decide +kernel, by decide +kernel⟩, List.mem_of_getElem? (i := 610) (by decide +kernel), List.mem_of_getElem? (i := 779) (by decide +kernel), List.mem_of_getElem? (i := 780) (by decide +kernel)⟩
theorem lw_p17 : lw_okq (⟨"TilePyramidModel", "writeRow", "(II)V"⟩, 19) := ⟨⟨by decide +kernel, by decide +kernel⟩, List.mem_of_getElem? (i := 610) (by decide +kernel), List.mem_of_getElem? (i := 783) (by decide +kernel), List.mem_of_getElem? (i := 784) (by decide +kernel)⟩
theorem lw_p18 : lw_okq (⟨"TilePyramidModel", "sum", "(I)I"⟩, 19) := ⟨⟨by decide +kernel, by decide +kernel⟩, List.mem_of_getElem? (i := 610) (by decide +kernel), List.mem_of_getElem? (i := 796) (by decide +kernel), List.mem_of_getElem? (i := 797) (by decide +kernel)⟩
theorem lw_p19 : lw_okq (⟨"TilePyramidModel", "hasByte", "(I)Z"⟩, 19) := ⟨⟨by decide +kernel, by decide +kernel⟩, List.mem_of_getElem? (i := 610) (by decide +kernel), List.mem_of_getElem? (i := 813) (by decide +kernel), List.mem_of_getElem? (i := 814) (by decide +kernel)⟩
theorem lw_p20 : lw_okq (⟨"TilePyramidModel", "readRow", "(II)Z"⟩, 19) := ⟨⟨by decide +kernel, by decide +kernel⟩, List.mem_of_getElem? (i := 610) (by decide +kernel), List.mem_of_getElem? (i := 825) (by decide +kernel), List.mem_of_getElem? (i := 826) (by decide +kernel)⟩
theorem lw_p21 : lw_okq (⟨"TilePyramidModel", "bitAt", "(I)I"⟩, 19) := ⟨⟨by decide +kernel, by decide +kernel⟩, List.mem_of_getElem? (i := 610) (by decide +kernel), List.mem_of_getElem? (i := 829) (by decide +kernel), List.mem_of_getElem? (i := 830) (by decide +kernel)⟩
theorem lw_p22 : lw_okq (⟨"TilePyramidModel", "costAt", "(III)I"⟩, 19) := ⟨⟨by decide +kernel, by decide +kernel⟩, List.mem_of_getElem? (i := 610) (by decide +kernel), List.mem_of_getElem? (i := 849) (by decide +kernel), List.mem_of_getElem? (i := 850) (by decide +kernel)⟩
theorem lw_p23 : lw_okq (⟨"TilePyramidModel", "leastAround", "(III)I"⟩, 19) := ⟨⟨by decide +kernel, by decide +kernel⟩, List.mem_of_getElem? (i := 610) (by decide +kernel), List.mem_of_getElem? (i := 853) (by decide +kernel), List.mem_of_getElem? (i := 854) (by decide +kernel)⟩
theorem lw_p24 : lw_okq (⟨"TilePyramidModel", "cost", "(III)I"⟩, 19) := ⟨⟨by decide +kernel, by decide +kernel⟩, List.mem_of_getElem? (i := 610) (by decide +kernel), List.mem_of_getElem? (i := 857) (by decide +kernel), List.mem_of_getElem? (i := 858) (by decide +kernel)⟩
def lw_privs_2 : List (MethodName × Nat) := [(⟨"TilePyramidModel", "write", "(I)V"⟩, 19), (⟨"TilePyramidModel", "writeRow", "(II)V"⟩, 19), (⟨"TilePyramidModel", "sum", "(I)I"⟩, 19), (⟨"TilePyramidModel", "hasByte", "(I)Z"⟩, 19), (⟨"TilePyramidModel", "readRow", "(II)Z"⟩, 19), (⟨"TilePyramidModel", "bitAt", "(I)I"⟩, 19), (⟨"TilePyramidModel", "costAt", "(III)I"⟩, 19), (⟨"TilePyramidModel", "leastAround", "(III)I"⟩, 19), (⟨"TilePyramidModel", "cost", "(III)I"⟩, 19)]
theorem lw_r2 : ∀ q ∈ lw_privs_2, lw_okq q := List.forall_mem_cons.mpr ⟨lw_p16, List.forall_mem_cons.mpr ⟨lw_p17, List.forall_mem_cons.mpr ⟨lw_p18, List.forall_mem_cons.mpr ⟨lw_p19, List.forall_mem_cons.mpr ⟨lw_p20, List.forall_mem_cons.mpr ⟨lw_p21, List.forall_mem_cons.mpr ⟨lw_p22, List.forall_mem_cons.mpr ⟨lw_p23, List.forall_mem_cons.mpr ⟨lw_p24, fun _ h => absurd h List.not_mem_nil⟩⟩⟩⟩⟩⟩⟩⟩⟩
def lw_privs : List (MethodName × Nat) := lw_privs_1 ++ (lw_privs_2)
def lw_tbl : List Cond := k2_sels lw_privs ++ tables_1
theorem lw_privs_ok : ∀ q ∈ lw_privs, lw_okq q := by
  show ∀ q ∈ lw_privs_1 ++ (lw_privs_2), lw_okq q
  exact List.forall_mem_append.mpr ⟨lw_r1, lw_r2⟩
def RZB : String := "TilePyramid$ByteRow"
def RZP : String := "TilePyramid$Picture"
def RZY : String := "TilePyramid$Pyramid"
def RZS : String := "TilePyramid$SeamFinder"
def RZT : String := "TilePyramid$Tile"
def RZO : String := "TilePyramid$TileOpener"
def RZK : String := "TilePyramid$TilePacker"
def RZQ : String := "TilePyramid"
def RZM : String := "TilePyramidModel"
def RZL : String := "TilePyramidLaw"
def TZB : u_T := fun k => match k with
  | 0 => ("TilePyramid$ByteRow", "bytes", "[I", true)
  | _ => ("TilePyramid$ByteRow", "length", "I", false)
def tyZB : Nat → FieldType := fun k => match k with
  | 0 => .array .int
  | _ => .int
theorem nmZB : ∀ a, a < 2 → ∀ b, b < 2 → a ≠ b → (TZB a).2.1 ≠ (TZB b).2.1 := by decide +kernel
theorem tyZB_ok : ∀ k, k < 2 → parseFieldDescriptor (TZB k).2.2.1 = some (tyZB k) := by decide +kernel
def TZP : u_T := fun k => match k with
  | 0 => ("TilePyramid$Picture", "columns", "I", true)
  | 1 => ("TilePyramid$Picture", "rows", "I", true)
  | _ => ("TilePyramid$Picture", "samples", "[I", true)
def tyZP : Nat → FieldType := fun k => match k with
  | 0 => .int
  | 1 => .int
  | _ => .array .int
theorem nmZP : ∀ a, a < 3 → ∀ b, b < 3 → a ≠ b → (TZP a).2.1 ≠ (TZP b).2.1 := by decide +kernel
theorem tyZP_ok : ∀ k, k < 3 → parseFieldDescriptor (TZP k).2.2.1 = some (tyZP k) := by decide +kernel
def TZY : u_T := fun k => match k with
  | 0 => ("TilePyramid$Pyramid", "base", "LTilePyramid$Picture;", true)
  | _ => ("TilePyramid$Pyramid", "count", "I", true)
def tyZY : Nat → FieldType := fun k => match k with
  | 0 => .object "TilePyramid$Picture"
  | _ => .int
theorem nmZY : ∀ a, a < 2 → ∀ b, b < 2 → a ≠ b → (TZY a).2.1 ≠ (TZY b).2.1 := by decide +kernel
theorem tyZY_ok : ∀ k, k < 2 → parseFieldDescriptor (TZY k).2.2.1 = some (tyZY k) := by decide +kernel
def TZS : u_T := fun k => match k with
  | 0 => ("TilePyramid$SeamFinder", "under", "LTilePyramid$Picture;", true)
  | 1 => ("TilePyramid$SeamFinder", "over", "LTilePyramid$Picture;", true)
  | 2 => ("TilePyramid$SeamFinder", "leastCosts", "[I", true)
  | 3 => ("TilePyramid$SeamFinder", "path", "[I", true)
  | _ => ("TilePyramid$SeamFinder", "found", "Z", false)
def tyZS : Nat → FieldType := fun k => match k with
  | 0 => .object "TilePyramid$Picture"
  | 1 => .object "TilePyramid$Picture"
  | 2 => .array .int
  | 3 => .array .int
  | _ => .boolean
theorem nmZS : ∀ a, a < 5 → ∀ b, b < 5 → a ≠ b → (TZS a).2.1 ≠ (TZS b).2.1 := by decide +kernel
theorem tyZS_ok : ∀ k, k < 5 → parseFieldDescriptor (TZS k).2.2.1 = some (tyZS k) := by decide +kernel
def TZT : u_T := fun k => match k with
  | 0 => ("TilePyramid$Tile", "samples", "[I", true)
  | 1 => ("TilePyramid$Tile", "columns", "I", false)
  | _ => ("TilePyramid$Tile", "rows", "I", false)
def tyZT : Nat → FieldType := fun k => match k with
  | 0 => .array .int
  | 1 => .int
  | _ => .int
theorem nmZT : ∀ a, a < 3 → ∀ b, b < 3 → a ≠ b → (TZT a).2.1 ≠ (TZT b).2.1 := by decide +kernel
theorem tyZT_ok : ∀ k, k < 3 → parseFieldDescriptor (TZT k).2.2.1 = some (tyZT k) := by decide +kernel
def TZQ : u_T := fun k => match k with
  | 0 => ("TilePyramid", "picture", "LTilePyramid$Picture;", true)
  | 1 => ("TilePyramid", "overlay", "LTilePyramid$Picture;", true)
  | 2 => ("TilePyramid", "pyramid", "LTilePyramid$Pyramid;", true)
  | 3 => ("TilePyramid", "buffer", "LTilePyramid$ByteRow;", true)
  | 4 => ("TilePyramid", "seamFinder", "LTilePyramid$SeamFinder;", true)
  | 5 => ("TilePyramid", "latestTile", "LTilePyramid$Tile;", false)
  | _ => ("TilePyramid", "workTile", "LTilePyramid$Tile;", false)
def tyZQ : Nat → FieldType := fun k => match k with
  | 0 => .object "TilePyramid$Picture"
  | 1 => .object "TilePyramid$Picture"
  | 2 => .object "TilePyramid$Pyramid"
  | 3 => .object "TilePyramid$ByteRow"
  | 4 => .object "TilePyramid$SeamFinder"
  | 5 => .object "TilePyramid$Tile"
  | _ => .object "TilePyramid$Tile"
theorem nmZQ : ∀ a, a < 7 → ∀ b, b < 7 → a ≠ b → (TZQ a).2.1 ≠ (TZQ b).2.1 := by decide +kernel
theorem tyZQ_ok : ∀ k, k < 7 → parseFieldDescriptor (TZQ k).2.2.1 = some (tyZQ k) := by decide +kernel
def TZM : u_T := fun k => match k with
  | 0 => ("TilePyramidModel", "thrown", "I", false)
  | 1 => ("TilePyramidModel", "width", "I", true)
  | 2 => ("TilePyramidModel", "height", "I", true)
  | 3 => ("TilePyramidModel", "picture", "[I", true)
  | 4 => ("TilePyramidModel", "strip", "[I", true)
  | 5 => ("TilePyramidModel", "buffer", "[I", true)
  | 6 => ("TilePyramidModel", "size", "I", false)
  | 7 => ("TilePyramidModel", "tile", "[I", true)
  | 8 => ("TilePyramidModel", "opening", "[I", true)
  | 9 => ("TilePyramidModel", "columns", "I", false)
  | 10 => ("TilePyramidModel", "rows", "I", false)
  | 11 => ("TilePyramidModel", "tileColumns", "I", false)
  | 12 => ("TilePyramidModel", "tileRows", "I", false)
  | 13 => ("TilePyramidModel", "place", "I", false)
  | 14 => ("TilePyramidModel", "bit", "I", false)
  | 15 => ("TilePyramidModel", "costs", "[I", true)
  | 16 => ("TilePyramidModel", "seams", "[I", true)
  | 17 => ("TilePyramidModel", "hasSeam", "Z", false)
  | _ => ("TilePyramidModel", "packing", "[I", true)
def tyZM : Nat → FieldType := fun k => match k with
  | 0 => .int
  | 1 => .int
  | 2 => .int
  | 3 => .array .int
  | 4 => .array .int
  | 5 => .array .int
  | 6 => .int
  | 7 => .array .int
  | 8 => .array .int
  | 9 => .int
  | 10 => .int
  | 11 => .int
  | 12 => .int
  | 13 => .int
  | 14 => .int
  | 15 => .array .int
  | 16 => .array .int
  | 17 => .boolean
  | _ => .array .int
theorem nmZM : ∀ a, a < 19 → ∀ b, b < 19 → a ≠ b → (TZM a).2.1 ≠ (TZM b).2.1 := by decide +kernel
theorem tyZM_ok : ∀ k, k < 19 → parseFieldDescriptor (TZM k).2.2.1 = some (tyZM k) := by decide +kernel
abbrev cZQ_init : ByteArray := prog_1_method_1_code
def yZQ_init : MethodName := ⟨RZQ, "<init>", "(II)V"⟩
abbrev cZJ_min : ByteArray := prog_15_method_69_code
def yZJ_min : MethodName := ⟨"java/lang/Math", "min", "(II)I"⟩
abbrev cZJ_max : ByteArray := prog_15_method_65_code
def yZJ_max : MethodName := ⟨"java/lang/Math", "max", "(II)I"⟩
abbrev cZP_init : ByteArray := prog_3_method_1_code
def yZP_init : MethodName := ⟨RZP, "<init>", "(II)V"⟩
abbrev cZY_init : ByteArray := prog_4_method_1_code
def yZY_init : MethodName := ⟨RZY, "<init>", "(LTilePyramid$Picture;)V"⟩
abbrev cZB_init : ByteArray := prog_2_method_1_code
def yZB_init : MethodName := ⟨RZB, "<init>", "()V"⟩
abbrev cZS_init : ByteArray := prog_5_method_1_code
def yZS_init : MethodName := ⟨RZS, "<init>", "(LTilePyramid$Picture;LTilePyramid$Picture;)V"⟩
abbrev cZT_init : ByteArray := prog_6_method_1_code
def yZT_init : MethodName := ⟨RZT, "<init>", "()V"⟩
abbrev cZQ_levels : ByteArray := prog_1_method_4_code
def yZQ_levels : MethodName := ⟨RZQ, "levels", "()I"⟩
abbrev cZQ_clear : ByteArray := prog_1_method_12_code
def yZQ_clear : MethodName := ⟨RZQ, "clear", "()I"⟩
abbrev cZQ_open : ByteArray := prog_1_method_15_code
def yZQ_open : MethodName := ⟨RZQ, "open", "()I"⟩
abbrev cZO_isSumRight : ByteArray := prog_7_method_2_code
def yZO_isSumRight : MethodName := ⟨RZO, "isSumRight", "(LTilePyramid$ByteRow;)Z"⟩
abbrev cZB_sumOfFirst : ByteArray := prog_2_method_4_code
def yZB_sumOfFirst : MethodName := ⟨RZB, "sumOfFirst", "(I)I"⟩
abbrev cZO_openTile : ByteArray := prog_7_method_3_code
def yZO_openTile : MethodName := ⟨RZO, "openTile", "(LTilePyramid$ByteRow;LTilePyramid$Tile;)Z"⟩
abbrev cZO_isSide : ByteArray := prog_7_method_4_code
def yZO_isSide : MethodName := ⟨RZO, "isSide", "(I)Z"⟩
abbrev cZT_setSize : ByteArray := prog_6_method_2_code
def yZT_setSize : MethodName := ⟨RZT, "setSize", "(II)V"⟩
abbrev cZO_openRow : ByteArray := prog_7_method_5_code
def yZO_openRow : MethodName := ⟨RZO, "openRow", "(LTilePyramid$ByteRow;IILTilePyramid$Tile;I)I"⟩
abbrev cZB_bitsFrom : ByteArray := prog_2_method_5_code
def yZB_bitsFrom : MethodName := ⟨RZB, "bitsFrom", "(II)I"⟩
abbrev cZT_formerSample : ByteArray := prog_6_method_6_code
def yZT_formerSample : MethodName := ⟨RZT, "formerSample", "(II)I"⟩
abbrev cZT_sampleAt : ByteArray := prog_6_method_4_code
def yZT_sampleAt : MethodName := ⟨RZT, "sampleAt", "(II)I"⟩
abbrev cZO_differenceOf : ByteArray := prog_7_method_6_code
def yZO_differenceOf : MethodName := ⟨RZO, "differenceOf", "(I)I"⟩
abbrev cZQ_isSample : ByteArray := prog_1_method_24_code
def yZQ_isSample : MethodName := ⟨RZQ, "isSample", "(I)Z"⟩
abbrev cZT_setSample : ByteArray := prog_6_method_5_code
def yZT_setSample : MethodName := ⟨RZT, "setSample", "(III)V"⟩
abbrev cZQ_bitsNeeded : ByteArray := prog_1_method_27_code
def yZQ_bitsNeeded : MethodName := ⟨RZQ, "bitsNeeded", "(I)I"⟩
abbrev cZT_sampleCount : ByteArray := prog_6_method_3_code
def yZT_sampleCount : MethodName := ⟨RZT, "sampleCount", "()I"⟩
abbrev cZL_cell : ByteArray := method_2_code
def yZL_cell : MethodName := ⟨RZL, "cell", "([II)I"⟩
abbrev cZL_put : ByteArray := method_3_code
def yZL_put : MethodName := ⟨RZL, "put", "(LTilePyramid;III[J)I"⟩
abbrev cZQ_put : ByteArray := prog_1_method_2_code
def yZQ_put : MethodName := ⟨RZQ, "put", "(III)I"⟩
abbrev cZQ_replaceSample : ByteArray := prog_1_method_21_code
def yZQ_replaceSample : MethodName := ⟨RZQ, "replaceSample", "(LTilePyramid$Picture;III)I"⟩
abbrev cZQ_isWithin : ByteArray := prog_1_method_25_code
def yZQ_isWithin : MethodName := ⟨RZQ, "isWithin", "(II)Z"⟩
abbrev cZQ_requirePlace : ByteArray := prog_1_method_22_code
def yZQ_requirePlace : MethodName := ⟨RZQ, "requirePlace", "(Z)V"⟩
abbrev cZQ_requireSample : ByteArray := prog_1_method_23_code
def yZQ_requireSample : MethodName := ⟨RZQ, "requireSample", "(I)V"⟩
abbrev cZP_sampleAt : ByteArray := prog_3_method_2_code
def yZP_sampleAt : MethodName := ⟨RZP, "sampleAt", "(II)I"⟩
abbrev cZP_setSample : ByteArray := prog_3_method_3_code
def yZP_setSample : MethodName := ⟨RZP, "setSample", "(III)V"⟩
abbrev cZL_change : ByteArray := method_4_code
def yZL_change : MethodName := ⟨RZL, "change", "(LTilePyramid;IIIII[J)I"⟩
abbrev cZQ_change : ByteArray := prog_1_method_3_code
def yZQ_change : MethodName := ⟨RZQ, "change", "(IIIII)I"⟩
abbrev cZY_hasPart : ByteArray := prog_4_method_4_code
def yZY_hasPart : MethodName := ⟨RZY, "hasPart", "(IIIII)Z"⟩
abbrev cZY_hasPlace : ByteArray := prog_4_method_3_code
def yZY_hasPlace : MethodName := ⟨RZY, "hasPlace", "(III)Z"⟩
abbrev cZY_hasLevel : ByteArray := prog_4_method_2_code
def yZY_hasLevel : MethodName := ⟨RZY, "hasLevel", "(I)Z"⟩
abbrev cZY_columnsOf : ByteArray := prog_4_method_6_code
def yZY_columnsOf : MethodName := ⟨RZY, "columnsOf", "(I)I"⟩
abbrev cZY_halvedUp : ByteArray := prog_4_method_16_code
def yZY_halvedUp : MethodName := ⟨RZY, "halvedUp", "(II)I"⟩
abbrev cZY_rowsOf : ByteArray := prog_4_method_7_code
def yZY_rowsOf : MethodName := ⟨RZY, "rowsOf", "(I)I"⟩
abbrev cZP_fillPart : ByteArray := prog_3_method_4_code
def yZP_fillPart : MethodName := ⟨RZP, "fillPart", "(IIIII)V"⟩
abbrev cZY_tilesOver : ByteArray := prog_4_method_13_code
def yZY_tilesOver : MethodName := ⟨RZY, "tilesOver", "(IIII)I"⟩
abbrev cZY_tilesOverSide : ByteArray := prog_4_method_19_code
def yZY_tilesOverSide : MethodName := ⟨RZY, "tilesOverSide", "(III)I"⟩
abbrev cZL_size : ByteArray := method_5_code
def yZL_size : MethodName := ⟨RZL, "size", "(LTilePyramid;II[J)I"⟩
abbrev cZQ_size : ByteArray := prog_1_method_5_code
def yZQ_size : MethodName := ⟨RZQ, "size", "(II)I"⟩
abbrev cZL_at : ByteArray := method_6_code
def yZL_at : MethodName := ⟨RZL, "at", "(LTilePyramid;III[J)I"⟩
abbrev cZQ_at : ByteArray := prog_1_method_6_code
def yZQ_at : MethodName := ⟨RZQ, "at", "(III)I"⟩
abbrev cZY_roundedMean : ByteArray := prog_4_method_12_code
def yZY_roundedMean : MethodName := ⟨RZY, "roundedMean", "(III)I"⟩
abbrev cZY_countUnder : ByteArray := prog_4_method_10_code
def yZY_countUnder : MethodName := ⟨RZY, "countUnder", "(III)I"⟩
abbrev cZY_reach : ByteArray := prog_4_method_18_code
def yZY_reach : MethodName := ⟨RZY, "reach", "(III)I"⟩
abbrev cZY_totalUnder : ByteArray := prog_4_method_11_code
def yZY_totalUnder : MethodName := ⟨RZY, "totalUnder", "(III)I"⟩
abbrev cZP_sumOfPart : ByteArray := prog_3_method_5_code
def yZP_sumOfPart : MethodName := ⟨RZP, "sumOfPart", "(IIII)I"⟩
abbrev cZL_mean : ByteArray := method_7_code
def yZL_mean : MethodName := ⟨RZL, "mean", "(LTilePyramid;IIII[J)I"⟩
abbrev cZQ_mean : ByteArray := prog_1_method_7_code
def yZQ_mean : MethodName := ⟨RZQ, "mean", "(IIII)I"⟩
abbrev cZQ_greatestDivisor : ByteArray := prog_1_method_26_code
def yZQ_greatestDivisor : MethodName := ⟨RZQ, "greatestDivisor", "(II)I"⟩
abbrev cZL_zoom : ByteArray := method_8_code
def yZL_zoom : MethodName := ⟨RZL, "zoom", "(LTilePyramid;IIIII[J)I"⟩
abbrev cZQ_zoom : ByteArray := prog_1_method_8_code
def yZQ_zoom : MethodName := ⟨RZQ, "zoom", "(IIIII)I"⟩
abbrev cZL_turned : ByteArray := method_9_code
def yZL_turned : MethodName := ⟨RZL, "turned", "(LTilePyramid;III[J)I"⟩
abbrev cZQ_turned : ByteArray := prog_1_method_9_code
def yZQ_turned : MethodName := ⟨RZQ, "turned", "(III)I"⟩
abbrev cZJ_floorMod : ByteArray := prog_15_method_50_code
def yZJ_floorMod : MethodName := ⟨"java/lang/Math", "floorMod", "(II)I"⟩
abbrev cZL_pack : ByteArray := method_10_code
def yZL_pack : MethodName := ⟨RZL, "pack", "(LTilePyramid;III[J)I"⟩
abbrev cZQ_pack : ByteArray := prog_1_method_10_code
def yZQ_pack : MethodName := ⟨RZQ, "pack", "(III)I"⟩
abbrev cZY_hasTile : ByteArray := prog_4_method_5_code
def yZY_hasTile : MethodName := ⟨RZY, "hasTile", "(III)Z"⟩
abbrev cZY_tilesAlong : ByteArray := prog_4_method_17_code
def yZY_tilesAlong : MethodName := ⟨RZY, "tilesAlong", "(I)I"⟩
abbrev cZY_cutTile : ByteArray := prog_4_method_14_code
def yZY_cutTile : MethodName := ⟨RZY, "cutTile", "(IIILTilePyramid$Tile;)V"⟩
abbrev cZY_tileColumns : ByteArray := prog_4_method_8_code
def yZY_tileColumns : MethodName := ⟨RZY, "tileColumns", "(II)I"⟩
abbrev cZY_tileRows : ByteArray := prog_4_method_9_code
def yZY_tileRows : MethodName := ⟨RZY, "tileRows", "(II)I"⟩
abbrev cZK_packTile : ByteArray := prog_8_method_2_code
def yZK_packTile : MethodName := ⟨RZK, "packTile", "(LTilePyramid$Tile;LTilePyramid$ByteRow;)V"⟩
abbrev cZB_append : ByteArray := prog_2_method_3_code
def yZB_append : MethodName := ⟨RZB, "append", "(I)V"⟩
abbrev cZB_isFull : ByteArray := prog_2_method_2_code
def yZB_isFull : MethodName := ⟨RZB, "isFull", "()Z"⟩
abbrev cZK_packRow : ByteArray := prog_8_method_3_code
def yZK_packRow : MethodName := ⟨RZK, "packRow", "(LTilePyramid$Tile;ILTilePyramid$ByteRow;)V"⟩
abbrev cZK_greatestNumber : ByteArray := prog_8_method_4_code
def yZK_greatestNumber : MethodName := ⟨RZK, "greatestNumber", "(LTilePyramid$Tile;I)I"⟩
abbrev cZK_numberAt : ByteArray := prog_8_method_5_code
def yZK_numberAt : MethodName := ⟨RZK, "numberAt", "(LTilePyramid$Tile;II)I"⟩
abbrev cZL_load : ByteArray := method_11_code
def yZL_load : MethodName := ⟨RZL, "load", "(LTilePyramid;I[J)I"⟩
abbrev cZQ_load : ByteArray := prog_1_method_11_code
def yZQ_load : MethodName := ⟨RZQ, "load", "(I)I"⟩
abbrev cZL_byteAt : ByteArray := method_12_code
def yZL_byteAt : MethodName := ⟨RZL, "byteAt", "(LTilePyramid;I[J)I"⟩
abbrev cZQ_byteAt : ByteArray := prog_1_method_13_code
def yZQ_byteAt : MethodName := ⟨RZQ, "byteAt", "(I)I"⟩
abbrev cZL_poke : ByteArray := method_13_code
def yZL_poke : MethodName := ⟨RZL, "poke", "(LTilePyramid;II[J)I"⟩
abbrev cZQ_poke : ByteArray := prog_1_method_14_code
def yZQ_poke : MethodName := ⟨RZQ, "poke", "(II)I"⟩
abbrev cZL_opened : ByteArray := method_14_code
def yZL_opened : MethodName := ⟨RZL, "opened", "(LTilePyramid;I[J)I"⟩
abbrev cZQ_opened : ByteArray := prog_1_method_16_code
def yZQ_opened : MethodName := ⟨RZQ, "opened", "(I)I"⟩
abbrev cZL_restore : ByteArray := method_15_code
def yZL_restore : MethodName := ⟨RZL, "restore", "(LTilePyramid;II[J)I"⟩
abbrev cZQ_restore : ByteArray := prog_1_method_17_code
def yZQ_restore : MethodName := ⟨RZQ, "restore", "(II)Z"⟩
abbrev cZY_layTile : ByteArray := prog_4_method_15_code
def yZY_layTile : MethodName := ⟨RZY, "layTile", "(IILTilePyramid$Tile;)V"⟩
abbrev cZL_strip : ByteArray := method_16_code
def yZL_strip : MethodName := ⟨RZL, "strip", "(LTilePyramid;III[J)I"⟩
abbrev cZQ_strip : ByteArray := prog_1_method_18_code
def yZQ_strip : MethodName := ⟨RZQ, "strip", "(III)I"⟩
abbrev cZL_seam : ByteArray := method_17_code
def yZL_seam : MethodName := ⟨RZL, "seam", "(LTilePyramid;I[J)I"⟩
abbrev cZQ_seam : ByteArray := prog_1_method_19_code
def yZQ_seam : MethodName := ⟨RZQ, "seam", "(I)I"⟩
abbrev cZS_findLeast : ByteArray := prog_5_method_2_code
def yZS_findLeast : MethodName := ⟨RZS, "findLeast", "(I)I"⟩
abbrev cZS_addUpRow : ByteArray := prog_5_method_3_code
def yZS_addUpRow : MethodName := ⟨RZS, "addUpRow", "(II)V"⟩
abbrev cZS_cheapestNear : ByteArray := prog_5_method_4_code
def yZS_cheapestNear : MethodName := ⟨RZS, "cheapestNear", "(III)I"⟩
abbrev cZS_cheapest : ByteArray := prog_5_method_5_code
def yZS_cheapest : MethodName := ⟨RZS, "cheapest", "(III)I"⟩
abbrev cZL_seamAt : ByteArray := method_18_code
def yZL_seamAt : MethodName := ⟨RZL, "seamAt", "(LTilePyramid;I[J)I"⟩
abbrev cZQ_seamAt : ByteArray := prog_1_method_20_code
def yZQ_seamAt : MethodName := ⟨RZQ, "seamAt", "(I)I"⟩
abbrev cZM_init : ByteArray := prog_10_method_1_code
def yZM_init : MethodName := ⟨RZM, "<init>", "(II)V"⟩
abbrev cZM_held : ByteArray := prog_10_method_2_code
def yZM_held : MethodName := ⟨RZM, "held", "(I)I"⟩
abbrev cZM_thrown : ByteArray := prog_10_method_3_code
def yZM_thrown : MethodName := ⟨RZM, "thrown", "()I"⟩
abbrev cZM_put : ByteArray := prog_10_method_8_code
def yZM_put : MethodName := ⟨RZM, "put", "(III)I"⟩
abbrev cZM_isPlace : ByteArray := prog_10_method_7_code
def yZM_isPlace : MethodName := ⟨RZM, "isPlace", "(II)Z"⟩
abbrev cZM_in : ByteArray := prog_10_method_5_code
def yZM_in : MethodName := ⟨RZM, "in", "(III)Z"⟩
abbrev cZM_isByte : ByteArray := prog_10_method_6_code
def yZM_isByte : MethodName := ⟨RZM, "isByte", "(I)Z"⟩
abbrev cZM_throwing : ByteArray := prog_10_method_4_code
def yZM_throwing : MethodName := ⟨RZM, "throwing", "(ZZ)Z"⟩
abbrev cZM_change : ByteArray := prog_10_method_15_code
def yZM_change : MethodName := ⟨RZM, "change", "(IIIII)I"⟩
abbrev cZM_isPart : ByteArray := prog_10_method_14_code
def yZM_isPart : MethodName := ⟨RZM, "isPart", "(IIIIII)Z"⟩
abbrev cZM_many : ByteArray := prog_10_method_10_code
def yZM_many : MethodName := ⟨RZM, "many", "()I"⟩
abbrev cZM_half : ByteArray := prog_10_method_9_code
def yZM_half : MethodName := ⟨RZM, "half", "(II)I"⟩
abbrev cZM_levels : ByteArray := prog_10_method_16_code
def yZM_levels : MethodName := ⟨RZM, "levels", "()I"⟩
abbrev cZM_size : ByteArray := prog_10_method_17_code
def yZM_size : MethodName := ⟨RZM, "size", "(II)I"⟩
abbrev cZM_isLevel : ByteArray := prog_10_method_11_code
def yZM_isLevel : MethodName := ⟨RZM, "isLevel", "(I)Z"⟩
abbrev cZM_across : ByteArray := prog_10_method_12_code
def yZM_across : MethodName := ⟨RZM, "across", "(I)I"⟩
abbrev cZM_down : ByteArray := prog_10_method_13_code
def yZM_down : MethodName := ⟨RZM, "down", "(I)I"⟩
abbrev cZM_at : ByteArray := prog_10_method_23_code
def yZM_at : MethodName := ⟨RZM, "at", "(III)I"⟩
abbrev cZM_isAt : ByteArray := prog_10_method_18_code
def yZM_isAt : MethodName := ⟨RZM, "isAt", "(III)Z"⟩
abbrev cZM_sample : ByteArray := prog_10_method_22_code
def yZM_sample : MethodName := ⟨RZM, "sample", "(III)I"⟩
abbrev cZM_countUnder : ByteArray := prog_10_method_21_code
def yZM_countUnder : MethodName := ⟨RZM, "countUnder", "(III)I"⟩
abbrev cZM_under : ByteArray := prog_10_method_19_code
def yZM_under : MethodName := ⟨RZM, "under", "(III)I"⟩
abbrev cZM_sumUnder : ByteArray := prog_10_method_20_code
def yZM_sumUnder : MethodName := ⟨RZM, "sumUnder", "(III)I"⟩
abbrev cZM_mean : ByteArray := prog_10_method_24_code
def yZM_mean : MethodName := ⟨RZM, "mean", "(IIII)I"⟩
abbrev cZM_zoom : ByteArray := prog_10_method_25_code
def yZM_zoom : MethodName := ⟨RZM, "zoom", "(IIIII)I"⟩
abbrev cZM_turned : ByteArray := prog_10_method_26_code
def yZM_turned : MethodName := ⟨RZM, "turned", "(III)I"⟩
abbrev cZM_pack : ByteArray := prog_10_method_34_code
def yZM_pack : MethodName := ⟨RZM, "pack", "(III)I"⟩
abbrev cZM_isTile : ByteArray := prog_10_method_27_code
def yZM_isTile : MethodName := ⟨RZM, "isTile", "(III)Z"⟩
abbrev cZM_part : ByteArray := prog_10_method_28_code
def yZM_part : MethodName := ⟨RZM, "part", "(II)I"⟩
abbrev cZM_write : ByteArray := prog_10_method_29_code
def yZM_write : MethodName := ⟨RZM, "write", "(I)V"⟩
abbrev cZM_writeRow : ByteArray := prog_10_method_35_code
def yZM_writeRow : MethodName := ⟨RZM, "writeRow", "(II)V"⟩
abbrev cZM_rowBits : ByteArray := prog_10_method_33_code
def yZM_rowBits : MethodName := ⟨RZM, "rowBits", "([III)I"⟩
abbrev cZM_told : ByteArray := prog_10_method_31_code
def yZM_told : MethodName := ⟨RZM, "told", "([III)I"⟩
abbrev cZM_bitsOf : ByteArray := prog_10_method_32_code
def yZM_bitsOf : MethodName := ⟨RZM, "bitsOf", "(I)I"⟩
abbrev cZM_sum : ByteArray := prog_10_method_30_code
def yZM_sum : MethodName := ⟨RZM, "sum", "(I)I"⟩
abbrev cZM_load : ByteArray := prog_10_method_36_code
def yZM_load : MethodName := ⟨RZM, "load", "(I)I"⟩
abbrev cZM_clear : ByteArray := prog_10_method_37_code
def yZM_clear : MethodName := ⟨RZM, "clear", "()I"⟩
abbrev cZM_byteAt : ByteArray := prog_10_method_39_code
def yZM_byteAt : MethodName := ⟨RZM, "byteAt", "(I)I"⟩
abbrev cZM_hasByte : ByteArray := prog_10_method_38_code
def yZM_hasByte : MethodName := ⟨RZM, "hasByte", "(I)Z"⟩
abbrev cZM_poke : ByteArray := prog_10_method_40_code
def yZM_poke : MethodName := ⟨RZM, "poke", "(II)I"⟩
abbrev cZM_open : ByteArray := prog_10_method_43_code
def yZM_open : MethodName := ⟨RZM, "open", "()I"⟩
abbrev cZM_readRow : ByteArray := prog_10_method_41_code
def yZM_readRow : MethodName := ⟨RZM, "readRow", "(II)Z"⟩
abbrev cZM_bitAt : ByteArray := prog_10_method_42_code
def yZM_bitAt : MethodName := ⟨RZM, "bitAt", "(I)I"⟩
abbrev cZM_opened : ByteArray := prog_10_method_44_code
def yZM_opened : MethodName := ⟨RZM, "opened", "(I)I"⟩
abbrev cZM_restore : ByteArray := prog_10_method_45_code
def yZM_restore : MethodName := ⟨RZM, "restore", "(II)Z"⟩
abbrev cZM_strip : ByteArray := prog_10_method_46_code
def yZM_strip : MethodName := ⟨RZM, "strip", "(III)I"⟩
abbrev cZM_seam : ByteArray := prog_10_method_50_code
def yZM_seam : MethodName := ⟨RZM, "seam", "(I)I"⟩
abbrev cZM_costAt : ByteArray := prog_10_method_47_code
def yZM_costAt : MethodName := ⟨RZM, "costAt", "(III)I"⟩
abbrev cZM_leastAround : ByteArray := prog_10_method_49_code
def yZM_leastAround : MethodName := ⟨RZM, "leastAround", "(III)I"⟩
abbrev cZM_cost : ByteArray := prog_10_method_48_code
def yZM_cost : MethodName := ⟨RZM, "cost", "(III)I"⟩
abbrev cZM_seamAt : ByteArray := prog_10_method_51_code
def yZM_seamAt : MethodName := ⟨RZM, "seamAt", "(I)I"⟩
abbrev vwCl : List vw_C := [(RZB, TZB, 2), (RZP, TZP, 3), (RZY, TZY, 2), (RZS, TZS, 5), (RZT, TZT, 3), (RZQ, TZQ, 7), (RZM, TZM, 19)]
def tbg : List Cond := lw_tbl.filter goodWord
theorem tb_good {w : Cond} (h : w ∈ tbg) : goodWord w = true := (List.mem_filter.mp h).2
theorem tb_lw {w : Cond} (h : w ∈ tbg) : w ∈ lw_tbl := (List.mem_filter.mp h).1
theorem in_tables_1_1 {w : Cond} (h : w ∈ tables_1_1) (g : goodWord w = true) : w ∈ tbg := by
  refine List.mem_filter.mpr ⟨?_, g⟩
  show w ∈ k2_sels lw_privs ++ (tables_1_1 ++ (tables_1_2 ++ (tables_1_3 ++ (tables_1_4))))
  exact List.mem_append_right _ (List.mem_append_left _ h)
theorem in_tables_1_2 {w : Cond} (h : w ∈ tables_1_2) (g : goodWord w = true) : w ∈ tbg := by
  refine List.mem_filter.mpr ⟨?_, g⟩
  show w ∈ k2_sels lw_privs ++ (tables_1_1 ++ (tables_1_2 ++ (tables_1_3 ++ (tables_1_4))))
  exact List.mem_append_right _ (List.mem_append_right _ (List.mem_append_left _ h))
theorem in_tables_1_3 {w : Cond} (h : w ∈ tables_1_3) (g : goodWord w = true) : w ∈ tbg := by
  refine List.mem_filter.mpr ⟨?_, g⟩
  show w ∈ k2_sels lw_privs ++ (tables_1_1 ++ (tables_1_2 ++ (tables_1_3 ++ (tables_1_4))))
  exact List.mem_append_right _ (List.mem_append_right _ (List.mem_append_right _ (List.mem_append_left _ h)))
theorem in_tables_1_4 {w : Cond} (h : w ∈ tables_1_4) (g : goodWord w = true) : w ∈ tbg := by
  refine List.mem_filter.mpr ⟨?_, g⟩
  show w ∈ k2_sels lw_privs ++ (tables_1_1 ++ (tables_1_2 ++ (tables_1_3 ++ (tables_1_4))))
  exact List.mem_append_right _ (List.mem_append_right _ (List.mem_append_right _ (List.mem_append_right _ (h))))
theorem in_priv {w : Cond} (h : w ∈ k2_sels lw_privs) (g : goodWord w = true) : w ∈ tbg := by
  refine List.mem_filter.mpr ⟨?_, g⟩
  show w ∈ k2_sels lw_privs ++ tables_1
  exact List.mem_append_left _ h
