section
-- ===== PART A: goes FIRST, ahead of the names: the tables' words, and 'selects' of the private methods out of them =====
/-- a private method of a class that the tables say can be made, by its rows of tables_1 -/
def lw_okq (q : MethodName × Nat) : Prop := (q.1.cls ≠ "java/lang/invoke/MethodHandle" ∧ q.1.cls ≠ "java/lang/invoke/VarHandle") ∧ Cond.instantiable q.1.cls q.2 ∈ tables_1 ∧ Cond.privateMethod q.1 ∈ tables_1 ∧ Cond.instanceMethod q.1 ∈ tables_1
theorem lw_p0 : lw_okq (⟨"java/lang/Throwable", "fillInStackTrace", "(I)Ljava/lang/Throwable;"⟩, 6) := ⟨⟨by decide +kernel, by decide +kernel⟩, List.mem_of_getElem? (i := 281) (by decide +kernel), List.mem_of_getElem? (i := 279) (by decide +kernel), List.mem_of_getElem? (i := 280) (by decide +kernel)⟩
theorem lw_p1 : lw_okq (⟨"TilePyramid$SeamFinder", "addUpRow", "(II)V"⟩, 5) := ⟨⟨by decide +kernel, by decide +kernel⟩, List.mem_of_getElem? (i := 88) (by decide +kernel), List.mem_of_getElem? (i := 588) (by decide +kernel), List.mem_of_getElem? (i := 589) (by decide +kernel)⟩
theorem lw_p2 : lw_okq (⟨"TilePyramid$SeamFinder", "cheapestNear", "(III)I"⟩, 5) := ⟨⟨by decide +kernel, by decide +kernel⟩, List.mem_of_getElem? (i := 88) (by decide +kernel), List.mem_of_getElem? (i := 593) (by decide +kernel), List.mem_of_getElem? (i := 594) (by decide +kernel)⟩
theorem lw_p3 : lw_okq (⟨"TilePyramid$SeamFinder", "cheapest", "(III)I"⟩, 5) := ⟨⟨by decide +kernel, by decide +kernel⟩, List.mem_of_getElem? (i := 88) (by decide +kernel), List.mem_of_getElem? (i := 599) (by decide +kernel), List.mem_of_getElem? (i := 600) (by decide +kernel)⟩
theorem lw_p4 : lw_okq (⟨"TilePyramidModel", "isPlace", "(II)Z"⟩, 19) := ⟨⟨by decide +kernel, by decide +kernel⟩, List.mem_of_getElem? (i := 610) (by decide +kernel), List.mem_of_getElem? (i := 684) (by decide +kernel), List.mem_of_getElem? (i := 685) (by decide +kernel)⟩
theorem lw_p5 : lw_okq (⟨"TilePyramidModel", "throwing", "(ZZ)Z"⟩, 19) := ⟨⟨by decide +kernel, by decide +kernel⟩, List.mem_of_getElem? (i := 610) (by decide +kernel), List.mem_of_getElem? (i := 694) (by decide +kernel), List.mem_of_getElem? (i := 695) (by decide +kernel)⟩
theorem lw_p6 : lw_okq (⟨"TilePyramidModel", "many", "()I"⟩, 19) := ⟨⟨by decide +kernel, by decide +kernel⟩, List.mem_of_getElem? (i := 610) (by decide +kernel), List.mem_of_getElem? (i := 705) (by decide +kernel), List.mem_of_getElem? (i := 706) (by decide +kernel)⟩
theorem lw_p7 : lw_okq (⟨"TilePyramidModel", "isLevel", "(I)Z"⟩, 19) := ⟨⟨by decide +kernel, by decide +kernel⟩, List.mem_of_getElem? (i := 610) (by decide +kernel), List.mem_of_getElem? (i := 720) (by decide +kernel), List.mem_of_getElem? (i := 721) (by decide +kernel)⟩
theorem lw_p8 : lw_okq (⟨"TilePyramidModel", "across", "(I)I"⟩, 19) := ⟨⟨by decide +kernel, by decide +kernel⟩, List.mem_of_getElem? (i := 610) (by decide +kernel), List.mem_of_getElem? (i := 724) (by decide +kernel), List.mem_of_getElem? (i := 725) (by decide +kernel)⟩
theorem lw_p9 : lw_okq (⟨"TilePyramidModel", "down", "(I)I"⟩, 19) := ⟨⟨by decide +kernel, by decide +kernel⟩, List.mem_of_getElem? (i := 610) (by decide +kernel), List.mem_of_getElem? (i := 728) (by decide +kernel), List.mem_of_getElem? (i := 729) (by decide +kernel)⟩
theorem lw_p10 : lw_okq (⟨"TilePyramidModel", "isAt", "(III)Z"⟩, 19) := ⟨⟨by decide +kernel, by decide +kernel⟩, List.mem_of_getElem? (i := 610) (by decide +kernel), List.mem_of_getElem? (i := 736) (by decide +kernel), List.mem_of_getElem? (i := 737) (by decide +kernel)⟩
theorem lw_p11 : lw_okq (⟨"TilePyramidModel", "sample", "(III)I"⟩, 19) := ⟨⟨by decide +kernel, by decide +kernel⟩, List.mem_of_getElem? (i := 610) (by decide +kernel), List.mem_of_getElem? (i := 740) (by decide +kernel), List.mem_of_getElem? (i := 741) (by decide +kernel)⟩
theorem lw_p12 : lw_okq (⟨"TilePyramidModel", "countUnder", "(III)I"⟩, 19) := ⟨⟨by decide +kernel, by decide +kernel⟩, List.mem_of_getElem? (i := 610) (by decide +kernel), List.mem_of_getElem? (i := 744) (by decide +kernel), List.mem_of_getElem? (i := 745) (by decide +kernel)⟩
theorem lw_p13 : lw_okq (⟨"TilePyramidModel", "under", "(III)I"⟩, 19) := ⟨⟨by decide +kernel, by decide +kernel⟩, List.mem_of_getElem? (i := 610) (by decide +kernel), List.mem_of_getElem? (i := 748) (by decide +kernel), List.mem_of_getElem? (i := 749) (by decide +kernel)⟩
theorem lw_p14 : lw_okq (⟨"TilePyramidModel", "sumUnder", "(III)I"⟩, 19) := ⟨⟨by decide +kernel, by decide +kernel⟩, List.mem_of_getElem? (i := 610) (by decide +kernel), List.mem_of_getElem? (i := 752) (by decide +kernel), List.mem_of_getElem? (i := 753) (by decide +kernel)⟩
theorem lw_p15 : lw_okq (⟨"TilePyramidModel", "isTile", "(III)Z"⟩, 19) := ⟨⟨by decide +kernel, by decide +kernel⟩, List.mem_of_getElem? (i := 610) (by decide +kernel), List.mem_of_getElem? (i := 772) (by decide +kernel), List.mem_of_getElem? (i := 773) (by decide +kernel)⟩
def lw_privs_1 : List (MethodName × Nat) := [(⟨"java/lang/Throwable", "fillInStackTrace", "(I)Ljava/lang/Throwable;"⟩, 6), (⟨"TilePyramid$SeamFinder", "addUpRow", "(II)V"⟩, 5), (⟨"TilePyramid$SeamFinder", "cheapestNear", "(III)I"⟩, 5), (⟨"TilePyramid$SeamFinder", "cheapest", "(III)I"⟩, 5), (⟨"TilePyramidModel", "isPlace", "(II)Z"⟩, 19), (⟨"TilePyramidModel", "throwing", "(ZZ)Z"⟩, 19), (⟨"TilePyramidModel", "many", "()I"⟩, 19), (⟨"TilePyramidModel", "isLevel", "(I)Z"⟩, 19), (⟨"TilePyramidModel", "across", "(I)I"⟩, 19), (⟨"TilePyramidModel", "down", "(I)I"⟩, 19), (⟨"TilePyramidModel", "isAt", "(III)Z"⟩, 19), (⟨"TilePyramidModel", "sample", "(III)I"⟩, 19), (⟨"TilePyramidModel", "countUnder", "(III)I"⟩, 19), (⟨"TilePyramidModel", "under", "(III)I"⟩, 19), (⟨"TilePyramidModel", "sumUnder", "(III)I"⟩, 19), (⟨"TilePyramidModel", "isTile", "(III)Z"⟩, 19)]
theorem lw_r1 : ∀ q ∈ lw_privs_1, lw_okq q := List.forall_mem_cons.mpr ⟨lw_p0, List.forall_mem_cons.mpr ⟨lw_p1, List.forall_mem_cons.mpr ⟨lw_p2, List.forall_mem_cons.mpr ⟨lw_p3, List.forall_mem_cons.mpr ⟨lw_p4, List.forall_mem_cons.mpr ⟨lw_p5, List.forall_mem_cons.mpr ⟨lw_p6, List.forall_mem_cons.mpr ⟨lw_p7, List.forall_mem_cons.mpr ⟨lw_p8, List.forall_mem_cons.mpr ⟨lw_p9, List.forall_mem_cons.mpr ⟨lw_p10, List.forall_mem_cons.mpr ⟨lw_p11, List.forall_mem_cons.mpr ⟨lw_p12, List.forall_mem_cons.mpr ⟨lw_p13, List.forall_mem_cons.mpr ⟨lw_p14, List.forall_mem_cons.mpr ⟨lw_p15, fun _ h => absurd h List.not_mem_nil⟩⟩⟩⟩⟩⟩⟩⟩⟩⟩⟩⟩⟩⟩⟩⟩
theorem lw_p16 : lw_okq (⟨"TilePyramidModel", "write", "(I)V"⟩, 19) := ⟨⟨by decide +kernel, by decide +kernel⟩, List.mem_of_getElem? (i := 610) (by decide +kernel), List.mem_of_getElem? (i := 779) (by decide +kernel), List.mem_of_getElem? (i := 780) (by decide +kernel)⟩
theorem lw_p17 : lw_okq (⟨"TilePyramidModel", "writeRow", "(II)V"⟩, 19) := ⟨⟨by decide +kernel, by decide +kernel⟩, List.mem_of_getElem? (i := 610) (by decide +kernel), List.mem_of_getElem? (i := 783) (by decide +kernel), List.mem_of_getElem? (i := 784) (by decide +kernel)⟩
theorem lw_p18 : lw_okq (⟨"TilePyramidModel", "sum", "(I)I"⟩, 19) := ⟨⟨by decide +kernel, by decide +kernel⟩, List.mem_of_getElem? (i := 610) (by decide +kernel), List.mem_of_getElem? (i := 796) (by decide +kernel), List.mem_of_getElem? (i := 797) (by decide +kernel)⟩
theorem lw_p19 : lw_okq (⟨"TilePyramidModel", "hasByte", "(I)Z"⟩, 19) := ⟨⟨by decide +kernel, by decide +kernel⟩, List.mem_of_getElem? (i := 610) (by decide +kernel), List.mem_of_getElem? (i := 813) (by decide +kernel), List.mem_of_getElem? (i := 814) (by decide +kernel)⟩
theorem lw_p20 : lw_okq (⟨"TilePyramidModel", "readRow", "(II)Z"⟩, 19) := ⟨⟨by decide +kernel, by decide +kernel⟩, List.mem_of_getElem? (i := 610) (by decide +kernel), List.mem_of_getElem? (i := 825) (by decide +kernel), List.mem_of_getElem? (i := 826) (by decide +kernel)⟩
theorem lw_p21 : lw_okq (⟨"TilePyramidModel", "bitAt", "(I)I"⟩, 19) := ⟨⟨by decide +kernel, by decide +kernel⟩, List.mem_of_getElem? (i := 610) (by decide +kernel), List.mem_of_getElem? (i := 829) (by decide +kernel), List.mem_of_getElem? (i := 830) (by decide +kernel)⟩
theorem lw_p22 : lw_okq (⟨"TilePyramidModel", "costAt", "(III)I"⟩, 19) := ⟨⟨by decide +kernel, by decide +kernel⟩, List.mem_of_getElem? (i := 610) (by decide +kernel), List.mem_of_getElem? (i := 849) (by decide +kernel), List.mem_of_getElem? (i := 850) (by decide +kernel)⟩
theorem lw_p23 : lw_okq (⟨"TilePyramidModel", "leastAround", "(III)I"⟩, 19) := ⟨⟨by decide +kernel, by decide +kernel⟩, List.mem_of_getElem? (i := 610) (by decide +kernel), List.mem_of_getElem? (i := 853) (by decide +kernel), List.mem_of_getElem? (i := 854) (by decide +kernel)⟩
theorem lw_p24 : lw_okq (⟨"TilePyramidModel", "cost", "(III)I"⟩, 19) := ⟨⟨by decide +kernel, by decide +kernel⟩, List.mem_of_getElem? (i := 610) (by decide +kernel), List.mem_of_getElem? (i := 857) (by decide +kernel), List.mem_of_getElem? (i := 858) (by decide +kernel)⟩
def lw_privs_2 : List (MethodName × Nat) := [(⟨"TilePyramidModel", "write", "(I)V"⟩, 19), (⟨"TilePyramidModel", "writeRow", "(II)V"⟩, 19), (⟨"TilePyramidModel", "sum", "(I)I"⟩, 19), (⟨"TilePyramidModel", "hasByte", "(I)Z"⟩, 19), (⟨"TilePyramidModel", "readRow", "(II)Z"⟩, 19), (⟨"TilePyramidModel", "bitAt", "(I)I"⟩, 19), (⟨"TilePyramidModel", "costAt", "(III)I"⟩, 19), (⟨"TilePyramidModel", "leastAround", "(III)I"⟩, 19), (⟨"TilePyramidModel", "cost", "(III)I"⟩, 19)]
theorem lw_r2 : ∀ q ∈ lw_privs_2, lw_okq q := List.forall_mem_cons.mpr ⟨lw_p16, List.forall_mem_cons.mpr ⟨lw_p17, List.forall_mem_cons.mpr ⟨lw_p18, List.forall_mem_cons.mpr ⟨lw_p19, List.forall_mem_cons.mpr ⟨lw_p20, List.forall_mem_cons.mpr ⟨lw_p21, List.forall_mem_cons.mpr ⟨lw_p22, List.forall_mem_cons.mpr ⟨lw_p23, List.forall_mem_cons.mpr ⟨lw_p24, fun _ h => absurd h List.not_mem_nil⟩⟩⟩⟩⟩⟩⟩⟩⟩
def lw_privs : List (MethodName × Nat) := lw_privs_1 ++ (lw_privs_2)
def lw_tbl : List Cond := k2_sels lw_privs ++ tables_1
theorem lw_privs_ok : ∀ q ∈ lw_privs, lw_okq q := by
  show ∀ q ∈ lw_privs_1 ++ (lw_privs_2), lw_okq q
  exact List.forall_mem_append.mpr ⟨lw_r1, lw_r2⟩
def RZB : String := "TilePyramid$ByteRow"
def RZP : String := "TilePyramid$Picture"
def RZY : String := "TilePyramid$Pyramid"
def RZS : String := "TilePyramid$SeamFinder"
def RZT : String := "TilePyramid$Tile"
def RZO : String := "TilePyramid$TileOpener"
def RZK : String := "TilePyramid$TilePacker"
def RZQ : String := "TilePyramid"
def RZM : String := "TilePyramidModel"
def RZL : String := "TilePyramidLaw"
def TZB : u_T := fun k => match k with
  | 0 => ("TilePyramid$ByteRow", "bytes", "[I", true)
  | _ => ("TilePyramid$ByteRow", "length", "I", false)
def tyZB : Nat → FieldType := fun k => match k with
  | 0 => .array .int
  | _ => .int
theorem nmZB : ∀ a, a < 2 → ∀ b, b < 2 → a ≠ b → (TZB a).2.1 ≠ (TZB b).2.1 := by decide +kernel
theorem tyZB_ok : ∀ k, k < 2 → parseFieldDescriptor (TZB k).2.2.1 = some (tyZB k) := by decide +kernel
def TZP : u_T := fun k => match k with
  | 0 => ("TilePyramid$Picture", "columns", "I", true)
  | 1 => ("TilePyramid$Picture", "rows", "I", true)
  | _ => ("TilePyramid$Picture", "samples", "[I", true)
def tyZP : Nat → FieldType := fun k => match k with
  | 0 => .int
  | 1 => .int
  | _ => .array .int
theorem nmZP : ∀ a, a < 3 → ∀ b, b < 3 → a ≠ b → (TZP a).2.1 ≠ (TZP b).2.1 := by decide +kernel
theorem tyZP_ok : ∀ k, k < 3 → parseFieldDescriptor (TZP k).2.2.1 = some (tyZP k) := by decide +kernel
def TZY : u_T := fun k => match k with
  | 0 => ("TilePyramid$Pyramid", "base", "LTilePyramid$Picture;", true)
  | _ => ("TilePyramid$Pyramid", "count", "I", true)
def tyZY : Nat → FieldType := fun k => match k with
  | 0 => .object "TilePyramid$Picture"
  | _ => .int
theorem nmZY : ∀ a, a < 2 → ∀ b, b < 2 → a ≠ b → (TZY a).2.1 ≠ (TZY b).2.1 := by decide +kernel
theorem tyZY_ok : ∀ k, k < 2 → parseFieldDescriptor (TZY k).2.2.1 = some (tyZY k) := by decide +kernel
def TZS : u_T := fun k => match k with
  | 0 => ("TilePyramid$SeamFinder", "under", "LTilePyramid$Picture;", true)
  | 1 => ("TilePyramid$SeamFinder", "over", "LTilePyramid$Picture;", true)
  | 2 => ("TilePyramid$SeamFinder", "leastCosts", "[I", true)
  | 3 => ("TilePyramid$SeamFinder", "path", "[I", true)
  | _ => ("TilePyramid$SeamFinder", "found", "Z", false)
def tyZS : Nat → FieldType := fun k => match k with
  | 0 => .object "TilePyramid$Picture"
  | 1 => .object "TilePyramid$Picture"
  | 2 => .array .int
  | 3 => .array .int
  | _ => .boolean
theorem nmZS : ∀ a, a < 5 → ∀ b, b < 5 → a ≠ b → (TZS a).2.1 ≠ (TZS b).2.1 := by decide +kernel
theorem tyZS_ok : ∀ k, k < 5 → parseFieldDescriptor (TZS k).2.2.1 = some (tyZS k) := by decide +kernel
def TZT : u_T := fun k => match k with
  | 0 => ("TilePyramid$Tile", "samples", "[I", true)
  | 1 => ("TilePyramid$Tile", "columns", "I", false)
  | _ => ("TilePyramid$Tile", "rows", "I", false)
def tyZT : Nat → FieldType := fun k => match k with
  | 0 => .array .int
  | 1 => .int
  | _ => .int
theorem nmZT : ∀ a, a < 3 → ∀ b, b < 3 → a ≠ b → (TZT a).2.1 ≠ (TZT b).2.1 := by decide +kernel
theorem tyZT_ok : ∀ k, k < 3 → parseFieldDescriptor (TZT k).2.2.1 = some (tyZT k) := by decide +kernel
def TZQ : u_T := fun k => match k with
  | 0 => ("TilePyramid", "picture", "LTilePyramid$Picture;", true)
  | 1 => ("TilePyramid", "overlay", "LTilePyramid$Picture;", true)
  | 2 => ("TilePyramid", "pyramid", "LTilePyramid$Pyramid;", true)
  | 3 => ("TilePyramid", "buffer", "LTilePyramid$ByteRow;", true)
  | 4 => ("TilePyramid", "seamFinder", "LTilePyramid$SeamFinder;", true)
  | 5 => ("TilePyramid", "latestTile", "LTilePyramid$Tile;", false)
  | _ => ("TilePyramid", "workTile", "LTilePyramid$Tile;", false)
def tyZQ : Nat → FieldType := fun k => match k with
  | 0 => .object "TilePyramid$Picture"
  | 1 => .object "TilePyramid$Picture"
  | 2 => .object "TilePyramid$Pyramid"
  | 3 => .object "TilePyramid$ByteRow"
  | 4 => .object "TilePyramid$SeamFinder"
  | 5 => .object "TilePyramid$Tile"
  | _ => .object "TilePyramid$Tile"
theorem nmZQ : ∀ a, a < 7 → ∀ b, b < 7 → a ≠ b → (TZQ a).2.1 ≠ (TZQ b).2.1 := by decide +kernel
theorem tyZQ_ok : ∀ k, k < 7 → parseFieldDescriptor (TZQ k).2.2.1 = some (tyZQ k) := by decide +kernel
def TZM : u_T := fun k => match k with
  | 0 => ("TilePyramidModel", "thrown", "I", false)
  | 1 => ("TilePyramidModel", "width", "I", true)
  | 2 => ("TilePyramidModel", "height", "I", true)
  | 3 => ("TilePyramidModel", "picture", "[I", true)
  | 4 => ("TilePyramidModel", "strip", "[I", true)
  | 5 => ("TilePyramidModel", "buffer", "[I", true)
  | 6 => ("TilePyramidModel", "size", "I", false)
  | 7 => ("TilePyramidModel", "tile", "[I", true)
  | 8 => ("TilePyramidModel", "opening", "[I", true)
  | 9 => ("TilePyramidModel", "columns", "I", false)
  | 10 => ("TilePyramidModel", "rows", "I", false)
  | 11 => ("TilePyramidModel", "tileColumns", "I", false)
  | 12 => ("TilePyramidModel", "tileRows", "I", false)
  | 13 => ("TilePyramidModel", "place", "I", false)
  | 14 => ("TilePyramidModel", "bit", "I", false)
  | 15 => ("TilePyramidModel", "costs", "[I", true)
  | 16 => ("TilePyramidModel", "seams", "[I", true)
  | 17 => ("TilePyramidModel", "hasSeam", "Z", false)
  | _ => ("TilePyramidModel", "packing", "[I", true)
def tyZM : Nat → FieldType := fun k => match k with
  | 0 => .int
  | 1 => .int
  | 2 => .int
  | 3 => .array .int
  | 4 => .array .int
  | 5 => .array .int
  | 6 => .int
  | 7 => .array .int
  | 8 => .array .int
  | 9 => .int
  | 10 => .int
  | 11 => .int
  | 12 => .int
  | 13 => .int
  | 14 => .int
  | 15 => .array .int
  | 16 => .array .int
  | 17 => .boolean
  | _ => .array .int
theorem nmZM : ∀ a, a < 19 → ∀ b, b < 19 → a ≠ b → (TZM a).2.1 ≠ (TZM b).2.1 := by decide +kernel
theorem tyZM_ok : ∀ k, k < 19 → parseFieldDescriptor (TZM k).2.2.1 = some (tyZM k) := by decide +kernel
abbrev cZQ_init : ByteArray := prog_1_method_1_code
def yZQ_init : MethodName := ⟨RZQ, "<init>", "(II)V"⟩
abbrev cZJ_min : ByteArray := prog_15_method_69_code
def yZJ_min : MethodName := ⟨"java/lang/Math", "min", "(II)I"⟩
abbrev cZJ_max : ByteArray := prog_15_method_65_code
def yZJ_max : MethodName := ⟨"java/lang/Math", "max", "(II)I"⟩
abbrev cZP_init : ByteArray := prog_3_method_1_code
def yZP_init : MethodName := ⟨RZP, "<init>", "(II)V"⟩
abbrev cZY_init : ByteArray := prog_4_method_1_code
def yZY_init : MethodName := ⟨RZY, "<init>", "(LTilePyramid$Picture;)V"⟩
abbrev cZB_init : ByteArray := prog_2_method_1_code
def yZB_init : MethodName := ⟨RZB, "<init>", "()V"⟩
abbrev cZS_init : ByteArray := prog_5_method_1_code
def yZS_init : MethodName := ⟨RZS, "<init>", "(LTilePyramid$Picture;LTilePyramid$Picture;)V"⟩
abbrev cZT_init : ByteArray := prog_6_method_1_code
def yZT_init : MethodName := ⟨RZT, "<init>", "()V"⟩
abbrev cZQ_levels : ByteArray := prog_1_method_4_code
def yZQ_levels : MethodName := ⟨RZQ, "levels", "()I"⟩
abbrev cZQ_clear : ByteArray := prog_1_method_12_code
def yZQ_clear : MethodName := ⟨RZQ, "clear", "()I"⟩
abbrev cZQ_open : ByteArray := prog_1_method_15_code
def yZQ_open : MethodName := ⟨RZQ, "open", "()I"⟩
abbrev cZO_isSumRight : ByteArray := prog_7_method_2_code
def yZO_isSumRight : MethodName := ⟨RZO, "isSumRight", "(LTilePyramid$ByteRow;)Z"⟩
abbrev cZB_sumOfFirst : ByteArray := prog_2_method_4_code
def yZB_sumOfFirst : MethodName := ⟨RZB, "sumOfFirst", "(I)I"⟩
abbrev cZO_openTile : ByteArray := prog_7_method_3_code
def yZO_openTile : MethodName := ⟨RZO, "openTile", "(LTilePyramid$ByteRow;LTilePyramid$Tile;)Z"⟩
abbrev cZO_isSide : ByteArray := prog_7_method_4_code
def yZO_isSide : MethodName := ⟨RZO, "isSide", "(I)Z"⟩
abbrev cZT_setSize : ByteArray := prog_6_method_2_code
def yZT_setSize : MethodName := ⟨RZT, "setSize", "(II)V"⟩
abbrev cZO_openRow : ByteArray := prog_7_method_5_code
def yZO_openRow : MethodName := ⟨RZO, "openRow", "(LTilePyramid$ByteRow;IILTilePyramid$Tile;I)I"⟩
abbrev cZB_bitsFrom : ByteArray := prog_2_method_5_code
def yZB_bitsFrom : MethodName := ⟨RZB, "bitsFrom", "(II)I"⟩
abbrev cZT_formerSample : ByteArray := prog_6_method_6_code
def yZT_formerSample : MethodName := ⟨RZT, "formerSample", "(II)I"⟩
abbrev cZT_sampleAt : ByteArray := prog_6_method_4_code
def yZT_sampleAt : MethodName := ⟨RZT, "sampleAt", "(II)I"⟩
abbrev cZO_differenceOf : ByteArray := prog_7_method_6_code
def yZO_differenceOf : MethodName := ⟨RZO, "differenceOf", "(I)I"⟩
abbrev cZQ_isSample : ByteArray := prog_1_method_24_code
def yZQ_isSample : MethodName := ⟨RZQ, "isSample", "(I)Z"⟩
abbrev cZT_setSample : ByteArray := prog_6_method_5_code
def yZT_setSample : MethodName := ⟨RZT, "setSample", "(III)V"⟩
abbrev cZQ_bitsNeeded : ByteArray := prog_1_method_27_code
def yZQ_bitsNeeded : MethodName := ⟨RZQ, "bitsNeeded", "(I)I"⟩
abbrev cZT_sampleCount : ByteArray := prog_6_method_3_code
def yZT_sampleCount : MethodName := ⟨RZT, "sampleCount", "()I"⟩
abbrev cZL_cell : ByteArray := method_2_code
def yZL_cell : MethodName := ⟨RZL, "cell", "([II)I"⟩
abbrev cZL_put : ByteArray := method_3_code
def yZL_put : MethodName := ⟨RZL, "put", "(LTilePyramid;III[J)I"⟩
abbrev cZQ_put : ByteArray := prog_1_method_2_code
def yZQ_put : MethodName := ⟨RZQ, "put", "(III)I"⟩
abbrev cZQ_replaceSample : ByteArray := prog_1_method_21_code
def yZQ_replaceSample : MethodName := ⟨RZQ, "replaceSample", "(LTilePyramid$Picture;III)I"⟩
abbrev cZQ_isWithin : ByteArray := prog_1_method_25_code
def yZQ_isWithin : MethodName := ⟨RZQ, "isWithin", "(II)Z"⟩
abbrev cZQ_requirePlace : ByteArray := prog_1_method_22_code
def yZQ_requirePlace : MethodName := ⟨RZQ, "requirePlace", "(Z)V"⟩
abbrev cZQ_requireSample : ByteArray := prog_1_method_23_code
def yZQ_requireSample : MethodName := ⟨RZQ, "requireSample", "(I)V"⟩
abbrev cZP_sampleAt : ByteArray := prog_3_method_2_code
def yZP_sampleAt : MethodName := ⟨RZP, "sampleAt", "(II)I"⟩
abbrev cZP_setSample : ByteArray := prog_3_method_3_code
def yZP_setSample : MethodName := ⟨RZP, "setSample", "(III)V"⟩
abbrev cZL_change : ByteArray := method_4_code
def yZL_change : MethodName := ⟨RZL, "change", "(LTilePyramid;IIIII[J)I"⟩
abbrev cZQ_change : ByteArray := prog_1_method_3_code
def yZQ_change : MethodName := ⟨RZQ, "change", "(IIIII)I"⟩
abbrev cZY_hasPart : ByteArray := prog_4_method_4_code
def yZY_hasPart : MethodName := ⟨RZY, "hasPart", "(IIIII)Z"⟩
abbrev cZY_hasPlace : ByteArray := prog_4_method_3_code
def yZY_hasPlace : MethodName := ⟨RZY, "hasPlace", "(III)Z"⟩
abbrev cZY_hasLevel : ByteArray := prog_4_method_2_code
def yZY_hasLevel : MethodName := ⟨RZY, "hasLevel", "(I)Z"⟩
abbrev cZY_columnsOf : ByteArray := prog_4_method_6_code
def yZY_columnsOf : MethodName := ⟨RZY, "columnsOf", "(I)I"⟩
abbrev cZY_halvedUp : ByteArray := prog_4_method_16_code
def yZY_halvedUp : MethodName := ⟨RZY, "halvedUp", "(II)I"⟩
abbrev cZY_rowsOf : ByteArray := prog_4_method_7_code
def yZY_rowsOf : MethodName := ⟨RZY, "rowsOf", "(I)I"⟩
abbrev cZP_fillPart : ByteArray := prog_3_method_4_code
def yZP_fillPart : MethodName := ⟨RZP, "fillPart", "(IIIII)V"⟩
abbrev cZY_tilesOver : ByteArray := prog_4_method_13_code
def yZY_tilesOver : MethodName := ⟨RZY, "tilesOver", "(IIII)I"⟩
abbrev cZY_tilesOverSide : ByteArray := prog_4_method_19_code
def yZY_tilesOverSide : MethodName := ⟨RZY, "tilesOverSide", "(III)I"⟩
abbrev cZL_size : ByteArray := method_5_code
def yZL_size : MethodName := ⟨RZL, "size", "(LTilePyramid;II[J)I"⟩
abbrev cZQ_size : ByteArray := prog_1_method_5_code
def yZQ_size : MethodName := ⟨RZQ, "size", "(II)I"⟩
abbrev cZL_at : ByteArray := method_6_code
def yZL_at : MethodName := ⟨RZL, "at", "(LTilePyramid;III[J)I"⟩
abbrev cZQ_at : ByteArray := prog_1_method_6_code
def yZQ_at : MethodName := ⟨RZQ, "at", "(III)I"⟩
abbrev cZY_roundedMean : ByteArray := prog_4_method_12_code
def yZY_roundedMean : MethodName := ⟨RZY, "roundedMean", "(III)I"⟩
abbrev cZY_countUnder : ByteArray := prog_4_method_10_code
def yZY_countUnder : MethodName := ⟨RZY, "countUnder", "(III)I"⟩
abbrev cZY_reach : ByteArray := prog_4_method_18_code
def yZY_reach : MethodName := ⟨RZY, "reach", "(III)I"⟩
abbrev cZY_totalUnder : ByteArray := prog_4_method_11_code
def yZY_totalUnder : MethodName := ⟨RZY, "totalUnder", "(III)I"⟩
abbrev cZP_sumOfPart : ByteArray := prog_3_method_5_code
def yZP_sumOfPart : MethodName := ⟨RZP, "sumOfPart", "(IIII)I"⟩
abbrev cZL_mean : ByteArray := method_7_code
def yZL_mean : MethodName := ⟨RZL, "mean", "(LTilePyramid;IIII[J)I"⟩
abbrev cZQ_mean : ByteArray := prog_1_method_7_code
def yZQ_mean : MethodName := ⟨RZQ, "mean", "(IIII)I"⟩
abbrev cZQ_greatestDivisor : ByteArray := prog_1_method_26_code
def yZQ_greatestDivisor : MethodName := ⟨RZQ, "greatestDivisor", "(II)I"⟩
abbrev cZL_zoom : ByteArray := method_8_code
def yZL_zoom : MethodName := ⟨RZL, "zoom", "(LTilePyramid;IIIII[J)I"⟩
abbrev cZQ_zoom : ByteArray := prog_1_method_8_code
def yZQ_zoom : MethodName := ⟨RZQ, "zoom", "(IIIII)I"⟩
abbrev cZL_turned : ByteArray := method_9_code
def yZL_turned : MethodName := ⟨RZL, "turned", "(LTilePyramid;III[J)I"⟩
abbrev cZQ_turned : ByteArray := prog_1_method_9_code
def yZQ_turned : MethodName := ⟨RZQ, "turned", "(III)I"⟩
abbrev cZJ_floorMod : ByteArray := prog_15_method_50_code
def yZJ_floorMod : MethodName := ⟨"java/lang/Math", "floorMod", "(II)I"⟩
abbrev cZL_pack : ByteArray := method_10_code
def yZL_pack : MethodName := ⟨RZL, "pack", "(LTilePyramid;III[J)I"⟩
abbrev cZQ_pack : ByteArray := prog_1_method_10_code
def yZQ_pack : MethodName := ⟨RZQ, "pack", "(III)I"⟩
abbrev cZY_hasTile : ByteArray := prog_4_method_5_code
def yZY_hasTile : MethodName := ⟨RZY, "hasTile", "(III)Z"⟩
abbrev cZY_tilesAlong : ByteArray := prog_4_method_17_code
def yZY_tilesAlong : MethodName := ⟨RZY, "tilesAlong", "(I)I"⟩
abbrev cZY_cutTile : ByteArray := prog_4_method_14_code
def yZY_cutTile : MethodName := ⟨RZY, "cutTile", "(IIILTilePyramid$Tile;)V"⟩
abbrev cZY_tileColumns : ByteArray := prog_4_method_8_code
def yZY_tileColumns : MethodName := ⟨RZY, "tileColumns", "(II)I"⟩
abbrev cZY_tileRows : ByteArray := prog_4_method_9_code
def yZY_tileRows : MethodName := ⟨RZY, "tileRows", "(II)I"⟩
abbrev cZK_packTile : ByteArray := prog_8_method_2_code
def yZK_packTile : MethodName := ⟨RZK, "packTile", "(LTilePyramid$Tile;LTilePyramid$ByteRow;)V"⟩
abbrev cZB_append : ByteArray := prog_2_method_3_code
def yZB_append : MethodName := ⟨RZB, "append", "(I)V"⟩
abbrev cZB_isFull : ByteArray := prog_2_method_2_code
def yZB_isFull : MethodName := ⟨RZB, "isFull", "()Z"⟩
abbrev cZK_packRow : ByteArray := prog_8_method_3_code
def yZK_packRow : MethodName := ⟨RZK, "packRow", "(LTilePyramid$Tile;ILTilePyramid$ByteRow;)V"⟩
abbrev cZK_greatestNumber : ByteArray := prog_8_method_4_code
def yZK_greatestNumber : MethodName := ⟨RZK, "greatestNumber", "(LTilePyramid$Tile;I)I"⟩
abbrev cZK_numberAt : ByteArray := prog_8_method_5_code
def yZK_numberAt : MethodName := ⟨RZK, "numberAt", "(LTilePyramid$Tile;II)I"⟩
abbrev cZL_load : ByteArray := method_11_code
def yZL_load : MethodName := ⟨RZL, "load", "(LTilePyramid;I[J)I"⟩
abbrev cZQ_load : ByteArray := prog_1_method_11_code
def yZQ_load : MethodName := ⟨RZQ, "load", "(I)I"⟩
abbrev cZL_byteAt : ByteArray := method_12_code
def yZL_byteAt : MethodName := ⟨RZL, "byteAt", "(LTilePyramid;I[J)I"⟩
abbrev cZQ_byteAt : ByteArray := prog_1_method_13_code
def yZQ_byteAt : MethodName := ⟨RZQ, "byteAt", "(I)I"⟩
abbrev cZL_poke : ByteArray := method_13_code
def yZL_poke : MethodName := ⟨RZL, "poke", "(LTilePyramid;II[J)I"⟩
abbrev cZQ_poke : ByteArray := prog_1_method_14_code
def yZQ_poke : MethodName := ⟨RZQ, "poke", "(II)I"⟩
abbrev cZL_opened : ByteArray := method_14_code
def yZL_opened : MethodName := ⟨RZL, "opened", "(LTilePyramid;I[J)I"⟩
abbrev cZQ_opened : ByteArray := prog_1_method_16_code
def yZQ_opened : MethodName := ⟨RZQ, "opened", "(I)I"⟩
abbrev cZL_restore : ByteArray := method_15_code
def yZL_restore : MethodName := ⟨RZL, "restore", "(LTilePyramid;II[J)I"⟩
abbrev cZQ_restore : ByteArray := prog_1_method_17_code
def yZQ_restore : MethodName := ⟨RZQ, "restore", "(II)Z"⟩
abbrev cZY_layTile : ByteArray := prog_4_method_15_code
def yZY_layTile : MethodName := ⟨RZY, "layTile", "(IILTilePyramid$Tile;)V"⟩
abbrev cZL_strip : ByteArray := method_16_code
def yZL_strip : MethodName := ⟨RZL, "strip", "(LTilePyramid;III[J)I"⟩
abbrev cZQ_strip : ByteArray := prog_1_method_18_code
def yZQ_strip : MethodName := ⟨RZQ, "strip", "(III)I"⟩
abbrev cZL_seam : ByteArray := method_17_code
def yZL_seam : MethodName := ⟨RZL, "seam", "(LTilePyramid;I[J)I"⟩
abbrev cZQ_seam : ByteArray := prog_1_method_19_code
def yZQ_seam : MethodName := ⟨RZQ, "seam", "(I)I"⟩
abbrev cZS_findLeast : ByteArray := prog_5_method_2_code
def yZS_findLeast : MethodName := ⟨RZS, "findLeast", "(I)I"⟩
abbrev cZS_addUpRow : ByteArray := prog_5_method_3_code
def yZS_addUpRow : MethodName := ⟨RZS, "addUpRow", "(II)V"⟩
abbrev cZS_cheapestNear : ByteArray := prog_5_method_4_code
def yZS_cheapestNear : MethodName := ⟨RZS, "cheapestNear", "(III)I"⟩
abbrev cZS_cheapest : ByteArray := prog_5_method_5_code
def yZS_cheapest : MethodName := ⟨RZS, "cheapest", "(III)I"⟩
abbrev cZL_seamAt : ByteArray := method_18_code
def yZL_seamAt : MethodName := ⟨RZL, "seamAt", "(LTilePyramid;I[J)I"⟩
abbrev cZQ_seamAt : ByteArray := prog_1_method_20_code
def yZQ_seamAt : MethodName := ⟨RZQ, "seamAt", "(I)I"⟩
abbrev cZM_init : ByteArray := prog_10_method_1_code
def yZM_init : MethodName := ⟨RZM, "<init>", "(II)V"⟩
abbrev cZM_held : ByteArray := prog_10_method_2_code
def yZM_held : MethodName := ⟨RZM, "held", "(I)I"⟩
abbrev cZM_thrown : ByteArray := prog_10_method_3_code
def yZM_thrown : MethodName := ⟨RZM, "thrown", "()I"⟩
abbrev cZM_put : ByteArray := prog_10_method_8_code
def yZM_put : MethodName := ⟨RZM, "put", "(III)I"⟩
abbrev cZM_isPlace : ByteArray := prog_10_method_7_code
def yZM_isPlace : MethodName := ⟨RZM, "isPlace", "(II)Z"⟩
abbrev cZM_in : ByteArray := prog_10_method_5_code
def yZM_in : MethodName := ⟨RZM, "in", "(III)Z"⟩
abbrev cZM_isByte : ByteArray := prog_10_method_6_code
def yZM_isByte : MethodName := ⟨RZM, "isByte", "(I)Z"⟩
abbrev cZM_throwing : ByteArray := prog_10_method_4_code
def yZM_throwing : MethodName := ⟨RZM, "throwing", "(ZZ)Z"⟩
abbrev cZM_change : ByteArray := prog_10_method_15_code
def yZM_change : MethodName := ⟨RZM, "change", "(IIIII)I"⟩
abbrev cZM_isPart : ByteArray := prog_10_method_14_code
def yZM_isPart : MethodName := ⟨RZM, "isPart", "(IIIIII)Z"⟩
abbrev cZM_many : ByteArray := prog_10_method_10_code
def yZM_many : MethodName := ⟨RZM, "many", "()I"⟩
abbrev cZM_half : ByteArray := prog_10_method_9_code
def yZM_half : MethodName := ⟨RZM, "half", "(II)I"⟩
abbrev cZM_levels : ByteArray := prog_10_method_16_code
def yZM_levels : MethodName := ⟨RZM, "levels", "()I"⟩
abbrev cZM_size : ByteArray := prog_10_method_17_code
def yZM_size : MethodName := ⟨RZM, "size", "(II)I"⟩
abbrev cZM_isLevel : ByteArray := prog_10_method_11_code
def yZM_isLevel : MethodName := ⟨RZM, "isLevel", "(I)Z"⟩
abbrev cZM_across : ByteArray := prog_10_method_12_code
def yZM_across : MethodName := ⟨RZM, "across", "(I)I"⟩
abbrev cZM_down : ByteArray := prog_10_method_13_code
def yZM_down : MethodName := ⟨RZM, "down", "(I)I"⟩
abbrev cZM_at : ByteArray := prog_10_method_23_code
def yZM_at : MethodName := ⟨RZM, "at", "(III)I"⟩
abbrev cZM_isAt : ByteArray := prog_10_method_18_code
def yZM_isAt : MethodName := ⟨RZM, "isAt", "(III)Z"⟩
abbrev cZM_sample : ByteArray := prog_10_method_22_code
def yZM_sample : MethodName := ⟨RZM, "sample", "(III)I"⟩
abbrev cZM_countUnder : ByteArray := prog_10_method_21_code
def yZM_countUnder : MethodName := ⟨RZM, "countUnder", "(III)I"⟩
abbrev cZM_under : ByteArray := prog_10_method_19_code
def yZM_under : MethodName := ⟨RZM, "under", "(III)I"⟩
abbrev cZM_sumUnder : ByteArray := prog_10_method_20_code
def yZM_sumUnder : MethodName := ⟨RZM, "sumUnder", "(III)I"⟩
abbrev cZM_mean : ByteArray := prog_10_method_24_code
def yZM_mean : MethodName := ⟨RZM, "mean", "(IIII)I"⟩
abbrev cZM_zoom : ByteArray := prog_10_method_25_code
def yZM_zoom : MethodName := ⟨RZM, "zoom", "(IIIII)I"⟩
abbrev cZM_turned : ByteArray := prog_10_method_26_code
def yZM_turned : MethodName := ⟨RZM, "turned", "(III)I"⟩
abbrev cZM_pack : ByteArray := prog_10_method_34_code
def yZM_pack : MethodName := ⟨RZM, "pack", "(III)I"⟩
abbrev cZM_isTile : ByteArray := prog_10_method_27_code
def yZM_isTile : MethodName := ⟨RZM, "isTile", "(III)Z"⟩
abbrev cZM_part : ByteArray := prog_10_method_28_code
def yZM_part : MethodName := ⟨RZM, "part", "(II)I"⟩
abbrev cZM_write : ByteArray := prog_10_method_29_code
def yZM_write : MethodName := ⟨RZM, "write", "(I)V"⟩
abbrev cZM_writeRow : ByteArray := prog_10_method_35_code
def yZM_writeRow : MethodName := ⟨RZM, "writeRow", "(II)V"⟩
abbrev cZM_rowBits : ByteArray := prog_10_method_33_code
def yZM_rowBits : MethodName := ⟨RZM, "rowBits", "([III)I"⟩
abbrev cZM_told : ByteArray := prog_10_method_31_code
def yZM_told : MethodName := ⟨RZM, "told", "([III)I"⟩
abbrev cZM_bitsOf : ByteArray := prog_10_method_32_code
def yZM_bitsOf : MethodName := ⟨RZM, "bitsOf", "(I)I"⟩
abbrev cZM_sum : ByteArray := prog_10_method_30_code
def yZM_sum : MethodName := ⟨RZM, "sum", "(I)I"⟩
abbrev cZM_load : ByteArray := prog_10_method_36_code
def yZM_load : MethodName := ⟨RZM, "load", "(I)I"⟩
abbrev cZM_clear : ByteArray := prog_10_method_37_code
def yZM_clear : MethodName := ⟨RZM, "clear", "()I"⟩
abbrev cZM_byteAt : ByteArray := prog_10_method_39_code
def yZM_byteAt : MethodName := ⟨RZM, "byteAt", "(I)I"⟩
abbrev cZM_hasByte : ByteArray := prog_10_method_38_code
def yZM_hasByte : MethodName := ⟨RZM, "hasByte", "(I)Z"⟩
abbrev cZM_poke : ByteArray := prog_10_method_40_code
def yZM_poke : MethodName := ⟨RZM, "poke", "(II)I"⟩
abbrev cZM_open : ByteArray := prog_10_method_43_code
def yZM_open : MethodName := ⟨RZM, "open", "()I"⟩
abbrev cZM_readRow : ByteArray := prog_10_method_41_code
def yZM_readRow : MethodName := ⟨RZM, "readRow", "(II)Z"⟩
abbrev cZM_bitAt : ByteArray := prog_10_method_42_code
def yZM_bitAt : MethodName := ⟨RZM, "bitAt", "(I)I"⟩
abbrev cZM_opened : ByteArray := prog_10_method_44_code
def yZM_opened : MethodName := ⟨RZM, "opened", "(I)I"⟩
abbrev cZM_restore : ByteArray := prog_10_method_45_code
def yZM_restore : MethodName := ⟨RZM, "restore", "(II)Z"⟩
abbrev cZM_strip : ByteArray := prog_10_method_46_code
def yZM_strip : MethodName := ⟨RZM, "strip", "(III)I"⟩
abbrev cZM_seam : ByteArray := prog_10_method_50_code
def yZM_seam : MethodName := ⟨RZM, "seam", "(I)I"⟩
abbrev cZM_costAt : ByteArray := prog_10_method_47_code
def yZM_costAt : MethodName := ⟨RZM, "costAt", "(III)I"⟩
abbrev cZM_leastAround : ByteArray := prog_10_method_49_code
def yZM_leastAround : MethodName := ⟨RZM, "leastAround", "(III)I"⟩
abbrev cZM_cost : ByteArray := prog_10_method_48_code
def yZM_cost : MethodName := ⟨RZM, "cost", "(III)I"⟩
abbrev cZM_seamAt : ByteArray := prog_10_method_51_code
def yZM_seamAt : MethodName := ⟨RZM, "seamAt", "(I)I"⟩
abbrev vwCl : List vw_C := [(RZB, TZB, 2), (RZP, TZP, 3), (RZY, TZY, 2), (RZS, TZS, 5), (RZT, TZT, 3), (RZQ, TZQ, 7), (RZM, TZM, 19)]
def tbg : List Cond := lw_tbl.filter goodWord
theorem tb_good {w : Cond} (h : w ∈ tbg) : goodWord w = true := (List.mem_filter.mp h).2
theorem tb_lw {w : Cond} (h : w ∈ tbg) : w ∈ lw_tbl := (List.mem_filter.mp h).1
theorem in_tables_1_1 {w : Cond} (h : w ∈ tables_1_1) (g : goodWord w = true) : w ∈ tbg := by
  refine List.mem_filter.mpr ⟨?_, g⟩
  show w ∈ k2_sels lw_privs ++ (tables_1_1 ++ (tables_1_2 ++ (tables_1_3 ++ (tables_1_4))))
  exact List.mem_append_right _ (List.mem_append_left _ h)
theorem in_tables_1_2 {w : Cond} (h : w ∈ tables_1_2) (g : goodWord w = true) : w ∈ tbg := by
  refine List.mem_filter.mpr ⟨?_, g⟩
  show w ∈ k2_sels lw_privs ++ (tables_1_1 ++ (tables_1_2 ++ (tables_1_3 ++ (tables_1_4))))
  exact List.mem_append_right _ (List.mem_append_right _ (List.mem_append_left _ h))
theorem in_tables_1_3 {w : Cond} (h : w ∈ tables_1_3) (g : goodWord w = true) : w ∈ tbg := by
  refine List.mem_filter.mpr ⟨?_, g⟩
  show w ∈ k2_sels lw_privs ++ (tables_1_1 ++ (tables_1_2 ++ (tables_1_3 ++ (tables_1_4))))
  exact List.mem_append_right _ (List.mem_append_right _ (List.mem_append_right _ (List.mem_append_left _ h)))
theorem in_tables_1_4 {w : Cond} (h : w ∈ tables_1_4) (g : goodWord w = true) : w ∈ tbg := by
  refine List.mem_filter.mpr ⟨?_, g⟩
  show w ∈ k2_sels lw_privs ++ (tables_1_1 ++ (tables_1_2 ++ (tables_1_3 ++ (tables_1_4))))
  exact List.mem_append_right _ (List.mem_append_right _ (List.mem_append_right _ (List.mem_append_right _ (h))))
theorem in_priv {w : Cond} (h : w ∈ k2_sels lw_privs) (g : goodWord w = true) : w ∈ tbg := by
  refine List.mem_filter.mpr ⟨?_, g⟩
  show w ∈ k2_sels lw_privs ++ tables_1
  exact List.mem_append_left _ h
end
section
set_option maxRecDepth 20000 in
theorem mm_0 : Cond.initialized RZL ∈ tbg := in_tables_1_1 (List.mem_of_getElem? (i := 0) (by decide +kernel)) (by decide +kernel)
set_option maxRecDepth 20000 in
theorem mm_1 : Cond.initialized RZQ ∈ tbg := in_tables_1_1 (List.mem_of_getElem? (i := 1) (by decide +kernel)) (by decide +kernel)
set_option maxRecDepth 20000 in
theorem mm_2 : Cond.initialized "java/lang/Math" ∈ tbg := in_tables_1_1 (List.mem_of_getElem? (i := 2) (by decide +kernel)) (by decide +kernel)
set_option maxRecDepth 20000 in
theorem mm_3 : Cond.initialized RZP ∈ tbg := in_tables_1_1 (List.mem_of_getElem? (i := 3) (by decide +kernel)) (by decide +kernel)
set_option maxRecDepth 20000 in
theorem mm_4 : Cond.initialized RZY ∈ tbg := in_tables_1_1 (List.mem_of_getElem? (i := 4) (by decide +kernel)) (by decide +kernel)
set_option maxRecDepth 20000 in
theorem mm_5 : Cond.initialized RZB ∈ tbg := in_tables_1_1 (List.mem_of_getElem? (i := 5) (by decide +kernel)) (by decide +kernel)
set_option maxRecDepth 20000 in
theorem mm_6 : Cond.initialized RZS ∈ tbg := in_tables_1_1 (List.mem_of_getElem? (i := 6) (by decide +kernel)) (by decide +kernel)
set_option maxRecDepth 20000 in
theorem mm_7 : Cond.initialized RZT ∈ tbg := in_tables_1_1 (List.mem_of_getElem? (i := 7) (by decide +kernel)) (by decide +kernel)
set_option maxRecDepth 20000 in
theorem mm_8 : Cond.initialized RZM ∈ tbg := in_tables_1_1 (List.mem_of_getElem? (i := 8) (by decide +kernel)) (by decide +kernel)
set_option maxRecDepth 20000 in
theorem mm_9 : Cond.initialized "java/lang/Throwable" ∈ tbg := in_tables_1_1 (List.mem_of_getElem? (i := 9) (by decide +kernel)) (by decide +kernel)
set_option maxRecDepth 20000 in
theorem mm_10 : Cond.initialized "java/lang/Exception" ∈ tbg := in_tables_1_1 (List.mem_of_getElem? (i := 10) (by decide +kernel)) (by decide +kernel)
set_option maxRecDepth 20000 in
theorem mm_11 : Cond.initialized "java/lang/RuntimeException" ∈ tbg := in_tables_1_1 (List.mem_of_getElem? (i := 11) (by decide +kernel)) (by decide +kernel)
set_option maxRecDepth 20000 in
theorem mm_12 : Cond.initialized "java/lang/IndexOutOfBoundsException" ∈ tbg := in_tables_1_1 (List.mem_of_getElem? (i := 12) (by decide +kernel)) (by decide +kernel)
set_option maxRecDepth 20000 in
theorem mm_13 : Cond.initialized "java/lang/IllegalArgumentException" ∈ tbg := in_tables_1_1 (List.mem_of_getElem? (i := 13) (by decide +kernel)) (by decide +kernel)
set_option maxRecDepth 20000 in
theorem mm_14 : Cond.initialized RZK ∈ tbg := in_tables_1_1 (List.mem_of_getElem? (i := 14) (by decide +kernel)) (by decide +kernel)
set_option maxRecDepth 20000 in
theorem mm_15 : Cond.initialized "java/lang/IllegalStateException" ∈ tbg := in_tables_1_1 (List.mem_of_getElem? (i := 15) (by decide +kernel)) (by decide +kernel)
set_option maxRecDepth 20000 in
theorem mm_16 : Cond.initialized RZO ∈ tbg := in_tables_1_1 (List.mem_of_getElem? (i := 16) (by decide +kernel)) (by decide +kernel)
set_option maxRecDepth 20000 in
theorem mm_17 : Cond.classLink RZL 8 RZQ ∈ tbg := in_tables_1_1 (List.mem_of_getElem? (i := 17) (by decide +kernel)) (by decide +kernel)
set_option maxRecDepth 20000 in
theorem mm_18 : Cond.instantiable RZQ 7 ∈ tbg := in_tables_1_1 (List.mem_of_getElem? (i := 18) (by decide +kernel)) (by decide +kernel)
set_option maxRecDepth 20000 in
theorem mm_19 : Cond.methodLink RZL 75 yZQ_init ∈ tbg := in_tables_1_1 (List.mem_of_getElem? (i := 19) (by decide +kernel)) (by decide +kernel)
set_option maxRecDepth 20000 in
theorem mm_20 : Cond.instanceMethod yZQ_init ∈ tbg := in_tables_1_1 (List.mem_of_getElem? (i := 20) (by decide +kernel)) (by decide +kernel)
set_option maxRecDepth 20000 in
theorem mm_21 : Cond.code yZQ_init cZQ_init 5 none ∈ tbg := in_tables_1_1 (List.mem_of_getElem? (i := 21) rfl) rfl
set_option maxRecDepth 20000 in
theorem mm_22 : Cond.methodLink RZQ 1 objectInit ∈ tbg := in_tables_1_1 (List.mem_of_getElem? (i := 22) (by decide +kernel)) (by decide +kernel)
set_option maxRecDepth 20000 in
theorem mm_23 : Cond.instanceMethod objectInit ∈ tbg := in_tables_1_1 (List.mem_of_getElem? (i := 23) (by decide +kernel)) (by decide +kernel)
set_option maxRecDepth 20000 in
theorem mm_24 : Cond.code objectInit ⟨#[0xb1]⟩ 1 none ∈ tbg := in_tables_1_1 (List.mem_of_getElem? (i := 24) rfl) rfl
set_option maxRecDepth 20000 in
theorem mm_25 : Cond.methodLink RZQ 9 yZJ_min ∈ tbg := in_tables_1_1 (List.mem_of_getElem? (i := 25) (by decide +kernel)) (by decide +kernel)
set_option maxRecDepth 20000 in
theorem mm_26 : Cond.static yZJ_min ∈ tbg := in_tables_1_1 (List.mem_of_getElem? (i := 26) (by decide +kernel)) (by decide +kernel)
set_option maxRecDepth 20000 in
theorem mm_27 : Cond.code yZJ_min cZJ_min 2 (some .int) ∈ tbg := in_tables_1_1 (List.mem_of_getElem? (i := 27) rfl) rfl
set_option maxRecDepth 20000 in
theorem mm_28 : Cond.methodLink RZQ 15 yZJ_max ∈ tbg := in_tables_1_1 (List.mem_of_getElem? (i := 28) (by decide +kernel)) (by decide +kernel)
set_option maxRecDepth 20000 in
theorem mm_29 : Cond.static yZJ_max ∈ tbg := in_tables_1_1 (List.mem_of_getElem? (i := 29) (by decide +kernel)) (by decide +kernel)
set_option maxRecDepth 20000 in
theorem mm_30 : Cond.code yZJ_max cZJ_max 2 (some .int) ∈ tbg := in_tables_1_1 (List.mem_of_getElem? (i := 30) rfl) rfl
set_option maxRecDepth 20000 in
theorem mm_31 : Cond.classLink RZQ 18 RZP ∈ tbg := in_tables_1_1 (List.mem_of_getElem? (i := 31) (by decide +kernel)) (by decide +kernel)
set_option maxRecDepth 20000 in
theorem mm_32 : Cond.instantiable RZP 3 ∈ tbg := in_tables_1_1 (List.mem_of_getElem? (i := 32) (by decide +kernel)) (by decide +kernel)
set_option maxRecDepth 20000 in
theorem mm_33 : Cond.methodLink RZQ 20 yZP_init ∈ tbg := in_tables_1_1 (List.mem_of_getElem? (i := 33) (by decide +kernel)) (by decide +kernel)
set_option maxRecDepth 20000 in
theorem mm_34 : Cond.instanceMethod yZP_init ∈ tbg := in_tables_1_1 (List.mem_of_getElem? (i := 34) (by decide +kernel)) (by decide +kernel)
set_option maxRecDepth 20000 in
theorem mm_35 : Cond.code yZP_init cZP_init 3 none ∈ tbg := in_tables_1_1 (List.mem_of_getElem? (i := 35) rfl) rfl
set_option maxRecDepth 20000 in
theorem mm_36 : Cond.methodLink RZP 1 objectInit ∈ tbg := in_tables_1_1 (List.mem_of_getElem? (i := 36) (by decide +kernel)) (by decide +kernel)
set_option maxRecDepth 20000 in
theorem mm_37 : Cond.fieldLink RZP 7 "TilePyramid$Picture" "columns" "I" ∈ tbg := in_tables_1_1 (List.mem_of_getElem? (i := 37) (by decide +kernel)) (by decide +kernel)
set_option maxRecDepth 20000 in
theorem mm_38 : Cond.fieldLink RZY 15 "TilePyramid$Picture" "columns" "I" ∈ tbg := in_tables_1_1 (List.mem_of_getElem? (i := 38) (by decide +kernel)) (by decide +kernel)
set_option maxRecDepth 20000 in
theorem mm_39 : Cond.fieldLink RZS 50 "TilePyramid$Picture" "columns" "I" ∈ tbg := in_tables_1_1 (List.mem_of_getElem? (i := 39) (by decide +kernel)) (by decide +kernel)
set_option maxRecDepth 20000 in
theorem mm_40 : Cond.fieldLink RZQ 131 "TilePyramid$Picture" "columns" "I" ∈ tbg := in_tables_1_1 (List.mem_of_getElem? (i := 40) (by decide +kernel)) (by decide +kernel)
set_option maxRecDepth 20000 in
theorem mm_41 : Cond.fieldLink RZP 13 "TilePyramid$Picture" "rows" "I" ∈ tbg := in_tables_1_1 (List.mem_of_getElem? (i := 41) (by decide +kernel)) (by decide +kernel)
set_option maxRecDepth 20000 in
theorem mm_42 : Cond.fieldLink RZY 21 "TilePyramid$Picture" "rows" "I" ∈ tbg := in_tables_1_1 (List.mem_of_getElem? (i := 42) (by decide +kernel)) (by decide +kernel)
set_option maxRecDepth 20000 in
theorem mm_43 : Cond.fieldLink RZS 18 "TilePyramid$Picture" "rows" "I" ∈ tbg := in_tables_1_1 (List.mem_of_getElem? (i := 43) (by decide +kernel)) (by decide +kernel)
set_option maxRecDepth 20000 in
theorem mm_44 : Cond.fieldLink RZQ 128 "TilePyramid$Picture" "rows" "I" ∈ tbg := in_tables_1_1 (List.mem_of_getElem? (i := 44) (by decide +kernel)) (by decide +kernel)
set_option maxRecDepth 20000 in
theorem mm_45 : Cond.fieldLink RZP 16 "TilePyramid$Picture" "samples" "[I" ∈ tbg := in_tables_1_1 (List.mem_of_getElem? (i := 45) (by decide +kernel)) (by decide +kernel)
set_option maxRecDepth 20000 in
theorem mm_46 : Cond.laysFinal "TilePyramid$Picture" "TilePyramid$Picture" "columns" "I" ∈ tbg := in_tables_1_1 (List.mem_of_getElem? (i := 46) (by decide +kernel)) (by decide +kernel)
set_option maxRecDepth 20000 in
theorem mm_47 : Cond.soleField "TilePyramid$Picture" "columns" ∈ tbg := in_tables_1_1 (List.mem_of_getElem? (i := 47) (by decide +kernel)) (by decide +kernel)
set_option maxRecDepth 20000 in
theorem mm_48 : Cond.laysFinal "TilePyramid$Picture" "TilePyramid$Picture" "rows" "I" ∈ tbg := in_tables_1_1 (List.mem_of_getElem? (i := 48) (by decide +kernel)) (by decide +kernel)
set_option maxRecDepth 20000 in
theorem mm_49 : Cond.soleField "TilePyramid$Picture" "rows" ∈ tbg := in_tables_1_1 (List.mem_of_getElem? (i := 49) (by decide +kernel)) (by decide +kernel)
set_option maxRecDepth 20000 in
theorem mm_50 : Cond.laysFinal "TilePyramid$Picture" "TilePyramid$Picture" "samples" "[I" ∈ tbg := in_tables_1_1 (List.mem_of_getElem? (i := 50) (by decide +kernel)) (by decide +kernel)
set_option maxRecDepth 20000 in
theorem mm_51 : Cond.soleField "TilePyramid$Picture" "samples" ∈ tbg := in_tables_1_1 (List.mem_of_getElem? (i := 51) (by decide +kernel)) (by decide +kernel)
set_option maxRecDepth 20000 in
theorem mm_52 : Cond.superclass "TilePyramid$Picture" "java/lang/Object" ∈ tbg := in_tables_1_1 (List.mem_of_getElem? (i := 52) (by decide +kernel)) (by decide +kernel)
set_option maxRecDepth 20000 in
theorem mm_53 : Cond.arrayClass .int ∈ tbg := in_tables_1_1 (List.mem_of_getElem? (i := 53) (by decide +kernel)) (by decide +kernel)
set_option maxRecDepth 20000 in
theorem mm_54 : Cond.classLink RZQ 30 RZY ∈ tbg := in_tables_1_1 (List.mem_of_getElem? (i := 54) (by decide +kernel)) (by decide +kernel)
set_option maxRecDepth 20000 in
theorem mm_55 : Cond.instantiable RZY 2 ∈ tbg := in_tables_1_1 (List.mem_of_getElem? (i := 55) (by decide +kernel)) (by decide +kernel)
set_option maxRecDepth 20000 in
theorem mm_56 : Cond.methodLink RZQ 32 yZY_init ∈ tbg := in_tables_1_1 (List.mem_of_getElem? (i := 56) (by decide +kernel)) (by decide +kernel)
set_option maxRecDepth 20000 in
theorem mm_57 : Cond.instanceMethod yZY_init ∈ tbg := in_tables_1_1 (List.mem_of_getElem? (i := 57) (by decide +kernel)) (by decide +kernel)
set_option maxRecDepth 20000 in
theorem mm_58 : Cond.code yZY_init cZY_init 5 none ∈ tbg := in_tables_1_1 (List.mem_of_getElem? (i := 58) rfl) rfl
set_option maxRecDepth 20000 in
theorem mm_59 : Cond.methodLink RZY 3 objectInit ∈ tbg := in_tables_1_1 (List.mem_of_getElem? (i := 59) (by decide +kernel)) (by decide +kernel)
set_option maxRecDepth 20000 in
theorem mm_60 : Cond.methodLink RZY 24 yZJ_max ∈ tbg := in_tables_1_1 (List.mem_of_getElem? (i := 60) (by decide +kernel)) (by decide +kernel)
set_option maxRecDepth 20000 in
theorem mm_61 : Cond.fieldLink RZY 9 "TilePyramid$Pyramid" "base" "LTilePyramid$Picture;" ∈ tbg := in_tables_1_1 (List.mem_of_getElem? (i := 61) (by decide +kernel)) (by decide +kernel)
set_option maxRecDepth 20000 in
theorem mm_62 : Cond.fieldLink RZY 30 "TilePyramid$Pyramid" "count" "I" ∈ tbg := in_tables_1_1 (List.mem_of_getElem? (i := 62) (by decide +kernel)) (by decide +kernel)
set_option maxRecDepth 20000 in
theorem mm_63 : Cond.fieldLink RZQ 89 "TilePyramid$Pyramid" "count" "I" ∈ tbg := in_tables_1_1 (List.mem_of_getElem? (i := 63) (by decide +kernel)) (by decide +kernel)
set_option maxRecDepth 20000 in
theorem mm_64 : Cond.laysFinal "TilePyramid$Pyramid" "TilePyramid$Pyramid" "base" "LTilePyramid$Picture;" ∈ tbg := in_tables_1_1 (List.mem_of_getElem? (i := 64) (by decide +kernel)) (by decide +kernel)
set_option maxRecDepth 20000 in
theorem mm_65 : Cond.soleField "TilePyramid$Pyramid" "base" ∈ tbg := in_tables_1_1 (List.mem_of_getElem? (i := 65) (by decide +kernel)) (by decide +kernel)
set_option maxRecDepth 20000 in
theorem mm_66 : Cond.laysFinal "TilePyramid$Pyramid" "TilePyramid$Pyramid" "count" "I" ∈ tbg := in_tables_1_1 (List.mem_of_getElem? (i := 66) (by decide +kernel)) (by decide +kernel)
set_option maxRecDepth 20000 in
theorem mm_67 : Cond.soleField "TilePyramid$Pyramid" "count" ∈ tbg := in_tables_1_1 (List.mem_of_getElem? (i := 67) (by decide +kernel)) (by decide +kernel)
set_option maxRecDepth 20000 in
theorem mm_68 : Cond.superclass "TilePyramid$Pyramid" "java/lang/Object" ∈ tbg := in_tables_1_1 (List.mem_of_getElem? (i := 68) (by decide +kernel)) (by decide +kernel)
set_option maxRecDepth 20000 in
theorem mm_69 : Cond.classLink RZQ 39 RZB ∈ tbg := in_tables_1_1 (List.mem_of_getElem? (i := 69) (by decide +kernel)) (by decide +kernel)
set_option maxRecDepth 20000 in
theorem mm_70 : Cond.instantiable RZB 2 ∈ tbg := in_tables_1_1 (List.mem_of_getElem? (i := 70) (by decide +kernel)) (by decide +kernel)
set_option maxRecDepth 20000 in
theorem mm_72 : Cond.instanceMethod yZB_init ∈ tbg := in_tables_1_1 (List.mem_of_getElem? (i := 72) (by decide +kernel)) (by decide +kernel)
set_option maxRecDepth 20000 in
theorem mm_73 : Cond.code yZB_init cZB_init 1 none ∈ tbg := in_tables_1_1 (List.mem_of_getElem? (i := 73) rfl) rfl
set_option maxRecDepth 20000 in
theorem mm_74 : Cond.methodLink RZB 3 objectInit ∈ tbg := in_tables_1_1 (List.mem_of_getElem? (i := 74) (by decide +kernel)) (by decide +kernel)
set_option maxRecDepth 20000 in
theorem mm_75 : Cond.fieldLink RZB 9 "TilePyramid$ByteRow" "bytes" "[I" ∈ tbg := in_tables_1_1 (List.mem_of_getElem? (i := 75) (by decide +kernel)) (by decide +kernel)
set_option maxRecDepth 20000 in
theorem mm_76 : Cond.fieldLink RZO 19 "TilePyramid$ByteRow" "bytes" "[I" ∈ tbg := in_tables_1_1 (List.mem_of_getElem? (i := 76) (by decide +kernel)) (by decide +kernel)
set_option maxRecDepth 20000 in
theorem mm_77 : Cond.fieldLink RZQ 172 "TilePyramid$ByteRow" "bytes" "[I" ∈ tbg := in_tables_1_1 (List.mem_of_getElem? (i := 77) (by decide +kernel)) (by decide +kernel)
set_option maxRecDepth 20000 in
theorem mm_78 : Cond.fieldLink RZB 15 "TilePyramid$ByteRow" "length" "I" ∈ tbg := in_tables_1_1 (List.mem_of_getElem? (i := 78) (by decide +kernel)) (by decide +kernel)
set_option maxRecDepth 20000 in
theorem mm_79 : Cond.fieldLink RZO 9 "TilePyramid$ByteRow" "length" "I" ∈ tbg := in_tables_1_1 (List.mem_of_getElem? (i := 79) (by decide +kernel)) (by decide +kernel)
set_option maxRecDepth 20000 in
theorem mm_80 : Cond.fieldLink RZK 9 "TilePyramid$ByteRow" "length" "I" ∈ tbg := in_tables_1_1 (List.mem_of_getElem? (i := 80) (by decide +kernel)) (by decide +kernel)
set_option maxRecDepth 20000 in
theorem mm_81 : Cond.fieldLink RZQ 150 "TilePyramid$ByteRow" "length" "I" ∈ tbg := in_tables_1_1 (List.mem_of_getElem? (i := 81) (by decide +kernel)) (by decide +kernel)
set_option maxRecDepth 20000 in
theorem mm_82 : Cond.laysFinal "TilePyramid$ByteRow" "TilePyramid$ByteRow" "bytes" "[I" ∈ tbg := in_tables_1_1 (List.mem_of_getElem? (i := 82) (by decide +kernel)) (by decide +kernel)
set_option maxRecDepth 20000 in
theorem mm_83 : Cond.soleField "TilePyramid$ByteRow" "bytes" ∈ tbg := in_tables_1_1 (List.mem_of_getElem? (i := 83) (by decide +kernel)) (by decide +kernel)
set_option maxRecDepth 20000 in
theorem mm_84 : Cond.lays "TilePyramid$ByteRow" "TilePyramid$ByteRow" "length" "I" ∈ tbg := in_tables_1_1 (List.mem_of_getElem? (i := 84) (by decide +kernel)) (by decide +kernel)
set_option maxRecDepth 20000 in
theorem mm_85 : Cond.soleField "TilePyramid$ByteRow" "length" ∈ tbg := in_tables_1_1 (List.mem_of_getElem? (i := 85) (by decide +kernel)) (by decide +kernel)
set_option maxRecDepth 20000 in
theorem mm_86 : Cond.superclass "TilePyramid$ByteRow" "java/lang/Object" ∈ tbg := in_tables_1_1 (List.mem_of_getElem? (i := 86) (by decide +kernel)) (by decide +kernel)
set_option maxRecDepth 20000 in
theorem mm_87 : Cond.classLink RZQ 46 RZS ∈ tbg := in_tables_1_1 (List.mem_of_getElem? (i := 87) (by decide +kernel)) (by decide +kernel)
set_option maxRecDepth 20000 in
theorem mm_88 : Cond.instantiable RZS 5 ∈ tbg := in_tables_1_1 (List.mem_of_getElem? (i := 88) (by decide +kernel)) (by decide +kernel)
set_option maxRecDepth 20000 in
theorem mm_89 : Cond.methodLink RZQ 48 yZS_init ∈ tbg := in_tables_1_1 (List.mem_of_getElem? (i := 89) (by decide +kernel)) (by decide +kernel)
set_option maxRecDepth 20000 in
theorem mm_90 : Cond.instanceMethod yZS_init ∈ tbg := in_tables_1_1 (List.mem_of_getElem? (i := 90) (by decide +kernel)) (by decide +kernel)
set_option maxRecDepth 20000 in
theorem mm_91 : Cond.code yZS_init cZS_init 3 none ∈ tbg := in_tables_1_1 (List.mem_of_getElem? (i := 91) rfl) rfl
set_option maxRecDepth 20000 in
theorem mm_92 : Cond.methodLink RZS 3 objectInit ∈ tbg := in_tables_1_1 (List.mem_of_getElem? (i := 92) (by decide +kernel)) (by decide +kernel)
set_option maxRecDepth 20000 in
theorem mm_93 : Cond.fieldLink RZS 9 "TilePyramid$SeamFinder" "under" "LTilePyramid$Picture;" ∈ tbg := in_tables_1_1 (List.mem_of_getElem? (i := 93) (by decide +kernel)) (by decide +kernel)
set_option maxRecDepth 20000 in
theorem mm_94 : Cond.fieldLink RZS 15 "TilePyramid$SeamFinder" "over" "LTilePyramid$Picture;" ∈ tbg := in_tables_1_1 (List.mem_of_getElem? (i := 94) (by decide +kernel)) (by decide +kernel)
set_option maxRecDepth 20000 in
theorem mm_95 : Cond.fieldLink RZS 24 "TilePyramid$SeamFinder" "leastCosts" "[I" ∈ tbg := in_tables_1_1 (List.mem_of_getElem? (i := 95) (by decide +kernel)) (by decide +kernel)
set_option maxRecDepth 20000 in
theorem mm_96 : Cond.fieldLink RZS 28 "TilePyramid$SeamFinder" "path" "[I" ∈ tbg := in_tables_1_1 (List.mem_of_getElem? (i := 96) (by decide +kernel)) (by decide +kernel)
set_option maxRecDepth 20000 in
theorem mm_97 : Cond.fieldLink RZQ 218 "TilePyramid$SeamFinder" "path" "[I" ∈ tbg := in_tables_1_1 (List.mem_of_getElem? (i := 97) (by decide +kernel)) (by decide +kernel)
set_option maxRecDepth 20000 in
theorem mm_98 : Cond.fieldLink RZS 42 "TilePyramid$SeamFinder" "found" "Z" ∈ tbg := in_tables_1_1 (List.mem_of_getElem? (i := 98) (by decide +kernel)) (by decide +kernel)
set_option maxRecDepth 20000 in
theorem mm_99 : Cond.fieldLink RZQ 214 "TilePyramid$SeamFinder" "found" "Z" ∈ tbg := in_tables_1_1 (List.mem_of_getElem? (i := 99) (by decide +kernel)) (by decide +kernel)
set_option maxRecDepth 20000 in
theorem mm_100 : Cond.laysFinal "TilePyramid$SeamFinder" "TilePyramid$SeamFinder" "under" "LTilePyramid$Picture;" ∈ tbg := in_tables_1_1 (List.mem_of_getElem? (i := 100) (by decide +kernel)) (by decide +kernel)
set_option maxRecDepth 20000 in
theorem mm_101 : Cond.soleField "TilePyramid$SeamFinder" "under" ∈ tbg := in_tables_1_1 (List.mem_of_getElem? (i := 101) (by decide +kernel)) (by decide +kernel)
set_option maxRecDepth 20000 in
theorem mm_102 : Cond.laysFinal "TilePyramid$SeamFinder" "TilePyramid$SeamFinder" "over" "LTilePyramid$Picture;" ∈ tbg := in_tables_1_1 (List.mem_of_getElem? (i := 102) (by decide +kernel)) (by decide +kernel)
set_option maxRecDepth 20000 in
theorem mm_103 : Cond.soleField "TilePyramid$SeamFinder" "over" ∈ tbg := in_tables_1_1 (List.mem_of_getElem? (i := 103) (by decide +kernel)) (by decide +kernel)
set_option maxRecDepth 20000 in
theorem mm_104 : Cond.laysFinal "TilePyramid$SeamFinder" "TilePyramid$SeamFinder" "leastCosts" "[I" ∈ tbg := in_tables_1_1 (List.mem_of_getElem? (i := 104) (by decide +kernel)) (by decide +kernel)
set_option maxRecDepth 20000 in
theorem mm_105 : Cond.soleField "TilePyramid$SeamFinder" "leastCosts" ∈ tbg := in_tables_1_1 (List.mem_of_getElem? (i := 105) (by decide +kernel)) (by decide +kernel)
set_option maxRecDepth 20000 in
theorem mm_106 : Cond.laysFinal "TilePyramid$SeamFinder" "TilePyramid$SeamFinder" "path" "[I" ∈ tbg := in_tables_1_1 (List.mem_of_getElem? (i := 106) (by decide +kernel)) (by decide +kernel)
set_option maxRecDepth 20000 in
theorem mm_107 : Cond.soleField "TilePyramid$SeamFinder" "path" ∈ tbg := in_tables_1_1 (List.mem_of_getElem? (i := 107) (by decide +kernel)) (by decide +kernel)
set_option maxRecDepth 20000 in
theorem mm_108 : Cond.lays "TilePyramid$SeamFinder" "TilePyramid$SeamFinder" "found" "Z" ∈ tbg := in_tables_1_1 (List.mem_of_getElem? (i := 108) (by decide +kernel)) (by decide +kernel)
set_option maxRecDepth 20000 in
theorem mm_109 : Cond.soleField "TilePyramid$SeamFinder" "found" ∈ tbg := in_tables_1_1 (List.mem_of_getElem? (i := 109) (by decide +kernel)) (by decide +kernel)
set_option maxRecDepth 20000 in
theorem mm_110 : Cond.superclass "TilePyramid$SeamFinder" "java/lang/Object" ∈ tbg := in_tables_1_1 (List.mem_of_getElem? (i := 110) (by decide +kernel)) (by decide +kernel)
set_option maxRecDepth 20000 in
theorem mm_111 : Cond.classLink RZQ 55 RZT ∈ tbg := in_tables_1_1 (List.mem_of_getElem? (i := 111) (by decide +kernel)) (by decide +kernel)
set_option maxRecDepth 20000 in
theorem mm_112 : Cond.instantiable RZT 3 ∈ tbg := in_tables_1_1 (List.mem_of_getElem? (i := 112) (by decide +kernel)) (by decide +kernel)
set_option maxRecDepth 20000 in
theorem mm_114 : Cond.instanceMethod yZT_init ∈ tbg := in_tables_1_1 (List.mem_of_getElem? (i := 114) (by decide +kernel)) (by decide +kernel)
set_option maxRecDepth 20000 in
theorem mm_115 : Cond.code yZT_init cZT_init 1 none ∈ tbg := in_tables_1_1 (List.mem_of_getElem? (i := 115) rfl) rfl
set_option maxRecDepth 20000 in
theorem mm_116 : Cond.methodLink RZT 3 objectInit ∈ tbg := in_tables_1_1 (List.mem_of_getElem? (i := 116) (by decide +kernel)) (by decide +kernel)
set_option maxRecDepth 20000 in
theorem mm_117 : Cond.fieldLink RZT 9 "TilePyramid$Tile" "samples" "[I" ∈ tbg := in_tables_1_1 (List.mem_of_getElem? (i := 117) (by decide +kernel)) (by decide +kernel)
set_option maxRecDepth 20000 in
theorem mm_118 : Cond.fieldLink RZQ 192 "TilePyramid$Tile" "samples" "[I" ∈ tbg := in_tables_1_1 (List.mem_of_getElem? (i := 118) (by decide +kernel)) (by decide +kernel)
set_option maxRecDepth 20000 in
theorem mm_119 : Cond.fieldLink RZT 15 "TilePyramid$Tile" "columns" "I" ∈ tbg := in_tables_1_1 (List.mem_of_getElem? (i := 119) (by decide +kernel)) (by decide +kernel)
set_option maxRecDepth 20000 in
theorem mm_120 : Cond.fieldLink RZK 15 "TilePyramid$Tile" "columns" "I" ∈ tbg := in_tables_1_1 (List.mem_of_getElem? (i := 120) (by decide +kernel)) (by decide +kernel)
set_option maxRecDepth 20000 in
theorem mm_121 : Cond.fieldLink RZO 42 "TilePyramid$Tile" "columns" "I" ∈ tbg := in_tables_1_1 (List.mem_of_getElem? (i := 121) (by decide +kernel)) (by decide +kernel)
set_option maxRecDepth 20000 in
theorem mm_122 : Cond.fieldLink RZY 91 "TilePyramid$Tile" "columns" "I" ∈ tbg := in_tables_1_1 (List.mem_of_getElem? (i := 122) (by decide +kernel)) (by decide +kernel)
set_option maxRecDepth 20000 in
theorem mm_123 : Cond.fieldLink RZQ 197 "TilePyramid$Tile" "columns" "I" ∈ tbg := in_tables_1_1 (List.mem_of_getElem? (i := 123) (by decide +kernel)) (by decide +kernel)
set_option maxRecDepth 20000 in
theorem mm_124 : Cond.fieldLink RZT 19 "TilePyramid$Tile" "rows" "I" ∈ tbg := in_tables_1_1 (List.mem_of_getElem? (i := 124) (by decide +kernel)) (by decide +kernel)
set_option maxRecDepth 20000 in
theorem mm_125 : Cond.fieldLink RZK 24 "TilePyramid$Tile" "rows" "I" ∈ tbg := in_tables_1_1 (List.mem_of_getElem? (i := 125) (by decide +kernel)) (by decide +kernel)
set_option maxRecDepth 20000 in
theorem mm_126 : Cond.fieldLink RZO 35 "TilePyramid$Tile" "rows" "I" ∈ tbg := in_tables_1_1 (List.mem_of_getElem? (i := 126) (by decide +kernel)) (by decide +kernel)
set_option maxRecDepth 20000 in
theorem mm_127 : Cond.fieldLink RZY 90 "TilePyramid$Tile" "rows" "I" ∈ tbg := in_tables_1_1 (List.mem_of_getElem? (i := 127) (by decide +kernel)) (by decide +kernel)
set_option maxRecDepth 20000 in
theorem mm_128 : Cond.fieldLink RZQ 201 "TilePyramid$Tile" "rows" "I" ∈ tbg := in_tables_1_1 (List.mem_of_getElem? (i := 128) (by decide +kernel)) (by decide +kernel)
set_option maxRecDepth 20000 in
theorem mm_129 : Cond.laysFinal "TilePyramid$Tile" "TilePyramid$Tile" "samples" "[I" ∈ tbg := in_tables_1_1 (List.mem_of_getElem? (i := 129) (by decide +kernel)) (by decide +kernel)
set_option maxRecDepth 20000 in
theorem mm_130 : Cond.soleField "TilePyramid$Tile" "samples" ∈ tbg := in_tables_1_1 (List.mem_of_getElem? (i := 130) (by decide +kernel)) (by decide +kernel)
set_option maxRecDepth 20000 in
theorem mm_131 : Cond.lays "TilePyramid$Tile" "TilePyramid$Tile" "columns" "I" ∈ tbg := in_tables_1_1 (List.mem_of_getElem? (i := 131) (by decide +kernel)) (by decide +kernel)
set_option maxRecDepth 20000 in
theorem mm_132 : Cond.soleField "TilePyramid$Tile" "columns" ∈ tbg := in_tables_1_1 (List.mem_of_getElem? (i := 132) (by decide +kernel)) (by decide +kernel)
set_option maxRecDepth 20000 in
theorem mm_133 : Cond.lays "TilePyramid$Tile" "TilePyramid$Tile" "rows" "I" ∈ tbg := in_tables_1_1 (List.mem_of_getElem? (i := 133) (by decide +kernel)) (by decide +kernel)
set_option maxRecDepth 20000 in
theorem mm_134 : Cond.soleField "TilePyramid$Tile" "rows" ∈ tbg := in_tables_1_1 (List.mem_of_getElem? (i := 134) (by decide +kernel)) (by decide +kernel)
set_option maxRecDepth 20000 in
theorem mm_135 : Cond.superclass "TilePyramid$Tile" "java/lang/Object" ∈ tbg := in_tables_1_1 (List.mem_of_getElem? (i := 135) (by decide +kernel)) (by decide +kernel)
set_option maxRecDepth 20000 in
theorem mm_136 : Cond.fieldLink RZQ 23 "TilePyramid" "picture" "LTilePyramid$Picture;" ∈ tbg := in_tables_1_1 (List.mem_of_getElem? (i := 136) (by decide +kernel)) (by decide +kernel)
set_option maxRecDepth 20000 in
theorem mm_137 : Cond.fieldLink RZQ 27 "TilePyramid" "overlay" "LTilePyramid$Picture;" ∈ tbg := in_tables_1_1 (List.mem_of_getElem? (i := 137) (by decide +kernel)) (by decide +kernel)
set_option maxRecDepth 20000 in
theorem mm_138 : Cond.fieldLink RZQ 35 "TilePyramid" "pyramid" "LTilePyramid$Pyramid;" ∈ tbg := in_tables_1_1 (List.mem_of_getElem? (i := 138) (by decide +kernel)) (by decide +kernel)
set_option maxRecDepth 20000 in
theorem mm_139 : Cond.fieldLink RZQ 42 "TilePyramid" "buffer" "LTilePyramid$ByteRow;" ∈ tbg := in_tables_1_1 (List.mem_of_getElem? (i := 139) (by decide +kernel)) (by decide +kernel)
set_option maxRecDepth 20000 in
theorem mm_140 : Cond.fieldLink RZQ 51 "TilePyramid" "seamFinder" "LTilePyramid$SeamFinder;" ∈ tbg := in_tables_1_1 (List.mem_of_getElem? (i := 140) (by decide +kernel)) (by decide +kernel)
set_option maxRecDepth 20000 in
theorem mm_141 : Cond.fieldLink RZQ 58 "TilePyramid" "latestTile" "LTilePyramid$Tile;" ∈ tbg := in_tables_1_1 (List.mem_of_getElem? (i := 141) (by decide +kernel)) (by decide +kernel)
set_option maxRecDepth 20000 in
theorem mm_142 : Cond.fieldLink RZQ 62 "TilePyramid" "workTile" "LTilePyramid$Tile;" ∈ tbg := in_tables_1_1 (List.mem_of_getElem? (i := 142) (by decide +kernel)) (by decide +kernel)
set_option maxRecDepth 20000 in
theorem mm_143 : Cond.laysFinal "TilePyramid" "TilePyramid" "picture" "LTilePyramid$Picture;" ∈ tbg := in_tables_1_1 (List.mem_of_getElem? (i := 143) (by decide +kernel)) (by decide +kernel)
set_option maxRecDepth 20000 in
theorem mm_144 : Cond.soleField "TilePyramid" "picture" ∈ tbg := in_tables_1_1 (List.mem_of_getElem? (i := 144) (by decide +kernel)) (by decide +kernel)
set_option maxRecDepth 20000 in
theorem mm_145 : Cond.laysFinal "TilePyramid" "TilePyramid" "overlay" "LTilePyramid$Picture;" ∈ tbg := in_tables_1_1 (List.mem_of_getElem? (i := 145) (by decide +kernel)) (by decide +kernel)
set_option maxRecDepth 20000 in
theorem mm_146 : Cond.soleField "TilePyramid" "overlay" ∈ tbg := in_tables_1_1 (List.mem_of_getElem? (i := 146) (by decide +kernel)) (by decide +kernel)
set_option maxRecDepth 20000 in
theorem mm_147 : Cond.laysFinal "TilePyramid" "TilePyramid" "pyramid" "LTilePyramid$Pyramid;" ∈ tbg := in_tables_1_1 (List.mem_of_getElem? (i := 147) (by decide +kernel)) (by decide +kernel)
set_option maxRecDepth 20000 in
theorem mm_148 : Cond.soleField "TilePyramid" "pyramid" ∈ tbg := in_tables_1_1 (List.mem_of_getElem? (i := 148) (by decide +kernel)) (by decide +kernel)
set_option maxRecDepth 20000 in
theorem mm_149 : Cond.laysFinal "TilePyramid" "TilePyramid" "buffer" "LTilePyramid$ByteRow;" ∈ tbg := in_tables_1_1 (List.mem_of_getElem? (i := 149) (by decide +kernel)) (by decide +kernel)
set_option maxRecDepth 20000 in
theorem mm_150 : Cond.soleField "TilePyramid" "buffer" ∈ tbg := in_tables_1_1 (List.mem_of_getElem? (i := 150) (by decide +kernel)) (by decide +kernel)
set_option maxRecDepth 20000 in
theorem mm_151 : Cond.laysFinal "TilePyramid" "TilePyramid" "seamFinder" "LTilePyramid$SeamFinder;" ∈ tbg := in_tables_1_1 (List.mem_of_getElem? (i := 151) (by decide +kernel)) (by decide +kernel)
set_option maxRecDepth 20000 in
theorem mm_152 : Cond.soleField "TilePyramid" "seamFinder" ∈ tbg := in_tables_1_1 (List.mem_of_getElem? (i := 152) (by decide +kernel)) (by decide +kernel)
set_option maxRecDepth 20000 in
theorem mm_153 : Cond.lays "TilePyramid" "TilePyramid" "latestTile" "LTilePyramid$Tile;" ∈ tbg := in_tables_1_1 (List.mem_of_getElem? (i := 153) (by decide +kernel)) (by decide +kernel)
set_option maxRecDepth 20000 in
theorem mm_154 : Cond.soleField "TilePyramid" "latestTile" ∈ tbg := in_tables_1_1 (List.mem_of_getElem? (i := 154) (by decide +kernel)) (by decide +kernel)
set_option maxRecDepth 20000 in
theorem mm_155 : Cond.lays "TilePyramid" "TilePyramid" "workTile" "LTilePyramid$Tile;" ∈ tbg := in_tables_1_1 (List.mem_of_getElem? (i := 155) (by decide +kernel)) (by decide +kernel)
set_option maxRecDepth 20000 in
theorem mm_156 : Cond.soleField "TilePyramid" "workTile" ∈ tbg := in_tables_1_1 (List.mem_of_getElem? (i := 156) (by decide +kernel)) (by decide +kernel)
set_option maxRecDepth 20000 in
theorem mm_157 : Cond.superclass "TilePyramid" "java/lang/Object" ∈ tbg := in_tables_1_1 (List.mem_of_getElem? (i := 157) (by decide +kernel)) (by decide +kernel)
set_option maxRecDepth 20000 in
theorem mm_158 : Cond.methodLink RZL 93 yZQ_levels ∈ tbg := in_tables_1_1 (List.mem_of_getElem? (i := 158) (by decide +kernel)) (by decide +kernel)
set_option maxRecDepth 20000 in
theorem mm_159 : Cond.instanceMethod yZQ_levels ∈ tbg := in_tables_1_1 (List.mem_of_getElem? (i := 159) (by decide +kernel)) (by decide +kernel)
set_option maxRecDepth 20000 in
theorem mm_160 : Cond.selects RZQ yZQ_levels yZQ_levels ∈ tbg := in_tables_1_1 (List.mem_of_getElem? (i := 160) (by decide +kernel)) (by decide +kernel)
set_option maxRecDepth 20000 in
theorem mm_161 : Cond.code yZQ_levels cZQ_levels 1 (some .int) ∈ tbg := in_tables_1_1 (List.mem_of_getElem? (i := 161) rfl) rfl
set_option maxRecDepth 20000 in
theorem mm_162 : Cond.methodLink RZL 121 yZQ_clear ∈ tbg := in_tables_1_1 (List.mem_of_getElem? (i := 162) (by decide +kernel)) (by decide +kernel)
set_option maxRecDepth 20000 in
theorem mm_163 : Cond.instanceMethod yZQ_clear ∈ tbg := in_tables_1_1 (List.mem_of_getElem? (i := 163) (by decide +kernel)) (by decide +kernel)
set_option maxRecDepth 20000 in
theorem mm_164 : Cond.selects RZQ yZQ_clear yZQ_clear ∈ tbg := in_tables_1_1 (List.mem_of_getElem? (i := 164) (by decide +kernel)) (by decide +kernel)
set_option maxRecDepth 20000 in
theorem mm_165 : Cond.code yZQ_clear cZQ_clear 2 (some .int) ∈ tbg := in_tables_1_1 (List.mem_of_getElem? (i := 165) rfl) rfl
set_option maxRecDepth 20000 in
theorem mm_166 : Cond.methodLink RZL 131 yZQ_open ∈ tbg := in_tables_1_1 (List.mem_of_getElem? (i := 166) (by decide +kernel)) (by decide +kernel)
set_option maxRecDepth 20000 in
theorem mm_167 : Cond.instanceMethod yZQ_open ∈ tbg := in_tables_1_1 (List.mem_of_getElem? (i := 167) (by decide +kernel)) (by decide +kernel)
set_option maxRecDepth 20000 in
theorem mm_168 : Cond.selects RZQ yZQ_open yZQ_open ∈ tbg := in_tables_1_1 (List.mem_of_getElem? (i := 168) (by decide +kernel)) (by decide +kernel)
set_option maxRecDepth 20000 in
theorem mm_169 : Cond.code yZQ_open cZQ_open 2 (some .int) ∈ tbg := in_tables_1_1 (List.mem_of_getElem? (i := 169) rfl) rfl
set_option maxRecDepth 20000 in
theorem mm_170 : Cond.methodLink RZQ 178 yZO_isSumRight ∈ tbg := in_tables_1_1 (List.mem_of_getElem? (i := 170) (by decide +kernel)) (by decide +kernel)
set_option maxRecDepth 20000 in
theorem mm_171 : Cond.static yZO_isSumRight ∈ tbg := in_tables_1_1 (List.mem_of_getElem? (i := 171) (by decide +kernel)) (by decide +kernel)
set_option maxRecDepth 20000 in
theorem mm_172 : Cond.code yZO_isSumRight cZO_isSumRight 2 (some .boolean) ∈ tbg := in_tables_1_1 (List.mem_of_getElem? (i := 172) rfl) rfl
set_option maxRecDepth 20000 in
theorem mm_173 : Cond.methodLink RZO 15 yZB_sumOfFirst ∈ tbg := in_tables_1_1 (List.mem_of_getElem? (i := 173) (by decide +kernel)) (by decide +kernel)
set_option maxRecDepth 20000 in
theorem mm_174 : Cond.instanceMethod yZB_sumOfFirst ∈ tbg := in_tables_1_1 (List.mem_of_getElem? (i := 174) (by decide +kernel)) (by decide +kernel)
set_option maxRecDepth 20000 in
theorem mm_175 : Cond.selects RZB yZB_sumOfFirst yZB_sumOfFirst ∈ tbg := in_tables_1_1 (List.mem_of_getElem? (i := 175) (by decide +kernel)) (by decide +kernel)
set_option maxRecDepth 20000 in
theorem mm_176 : Cond.code yZB_sumOfFirst cZB_sumOfFirst 4 (some .int) ∈ tbg := in_tables_1_1 (List.mem_of_getElem? (i := 176) rfl) rfl
set_option maxRecDepth 20000 in
theorem mm_177 : Cond.constant RZB 23 65521 ∈ tbg := in_tables_1_1 (List.mem_of_getElem? (i := 177) (by decide +kernel)) (by decide +kernel)
set_option maxRecDepth 20000 in
theorem mm_178 : Cond.methodLink RZQ 184 yZO_openTile ∈ tbg := in_tables_1_1 (List.mem_of_getElem? (i := 178) (by decide +kernel)) (by decide +kernel)
set_option maxRecDepth 20000 in
theorem mm_179 : Cond.static yZO_openTile ∈ tbg := in_tables_1_1 (List.mem_of_getElem? (i := 179) (by decide +kernel)) (by decide +kernel)
set_option maxRecDepth 20000 in
theorem mm_180 : Cond.code yZO_openTile cZO_openTile 5 (some .boolean) ∈ tbg := in_tables_1_1 (List.mem_of_getElem? (i := 180) rfl) rfl
set_option maxRecDepth 20000 in
theorem mm_181 : Cond.methodLink RZO 23 yZO_isSide ∈ tbg := in_tables_1_1 (List.mem_of_getElem? (i := 181) (by decide +kernel)) (by decide +kernel)
set_option maxRecDepth 20000 in
theorem mm_182 : Cond.static yZO_isSide ∈ tbg := in_tables_1_1 (List.mem_of_getElem? (i := 182) (by decide +kernel)) (by decide +kernel)
set_option maxRecDepth 20000 in
theorem mm_183 : Cond.code yZO_isSide cZO_isSide 1 (some .boolean) ∈ tbg := in_tables_1_1 (List.mem_of_getElem? (i := 183) rfl) rfl
set_option maxRecDepth 20000 in
theorem mm_184 : Cond.methodLink RZO 29 yZT_setSize ∈ tbg := in_tables_1_1 (List.mem_of_getElem? (i := 184) (by decide +kernel)) (by decide +kernel)
set_option maxRecDepth 20000 in
theorem mm_185 : Cond.instanceMethod yZT_setSize ∈ tbg := in_tables_1_1 (List.mem_of_getElem? (i := 185) (by decide +kernel)) (by decide +kernel)
set_option maxRecDepth 20000 in
theorem mm_186 : Cond.selects RZT yZT_setSize yZT_setSize ∈ tbg := in_tables_1_1 (List.mem_of_getElem? (i := 186) (by decide +kernel)) (by decide +kernel)
set_option maxRecDepth 20000 in
theorem mm_187 : Cond.code yZT_setSize cZT_setSize 3 none ∈ tbg := in_tables_1_1 (List.mem_of_getElem? (i := 187) rfl) rfl
set_option maxRecDepth 20000 in
theorem mm_188 : Cond.methodLink RZO 38 yZO_openRow ∈ tbg := in_tables_1_1 (List.mem_of_getElem? (i := 188) (by decide +kernel)) (by decide +kernel)
set_option maxRecDepth 20000 in
theorem mm_189 : Cond.static yZO_openRow ∈ tbg := in_tables_1_1 (List.mem_of_getElem? (i := 189) (by decide +kernel)) (by decide +kernel)
set_option maxRecDepth 20000 in
theorem mm_190 : Cond.code yZO_openRow cZO_openRow 13 (some .int) ∈ tbg := in_tables_1_1 (List.mem_of_getElem? (i := 190) rfl) rfl
set_option maxRecDepth 20000 in
theorem mm_191 : Cond.methodLink RZO 45 yZB_bitsFrom ∈ tbg := in_tables_1_1 (List.mem_of_getElem? (i := 191) (by decide +kernel)) (by decide +kernel)
set_option maxRecDepth 20000 in
theorem mm_192 : Cond.instanceMethod yZB_bitsFrom ∈ tbg := in_tables_1_1 (List.mem_of_getElem? (i := 192) (by decide +kernel)) (by decide +kernel)
set_option maxRecDepth 20000 in
theorem mm_193 : Cond.selects RZB yZB_bitsFrom yZB_bitsFrom ∈ tbg := in_tables_1_1 (List.mem_of_getElem? (i := 193) (by decide +kernel)) (by decide +kernel)
set_option maxRecDepth 20000 in
theorem mm_194 : Cond.code yZB_bitsFrom cZB_bitsFrom 6 (some .int) ∈ tbg := in_tables_1_1 (List.mem_of_getElem? (i := 194) rfl) rfl
set_option maxRecDepth 20000 in
theorem mm_195 : Cond.methodLink RZO 49 yZT_formerSample ∈ tbg := in_tables_1_1 (List.mem_of_getElem? (i := 195) (by decide +kernel)) (by decide +kernel)
set_option maxRecDepth 20000 in
theorem mm_196 : Cond.instanceMethod yZT_formerSample ∈ tbg := in_tables_1_1 (List.mem_of_getElem? (i := 196) (by decide +kernel)) (by decide +kernel)
set_option maxRecDepth 20000 in
theorem mm_197 : Cond.selects RZT yZT_formerSample yZT_formerSample ∈ tbg := in_tables_1_1 (List.mem_of_getElem? (i := 197) (by decide +kernel)) (by decide +kernel)
set_option maxRecDepth 20000 in
theorem mm_198 : Cond.code yZT_formerSample cZT_formerSample 3 (some .int) ∈ tbg := in_tables_1_1 (List.mem_of_getElem? (i := 198) rfl) rfl
set_option maxRecDepth 20000 in
theorem mm_199 : Cond.methodLink RZT 22 yZT_sampleAt ∈ tbg := in_tables_1_1 (List.mem_of_getElem? (i := 199) (by decide +kernel)) (by decide +kernel)
set_option maxRecDepth 20000 in
theorem mm_200 : Cond.instanceMethod yZT_sampleAt ∈ tbg := in_tables_1_1 (List.mem_of_getElem? (i := 200) (by decide +kernel)) (by decide +kernel)
set_option maxRecDepth 20000 in
theorem mm_201 : Cond.selects RZT yZT_sampleAt yZT_sampleAt ∈ tbg := in_tables_1_1 (List.mem_of_getElem? (i := 201) (by decide +kernel)) (by decide +kernel)
set_option maxRecDepth 20000 in
theorem mm_202 : Cond.code yZT_sampleAt cZT_sampleAt 3 (some .int) ∈ tbg := in_tables_1_1 (List.mem_of_getElem? (i := 202) rfl) rfl
set_option maxRecDepth 20000 in
theorem mm_203 : Cond.methodLink RZO 52 yZO_differenceOf ∈ tbg := in_tables_1_1 (List.mem_of_getElem? (i := 203) (by decide +kernel)) (by decide +kernel)
set_option maxRecDepth 20000 in
theorem mm_204 : Cond.static yZO_differenceOf ∈ tbg := in_tables_1_1 (List.mem_of_getElem? (i := 204) (by decide +kernel)) (by decide +kernel)
set_option maxRecDepth 20000 in
theorem mm_205 : Cond.code yZO_differenceOf cZO_differenceOf 1 (some .int) ∈ tbg := in_tables_1_1 (List.mem_of_getElem? (i := 205) rfl) rfl
set_option maxRecDepth 20000 in
theorem mm_207 : Cond.static yZQ_isSample ∈ tbg := in_tables_1_1 (List.mem_of_getElem? (i := 207) (by decide +kernel)) (by decide +kernel)
set_option maxRecDepth 20000 in
theorem mm_208 : Cond.code yZQ_isSample cZQ_isSample 1 (some .boolean) ∈ tbg := in_tables_1_1 (List.mem_of_getElem? (i := 208) rfl) rfl
set_option maxRecDepth 20000 in
theorem mm_209 : Cond.methodLink RZO 58 yZT_setSample ∈ tbg := in_tables_1_1 (List.mem_of_getElem? (i := 209) (by decide +kernel)) (by decide +kernel)
set_option maxRecDepth 20000 in
theorem mm_210 : Cond.instanceMethod yZT_setSample ∈ tbg := in_tables_1_1 (List.mem_of_getElem? (i := 210) (by decide +kernel)) (by decide +kernel)
set_option maxRecDepth 20000 in
theorem mm_211 : Cond.selects RZT yZT_setSample yZT_setSample ∈ tbg := in_tables_1_1 (List.mem_of_getElem? (i := 211) (by decide +kernel)) (by decide +kernel)
set_option maxRecDepth 20000 in
theorem mm_212 : Cond.code yZT_setSample cZT_setSample 4 none ∈ tbg := in_tables_1_1 (List.mem_of_getElem? (i := 212) rfl) rfl
set_option maxRecDepth 20000 in
theorem mm_213 : Cond.methodLink RZO 62 yZJ_max ∈ tbg := in_tables_1_1 (List.mem_of_getElem? (i := 213) (by decide +kernel)) (by decide +kernel)
set_option maxRecDepth 20000 in
theorem mm_215 : Cond.static yZQ_bitsNeeded ∈ tbg := in_tables_1_1 (List.mem_of_getElem? (i := 215) (by decide +kernel)) (by decide +kernel)
set_option maxRecDepth 20000 in
theorem mm_216 : Cond.code yZQ_bitsNeeded cZQ_bitsNeeded 2 (some .int) ∈ tbg := in_tables_1_1 (List.mem_of_getElem? (i := 216) rfl) rfl
set_option maxRecDepth 20000 in
theorem mm_217 : Cond.methodLink RZQ 188 yZT_sampleCount ∈ tbg := in_tables_1_1 (List.mem_of_getElem? (i := 217) (by decide +kernel)) (by decide +kernel)
set_option maxRecDepth 20000 in
theorem mm_218 : Cond.instanceMethod yZT_sampleCount ∈ tbg := in_tables_1_1 (List.mem_of_getElem? (i := 218) (by decide +kernel)) (by decide +kernel)
set_option maxRecDepth 20000 in
theorem mm_219 : Cond.selects RZT yZT_sampleCount yZT_sampleCount ∈ tbg := in_tables_1_1 (List.mem_of_getElem? (i := 219) (by decide +kernel)) (by decide +kernel)
set_option maxRecDepth 20000 in
theorem mm_220 : Cond.code yZT_sampleCount cZT_sampleCount 1 (some .int) ∈ tbg := in_tables_1_1 (List.mem_of_getElem? (i := 220) rfl) rfl
set_option maxRecDepth 20000 in
theorem mm_221 : Cond.methodLink RZL 69 yZL_cell ∈ tbg := in_tables_1_1 (List.mem_of_getElem? (i := 221) (by decide +kernel)) (by decide +kernel)
set_option maxRecDepth 20000 in
theorem mm_222 : Cond.static yZL_cell ∈ tbg := in_tables_1_1 (List.mem_of_getElem? (i := 222) (by decide +kernel)) (by decide +kernel)
set_option maxRecDepth 20000 in
theorem mm_223 : Cond.code yZL_cell cZL_cell 2 (some .int) ∈ tbg := in_tables_1_1 (List.mem_of_getElem? (i := 223) rfl) rfl
set_option maxRecDepth 20000 in
theorem mm_224 : Cond.methodLink RZL 81 yZL_put ∈ tbg := in_tables_1_1 (List.mem_of_getElem? (i := 224) (by decide +kernel)) (by decide +kernel)
set_option maxRecDepth 20000 in
theorem mm_225 : Cond.static yZL_put ∈ tbg := in_tables_1_1 (List.mem_of_getElem? (i := 225) (by decide +kernel)) (by decide +kernel)
set_option maxRecDepth 20000 in
theorem mm_226 : Cond.codeWith yZL_put cZL_put 6 (some .int) [(0, 12, 15, 13), (0, 12, 19, 15)] ∈ tbg := in_tables_1_1 (List.mem_of_getElem? (i := 226) rfl) rfl
set_option maxRecDepth 20000 in
theorem mm_227 : Cond.classLink RZL 13 "java/lang/IndexOutOfBoundsException" ∈ tbg := in_tables_1_1 (List.mem_of_getElem? (i := 227) (by decide +kernel)) (by decide +kernel)
set_option maxRecDepth 20000 in
theorem mm_228 : Cond.classLink RZL 15 "java/lang/IllegalArgumentException" ∈ tbg := in_tables_1_1 (List.mem_of_getElem? (i := 228) (by decide +kernel)) (by decide +kernel)
set_option maxRecDepth 20000 in
theorem mm_229 : Cond.methodLink RZL 7 yZQ_put ∈ tbg := in_tables_1_1 (List.mem_of_getElem? (i := 229) (by decide +kernel)) (by decide +kernel)
set_option maxRecDepth 20000 in
theorem mm_230 : Cond.instanceMethod yZQ_put ∈ tbg := in_tables_1_1 (List.mem_of_getElem? (i := 230) (by decide +kernel)) (by decide +kernel)
set_option maxRecDepth 20000 in
theorem mm_231 : Cond.selects RZQ yZQ_put yZQ_put ∈ tbg := in_tables_1_1 (List.mem_of_getElem? (i := 231) (by decide +kernel)) (by decide +kernel)
set_option maxRecDepth 20000 in
theorem mm_232 : Cond.code yZQ_put cZQ_put 4 (some .int) ∈ tbg := in_tables_1_1 (List.mem_of_getElem? (i := 232) rfl) rfl
set_option maxRecDepth 20000 in
theorem mm_233 : Cond.methodLink RZQ 65 yZQ_replaceSample ∈ tbg := in_tables_1_1 (List.mem_of_getElem? (i := 233) (by decide +kernel)) (by decide +kernel)
set_option maxRecDepth 20000 in
theorem mm_234 : Cond.static yZQ_replaceSample ∈ tbg := in_tables_1_1 (List.mem_of_getElem? (i := 234) (by decide +kernel)) (by decide +kernel)
set_option maxRecDepth 20000 in
theorem mm_235 : Cond.code yZQ_replaceSample cZQ_replaceSample 5 (some .int) ∈ tbg := in_tables_1_1 (List.mem_of_getElem? (i := 235) rfl) rfl
set_option maxRecDepth 20000 in
theorem mm_236 : Cond.methodLink RZQ 97 yZQ_isWithin ∈ tbg := in_tables_1_1 (List.mem_of_getElem? (i := 236) (by decide +kernel)) (by decide +kernel)
set_option maxRecDepth 20000 in
theorem mm_237 : Cond.static yZQ_isWithin ∈ tbg := in_tables_1_1 (List.mem_of_getElem? (i := 237) (by decide +kernel)) (by decide +kernel)
set_option maxRecDepth 20000 in
theorem mm_238 : Cond.code yZQ_isWithin cZQ_isWithin 2 (some .boolean) ∈ tbg := in_tables_1_1 (List.mem_of_getElem? (i := 238) rfl) rfl
set_option maxRecDepth 20000 in
theorem mm_239 : Cond.methodLink RZQ 73 yZQ_requirePlace ∈ tbg := in_tables_1_1 (List.mem_of_getElem? (i := 239) (by decide +kernel)) (by decide +kernel)
set_option maxRecDepth 20000 in
theorem mm_240 : Cond.static yZQ_requirePlace ∈ tbg := in_tables_1_2 (List.mem_of_getElem? (i := 0) (by decide +kernel)) (by decide +kernel)
set_option maxRecDepth 20000 in
theorem mm_241 : Cond.code yZQ_requirePlace cZQ_requirePlace 1 none ∈ tbg := in_tables_1_2 (List.mem_of_getElem? (i := 1) rfl) rfl
set_option maxRecDepth 20000 in
theorem mm_242 : Cond.classLink RZQ 225 "java/lang/IndexOutOfBoundsException" ∈ tbg := in_tables_1_2 (List.mem_of_getElem? (i := 2) (by decide +kernel)) (by decide +kernel)
set_option maxRecDepth 20000 in
theorem mm_243 : Cond.instantiable "java/lang/IndexOutOfBoundsException" 6 ∈ tbg := in_tables_1_2 (List.mem_of_getElem? (i := 3) (by decide +kernel)) (by decide +kernel)
set_option maxRecDepth 20000 in
theorem mm_251 : Cond.selects "java/lang/IndexOutOfBoundsException" ⟨"java/lang/Throwable", "fillInStackTrace", "(I)Ljava/lang/Throwable;"⟩ ⟨"java/lang/Throwable", "fillInStackTrace", "(I)Ljava/lang/Throwable;"⟩ ∈ tbg := in_tables_1_2 (List.mem_of_getElem? (i := 11) (by decide +kernel)) (by decide +kernel)
set_option maxRecDepth 20000 in
theorem mm_252 : Cond.selects "java/lang/IndexOutOfBoundsException" ⟨"java/lang/Throwable", "fillInStackTrace", "()Ljava/lang/Throwable;"⟩ ⟨"java/lang/Throwable", "fillInStackTrace", "()Ljava/lang/Throwable;"⟩ ∈ tbg := in_tables_1_2 (List.mem_of_getElem? (i := 12) (by decide +kernel)) (by decide +kernel)
set_option maxRecDepth 20000 in
theorem mm_253 : Cond.lays "java/lang/IndexOutOfBoundsException" "java/lang/Throwable" "cause" "Ljava/lang/Throwable;" ∈ tbg := in_tables_1_2 (List.mem_of_getElem? (i := 13) (by decide +kernel)) (by decide +kernel)
set_option maxRecDepth 20000 in
theorem mm_254 : Cond.lays "java/lang/Throwable" "java/lang/Throwable" "cause" "Ljava/lang/Throwable;" ∈ tbg := in_tables_1_2 (List.mem_of_getElem? (i := 14) (by decide +kernel)) (by decide +kernel)
set_option maxRecDepth 20000 in
theorem mm_255 : Cond.lays "java/lang/IndexOutOfBoundsException" "java/lang/Throwable" "stackTrace" "[Ljava/lang/StackTraceElement;" ∈ tbg := in_tables_1_2 (List.mem_of_getElem? (i := 15) (by decide +kernel)) (by decide +kernel)
set_option maxRecDepth 20000 in
theorem mm_256 : Cond.lays "java/lang/Throwable" "java/lang/Throwable" "stackTrace" "[Ljava/lang/StackTraceElement;" ∈ tbg := in_tables_1_2 (List.mem_of_getElem? (i := 16) (by decide +kernel)) (by decide +kernel)
set_option maxRecDepth 20000 in
theorem mm_257 : Cond.lays "java/lang/IndexOutOfBoundsException" "java/lang/Throwable" "suppressedExceptions" "Ljava/util/List;" ∈ tbg := in_tables_1_2 (List.mem_of_getElem? (i := 17) (by decide +kernel)) (by decide +kernel)
set_option maxRecDepth 20000 in
theorem mm_258 : Cond.lays "java/lang/Throwable" "java/lang/Throwable" "suppressedExceptions" "Ljava/util/List;" ∈ tbg := in_tables_1_2 (List.mem_of_getElem? (i := 18) (by decide +kernel)) (by decide +kernel)
set_option maxRecDepth 20000 in
theorem mm_259 : Cond.lays "java/lang/IndexOutOfBoundsException" "java/lang/Throwable" "detailMessage" "Ljava/lang/String;" ∈ tbg := in_tables_1_2 (List.mem_of_getElem? (i := 19) (by decide +kernel)) (by decide +kernel)
set_option maxRecDepth 20000 in
theorem mm_260 : Cond.lays "java/lang/Throwable" "java/lang/Throwable" "detailMessage" "Ljava/lang/String;" ∈ tbg := in_tables_1_2 (List.mem_of_getElem? (i := 20) (by decide +kernel)) (by decide +kernel)
set_option maxRecDepth 20000 in
theorem mm_261 : Cond.lays "java/lang/IndexOutOfBoundsException" "java/lang/Throwable" "backtrace" "Ljava/lang/Object;" ∈ tbg := in_tables_1_2 (List.mem_of_getElem? (i := 21) (by decide +kernel)) (by decide +kernel)
set_option maxRecDepth 20000 in
theorem mm_262 : Cond.lays "java/lang/Throwable" "java/lang/Throwable" "backtrace" "Ljava/lang/Object;" ∈ tbg := in_tables_1_2 (List.mem_of_getElem? (i := 22) (by decide +kernel)) (by decide +kernel)
set_option maxRecDepth 20000 in
theorem mm_263 : Cond.fieldLink "java/lang/Throwable" 198 "java/lang/Throwable" "backtrace" "Ljava/lang/Object;" ∈ tbg := in_tables_1_2 (List.mem_of_getElem? (i := 23) (by decide +kernel)) (by decide +kernel)
set_option maxRecDepth 20000 in
theorem mm_264 : Cond.superclass "java/lang/Throwable" "java/lang/Object" ∈ tbg := in_tables_1_2 (List.mem_of_getElem? (i := 24) (by decide +kernel)) (by decide +kernel)
set_option maxRecDepth 20000 in
theorem mm_265 : Cond.instanceMethod ⟨"java/lang/Throwable", "<init>", "()V"⟩ ∈ tbg := in_tables_1_2 (List.mem_of_getElem? (i := 25) (by decide +kernel)) (by decide +kernel)
set_option maxRecDepth 20000 in
theorem mm_266 : Cond.code ⟨"java/lang/Throwable", "<init>", "()V"⟩ prog_18_method_1_code 1 none ∈ tbg := in_tables_1_2 (List.mem_of_getElem? (i := 26) rfl) rfl
set_option maxRecDepth 20000 in
theorem mm_267 : Cond.methodLink "java/lang/Throwable" 1 objectInit ∈ tbg := in_tables_1_2 (List.mem_of_getElem? (i := 27) (by decide +kernel)) (by decide +kernel)
set_option maxRecDepth 20000 in
theorem mm_268 : Cond.fieldLink "java/lang/Throwable" 13 "java/lang/Throwable" "UNASSIGNED_STACK" "[Ljava/lang/StackTraceElement;" ∈ tbg := in_tables_1_2 (List.mem_of_getElem? (i := 28) (by decide +kernel)) (by decide +kernel)
set_option maxRecDepth 20000 in
theorem mm_270 : Cond.fieldLink "java/lang/Throwable" 20 "java/lang/Throwable" "SUPPRESSED_SENTINEL" "Ljava/util/List;" ∈ tbg := in_tables_1_2 (List.mem_of_getElem? (i := 30) (by decide +kernel)) (by decide +kernel)
set_option maxRecDepth 20000 in
theorem mm_272 : Cond.methodLink "java/lang/Throwable" 27 ⟨"java/lang/Throwable", "fillInStackTrace", "()Ljava/lang/Throwable;"⟩ ∈ tbg := in_tables_1_2 (List.mem_of_getElem? (i := 32) (by decide +kernel)) (by decide +kernel)
set_option maxRecDepth 20000 in
theorem mm_273 : Cond.instanceMethod ⟨"java/lang/Throwable", "fillInStackTrace", "()Ljava/lang/Throwable;"⟩ ∈ tbg := in_tables_1_2 (List.mem_of_getElem? (i := 33) (by decide +kernel)) (by decide +kernel)
set_option maxRecDepth 20000 in
theorem mm_274 : Cond.sameMethod "java/lang/Throwable" "java/lang/Throwable" "fillInStackTrace" "()Ljava/lang/Throwable;" ∈ tbg := in_tables_1_2 (List.mem_of_getElem? (i := 34) (by decide +kernel)) (by decide +kernel)
set_option maxRecDepth 20000 in
theorem mm_275 : Cond.selects "java/lang/IllegalArgumentException" ⟨"java/lang/Throwable", "fillInStackTrace", "()Ljava/lang/Throwable;"⟩ ⟨"java/lang/Throwable", "fillInStackTrace", "()Ljava/lang/Throwable;"⟩ ∈ tbg := in_tables_1_2 (List.mem_of_getElem? (i := 35) (by decide +kernel)) (by decide +kernel)
set_option maxRecDepth 20000 in
theorem mm_276 : Cond.selects "java/lang/IllegalStateException" ⟨"java/lang/Throwable", "fillInStackTrace", "()Ljava/lang/Throwable;"⟩ ⟨"java/lang/Throwable", "fillInStackTrace", "()Ljava/lang/Throwable;"⟩ ∈ tbg := in_tables_1_2 (List.mem_of_getElem? (i := 36) (by decide +kernel)) (by decide +kernel)
set_option maxRecDepth 20000 in
theorem mm_277 : Cond.codeSync ⟨"java/lang/Throwable", "fillInStackTrace", "()Ljava/lang/Throwable;"⟩ prog_18_method_18_code 1 (Option.some (Jvm.ClassFile.FieldType.object "java/lang/Throwable")) ∈ tbg := in_tables_1_2 (List.mem_of_getElem? (i := 37) rfl) rfl
set_option maxRecDepth 20000 in
theorem mm_278 : Cond.methodLink "java/lang/Throwable" 202 ⟨"java/lang/Throwable", "fillInStackTrace", "(I)Ljava/lang/Throwable;"⟩ ∈ tbg := in_tables_1_2 (List.mem_of_getElem? (i := 38) (by decide +kernel)) (by decide +kernel)
set_option maxRecDepth 20000 in
theorem mm_280 : Cond.instanceMethod ⟨"java/lang/Throwable", "fillInStackTrace", "(I)Ljava/lang/Throwable;"⟩ ∈ tbg := in_tables_1_2 (List.mem_of_getElem? (i := 40) (by decide +kernel)) (by decide +kernel)
set_option maxRecDepth 20000 in
theorem mm_281 : Cond.instantiable "java/lang/Throwable" 6 ∈ tbg := in_tables_1_2 (List.mem_of_getElem? (i := 41) (by decide +kernel)) (by decide +kernel)
set_option maxRecDepth 20000 in
theorem mm_282 : Cond.native ⟨"java/lang/Throwable", "fillInStackTrace", "(I)Ljava/lang/Throwable;"⟩ ∈ tbg := in_tables_1_2 (List.mem_of_getElem? (i := 42) (by decide +kernel)) (by decide +kernel)
set_option maxRecDepth 20000 in
theorem mm_284 : Cond.methodLink RZQ 229 ⟨"java/lang/IndexOutOfBoundsException", "<init>", "(Ljava/lang/String;)V"⟩ ∈ tbg := in_tables_1_2 (List.mem_of_getElem? (i := 44) (by decide +kernel)) (by decide +kernel)
set_option maxRecDepth 20000 in
theorem mm_285 : Cond.instanceMethod ⟨"java/lang/IndexOutOfBoundsException", "<init>", "(Ljava/lang/String;)V"⟩ ∈ tbg := in_tables_1_2 (List.mem_of_getElem? (i := 45) (by decide +kernel)) (by decide +kernel)
set_option maxRecDepth 20000 in
theorem mm_286 : Cond.code ⟨"java/lang/IndexOutOfBoundsException", "<init>", "(Ljava/lang/String;)V"⟩ prog_14_method_2_code 2 none ∈ tbg := in_tables_1_2 (List.mem_of_getElem? (i := 46) rfl) rfl
set_option maxRecDepth 20000 in
theorem mm_287 : Cond.methodLink "java/lang/IndexOutOfBoundsException" 7 ⟨"java/lang/RuntimeException", "<init>", "(Ljava/lang/String;)V"⟩ ∈ tbg := in_tables_1_2 (List.mem_of_getElem? (i := 47) (by decide +kernel)) (by decide +kernel)
set_option maxRecDepth 20000 in
theorem mm_288 : Cond.instanceMethod ⟨"java/lang/RuntimeException", "<init>", "(Ljava/lang/String;)V"⟩ ∈ tbg := in_tables_1_2 (List.mem_of_getElem? (i := 48) (by decide +kernel)) (by decide +kernel)
set_option maxRecDepth 20000 in
theorem mm_289 : Cond.code ⟨"java/lang/RuntimeException", "<init>", "(Ljava/lang/String;)V"⟩ prog_16_method_2_code 2 none ∈ tbg := in_tables_1_2 (List.mem_of_getElem? (i := 49) rfl) rfl
set_option maxRecDepth 20000 in
theorem mm_290 : Cond.methodLink "java/lang/RuntimeException" 7 ⟨"java/lang/Exception", "<init>", "(Ljava/lang/String;)V"⟩ ∈ tbg := in_tables_1_2 (List.mem_of_getElem? (i := 50) (by decide +kernel)) (by decide +kernel)
set_option maxRecDepth 20000 in
theorem mm_291 : Cond.instanceMethod ⟨"java/lang/Exception", "<init>", "(Ljava/lang/String;)V"⟩ ∈ tbg := in_tables_1_2 (List.mem_of_getElem? (i := 51) (by decide +kernel)) (by decide +kernel)
set_option maxRecDepth 20000 in
theorem mm_292 : Cond.code ⟨"java/lang/Exception", "<init>", "(Ljava/lang/String;)V"⟩ prog_11_method_2_code 2 none ∈ tbg := in_tables_1_2 (List.mem_of_getElem? (i := 52) rfl) rfl
set_option maxRecDepth 20000 in
theorem mm_293 : Cond.methodLink "java/lang/Exception" 7 ⟨"java/lang/Throwable", "<init>", "(Ljava/lang/String;)V"⟩ ∈ tbg := in_tables_1_2 (List.mem_of_getElem? (i := 53) (by decide +kernel)) (by decide +kernel)
set_option maxRecDepth 20000 in
theorem mm_294 : Cond.instanceMethod ⟨"java/lang/Throwable", "<init>", "(Ljava/lang/String;)V"⟩ ∈ tbg := in_tables_1_2 (List.mem_of_getElem? (i := 54) (by decide +kernel)) (by decide +kernel)
set_option maxRecDepth 20000 in
theorem mm_295 : Cond.code ⟨"java/lang/Throwable", "<init>", "(Ljava/lang/String;)V"⟩ prog_18_method_2_code 2 none ∈ tbg := in_tables_1_2 (List.mem_of_getElem? (i := 55) rfl) rfl
set_option maxRecDepth 20000 in
theorem mm_297 : Cond.fieldLink "java/lang/Throwable" 31 "java/lang/Throwable" "detailMessage" "Ljava/lang/String;" ∈ tbg := in_tables_1_2 (List.mem_of_getElem? (i := 57) (by decide +kernel)) (by decide +kernel)
set_option maxRecDepth 20000 in
theorem mm_298 : Cond.fieldLink "java/lang/Throwable" 7 "java/lang/Throwable" "cause" "Ljava/lang/Throwable;" ∈ tbg := in_tables_1_2 (List.mem_of_getElem? (i := 58) (by decide +kernel)) (by decide +kernel)
set_option maxRecDepth 20000 in
theorem mm_299 : Cond.fieldLink "java/lang/Throwable" 17 "java/lang/Throwable" "stackTrace" "[Ljava/lang/StackTraceElement;" ∈ tbg := in_tables_1_2 (List.mem_of_getElem? (i := 59) (by decide +kernel)) (by decide +kernel)
set_option maxRecDepth 20000 in
theorem mm_300 : Cond.fieldLink "java/lang/Throwable" 24 "java/lang/Throwable" "suppressedExceptions" "Ljava/util/List;" ∈ tbg := in_tables_1_2 (List.mem_of_getElem? (i := 60) (by decide +kernel)) (by decide +kernel)
set_option maxRecDepth 20000 in
theorem mm_301 : Cond.soleField "java/lang/Throwable" "backtrace" ∈ tbg := in_tables_1_2 (List.mem_of_getElem? (i := 61) (by decide +kernel)) (by decide +kernel)
set_option maxRecDepth 20000 in
theorem mm_302 : Cond.soleField "java/lang/Throwable" "detailMessage" ∈ tbg := in_tables_1_2 (List.mem_of_getElem? (i := 62) (by decide +kernel)) (by decide +kernel)
set_option maxRecDepth 20000 in
theorem mm_303 : Cond.soleField "java/lang/Throwable" "cause" ∈ tbg := in_tables_1_2 (List.mem_of_getElem? (i := 63) (by decide +kernel)) (by decide +kernel)
set_option maxRecDepth 20000 in
theorem mm_304 : Cond.soleField "java/lang/Throwable" "stackTrace" ∈ tbg := in_tables_1_2 (List.mem_of_getElem? (i := 64) (by decide +kernel)) (by decide +kernel)
set_option maxRecDepth 20000 in
theorem mm_305 : Cond.lays "java/lang/IndexOutOfBoundsException" "java/lang/Throwable" "depth" "I" ∈ tbg := in_tables_1_2 (List.mem_of_getElem? (i := 65) (by decide +kernel)) (by decide +kernel)
set_option maxRecDepth 20000 in
theorem mm_306 : Cond.soleField "java/lang/Throwable" "depth" ∈ tbg := in_tables_1_2 (List.mem_of_getElem? (i := 66) (by decide +kernel)) (by decide +kernel)
set_option maxRecDepth 20000 in
theorem mm_307 : Cond.soleField "java/lang/Throwable" "suppressedExceptions" ∈ tbg := in_tables_1_2 (List.mem_of_getElem? (i := 67) (by decide +kernel)) (by decide +kernel)
set_option maxRecDepth 20000 in
theorem mm_308 : Cond.superclass "java/lang/IndexOutOfBoundsException" "java/lang/RuntimeException" ∈ tbg := in_tables_1_2 (List.mem_of_getElem? (i := 68) (by decide +kernel)) (by decide +kernel)
set_option maxRecDepth 20000 in
theorem mm_309 : Cond.arrayClass .byte ∈ tbg := in_tables_1_2 (List.mem_of_getElem? (i := 69) (by decide +kernel)) (by decide +kernel)
set_option maxRecDepth 20000 in
theorem mm_310 : Cond.methodLink RZQ 77 yZQ_requireSample ∈ tbg := in_tables_1_2 (List.mem_of_getElem? (i := 70) (by decide +kernel)) (by decide +kernel)
set_option maxRecDepth 20000 in
theorem mm_311 : Cond.static yZQ_requireSample ∈ tbg := in_tables_1_2 (List.mem_of_getElem? (i := 71) (by decide +kernel)) (by decide +kernel)
set_option maxRecDepth 20000 in
theorem mm_312 : Cond.code yZQ_requireSample cZQ_requireSample 1 none ∈ tbg := in_tables_1_2 (List.mem_of_getElem? (i := 72) rfl) rfl
set_option maxRecDepth 20000 in
theorem mm_313 : Cond.methodLink RZQ 230 yZQ_isSample ∈ tbg := in_tables_1_2 (List.mem_of_getElem? (i := 73) (by decide +kernel)) (by decide +kernel)
set_option maxRecDepth 20000 in
theorem mm_314 : Cond.classLink RZQ 164 "java/lang/IllegalArgumentException" ∈ tbg := in_tables_1_2 (List.mem_of_getElem? (i := 74) (by decide +kernel)) (by decide +kernel)
set_option maxRecDepth 20000 in
theorem mm_315 : Cond.instantiable "java/lang/IllegalArgumentException" 6 ∈ tbg := in_tables_1_2 (List.mem_of_getElem? (i := 75) (by decide +kernel)) (by decide +kernel)
set_option maxRecDepth 20000 in
theorem mm_317 : Cond.selects "java/lang/IllegalArgumentException" ⟨"java/lang/Throwable", "fillInStackTrace", "(I)Ljava/lang/Throwable;"⟩ ⟨"java/lang/Throwable", "fillInStackTrace", "(I)Ljava/lang/Throwable;"⟩ ∈ tbg := in_tables_1_2 (List.mem_of_getElem? (i := 77) (by decide +kernel)) (by decide +kernel)
set_option maxRecDepth 20000 in
theorem mm_318 : Cond.lays "java/lang/IllegalArgumentException" "java/lang/Throwable" "cause" "Ljava/lang/Throwable;" ∈ tbg := in_tables_1_2 (List.mem_of_getElem? (i := 78) (by decide +kernel)) (by decide +kernel)
set_option maxRecDepth 20000 in
theorem mm_319 : Cond.lays "java/lang/IllegalArgumentException" "java/lang/Throwable" "stackTrace" "[Ljava/lang/StackTraceElement;" ∈ tbg := in_tables_1_2 (List.mem_of_getElem? (i := 79) (by decide +kernel)) (by decide +kernel)
set_option maxRecDepth 20000 in
theorem mm_320 : Cond.lays "java/lang/IllegalArgumentException" "java/lang/Throwable" "suppressedExceptions" "Ljava/util/List;" ∈ tbg := in_tables_1_2 (List.mem_of_getElem? (i := 80) (by decide +kernel)) (by decide +kernel)
set_option maxRecDepth 20000 in
theorem mm_321 : Cond.lays "java/lang/IllegalArgumentException" "java/lang/Throwable" "detailMessage" "Ljava/lang/String;" ∈ tbg := in_tables_1_2 (List.mem_of_getElem? (i := 81) (by decide +kernel)) (by decide +kernel)
set_option maxRecDepth 20000 in
theorem mm_322 : Cond.lays "java/lang/IllegalArgumentException" "java/lang/Throwable" "backtrace" "Ljava/lang/Object;" ∈ tbg := in_tables_1_2 (List.mem_of_getElem? (i := 82) (by decide +kernel)) (by decide +kernel)
set_option maxRecDepth 20000 in
theorem mm_324 : Cond.methodLink RZQ 168 ⟨"java/lang/IllegalArgumentException", "<init>", "(Ljava/lang/String;)V"⟩ ∈ tbg := in_tables_1_2 (List.mem_of_getElem? (i := 84) (by decide +kernel)) (by decide +kernel)
set_option maxRecDepth 20000 in
theorem mm_325 : Cond.instanceMethod ⟨"java/lang/IllegalArgumentException", "<init>", "(Ljava/lang/String;)V"⟩ ∈ tbg := in_tables_1_2 (List.mem_of_getElem? (i := 85) (by decide +kernel)) (by decide +kernel)
set_option maxRecDepth 20000 in
theorem mm_326 : Cond.code ⟨"java/lang/IllegalArgumentException", "<init>", "(Ljava/lang/String;)V"⟩ prog_12_method_2_code 2 none ∈ tbg := in_tables_1_2 (List.mem_of_getElem? (i := 86) rfl) rfl
set_option maxRecDepth 20000 in
theorem mm_327 : Cond.methodLink "java/lang/IllegalArgumentException" 7 ⟨"java/lang/RuntimeException", "<init>", "(Ljava/lang/String;)V"⟩ ∈ tbg := in_tables_1_2 (List.mem_of_getElem? (i := 87) (by decide +kernel)) (by decide +kernel)
set_option maxRecDepth 20000 in
theorem mm_328 : Cond.lays "java/lang/IllegalArgumentException" "java/lang/Throwable" "depth" "I" ∈ tbg := in_tables_1_2 (List.mem_of_getElem? (i := 88) (by decide +kernel)) (by decide +kernel)
set_option maxRecDepth 20000 in
theorem mm_329 : Cond.superclass "java/lang/IllegalArgumentException" "java/lang/RuntimeException" ∈ tbg := in_tables_1_2 (List.mem_of_getElem? (i := 89) (by decide +kernel)) (by decide +kernel)
set_option maxRecDepth 20000 in
theorem mm_330 : Cond.methodLink RZQ 134 yZP_sampleAt ∈ tbg := in_tables_1_2 (List.mem_of_getElem? (i := 90) (by decide +kernel)) (by decide +kernel)
set_option maxRecDepth 20000 in
theorem mm_331 : Cond.instanceMethod yZP_sampleAt ∈ tbg := in_tables_1_2 (List.mem_of_getElem? (i := 91) (by decide +kernel)) (by decide +kernel)
set_option maxRecDepth 20000 in
theorem mm_332 : Cond.selects RZP yZP_sampleAt yZP_sampleAt ∈ tbg := in_tables_1_2 (List.mem_of_getElem? (i := 92) (by decide +kernel)) (by decide +kernel)
set_option maxRecDepth 20000 in
theorem mm_333 : Cond.code yZP_sampleAt cZP_sampleAt 3 (some .int) ∈ tbg := in_tables_1_2 (List.mem_of_getElem? (i := 93) rfl) rfl
set_option maxRecDepth 20000 in
theorem mm_334 : Cond.methodLink RZQ 221 yZP_setSample ∈ tbg := in_tables_1_2 (List.mem_of_getElem? (i := 94) (by decide +kernel)) (by decide +kernel)
set_option maxRecDepth 20000 in
theorem mm_335 : Cond.instanceMethod yZP_setSample ∈ tbg := in_tables_1_2 (List.mem_of_getElem? (i := 95) (by decide +kernel)) (by decide +kernel)
set_option maxRecDepth 20000 in
theorem mm_336 : Cond.selects RZP yZP_setSample yZP_setSample ∈ tbg := in_tables_1_2 (List.mem_of_getElem? (i := 96) (by decide +kernel)) (by decide +kernel)
set_option maxRecDepth 20000 in
theorem mm_337 : Cond.code yZP_setSample cZP_setSample 4 none ∈ tbg := in_tables_1_2 (List.mem_of_getElem? (i := 97) rfl) rfl
set_option maxRecDepth 20000 in
theorem mm_338 : Cond.methodLink RZL 89 yZL_change ∈ tbg := in_tables_1_2 (List.mem_of_getElem? (i := 98) (by decide +kernel)) (by decide +kernel)
set_option maxRecDepth 20000 in
theorem mm_339 : Cond.static yZL_change ∈ tbg := in_tables_1_2 (List.mem_of_getElem? (i := 99) (by decide +kernel)) (by decide +kernel)
set_option maxRecDepth 20000 in
theorem mm_340 : Cond.codeWith yZL_change cZL_change 8 (some .int) [(0, 16, 19, 13), (0, 16, 23, 15)] ∈ tbg := in_tables_1_2 (List.mem_of_getElem? (i := 100) rfl) rfl
set_option maxRecDepth 20000 in
theorem mm_341 : Cond.methodLink RZL 17 yZQ_change ∈ tbg := in_tables_1_2 (List.mem_of_getElem? (i := 101) (by decide +kernel)) (by decide +kernel)
set_option maxRecDepth 20000 in
theorem mm_342 : Cond.instanceMethod yZQ_change ∈ tbg := in_tables_1_2 (List.mem_of_getElem? (i := 102) (by decide +kernel)) (by decide +kernel)
set_option maxRecDepth 20000 in
theorem mm_343 : Cond.selects RZQ yZQ_change yZQ_change ∈ tbg := in_tables_1_2 (List.mem_of_getElem? (i := 103) (by decide +kernel)) (by decide +kernel)
set_option maxRecDepth 20000 in
theorem mm_344 : Cond.code yZQ_change cZQ_change 6 (some .int) ∈ tbg := in_tables_1_2 (List.mem_of_getElem? (i := 104) rfl) rfl
set_option maxRecDepth 20000 in
theorem mm_345 : Cond.methodLink RZQ 69 yZY_hasPart ∈ tbg := in_tables_1_2 (List.mem_of_getElem? (i := 105) (by decide +kernel)) (by decide +kernel)
set_option maxRecDepth 20000 in
theorem mm_346 : Cond.instanceMethod yZY_hasPart ∈ tbg := in_tables_1_2 (List.mem_of_getElem? (i := 106) (by decide +kernel)) (by decide +kernel)
set_option maxRecDepth 20000 in
theorem mm_347 : Cond.selects RZY yZY_hasPart yZY_hasPart ∈ tbg := in_tables_1_2 (List.mem_of_getElem? (i := 107) (by decide +kernel)) (by decide +kernel)
set_option maxRecDepth 20000 in
theorem mm_348 : Cond.code yZY_hasPart cZY_hasPart 6 (some .boolean) ∈ tbg := in_tables_1_2 (List.mem_of_getElem? (i := 108) rfl) rfl
set_option maxRecDepth 20000 in
theorem mm_349 : Cond.methodLink RZY 48 yZY_hasPlace ∈ tbg := in_tables_1_2 (List.mem_of_getElem? (i := 109) (by decide +kernel)) (by decide +kernel)
set_option maxRecDepth 20000 in
theorem mm_350 : Cond.instanceMethod yZY_hasPlace ∈ tbg := in_tables_1_2 (List.mem_of_getElem? (i := 110) (by decide +kernel)) (by decide +kernel)
set_option maxRecDepth 20000 in
theorem mm_351 : Cond.selects RZY yZY_hasPlace yZY_hasPlace ∈ tbg := in_tables_1_2 (List.mem_of_getElem? (i := 111) (by decide +kernel)) (by decide +kernel)
set_option maxRecDepth 20000 in
theorem mm_352 : Cond.code yZY_hasPlace cZY_hasPlace 4 (some .boolean) ∈ tbg := in_tables_1_2 (List.mem_of_getElem? (i := 112) rfl) rfl
set_option maxRecDepth 20000 in
theorem mm_353 : Cond.methodLink RZY 37 yZY_hasLevel ∈ tbg := in_tables_1_2 (List.mem_of_getElem? (i := 113) (by decide +kernel)) (by decide +kernel)
set_option maxRecDepth 20000 in
theorem mm_354 : Cond.instanceMethod yZY_hasLevel ∈ tbg := in_tables_1_2 (List.mem_of_getElem? (i := 114) (by decide +kernel)) (by decide +kernel)
set_option maxRecDepth 20000 in
theorem mm_355 : Cond.selects RZY yZY_hasLevel yZY_hasLevel ∈ tbg := in_tables_1_2 (List.mem_of_getElem? (i := 115) (by decide +kernel)) (by decide +kernel)
set_option maxRecDepth 20000 in
theorem mm_356 : Cond.code yZY_hasLevel cZY_hasLevel 2 (some .boolean) ∈ tbg := in_tables_1_2 (List.mem_of_getElem? (i := 116) rfl) rfl
set_option maxRecDepth 20000 in
theorem mm_358 : Cond.methodLink RZY 41 yZY_columnsOf ∈ tbg := in_tables_1_2 (List.mem_of_getElem? (i := 118) (by decide +kernel)) (by decide +kernel)
set_option maxRecDepth 20000 in
theorem mm_359 : Cond.instanceMethod yZY_columnsOf ∈ tbg := in_tables_1_2 (List.mem_of_getElem? (i := 119) (by decide +kernel)) (by decide +kernel)
set_option maxRecDepth 20000 in
theorem mm_360 : Cond.selects RZY yZY_columnsOf yZY_columnsOf ∈ tbg := in_tables_1_2 (List.mem_of_getElem? (i := 120) (by decide +kernel)) (by decide +kernel)
set_option maxRecDepth 20000 in
theorem mm_361 : Cond.code yZY_columnsOf cZY_columnsOf 2 (some .int) ∈ tbg := in_tables_1_2 (List.mem_of_getElem? (i := 121) rfl) rfl
set_option maxRecDepth 20000 in
theorem mm_362 : Cond.methodLink RZY 55 yZY_halvedUp ∈ tbg := in_tables_1_2 (List.mem_of_getElem? (i := 122) (by decide +kernel)) (by decide +kernel)
set_option maxRecDepth 20000 in
theorem mm_363 : Cond.static yZY_halvedUp ∈ tbg := in_tables_1_2 (List.mem_of_getElem? (i := 123) (by decide +kernel)) (by decide +kernel)
set_option maxRecDepth 20000 in
theorem mm_364 : Cond.code yZY_halvedUp cZY_halvedUp 2 (some .int) ∈ tbg := in_tables_1_2 (List.mem_of_getElem? (i := 124) rfl) rfl
set_option maxRecDepth 20000 in
theorem mm_365 : Cond.methodLink RZY 45 yZY_rowsOf ∈ tbg := in_tables_1_2 (List.mem_of_getElem? (i := 125) (by decide +kernel)) (by decide +kernel)
set_option maxRecDepth 20000 in
theorem mm_366 : Cond.instanceMethod yZY_rowsOf ∈ tbg := in_tables_1_2 (List.mem_of_getElem? (i := 126) (by decide +kernel)) (by decide +kernel)
set_option maxRecDepth 20000 in
theorem mm_367 : Cond.selects RZY yZY_rowsOf yZY_rowsOf ∈ tbg := in_tables_1_2 (List.mem_of_getElem? (i := 127) (by decide +kernel)) (by decide +kernel)
set_option maxRecDepth 20000 in
theorem mm_368 : Cond.code yZY_rowsOf cZY_rowsOf 2 (some .int) ∈ tbg := in_tables_1_2 (List.mem_of_getElem? (i := 128) rfl) rfl
set_option maxRecDepth 20000 in
theorem mm_369 : Cond.methodLink RZQ 81 yZP_fillPart ∈ tbg := in_tables_1_2 (List.mem_of_getElem? (i := 129) (by decide +kernel)) (by decide +kernel)
set_option maxRecDepth 20000 in
theorem mm_370 : Cond.instanceMethod yZP_fillPart ∈ tbg := in_tables_1_2 (List.mem_of_getElem? (i := 130) (by decide +kernel)) (by decide +kernel)
set_option maxRecDepth 20000 in
theorem mm_371 : Cond.selects RZP yZP_fillPart yZP_fillPart ∈ tbg := in_tables_1_2 (List.mem_of_getElem? (i := 131) (by decide +kernel)) (by decide +kernel)
set_option maxRecDepth 20000 in
theorem mm_372 : Cond.code yZP_fillPart cZP_fillPart 8 none ∈ tbg := in_tables_1_2 (List.mem_of_getElem? (i := 132) rfl) rfl
set_option maxRecDepth 20000 in
theorem mm_373 : Cond.methodLink RZP 20 yZP_setSample ∈ tbg := in_tables_1_2 (List.mem_of_getElem? (i := 133) (by decide +kernel)) (by decide +kernel)
set_option maxRecDepth 20000 in
theorem mm_374 : Cond.methodLink RZQ 85 yZY_tilesOver ∈ tbg := in_tables_1_2 (List.mem_of_getElem? (i := 134) (by decide +kernel)) (by decide +kernel)
set_option maxRecDepth 20000 in
theorem mm_375 : Cond.instanceMethod yZY_tilesOver ∈ tbg := in_tables_1_2 (List.mem_of_getElem? (i := 135) (by decide +kernel)) (by decide +kernel)
set_option maxRecDepth 20000 in
theorem mm_376 : Cond.selects RZY yZY_tilesOver yZY_tilesOver ∈ tbg := in_tables_1_2 (List.mem_of_getElem? (i := 136) (by decide +kernel)) (by decide +kernel)
set_option maxRecDepth 20000 in
theorem mm_377 : Cond.code yZY_tilesOver cZY_tilesOver 7 (some .int) ∈ tbg := in_tables_1_2 (List.mem_of_getElem? (i := 137) rfl) rfl
set_option maxRecDepth 20000 in
theorem mm_378 : Cond.methodLink RZY 75 yZY_tilesOverSide ∈ tbg := in_tables_1_2 (List.mem_of_getElem? (i := 138) (by decide +kernel)) (by decide +kernel)
set_option maxRecDepth 20000 in
theorem mm_379 : Cond.static yZY_tilesOverSide ∈ tbg := in_tables_1_2 (List.mem_of_getElem? (i := 139) (by decide +kernel)) (by decide +kernel)
set_option maxRecDepth 20000 in
theorem mm_380 : Cond.code yZY_tilesOverSide cZY_tilesOverSide 5 (some .int) ∈ tbg := in_tables_1_2 (List.mem_of_getElem? (i := 140) rfl) rfl
set_option maxRecDepth 20000 in
theorem mm_381 : Cond.methodLink RZL 97 yZL_size ∈ tbg := in_tables_1_2 (List.mem_of_getElem? (i := 141) (by decide +kernel)) (by decide +kernel)
set_option maxRecDepth 20000 in
theorem mm_382 : Cond.static yZL_size ∈ tbg := in_tables_1_2 (List.mem_of_getElem? (i := 142) (by decide +kernel)) (by decide +kernel)
set_option maxRecDepth 20000 in
theorem mm_383 : Cond.codeWith yZL_size cZL_size 5 (some .int) [(0, 10, 13, 13)] ∈ tbg := in_tables_1_2 (List.mem_of_getElem? (i := 143) rfl) rfl
set_option maxRecDepth 20000 in
theorem mm_384 : Cond.methodLink RZL 21 yZQ_size ∈ tbg := in_tables_1_2 (List.mem_of_getElem? (i := 144) (by decide +kernel)) (by decide +kernel)
set_option maxRecDepth 20000 in
theorem mm_385 : Cond.instanceMethod yZQ_size ∈ tbg := in_tables_1_2 (List.mem_of_getElem? (i := 145) (by decide +kernel)) (by decide +kernel)
set_option maxRecDepth 20000 in
theorem mm_386 : Cond.selects RZQ yZQ_size yZQ_size ∈ tbg := in_tables_1_2 (List.mem_of_getElem? (i := 146) (by decide +kernel)) (by decide +kernel)
set_option maxRecDepth 20000 in
theorem mm_387 : Cond.code yZQ_size cZQ_size 3 (some .int) ∈ tbg := in_tables_1_2 (List.mem_of_getElem? (i := 147) rfl) rfl
set_option maxRecDepth 20000 in
theorem mm_388 : Cond.methodLink RZQ 93 yZY_hasLevel ∈ tbg := in_tables_1_2 (List.mem_of_getElem? (i := 148) (by decide +kernel)) (by decide +kernel)
set_option maxRecDepth 20000 in
theorem mm_389 : Cond.methodLink RZQ 101 yZY_columnsOf ∈ tbg := in_tables_1_2 (List.mem_of_getElem? (i := 149) (by decide +kernel)) (by decide +kernel)
set_option maxRecDepth 20000 in
theorem mm_390 : Cond.methodLink RZQ 105 yZY_rowsOf ∈ tbg := in_tables_1_2 (List.mem_of_getElem? (i := 150) (by decide +kernel)) (by decide +kernel)
set_option maxRecDepth 20000 in
theorem mm_391 : Cond.methodLink RZL 101 yZL_at ∈ tbg := in_tables_1_2 (List.mem_of_getElem? (i := 151) (by decide +kernel)) (by decide +kernel)
set_option maxRecDepth 20000 in
theorem mm_392 : Cond.static yZL_at ∈ tbg := in_tables_1_2 (List.mem_of_getElem? (i := 152) (by decide +kernel)) (by decide +kernel)
set_option maxRecDepth 20000 in
theorem mm_393 : Cond.codeWith yZL_at cZL_at 6 (some .int) [(0, 12, 15, 13)] ∈ tbg := in_tables_1_2 (List.mem_of_getElem? (i := 153) rfl) rfl
set_option maxRecDepth 20000 in
theorem mm_394 : Cond.methodLink RZL 25 yZQ_at ∈ tbg := in_tables_1_2 (List.mem_of_getElem? (i := 154) (by decide +kernel)) (by decide +kernel)
set_option maxRecDepth 20000 in
theorem mm_395 : Cond.instanceMethod yZQ_at ∈ tbg := in_tables_1_2 (List.mem_of_getElem? (i := 155) (by decide +kernel)) (by decide +kernel)
set_option maxRecDepth 20000 in
theorem mm_396 : Cond.selects RZQ yZQ_at yZQ_at ∈ tbg := in_tables_1_2 (List.mem_of_getElem? (i := 156) (by decide +kernel)) (by decide +kernel)
set_option maxRecDepth 20000 in
theorem mm_397 : Cond.code yZQ_at cZQ_at 4 (some .int) ∈ tbg := in_tables_1_2 (List.mem_of_getElem? (i := 157) rfl) rfl
set_option maxRecDepth 20000 in
theorem mm_398 : Cond.methodLink RZQ 108 yZY_hasPlace ∈ tbg := in_tables_1_2 (List.mem_of_getElem? (i := 158) (by decide +kernel)) (by decide +kernel)
set_option maxRecDepth 20000 in
theorem mm_399 : Cond.methodLink RZQ 112 yZY_roundedMean ∈ tbg := in_tables_1_2 (List.mem_of_getElem? (i := 159) (by decide +kernel)) (by decide +kernel)
set_option maxRecDepth 20000 in
theorem mm_400 : Cond.instanceMethod yZY_roundedMean ∈ tbg := in_tables_1_2 (List.mem_of_getElem? (i := 160) (by decide +kernel)) (by decide +kernel)
set_option maxRecDepth 20000 in
theorem mm_401 : Cond.selects RZY yZY_roundedMean yZY_roundedMean ∈ tbg := in_tables_1_2 (List.mem_of_getElem? (i := 161) (by decide +kernel)) (by decide +kernel)
set_option maxRecDepth 20000 in
theorem mm_402 : Cond.code yZY_roundedMean cZY_roundedMean 5 (some .int) ∈ tbg := in_tables_1_2 (List.mem_of_getElem? (i := 162) rfl) rfl
set_option maxRecDepth 20000 in
theorem mm_403 : Cond.methodLink RZY 69 yZY_countUnder ∈ tbg := in_tables_1_2 (List.mem_of_getElem? (i := 163) (by decide +kernel)) (by decide +kernel)
set_option maxRecDepth 20000 in
theorem mm_404 : Cond.instanceMethod yZY_countUnder ∈ tbg := in_tables_1_2 (List.mem_of_getElem? (i := 164) (by decide +kernel)) (by decide +kernel)
set_option maxRecDepth 20000 in
theorem mm_405 : Cond.selects RZY yZY_countUnder yZY_countUnder ∈ tbg := in_tables_1_2 (List.mem_of_getElem? (i := 165) (by decide +kernel)) (by decide +kernel)
set_option maxRecDepth 20000 in
theorem mm_406 : Cond.code yZY_countUnder cZY_countUnder 4 (some .int) ∈ tbg := in_tables_1_2 (List.mem_of_getElem? (i := 166) rfl) rfl
set_option maxRecDepth 20000 in
theorem mm_407 : Cond.methodLink RZY 61 yZY_reach ∈ tbg := in_tables_1_2 (List.mem_of_getElem? (i := 167) (by decide +kernel)) (by decide +kernel)
set_option maxRecDepth 20000 in
theorem mm_408 : Cond.static yZY_reach ∈ tbg := in_tables_1_2 (List.mem_of_getElem? (i := 168) (by decide +kernel)) (by decide +kernel)
set_option maxRecDepth 20000 in
theorem mm_409 : Cond.code yZY_reach cZY_reach 3 (some .int) ∈ tbg := in_tables_1_2 (List.mem_of_getElem? (i := 169) rfl) rfl
set_option maxRecDepth 20000 in
theorem mm_410 : Cond.methodLink RZY 58 yZJ_min ∈ tbg := in_tables_1_2 (List.mem_of_getElem? (i := 170) (by decide +kernel)) (by decide +kernel)
set_option maxRecDepth 20000 in
theorem mm_411 : Cond.methodLink RZY 72 yZY_totalUnder ∈ tbg := in_tables_1_2 (List.mem_of_getElem? (i := 171) (by decide +kernel)) (by decide +kernel)
set_option maxRecDepth 20000 in
theorem mm_412 : Cond.instanceMethod yZY_totalUnder ∈ tbg := in_tables_1_2 (List.mem_of_getElem? (i := 172) (by decide +kernel)) (by decide +kernel)
set_option maxRecDepth 20000 in
theorem mm_413 : Cond.selects RZY yZY_totalUnder yZY_totalUnder ∈ tbg := in_tables_1_2 (List.mem_of_getElem? (i := 173) (by decide +kernel)) (by decide +kernel)
set_option maxRecDepth 20000 in
theorem mm_414 : Cond.code yZY_totalUnder cZY_totalUnder 4 (some .int) ∈ tbg := in_tables_1_2 (List.mem_of_getElem? (i := 174) rfl) rfl
set_option maxRecDepth 20000 in
theorem mm_415 : Cond.methodLink RZY 65 yZP_sumOfPart ∈ tbg := in_tables_1_2 (List.mem_of_getElem? (i := 175) (by decide +kernel)) (by decide +kernel)
set_option maxRecDepth 20000 in
theorem mm_416 : Cond.instanceMethod yZP_sumOfPart ∈ tbg := in_tables_1_2 (List.mem_of_getElem? (i := 176) (by decide +kernel)) (by decide +kernel)
set_option maxRecDepth 20000 in
theorem mm_417 : Cond.selects RZP yZP_sumOfPart yZP_sumOfPart ∈ tbg := in_tables_1_2 (List.mem_of_getElem? (i := 177) (by decide +kernel)) (by decide +kernel)
set_option maxRecDepth 20000 in
theorem mm_418 : Cond.code yZP_sumOfPart cZP_sumOfPart 8 (some .int) ∈ tbg := in_tables_1_2 (List.mem_of_getElem? (i := 178) rfl) rfl
set_option maxRecDepth 20000 in
theorem mm_419 : Cond.methodLink RZP 24 yZP_sampleAt ∈ tbg := in_tables_1_2 (List.mem_of_getElem? (i := 179) (by decide +kernel)) (by decide +kernel)
set_option maxRecDepth 20000 in
theorem mm_420 : Cond.methodLink RZL 104 yZL_mean ∈ tbg := in_tables_1_2 (List.mem_of_getElem? (i := 180) (by decide +kernel)) (by decide +kernel)
set_option maxRecDepth 20000 in
theorem mm_421 : Cond.static yZL_mean ∈ tbg := in_tables_1_2 (List.mem_of_getElem? (i := 181) (by decide +kernel)) (by decide +kernel)
set_option maxRecDepth 20000 in
theorem mm_422 : Cond.codeWith yZL_mean cZL_mean 7 (some .int) [(0, 14, 17, 13)] ∈ tbg := in_tables_1_2 (List.mem_of_getElem? (i := 182) rfl) rfl
set_option maxRecDepth 20000 in
theorem mm_423 : Cond.methodLink RZL 28 yZQ_mean ∈ tbg := in_tables_1_2 (List.mem_of_getElem? (i := 183) (by decide +kernel)) (by decide +kernel)
set_option maxRecDepth 20000 in
theorem mm_424 : Cond.instanceMethod yZQ_mean ∈ tbg := in_tables_1_2 (List.mem_of_getElem? (i := 184) (by decide +kernel)) (by decide +kernel)
set_option maxRecDepth 20000 in
theorem mm_425 : Cond.selects RZQ yZQ_mean yZQ_mean ∈ tbg := in_tables_1_2 (List.mem_of_getElem? (i := 185) (by decide +kernel)) (by decide +kernel)
set_option maxRecDepth 20000 in
theorem mm_426 : Cond.code yZQ_mean cZQ_mean 8 (some .int) ∈ tbg := in_tables_1_2 (List.mem_of_getElem? (i := 186) rfl) rfl
set_option maxRecDepth 20000 in
theorem mm_427 : Cond.methodLink RZQ 116 yZY_totalUnder ∈ tbg := in_tables_1_2 (List.mem_of_getElem? (i := 187) (by decide +kernel)) (by decide +kernel)
set_option maxRecDepth 20000 in
theorem mm_428 : Cond.methodLink RZQ 119 yZY_countUnder ∈ tbg := in_tables_1_2 (List.mem_of_getElem? (i := 188) (by decide +kernel)) (by decide +kernel)
set_option maxRecDepth 20000 in
theorem mm_429 : Cond.methodLink RZQ 122 yZQ_greatestDivisor ∈ tbg := in_tables_1_2 (List.mem_of_getElem? (i := 189) (by decide +kernel)) (by decide +kernel)
set_option maxRecDepth 20000 in
theorem mm_430 : Cond.static yZQ_greatestDivisor ∈ tbg := in_tables_1_2 (List.mem_of_getElem? (i := 190) (by decide +kernel)) (by decide +kernel)
set_option maxRecDepth 20000 in
theorem mm_431 : Cond.code yZQ_greatestDivisor cZQ_greatestDivisor 6 (some .int) ∈ tbg := in_tables_1_2 (List.mem_of_getElem? (i := 191) rfl) rfl
set_option maxRecDepth 20000 in
theorem mm_432 : Cond.methodLink RZL 108 yZL_zoom ∈ tbg := in_tables_1_2 (List.mem_of_getElem? (i := 192) (by decide +kernel)) (by decide +kernel)
set_option maxRecDepth 20000 in
theorem mm_433 : Cond.static yZL_zoom ∈ tbg := in_tables_1_2 (List.mem_of_getElem? (i := 193) (by decide +kernel)) (by decide +kernel)
set_option maxRecDepth 20000 in
theorem mm_434 : Cond.codeWith yZL_zoom cZL_zoom 8 (some .int) [(0, 16, 19, 13)] ∈ tbg := in_tables_1_2 (List.mem_of_getElem? (i := 194) rfl) rfl
set_option maxRecDepth 20000 in
theorem mm_435 : Cond.methodLink RZL 32 yZQ_zoom ∈ tbg := in_tables_1_2 (List.mem_of_getElem? (i := 195) (by decide +kernel)) (by decide +kernel)
set_option maxRecDepth 20000 in
theorem mm_436 : Cond.instanceMethod yZQ_zoom ∈ tbg := in_tables_1_2 (List.mem_of_getElem? (i := 196) (by decide +kernel)) (by decide +kernel)
set_option maxRecDepth 20000 in
theorem mm_437 : Cond.selects RZQ yZQ_zoom yZQ_zoom ∈ tbg := in_tables_1_2 (List.mem_of_getElem? (i := 197) (by decide +kernel)) (by decide +kernel)
set_option maxRecDepth 20000 in
theorem mm_438 : Cond.code yZQ_zoom cZQ_zoom 9 (some .int) ∈ tbg := in_tables_1_2 (List.mem_of_getElem? (i := 198) rfl) rfl
set_option maxRecDepth 20000 in
theorem mm_439 : Cond.methodLink RZL 111 yZL_turned ∈ tbg := in_tables_1_2 (List.mem_of_getElem? (i := 199) (by decide +kernel)) (by decide +kernel)
set_option maxRecDepth 20000 in
theorem mm_440 : Cond.static yZL_turned ∈ tbg := in_tables_1_2 (List.mem_of_getElem? (i := 200) (by decide +kernel)) (by decide +kernel)
set_option maxRecDepth 20000 in
theorem mm_441 : Cond.codeWith yZL_turned cZL_turned 6 (some .int) [(0, 12, 15, 13)] ∈ tbg := in_tables_1_2 (List.mem_of_getElem? (i := 201) rfl) rfl
set_option maxRecDepth 20000 in
theorem mm_442 : Cond.methodLink RZL 35 yZQ_turned ∈ tbg := in_tables_1_2 (List.mem_of_getElem? (i := 202) (by decide +kernel)) (by decide +kernel)
set_option maxRecDepth 20000 in
theorem mm_443 : Cond.instanceMethod yZQ_turned ∈ tbg := in_tables_1_2 (List.mem_of_getElem? (i := 203) (by decide +kernel)) (by decide +kernel)
set_option maxRecDepth 20000 in
theorem mm_444 : Cond.selects RZQ yZQ_turned yZQ_turned ∈ tbg := in_tables_1_2 (List.mem_of_getElem? (i := 204) (by decide +kernel)) (by decide +kernel)
set_option maxRecDepth 20000 in
theorem mm_445 : Cond.code yZQ_turned cZQ_turned 8 (some .int) ∈ tbg := in_tables_1_2 (List.mem_of_getElem? (i := 205) rfl) rfl
set_option maxRecDepth 20000 in
theorem mm_446 : Cond.methodLink RZQ 125 yZJ_floorMod ∈ tbg := in_tables_1_2 (List.mem_of_getElem? (i := 206) (by decide +kernel)) (by decide +kernel)
set_option maxRecDepth 20000 in
theorem mm_447 : Cond.static yZJ_floorMod ∈ tbg := in_tables_1_2 (List.mem_of_getElem? (i := 207) (by decide +kernel)) (by decide +kernel)
set_option maxRecDepth 20000 in
theorem mm_448 : Cond.code yZJ_floorMod cZJ_floorMod 3 (some .int) ∈ tbg := in_tables_1_2 (List.mem_of_getElem? (i := 208) rfl) rfl
set_option maxRecDepth 20000 in
theorem mm_449 : Cond.methodLink RZL 114 yZL_pack ∈ tbg := in_tables_1_2 (List.mem_of_getElem? (i := 209) (by decide +kernel)) (by decide +kernel)
set_option maxRecDepth 20000 in
theorem mm_450 : Cond.static yZL_pack ∈ tbg := in_tables_1_2 (List.mem_of_getElem? (i := 210) (by decide +kernel)) (by decide +kernel)
set_option maxRecDepth 20000 in
theorem mm_451 : Cond.codeWith yZL_pack cZL_pack 6 (some .int) [(0, 12, 15, 13)] ∈ tbg := in_tables_1_2 (List.mem_of_getElem? (i := 211) rfl) rfl
set_option maxRecDepth 20000 in
theorem mm_452 : Cond.methodLink RZL 38 yZQ_pack ∈ tbg := in_tables_1_2 (List.mem_of_getElem? (i := 212) (by decide +kernel)) (by decide +kernel)
set_option maxRecDepth 20000 in
theorem mm_453 : Cond.instanceMethod yZQ_pack ∈ tbg := in_tables_1_2 (List.mem_of_getElem? (i := 213) (by decide +kernel)) (by decide +kernel)
set_option maxRecDepth 20000 in
theorem mm_454 : Cond.selects RZQ yZQ_pack yZQ_pack ∈ tbg := in_tables_1_2 (List.mem_of_getElem? (i := 214) (by decide +kernel)) (by decide +kernel)
set_option maxRecDepth 20000 in
theorem mm_455 : Cond.code yZQ_pack cZQ_pack 4 (some .int) ∈ tbg := in_tables_1_2 (List.mem_of_getElem? (i := 215) rfl) rfl
set_option maxRecDepth 20000 in
theorem mm_456 : Cond.methodLink RZQ 137 yZY_hasTile ∈ tbg := in_tables_1_2 (List.mem_of_getElem? (i := 216) (by decide +kernel)) (by decide +kernel)
set_option maxRecDepth 20000 in
theorem mm_457 : Cond.instanceMethod yZY_hasTile ∈ tbg := in_tables_1_2 (List.mem_of_getElem? (i := 217) (by decide +kernel)) (by decide +kernel)
set_option maxRecDepth 20000 in
theorem mm_458 : Cond.selects RZY yZY_hasTile yZY_hasTile ∈ tbg := in_tables_1_2 (List.mem_of_getElem? (i := 218) (by decide +kernel)) (by decide +kernel)
set_option maxRecDepth 20000 in
theorem mm_459 : Cond.code yZY_hasTile cZY_hasTile 4 (some .boolean) ∈ tbg := in_tables_1_2 (List.mem_of_getElem? (i := 219) rfl) rfl
set_option maxRecDepth 20000 in
theorem mm_460 : Cond.methodLink RZY 52 yZY_tilesAlong ∈ tbg := in_tables_1_2 (List.mem_of_getElem? (i := 220) (by decide +kernel)) (by decide +kernel)
set_option maxRecDepth 20000 in
theorem mm_461 : Cond.static yZY_tilesAlong ∈ tbg := in_tables_1_2 (List.mem_of_getElem? (i := 221) (by decide +kernel)) (by decide +kernel)
set_option maxRecDepth 20000 in
theorem mm_462 : Cond.code yZY_tilesAlong cZY_tilesAlong 1 (some .int) ∈ tbg := in_tables_1_2 (List.mem_of_getElem? (i := 222) rfl) rfl
set_option maxRecDepth 20000 in
theorem mm_463 : Cond.methodLink RZQ 140 yZY_cutTile ∈ tbg := in_tables_1_2 (List.mem_of_getElem? (i := 223) (by decide +kernel)) (by decide +kernel)
set_option maxRecDepth 20000 in
theorem mm_464 : Cond.instanceMethod yZY_cutTile ∈ tbg := in_tables_1_2 (List.mem_of_getElem? (i := 224) (by decide +kernel)) (by decide +kernel)
set_option maxRecDepth 20000 in
theorem mm_465 : Cond.selects RZY yZY_cutTile yZY_cutTile ∈ tbg := in_tables_1_2 (List.mem_of_getElem? (i := 225) (by decide +kernel)) (by decide +kernel)
set_option maxRecDepth 20000 in
theorem mm_466 : Cond.code yZY_cutTile cZY_cutTile 7 none ∈ tbg := in_tables_1_2 (List.mem_of_getElem? (i := 226) rfl) rfl
set_option maxRecDepth 20000 in
theorem mm_467 : Cond.methodLink RZY 78 yZY_tileColumns ∈ tbg := in_tables_1_2 (List.mem_of_getElem? (i := 227) (by decide +kernel)) (by decide +kernel)
set_option maxRecDepth 20000 in
theorem mm_468 : Cond.instanceMethod yZY_tileColumns ∈ tbg := in_tables_1_2 (List.mem_of_getElem? (i := 228) (by decide +kernel)) (by decide +kernel)
set_option maxRecDepth 20000 in
theorem mm_469 : Cond.selects RZY yZY_tileColumns yZY_tileColumns ∈ tbg := in_tables_1_2 (List.mem_of_getElem? (i := 229) (by decide +kernel)) (by decide +kernel)
set_option maxRecDepth 20000 in
theorem mm_470 : Cond.code yZY_tileColumns cZY_tileColumns 3 (some .int) ∈ tbg := in_tables_1_2 (List.mem_of_getElem? (i := 230) rfl) rfl
set_option maxRecDepth 20000 in
theorem mm_471 : Cond.methodLink RZY 81 yZY_tileRows ∈ tbg := in_tables_1_2 (List.mem_of_getElem? (i := 231) (by decide +kernel)) (by decide +kernel)
set_option maxRecDepth 20000 in
theorem mm_472 : Cond.instanceMethod yZY_tileRows ∈ tbg := in_tables_1_2 (List.mem_of_getElem? (i := 232) (by decide +kernel)) (by decide +kernel)
set_option maxRecDepth 20000 in
theorem mm_473 : Cond.selects RZY yZY_tileRows yZY_tileRows ∈ tbg := in_tables_1_2 (List.mem_of_getElem? (i := 233) (by decide +kernel)) (by decide +kernel)
set_option maxRecDepth 20000 in
theorem mm_474 : Cond.code yZY_tileRows cZY_tileRows 3 (some .int) ∈ tbg := in_tables_1_2 (List.mem_of_getElem? (i := 234) rfl) rfl
set_option maxRecDepth 20000 in
theorem mm_475 : Cond.methodLink RZY 84 yZT_setSize ∈ tbg := in_tables_1_2 (List.mem_of_getElem? (i := 235) (by decide +kernel)) (by decide +kernel)
set_option maxRecDepth 20000 in
theorem mm_476 : Cond.methodLink RZY 92 yZY_roundedMean ∈ tbg := in_tables_1_2 (List.mem_of_getElem? (i := 236) (by decide +kernel)) (by decide +kernel)
set_option maxRecDepth 20000 in
theorem mm_477 : Cond.methodLink RZY 95 yZT_setSample ∈ tbg := in_tables_1_2 (List.mem_of_getElem? (i := 237) (by decide +kernel)) (by decide +kernel)
set_option maxRecDepth 20000 in
theorem mm_478 : Cond.methodLink RZQ 144 yZK_packTile ∈ tbg := in_tables_1_2 (List.mem_of_getElem? (i := 238) (by decide +kernel)) (by decide +kernel)
set_option maxRecDepth 20000 in
theorem mm_479 : Cond.static yZK_packTile ∈ tbg := in_tables_1_2 (List.mem_of_getElem? (i := 239) (by decide +kernel)) (by decide +kernel)
set_option maxRecDepth 20000 in
theorem mm_480 : Cond.code yZK_packTile cZK_packTile 3 none ∈ tbg := in_tables_1_3 (List.mem_of_getElem? (i := 0) rfl) rfl
set_option maxRecDepth 20000 in
theorem mm_481 : Cond.methodLink RZK 20 yZB_append ∈ tbg := in_tables_1_3 (List.mem_of_getElem? (i := 1) (by decide +kernel)) (by decide +kernel)
set_option maxRecDepth 20000 in
theorem mm_482 : Cond.instanceMethod yZB_append ∈ tbg := in_tables_1_3 (List.mem_of_getElem? (i := 2) (by decide +kernel)) (by decide +kernel)
set_option maxRecDepth 20000 in
theorem mm_483 : Cond.selects RZB yZB_append yZB_append ∈ tbg := in_tables_1_3 (List.mem_of_getElem? (i := 3) (by decide +kernel)) (by decide +kernel)
set_option maxRecDepth 20000 in
theorem mm_484 : Cond.code yZB_append cZB_append 2 none ∈ tbg := in_tables_1_3 (List.mem_of_getElem? (i := 4) rfl) rfl
set_option maxRecDepth 20000 in
theorem mm_485 : Cond.methodLink RZB 19 yZB_isFull ∈ tbg := in_tables_1_3 (List.mem_of_getElem? (i := 5) (by decide +kernel)) (by decide +kernel)
set_option maxRecDepth 20000 in
theorem mm_486 : Cond.instanceMethod yZB_isFull ∈ tbg := in_tables_1_3 (List.mem_of_getElem? (i := 6) (by decide +kernel)) (by decide +kernel)
set_option maxRecDepth 20000 in
theorem mm_487 : Cond.selects RZB yZB_isFull yZB_isFull ∈ tbg := in_tables_1_3 (List.mem_of_getElem? (i := 7) (by decide +kernel)) (by decide +kernel)
set_option maxRecDepth 20000 in
theorem mm_488 : Cond.code yZB_isFull cZB_isFull 1 (some .boolean) ∈ tbg := in_tables_1_3 (List.mem_of_getElem? (i := 8) rfl) rfl
set_option maxRecDepth 20000 in
theorem mm_489 : Cond.methodLink RZK 27 yZK_packRow ∈ tbg := in_tables_1_3 (List.mem_of_getElem? (i := 9) (by decide +kernel)) (by decide +kernel)
set_option maxRecDepth 20000 in
theorem mm_490 : Cond.static yZK_packRow ∈ tbg := in_tables_1_3 (List.mem_of_getElem? (i := 10) (by decide +kernel)) (by decide +kernel)
set_option maxRecDepth 20000 in
theorem mm_491 : Cond.code yZK_packRow cZK_packRow 7 none ∈ tbg := in_tables_1_3 (List.mem_of_getElem? (i := 11) rfl) rfl
set_option maxRecDepth 20000 in
theorem mm_492 : Cond.methodLink RZK 37 yZK_greatestNumber ∈ tbg := in_tables_1_3 (List.mem_of_getElem? (i := 12) (by decide +kernel)) (by decide +kernel)
set_option maxRecDepth 20000 in
theorem mm_493 : Cond.static yZK_greatestNumber ∈ tbg := in_tables_1_3 (List.mem_of_getElem? (i := 13) (by decide +kernel)) (by decide +kernel)
set_option maxRecDepth 20000 in
theorem mm_494 : Cond.code yZK_greatestNumber cZK_greatestNumber 4 (some .int) ∈ tbg := in_tables_1_3 (List.mem_of_getElem? (i := 14) rfl) rfl
set_option maxRecDepth 20000 in
theorem mm_495 : Cond.methodLink RZK 44 yZK_numberAt ∈ tbg := in_tables_1_3 (List.mem_of_getElem? (i := 15) (by decide +kernel)) (by decide +kernel)
set_option maxRecDepth 20000 in
theorem mm_496 : Cond.static yZK_numberAt ∈ tbg := in_tables_1_3 (List.mem_of_getElem? (i := 16) (by decide +kernel)) (by decide +kernel)
set_option maxRecDepth 20000 in
theorem mm_497 : Cond.code yZK_numberAt cZK_numberAt 4 (some .int) ∈ tbg := in_tables_1_3 (List.mem_of_getElem? (i := 17) rfl) rfl
set_option maxRecDepth 20000 in
theorem mm_498 : Cond.methodLink RZK 54 yZT_sampleAt ∈ tbg := in_tables_1_3 (List.mem_of_getElem? (i := 18) (by decide +kernel)) (by decide +kernel)
set_option maxRecDepth 20000 in
theorem mm_499 : Cond.methodLink RZK 57 yZT_formerSample ∈ tbg := in_tables_1_3 (List.mem_of_getElem? (i := 19) (by decide +kernel)) (by decide +kernel)
set_option maxRecDepth 20000 in
theorem mm_500 : Cond.methodLink RZK 48 yZJ_max ∈ tbg := in_tables_1_3 (List.mem_of_getElem? (i := 20) (by decide +kernel)) (by decide +kernel)
set_option maxRecDepth 20000 in
theorem mm_502 : Cond.methodLink RZK 33 yZB_sumOfFirst ∈ tbg := in_tables_1_3 (List.mem_of_getElem? (i := 22) (by decide +kernel)) (by decide +kernel)
set_option maxRecDepth 20000 in
theorem mm_503 : Cond.methodLink RZL 117 yZL_load ∈ tbg := in_tables_1_3 (List.mem_of_getElem? (i := 23) (by decide +kernel)) (by decide +kernel)
set_option maxRecDepth 20000 in
theorem mm_504 : Cond.static yZL_load ∈ tbg := in_tables_1_3 (List.mem_of_getElem? (i := 24) (by decide +kernel)) (by decide +kernel)
set_option maxRecDepth 20000 in
theorem mm_505 : Cond.codeWith yZL_load cZL_load 4 (some .int) [(0, 9, 12, 45), (0, 9, 15, 15)] ∈ tbg := in_tables_1_3 (List.mem_of_getElem? (i := 25) rfl) rfl
set_option maxRecDepth 20000 in
theorem mm_506 : Cond.classLink RZL 45 "java/lang/IllegalStateException" ∈ tbg := in_tables_1_3 (List.mem_of_getElem? (i := 26) (by decide +kernel)) (by decide +kernel)
set_option maxRecDepth 20000 in
theorem mm_507 : Cond.methodLink RZL 41 yZQ_load ∈ tbg := in_tables_1_3 (List.mem_of_getElem? (i := 27) (by decide +kernel)) (by decide +kernel)
set_option maxRecDepth 20000 in
theorem mm_508 : Cond.instanceMethod yZQ_load ∈ tbg := in_tables_1_3 (List.mem_of_getElem? (i := 28) (by decide +kernel)) (by decide +kernel)
set_option maxRecDepth 20000 in
theorem mm_509 : Cond.selects RZQ yZQ_load yZQ_load ∈ tbg := in_tables_1_3 (List.mem_of_getElem? (i := 29) (by decide +kernel)) (by decide +kernel)
set_option maxRecDepth 20000 in
theorem mm_510 : Cond.code yZQ_load cZQ_load 2 (some .int) ∈ tbg := in_tables_1_3 (List.mem_of_getElem? (i := 30) rfl) rfl
set_option maxRecDepth 20000 in
theorem mm_511 : Cond.methodLink RZQ 153 yZB_isFull ∈ tbg := in_tables_1_3 (List.mem_of_getElem? (i := 31) (by decide +kernel)) (by decide +kernel)
set_option maxRecDepth 20000 in
theorem mm_512 : Cond.classLink RZQ 157 "java/lang/IllegalStateException" ∈ tbg := in_tables_1_3 (List.mem_of_getElem? (i := 32) (by decide +kernel)) (by decide +kernel)
set_option maxRecDepth 20000 in
theorem mm_513 : Cond.instantiable "java/lang/IllegalStateException" 6 ∈ tbg := in_tables_1_3 (List.mem_of_getElem? (i := 33) (by decide +kernel)) (by decide +kernel)
set_option maxRecDepth 20000 in
theorem mm_515 : Cond.selects "java/lang/IllegalStateException" ⟨"java/lang/Throwable", "fillInStackTrace", "(I)Ljava/lang/Throwable;"⟩ ⟨"java/lang/Throwable", "fillInStackTrace", "(I)Ljava/lang/Throwable;"⟩ ∈ tbg := in_tables_1_3 (List.mem_of_getElem? (i := 35) (by decide +kernel)) (by decide +kernel)
set_option maxRecDepth 20000 in
theorem mm_516 : Cond.lays "java/lang/IllegalStateException" "java/lang/Throwable" "cause" "Ljava/lang/Throwable;" ∈ tbg := in_tables_1_3 (List.mem_of_getElem? (i := 36) (by decide +kernel)) (by decide +kernel)
set_option maxRecDepth 20000 in
theorem mm_517 : Cond.lays "java/lang/IllegalStateException" "java/lang/Throwable" "stackTrace" "[Ljava/lang/StackTraceElement;" ∈ tbg := in_tables_1_3 (List.mem_of_getElem? (i := 37) (by decide +kernel)) (by decide +kernel)
set_option maxRecDepth 20000 in
theorem mm_518 : Cond.lays "java/lang/IllegalStateException" "java/lang/Throwable" "suppressedExceptions" "Ljava/util/List;" ∈ tbg := in_tables_1_3 (List.mem_of_getElem? (i := 38) (by decide +kernel)) (by decide +kernel)
set_option maxRecDepth 20000 in
theorem mm_519 : Cond.lays "java/lang/IllegalStateException" "java/lang/Throwable" "detailMessage" "Ljava/lang/String;" ∈ tbg := in_tables_1_3 (List.mem_of_getElem? (i := 39) (by decide +kernel)) (by decide +kernel)
set_option maxRecDepth 20000 in
theorem mm_520 : Cond.lays "java/lang/IllegalStateException" "java/lang/Throwable" "backtrace" "Ljava/lang/Object;" ∈ tbg := in_tables_1_3 (List.mem_of_getElem? (i := 40) (by decide +kernel)) (by decide +kernel)
set_option maxRecDepth 20000 in
theorem mm_522 : Cond.methodLink RZQ 161 ⟨"java/lang/IllegalStateException", "<init>", "(Ljava/lang/String;)V"⟩ ∈ tbg := in_tables_1_3 (List.mem_of_getElem? (i := 42) (by decide +kernel)) (by decide +kernel)
set_option maxRecDepth 20000 in
theorem mm_523 : Cond.instanceMethod ⟨"java/lang/IllegalStateException", "<init>", "(Ljava/lang/String;)V"⟩ ∈ tbg := in_tables_1_3 (List.mem_of_getElem? (i := 43) (by decide +kernel)) (by decide +kernel)
set_option maxRecDepth 20000 in
theorem mm_524 : Cond.code ⟨"java/lang/IllegalStateException", "<init>", "(Ljava/lang/String;)V"⟩ prog_13_method_2_code 2 none ∈ tbg := in_tables_1_3 (List.mem_of_getElem? (i := 44) rfl) rfl
set_option maxRecDepth 20000 in
theorem mm_525 : Cond.methodLink "java/lang/IllegalStateException" 7 ⟨"java/lang/RuntimeException", "<init>", "(Ljava/lang/String;)V"⟩ ∈ tbg := in_tables_1_3 (List.mem_of_getElem? (i := 45) (by decide +kernel)) (by decide +kernel)
set_option maxRecDepth 20000 in
theorem mm_526 : Cond.lays "java/lang/IllegalStateException" "java/lang/Throwable" "depth" "I" ∈ tbg := in_tables_1_3 (List.mem_of_getElem? (i := 46) (by decide +kernel)) (by decide +kernel)
set_option maxRecDepth 20000 in
theorem mm_527 : Cond.superclass "java/lang/IllegalStateException" "java/lang/RuntimeException" ∈ tbg := in_tables_1_3 (List.mem_of_getElem? (i := 47) (by decide +kernel)) (by decide +kernel)
set_option maxRecDepth 20000 in
theorem mm_529 : Cond.methodLink RZQ 169 yZB_append ∈ tbg := in_tables_1_3 (List.mem_of_getElem? (i := 49) (by decide +kernel)) (by decide +kernel)
set_option maxRecDepth 20000 in
theorem mm_530 : Cond.methodLink RZL 125 yZL_byteAt ∈ tbg := in_tables_1_3 (List.mem_of_getElem? (i := 50) (by decide +kernel)) (by decide +kernel)
set_option maxRecDepth 20000 in
theorem mm_531 : Cond.static yZL_byteAt ∈ tbg := in_tables_1_3 (List.mem_of_getElem? (i := 51) (by decide +kernel)) (by decide +kernel)
set_option maxRecDepth 20000 in
theorem mm_532 : Cond.codeWith yZL_byteAt cZL_byteAt 4 (some .int) [(0, 9, 12, 13)] ∈ tbg := in_tables_1_3 (List.mem_of_getElem? (i := 52) rfl) rfl
set_option maxRecDepth 20000 in
theorem mm_533 : Cond.methodLink RZL 47 yZQ_byteAt ∈ tbg := in_tables_1_3 (List.mem_of_getElem? (i := 53) (by decide +kernel)) (by decide +kernel)
set_option maxRecDepth 20000 in
theorem mm_534 : Cond.instanceMethod yZQ_byteAt ∈ tbg := in_tables_1_3 (List.mem_of_getElem? (i := 54) (by decide +kernel)) (by decide +kernel)
set_option maxRecDepth 20000 in
theorem mm_535 : Cond.selects RZQ yZQ_byteAt yZQ_byteAt ∈ tbg := in_tables_1_3 (List.mem_of_getElem? (i := 55) (by decide +kernel)) (by decide +kernel)
set_option maxRecDepth 20000 in
theorem mm_536 : Cond.code yZQ_byteAt cZQ_byteAt 2 (some .int) ∈ tbg := in_tables_1_3 (List.mem_of_getElem? (i := 56) rfl) rfl
set_option maxRecDepth 20000 in
theorem mm_537 : Cond.methodLink RZL 128 yZL_poke ∈ tbg := in_tables_1_3 (List.mem_of_getElem? (i := 57) (by decide +kernel)) (by decide +kernel)
set_option maxRecDepth 20000 in
theorem mm_538 : Cond.static yZL_poke ∈ tbg := in_tables_1_3 (List.mem_of_getElem? (i := 58) (by decide +kernel)) (by decide +kernel)
set_option maxRecDepth 20000 in
theorem mm_539 : Cond.codeWith yZL_poke cZL_poke 5 (some .int) [(0, 10, 13, 13), (0, 10, 17, 15)] ∈ tbg := in_tables_1_3 (List.mem_of_getElem? (i := 59) rfl) rfl
set_option maxRecDepth 20000 in
theorem mm_540 : Cond.methodLink RZL 50 yZQ_poke ∈ tbg := in_tables_1_3 (List.mem_of_getElem? (i := 60) (by decide +kernel)) (by decide +kernel)
set_option maxRecDepth 20000 in
theorem mm_541 : Cond.instanceMethod yZQ_poke ∈ tbg := in_tables_1_3 (List.mem_of_getElem? (i := 61) (by decide +kernel)) (by decide +kernel)
set_option maxRecDepth 20000 in
theorem mm_542 : Cond.selects RZQ yZQ_poke yZQ_poke ∈ tbg := in_tables_1_3 (List.mem_of_getElem? (i := 62) (by decide +kernel)) (by decide +kernel)
set_option maxRecDepth 20000 in
theorem mm_543 : Cond.code yZQ_poke cZQ_poke 3 (some .int) ∈ tbg := in_tables_1_3 (List.mem_of_getElem? (i := 63) rfl) rfl
set_option maxRecDepth 20000 in
theorem mm_545 : Cond.methodLink RZL 135 yZL_opened ∈ tbg := in_tables_1_3 (List.mem_of_getElem? (i := 65) (by decide +kernel)) (by decide +kernel)
set_option maxRecDepth 20000 in
theorem mm_546 : Cond.static yZL_opened ∈ tbg := in_tables_1_3 (List.mem_of_getElem? (i := 66) (by decide +kernel)) (by decide +kernel)
set_option maxRecDepth 20000 in
theorem mm_547 : Cond.codeWith yZL_opened cZL_opened 4 (some .int) [(0, 9, 12, 13)] ∈ tbg := in_tables_1_3 (List.mem_of_getElem? (i := 67) rfl) rfl
set_option maxRecDepth 20000 in
theorem mm_548 : Cond.methodLink RZL 53 yZQ_opened ∈ tbg := in_tables_1_3 (List.mem_of_getElem? (i := 68) (by decide +kernel)) (by decide +kernel)
set_option maxRecDepth 20000 in
theorem mm_549 : Cond.instanceMethod yZQ_opened ∈ tbg := in_tables_1_3 (List.mem_of_getElem? (i := 69) (by decide +kernel)) (by decide +kernel)
set_option maxRecDepth 20000 in
theorem mm_550 : Cond.selects RZQ yZQ_opened yZQ_opened ∈ tbg := in_tables_1_3 (List.mem_of_getElem? (i := 70) (by decide +kernel)) (by decide +kernel)
set_option maxRecDepth 20000 in
theorem mm_551 : Cond.code yZQ_opened cZQ_opened 2 (some .int) ∈ tbg := in_tables_1_3 (List.mem_of_getElem? (i := 71) rfl) rfl
set_option maxRecDepth 20000 in
theorem mm_552 : Cond.methodLink RZL 138 yZL_restore ∈ tbg := in_tables_1_3 (List.mem_of_getElem? (i := 72) (by decide +kernel)) (by decide +kernel)
set_option maxRecDepth 20000 in
theorem mm_553 : Cond.static yZL_restore ∈ tbg := in_tables_1_3 (List.mem_of_getElem? (i := 73) (by decide +kernel)) (by decide +kernel)
set_option maxRecDepth 20000 in
theorem mm_554 : Cond.codeWith yZL_restore cZL_restore 5 (some .int) [(0, 17, 20, 13), (0, 17, 24, 45)] ∈ tbg := in_tables_1_3 (List.mem_of_getElem? (i := 74) rfl) rfl
set_option maxRecDepth 20000 in
theorem mm_555 : Cond.methodLink RZL 56 yZQ_restore ∈ tbg := in_tables_1_3 (List.mem_of_getElem? (i := 75) (by decide +kernel)) (by decide +kernel)
set_option maxRecDepth 20000 in
theorem mm_556 : Cond.instanceMethod yZQ_restore ∈ tbg := in_tables_1_3 (List.mem_of_getElem? (i := 76) (by decide +kernel)) (by decide +kernel)
set_option maxRecDepth 20000 in
theorem mm_557 : Cond.selects RZQ yZQ_restore yZQ_restore ∈ tbg := in_tables_1_3 (List.mem_of_getElem? (i := 77) (by decide +kernel)) (by decide +kernel)
set_option maxRecDepth 20000 in
theorem mm_558 : Cond.code yZQ_restore cZQ_restore 4 (some .boolean) ∈ tbg := in_tables_1_3 (List.mem_of_getElem? (i := 78) rfl) rfl
set_option maxRecDepth 20000 in
theorem mm_560 : Cond.methodLink RZQ 198 yZY_tileColumns ∈ tbg := in_tables_1_3 (List.mem_of_getElem? (i := 80) (by decide +kernel)) (by decide +kernel)
set_option maxRecDepth 20000 in
theorem mm_561 : Cond.methodLink RZQ 202 yZY_tileRows ∈ tbg := in_tables_1_3 (List.mem_of_getElem? (i := 81) (by decide +kernel)) (by decide +kernel)
set_option maxRecDepth 20000 in
theorem mm_562 : Cond.methodLink RZQ 205 yZY_layTile ∈ tbg := in_tables_1_3 (List.mem_of_getElem? (i := 82) (by decide +kernel)) (by decide +kernel)
set_option maxRecDepth 20000 in
theorem mm_563 : Cond.instanceMethod yZY_layTile ∈ tbg := in_tables_1_3 (List.mem_of_getElem? (i := 83) (by decide +kernel)) (by decide +kernel)
set_option maxRecDepth 20000 in
theorem mm_564 : Cond.selects RZY yZY_layTile yZY_layTile ∈ tbg := in_tables_1_3 (List.mem_of_getElem? (i := 84) (by decide +kernel)) (by decide +kernel)
set_option maxRecDepth 20000 in
theorem mm_565 : Cond.code yZY_layTile cZY_layTile 6 none ∈ tbg := in_tables_1_3 (List.mem_of_getElem? (i := 85) rfl) rfl
set_option maxRecDepth 20000 in
theorem mm_566 : Cond.methodLink RZY 99 yZT_sampleAt ∈ tbg := in_tables_1_3 (List.mem_of_getElem? (i := 86) (by decide +kernel)) (by decide +kernel)
set_option maxRecDepth 20000 in
theorem mm_567 : Cond.methodLink RZY 102 yZP_setSample ∈ tbg := in_tables_1_3 (List.mem_of_getElem? (i := 87) (by decide +kernel)) (by decide +kernel)
set_option maxRecDepth 20000 in
theorem mm_568 : Cond.methodLink RZL 141 yZL_strip ∈ tbg := in_tables_1_3 (List.mem_of_getElem? (i := 88) (by decide +kernel)) (by decide +kernel)
set_option maxRecDepth 20000 in
theorem mm_569 : Cond.static yZL_strip ∈ tbg := in_tables_1_3 (List.mem_of_getElem? (i := 89) (by decide +kernel)) (by decide +kernel)
set_option maxRecDepth 20000 in
theorem mm_570 : Cond.codeWith yZL_strip cZL_strip 6 (some .int) [(0, 12, 15, 13), (0, 12, 19, 15)] ∈ tbg := in_tables_1_3 (List.mem_of_getElem? (i := 90) rfl) rfl
set_option maxRecDepth 20000 in
theorem mm_571 : Cond.methodLink RZL 60 yZQ_strip ∈ tbg := in_tables_1_3 (List.mem_of_getElem? (i := 91) (by decide +kernel)) (by decide +kernel)
set_option maxRecDepth 20000 in
theorem mm_572 : Cond.instanceMethod yZQ_strip ∈ tbg := in_tables_1_3 (List.mem_of_getElem? (i := 92) (by decide +kernel)) (by decide +kernel)
set_option maxRecDepth 20000 in
theorem mm_573 : Cond.selects RZQ yZQ_strip yZQ_strip ∈ tbg := in_tables_1_3 (List.mem_of_getElem? (i := 93) (by decide +kernel)) (by decide +kernel)
set_option maxRecDepth 20000 in
theorem mm_574 : Cond.code yZQ_strip cZQ_strip 4 (some .int) ∈ tbg := in_tables_1_3 (List.mem_of_getElem? (i := 94) rfl) rfl
set_option maxRecDepth 20000 in
theorem mm_575 : Cond.methodLink RZL 144 yZL_seam ∈ tbg := in_tables_1_3 (List.mem_of_getElem? (i := 95) (by decide +kernel)) (by decide +kernel)
set_option maxRecDepth 20000 in
theorem mm_576 : Cond.static yZL_seam ∈ tbg := in_tables_1_3 (List.mem_of_getElem? (i := 96) (by decide +kernel)) (by decide +kernel)
set_option maxRecDepth 20000 in
theorem mm_577 : Cond.codeWith yZL_seam cZL_seam 4 (some .int) [(0, 9, 12, 15)] ∈ tbg := in_tables_1_3 (List.mem_of_getElem? (i := 97) rfl) rfl
set_option maxRecDepth 20000 in
theorem mm_578 : Cond.methodLink RZL 63 yZQ_seam ∈ tbg := in_tables_1_3 (List.mem_of_getElem? (i := 98) (by decide +kernel)) (by decide +kernel)
set_option maxRecDepth 20000 in
theorem mm_579 : Cond.instanceMethod yZQ_seam ∈ tbg := in_tables_1_3 (List.mem_of_getElem? (i := 99) (by decide +kernel)) (by decide +kernel)
set_option maxRecDepth 20000 in
theorem mm_580 : Cond.selects RZQ yZQ_seam yZQ_seam ∈ tbg := in_tables_1_3 (List.mem_of_getElem? (i := 100) (by decide +kernel)) (by decide +kernel)
set_option maxRecDepth 20000 in
theorem mm_581 : Cond.code yZQ_seam cZQ_seam 2 (some .int) ∈ tbg := in_tables_1_3 (List.mem_of_getElem? (i := 101) rfl) rfl
set_option maxRecDepth 20000 in
theorem mm_583 : Cond.methodLink RZQ 211 yZS_findLeast ∈ tbg := in_tables_1_3 (List.mem_of_getElem? (i := 103) (by decide +kernel)) (by decide +kernel)
set_option maxRecDepth 20000 in
theorem mm_584 : Cond.instanceMethod yZS_findLeast ∈ tbg := in_tables_1_3 (List.mem_of_getElem? (i := 104) (by decide +kernel)) (by decide +kernel)
set_option maxRecDepth 20000 in
theorem mm_585 : Cond.selects RZS yZS_findLeast yZS_findLeast ∈ tbg := in_tables_1_3 (List.mem_of_getElem? (i := 105) (by decide +kernel)) (by decide +kernel)
set_option maxRecDepth 20000 in
theorem mm_586 : Cond.code yZS_findLeast cZS_findLeast 4 (some .int) ∈ tbg := in_tables_1_3 (List.mem_of_getElem? (i := 106) rfl) rfl
set_option maxRecDepth 20000 in
theorem mm_587 : Cond.methodLink RZS 31 yZS_addUpRow ∈ tbg := in_tables_1_3 (List.mem_of_getElem? (i := 107) (by decide +kernel)) (by decide +kernel)
set_option maxRecDepth 20000 in
theorem mm_589 : Cond.instanceMethod yZS_addUpRow ∈ tbg := in_tables_1_3 (List.mem_of_getElem? (i := 109) (by decide +kernel)) (by decide +kernel)
set_option maxRecDepth 20000 in
theorem mm_590 : Cond.code yZS_addUpRow cZS_addUpRow 7 none ∈ tbg := in_tables_1_3 (List.mem_of_getElem? (i := 110) rfl) rfl
set_option maxRecDepth 20000 in
theorem mm_591 : Cond.methodLink RZS 46 yZP_sampleAt ∈ tbg := in_tables_1_3 (List.mem_of_getElem? (i := 111) (by decide +kernel)) (by decide +kernel)
set_option maxRecDepth 20000 in
theorem mm_592 : Cond.methodLink RZS 39 yZS_cheapestNear ∈ tbg := in_tables_1_3 (List.mem_of_getElem? (i := 112) (by decide +kernel)) (by decide +kernel)
set_option maxRecDepth 20000 in
theorem mm_594 : Cond.instanceMethod yZS_cheapestNear ∈ tbg := in_tables_1_3 (List.mem_of_getElem? (i := 114) (by decide +kernel)) (by decide +kernel)
set_option maxRecDepth 20000 in
theorem mm_595 : Cond.code yZS_cheapestNear cZS_cheapestNear 4 (some .int) ∈ tbg := in_tables_1_3 (List.mem_of_getElem? (i := 115) rfl) rfl
set_option maxRecDepth 20000 in
theorem mm_596 : Cond.methodLink RZS 53 yZJ_max ∈ tbg := in_tables_1_3 (List.mem_of_getElem? (i := 116) (by decide +kernel)) (by decide +kernel)
set_option maxRecDepth 20000 in
theorem mm_597 : Cond.methodLink RZS 58 yZJ_min ∈ tbg := in_tables_1_3 (List.mem_of_getElem? (i := 117) (by decide +kernel)) (by decide +kernel)
set_option maxRecDepth 20000 in
theorem mm_598 : Cond.methodLink RZS 35 yZS_cheapest ∈ tbg := in_tables_1_3 (List.mem_of_getElem? (i := 118) (by decide +kernel)) (by decide +kernel)
set_option maxRecDepth 20000 in
theorem mm_600 : Cond.instanceMethod yZS_cheapest ∈ tbg := in_tables_1_3 (List.mem_of_getElem? (i := 120) (by decide +kernel)) (by decide +kernel)
set_option maxRecDepth 20000 in
theorem mm_601 : Cond.code yZS_cheapest cZS_cheapest 6 (some .int) ∈ tbg := in_tables_1_3 (List.mem_of_getElem? (i := 121) rfl) rfl
set_option maxRecDepth 20000 in
theorem mm_602 : Cond.methodLink RZL 147 yZL_seamAt ∈ tbg := in_tables_1_3 (List.mem_of_getElem? (i := 122) (by decide +kernel)) (by decide +kernel)
set_option maxRecDepth 20000 in
theorem mm_603 : Cond.static yZL_seamAt ∈ tbg := in_tables_1_3 (List.mem_of_getElem? (i := 123) (by decide +kernel)) (by decide +kernel)
set_option maxRecDepth 20000 in
theorem mm_604 : Cond.codeWith yZL_seamAt cZL_seamAt 4 (some .int) [(0, 9, 12, 13)] ∈ tbg := in_tables_1_3 (List.mem_of_getElem? (i := 124) rfl) rfl
set_option maxRecDepth 20000 in
theorem mm_605 : Cond.methodLink RZL 66 yZQ_seamAt ∈ tbg := in_tables_1_3 (List.mem_of_getElem? (i := 125) (by decide +kernel)) (by decide +kernel)
set_option maxRecDepth 20000 in
theorem mm_606 : Cond.instanceMethod yZQ_seamAt ∈ tbg := in_tables_1_3 (List.mem_of_getElem? (i := 126) (by decide +kernel)) (by decide +kernel)
set_option maxRecDepth 20000 in
theorem mm_607 : Cond.selects RZQ yZQ_seamAt yZQ_seamAt ∈ tbg := in_tables_1_3 (List.mem_of_getElem? (i := 127) (by decide +kernel)) (by decide +kernel)
set_option maxRecDepth 20000 in
theorem mm_608 : Cond.code yZQ_seamAt cZQ_seamAt 2 (some .int) ∈ tbg := in_tables_1_3 (List.mem_of_getElem? (i := 128) rfl) rfl
set_option maxRecDepth 20000 in
theorem mm_609 : Cond.classLink RZL 78 RZM ∈ tbg := in_tables_1_3 (List.mem_of_getElem? (i := 129) (by decide +kernel)) (by decide +kernel)
set_option maxRecDepth 20000 in
theorem mm_610 : Cond.instantiable RZM 19 ∈ tbg := in_tables_1_3 (List.mem_of_getElem? (i := 130) (by decide +kernel)) (by decide +kernel)
set_option maxRecDepth 20000 in
theorem mm_611 : Cond.methodLink RZL 80 yZM_init ∈ tbg := in_tables_1_3 (List.mem_of_getElem? (i := 131) (by decide +kernel)) (by decide +kernel)
set_option maxRecDepth 20000 in
theorem mm_612 : Cond.instanceMethod yZM_init ∈ tbg := in_tables_1_3 (List.mem_of_getElem? (i := 132) (by decide +kernel)) (by decide +kernel)
set_option maxRecDepth 20000 in
theorem mm_613 : Cond.code yZM_init cZM_init 3 none ∈ tbg := in_tables_1_3 (List.mem_of_getElem? (i := 133) rfl) rfl
set_option maxRecDepth 20000 in
theorem mm_614 : Cond.methodLink RZM 1 objectInit ∈ tbg := in_tables_1_3 (List.mem_of_getElem? (i := 134) (by decide +kernel)) (by decide +kernel)
set_option maxRecDepth 20000 in
theorem mm_615 : Cond.methodLink RZM 34 yZM_held ∈ tbg := in_tables_1_3 (List.mem_of_getElem? (i := 135) (by decide +kernel)) (by decide +kernel)
set_option maxRecDepth 20000 in
theorem mm_616 : Cond.static yZM_held ∈ tbg := in_tables_1_3 (List.mem_of_getElem? (i := 136) (by decide +kernel)) (by decide +kernel)
set_option maxRecDepth 20000 in
theorem mm_617 : Cond.code yZM_held cZM_held 1 (some .int) ∈ tbg := in_tables_1_3 (List.mem_of_getElem? (i := 137) rfl) rfl
set_option maxRecDepth 20000 in
theorem mm_618 : Cond.fieldLink RZM 45 "TilePyramidModel" "thrown" "I" ∈ tbg := in_tables_1_3 (List.mem_of_getElem? (i := 138) (by decide +kernel)) (by decide +kernel)
set_option maxRecDepth 20000 in
theorem mm_619 : Cond.fieldLink RZM 38 "TilePyramidModel" "width" "I" ∈ tbg := in_tables_1_3 (List.mem_of_getElem? (i := 139) (by decide +kernel)) (by decide +kernel)
set_option maxRecDepth 20000 in
theorem mm_620 : Cond.fieldLink RZM 42 "TilePyramidModel" "height" "I" ∈ tbg := in_tables_1_3 (List.mem_of_getElem? (i := 140) (by decide +kernel)) (by decide +kernel)
set_option maxRecDepth 20000 in
theorem mm_621 : Cond.fieldLink RZM 7 "TilePyramidModel" "picture" "[I" ∈ tbg := in_tables_1_3 (List.mem_of_getElem? (i := 141) (by decide +kernel)) (by decide +kernel)
set_option maxRecDepth 20000 in
theorem mm_622 : Cond.fieldLink RZM 13 "TilePyramidModel" "strip" "[I" ∈ tbg := in_tables_1_3 (List.mem_of_getElem? (i := 142) (by decide +kernel)) (by decide +kernel)
set_option maxRecDepth 20000 in
theorem mm_623 : Cond.fieldLink RZM 16 "TilePyramidModel" "buffer" "[I" ∈ tbg := in_tables_1_3 (List.mem_of_getElem? (i := 143) (by decide +kernel)) (by decide +kernel)
set_option maxRecDepth 20000 in
theorem mm_624 : Cond.fieldLink RZM 101 "TilePyramidModel" "size" "I" ∈ tbg := in_tables_1_3 (List.mem_of_getElem? (i := 144) (by decide +kernel)) (by decide +kernel)
set_option maxRecDepth 20000 in
theorem mm_625 : Cond.fieldLink RZM 19 "TilePyramidModel" "tile" "[I" ∈ tbg := in_tables_1_3 (List.mem_of_getElem? (i := 145) (by decide +kernel)) (by decide +kernel)
set_option maxRecDepth 20000 in
theorem mm_626 : Cond.fieldLink RZM 22 "TilePyramidModel" "opening" "[I" ∈ tbg := in_tables_1_3 (List.mem_of_getElem? (i := 146) (by decide +kernel)) (by decide +kernel)
set_option maxRecDepth 20000 in
theorem mm_627 : Cond.fieldLink RZM 138 "TilePyramidModel" "columns" "I" ∈ tbg := in_tables_1_3 (List.mem_of_getElem? (i := 147) (by decide +kernel)) (by decide +kernel)
set_option maxRecDepth 20000 in
theorem mm_628 : Cond.fieldLink RZM 144 "TilePyramidModel" "rows" "I" ∈ tbg := in_tables_1_3 (List.mem_of_getElem? (i := 148) (by decide +kernel)) (by decide +kernel)
set_option maxRecDepth 20000 in
theorem mm_629 : Cond.fieldLink RZM 150 "TilePyramidModel" "tileColumns" "I" ∈ tbg := in_tables_1_3 (List.mem_of_getElem? (i := 149) (by decide +kernel)) (by decide +kernel)
set_option maxRecDepth 20000 in
theorem mm_630 : Cond.fieldLink RZM 153 "TilePyramidModel" "tileRows" "I" ∈ tbg := in_tables_1_3 (List.mem_of_getElem? (i := 150) (by decide +kernel)) (by decide +kernel)
set_option maxRecDepth 20000 in
theorem mm_631 : Cond.fieldLink RZM 135 "TilePyramidModel" "place" "I" ∈ tbg := in_tables_1_3 (List.mem_of_getElem? (i := 151) (by decide +kernel)) (by decide +kernel)
set_option maxRecDepth 20000 in
theorem mm_632 : Cond.fieldLink RZM 25 "TilePyramidModel" "costs" "[I" ∈ tbg := in_tables_1_3 (List.mem_of_getElem? (i := 152) (by decide +kernel)) (by decide +kernel)
set_option maxRecDepth 20000 in
theorem mm_633 : Cond.fieldLink RZM 28 "TilePyramidModel" "seams" "[I" ∈ tbg := in_tables_1_3 (List.mem_of_getElem? (i := 153) (by decide +kernel)) (by decide +kernel)
set_option maxRecDepth 20000 in
theorem mm_634 : Cond.fieldLink RZM 166 "TilePyramidModel" "hasSeam" "Z" ∈ tbg := in_tables_1_3 (List.mem_of_getElem? (i := 154) (by decide +kernel)) (by decide +kernel)
set_option maxRecDepth 20000 in
theorem mm_635 : Cond.fieldLink RZM 31 "TilePyramidModel" "packing" "[I" ∈ tbg := in_tables_1_3 (List.mem_of_getElem? (i := 155) (by decide +kernel)) (by decide +kernel)
set_option maxRecDepth 20000 in
theorem mm_636 : Cond.lays "TilePyramidModel" "TilePyramidModel" "thrown" "I" ∈ tbg := in_tables_1_3 (List.mem_of_getElem? (i := 156) (by decide +kernel)) (by decide +kernel)
set_option maxRecDepth 20000 in
theorem mm_637 : Cond.soleField "TilePyramidModel" "thrown" ∈ tbg := in_tables_1_3 (List.mem_of_getElem? (i := 157) (by decide +kernel)) (by decide +kernel)
set_option maxRecDepth 20000 in
theorem mm_638 : Cond.laysFinal "TilePyramidModel" "TilePyramidModel" "width" "I" ∈ tbg := in_tables_1_3 (List.mem_of_getElem? (i := 158) (by decide +kernel)) (by decide +kernel)
set_option maxRecDepth 20000 in
theorem mm_639 : Cond.soleField "TilePyramidModel" "width" ∈ tbg := in_tables_1_3 (List.mem_of_getElem? (i := 159) (by decide +kernel)) (by decide +kernel)
set_option maxRecDepth 20000 in
theorem mm_640 : Cond.laysFinal "TilePyramidModel" "TilePyramidModel" "height" "I" ∈ tbg := in_tables_1_3 (List.mem_of_getElem? (i := 160) (by decide +kernel)) (by decide +kernel)
set_option maxRecDepth 20000 in
theorem mm_641 : Cond.soleField "TilePyramidModel" "height" ∈ tbg := in_tables_1_3 (List.mem_of_getElem? (i := 161) (by decide +kernel)) (by decide +kernel)
set_option maxRecDepth 20000 in
theorem mm_642 : Cond.laysFinal "TilePyramidModel" "TilePyramidModel" "picture" "[I" ∈ tbg := in_tables_1_3 (List.mem_of_getElem? (i := 162) (by decide +kernel)) (by decide +kernel)
set_option maxRecDepth 20000 in
theorem mm_643 : Cond.soleField "TilePyramidModel" "picture" ∈ tbg := in_tables_1_3 (List.mem_of_getElem? (i := 163) (by decide +kernel)) (by decide +kernel)
set_option maxRecDepth 20000 in
theorem mm_644 : Cond.laysFinal "TilePyramidModel" "TilePyramidModel" "strip" "[I" ∈ tbg := in_tables_1_3 (List.mem_of_getElem? (i := 164) (by decide +kernel)) (by decide +kernel)
set_option maxRecDepth 20000 in
theorem mm_645 : Cond.soleField "TilePyramidModel" "strip" ∈ tbg := in_tables_1_3 (List.mem_of_getElem? (i := 165) (by decide +kernel)) (by decide +kernel)
set_option maxRecDepth 20000 in
theorem mm_646 : Cond.laysFinal "TilePyramidModel" "TilePyramidModel" "buffer" "[I" ∈ tbg := in_tables_1_3 (List.mem_of_getElem? (i := 166) (by decide +kernel)) (by decide +kernel)
set_option maxRecDepth 20000 in
theorem mm_647 : Cond.soleField "TilePyramidModel" "buffer" ∈ tbg := in_tables_1_3 (List.mem_of_getElem? (i := 167) (by decide +kernel)) (by decide +kernel)
set_option maxRecDepth 20000 in
theorem mm_648 : Cond.lays "TilePyramidModel" "TilePyramidModel" "size" "I" ∈ tbg := in_tables_1_3 (List.mem_of_getElem? (i := 168) (by decide +kernel)) (by decide +kernel)
set_option maxRecDepth 20000 in
theorem mm_649 : Cond.soleField "TilePyramidModel" "size" ∈ tbg := in_tables_1_3 (List.mem_of_getElem? (i := 169) (by decide +kernel)) (by decide +kernel)
set_option maxRecDepth 20000 in
theorem mm_650 : Cond.laysFinal "TilePyramidModel" "TilePyramidModel" "tile" "[I" ∈ tbg := in_tables_1_3 (List.mem_of_getElem? (i := 170) (by decide +kernel)) (by decide +kernel)
set_option maxRecDepth 20000 in
theorem mm_651 : Cond.soleField "TilePyramidModel" "tile" ∈ tbg := in_tables_1_3 (List.mem_of_getElem? (i := 171) (by decide +kernel)) (by decide +kernel)
set_option maxRecDepth 20000 in
theorem mm_652 : Cond.laysFinal "TilePyramidModel" "TilePyramidModel" "opening" "[I" ∈ tbg := in_tables_1_3 (List.mem_of_getElem? (i := 172) (by decide +kernel)) (by decide +kernel)
set_option maxRecDepth 20000 in
theorem mm_653 : Cond.soleField "TilePyramidModel" "opening" ∈ tbg := in_tables_1_3 (List.mem_of_getElem? (i := 173) (by decide +kernel)) (by decide +kernel)
set_option maxRecDepth 20000 in
theorem mm_654 : Cond.lays "TilePyramidModel" "TilePyramidModel" "columns" "I" ∈ tbg := in_tables_1_3 (List.mem_of_getElem? (i := 174) (by decide +kernel)) (by decide +kernel)
set_option maxRecDepth 20000 in
theorem mm_655 : Cond.soleField "TilePyramidModel" "columns" ∈ tbg := in_tables_1_3 (List.mem_of_getElem? (i := 175) (by decide +kernel)) (by decide +kernel)
set_option maxRecDepth 20000 in
theorem mm_656 : Cond.lays "TilePyramidModel" "TilePyramidModel" "rows" "I" ∈ tbg := in_tables_1_3 (List.mem_of_getElem? (i := 176) (by decide +kernel)) (by decide +kernel)
set_option maxRecDepth 20000 in
theorem mm_657 : Cond.soleField "TilePyramidModel" "rows" ∈ tbg := in_tables_1_3 (List.mem_of_getElem? (i := 177) (by decide +kernel)) (by decide +kernel)
set_option maxRecDepth 20000 in
theorem mm_658 : Cond.lays "TilePyramidModel" "TilePyramidModel" "tileColumns" "I" ∈ tbg := in_tables_1_3 (List.mem_of_getElem? (i := 178) (by decide +kernel)) (by decide +kernel)
set_option maxRecDepth 20000 in
theorem mm_659 : Cond.soleField "TilePyramidModel" "tileColumns" ∈ tbg := in_tables_1_3 (List.mem_of_getElem? (i := 179) (by decide +kernel)) (by decide +kernel)
set_option maxRecDepth 20000 in
theorem mm_660 : Cond.lays "TilePyramidModel" "TilePyramidModel" "tileRows" "I" ∈ tbg := in_tables_1_3 (List.mem_of_getElem? (i := 180) (by decide +kernel)) (by decide +kernel)
set_option maxRecDepth 20000 in
theorem mm_661 : Cond.soleField "TilePyramidModel" "tileRows" ∈ tbg := in_tables_1_3 (List.mem_of_getElem? (i := 181) (by decide +kernel)) (by decide +kernel)
set_option maxRecDepth 20000 in
theorem mm_662 : Cond.lays "TilePyramidModel" "TilePyramidModel" "place" "I" ∈ tbg := in_tables_1_3 (List.mem_of_getElem? (i := 182) (by decide +kernel)) (by decide +kernel)
set_option maxRecDepth 20000 in
theorem mm_663 : Cond.soleField "TilePyramidModel" "place" ∈ tbg := in_tables_1_3 (List.mem_of_getElem? (i := 183) (by decide +kernel)) (by decide +kernel)
set_option maxRecDepth 20000 in
theorem mm_664 : Cond.lays "TilePyramidModel" "TilePyramidModel" "bit" "I" ∈ tbg := in_tables_1_3 (List.mem_of_getElem? (i := 184) (by decide +kernel)) (by decide +kernel)
set_option maxRecDepth 20000 in
theorem mm_665 : Cond.soleField "TilePyramidModel" "bit" ∈ tbg := in_tables_1_3 (List.mem_of_getElem? (i := 185) (by decide +kernel)) (by decide +kernel)
set_option maxRecDepth 20000 in
theorem mm_666 : Cond.laysFinal "TilePyramidModel" "TilePyramidModel" "costs" "[I" ∈ tbg := in_tables_1_3 (List.mem_of_getElem? (i := 186) (by decide +kernel)) (by decide +kernel)
set_option maxRecDepth 20000 in
theorem mm_667 : Cond.soleField "TilePyramidModel" "costs" ∈ tbg := in_tables_1_3 (List.mem_of_getElem? (i := 187) (by decide +kernel)) (by decide +kernel)
set_option maxRecDepth 20000 in
theorem mm_668 : Cond.laysFinal "TilePyramidModel" "TilePyramidModel" "seams" "[I" ∈ tbg := in_tables_1_3 (List.mem_of_getElem? (i := 188) (by decide +kernel)) (by decide +kernel)
set_option maxRecDepth 20000 in
theorem mm_669 : Cond.soleField "TilePyramidModel" "seams" ∈ tbg := in_tables_1_3 (List.mem_of_getElem? (i := 189) (by decide +kernel)) (by decide +kernel)
set_option maxRecDepth 20000 in
theorem mm_670 : Cond.lays "TilePyramidModel" "TilePyramidModel" "hasSeam" "Z" ∈ tbg := in_tables_1_3 (List.mem_of_getElem? (i := 190) (by decide +kernel)) (by decide +kernel)
set_option maxRecDepth 20000 in
theorem mm_671 : Cond.soleField "TilePyramidModel" "hasSeam" ∈ tbg := in_tables_1_3 (List.mem_of_getElem? (i := 191) (by decide +kernel)) (by decide +kernel)
set_option maxRecDepth 20000 in
theorem mm_672 : Cond.laysFinal "TilePyramidModel" "TilePyramidModel" "packing" "[I" ∈ tbg := in_tables_1_3 (List.mem_of_getElem? (i := 192) (by decide +kernel)) (by decide +kernel)
set_option maxRecDepth 20000 in
theorem mm_673 : Cond.soleField "TilePyramidModel" "packing" ∈ tbg := in_tables_1_3 (List.mem_of_getElem? (i := 193) (by decide +kernel)) (by decide +kernel)
set_option maxRecDepth 20000 in
theorem mm_674 : Cond.superclass "TilePyramidModel" "java/lang/Object" ∈ tbg := in_tables_1_3 (List.mem_of_getElem? (i := 194) (by decide +kernel)) (by decide +kernel)
set_option maxRecDepth 20000 in
theorem mm_675 : Cond.methodLink RZL 85 yZM_thrown ∈ tbg := in_tables_1_3 (List.mem_of_getElem? (i := 195) (by decide +kernel)) (by decide +kernel)
set_option maxRecDepth 20000 in
theorem mm_676 : Cond.instanceMethod yZM_thrown ∈ tbg := in_tables_1_3 (List.mem_of_getElem? (i := 196) (by decide +kernel)) (by decide +kernel)
set_option maxRecDepth 20000 in
theorem mm_677 : Cond.selects RZM yZM_thrown yZM_thrown ∈ tbg := in_tables_1_3 (List.mem_of_getElem? (i := 197) (by decide +kernel)) (by decide +kernel)
set_option maxRecDepth 20000 in
theorem mm_678 : Cond.code yZM_thrown cZM_thrown 1 (some .int) ∈ tbg := in_tables_1_3 (List.mem_of_getElem? (i := 198) rfl) rfl
set_option maxRecDepth 20000 in
theorem mm_679 : Cond.methodLink RZL 84 yZM_put ∈ tbg := in_tables_1_3 (List.mem_of_getElem? (i := 199) (by decide +kernel)) (by decide +kernel)
set_option maxRecDepth 20000 in
theorem mm_680 : Cond.instanceMethod yZM_put ∈ tbg := in_tables_1_3 (List.mem_of_getElem? (i := 200) (by decide +kernel)) (by decide +kernel)
set_option maxRecDepth 20000 in
theorem mm_681 : Cond.selects RZM yZM_put yZM_put ∈ tbg := in_tables_1_3 (List.mem_of_getElem? (i := 201) (by decide +kernel)) (by decide +kernel)
set_option maxRecDepth 20000 in
theorem mm_682 : Cond.code yZM_put cZM_put 5 (some .int) ∈ tbg := in_tables_1_3 (List.mem_of_getElem? (i := 202) rfl) rfl
set_option maxRecDepth 20000 in
theorem mm_683 : Cond.methodLink RZM 52 yZM_isPlace ∈ tbg := in_tables_1_3 (List.mem_of_getElem? (i := 203) (by decide +kernel)) (by decide +kernel)
set_option maxRecDepth 20000 in
theorem mm_685 : Cond.instanceMethod yZM_isPlace ∈ tbg := in_tables_1_3 (List.mem_of_getElem? (i := 205) (by decide +kernel)) (by decide +kernel)
set_option maxRecDepth 20000 in
theorem mm_686 : Cond.code yZM_isPlace cZM_isPlace 3 (some .boolean) ∈ tbg := in_tables_1_3 (List.mem_of_getElem? (i := 206) rfl) rfl
set_option maxRecDepth 20000 in
theorem mm_687 : Cond.methodLink RZM 48 yZM_in ∈ tbg := in_tables_1_3 (List.mem_of_getElem? (i := 207) (by decide +kernel)) (by decide +kernel)
set_option maxRecDepth 20000 in
theorem mm_688 : Cond.static yZM_in ∈ tbg := in_tables_1_3 (List.mem_of_getElem? (i := 208) (by decide +kernel)) (by decide +kernel)
set_option maxRecDepth 20000 in
theorem mm_689 : Cond.code yZM_in cZM_in 3 (some .boolean) ∈ tbg := in_tables_1_3 (List.mem_of_getElem? (i := 209) rfl) rfl
set_option maxRecDepth 20000 in
theorem mm_690 : Cond.methodLink RZM 56 yZM_isByte ∈ tbg := in_tables_1_3 (List.mem_of_getElem? (i := 210) (by decide +kernel)) (by decide +kernel)
set_option maxRecDepth 20000 in
theorem mm_691 : Cond.static yZM_isByte ∈ tbg := in_tables_1_3 (List.mem_of_getElem? (i := 211) (by decide +kernel)) (by decide +kernel)
set_option maxRecDepth 20000 in
theorem mm_692 : Cond.code yZM_isByte cZM_isByte 1 (some .boolean) ∈ tbg := in_tables_1_3 (List.mem_of_getElem? (i := 212) rfl) rfl
set_option maxRecDepth 20000 in
theorem mm_693 : Cond.methodLink RZM 60 yZM_throwing ∈ tbg := in_tables_1_3 (List.mem_of_getElem? (i := 213) (by decide +kernel)) (by decide +kernel)
set_option maxRecDepth 20000 in
theorem mm_695 : Cond.instanceMethod yZM_throwing ∈ tbg := in_tables_1_3 (List.mem_of_getElem? (i := 215) (by decide +kernel)) (by decide +kernel)
set_option maxRecDepth 20000 in
theorem mm_696 : Cond.code yZM_throwing cZM_throwing 3 (some .boolean) ∈ tbg := in_tables_1_3 (List.mem_of_getElem? (i := 216) rfl) rfl
set_option maxRecDepth 20000 in
theorem mm_697 : Cond.methodLink RZL 92 yZM_change ∈ tbg := in_tables_1_3 (List.mem_of_getElem? (i := 217) (by decide +kernel)) (by decide +kernel)
set_option maxRecDepth 20000 in
theorem mm_698 : Cond.instanceMethod yZM_change ∈ tbg := in_tables_1_3 (List.mem_of_getElem? (i := 218) (by decide +kernel)) (by decide +kernel)
set_option maxRecDepth 20000 in
theorem mm_699 : Cond.selects RZM yZM_change yZM_change ∈ tbg := in_tables_1_3 (List.mem_of_getElem? (i := 219) (by decide +kernel)) (by decide +kernel)
set_option maxRecDepth 20000 in
theorem mm_700 : Cond.code yZM_change cZM_change 9 (some .int) ∈ tbg := in_tables_1_3 (List.mem_of_getElem? (i := 220) rfl) rfl
set_option maxRecDepth 20000 in
theorem mm_701 : Cond.methodLink RZM 72 yZM_isPart ∈ tbg := in_tables_1_3 (List.mem_of_getElem? (i := 221) (by decide +kernel)) (by decide +kernel)
set_option maxRecDepth 20000 in
theorem mm_702 : Cond.static yZM_isPart ∈ tbg := in_tables_1_3 (List.mem_of_getElem? (i := 222) (by decide +kernel)) (by decide +kernel)
set_option maxRecDepth 20000 in
theorem mm_703 : Cond.code yZM_isPart cZM_isPart 6 (some .boolean) ∈ tbg := in_tables_1_3 (List.mem_of_getElem? (i := 223) rfl) rfl
set_option maxRecDepth 20000 in
theorem mm_704 : Cond.methodLink RZM 68 yZM_many ∈ tbg := in_tables_1_3 (List.mem_of_getElem? (i := 224) (by decide +kernel)) (by decide +kernel)
set_option maxRecDepth 20000 in
theorem mm_706 : Cond.instanceMethod yZM_many ∈ tbg := in_tables_1_3 (List.mem_of_getElem? (i := 226) (by decide +kernel)) (by decide +kernel)
set_option maxRecDepth 20000 in
theorem mm_707 : Cond.code yZM_many cZM_many 2 (some .int) ∈ tbg := in_tables_1_3 (List.mem_of_getElem? (i := 227) rfl) rfl
set_option maxRecDepth 20000 in
theorem mm_708 : Cond.methodLink RZM 64 yZM_half ∈ tbg := in_tables_1_3 (List.mem_of_getElem? (i := 228) (by decide +kernel)) (by decide +kernel)
set_option maxRecDepth 20000 in
theorem mm_709 : Cond.static yZM_half ∈ tbg := in_tables_1_3 (List.mem_of_getElem? (i := 229) (by decide +kernel)) (by decide +kernel)
set_option maxRecDepth 20000 in
theorem mm_710 : Cond.code yZM_half cZM_half 4 (some .int) ∈ tbg := in_tables_1_3 (List.mem_of_getElem? (i := 230) rfl) rfl
set_option maxRecDepth 20000 in
theorem mm_711 : Cond.methodLink RZL 96 yZM_levels ∈ tbg := in_tables_1_3 (List.mem_of_getElem? (i := 231) (by decide +kernel)) (by decide +kernel)
set_option maxRecDepth 20000 in
theorem mm_712 : Cond.instanceMethod yZM_levels ∈ tbg := in_tables_1_3 (List.mem_of_getElem? (i := 232) (by decide +kernel)) (by decide +kernel)
set_option maxRecDepth 20000 in
theorem mm_713 : Cond.selects RZM yZM_levels yZM_levels ∈ tbg := in_tables_1_3 (List.mem_of_getElem? (i := 233) (by decide +kernel)) (by decide +kernel)
set_option maxRecDepth 20000 in
theorem mm_714 : Cond.code yZM_levels cZM_levels 1 (some .int) ∈ tbg := in_tables_1_3 (List.mem_of_getElem? (i := 234) rfl) rfl
set_option maxRecDepth 20000 in
theorem mm_715 : Cond.methodLink RZL 100 yZM_size ∈ tbg := in_tables_1_3 (List.mem_of_getElem? (i := 235) (by decide +kernel)) (by decide +kernel)
set_option maxRecDepth 20000 in
theorem mm_716 : Cond.instanceMethod yZM_size ∈ tbg := in_tables_1_3 (List.mem_of_getElem? (i := 236) (by decide +kernel)) (by decide +kernel)
set_option maxRecDepth 20000 in
theorem mm_717 : Cond.selects RZM yZM_size yZM_size ∈ tbg := in_tables_1_3 (List.mem_of_getElem? (i := 237) (by decide +kernel)) (by decide +kernel)
set_option maxRecDepth 20000 in
theorem mm_718 : Cond.code yZM_size cZM_size 3 (some .int) ∈ tbg := in_tables_1_3 (List.mem_of_getElem? (i := 238) rfl) rfl
set_option maxRecDepth 20000 in
theorem mm_719 : Cond.methodLink RZM 76 yZM_isLevel ∈ tbg := in_tables_1_3 (List.mem_of_getElem? (i := 239) (by decide +kernel)) (by decide +kernel)
set_option maxRecDepth 20000 in
theorem mm_721 : Cond.instanceMethod yZM_isLevel ∈ tbg := in_tables_1_4 (List.mem_of_getElem? (i := 1) (by decide +kernel)) (by decide +kernel)
set_option maxRecDepth 20000 in
theorem mm_722 : Cond.code yZM_isLevel cZM_isLevel 2 (some .boolean) ∈ tbg := in_tables_1_4 (List.mem_of_getElem? (i := 2) rfl) rfl
set_option maxRecDepth 20000 in
theorem mm_723 : Cond.methodLink RZM 79 yZM_across ∈ tbg := in_tables_1_4 (List.mem_of_getElem? (i := 3) (by decide +kernel)) (by decide +kernel)
set_option maxRecDepth 20000 in
theorem mm_725 : Cond.instanceMethod yZM_across ∈ tbg := in_tables_1_4 (List.mem_of_getElem? (i := 5) (by decide +kernel)) (by decide +kernel)
set_option maxRecDepth 20000 in
theorem mm_726 : Cond.code yZM_across cZM_across 2 (some .int) ∈ tbg := in_tables_1_4 (List.mem_of_getElem? (i := 6) rfl) rfl
set_option maxRecDepth 20000 in
theorem mm_727 : Cond.methodLink RZM 82 yZM_down ∈ tbg := in_tables_1_4 (List.mem_of_getElem? (i := 7) (by decide +kernel)) (by decide +kernel)
set_option maxRecDepth 20000 in
theorem mm_729 : Cond.instanceMethod yZM_down ∈ tbg := in_tables_1_4 (List.mem_of_getElem? (i := 9) (by decide +kernel)) (by decide +kernel)
set_option maxRecDepth 20000 in
theorem mm_730 : Cond.code yZM_down cZM_down 2 (some .int) ∈ tbg := in_tables_1_4 (List.mem_of_getElem? (i := 10) rfl) rfl
set_option maxRecDepth 20000 in
theorem mm_731 : Cond.methodLink RZL 103 yZM_at ∈ tbg := in_tables_1_4 (List.mem_of_getElem? (i := 11) (by decide +kernel)) (by decide +kernel)
set_option maxRecDepth 20000 in
theorem mm_732 : Cond.instanceMethod yZM_at ∈ tbg := in_tables_1_4 (List.mem_of_getElem? (i := 12) (by decide +kernel)) (by decide +kernel)
set_option maxRecDepth 20000 in
theorem mm_733 : Cond.selects RZM yZM_at yZM_at ∈ tbg := in_tables_1_4 (List.mem_of_getElem? (i := 13) (by decide +kernel)) (by decide +kernel)
set_option maxRecDepth 20000 in
theorem mm_734 : Cond.code yZM_at cZM_at 4 (some .int) ∈ tbg := in_tables_1_4 (List.mem_of_getElem? (i := 14) rfl) rfl
set_option maxRecDepth 20000 in
theorem mm_735 : Cond.methodLink RZM 95 yZM_isAt ∈ tbg := in_tables_1_4 (List.mem_of_getElem? (i := 15) (by decide +kernel)) (by decide +kernel)
set_option maxRecDepth 20000 in
theorem mm_737 : Cond.instanceMethod yZM_isAt ∈ tbg := in_tables_1_4 (List.mem_of_getElem? (i := 17) (by decide +kernel)) (by decide +kernel)
set_option maxRecDepth 20000 in
theorem mm_738 : Cond.code yZM_isAt cZM_isAt 4 (some .boolean) ∈ tbg := in_tables_1_4 (List.mem_of_getElem? (i := 18) rfl) rfl
set_option maxRecDepth 20000 in
theorem mm_739 : Cond.methodLink RZM 98 yZM_sample ∈ tbg := in_tables_1_4 (List.mem_of_getElem? (i := 19) (by decide +kernel)) (by decide +kernel)
set_option maxRecDepth 20000 in
theorem mm_741 : Cond.instanceMethod yZM_sample ∈ tbg := in_tables_1_4 (List.mem_of_getElem? (i := 21) (by decide +kernel)) (by decide +kernel)
set_option maxRecDepth 20000 in
theorem mm_742 : Cond.code yZM_sample cZM_sample 5 (some .int) ∈ tbg := in_tables_1_4 (List.mem_of_getElem? (i := 22) rfl) rfl
set_option maxRecDepth 20000 in
theorem mm_743 : Cond.methodLink RZM 89 yZM_countUnder ∈ tbg := in_tables_1_4 (List.mem_of_getElem? (i := 23) (by decide +kernel)) (by decide +kernel)
set_option maxRecDepth 20000 in
theorem mm_745 : Cond.instanceMethod yZM_countUnder ∈ tbg := in_tables_1_4 (List.mem_of_getElem? (i := 25) (by decide +kernel)) (by decide +kernel)
set_option maxRecDepth 20000 in
theorem mm_746 : Cond.code yZM_countUnder cZM_countUnder 4 (some .int) ∈ tbg := in_tables_1_4 (List.mem_of_getElem? (i := 26) rfl) rfl
set_option maxRecDepth 20000 in
theorem mm_747 : Cond.methodLink RZM 85 yZM_under ∈ tbg := in_tables_1_4 (List.mem_of_getElem? (i := 27) (by decide +kernel)) (by decide +kernel)
set_option maxRecDepth 20000 in
theorem mm_749 : Cond.instanceMethod yZM_under ∈ tbg := in_tables_1_4 (List.mem_of_getElem? (i := 29) (by decide +kernel)) (by decide +kernel)
set_option maxRecDepth 20000 in
theorem mm_750 : Cond.code yZM_under cZM_under 6 (some .int) ∈ tbg := in_tables_1_4 (List.mem_of_getElem? (i := 30) rfl) rfl
set_option maxRecDepth 20000 in
theorem mm_751 : Cond.methodLink RZM 92 yZM_sumUnder ∈ tbg := in_tables_1_4 (List.mem_of_getElem? (i := 31) (by decide +kernel)) (by decide +kernel)
set_option maxRecDepth 20000 in
theorem mm_753 : Cond.instanceMethod yZM_sumUnder ∈ tbg := in_tables_1_4 (List.mem_of_getElem? (i := 33) (by decide +kernel)) (by decide +kernel)
set_option maxRecDepth 20000 in
theorem mm_754 : Cond.code yZM_sumUnder cZM_sumUnder 8 (some .int) ∈ tbg := in_tables_1_4 (List.mem_of_getElem? (i := 34) rfl) rfl
set_option maxRecDepth 20000 in
theorem mm_755 : Cond.methodLink RZL 107 yZM_mean ∈ tbg := in_tables_1_4 (List.mem_of_getElem? (i := 35) (by decide +kernel)) (by decide +kernel)
set_option maxRecDepth 20000 in
theorem mm_756 : Cond.instanceMethod yZM_mean ∈ tbg := in_tables_1_4 (List.mem_of_getElem? (i := 36) (by decide +kernel)) (by decide +kernel)
set_option maxRecDepth 20000 in
theorem mm_757 : Cond.selects RZM yZM_mean yZM_mean ∈ tbg := in_tables_1_4 (List.mem_of_getElem? (i := 37) (by decide +kernel)) (by decide +kernel)
set_option maxRecDepth 20000 in
theorem mm_758 : Cond.code yZM_mean cZM_mean 8 (some .int) ∈ tbg := in_tables_1_4 (List.mem_of_getElem? (i := 38) rfl) rfl
set_option maxRecDepth 20000 in
theorem mm_759 : Cond.methodLink RZL 110 yZM_zoom ∈ tbg := in_tables_1_4 (List.mem_of_getElem? (i := 39) (by decide +kernel)) (by decide +kernel)
set_option maxRecDepth 20000 in
theorem mm_760 : Cond.instanceMethod yZM_zoom ∈ tbg := in_tables_1_4 (List.mem_of_getElem? (i := 40) (by decide +kernel)) (by decide +kernel)
set_option maxRecDepth 20000 in
theorem mm_761 : Cond.selects RZM yZM_zoom yZM_zoom ∈ tbg := in_tables_1_4 (List.mem_of_getElem? (i := 41) (by decide +kernel)) (by decide +kernel)
set_option maxRecDepth 20000 in
theorem mm_762 : Cond.code yZM_zoom cZM_zoom 9 (some .int) ∈ tbg := in_tables_1_4 (List.mem_of_getElem? (i := 42) rfl) rfl
set_option maxRecDepth 20000 in
theorem mm_763 : Cond.methodLink RZL 113 yZM_turned ∈ tbg := in_tables_1_4 (List.mem_of_getElem? (i := 43) (by decide +kernel)) (by decide +kernel)
set_option maxRecDepth 20000 in
theorem mm_764 : Cond.instanceMethod yZM_turned ∈ tbg := in_tables_1_4 (List.mem_of_getElem? (i := 44) (by decide +kernel)) (by decide +kernel)
set_option maxRecDepth 20000 in
theorem mm_765 : Cond.selects RZM yZM_turned yZM_turned ∈ tbg := in_tables_1_4 (List.mem_of_getElem? (i := 45) (by decide +kernel)) (by decide +kernel)
set_option maxRecDepth 20000 in
theorem mm_766 : Cond.code yZM_turned cZM_turned 8 (some .int) ∈ tbg := in_tables_1_4 (List.mem_of_getElem? (i := 46) rfl) rfl
set_option maxRecDepth 20000 in
theorem mm_767 : Cond.methodLink RZL 116 yZM_pack ∈ tbg := in_tables_1_4 (List.mem_of_getElem? (i := 47) (by decide +kernel)) (by decide +kernel)
set_option maxRecDepth 20000 in
theorem mm_768 : Cond.instanceMethod yZM_pack ∈ tbg := in_tables_1_4 (List.mem_of_getElem? (i := 48) (by decide +kernel)) (by decide +kernel)
set_option maxRecDepth 20000 in
theorem mm_769 : Cond.selects RZM yZM_pack yZM_pack ∈ tbg := in_tables_1_4 (List.mem_of_getElem? (i := 49) (by decide +kernel)) (by decide +kernel)
set_option maxRecDepth 20000 in
theorem mm_770 : Cond.code yZM_pack cZM_pack 7 (some .int) ∈ tbg := in_tables_1_4 (List.mem_of_getElem? (i := 50) rfl) rfl
set_option maxRecDepth 20000 in
theorem mm_771 : Cond.methodLink RZM 112 yZM_isTile ∈ tbg := in_tables_1_4 (List.mem_of_getElem? (i := 51) (by decide +kernel)) (by decide +kernel)
set_option maxRecDepth 20000 in
theorem mm_773 : Cond.instanceMethod yZM_isTile ∈ tbg := in_tables_1_4 (List.mem_of_getElem? (i := 53) (by decide +kernel)) (by decide +kernel)
set_option maxRecDepth 20000 in
theorem mm_774 : Cond.code yZM_isTile cZM_isTile 4 (some .boolean) ∈ tbg := in_tables_1_4 (List.mem_of_getElem? (i := 54) rfl) rfl
set_option maxRecDepth 20000 in
theorem mm_775 : Cond.methodLink RZM 115 yZM_part ∈ tbg := in_tables_1_4 (List.mem_of_getElem? (i := 55) (by decide +kernel)) (by decide +kernel)
set_option maxRecDepth 20000 in
theorem mm_776 : Cond.static yZM_part ∈ tbg := in_tables_1_4 (List.mem_of_getElem? (i := 56) (by decide +kernel)) (by decide +kernel)
set_option maxRecDepth 20000 in
theorem mm_777 : Cond.code yZM_part cZM_part 2 (some .int) ∈ tbg := in_tables_1_4 (List.mem_of_getElem? (i := 57) rfl) rfl
set_option maxRecDepth 20000 in
theorem mm_778 : Cond.methodLink RZM 118 yZM_write ∈ tbg := in_tables_1_4 (List.mem_of_getElem? (i := 58) (by decide +kernel)) (by decide +kernel)
set_option maxRecDepth 20000 in
theorem mm_780 : Cond.instanceMethod yZM_write ∈ tbg := in_tables_1_4 (List.mem_of_getElem? (i := 60) (by decide +kernel)) (by decide +kernel)
set_option maxRecDepth 20000 in
theorem mm_781 : Cond.code yZM_write cZM_write 2 none ∈ tbg := in_tables_1_4 (List.mem_of_getElem? (i := 61) rfl) rfl
set_option maxRecDepth 20000 in
theorem mm_782 : Cond.methodLink RZM 122 yZM_writeRow ∈ tbg := in_tables_1_4 (List.mem_of_getElem? (i := 62) (by decide +kernel)) (by decide +kernel)
set_option maxRecDepth 20000 in
theorem mm_784 : Cond.instanceMethod yZM_writeRow ∈ tbg := in_tables_1_4 (List.mem_of_getElem? (i := 64) (by decide +kernel)) (by decide +kernel)
set_option maxRecDepth 20000 in
theorem mm_785 : Cond.code yZM_writeRow cZM_writeRow 7 none ∈ tbg := in_tables_1_4 (List.mem_of_getElem? (i := 65) rfl) rfl
set_option maxRecDepth 20000 in
theorem mm_786 : Cond.methodLink RZM 129 yZM_rowBits ∈ tbg := in_tables_1_4 (List.mem_of_getElem? (i := 66) (by decide +kernel)) (by decide +kernel)
set_option maxRecDepth 20000 in
theorem mm_787 : Cond.static yZM_rowBits ∈ tbg := in_tables_1_4 (List.mem_of_getElem? (i := 67) (by decide +kernel)) (by decide +kernel)
set_option maxRecDepth 20000 in
theorem mm_788 : Cond.code yZM_rowBits cZM_rowBits 6 (some .int) ∈ tbg := in_tables_1_4 (List.mem_of_getElem? (i := 68) rfl) rfl
set_option maxRecDepth 20000 in
theorem mm_789 : Cond.methodLink RZM 105 yZM_told ∈ tbg := in_tables_1_4 (List.mem_of_getElem? (i := 69) (by decide +kernel)) (by decide +kernel)
set_option maxRecDepth 20000 in
theorem mm_790 : Cond.static yZM_told ∈ tbg := in_tables_1_4 (List.mem_of_getElem? (i := 70) (by decide +kernel)) (by decide +kernel)
set_option maxRecDepth 20000 in
theorem mm_791 : Cond.code yZM_told cZM_told 5 (some .int) ∈ tbg := in_tables_1_4 (List.mem_of_getElem? (i := 71) rfl) rfl
set_option maxRecDepth 20000 in
theorem mm_792 : Cond.methodLink RZM 109 yZM_bitsOf ∈ tbg := in_tables_1_4 (List.mem_of_getElem? (i := 72) (by decide +kernel)) (by decide +kernel)
set_option maxRecDepth 20000 in
theorem mm_793 : Cond.static yZM_bitsOf ∈ tbg := in_tables_1_4 (List.mem_of_getElem? (i := 73) (by decide +kernel)) (by decide +kernel)
set_option maxRecDepth 20000 in
theorem mm_794 : Cond.code yZM_bitsOf cZM_bitsOf 2 (some .int) ∈ tbg := in_tables_1_4 (List.mem_of_getElem? (i := 74) rfl) rfl
set_option maxRecDepth 20000 in
theorem mm_795 : Cond.methodLink RZM 126 yZM_sum ∈ tbg := in_tables_1_4 (List.mem_of_getElem? (i := 75) (by decide +kernel)) (by decide +kernel)
set_option maxRecDepth 20000 in
theorem mm_797 : Cond.instanceMethod yZM_sum ∈ tbg := in_tables_1_4 (List.mem_of_getElem? (i := 77) (by decide +kernel)) (by decide +kernel)
set_option maxRecDepth 20000 in
theorem mm_798 : Cond.code yZM_sum cZM_sum 4 (some .int) ∈ tbg := in_tables_1_4 (List.mem_of_getElem? (i := 78) rfl) rfl
set_option maxRecDepth 20000 in
theorem mm_799 : Cond.constant RZM 104 65521 ∈ tbg := in_tables_1_4 (List.mem_of_getElem? (i := 79) (by decide +kernel)) (by decide +kernel)
set_option maxRecDepth 20000 in
theorem mm_800 : Cond.methodLink RZL 120 yZM_load ∈ tbg := in_tables_1_4 (List.mem_of_getElem? (i := 80) (by decide +kernel)) (by decide +kernel)
set_option maxRecDepth 20000 in
theorem mm_801 : Cond.instanceMethod yZM_load ∈ tbg := in_tables_1_4 (List.mem_of_getElem? (i := 81) (by decide +kernel)) (by decide +kernel)
set_option maxRecDepth 20000 in
theorem mm_802 : Cond.selects RZM yZM_load yZM_load ∈ tbg := in_tables_1_4 (List.mem_of_getElem? (i := 82) (by decide +kernel)) (by decide +kernel)
set_option maxRecDepth 20000 in
theorem mm_803 : Cond.code yZM_load cZM_load 2 (some .int) ∈ tbg := in_tables_1_4 (List.mem_of_getElem? (i := 83) rfl) rfl
set_option maxRecDepth 20000 in
theorem mm_804 : Cond.methodLink RZL 124 yZM_clear ∈ tbg := in_tables_1_4 (List.mem_of_getElem? (i := 84) (by decide +kernel)) (by decide +kernel)
set_option maxRecDepth 20000 in
theorem mm_805 : Cond.instanceMethod yZM_clear ∈ tbg := in_tables_1_4 (List.mem_of_getElem? (i := 85) (by decide +kernel)) (by decide +kernel)
set_option maxRecDepth 20000 in
theorem mm_806 : Cond.selects RZM yZM_clear yZM_clear ∈ tbg := in_tables_1_4 (List.mem_of_getElem? (i := 86) (by decide +kernel)) (by decide +kernel)
set_option maxRecDepth 20000 in
theorem mm_807 : Cond.code yZM_clear cZM_clear 2 (some .int) ∈ tbg := in_tables_1_4 (List.mem_of_getElem? (i := 87) rfl) rfl
set_option maxRecDepth 20000 in
theorem mm_808 : Cond.methodLink RZL 127 yZM_byteAt ∈ tbg := in_tables_1_4 (List.mem_of_getElem? (i := 88) (by decide +kernel)) (by decide +kernel)
set_option maxRecDepth 20000 in
theorem mm_809 : Cond.instanceMethod yZM_byteAt ∈ tbg := in_tables_1_4 (List.mem_of_getElem? (i := 89) (by decide +kernel)) (by decide +kernel)
set_option maxRecDepth 20000 in
theorem mm_810 : Cond.selects RZM yZM_byteAt yZM_byteAt ∈ tbg := in_tables_1_4 (List.mem_of_getElem? (i := 90) (by decide +kernel)) (by decide +kernel)
set_option maxRecDepth 20000 in
theorem mm_811 : Cond.code yZM_byteAt cZM_byteAt 2 (some .int) ∈ tbg := in_tables_1_4 (List.mem_of_getElem? (i := 91) rfl) rfl
set_option maxRecDepth 20000 in
theorem mm_812 : Cond.methodLink RZM 132 yZM_hasByte ∈ tbg := in_tables_1_4 (List.mem_of_getElem? (i := 92) (by decide +kernel)) (by decide +kernel)
set_option maxRecDepth 20000 in
theorem mm_814 : Cond.instanceMethod yZM_hasByte ∈ tbg := in_tables_1_4 (List.mem_of_getElem? (i := 94) (by decide +kernel)) (by decide +kernel)
set_option maxRecDepth 20000 in
theorem mm_815 : Cond.code yZM_hasByte cZM_hasByte 2 (some .boolean) ∈ tbg := in_tables_1_4 (List.mem_of_getElem? (i := 95) rfl) rfl
set_option maxRecDepth 20000 in
theorem mm_816 : Cond.methodLink RZL 130 yZM_poke ∈ tbg := in_tables_1_4 (List.mem_of_getElem? (i := 96) (by decide +kernel)) (by decide +kernel)
set_option maxRecDepth 20000 in
theorem mm_817 : Cond.instanceMethod yZM_poke ∈ tbg := in_tables_1_4 (List.mem_of_getElem? (i := 97) (by decide +kernel)) (by decide +kernel)
set_option maxRecDepth 20000 in
theorem mm_818 : Cond.selects RZM yZM_poke yZM_poke ∈ tbg := in_tables_1_4 (List.mem_of_getElem? (i := 98) (by decide +kernel)) (by decide +kernel)
set_option maxRecDepth 20000 in
theorem mm_819 : Cond.code yZM_poke cZM_poke 3 (some .int) ∈ tbg := in_tables_1_4 (List.mem_of_getElem? (i := 99) rfl) rfl
set_option maxRecDepth 20000 in
theorem mm_820 : Cond.methodLink RZL 134 yZM_open ∈ tbg := in_tables_1_4 (List.mem_of_getElem? (i := 100) (by decide +kernel)) (by decide +kernel)
set_option maxRecDepth 20000 in
theorem mm_821 : Cond.instanceMethod yZM_open ∈ tbg := in_tables_1_4 (List.mem_of_getElem? (i := 101) (by decide +kernel)) (by decide +kernel)
set_option maxRecDepth 20000 in
theorem mm_822 : Cond.selects RZM yZM_open yZM_open ∈ tbg := in_tables_1_4 (List.mem_of_getElem? (i := 102) (by decide +kernel)) (by decide +kernel)
set_option maxRecDepth 20000 in
theorem mm_823 : Cond.code yZM_open cZM_open 4 (some .int) ∈ tbg := in_tables_1_4 (List.mem_of_getElem? (i := 103) rfl) rfl
set_option maxRecDepth 20000 in
theorem mm_824 : Cond.methodLink RZM 147 yZM_readRow ∈ tbg := in_tables_1_4 (List.mem_of_getElem? (i := 104) (by decide +kernel)) (by decide +kernel)
set_option maxRecDepth 20000 in
theorem mm_826 : Cond.instanceMethod yZM_readRow ∈ tbg := in_tables_1_4 (List.mem_of_getElem? (i := 106) (by decide +kernel)) (by decide +kernel)
set_option maxRecDepth 20000 in
theorem mm_827 : Cond.code yZM_readRow cZM_readRow 10 (some .boolean) ∈ tbg := in_tables_1_4 (List.mem_of_getElem? (i := 107) rfl) rfl
set_option maxRecDepth 20000 in
theorem mm_828 : Cond.methodLink RZM 141 yZM_bitAt ∈ tbg := in_tables_1_4 (List.mem_of_getElem? (i := 108) (by decide +kernel)) (by decide +kernel)
set_option maxRecDepth 20000 in
theorem mm_830 : Cond.instanceMethod yZM_bitAt ∈ tbg := in_tables_1_4 (List.mem_of_getElem? (i := 110) (by decide +kernel)) (by decide +kernel)
set_option maxRecDepth 20000 in
theorem mm_831 : Cond.code yZM_bitAt cZM_bitAt 2 (some .int) ∈ tbg := in_tables_1_4 (List.mem_of_getElem? (i := 111) rfl) rfl
set_option maxRecDepth 20000 in
theorem mm_832 : Cond.methodLink RZL 137 yZM_opened ∈ tbg := in_tables_1_4 (List.mem_of_getElem? (i := 112) (by decide +kernel)) (by decide +kernel)
set_option maxRecDepth 20000 in
theorem mm_833 : Cond.instanceMethod yZM_opened ∈ tbg := in_tables_1_4 (List.mem_of_getElem? (i := 113) (by decide +kernel)) (by decide +kernel)
set_option maxRecDepth 20000 in
theorem mm_834 : Cond.selects RZM yZM_opened yZM_opened ∈ tbg := in_tables_1_4 (List.mem_of_getElem? (i := 114) (by decide +kernel)) (by decide +kernel)
set_option maxRecDepth 20000 in
theorem mm_835 : Cond.code yZM_opened cZM_opened 2 (some .int) ∈ tbg := in_tables_1_4 (List.mem_of_getElem? (i := 115) rfl) rfl
set_option maxRecDepth 20000 in
theorem mm_836 : Cond.methodLink RZL 140 yZM_restore ∈ tbg := in_tables_1_4 (List.mem_of_getElem? (i := 116) (by decide +kernel)) (by decide +kernel)
set_option maxRecDepth 20000 in
theorem mm_837 : Cond.instanceMethod yZM_restore ∈ tbg := in_tables_1_4 (List.mem_of_getElem? (i := 117) (by decide +kernel)) (by decide +kernel)
set_option maxRecDepth 20000 in
theorem mm_838 : Cond.selects RZM yZM_restore yZM_restore ∈ tbg := in_tables_1_4 (List.mem_of_getElem? (i := 118) (by decide +kernel)) (by decide +kernel)
set_option maxRecDepth 20000 in
theorem mm_839 : Cond.code yZM_restore cZM_restore 6 (some .boolean) ∈ tbg := in_tables_1_4 (List.mem_of_getElem? (i := 119) rfl) rfl
set_option maxRecDepth 20000 in
theorem mm_840 : Cond.methodLink RZL 143 yZM_strip ∈ tbg := in_tables_1_4 (List.mem_of_getElem? (i := 120) (by decide +kernel)) (by decide +kernel)
set_option maxRecDepth 20000 in
theorem mm_841 : Cond.instanceMethod yZM_strip ∈ tbg := in_tables_1_4 (List.mem_of_getElem? (i := 121) (by decide +kernel)) (by decide +kernel)
set_option maxRecDepth 20000 in
theorem mm_842 : Cond.selects RZM yZM_strip yZM_strip ∈ tbg := in_tables_1_4 (List.mem_of_getElem? (i := 122) (by decide +kernel)) (by decide +kernel)
set_option maxRecDepth 20000 in
theorem mm_843 : Cond.code yZM_strip cZM_strip 5 (some .int) ∈ tbg := in_tables_1_4 (List.mem_of_getElem? (i := 123) rfl) rfl
set_option maxRecDepth 20000 in
theorem mm_844 : Cond.methodLink RZL 146 yZM_seam ∈ tbg := in_tables_1_4 (List.mem_of_getElem? (i := 124) (by decide +kernel)) (by decide +kernel)
set_option maxRecDepth 20000 in
theorem mm_845 : Cond.instanceMethod yZM_seam ∈ tbg := in_tables_1_4 (List.mem_of_getElem? (i := 125) (by decide +kernel)) (by decide +kernel)
set_option maxRecDepth 20000 in
theorem mm_846 : Cond.selects RZM yZM_seam yZM_seam ∈ tbg := in_tables_1_4 (List.mem_of_getElem? (i := 126) (by decide +kernel)) (by decide +kernel)
set_option maxRecDepth 20000 in
theorem mm_847 : Cond.code yZM_seam cZM_seam 6 (some .int) ∈ tbg := in_tables_1_4 (List.mem_of_getElem? (i := 127) rfl) rfl
set_option maxRecDepth 20000 in
theorem mm_848 : Cond.methodLink RZM 160 yZM_costAt ∈ tbg := in_tables_1_4 (List.mem_of_getElem? (i := 128) (by decide +kernel)) (by decide +kernel)
set_option maxRecDepth 20000 in
theorem mm_850 : Cond.instanceMethod yZM_costAt ∈ tbg := in_tables_1_4 (List.mem_of_getElem? (i := 130) (by decide +kernel)) (by decide +kernel)
set_option maxRecDepth 20000 in
theorem mm_851 : Cond.code yZM_costAt cZM_costAt 5 (some .int) ∈ tbg := in_tables_1_4 (List.mem_of_getElem? (i := 131) rfl) rfl
set_option maxRecDepth 20000 in
theorem mm_852 : Cond.methodLink RZM 163 yZM_leastAround ∈ tbg := in_tables_1_4 (List.mem_of_getElem? (i := 132) (by decide +kernel)) (by decide +kernel)
set_option maxRecDepth 20000 in
theorem mm_854 : Cond.instanceMethod yZM_leastAround ∈ tbg := in_tables_1_4 (List.mem_of_getElem? (i := 134) (by decide +kernel)) (by decide +kernel)
set_option maxRecDepth 20000 in
theorem mm_855 : Cond.code yZM_leastAround cZM_leastAround 6 (some .int) ∈ tbg := in_tables_1_4 (List.mem_of_getElem? (i := 135) rfl) rfl
set_option maxRecDepth 20000 in
theorem mm_856 : Cond.methodLink RZM 157 yZM_cost ∈ tbg := in_tables_1_4 (List.mem_of_getElem? (i := 136) (by decide +kernel)) (by decide +kernel)
set_option maxRecDepth 20000 in
theorem mm_858 : Cond.instanceMethod yZM_cost ∈ tbg := in_tables_1_4 (List.mem_of_getElem? (i := 138) (by decide +kernel)) (by decide +kernel)
set_option maxRecDepth 20000 in
theorem mm_859 : Cond.code yZM_cost cZM_cost 4 (some .int) ∈ tbg := in_tables_1_4 (List.mem_of_getElem? (i := 139) rfl) rfl
set_option maxRecDepth 20000 in
theorem mm_860 : Cond.constant RZM 156 1000000000 ∈ tbg := in_tables_1_4 (List.mem_of_getElem? (i := 140) (by decide +kernel)) (by decide +kernel)
set_option maxRecDepth 20000 in
theorem mm_861 : Cond.methodLink RZL 149 yZM_seamAt ∈ tbg := in_tables_1_4 (List.mem_of_getElem? (i := 141) (by decide +kernel)) (by decide +kernel)
set_option maxRecDepth 20000 in
theorem mm_862 : Cond.instanceMethod yZM_seamAt ∈ tbg := in_tables_1_4 (List.mem_of_getElem? (i := 142) (by decide +kernel)) (by decide +kernel)
set_option maxRecDepth 20000 in
theorem mm_863 : Cond.selects RZM yZM_seamAt yZM_seamAt ∈ tbg := in_tables_1_4 (List.mem_of_getElem? (i := 143) (by decide +kernel)) (by decide +kernel)
set_option maxRecDepth 20000 in
theorem mm_864 : Cond.code yZM_seamAt cZM_seamAt 2 (some .int) ∈ tbg := in_tables_1_4 (List.mem_of_getElem? (i := 144) rfl) rfl
set_option maxRecDepth 20000 in
theorem mm_865 : Cond.arrayClass .long ∈ tbg := in_tables_1_4 (List.mem_of_getElem? (i := 145) (by decide +kernel)) (by decide +kernel)
set_option maxRecDepth 20000 in
theorem mm_866 : Cond.sameMethod "java/lang/Throwable" "java/lang/Throwable" "fillInStackTrace" "(I)Ljava/lang/Throwable;" ∈ tbg := in_tables_1_4 (List.mem_of_getElem? (i := 146) (by decide +kernel)) (by decide +kernel)
theorem mp_1 : Cond.selects RZS yZS_addUpRow yZS_addUpRow ∈ tbg := in_priv (List.mem_of_getElem? (i := 1) (by decide +kernel)) (by decide +kernel)
theorem mp_2 : Cond.selects RZS yZS_cheapestNear yZS_cheapestNear ∈ tbg := in_priv (List.mem_of_getElem? (i := 2) (by decide +kernel)) (by decide +kernel)
theorem mp_3 : Cond.selects RZS yZS_cheapest yZS_cheapest ∈ tbg := in_priv (List.mem_of_getElem? (i := 3) (by decide +kernel)) (by decide +kernel)
theorem mp_4 : Cond.selects RZM yZM_isPlace yZM_isPlace ∈ tbg := in_priv (List.mem_of_getElem? (i := 4) (by decide +kernel)) (by decide +kernel)
theorem mp_5 : Cond.selects RZM yZM_throwing yZM_throwing ∈ tbg := in_priv (List.mem_of_getElem? (i := 5) (by decide +kernel)) (by decide +kernel)
theorem mp_6 : Cond.selects RZM yZM_many yZM_many ∈ tbg := in_priv (List.mem_of_getElem? (i := 6) (by decide +kernel)) (by decide +kernel)
theorem mp_7 : Cond.selects RZM yZM_isLevel yZM_isLevel ∈ tbg := in_priv (List.mem_of_getElem? (i := 7) (by decide +kernel)) (by decide +kernel)
theorem mp_8 : Cond.selects RZM yZM_across yZM_across ∈ tbg := in_priv (List.mem_of_getElem? (i := 8) (by decide +kernel)) (by decide +kernel)
theorem mp_9 : Cond.selects RZM yZM_down yZM_down ∈ tbg := in_priv (List.mem_of_getElem? (i := 9) (by decide +kernel)) (by decide +kernel)
theorem mp_10 : Cond.selects RZM yZM_isAt yZM_isAt ∈ tbg := in_priv (List.mem_of_getElem? (i := 10) (by decide +kernel)) (by decide +kernel)
theorem mp_11 : Cond.selects RZM yZM_sample yZM_sample ∈ tbg := in_priv (List.mem_of_getElem? (i := 11) (by decide +kernel)) (by decide +kernel)
theorem mp_12 : Cond.selects RZM yZM_countUnder yZM_countUnder ∈ tbg := in_priv (List.mem_of_getElem? (i := 12) (by decide +kernel)) (by decide +kernel)
theorem mp_13 : Cond.selects RZM yZM_under yZM_under ∈ tbg := in_priv (List.mem_of_getElem? (i := 13) (by decide +kernel)) (by decide +kernel)
theorem mp_14 : Cond.selects RZM yZM_sumUnder yZM_sumUnder ∈ tbg := in_priv (List.mem_of_getElem? (i := 14) (by decide +kernel)) (by decide +kernel)
theorem mp_15 : Cond.selects RZM yZM_isTile yZM_isTile ∈ tbg := in_priv (List.mem_of_getElem? (i := 15) (by decide +kernel)) (by decide +kernel)
theorem mp_16 : Cond.selects RZM yZM_write yZM_write ∈ tbg := in_priv (List.mem_of_getElem? (i := 16) (by decide +kernel)) (by decide +kernel)
theorem mp_17 : Cond.selects RZM yZM_writeRow yZM_writeRow ∈ tbg := in_priv (List.mem_of_getElem? (i := 17) (by decide +kernel)) (by decide +kernel)
theorem mp_18 : Cond.selects RZM yZM_sum yZM_sum ∈ tbg := in_priv (List.mem_of_getElem? (i := 18) (by decide +kernel)) (by decide +kernel)
theorem mp_19 : Cond.selects RZM yZM_hasByte yZM_hasByte ∈ tbg := in_priv (List.mem_of_getElem? (i := 19) (by decide +kernel)) (by decide +kernel)
theorem mp_20 : Cond.selects RZM yZM_readRow yZM_readRow ∈ tbg := in_priv (List.mem_of_getElem? (i := 20) (by decide +kernel)) (by decide +kernel)
theorem mp_21 : Cond.selects RZM yZM_bitAt yZM_bitAt ∈ tbg := in_priv (List.mem_of_getElem? (i := 21) (by decide +kernel)) (by decide +kernel)
theorem mp_22 : Cond.selects RZM yZM_costAt yZM_costAt ∈ tbg := in_priv (List.mem_of_getElem? (i := 22) (by decide +kernel)) (by decide +kernel)
theorem mp_23 : Cond.selects RZM yZM_leastAround yZM_leastAround ∈ tbg := in_priv (List.mem_of_getElem? (i := 23) (by decide +kernel)) (by decide +kernel)
theorem mp_24 : Cond.selects RZM yZM_cost yZM_cost ∈ tbg := in_priv (List.mem_of_getElem? (i := 24) (by decide +kernel)) (by decide +kernel)
theorem inZB : ∀ w ∈ u_ws RZB TZB 2, w ∈ tbg := by decide +kernel
theorem inZP : ∀ w ∈ u_ws RZP TZP 3, w ∈ tbg := by decide +kernel
theorem inZY : ∀ w ∈ u_ws RZY TZY 2, w ∈ tbg := by decide +kernel
theorem inZS : ∀ w ∈ u_ws RZS TZS 5, w ∈ tbg := by decide +kernel
theorem inZT : ∀ w ∈ u_ws RZT TZT 3, w ∈ tbg := by decide +kernel
theorem inZQ : ∀ w ∈ u_ws RZQ TZQ 7, w ∈ tbg := by decide +kernel
theorem inZM : ∀ w ∈ u_ws RZM TZM 19, w ∈ tbg := by decide +kernel
end
section
def gx_E (U : State) : Prop := va_Nw (.methodLinkNest RZQ 41 yZB_init "TilePyramid") U ∧ va_Nw (.methodLinkNest RZQ 57 yZT_init "TilePyramid") U ∧ va_Nw (.methodLinkNest RZO 55 yZQ_isSample "TilePyramid") U ∧ va_Nw (.methodLinkNest RZO 67 yZQ_bitsNeeded "TilePyramid") U ∧ va_Nw (.castable "java/lang/IndexOutOfBoundsException" "java/lang/IndexOutOfBoundsException") U ∧ va_Nw (.declares ⟨"java/lang/RuntimeException", "<init>", "()V"⟩) U ∧ va_Nw (.declares ⟨"java/lang/RuntimeException", "<init>", "(Ljava/lang/String;)V"⟩) U ∧ va_Nw (.declares ⟨"java/lang/Exception", "<init>", "()V"⟩) U ∧ va_Nw (.declares ⟨"java/lang/Exception", "<init>", "(Ljava/lang/String;)V"⟩) U ∧ va_Nw (.declares ⟨"java/lang/Throwable", "<init>", "()V"⟩) U ∧ va_Nw (.declares ⟨"java/lang/Throwable", "<init>", "(Ljava/lang/String;)V"⟩) U ∧ (∃ sa : Nat, vk_R RZQ 227 "no such place" sa U) ∧ va_Nw (.castable "java/lang/IllegalArgumentException" "java/lang/IllegalArgumentException") U ∧ (∃ sa : Nat, vk_R RZQ 233 "no sample" sa U) ∧ va_Nw (.methodLinkNest RZY 33 yZQ_isWithin "TilePyramid") U ∧ va_Nw (.methodLinkNest RZK 41 yZQ_bitsNeeded "TilePyramid") U ∧ va_Nw (.castable "java/lang/IllegalStateException" "java/lang/IllegalStateException") U ∧ (∃ sa : Nat, vk_R RZQ 159 "the buffer is full" sa U) ∧ (∃ sa : Nat, vk_R RZQ 166 "no byte" sa U) ∧ (∃ sa : Nat, vk_R RZQ 176 "no mask" sa U) ∧ (∃ sa : Nat, vk_R RZQ 195 "no tile was opened" sa U) ∧ (∃ sa : Nat, vk_R RZQ 209 "no such overlap" sa U) ∧ va_Nc "java/lang/IllegalArgumentException" "java/lang/IndexOutOfBoundsException" U ∧ va_Nc "java/lang/IllegalArgumentException" "java/lang/IllegalStateException" U ∧ va_Nc "java/lang/IllegalStateException" "java/lang/IndexOutOfBoundsException" U
theorem gxE_0 {U : State} (h : gx_E U) : va_Nw (.methodLinkNest RZQ 41 yZB_init "TilePyramid") U := h.1
theorem gxE_1 {U : State} (h : gx_E U) : va_Nw (.methodLinkNest RZQ 57 yZT_init "TilePyramid") U := h.2.1
theorem gxE_2 {U : State} (h : gx_E U) : va_Nw (.methodLinkNest RZO 55 yZQ_isSample "TilePyramid") U := h.2.2.1
theorem gxE_3 {U : State} (h : gx_E U) : va_Nw (.methodLinkNest RZO 67 yZQ_bitsNeeded "TilePyramid") U := h.2.2.2.1
theorem gxE_4 {U : State} (h : gx_E U) : va_Nw (.castable "java/lang/IndexOutOfBoundsException" "java/lang/IndexOutOfBoundsException") U := h.2.2.2.2.1
theorem gxE_5 {U : State} (h : gx_E U) : va_Nw (.declares ⟨"java/lang/RuntimeException", "<init>", "()V"⟩) U := h.2.2.2.2.2.1
theorem gxE_6 {U : State} (h : gx_E U) : va_Nw (.declares ⟨"java/lang/RuntimeException", "<init>", "(Ljava/lang/String;)V"⟩) U := h.2.2.2.2.2.2.1
theorem gxE_7 {U : State} (h : gx_E U) : va_Nw (.declares ⟨"java/lang/Exception", "<init>", "()V"⟩) U := h.2.2.2.2.2.2.2.1
theorem gxE_8 {U : State} (h : gx_E U) : va_Nw (.declares ⟨"java/lang/Exception", "<init>", "(Ljava/lang/String;)V"⟩) U := h.2.2.2.2.2.2.2.2.1
theorem gxE_9 {U : State} (h : gx_E U) : va_Nw (.declares ⟨"java/lang/Throwable", "<init>", "()V"⟩) U := h.2.2.2.2.2.2.2.2.2.1
theorem gxE_10 {U : State} (h : gx_E U) : va_Nw (.declares ⟨"java/lang/Throwable", "<init>", "(Ljava/lang/String;)V"⟩) U := h.2.2.2.2.2.2.2.2.2.2.1
theorem gxE_11 {U : State} (h : gx_E U) : (∃ sa : Nat, vk_R RZQ 227 "no such place" sa U) := h.2.2.2.2.2.2.2.2.2.2.2.1
theorem gxE_12 {U : State} (h : gx_E U) : va_Nw (.castable "java/lang/IllegalArgumentException" "java/lang/IllegalArgumentException") U := h.2.2.2.2.2.2.2.2.2.2.2.2.1
theorem gxE_13 {U : State} (h : gx_E U) : (∃ sa : Nat, vk_R RZQ 233 "no sample" sa U) := h.2.2.2.2.2.2.2.2.2.2.2.2.2.1
theorem gxE_14 {U : State} (h : gx_E U) : va_Nw (.methodLinkNest RZY 33 yZQ_isWithin "TilePyramid") U := h.2.2.2.2.2.2.2.2.2.2.2.2.2.2.1
theorem gxE_15 {U : State} (h : gx_E U) : va_Nw (.methodLinkNest RZK 41 yZQ_bitsNeeded "TilePyramid") U := h.2.2.2.2.2.2.2.2.2.2.2.2.2.2.2.1
theorem gxE_16 {U : State} (h : gx_E U) : va_Nw (.castable "java/lang/IllegalStateException" "java/lang/IllegalStateException") U := h.2.2.2.2.2.2.2.2.2.2.2.2.2.2.2.2.1
theorem gxE_17 {U : State} (h : gx_E U) : (∃ sa : Nat, vk_R RZQ 159 "the buffer is full" sa U) := h.2.2.2.2.2.2.2.2.2.2.2.2.2.2.2.2.2.1
theorem gxE_18 {U : State} (h : gx_E U) : (∃ sa : Nat, vk_R RZQ 166 "no byte" sa U) := h.2.2.2.2.2.2.2.2.2.2.2.2.2.2.2.2.2.2.1
theorem gxE_19 {U : State} (h : gx_E U) : (∃ sa : Nat, vk_R RZQ 176 "no mask" sa U) := h.2.2.2.2.2.2.2.2.2.2.2.2.2.2.2.2.2.2.2.1
theorem gxE_20 {U : State} (h : gx_E U) : (∃ sa : Nat, vk_R RZQ 195 "no tile was opened" sa U) := h.2.2.2.2.2.2.2.2.2.2.2.2.2.2.2.2.2.2.2.2.1
theorem gxE_21 {U : State} (h : gx_E U) : (∃ sa : Nat, vk_R RZQ 209 "no such overlap" sa U) := h.2.2.2.2.2.2.2.2.2.2.2.2.2.2.2.2.2.2.2.2.2.1
theorem gxE_22 {U : State} (h : gx_E U) : va_Nc "java/lang/IllegalArgumentException" "java/lang/IndexOutOfBoundsException" U := h.2.2.2.2.2.2.2.2.2.2.2.2.2.2.2.2.2.2.2.2.2.2.1
theorem gxE_23 {U : State} (h : gx_E U) : va_Nc "java/lang/IllegalArgumentException" "java/lang/IllegalStateException" U := h.2.2.2.2.2.2.2.2.2.2.2.2.2.2.2.2.2.2.2.2.2.2.2.1
theorem gxE_24 {U : State} (h : gx_E U) : va_Nc "java/lang/IllegalStateException" "java/lang/IndexOutOfBoundsException" U := h.2.2.2.2.2.2.2.2.2.2.2.2.2.2.2.2.2.2.2.2.2.2.2.2
theorem gx_E.warm {s U : State} (hW : s.WarmedH U.vm) (h : gx_E s) : gx_E U := ⟨va_Nw.warmM hW (gxE_0 h), va_Nw.warmM hW (gxE_1 h), va_Nw.warmM hW (gxE_2 h), va_Nw.warmM hW (gxE_3 h), va_Nw.warmC hW (gxE_4 h), va_Nw.warmD hW (gxE_5 h), va_Nw.warmD hW (gxE_6 h), va_Nw.warmD hW (gxE_7 h), va_Nw.warmD hW (gxE_8 h), va_Nw.warmD hW (gxE_9 h), va_Nw.warmD hW (gxE_10 h), ((gxE_11 h).elim fun sa q => ⟨sa, vk_R.warm hW q⟩), va_Nw.warmC hW (gxE_12 h), ((gxE_13 h).elim fun sa q => ⟨sa, vk_R.warm hW q⟩), va_Nw.warmM hW (gxE_14 h), va_Nw.warmM hW (gxE_15 h), va_Nw.warmC hW (gxE_16 h), ((gxE_17 h).elim fun sa q => ⟨sa, vk_R.warm hW q⟩), ((gxE_18 h).elim fun sa q => ⟨sa, vk_R.warm hW q⟩), ((gxE_19 h).elim fun sa q => ⟨sa, vk_R.warm hW q⟩), ((gxE_20 h).elim fun sa q => ⟨sa, vk_R.warm hW q⟩), ((gxE_21 h).elim fun sa q => ⟨sa, vk_R.warm hW q⟩), va_Nc.moved hW.alike (gxE_22 h), va_Nc.moved hW.alike (gxE_23 h), va_Nc.moved hW.alike (gxE_24 h)⟩
theorem tb_0 {c : Cond} (h : c ∈ tbg) : GoodIn tbg (c :: tbg) := by
  intro w hw
  rcases List.mem_cons.mp hw with rfl | hw
  · exact ⟨h, good_of_word (tb_good h)⟩
  · exact ⟨hw, good_of_word (tb_good hw)⟩
theorem tb_g {ws : List Cond} (h : ∀ w ∈ ws, w ∈ tbg) : GoodIn tbg ws := fun w hw => ⟨h w hw, good_of_word (tb_good (h w hw))⟩
theorem tb_c {w : Cond} {ws : List Cond} (h : w ∈ tbg) (t : ∀ x ∈ ws, x ∈ tbg) : ∀ x ∈ w :: ws, x ∈ tbg := fun x hx => (List.mem_cons.mp hx).elim (fun e => by rw [e]; exact h) (t x)
theorem tb_S {own : String} {idx : Nat} {y : MethodName} {c : Cond} (h1 : Cond.methodLink own idx y ∈ tbg) (h2 : Cond.static y ∈ tbg) (h3 : Cond.initialized y.cls ∈ tbg) (hc : c ∈ tbg) : GoodIn tbg (va_wsS own idx y (c :: tbg)) :=
  tb_g (tb_c h1 (tb_c h2 (tb_c h3 (tb_c hc (fun _ h => h)))))
theorem tb_V {own C : String} {idx : Nat} {y : MethodName} {c : Cond} (h1 : Cond.methodLink own idx y ∈ tbg) (h2 : Cond.instanceMethod y ∈ tbg) (h3 : Cond.selects C y y ∈ tbg) (h4 : Cond.initialized C ∈ tbg) (hc : c ∈ tbg) : GoodIn tbg (wsV own idx C y (c :: tbg)) :=
  tb_g (tb_c h1 (tb_c h2 (tb_c h3 (tb_c h4 (tb_c hc (fun _ h => h))))))
def gr_Pc (dC : Nat → ClassId) (dI : Nat → Nat → Nat) (tys : List (ClassId × FieldType)) (av : List Value) (ws : va_W) : Array Value → State → Prop := va_Pc av (fun U => va_P (dC, dI) vwCl ws U.heap ∧ va_K (dC, dI) vwCl tys U ∧ gx_E U)
def gw_Pc (dC : Nat → ClassId) (dI : Nat → Nat → Nat) (tys : List (ClassId × FieldType)) (av : List Value) (ws : va_W) (sz : Nat) : Array Value → State → Prop := va_Pc av (fun U => U.heap.size = sz ∧ va_P (dC, dI) vwCl ws U.heap ∧ va_K (dC, dI) vwCl tys U ∧ gx_E U ∧ va_D (fun _ => True) ws)
abbrev gw_B (dC : Nat → ClassId) (dI : Nat → Nat → Nat) (tys : List (ClassId × FieldType)) (A : Nat → Prop) (ws : va_W) (t : State) : Prop := va_P (dC, dI) vwCl ws t.heap ∧ va_K (dC, dI) vwCl tys t ∧ va_D A ws
section HelpRows
variable {dC : Nat → ClassId} {dI : Nat → Nat → Nat} {tys : List (ClassId × FieldType)} {av : List Value} {ws : va_W} {sz : Nat} {H : Heap} {s U : State} {A : Nat → Prop}
theorem gr_blind : FrameBlind (gr_Pc dC dI tys av ws) := fun a U g mk q => ⟨q.1, q.2.1, va_K.moved (u := U) (U := U.calling g mk a) (Vm.Alike.refl U.vm) q.2.2.1, gx_E.warm (s := U) (U := U.calling g mk a) (State.WarmedH.refl U) q.2.2.2⟩
theorem gr_pre (hP : va_P (dC, dI) vwCl ws H) (hK : va_K (dC, dI) vwCl tys s) (hE : gx_E s) (hU : U.heap = H) (hW : s.WarmedH U.vm) : gr_Pc dC dI tys av ws av.toArray U := ⟨rfl, by rw [hU]; exact hP, va_K.moved hW.alike hK, gx_E.warm hW hE⟩
theorem gw_blind : FrameBlind (gw_Pc dC dI tys av ws sz) := fun a U g mk q => ⟨q.1, q.2.1, q.2.2.1, va_K.moved (u := U) (U := U.calling g mk a) (Vm.Alike.refl U.vm) q.2.2.2.1, gx_E.warm (s := U) (U := U.calling g mk a) (State.WarmedH.refl U) q.2.2.2.2.1, q.2.2.2.2.2⟩
theorem gw_pre (hP : va_P (dC, dI) vwCl ws H) (hD : va_D A ws) (hK : va_K (dC, dI) vwCl tys s) (hE : gx_E s) (hU : U.heap = H) (hW : s.WarmedH U.vm) : gw_Pc dC dI tys av ws H.size av.toArray U := ⟨rfl, by rw [hU], by rw [hU]; exact hP, va_K.moved hW.alike hK, gx_E.warm hW hE, hD.weaken (fun _ _ _ _ => trivial)⟩
theorem gx_Q {p : Program} {l : Launch} {e : Env} {R : Room} {m : MethodId} {args : Array Value} {below : List Frame} {meth : Method} {c : Code} {locs : List Loc} {cells slots : Nat} {Q : State → Prop} {g : JFrame} (k : ∀ Q9 : State → Prop, Q9 = Q → W p l e R s m args below meth c H locs cells slots Q9 g) : W p l e R s m args below meth c H locs cells slots Q g := k Q rfl
end HelpRows
end
section
theorem dZP_sampleAt_0 : decode cZP_sampleAt 0 = .ok (.aload_n 0, 1) := by decide +kernel
theorem dZP_sampleAt_1 : decode cZP_sampleAt 1 = .ok (.getfield 16, 3) := by decide +kernel
theorem dZP_sampleAt_4 : decode cZP_sampleAt 4 = .ok (.iload_n 2, 1) := by decide +kernel
theorem dZP_sampleAt_5 : decode cZP_sampleAt 5 = .ok (.aload_n 0, 1) := by decide +kernel
theorem dZP_sampleAt_6 : decode cZP_sampleAt 6 = .ok (.getfield 7, 3) := by decide +kernel
theorem dZP_sampleAt_9 : decode cZP_sampleAt 9 = .ok (.imul, 1) := by decide +kernel
theorem dZP_sampleAt_10 : decode cZP_sampleAt 10 = .ok (.iload_n 1, 1) := by decide +kernel
theorem dZP_sampleAt_11 : decode cZP_sampleAt 11 = .ok (.iadd, 1) := by decide +kernel
theorem dZP_sampleAt_12 : decode cZP_sampleAt 12 = .ok (.iaload, 1) := by decide +kernel
theorem dZP_sampleAt_13 : decode cZP_sampleAt 13 = .ok (.ireturn, 1) := by decide +kernel
abbrev wsZP_sampleAt : List Cond := .code yZP_sampleAt cZP_sampleAt 3 (some .int) :: tbg
def wp_ZP_sampleAt (pw : Int32) (ph : Int32) (pn : Nat) (pf : Nat → Int32) (a1 : Int32) (a2 : Int32) (post : Int32 → Prop) : Prop := vp_in ((a2 * pw) + a1) pn ∧ (post (pf ((a2 * pw) + a1).toNatClampNeg))
abbrev rm_ZP_sampleAt : Room := { frames := 0, cells := 0, slots := 0, locals := 0 }
set_option maxHeartbeats 4000000 in
set_option maxRecDepth 100000 in
theorem kt_ZP_sampleAt (l : Launch) (dC : Nat → ClassId) (dI : Nat → Nat → Nat) (cI : ClassId) (op opa : Nat) (pw : Int32) (ph : Int32) (pn : Nat) (pf : Nat → Int32) (a1 : Int32) (a2 : Int32) (post : Int32 → Prop) (hw : wp_ZP_sampleAt pw ph pn pf a1 a2 post) : Met l yZP_sampleAt wsZP_sampleAt rm_ZP_sampleAt (gr_Pc dC dI [(cI, .int)] [.ref op, .int a1, .int a2] [(op, .inr (1, [.int pw, .int ph, .ref opa])), (opa, .inl (cI, pn, .inl pf))]) (vp_Si post) 0 0 (fun _ => False) := by
  refine Met.ofW (cc := cZP_sampleAt) (maxL := 3) (ret := (some .int)) (by decide) rfl ?_
  intro p e s m args below meth c s₁ B hml hv
  obtain ⟨ha9, hP, hK, hE⟩ := hv
  have hx := B.exec
  have hb := B.bytes
  have hr := B.returns
  have hts0 := atoms_spec (ws := wsZP_sampleAt) B.pre
  have hts : ∀ w ∈ tbg, w.before args s = true := fun w h => hts0 w (List.mem_cons_of_mem _ h)
  have hown : s.vm.findClass RZP = some m.cls := findClass_of_methodNamed B.named
  have hlocks := B.notSynchronized
  refine gx_Q (fun Q9 hQ9 => ?_)
  have hl := lv_entry ([.ref op, .int a1, .int a2]) (n := 3) (Nat.le_of_ble_eq_true rfl)
  have he9 : entryFrame m args 3 = F0 m 0 ((lg_sl [.ref op, .int a1, .int a2] ++ List.replicate (3 - (lg_sl ([.ref op, .int a1, .int a2] : List Value)).length) Slot.unset).toArray) [] := by rw [ha9]; exact lg_entry_eq m [.ref op, .int a1, .int a2] 3
  rw [he9]
  generalize (lg_sl ([.ref op, .int a1, .int a2] : List Value) ++ List.replicate (3 - (lg_sl ([.ref op, .int a1, .int a2] : List Value)).length) Slot.unset).toArray = ls at hl ⊢
  have hl : lv_has ls 3 [(0, .ref op), (1, .int a1), (2, .int a2)] := hl
  refine lv_aload_n hx hb dZP_sampleAt_0 rfl (lv_at hl 0 rfl) ?_
  refine va_get (D := (dC, dI)) (ci := 1) (v := .ref opa) (C := RZP) (T := TZP) (N := 3) hx hb hts inZP hown hK hP 0 rfl rfl 2 (by decide) (hts _ mm_45) (fun _ h9 => h9) rfl dZP_sampleAt_1 ?_
  refine lv_iload_n hx hb dZP_sampleAt_4 rfl (lv_at hl 2 rfl) ?_
  refine lv_aload_n hx hb dZP_sampleAt_5 rfl (lv_at hl 0 rfl) ?_
  refine va_get (D := (dC, dI)) (ci := 1) (v := .int pw) (C := RZP) (T := TZP) (N := 3) hx hb hts inZP hown hK hP 0 rfl rfl 0 (by decide) (hts _ mm_37) (fun _ h9 => h9) rfl dZP_sampleAt_6 ?_
  refine lv_imul hx hb dZP_sampleAt_9 ?_
  refine lv_iload_n hx hb dZP_sampleAt_10 rfl (lv_at hl 1 rfl) ?_
  refine lv_iadd hx hb dZP_sampleAt_11 ?_
  obtain ⟨h_1, hw⟩ := hw
  refine va_iald hx hb hK hP 1 0 rfl rfl h_1 dZP_sampleAt_12 ?_
  subst hQ9
  exact W.iret (v := pf ((a2 * pw) + a1).toNatClampNeg) hx hb hr (fun t ht hW => ⟨pf ((a2 * pw) + a1).toNatClampNeg, rfl, hw, ht⟩) (fun q h => nomatch h) dZP_sampleAt_13
theorem dZP_sumOfPart_0 : decode cZP_sumOfPart 0 = .ok (.iconst 0, 1) := by decide +kernel
theorem dZP_sumOfPart_1 : decode cZP_sumOfPart 1 = .ok (.istore 5, 2) := by decide +kernel
theorem dZP_sumOfPart_3 : decode cZP_sumOfPart 3 = .ok (.iload_n 2, 1) := by decide +kernel
theorem dZP_sumOfPart_4 : decode cZP_sumOfPart 4 = .ok (.istore 6, 2) := by decide +kernel
theorem dZP_sumOfPart_6 : decode cZP_sumOfPart 6 = .ok (.iload 6, 2) := by decide +kernel
theorem dZP_sumOfPart_8 : decode cZP_sumOfPart 8 = .ok (.iload_n 2, 1) := by decide +kernel
theorem dZP_sumOfPart_9 : decode cZP_sumOfPart 9 = .ok (.iload 4, 2) := by decide +kernel
theorem dZP_sumOfPart_11 : decode cZP_sumOfPart 11 = .ok (.iadd, 1) := by decide +kernel
theorem dZP_sumOfPart_12 : decode cZP_sumOfPart 12 = .ok (.if_icmp .ge 39, 3) := by decide +kernel
theorem dZP_sumOfPart_15 : decode cZP_sumOfPart 15 = .ok (.iload_n 1, 1) := by decide +kernel
theorem dZP_sumOfPart_16 : decode cZP_sumOfPart 16 = .ok (.istore 7, 2) := by decide +kernel
theorem dZP_sumOfPart_18 : decode cZP_sumOfPart 18 = .ok (.iload 7, 2) := by decide +kernel
theorem dZP_sumOfPart_20 : decode cZP_sumOfPart 20 = .ok (.iload_n 1, 1) := by decide +kernel
theorem dZP_sumOfPart_21 : decode cZP_sumOfPart 21 = .ok (.iload_n 3, 1) := by decide +kernel
theorem dZP_sumOfPart_22 : decode cZP_sumOfPart 22 = .ok (.iadd, 1) := by decide +kernel
theorem dZP_sumOfPart_23 : decode cZP_sumOfPart 23 = .ok (.if_icmp .ge 22, 3) := by decide +kernel
theorem dZP_sumOfPart_26 : decode cZP_sumOfPart 26 = .ok (.iload 5, 2) := by decide +kernel
theorem dZP_sumOfPart_28 : decode cZP_sumOfPart 28 = .ok (.aload_n 0, 1) := by decide +kernel
theorem dZP_sumOfPart_29 : decode cZP_sumOfPart 29 = .ok (.iload 7, 2) := by decide +kernel
theorem dZP_sumOfPart_31 : decode cZP_sumOfPart 31 = .ok (.iload 6, 2) := by decide +kernel
theorem dZP_sumOfPart_33 : decode cZP_sumOfPart 33 = .ok (.invokevirtual 24, 3) := by decide +kernel
theorem dZP_sumOfPart_36 : decode cZP_sumOfPart 36 = .ok (.iadd, 1) := by decide +kernel
theorem dZP_sumOfPart_37 : decode cZP_sumOfPart 37 = .ok (.istore 5, 2) := by decide +kernel
theorem dZP_sumOfPart_39 : decode cZP_sumOfPart 39 = .ok (.iinc 7 1, 3) := by decide +kernel
theorem dZP_sumOfPart_42 : decode cZP_sumOfPart 42 = .ok (.goto (-24), 3) := by decide +kernel
theorem dZP_sumOfPart_45 : decode cZP_sumOfPart 45 = .ok (.iinc 6 1, 3) := by decide +kernel
theorem dZP_sumOfPart_48 : decode cZP_sumOfPart 48 = .ok (.goto (-42), 3) := by decide +kernel
theorem dZP_sumOfPart_51 : decode cZP_sumOfPart 51 = .ok (.iload 5, 2) := by decide +kernel
theorem dZP_sumOfPart_53 : decode cZP_sumOfPart 53 = .ok (.ireturn, 1) := by decide +kernel
abbrev wsZP_sumOfPart : List Cond := .code yZP_sumOfPart cZP_sumOfPart 8 (some .int) :: tbg
def lp_ZP_sumOfPart_18 (pw : Int32) (ph : Int32) (pn : Nat) (pf : Nat → Int32) (a1 : Int32) (a2 : Int32) (a3 : Int32) (a4 : Int32) (x5_6 : Int32) (x6_6 : Int32) (post : Int32 → Prop) (K18 : Int32 → Int32 → Prop) (n : Nat) : Int32 → Int32 → Prop := Nat.rec (motive := fun _ => Int32 → Int32 → Prop) (fun (x5_18 : Int32) (x7_18 : Int32) => False) (fun _ ih18 (x5_18 : Int32) (x7_18 : Int32) => (((a1 + a3) ≤ x7_18 → (K18 x5_18 x7_18)) ∧ (¬ (a1 + a3) ≤ x7_18 → (wp_ZP_sampleAt pw ph pn pf x7_18 x6_6 (fun r_3 : Int32 => ih18 (x5_18 + r_3) (x7_18 + (1 : Int32))))))) n
def lp_ZP_sumOfPart_6 (pw : Int32) (ph : Int32) (pn : Nat) (pf : Nat → Int32) (a1 : Int32) (a2 : Int32) (a3 : Int32) (a4 : Int32) (post : Int32 → Prop) (K6 : Int32 → Int32 → Prop) (n : Nat) : Int32 → Int32 → Prop := Nat.rec (motive := fun _ => Int32 → Int32 → Prop) (fun (x5_6 : Int32) (x6_6 : Int32) => False) (fun _ ih6 (x5_6 : Int32) (x6_6 : Int32) => (((a2 + a4) ≤ x6_6 → (K6 x5_6 x6_6)) ∧ (¬ (a2 + a4) ≤ x6_6 → (∃ n : Nat, lp_ZP_sumOfPart_18 pw ph pn pf a1 a2 a3 a4 x5_6 x6_6 post (fun (x5_18e : Int32) (x7_18e : Int32) => ih6 x5_18e (x6_6 + (1 : Int32))) n x5_6 a1)))) n
def wp_ZP_sumOfPart (pw : Int32) (ph : Int32) (pn : Nat) (pf : Nat → Int32) (a1 : Int32) (a2 : Int32) (a3 : Int32) (a4 : Int32) (post : Int32 → Prop) : Prop := ∃ n : Nat, lp_ZP_sumOfPart_6 pw ph pn pf a1 a2 a3 a4 post (fun (x5_6e : Int32) (x6_6e : Int32) => post x5_6e) n (0 : Int32) a2
abbrev rm_ZP_sumOfPart : Room := { frames := 1, cells := 0, slots := 0, locals := 22 }
set_option maxHeartbeats 4000000 in
set_option maxRecDepth 100000 in
theorem kt_ZP_sumOfPart (l : Launch) (dC : Nat → ClassId) (dI : Nat → Nat → Nat) (cI : ClassId) (op opa : Nat) (pw : Int32) (ph : Int32) (pn : Nat) (pf : Nat → Int32) (a1 : Int32) (a2 : Int32) (a3 : Int32) (a4 : Int32) (post : Int32 → Prop) (hw : wp_ZP_sumOfPart pw ph pn pf a1 a2 a3 a4 post) : Met l yZP_sumOfPart wsZP_sumOfPart rm_ZP_sumOfPart (gr_Pc dC dI [(cI, .int)] [.ref op, .int a1, .int a2, .int a3, .int a4] [(op, .inr (1, [.int pw, .int ph, .ref opa])), (opa, .inl (cI, pn, .inl pf))]) (vp_Si post) 0 0 (fun _ => False) := by
  refine Met.ofW (cc := cZP_sumOfPart) (maxL := 8) (ret := (some .int)) (by decide) rfl ?_
  intro p e s m args below meth c s₁ B hml hv
  obtain ⟨ha9, hP, hK, hE⟩ := hv
  have hx := B.exec
  have hb := B.bytes
  have hr := B.returns
  have hts0 := atoms_spec (ws := wsZP_sumOfPart) B.pre
  have hts : ∀ w ∈ tbg, w.before args s = true := fun w h => hts0 w (List.mem_cons_of_mem _ h)
  have hown : s.vm.findClass RZP = some m.cls := findClass_of_methodNamed B.named
  have hlocks := B.notSynchronized
  refine gx_Q (fun Q9 hQ9 => ?_)
  have hl := lv_entry ([.ref op, .int a1, .int a2, .int a3, .int a4]) (n := 8) (Nat.le_of_ble_eq_true rfl)
  have he9 : entryFrame m args 8 = F0 m 0 ((lg_sl [.ref op, .int a1, .int a2, .int a3, .int a4] ++ List.replicate (8 - (lg_sl ([.ref op, .int a1, .int a2, .int a3, .int a4] : List Value)).length) Slot.unset).toArray) [] := by rw [ha9]; exact lg_entry_eq m [.ref op, .int a1, .int a2, .int a3, .int a4] 8
  rw [he9]
  generalize (lg_sl ([.ref op, .int a1, .int a2, .int a3, .int a4] : List Value) ++ List.replicate (8 - (lg_sl ([.ref op, .int a1, .int a2, .int a3, .int a4] : List Value)).length) Slot.unset).toArray = ls at hl ⊢
  have hl : lv_has ls 8 [(0, .ref op), (1, .int a1), (2, .int a2), (3, .int a3), (4, .int a4)] := hl
  refine lv_iconst (v := (0 : Int32)) hx hb dZP_sumOfPart_0 (by decide) ?_
  refine lv_istore (lv' := [(5, .int (0 : Int32)), (0, .ref op), (1, .int a1), (2, .int a2), (3, .int a3), (4, .int a4)]) hx hb dZP_sumOfPart_1 hl (by decide) rfl (fun ls hl => ?_)
  refine lv_iload_n hx hb dZP_sumOfPart_3 rfl (lv_at hl 3 rfl) ?_
  refine lv_istore (lv' := [(6, .int a2), (5, .int (0 : Int32)), (0, .ref op), (1, .int a1), (2, .int a2), (3, .int a3), (4, .int a4)]) hx hb dZP_sumOfPart_4 hl (by decide) rfl (fun ls hl => ?_)
  have lp6 : ∀ K6 : Int32 → Int32 → Prop, (∀ (x5_6 : Int32) (x6_6 : Int32), K6 x5_6 x6_6 → ∀ ls : Array Slot, lv_has ls 8 [(6, .int x6_6), (5, .int x5_6), (0, .ref op), (1, .int a1), (2, .int a2), (3, .int a3), (4, .int a4)] → W p l e (headSpec wsZP_sumOfPart rm_ZP_sumOfPart).room s m args below meth c s.heap [] 0 0 Q9 (F0 m 51 ls [])) → ∀ (n : Nat) (x5_6 : Int32) (x6_6 : Int32), lp_ZP_sumOfPart_6 pw ph pn pf a1 a2 a3 a4 post K6 n x5_6 x6_6 → ∀ ls : Array Slot, lv_has ls 8 [(6, .int x6_6), (5, .int x5_6), (0, .ref op), (1, .int a1), (2, .int a2), (3, .int a3), (4, .int a4)] → W p l e (headSpec wsZP_sumOfPart rm_ZP_sumOfPart).room s m args below meth c s.heap [] 0 0 Q9 (F0 m 6 ls []) := by
    intro K6 aft6 n
    induction n with
    | zero => intro x5_6 x6_6 hw; exact False.elim hw
    | succ n ih6 =>
      intro x5_6 x6_6 hw ls hl
      refine lv_iload hx hb dZP_sumOfPart_6 (lv_at hl 0 rfl) ?_
      refine lv_iload_n hx hb dZP_sumOfPart_8 rfl (lv_at hl 4 rfl) ?_
      refine lv_iload hx hb dZP_sumOfPart_9 (lv_at hl 6 rfl) ?_
      refine lv_iadd hx hb dZP_sumOfPart_11 ?_
      refine lv_icmp_ge (tgt := 51) hx hb dZP_sumOfPart_12 (by decide) (fun c_1 => ?_) (fun c_1 => ?_)
      · have hw := hw.1 c_1
        exact aft6 x5_6 x6_6 hw ls (lv_sub hl [0, 1, 2, 3, 4, 5, 6] rfl)
      · have hw := hw.2 c_1
        refine lv_iload_n hx hb dZP_sumOfPart_15 rfl (lv_at hl 3 rfl) ?_
        refine lv_istore (lv' := [(7, .int a1), (6, .int x6_6), (5, .int x5_6), (0, .ref op), (1, .int a1), (2, .int a2), (3, .int a3), (4, .int a4)]) hx hb dZP_sumOfPart_16 hl (by decide) rfl (fun ls hl => ?_)
        have lp18 : ∀ K18 : Int32 → Int32 → Prop, (∀ (x5_18 : Int32) (x7_18 : Int32), K18 x5_18 x7_18 → ∀ ls : Array Slot, lv_has ls 8 [(7, .int x7_18), (6, .int x6_6), (5, .int x5_18), (0, .ref op), (1, .int a1), (2, .int a2), (3, .int a3), (4, .int a4)] → W p l e (headSpec wsZP_sumOfPart rm_ZP_sumOfPart).room s m args below meth c s.heap [] 0 0 Q9 (F0 m 45 ls [])) → ∀ (n : Nat) (x5_18 : Int32) (x7_18 : Int32), lp_ZP_sumOfPart_18 pw ph pn pf a1 a2 a3 a4 x5_6 x6_6 post K18 n x5_18 x7_18 → ∀ ls : Array Slot, lv_has ls 8 [(7, .int x7_18), (6, .int x6_6), (5, .int x5_18), (0, .ref op), (1, .int a1), (2, .int a2), (3, .int a3), (4, .int a4)] → W p l e (headSpec wsZP_sumOfPart rm_ZP_sumOfPart).room s m args below meth c s.heap [] 0 0 Q9 (F0 m 18 ls []) := by
          intro K18 aft18 n
          induction n with
          | zero => intro x5_18 x7_18 hw; exact False.elim hw
          | succ n ih18 =>
            intro x5_18 x7_18 hw ls hl
            refine lv_iload hx hb dZP_sumOfPart_18 (lv_at hl 0 rfl) ?_
            refine lv_iload_n hx hb dZP_sumOfPart_20 rfl (lv_at hl 4 rfl) ?_
            refine lv_iload_n hx hb dZP_sumOfPart_21 rfl (lv_at hl 6 rfl) ?_
            refine lv_iadd hx hb dZP_sumOfPart_22 ?_
            refine lv_icmp_ge (tgt := 45) hx hb dZP_sumOfPart_23 (by decide) (fun c_2 => ?_) (fun c_2 => ?_)
            · have hw := hw.1 c_2
              exact aft18 x5_18 x7_18 hw ls (lv_sub hl [0, 1, 2, 3, 4, 5, 6, 7] rfl)
            · have hw := hw.2 c_2
              refine lv_iload hx hb dZP_sumOfPart_26 (lv_at hl 2 rfl) ?_
              refine lv_aload_n hx hb dZP_sumOfPart_28 rfl (lv_at hl 3 rfl) ?_
              refine lv_iload hx hb dZP_sumOfPart_29 (lv_at hl 0 rfl) ?_
              refine lv_iload hx hb dZP_sumOfPart_31 (lv_at hl 1 rfl) ?_
              refine vp_callSi (va_runV (As := [.int x7_18, .int x6_6]) (rest := [.int x5_18]) ⟨hx, hb, hml, hown, hts⟩ (kt_ZP_sampleAt l dC dI cI op opa pw ph pn pf x7_18 x6_6 _ hw) (cwV 2 hts (tb_V mm_419 mm_331 mm_332 mm_3 mm_333) rfl rfl rfl (by decide +kernel) ⟨Nat.le_of_ble_eq_true rfl, Nat.le_of_ble_eq_true rfl⟩) ⟨gr_blind, va_recv hK hP (ci := 1) (q0 := 0) rfl rfl, fun U hU hW => gr_pre hP hK hE hU hW⟩ rfl rfl hl.1 rfl (lv_room (Nat.le_of_ble_eq_true rfl)) dZP_sumOfPart_33 ⟨Nat.le_of_ble_eq_true rfl, Nat.le_of_ble_eq_true rfl⟩).run (fun r_3 hw => ?_)
              refine lv_iadd hx hb dZP_sumOfPart_36 ?_
              refine lv_istore (lv' := [(5, .int (x5_18 + r_3)), (7, .int x7_18), (6, .int x6_6), (0, .ref op), (1, .int a1), (2, .int a2), (3, .int a3), (4, .int a4)]) hx hb dZP_sumOfPart_37 hl (by decide) rfl (fun ls hl => ?_)
              refine lv_iinc (v := x7_18 + (1 : Int32)) (lv' := [(7, .int (x7_18 + (1 : Int32))), (5, .int (x5_18 + r_3)), (6, .int x6_6), (0, .ref op), (1, .int a1), (2, .int a2), (3, .int a3), (4, .int a4)]) hx hb dZP_sumOfPart_39 hl (k := 1) rfl rfl (by decide) rfl (fun ls hl => ?_)
              refine lv_goto (tgt := 18) hx hb dZP_sumOfPart_42 (by decide) ?_
              exact ih18 (x5_18 + r_3) (x7_18 + (1 : Int32)) hw ls (lv_sub hl [0, 2, 1, 3, 4, 5, 6, 7] rfl)
        obtain ⟨n18, hw⟩ := hw
        refine lp18 _ (fun x5_18e x7_18e hw ls hl => ?_) n18 x5_6 a1 hw ls (lv_sub hl [0, 1, 2, 3, 4, 5, 6, 7] rfl)
        refine lv_iinc (v := x6_6 + (1 : Int32)) (lv' := [(6, .int (x6_6 + (1 : Int32))), (7, .int x7_18e), (5, .int x5_18e), (0, .ref op), (1, .int a1), (2, .int a2), (3, .int a3), (4, .int a4)]) hx hb dZP_sumOfPart_45 hl (k := 1) rfl rfl (by decide) rfl (fun ls hl => ?_)
        refine lv_goto (tgt := 6) hx hb dZP_sumOfPart_48 (by decide) ?_
        exact ih6 x5_18e (x6_6 + (1 : Int32)) hw ls (lv_sub hl [0, 2, 3, 4, 5, 6, 7] rfl)
  obtain ⟨n6, hw⟩ := hw
  refine lp6 _ (fun x5_6e x6_6e hw ls hl => ?_) n6 (0 : Int32) a2 hw ls (lv_sub hl [0, 1, 2, 3, 4, 5, 6] rfl)
  refine lv_iload hx hb dZP_sumOfPart_51 (lv_at hl 1 rfl) ?_
  subst hQ9
  exact W.iret (v := x5_6e) hx hb hr (fun t ht hW => ⟨x5_6e, rfl, hw, ht⟩) (fun q h => nomatch h) dZP_sumOfPart_53
theorem dZP_setSample_0 : decode cZP_setSample 0 = .ok (.aload_n 0, 1) := by decide +kernel
theorem dZP_setSample_1 : decode cZP_setSample 1 = .ok (.getfield 16, 3) := by decide +kernel
theorem dZP_setSample_4 : decode cZP_setSample 4 = .ok (.iload_n 2, 1) := by decide +kernel
theorem dZP_setSample_5 : decode cZP_setSample 5 = .ok (.aload_n 0, 1) := by decide +kernel
theorem dZP_setSample_6 : decode cZP_setSample 6 = .ok (.getfield 7, 3) := by decide +kernel
theorem dZP_setSample_9 : decode cZP_setSample 9 = .ok (.imul, 1) := by decide +kernel
theorem dZP_setSample_10 : decode cZP_setSample 10 = .ok (.iload_n 1, 1) := by decide +kernel
theorem dZP_setSample_11 : decode cZP_setSample 11 = .ok (.iadd, 1) := by decide +kernel
theorem dZP_setSample_12 : decode cZP_setSample 12 = .ok (.iload_n 3, 1) := by decide +kernel
theorem dZP_setSample_13 : decode cZP_setSample 13 = .ok (.iastore, 1) := by decide +kernel
theorem dZP_setSample_14 : decode cZP_setSample 14 = .ok (.return_, 1) := by decide +kernel
abbrev wsZP_setSample : List Cond := .code yZP_setSample cZP_setSample 4 none :: tbg
def wp_ZP_setSample (pw : Int32) (ph : Int32) (pn : Nat) (pf : Nat → Int32) (a1 : Int32) (a2 : Int32) (a3 : Int32) (post : (Nat → Int32) → Prop) : Prop := vp_in ((a2 * pw) + a1) pn ∧ (post (upd pf ((a2 * pw) + a1).toNatClampNeg a3))
abbrev rm_ZP_setSample : Room := { frames := 0, cells := 0, slots := 0, locals := 0 }
set_option maxHeartbeats 4000000 in
set_option maxRecDepth 100000 in
theorem kt_ZP_setSample (l : Launch) (dC : Nat → ClassId) (dI : Nat → Nat → Nat) (cI : ClassId) (op opa : Nat) (sz : Nat) (pw : Int32) (ph : Int32) (pn : Nat) (pf : Nat → Int32) (a1 : Int32) (a2 : Int32) (a3 : Int32) (post : (Nat → Int32) → Prop) (hw : wp_ZP_setSample pw ph pn pf a1 a2 a3 post) : Met l yZP_setSample wsZP_setSample rm_ZP_setSample (gw_Pc dC dI [(cI, .int)] [.ref op, .int a1, .int a2, .int a3] [(op, .inr (1, [.int pw, .int ph, .ref opa])), (opa, .inl (cI, pn, .inl pf))] sz) (va_Qv (fun (u : (Nat → Int32)) => post u) (fun u t => gw_B dC dI [(cI, .int)] (va_A [(op, .inr (1, [.int pw, .int ph, .ref opa])), (opa, .inl (cI, pn, .inl pf))] sz) [(op, .inr (1, [.int pw, .int ph, .ref opa])), (opa, .inl (cI, pn, .inl u))] t) (va_A [(op, .inr (1, [.int pw, .int ph, .ref opa])), (opa, .inl (cI, pn, .inl pf))] sz)) 0 0 (va_A [(op, .inr (1, [.int pw, .int ph, .ref opa])), (opa, .inl (cI, pn, .inl pf))] sz) := by
  refine Met.ofW (cc := cZP_setSample) (maxL := 4) (ret := none) (by decide) rfl ?_
  intro p e s m args below meth c s₁ B hml hv
  obtain ⟨ha9, hsz, hP, hK, hE, hD0⟩ := hv
  have hx := B.exec
  have hb := B.bytes
  have hr := B.returns
  have hts0 := atoms_spec (ws := wsZP_setSample) B.pre
  have hts : ∀ w ∈ tbg, w.before args s = true := fun w h => hts0 w (List.mem_cons_of_mem _ h)
  have hown : s.vm.findClass RZP = some m.cls := findClass_of_methodNamed B.named
  have hlocks := B.notSynchronized
  subst hsz
  have hD := hD0.self (sz := s.heap.size)
  refine gx_Q (fun Q9 hQ9 => ?_)
  generalize hAe : va_A [(op, .inr (1, [.int pw, .int ph, .ref opa])), (opa, .inl (cI, pn, .inl pf))] s.heap.size = A at hD hQ9 ⊢
  have hA : ∀ q : Nat, s.heap.size ≤ q → A q := fun q h => by rw [← hAe]; exact Or.inr h
  have hS : va_S A s.heap s.heap [] := va_S.rf
  have hl := lv_entry ([.ref op, .int a1, .int a2, .int a3]) (n := 4) (Nat.le_of_ble_eq_true rfl)
  have he9 : entryFrame m args 4 = F0 m 0 ((lg_sl [.ref op, .int a1, .int a2, .int a3] ++ List.replicate (4 - (lg_sl ([.ref op, .int a1, .int a2, .int a3] : List Value)).length) Slot.unset).toArray) [] := by rw [ha9]; exact lg_entry_eq m [.ref op, .int a1, .int a2, .int a3] 4
  rw [he9]
  generalize (lg_sl ([.ref op, .int a1, .int a2, .int a3] : List Value) ++ List.replicate (4 - (lg_sl ([.ref op, .int a1, .int a2, .int a3] : List Value)).length) Slot.unset).toArray = ls at hl ⊢
  have hl : lv_has ls 4 [(0, .ref op), (1, .int a1), (2, .int a2), (3, .int a3)] := hl
  refine lv_aload_n hx hb dZP_setSample_0 rfl (lv_at hl 0 rfl) ?_
  refine va_get (D := (dC, dI)) (ci := 1) (v := .ref opa) (C := RZP) (T := TZP) (N := 3) hx hb hts inZP hown hK hP 0 rfl rfl 2 (by decide) (hts _ mm_45) (fun _ h9 => h9) rfl dZP_setSample_1 ?_
  refine lv_iload_n hx hb dZP_setSample_4 rfl (lv_at hl 2 rfl) ?_
  refine lv_aload_n hx hb dZP_setSample_5 rfl (lv_at hl 0 rfl) ?_
  refine va_get (D := (dC, dI)) (ci := 1) (v := .int pw) (C := RZP) (T := TZP) (N := 3) hx hb hts inZP hown hK hP 0 rfl rfl 0 (by decide) (hts _ mm_37) (fun _ h9 => h9) rfl dZP_setSample_6 ?_
  refine lv_imul hx hb dZP_setSample_9 ?_
  refine lv_iload_n hx hb dZP_setSample_10 rfl (lv_at hl 1 rfl) ?_
  refine lv_iadd hx hb dZP_setSample_11 ?_
  refine lv_iload_n hx hb dZP_setSample_12 rfl (lv_at hl 3 rfl) ?_
  obtain ⟨h_1, hw⟩ := hw
  refine va_iast hx hb hK hP hD hS 1 0 rfl rfl h_1 dZP_setSample_13 (fun H locs hP hD hS => ?_)
  have hP : va_P (dC, dI) vwCl [(op, .inr (1, [.int pw, .int ph, .ref opa])), (opa, .inl (cI, pn, .inl (upd pf ((a2 * pw) + a1).toNatClampNeg a3)))] H := hP
  have hD : va_D A [(op, .inr (1, [.int pw, .int ph, .ref opa])), (opa, .inl (cI, pn, .inl (upd pf ((a2 * pw) + a1).toNatClampNeg a3)))] := hD
  have hP9 := hP.sub (ws' := [(op, .inr (1, [.int pw, .int ph, .ref opa])), (opa, .inl (cI, pn, .inl (upd pf ((a2 * pw) + a1).toNatClampNeg a3)))]) [0, 1] rfl
  have hD9 := hD.sub (ws' := [(op, .inr (1, [.int pw, .int ph, .ref opa])), (opa, .inl (cI, pn, .inl (upd pf ((a2 * pw) + a1).toNatClampNeg a3)))]) [0, 1] (by decide) rfl
  subst hQ9
  exact W.vret hx hb hr (fun t ht hW => ⟨⟨upd pf ((a2 * pw) + a1).toNatClampNeg a3, rfl, hw, by rw [ht]; exact hP9, va_K.moved hW.alike hK, hD9⟩, hS.F ht⟩) hS.2.2 dZP_setSample_14
theorem dZP_fillPart_0 : decode cZP_fillPart 0 = .ok (.iload_n 2, 1) := by decide +kernel
theorem dZP_fillPart_1 : decode cZP_fillPart 1 = .ok (.istore 6, 2) := by decide +kernel
theorem dZP_fillPart_3 : decode cZP_fillPart 3 = .ok (.iload 6, 2) := by decide +kernel
theorem dZP_fillPart_5 : decode cZP_fillPart 5 = .ok (.iload_n 2, 1) := by decide +kernel
theorem dZP_fillPart_6 : decode cZP_fillPart 6 = .ok (.iload 4, 2) := by decide +kernel
theorem dZP_fillPart_8 : decode cZP_fillPart 8 = .ok (.iadd, 1) := by decide +kernel
theorem dZP_fillPart_9 : decode cZP_fillPart 9 = .ok (.if_icmp .ge 36, 3) := by decide +kernel
theorem dZP_fillPart_12 : decode cZP_fillPart 12 = .ok (.iload_n 1, 1) := by decide +kernel
theorem dZP_fillPart_13 : decode cZP_fillPart 13 = .ok (.istore 7, 2) := by decide +kernel
theorem dZP_fillPart_15 : decode cZP_fillPart 15 = .ok (.iload 7, 2) := by decide +kernel
theorem dZP_fillPart_17 : decode cZP_fillPart 17 = .ok (.iload_n 1, 1) := by decide +kernel
theorem dZP_fillPart_18 : decode cZP_fillPart 18 = .ok (.iload_n 3, 1) := by decide +kernel
theorem dZP_fillPart_19 : decode cZP_fillPart 19 = .ok (.iadd, 1) := by decide +kernel
theorem dZP_fillPart_20 : decode cZP_fillPart 20 = .ok (.if_icmp .ge 19, 3) := by decide +kernel
theorem dZP_fillPart_23 : decode cZP_fillPart 23 = .ok (.aload_n 0, 1) := by decide +kernel
theorem dZP_fillPart_24 : decode cZP_fillPart 24 = .ok (.iload 7, 2) := by decide +kernel
theorem dZP_fillPart_26 : decode cZP_fillPart 26 = .ok (.iload 6, 2) := by decide +kernel
theorem dZP_fillPart_28 : decode cZP_fillPart 28 = .ok (.iload 5, 2) := by decide +kernel
theorem dZP_fillPart_30 : decode cZP_fillPart 30 = .ok (.invokevirtual 20, 3) := by decide +kernel
theorem dZP_fillPart_33 : decode cZP_fillPart 33 = .ok (.iinc 7 1, 3) := by decide +kernel
theorem dZP_fillPart_36 : decode cZP_fillPart 36 = .ok (.goto (-21), 3) := by decide +kernel
theorem dZP_fillPart_39 : decode cZP_fillPart 39 = .ok (.iinc 6 1, 3) := by decide +kernel
theorem dZP_fillPart_42 : decode cZP_fillPart 42 = .ok (.goto (-39), 3) := by decide +kernel
theorem dZP_fillPart_45 : decode cZP_fillPart 45 = .ok (.return_, 1) := by decide +kernel
abbrev wsZP_fillPart : List Cond := .code yZP_fillPart cZP_fillPart 8 none :: tbg
def lp_ZP_fillPart_15 (pw : Int32) (ph : Int32) (pn : Nat) (pf : Nat → Int32) (a1 : Int32) (a2 : Int32) (a3 : Int32) (a4 : Int32) (a5 : Int32) (x6_3 : Int32) (f_3_opa : Nat → Int32) (post : (Nat → Int32) → Prop) (K15 : Int32 → (Nat → Int32) → Prop) (n : Nat) : Int32 → (Nat → Int32) → Prop := Nat.rec (motive := fun _ => Int32 → (Nat → Int32) → Prop) (fun (x7_15 : Int32) (f_15_opa : Nat → Int32) => False) (fun _ ih15 (x7_15 : Int32) (f_15_opa : Nat → Int32) => (((a1 + a3) ≤ x7_15 → (K15 x7_15 f_15_opa)) ∧ (¬ (a1 + a3) ≤ x7_15 → (wp_ZP_setSample pw ph pn f_15_opa x7_15 x6_3 a5 (fun (pf_3 : Nat → Int32) => ih15 (x7_15 + (1 : Int32)) pf_3))))) n
def lp_ZP_fillPart_3 (pw : Int32) (ph : Int32) (pn : Nat) (pf : Nat → Int32) (a1 : Int32) (a2 : Int32) (a3 : Int32) (a4 : Int32) (a5 : Int32) (post : (Nat → Int32) → Prop) (K3 : Int32 → (Nat → Int32) → Prop) (n : Nat) : Int32 → (Nat → Int32) → Prop := Nat.rec (motive := fun _ => Int32 → (Nat → Int32) → Prop) (fun (x6_3 : Int32) (f_3_opa : Nat → Int32) => False) (fun _ ih3 (x6_3 : Int32) (f_3_opa : Nat → Int32) => (((a2 + a4) ≤ x6_3 → (K3 x6_3 f_3_opa)) ∧ (¬ (a2 + a4) ≤ x6_3 → (∃ n : Nat, lp_ZP_fillPart_15 pw ph pn pf a1 a2 a3 a4 a5 x6_3 f_3_opa post (fun (x7_15e : Int32) (f_15e_opa : Nat → Int32) => ih3 (x6_3 + (1 : Int32)) f_15e_opa) n a1 f_3_opa)))) n
def wp_ZP_fillPart (pw : Int32) (ph : Int32) (pn : Nat) (pf : Nat → Int32) (a1 : Int32) (a2 : Int32) (a3 : Int32) (a4 : Int32) (a5 : Int32) (post : (Nat → Int32) → Prop) : Prop := ∃ n : Nat, lp_ZP_fillPart_3 pw ph pn pf a1 a2 a3 a4 a5 post (fun (x6_3e : Int32) (f_3e_opa : Nat → Int32) => post f_3e_opa) n a2 pf
abbrev rm_ZP_fillPart : Room := { frames := 1, cells := 0, slots := 0, locals := 23 }
set_option maxHeartbeats 4000000 in
set_option maxRecDepth 100000 in
theorem kt_ZP_fillPart (l : Launch) (dC : Nat → ClassId) (dI : Nat → Nat → Nat) (cI : ClassId) (op opa : Nat) (sz : Nat) (pw : Int32) (ph : Int32) (pn : Nat) (pf : Nat → Int32) (a1 : Int32) (a2 : Int32) (a3 : Int32) (a4 : Int32) (a5 : Int32) (post : (Nat → Int32) → Prop) (hw : wp_ZP_fillPart pw ph pn pf a1 a2 a3 a4 a5 post) : Met l yZP_fillPart wsZP_fillPart rm_ZP_fillPart (gw_Pc dC dI [(cI, .int)] [.ref op, .int a1, .int a2, .int a3, .int a4, .int a5] [(op, .inr (1, [.int pw, .int ph, .ref opa])), (opa, .inl (cI, pn, .inl pf))] sz) (va_Qv (fun (u : (Nat → Int32)) => post u) (fun u t => gw_B dC dI [(cI, .int)] (va_A [(op, .inr (1, [.int pw, .int ph, .ref opa])), (opa, .inl (cI, pn, .inl pf))] sz) [(op, .inr (1, [.int pw, .int ph, .ref opa])), (opa, .inl (cI, pn, .inl u))] t) (va_A [(op, .inr (1, [.int pw, .int ph, .ref opa])), (opa, .inl (cI, pn, .inl pf))] sz)) 0 0 (va_A [(op, .inr (1, [.int pw, .int ph, .ref opa])), (opa, .inl (cI, pn, .inl pf))] sz) := by
  refine Met.ofW (cc := cZP_fillPart) (maxL := 8) (ret := none) (by decide) rfl ?_
  intro p e s m args below meth c s₁ B hml hv
  obtain ⟨ha9, hsz, hP, hK, hE, hD0⟩ := hv
  have hx := B.exec
  have hb := B.bytes
  have hr := B.returns
  have hts0 := atoms_spec (ws := wsZP_fillPart) B.pre
  have hts : ∀ w ∈ tbg, w.before args s = true := fun w h => hts0 w (List.mem_cons_of_mem _ h)
  have hown : s.vm.findClass RZP = some m.cls := findClass_of_methodNamed B.named
  have hlocks := B.notSynchronized
  subst hsz
  have hD := hD0.self (sz := s.heap.size)
  refine gx_Q (fun Q9 hQ9 => ?_)
  generalize hAe : va_A [(op, .inr (1, [.int pw, .int ph, .ref opa])), (opa, .inl (cI, pn, .inl pf))] s.heap.size = A at hD hQ9 ⊢
  have hA : ∀ q : Nat, s.heap.size ≤ q → A q := fun q h => by rw [← hAe]; exact Or.inr h
  have hS : va_S A s.heap s.heap [] := va_S.rf
  have hl := lv_entry ([.ref op, .int a1, .int a2, .int a3, .int a4, .int a5]) (n := 8) (Nat.le_of_ble_eq_true rfl)
  have he9 : entryFrame m args 8 = F0 m 0 ((lg_sl [.ref op, .int a1, .int a2, .int a3, .int a4, .int a5] ++ List.replicate (8 - (lg_sl ([.ref op, .int a1, .int a2, .int a3, .int a4, .int a5] : List Value)).length) Slot.unset).toArray) [] := by rw [ha9]; exact lg_entry_eq m [.ref op, .int a1, .int a2, .int a3, .int a4, .int a5] 8
  rw [he9]
  generalize (lg_sl ([.ref op, .int a1, .int a2, .int a3, .int a4, .int a5] : List Value) ++ List.replicate (8 - (lg_sl ([.ref op, .int a1, .int a2, .int a3, .int a4, .int a5] : List Value)).length) Slot.unset).toArray = ls at hl ⊢
  have hl : lv_has ls 8 [(0, .ref op), (1, .int a1), (2, .int a2), (3, .int a3), (4, .int a4), (5, .int a5)] := hl
  refine lv_iload_n hx hb dZP_fillPart_0 rfl (lv_at hl 2 rfl) ?_
  refine lv_istore (lv' := [(6, .int a2), (0, .ref op), (1, .int a1), (2, .int a2), (3, .int a3), (4, .int a4), (5, .int a5)]) hx hb dZP_fillPart_1 hl (by decide) rfl (fun ls hl => ?_)
  have lp3 : ∀ K3 : Int32 → (Nat → Int32) → Prop, (∀ (x6_3 : Int32) (f_3_opa : Nat → Int32), K3 x6_3 f_3_opa → ∀ (H : Heap) (locs : List Loc), va_P (dC, dI) vwCl [(op, .inr (1, [.int pw, .int ph, .ref opa])), (opa, .inl (cI, pn, .inl f_3_opa))] H → va_D A [(op, .inr (1, [.int pw, .int ph, .ref opa])), (opa, .inl (cI, pn, .inl f_3_opa))] → va_S A s.heap H locs → ∀ ls : Array Slot, lv_has ls 8 [(6, .int x6_3), (0, .ref op), (1, .int a1), (2, .int a2), (3, .int a3), (4, .int a4), (5, .int a5)] → W p l e (headSpec wsZP_fillPart rm_ZP_fillPart).room s m args below meth c H locs 0 0 Q9 (F0 m 45 ls [])) → ∀ (n : Nat) (x6_3 : Int32) (f_3_opa : Nat → Int32), lp_ZP_fillPart_3 pw ph pn pf a1 a2 a3 a4 a5 post K3 n x6_3 f_3_opa → ∀ (H : Heap) (locs : List Loc), va_P (dC, dI) vwCl [(op, .inr (1, [.int pw, .int ph, .ref opa])), (opa, .inl (cI, pn, .inl f_3_opa))] H → va_D A [(op, .inr (1, [.int pw, .int ph, .ref opa])), (opa, .inl (cI, pn, .inl f_3_opa))] → va_S A s.heap H locs → ∀ ls : Array Slot, lv_has ls 8 [(6, .int x6_3), (0, .ref op), (1, .int a1), (2, .int a2), (3, .int a3), (4, .int a4), (5, .int a5)] → W p l e (headSpec wsZP_fillPart rm_ZP_fillPart).room s m args below meth c H locs 0 0 Q9 (F0 m 3 ls []) := by
    intro K3 aft3 n
    induction n with
    | zero => intro x6_3 f_3_opa hw; exact False.elim hw
    | succ n ih3 =>
      intro x6_3 f_3_opa hw H locs hP hD hS ls hl
      refine lv_iload hx hb dZP_fillPart_3 (lv_at hl 0 rfl) ?_
      refine lv_iload_n hx hb dZP_fillPart_5 rfl (lv_at hl 3 rfl) ?_
      refine lv_iload hx hb dZP_fillPart_6 (lv_at hl 5 rfl) ?_
      refine lv_iadd hx hb dZP_fillPart_8 ?_
      refine lv_icmp_ge (tgt := 45) hx hb dZP_fillPart_9 (by decide) (fun c_1 => ?_) (fun c_1 => ?_)
      · have hw := hw.1 c_1
        exact aft3 x6_3 f_3_opa hw _ _ (hP.sub [0, 1] rfl) (hD.sub [0, 1] (by decide) rfl) hS ls (lv_sub hl [0, 1, 2, 3, 4, 5, 6] rfl)
      · have hw := hw.2 c_1
        refine lv_iload_n hx hb dZP_fillPart_12 rfl (lv_at hl 2 rfl) ?_
        refine lv_istore (lv' := [(7, .int a1), (6, .int x6_3), (0, .ref op), (1, .int a1), (2, .int a2), (3, .int a3), (4, .int a4), (5, .int a5)]) hx hb dZP_fillPart_13 hl (by decide) rfl (fun ls hl => ?_)
        have lp15 : ∀ K15 : Int32 → (Nat → Int32) → Prop, (∀ (x7_15 : Int32) (f_15_opa : Nat → Int32), K15 x7_15 f_15_opa → ∀ (H : Heap) (locs : List Loc), va_P (dC, dI) vwCl [(op, .inr (1, [.int pw, .int ph, .ref opa])), (opa, .inl (cI, pn, .inl f_15_opa))] H → va_D A [(op, .inr (1, [.int pw, .int ph, .ref opa])), (opa, .inl (cI, pn, .inl f_15_opa))] → va_S A s.heap H locs → ∀ ls : Array Slot, lv_has ls 8 [(7, .int x7_15), (6, .int x6_3), (0, .ref op), (1, .int a1), (2, .int a2), (3, .int a3), (4, .int a4), (5, .int a5)] → W p l e (headSpec wsZP_fillPart rm_ZP_fillPart).room s m args below meth c H locs 0 0 Q9 (F0 m 39 ls [])) → ∀ (n : Nat) (x7_15 : Int32) (f_15_opa : Nat → Int32), lp_ZP_fillPart_15 pw ph pn pf a1 a2 a3 a4 a5 x6_3 f_3_opa post K15 n x7_15 f_15_opa → ∀ (H : Heap) (locs : List Loc), va_P (dC, dI) vwCl [(op, .inr (1, [.int pw, .int ph, .ref opa])), (opa, .inl (cI, pn, .inl f_15_opa))] H → va_D A [(op, .inr (1, [.int pw, .int ph, .ref opa])), (opa, .inl (cI, pn, .inl f_15_opa))] → va_S A s.heap H locs → ∀ ls : Array Slot, lv_has ls 8 [(7, .int x7_15), (6, .int x6_3), (0, .ref op), (1, .int a1), (2, .int a2), (3, .int a3), (4, .int a4), (5, .int a5)] → W p l e (headSpec wsZP_fillPart rm_ZP_fillPart).room s m args below meth c H locs 0 0 Q9 (F0 m 15 ls []) := by
          intro K15 aft15 n
          induction n with
          | zero => intro x7_15 f_15_opa hw; exact False.elim hw
          | succ n ih15 =>
            intro x7_15 f_15_opa hw H locs hP hD hS ls hl
            refine lv_iload hx hb dZP_fillPart_15 (lv_at hl 0 rfl) ?_
            refine lv_iload_n hx hb dZP_fillPart_17 rfl (lv_at hl 3 rfl) ?_
            refine lv_iload_n hx hb dZP_fillPart_18 rfl (lv_at hl 5 rfl) ?_
            refine lv_iadd hx hb dZP_fillPart_19 ?_
            refine lv_icmp_ge (tgt := 39) hx hb dZP_fillPart_20 (by decide) (fun c_2 => ?_) (fun c_2 => ?_)
            · have hw := hw.1 c_2
              exact aft15 x7_15 f_15_opa hw _ _ (hP.sub [0, 1] rfl) (hD.sub [0, 1] (by decide) rfl) hS ls (lv_sub hl [0, 1, 2, 3, 4, 5, 6, 7] rfl)
            · have hw := hw.2 c_2
              refine lv_aload_n hx hb dZP_fillPart_23 rfl (lv_at hl 2 rfl) ?_
              refine lv_iload hx hb dZP_fillPart_24 (lv_at hl 0 rfl) ?_
              refine lv_iload hx hb dZP_fillPart_26 (lv_at hl 1 rfl) ?_
              refine lv_iload hx hb dZP_fillPart_28 (lv_at hl 7 rfl) ?_
              have hPc := hP.sub (ws' := [(op, .inr (1, [.int pw, .int ph, .ref opa])), (opa, .inl (cI, pn, .inl f_15_opa))]) [0, 1] rfl
              have hDc := hD.sub (ws' := [(op, .inr (1, [.int pw, .int ph, .ref opa])), (opa, .inl (cI, pn, .inl f_15_opa))]) [0, 1] (by decide) rfl
              have hFc := va_free (wc := [(op, .inr (1, [.int pw, .int ph, .ref opa])), (opa, .inl (cI, pn, .inl f_15_opa))]) hD hS hA [0, 1] rfl
              refine va_callv (va_runV (As := [.int x7_15, .int x6_3, .int a5]) (rest := []) ⟨hx, hb, hml, hown, hts⟩ (kt_ZP_setSample l dC dI cI op opa _ pw ph pn f_15_opa x7_15 x6_3 a5 _ hw) (cwV 3 hts (tb_V mm_373 mm_335 mm_336 mm_3 mm_337) rfl rfl rfl (by decide +kernel) ⟨Nat.le_of_ble_eq_true rfl, Nat.le_of_ble_eq_true rfl⟩) ⟨gw_blind, va_recv hK hPc (ci := 1) (q0 := 0) rfl rfl, fun U hU hW => gw_pre hPc hDc hK hE hU hW⟩ rfl rfl hl.1 rfl (lv_room (Nat.le_of_ble_eq_true rfl)) dZP_fillPart_30 ⟨Nat.le_of_ble_eq_true rfl, Nat.le_of_ble_eq_true rfl⟩) hS (fun q _ h => hFc q h) hFc (fun pf_3 t H1 locs ht hvm hw hB hz1 hk1 hS => ?_)
              obtain ⟨hP1, hK1, hD1⟩ := hB
              rw [ht] at hP1
              try dsimp only at hw
              obtain ⟨hP, hD⟩ := va_join (wr := []) (w1 := [(op, .inr (1, [.int pw, .int ph, .ref opa])), (opa, .inl (cI, pn, .inl pf_3))]) hP hD [0, 1] [] rfl rfl (by decide) (by decide) hk1 hFc hP1 hD1
              generalize H1 = H at hP hS ⊢
              have hP : va_P (dC, dI) vwCl [(op, .inr (1, [.int pw, .int ph, .ref opa])), (opa, .inl (cI, pn, .inl pf_3))] H := hP
              have hD : va_D A [(op, .inr (1, [.int pw, .int ph, .ref opa])), (opa, .inl (cI, pn, .inl pf_3))] := hD
              refine lv_iinc (v := x7_15 + (1 : Int32)) (lv' := [(7, .int (x7_15 + (1 : Int32))), (6, .int x6_3), (0, .ref op), (1, .int a1), (2, .int a2), (3, .int a3), (4, .int a4), (5, .int a5)]) hx hb dZP_fillPart_33 hl (k := 0) rfl rfl (by decide) rfl (fun ls hl => ?_)
              refine lv_goto (tgt := 15) hx hb dZP_fillPart_36 (by decide) ?_
              exact ih15 (x7_15 + (1 : Int32)) pf_3 hw _ _ (hP.sub [0, 1] rfl) (hD.sub [0, 1] (by decide) rfl) hS ls (lv_sub hl [0, 1, 2, 3, 4, 5, 6, 7] rfl)
        obtain ⟨n15, hw⟩ := hw
        refine lp15 _ (fun x7_15e f_15e_opa hw H locs hP hD hS ls hl => ?_) n15 a1 f_3_opa hw _ _ (hP.sub [0, 1] rfl) (hD.sub [0, 1] (by decide) rfl) hS ls (lv_sub hl [0, 1, 2, 3, 4, 5, 6, 7] rfl)
        refine lv_iinc (v := x6_3 + (1 : Int32)) (lv' := [(6, .int (x6_3 + (1 : Int32))), (7, .int x7_15e), (0, .ref op), (1, .int a1), (2, .int a2), (3, .int a3), (4, .int a4), (5, .int a5)]) hx hb dZP_fillPart_39 hl (k := 1) rfl rfl (by decide) rfl (fun ls hl => ?_)
        refine lv_goto (tgt := 3) hx hb dZP_fillPart_42 (by decide) ?_
        exact ih3 (x6_3 + (1 : Int32)) f_15e_opa hw _ _ (hP.sub [0, 1] rfl) (hD.sub [0, 1] (by decide) rfl) hS ls (lv_sub hl [0, 2, 3, 4, 5, 6, 7] rfl)
  obtain ⟨n3, hw⟩ := hw
  refine lp3 _ (fun x6_3e f_3e_opa hw H locs hP hD hS ls hl => ?_) n3 a2 pf hw _ _ (hP.sub [0, 1] rfl) (hD.sub [0, 1] (by decide) rfl) hS ls (lv_sub hl [0, 1, 2, 3, 4, 5, 6] rfl)
  have hP9 := hP.sub (ws' := [(op, .inr (1, [.int pw, .int ph, .ref opa])), (opa, .inl (cI, pn, .inl f_3e_opa))]) [0, 1] rfl
  have hD9 := hD.sub (ws' := [(op, .inr (1, [.int pw, .int ph, .ref opa])), (opa, .inl (cI, pn, .inl f_3e_opa))]) [0, 1] (by decide) rfl
  subst hQ9
  exact W.vret hx hb hr (fun t ht hW => ⟨⟨f_3e_opa, rfl, hw, by rw [ht]; exact hP9, va_K.moved hW.alike hK, hD9⟩, hS.F ht⟩) hS.2.2 dZP_fillPart_45
theorem dZP_init_0 : decode cZP_init 0 = .ok (.aload_n 0, 1) := by decide +kernel
theorem dZP_init_1 : decode cZP_init 1 = .ok (.invokespecial 1, 3) := by decide +kernel
theorem dZP_init_4 : decode cZP_init 4 = .ok (.aload_n 0, 1) := by decide +kernel
theorem dZP_init_5 : decode cZP_init 5 = .ok (.iload_n 1, 1) := by decide +kernel
theorem dZP_init_6 : decode cZP_init 6 = .ok (.putfield 7, 3) := by decide +kernel
theorem dZP_init_9 : decode cZP_init 9 = .ok (.aload_n 0, 1) := by decide +kernel
theorem dZP_init_10 : decode cZP_init 10 = .ok (.iload_n 2, 1) := by decide +kernel
theorem dZP_init_11 : decode cZP_init 11 = .ok (.putfield 13, 3) := by decide +kernel
theorem dZP_init_14 : decode cZP_init 14 = .ok (.aload_n 0, 1) := by decide +kernel
theorem dZP_init_15 : decode cZP_init 15 = .ok (.iload_n 1, 1) := by decide +kernel
theorem dZP_init_16 : decode cZP_init 16 = .ok (.iload_n 2, 1) := by decide +kernel
theorem dZP_init_17 : decode cZP_init 17 = .ok (.imul, 1) := by decide +kernel
theorem dZP_init_18 : decode cZP_init 18 = .ok (.newarray .int, 2) := by decide +kernel
theorem dZP_init_20 : decode cZP_init 20 = .ok (.putfield 16, 3) := by decide +kernel
theorem dZP_init_23 : decode cZP_init 23 = .ok (.return_, 1) := by decide +kernel
abbrev wsZP_init : List Cond := .code yZP_init cZP_init 3 none :: tbg
def wp_ZP_init (a1 : Int32) (a2 : Int32) (post : Nat → (Nat → Int32) → Prop) : Prop := ¬ (a1 * a2) < 0 ∧ (a1 * a2).toNatClampNeg ≤ 1600 ∧ (post ((a1 * a2).toNatClampNeg) (fun _ => 0))
abbrev rm_ZP_init : Room := { frames := 1, cells := 1, slots := 1600, locals := 20 }
set_option maxHeartbeats 4000000 in
set_option maxRecDepth 100000 in
theorem kt_ZP_init (l : Launch) (dC : Nat → ClassId) (dI : Nat → Nat → Nat) (cI : ClassId) (op : Nat) (sz : Nat) (a1 : Int32) (a2 : Int32) (post : Nat → (Nat → Int32) → Prop) (hw : wp_ZP_init a1 a2 post) : Met l yZP_init wsZP_init rm_ZP_init (gw_Pc dC dI [(cI, .int)] [.ref op, .int a1, .int a2] [(op, .inr (1, [.int (0 : Int32), .int (0 : Int32), .null]))] sz) (va_Qv (fun (u : Nat × (Nat → Int32)) => post u.1 u.2) (fun u t => ∃ opa : Nat, gw_B dC dI [(cI, .int)] (va_A [(op, .inr (1, [.int (0 : Int32), .int (0 : Int32), .null]))] sz) [(op, .inr (1, [.int a1, .int a2, .ref opa])), (opa, .inl (cI, u.1, .inl u.2))] t) (va_A [(op, .inr (1, [.int (0 : Int32), .int (0 : Int32), .null]))] sz)) 1 1600 (va_A [(op, .inr (1, [.int (0 : Int32), .int (0 : Int32), .null]))] sz) := by
  refine Met.ofW (cc := cZP_init) (maxL := 3) (ret := none) (by decide) rfl ?_
  intro p e s m args below meth c s₁ B hml hv
  obtain ⟨ha9, hsz, hP, hK, hE, hD0⟩ := hv
  have hx := B.exec
  have hb := B.bytes
  have hr := B.returns
  have hts0 := atoms_spec (ws := wsZP_init) B.pre
  have hts : ∀ w ∈ tbg, w.before args s = true := fun w h => hts0 w (List.mem_cons_of_mem _ h)
  have hown : s.vm.findClass RZP = some m.cls := findClass_of_methodNamed B.named
  have hlocks := B.notSynchronized
  have hin : meth.name = "<init>" := (name_of_methodNamed B.named B.method).1
  subst hsz
  have hD := hD0.self (sz := s.heap.size)
  refine gx_Q (fun Q9 hQ9 => ?_)
  generalize hAe : va_A [(op, .inr (1, [.int (0 : Int32), .int (0 : Int32), .null]))] s.heap.size = A at hD hQ9 ⊢
  have hA : ∀ q : Nat, s.heap.size ≤ q → A q := fun q h => by rw [← hAe]; exact Or.inr h
  have hS : va_S A s.heap s.heap [] := va_S.rf
  have hl := lv_entry ([.ref op, .int a1, .int a2]) (n := 3) (Nat.le_of_ble_eq_true rfl)
  have he9 : entryFrame m args 3 = F0 m 0 ((lg_sl [.ref op, .int a1, .int a2] ++ List.replicate (3 - (lg_sl ([.ref op, .int a1, .int a2] : List Value)).length) Slot.unset).toArray) [] := by rw [ha9]; exact lg_entry_eq m [.ref op, .int a1, .int a2] 3
  rw [he9]
  generalize (lg_sl ([.ref op, .int a1, .int a2] : List Value) ++ List.replicate (3 - (lg_sl ([.ref op, .int a1, .int a2] : List Value)).length) Slot.unset).toArray = ls at hl ⊢
  have hl : lv_has ls 3 [(0, .ref op), (1, .int a1), (2, .int a2)] := hl
  refine lv_aload_n hx hb dZP_init_0 rfl (lv_at hl 0 rfl) ?_
  refine W.objInit hx hb hown (hts _ mm_36) (hts _ mm_23) (hts _ mm_24) rfl (by rw [hml]; exact hl.1) rfl dZP_init_1 (Nat.le_of_ble_eq_true rfl) (Nat.le_of_ble_eq_true rfl) ?_
  refine W.eq (g2 := F0 m 4 ls []) rfl ?_
  refine lv_aload_n hx hb dZP_init_4 rfl (lv_at hl 0 rfl) ?_
  refine lv_iload_n hx hb dZP_init_5 rfl (lv_at hl 1 rfl) ?_
  refine va_putF (D := (dC, dI)) (ci := 1) (v := .int a1) (ty := .int) (C := RZP) (T := TZP) (N := 3) hx hb hts inZP tyZP tyZP_ok nmZP hown hK hP hD hS 0 rfl rfl 0 (by decide) (hts _ mm_37) (fun _ h9 => h9) rfl hin rfl (by decide +kernel) rfl rfl (Nat.le_of_ble_eq_true rfl) dZP_init_6 (fun H locs hP hD hS => ?_)
  have hP : va_P (dC, dI) vwCl [(op, .inr (1, [.int a1, .int (0 : Int32), .null]))] H := hP
  have hD : va_D A [(op, .inr (1, [.int a1, .int (0 : Int32), .null]))] := hD
  refine lv_aload_n hx hb dZP_init_9 rfl (lv_at hl 0 rfl) ?_
  refine lv_iload_n hx hb dZP_init_10 rfl (lv_at hl 2 rfl) ?_
  refine va_putF (D := (dC, dI)) (ci := 1) (v := .int a2) (ty := .int) (C := RZP) (T := TZP) (N := 3) hx hb hts inZP tyZP tyZP_ok nmZP hown hK hP hD hS 0 rfl rfl 1 (by decide) (hts _ mm_41) (fun _ h9 => h9) rfl hin rfl (by decide +kernel) rfl rfl (Nat.le_of_ble_eq_true rfl) dZP_init_11 (fun H locs hP hD hS => ?_)
  have hP : va_P (dC, dI) vwCl [(op, .inr (1, [.int a1, .int a2, .null]))] H := hP
  have hD : va_D A [(op, .inr (1, [.int a1, .int a2, .null]))] := hD
  refine lv_aload_n hx hb dZP_init_14 rfl (lv_at hl 0 rfl) ?_
  refine lv_iload_n hx hb dZP_init_15 rfl (lv_at hl 1 rfl) ?_
  refine lv_iload_n hx hb dZP_init_16 rfl (lv_at hl 2 rfl) ?_
  refine lv_imul hx hb dZP_init_17 ?_
  obtain ⟨h_2a, h_2b, hw⟩ := hw
  have h_2c : 0 + ((a1 * a2).toNatClampNeg) ≤ 1600 := by omega
  have h_2d : ((a1 * a2).toNatClampNeg) * 4 ≤ 536870912 := by omega
  refine va_newa (atype := .int) (N' := (a1 * a2).toNatClampNeg) (a0 := ((a1 * a2).toNatClampNeg, .inl (fun _ => 0))) (ty := .int) hx hb (hts _ mm_53) rfl hK hP hD hS hA (fun _ => rfl) h_2a rfl h_2d (Nat.le_of_ble_eq_true rfl) h_2c dZP_init_18 (fun q_1 cAq_1 H hK2 hP hD hS => ?_)
  have hc_q_1 : cAq_1 = cI := Option.some.inj ((va_nm_int (hK2.2 1 _ rfl).2).symm.trans (va_nm_int (hK.2 0 _ rfl).2))
  rw [hc_q_1] at hP hD
  refine W.widen (k := 1) (n := 1600) (by omega) (by omega) ?_
  have hP : va_P (dC, dI) vwCl [(op, .inr (1, [.int a1, .int a2, .null])), (q_1, .inl (cI, ((a1 * a2).toNatClampNeg), .inl (fun _ => 0)))] H := hP
  have hD : va_D A [(op, .inr (1, [.int a1, .int a2, .null])), (q_1, .inl (cI, ((a1 * a2).toNatClampNeg), .inl (fun _ => 0)))] := hD
  refine va_putF (D := (dC, dI)) (ci := 1) (v := .ref q_1) (ty := (.array .int)) (C := RZP) (T := TZP) (N := 3) hx hb hts inZP tyZP tyZP_ok nmZP hown hK hP hD hS 0 rfl rfl 2 (by decide) (hts _ mm_45) (fun _ h9 => h9) rfl hin rfl (by decide +kernel) rfl rfl (Nat.le_of_ble_eq_true rfl) dZP_init_20 (fun H locs hP hD hS => ?_)
  have hP : va_P (dC, dI) vwCl [(op, .inr (1, [.int a1, .int a2, .ref q_1])), (q_1, .inl (cI, ((a1 * a2).toNatClampNeg), .inl (fun _ => 0)))] H := hP
  have hD : va_D A [(op, .inr (1, [.int a1, .int a2, .ref q_1])), (q_1, .inl (cI, ((a1 * a2).toNatClampNeg), .inl (fun _ => 0)))] := hD
  have hP9 := hP.sub (ws' := [(op, .inr (1, [.int a1, .int a2, .ref q_1])), (q_1, .inl (cI, ((a1 * a2).toNatClampNeg), .inl (fun _ => 0)))]) [0, 1] rfl
  have hD9 := hD.sub (ws' := [(op, .inr (1, [.int a1, .int a2, .ref q_1])), (q_1, .inl (cI, ((a1 * a2).toNatClampNeg), .inl (fun _ => 0)))]) [0, 1] (by decide) rfl
  subst hQ9
  exact W.vret hx hb hr (fun t ht hW => ⟨⟨(((a1 * a2).toNatClampNeg), (fun _ => 0)), rfl, hw, q_1, by rw [ht]; exact hP9, va_K.moved hW.alike hK, hD9⟩, hS.F ht⟩) hS.2.2 dZP_init_23
end
section
theorem dZT_setSize_0 : decode cZT_setSize 0 = .ok (.aload_n 0, 1) := by decide +kernel
theorem dZT_setSize_1 : decode cZT_setSize 1 = .ok (.iload_n 1, 1) := by decide +kernel
theorem dZT_setSize_2 : decode cZT_setSize 2 = .ok (.putfield 15, 3) := by decide +kernel
theorem dZT_setSize_5 : decode cZT_setSize 5 = .ok (.aload_n 0, 1) := by decide +kernel
theorem dZT_setSize_6 : decode cZT_setSize 6 = .ok (.iload_n 2, 1) := by decide +kernel
theorem dZT_setSize_7 : decode cZT_setSize 7 = .ok (.putfield 19, 3) := by decide +kernel
theorem dZT_setSize_10 : decode cZT_setSize 10 = .ok (.return_, 1) := by decide +kernel
abbrev wsZT_setSize : List Cond := .code yZT_setSize cZT_setSize 3 none :: tbg
def wp_ZT_setSize (tw : Int32) (th : Int32) (tf : Nat → Int32) (a1 : Int32) (a2 : Int32) (post : Int32 → Int32 → Prop) : Prop := post a1 a2
abbrev rm_ZT_setSize : Room := { frames := 0, cells := 0, slots := 0, locals := 0 }
set_option maxHeartbeats 4000000 in
set_option maxRecDepth 100000 in
theorem kt_ZT_setSize (l : Launch) (dC : Nat → ClassId) (dI : Nat → Nat → Nat) (cI : ClassId) (ot ota : Nat) (sz : Nat) (tw : Int32) (th : Int32) (tf : Nat → Int32) (a1 : Int32) (a2 : Int32) (post : Int32 → Int32 → Prop) (hw : wp_ZT_setSize tw th tf a1 a2 post) : Met l yZT_setSize wsZT_setSize rm_ZT_setSize (gw_Pc dC dI [(cI, .int)] [.ref ot, .int a1, .int a2] [(ot, .inr (4, [.ref ota, .int tw, .int th])), (ota, .inl (cI, 64, .inl tf))] sz) (va_Qv (fun (u : Int32 × Int32) => post u.1 u.2) (fun u t => gw_B dC dI [(cI, .int)] (va_A [(ot, .inr (4, [.ref ota, .int tw, .int th])), (ota, .inl (cI, 64, .inl tf))] sz) [(ot, .inr (4, [.ref ota, .int u.1, .int u.2])), (ota, .inl (cI, 64, .inl tf))] t) (va_A [(ot, .inr (4, [.ref ota, .int tw, .int th])), (ota, .inl (cI, 64, .inl tf))] sz)) 0 0 (va_A [(ot, .inr (4, [.ref ota, .int tw, .int th])), (ota, .inl (cI, 64, .inl tf))] sz) := by
  refine Met.ofW (cc := cZT_setSize) (maxL := 3) (ret := none) (by decide) rfl ?_
  intro p e s m args below meth c s₁ B hml hv
  obtain ⟨ha9, hsz, hP, hK, hE, hD0⟩ := hv
  have hx := B.exec
  have hb := B.bytes
  have hr := B.returns
  have hts0 := atoms_spec (ws := wsZT_setSize) B.pre
  have hts : ∀ w ∈ tbg, w.before args s = true := fun w h => hts0 w (List.mem_cons_of_mem _ h)
  have hown : s.vm.findClass RZT = some m.cls := findClass_of_methodNamed B.named
  have hlocks := B.notSynchronized
  subst hsz
  have hD := hD0.self (sz := s.heap.size)
  refine gx_Q (fun Q9 hQ9 => ?_)
  generalize hAe : va_A [(ot, .inr (4, [.ref ota, .int tw, .int th])), (ota, .inl (cI, 64, .inl tf))] s.heap.size = A at hD hQ9 ⊢
  have hA : ∀ q : Nat, s.heap.size ≤ q → A q := fun q h => by rw [← hAe]; exact Or.inr h
  have hS : va_S A s.heap s.heap [] := va_S.rf
  have hl := lv_entry ([.ref ot, .int a1, .int a2]) (n := 3) (Nat.le_of_ble_eq_true rfl)
  have he9 : entryFrame m args 3 = F0 m 0 ((lg_sl [.ref ot, .int a1, .int a2] ++ List.replicate (3 - (lg_sl ([.ref ot, .int a1, .int a2] : List Value)).length) Slot.unset).toArray) [] := by rw [ha9]; exact lg_entry_eq m [.ref ot, .int a1, .int a2] 3
  rw [he9]
  generalize (lg_sl ([.ref ot, .int a1, .int a2] : List Value) ++ List.replicate (3 - (lg_sl ([.ref ot, .int a1, .int a2] : List Value)).length) Slot.unset).toArray = ls at hl ⊢
  have hl : lv_has ls 3 [(0, .ref ot), (1, .int a1), (2, .int a2)] := hl
  refine lv_aload_n hx hb dZT_setSize_0 rfl (lv_at hl 0 rfl) ?_
  refine lv_iload_n hx hb dZT_setSize_1 rfl (lv_at hl 1 rfl) ?_
  refine va_put (D := (dC, dI)) (ci := 4) (v := .int a1) (ty := .int) (C := RZT) (T := TZT) (N := 3) hx hb hts inZT tyZT tyZT_ok nmZT hown hK hP hD hS 0 rfl rfl 1 (by decide) (hts _ mm_119) (fun _ h9 => h9) rfl (by decide +kernel) rfl rfl (Nat.le_of_ble_eq_true rfl) dZT_setSize_2 (fun H locs hP hD hS => ?_)
  have hP : va_P (dC, dI) vwCl [(ot, .inr (4, [.ref ota, .int a1, .int th])), (ota, .inl (cI, 64, .inl tf))] H := hP
  have hD : va_D A [(ot, .inr (4, [.ref ota, .int a1, .int th])), (ota, .inl (cI, 64, .inl tf))] := hD
  refine lv_aload_n hx hb dZT_setSize_5 rfl (lv_at hl 0 rfl) ?_
  refine lv_iload_n hx hb dZT_setSize_6 rfl (lv_at hl 2 rfl) ?_
  refine va_put (D := (dC, dI)) (ci := 4) (v := .int a2) (ty := .int) (C := RZT) (T := TZT) (N := 3) hx hb hts inZT tyZT tyZT_ok nmZT hown hK hP hD hS 0 rfl rfl 2 (by decide) (hts _ mm_124) (fun _ h9 => h9) rfl (by decide +kernel) rfl rfl (Nat.le_of_ble_eq_true rfl) dZT_setSize_7 (fun H locs hP hD hS => ?_)
  have hP : va_P (dC, dI) vwCl [(ot, .inr (4, [.ref ota, .int a1, .int a2])), (ota, .inl (cI, 64, .inl tf))] H := hP
  have hD : va_D A [(ot, .inr (4, [.ref ota, .int a1, .int a2])), (ota, .inl (cI, 64, .inl tf))] := hD
  have hP9 := hP.sub (ws' := [(ot, .inr (4, [.ref ota, .int a1, .int a2])), (ota, .inl (cI, 64, .inl tf))]) [0, 1] rfl
  have hD9 := hD.sub (ws' := [(ot, .inr (4, [.ref ota, .int a1, .int a2])), (ota, .inl (cI, 64, .inl tf))]) [0, 1] (by decide) rfl
  subst hQ9
  exact W.vret hx hb hr (fun t ht hW => ⟨⟨(a1, a2), rfl, hw, by rw [ht]; exact hP9, va_K.moved hW.alike hK, hD9⟩, hS.F ht⟩) hS.2.2 dZT_setSize_10
theorem dZT_sampleCount_0 : decode cZT_sampleCount 0 = .ok (.aload_n 0, 1) := by decide +kernel
theorem dZT_sampleCount_1 : decode cZT_sampleCount 1 = .ok (.getfield 15, 3) := by decide +kernel
theorem dZT_sampleCount_4 : decode cZT_sampleCount 4 = .ok (.aload_n 0, 1) := by decide +kernel
theorem dZT_sampleCount_5 : decode cZT_sampleCount 5 = .ok (.getfield 19, 3) := by decide +kernel
theorem dZT_sampleCount_8 : decode cZT_sampleCount 8 = .ok (.imul, 1) := by decide +kernel
theorem dZT_sampleCount_9 : decode cZT_sampleCount 9 = .ok (.ireturn, 1) := by decide +kernel
abbrev wsZT_sampleCount : List Cond := .code yZT_sampleCount cZT_sampleCount 1 (some .int) :: tbg
def wp_ZT_sampleCount (tw : Int32) (th : Int32) (tf : Nat → Int32) (post : Int32 → Prop) : Prop := post (tw * th)
abbrev rm_ZT_sampleCount : Room := { frames := 0, cells := 0, slots := 0, locals := 0 }
set_option maxHeartbeats 4000000 in
set_option maxRecDepth 100000 in
theorem kt_ZT_sampleCount (l : Launch) (dC : Nat → ClassId) (dI : Nat → Nat → Nat) (cI : ClassId) (ot ota : Nat) (tw : Int32) (th : Int32) (tf : Nat → Int32) (post : Int32 → Prop) (hw : wp_ZT_sampleCount tw th tf post) : Met l yZT_sampleCount wsZT_sampleCount rm_ZT_sampleCount (gr_Pc dC dI [(cI, .int)] [.ref ot] [(ot, .inr (4, [.ref ota, .int tw, .int th])), (ota, .inl (cI, 64, .inl tf))]) (vp_Si post) 0 0 (fun _ => False) := by
  refine Met.ofW (cc := cZT_sampleCount) (maxL := 1) (ret := (some .int)) (by decide) rfl ?_
  intro p e s m args below meth c s₁ B hml hv
  obtain ⟨ha9, hP, hK, hE⟩ := hv
  have hx := B.exec
  have hb := B.bytes
  have hr := B.returns
  have hts0 := atoms_spec (ws := wsZT_sampleCount) B.pre
  have hts : ∀ w ∈ tbg, w.before args s = true := fun w h => hts0 w (List.mem_cons_of_mem _ h)
  have hown : s.vm.findClass RZT = some m.cls := findClass_of_methodNamed B.named
  have hlocks := B.notSynchronized
  refine gx_Q (fun Q9 hQ9 => ?_)
  have hl := lv_entry ([.ref ot]) (n := 1) (Nat.le_of_ble_eq_true rfl)
  have he9 : entryFrame m args 1 = F0 m 0 ((lg_sl [.ref ot] ++ List.replicate (1 - (lg_sl ([.ref ot] : List Value)).length) Slot.unset).toArray) [] := by rw [ha9]; exact lg_entry_eq m [.ref ot] 1
  rw [he9]
  generalize (lg_sl ([.ref ot] : List Value) ++ List.replicate (1 - (lg_sl ([.ref ot] : List Value)).length) Slot.unset).toArray = ls at hl ⊢
  have hl : lv_has ls 1 [(0, .ref ot)] := hl
  refine lv_aload_n hx hb dZT_sampleCount_0 rfl (lv_at hl 0 rfl) ?_
  refine va_get (D := (dC, dI)) (ci := 4) (v := .int tw) (C := RZT) (T := TZT) (N := 3) hx hb hts inZT hown hK hP 0 rfl rfl 1 (by decide) (hts _ mm_119) (fun _ h9 => h9) rfl dZT_sampleCount_1 ?_
  refine lv_aload_n hx hb dZT_sampleCount_4 rfl (lv_at hl 0 rfl) ?_
  refine va_get (D := (dC, dI)) (ci := 4) (v := .int th) (C := RZT) (T := TZT) (N := 3) hx hb hts inZT hown hK hP 0 rfl rfl 2 (by decide) (hts _ mm_124) (fun _ h9 => h9) rfl dZT_sampleCount_5 ?_
  refine lv_imul hx hb dZT_sampleCount_8 ?_
  subst hQ9
  exact W.iret (v := tw * th) hx hb hr (fun t ht hW => ⟨tw * th, rfl, hw, ht⟩) (fun q h => nomatch h) dZT_sampleCount_9
theorem dZT_sampleAt_0 : decode cZT_sampleAt 0 = .ok (.aload_n 0, 1) := by decide +kernel
theorem dZT_sampleAt_1 : decode cZT_sampleAt 1 = .ok (.getfield 9, 3) := by decide +kernel
theorem dZT_sampleAt_4 : decode cZT_sampleAt 4 = .ok (.iload_n 2, 1) := by decide +kernel
theorem dZT_sampleAt_5 : decode cZT_sampleAt 5 = .ok (.aload_n 0, 1) := by decide +kernel
theorem dZT_sampleAt_6 : decode cZT_sampleAt 6 = .ok (.getfield 15, 3) := by decide +kernel
theorem dZT_sampleAt_9 : decode cZT_sampleAt 9 = .ok (.imul, 1) := by decide +kernel
theorem dZT_sampleAt_10 : decode cZT_sampleAt 10 = .ok (.iload_n 1, 1) := by decide +kernel
theorem dZT_sampleAt_11 : decode cZT_sampleAt 11 = .ok (.iadd, 1) := by decide +kernel
theorem dZT_sampleAt_12 : decode cZT_sampleAt 12 = .ok (.iaload, 1) := by decide +kernel
theorem dZT_sampleAt_13 : decode cZT_sampleAt 13 = .ok (.ireturn, 1) := by decide +kernel
abbrev wsZT_sampleAt : List Cond := .code yZT_sampleAt cZT_sampleAt 3 (some .int) :: tbg
def wp_ZT_sampleAt (tw : Int32) (th : Int32) (tf : Nat → Int32) (a1 : Int32) (a2 : Int32) (post : Int32 → Prop) : Prop := vp_in ((a2 * tw) + a1) 64 ∧ (post (tf ((a2 * tw) + a1).toNatClampNeg))
abbrev rm_ZT_sampleAt : Room := { frames := 0, cells := 0, slots := 0, locals := 0 }
set_option maxHeartbeats 4000000 in
set_option maxRecDepth 100000 in
theorem kt_ZT_sampleAt (l : Launch) (dC : Nat → ClassId) (dI : Nat → Nat → Nat) (cI : ClassId) (ot ota : Nat) (tw : Int32) (th : Int32) (tf : Nat → Int32) (a1 : Int32) (a2 : Int32) (post : Int32 → Prop) (hw : wp_ZT_sampleAt tw th tf a1 a2 post) : Met l yZT_sampleAt wsZT_sampleAt rm_ZT_sampleAt (gr_Pc dC dI [(cI, .int)] [.ref ot, .int a1, .int a2] [(ot, .inr (4, [.ref ota, .int tw, .int th])), (ota, .inl (cI, 64, .inl tf))]) (vp_Si post) 0 0 (fun _ => False) := by
  refine Met.ofW (cc := cZT_sampleAt) (maxL := 3) (ret := (some .int)) (by decide) rfl ?_
  intro p e s m args below meth c s₁ B hml hv
  obtain ⟨ha9, hP, hK, hE⟩ := hv
  have hx := B.exec
  have hb := B.bytes
  have hr := B.returns
  have hts0 := atoms_spec (ws := wsZT_sampleAt) B.pre
  have hts : ∀ w ∈ tbg, w.before args s = true := fun w h => hts0 w (List.mem_cons_of_mem _ h)
  have hown : s.vm.findClass RZT = some m.cls := findClass_of_methodNamed B.named
  have hlocks := B.notSynchronized
  refine gx_Q (fun Q9 hQ9 => ?_)
  have hl := lv_entry ([.ref ot, .int a1, .int a2]) (n := 3) (Nat.le_of_ble_eq_true rfl)
  have he9 : entryFrame m args 3 = F0 m 0 ((lg_sl [.ref ot, .int a1, .int a2] ++ List.replicate (3 - (lg_sl ([.ref ot, .int a1, .int a2] : List Value)).length) Slot.unset).toArray) [] := by rw [ha9]; exact lg_entry_eq m [.ref ot, .int a1, .int a2] 3
  rw [he9]
  generalize (lg_sl ([.ref ot, .int a1, .int a2] : List Value) ++ List.replicate (3 - (lg_sl ([.ref ot, .int a1, .int a2] : List Value)).length) Slot.unset).toArray = ls at hl ⊢
  have hl : lv_has ls 3 [(0, .ref ot), (1, .int a1), (2, .int a2)] := hl
  refine lv_aload_n hx hb dZT_sampleAt_0 rfl (lv_at hl 0 rfl) ?_
  refine va_get (D := (dC, dI)) (ci := 4) (v := .ref ota) (C := RZT) (T := TZT) (N := 3) hx hb hts inZT hown hK hP 0 rfl rfl 0 (by decide) (hts _ mm_117) (fun _ h9 => h9) rfl dZT_sampleAt_1 ?_
  refine lv_iload_n hx hb dZT_sampleAt_4 rfl (lv_at hl 2 rfl) ?_
  refine lv_aload_n hx hb dZT_sampleAt_5 rfl (lv_at hl 0 rfl) ?_
  refine va_get (D := (dC, dI)) (ci := 4) (v := .int tw) (C := RZT) (T := TZT) (N := 3) hx hb hts inZT hown hK hP 0 rfl rfl 1 (by decide) (hts _ mm_119) (fun _ h9 => h9) rfl dZT_sampleAt_6 ?_
  refine lv_imul hx hb dZT_sampleAt_9 ?_
  refine lv_iload_n hx hb dZT_sampleAt_10 rfl (lv_at hl 1 rfl) ?_
  refine lv_iadd hx hb dZT_sampleAt_11 ?_
  obtain ⟨h_1, hw⟩ := hw
  refine va_iald hx hb hK hP 1 0 rfl rfl h_1 dZT_sampleAt_12 ?_
  subst hQ9
  exact W.iret (v := tf ((a2 * tw) + a1).toNatClampNeg) hx hb hr (fun t ht hW => ⟨tf ((a2 * tw) + a1).toNatClampNeg, rfl, hw, ht⟩) (fun q h => nomatch h) dZT_sampleAt_13
theorem dZT_formerSample_0 : decode cZT_formerSample 0 = .ok (.iload_n 1, 1) := by decide +kernel
theorem dZT_formerSample_1 : decode cZT_formerSample 1 = .ok (.ifCond .le 12, 3) := by decide +kernel
theorem dZT_formerSample_4 : decode cZT_formerSample 4 = .ok (.aload_n 0, 1) := by decide +kernel
theorem dZT_formerSample_5 : decode cZT_formerSample 5 = .ok (.iload_n 1, 1) := by decide +kernel
theorem dZT_formerSample_6 : decode cZT_formerSample 6 = .ok (.iconst 1, 1) := by decide +kernel
theorem dZT_formerSample_7 : decode cZT_formerSample 7 = .ok (.isub, 1) := by decide +kernel
theorem dZT_formerSample_8 : decode cZT_formerSample 8 = .ok (.iload_n 2, 1) := by decide +kernel
theorem dZT_formerSample_9 : decode cZT_formerSample 9 = .ok (.invokevirtual 22, 3) := by decide +kernel
theorem dZT_formerSample_12 : decode cZT_formerSample 12 = .ok (.ireturn, 1) := by decide +kernel
theorem dZT_formerSample_13 : decode cZT_formerSample 13 = .ok (.iload_n 2, 1) := by decide +kernel
theorem dZT_formerSample_14 : decode cZT_formerSample 14 = .ok (.ifCond .le 14, 3) := by decide +kernel
theorem dZT_formerSample_17 : decode cZT_formerSample 17 = .ok (.aload_n 0, 1) := by decide +kernel
theorem dZT_formerSample_18 : decode cZT_formerSample 18 = .ok (.iconst 0, 1) := by decide +kernel
theorem dZT_formerSample_19 : decode cZT_formerSample 19 = .ok (.iload_n 2, 1) := by decide +kernel
theorem dZT_formerSample_20 : decode cZT_formerSample 20 = .ok (.iconst 1, 1) := by decide +kernel
theorem dZT_formerSample_21 : decode cZT_formerSample 21 = .ok (.isub, 1) := by decide +kernel
theorem dZT_formerSample_22 : decode cZT_formerSample 22 = .ok (.invokevirtual 22, 3) := by decide +kernel
theorem dZT_formerSample_25 : decode cZT_formerSample 25 = .ok (.goto 4, 3) := by decide +kernel
theorem dZT_formerSample_28 : decode cZT_formerSample 28 = .ok (.iconst 0, 1) := by decide +kernel
theorem dZT_formerSample_29 : decode cZT_formerSample 29 = .ok (.ireturn, 1) := by decide +kernel
abbrev wsZT_formerSample : List Cond := .code yZT_formerSample cZT_formerSample 3 (some .int) :: tbg
def wp_ZT_formerSample (tw : Int32) (th : Int32) (tf : Nat → Int32) (a1 : Int32) (a2 : Int32) (post : Int32 → Prop) : Prop := ((a1 ≤ (0 : Int32) → ((a2 ≤ (0 : Int32) → (post (0 : Int32))) ∧ (¬ a2 ≤ (0 : Int32) → (wp_ZT_sampleAt tw th tf (0 : Int32) (a2 - (1 : Int32)) (fun r_3 : Int32 => post r_3))))) ∧ (¬ a1 ≤ (0 : Int32) → (wp_ZT_sampleAt tw th tf (a1 - (1 : Int32)) a2 (fun r_4 : Int32 => post r_4))))
abbrev rm_ZT_formerSample : Room := { frames := 1, cells := 0, slots := 0, locals := 22 }
set_option maxHeartbeats 4000000 in
set_option maxRecDepth 100000 in
theorem kt_ZT_formerSample (l : Launch) (dC : Nat → ClassId) (dI : Nat → Nat → Nat) (cI : ClassId) (ot ota : Nat) (tw : Int32) (th : Int32) (tf : Nat → Int32) (a1 : Int32) (a2 : Int32) (post : Int32 → Prop) (hw : wp_ZT_formerSample tw th tf a1 a2 post) : Met l yZT_formerSample wsZT_formerSample rm_ZT_formerSample (gr_Pc dC dI [(cI, .int)] [.ref ot, .int a1, .int a2] [(ot, .inr (4, [.ref ota, .int tw, .int th])), (ota, .inl (cI, 64, .inl tf))]) (vp_Si post) 0 0 (fun _ => False) := by
  refine Met.ofW (cc := cZT_formerSample) (maxL := 3) (ret := (some .int)) (by decide) rfl ?_
  intro p e s m args below meth c s₁ B hml hv
  obtain ⟨ha9, hP, hK, hE⟩ := hv
  have hx := B.exec
  have hb := B.bytes
  have hr := B.returns
  have hts0 := atoms_spec (ws := wsZT_formerSample) B.pre
  have hts : ∀ w ∈ tbg, w.before args s = true := fun w h => hts0 w (List.mem_cons_of_mem _ h)
  have hown : s.vm.findClass RZT = some m.cls := findClass_of_methodNamed B.named
  have hlocks := B.notSynchronized
  refine gx_Q (fun Q9 hQ9 => ?_)
  have hl := lv_entry ([.ref ot, .int a1, .int a2]) (n := 3) (Nat.le_of_ble_eq_true rfl)
  have he9 : entryFrame m args 3 = F0 m 0 ((lg_sl [.ref ot, .int a1, .int a2] ++ List.replicate (3 - (lg_sl ([.ref ot, .int a1, .int a2] : List Value)).length) Slot.unset).toArray) [] := by rw [ha9]; exact lg_entry_eq m [.ref ot, .int a1, .int a2] 3
  rw [he9]
  generalize (lg_sl ([.ref ot, .int a1, .int a2] : List Value) ++ List.replicate (3 - (lg_sl ([.ref ot, .int a1, .int a2] : List Value)).length) Slot.unset).toArray = ls at hl ⊢
  have hl : lv_has ls 3 [(0, .ref ot), (1, .int a1), (2, .int a2)] := hl
  refine lv_iload_n hx hb dZT_formerSample_0 rfl (lv_at hl 1 rfl) ?_
  refine lv_if_le (tgt := 13) hx hb dZT_formerSample_1 (by decide) (fun c_1 => ?_) (fun c_1 => ?_)
  · have hw := hw.1 c_1
    refine lv_iload_n hx hb dZT_formerSample_13 rfl (lv_at hl 2 rfl) ?_
    refine lv_if_le (tgt := 28) hx hb dZT_formerSample_14 (by decide) (fun c_2 => ?_) (fun c_2 => ?_)
    · have hw := hw.1 c_2
      refine lv_iconst (v := (0 : Int32)) hx hb dZT_formerSample_28 (by decide) ?_
      subst hQ9
      exact W.iret (v := (0 : Int32)) hx hb hr (fun t ht hW => ⟨(0 : Int32), rfl, hw, ht⟩) (fun q h => nomatch h) dZT_formerSample_29
    · have hw := hw.2 c_2
      refine lv_aload_n hx hb dZT_formerSample_17 rfl (lv_at hl 0 rfl) ?_
      refine lv_iconst (v := (0 : Int32)) hx hb dZT_formerSample_18 (by decide) ?_
      refine lv_iload_n hx hb dZT_formerSample_19 rfl (lv_at hl 2 rfl) ?_
      refine lv_iconst (v := (1 : Int32)) hx hb dZT_formerSample_20 (by decide) ?_
      refine lv_isub hx hb dZT_formerSample_21 ?_
      refine vp_callSi (va_runV (As := [.int (0 : Int32), .int (a2 - (1 : Int32))]) (rest := []) ⟨hx, hb, hml, hown, hts⟩ (kt_ZT_sampleAt l dC dI cI ot ota tw th tf (0 : Int32) (a2 - (1 : Int32)) _ hw) (cwV 2 hts (tb_V mm_199 mm_200 mm_201 mm_7 mm_202) rfl rfl rfl (by decide +kernel) ⟨Nat.le_of_ble_eq_true rfl, Nat.le_of_ble_eq_true rfl⟩) ⟨gr_blind, va_recv hK hP (ci := 4) (q0 := 0) rfl rfl, fun U hU hW => gr_pre hP hK hE hU hW⟩ rfl rfl hl.1 rfl (lv_room (Nat.le_of_ble_eq_true rfl)) dZT_formerSample_22 ⟨Nat.le_of_ble_eq_true rfl, Nat.le_of_ble_eq_true rfl⟩).run (fun r_3 hw => ?_)
      refine lv_goto (tgt := 29) hx hb dZT_formerSample_25 (by decide) ?_
      subst hQ9
      exact W.iret (v := r_3) hx hb hr (fun t ht hW => ⟨r_3, rfl, hw, ht⟩) (fun q h => nomatch h) dZT_formerSample_29
  · have hw := hw.2 c_1
    refine lv_aload_n hx hb dZT_formerSample_4 rfl (lv_at hl 0 rfl) ?_
    refine lv_iload_n hx hb dZT_formerSample_5 rfl (lv_at hl 1 rfl) ?_
    refine lv_iconst (v := (1 : Int32)) hx hb dZT_formerSample_6 (by decide) ?_
    refine lv_isub hx hb dZT_formerSample_7 ?_
    refine lv_iload_n hx hb dZT_formerSample_8 rfl (lv_at hl 2 rfl) ?_
    refine vp_callSi (va_runV (As := [.int (a1 - (1 : Int32)), .int a2]) (rest := []) ⟨hx, hb, hml, hown, hts⟩ (kt_ZT_sampleAt l dC dI cI ot ota tw th tf (a1 - (1 : Int32)) a2 _ hw) (cwV 2 hts (tb_V mm_199 mm_200 mm_201 mm_7 mm_202) rfl rfl rfl (by decide +kernel) ⟨Nat.le_of_ble_eq_true rfl, Nat.le_of_ble_eq_true rfl⟩) ⟨gr_blind, va_recv hK hP (ci := 4) (q0 := 0) rfl rfl, fun U hU hW => gr_pre hP hK hE hU hW⟩ rfl rfl hl.1 rfl (lv_room (Nat.le_of_ble_eq_true rfl)) dZT_formerSample_9 ⟨Nat.le_of_ble_eq_true rfl, Nat.le_of_ble_eq_true rfl⟩).run (fun r_4 hw => ?_)
    subst hQ9
    exact W.iret (v := r_4) hx hb hr (fun t ht hW => ⟨r_4, rfl, hw, ht⟩) (fun q h => nomatch h) dZT_formerSample_12
theorem dZT_setSample_0 : decode cZT_setSample 0 = .ok (.aload_n 0, 1) := by decide +kernel
theorem dZT_setSample_1 : decode cZT_setSample 1 = .ok (.getfield 9, 3) := by decide +kernel
theorem dZT_setSample_4 : decode cZT_setSample 4 = .ok (.iload_n 2, 1) := by decide +kernel
theorem dZT_setSample_5 : decode cZT_setSample 5 = .ok (.aload_n 0, 1) := by decide +kernel
theorem dZT_setSample_6 : decode cZT_setSample 6 = .ok (.getfield 15, 3) := by decide +kernel
theorem dZT_setSample_9 : decode cZT_setSample 9 = .ok (.imul, 1) := by decide +kernel
theorem dZT_setSample_10 : decode cZT_setSample 10 = .ok (.iload_n 1, 1) := by decide +kernel
theorem dZT_setSample_11 : decode cZT_setSample 11 = .ok (.iadd, 1) := by decide +kernel
theorem dZT_setSample_12 : decode cZT_setSample 12 = .ok (.iload_n 3, 1) := by decide +kernel
theorem dZT_setSample_13 : decode cZT_setSample 13 = .ok (.iastore, 1) := by decide +kernel
theorem dZT_setSample_14 : decode cZT_setSample 14 = .ok (.return_, 1) := by decide +kernel
abbrev wsZT_setSample : List Cond := .code yZT_setSample cZT_setSample 4 none :: tbg
def wp_ZT_setSample (tw : Int32) (th : Int32) (tf : Nat → Int32) (a1 : Int32) (a2 : Int32) (a3 : Int32) (post : (Nat → Int32) → Prop) : Prop := vp_in ((a2 * tw) + a1) 64 ∧ (post (upd tf ((a2 * tw) + a1).toNatClampNeg a3))
abbrev rm_ZT_setSample : Room := { frames := 0, cells := 0, slots := 0, locals := 0 }
set_option maxHeartbeats 4000000 in
set_option maxRecDepth 100000 in
theorem kt_ZT_setSample (l : Launch) (dC : Nat → ClassId) (dI : Nat → Nat → Nat) (cI : ClassId) (ot ota : Nat) (sz : Nat) (tw : Int32) (th : Int32) (tf : Nat → Int32) (a1 : Int32) (a2 : Int32) (a3 : Int32) (post : (Nat → Int32) → Prop) (hw : wp_ZT_setSample tw th tf a1 a2 a3 post) : Met l yZT_setSample wsZT_setSample rm_ZT_setSample (gw_Pc dC dI [(cI, .int)] [.ref ot, .int a1, .int a2, .int a3] [(ot, .inr (4, [.ref ota, .int tw, .int th])), (ota, .inl (cI, 64, .inl tf))] sz) (va_Qv (fun (u : (Nat → Int32)) => post u) (fun u t => gw_B dC dI [(cI, .int)] (va_A [(ot, .inr (4, [.ref ota, .int tw, .int th])), (ota, .inl (cI, 64, .inl tf))] sz) [(ot, .inr (4, [.ref ota, .int tw, .int th])), (ota, .inl (cI, 64, .inl u))] t) (va_A [(ot, .inr (4, [.ref ota, .int tw, .int th])), (ota, .inl (cI, 64, .inl tf))] sz)) 0 0 (va_A [(ot, .inr (4, [.ref ota, .int tw, .int th])), (ota, .inl (cI, 64, .inl tf))] sz) := by
  refine Met.ofW (cc := cZT_setSample) (maxL := 4) (ret := none) (by decide) rfl ?_
  intro p e s m args below meth c s₁ B hml hv
  obtain ⟨ha9, hsz, hP, hK, hE, hD0⟩ := hv
  have hx := B.exec
  have hb := B.bytes
  have hr := B.returns
  have hts0 := atoms_spec (ws := wsZT_setSample) B.pre
  have hts : ∀ w ∈ tbg, w.before args s = true := fun w h => hts0 w (List.mem_cons_of_mem _ h)
  have hown : s.vm.findClass RZT = some m.cls := findClass_of_methodNamed B.named
  have hlocks := B.notSynchronized
  subst hsz
  have hD := hD0.self (sz := s.heap.size)
  refine gx_Q (fun Q9 hQ9 => ?_)
  generalize hAe : va_A [(ot, .inr (4, [.ref ota, .int tw, .int th])), (ota, .inl (cI, 64, .inl tf))] s.heap.size = A at hD hQ9 ⊢
  have hA : ∀ q : Nat, s.heap.size ≤ q → A q := fun q h => by rw [← hAe]; exact Or.inr h
  have hS : va_S A s.heap s.heap [] := va_S.rf
  have hl := lv_entry ([.ref ot, .int a1, .int a2, .int a3]) (n := 4) (Nat.le_of_ble_eq_true rfl)
  have he9 : entryFrame m args 4 = F0 m 0 ((lg_sl [.ref ot, .int a1, .int a2, .int a3] ++ List.replicate (4 - (lg_sl ([.ref ot, .int a1, .int a2, .int a3] : List Value)).length) Slot.unset).toArray) [] := by rw [ha9]; exact lg_entry_eq m [.ref ot, .int a1, .int a2, .int a3] 4
  rw [he9]
  generalize (lg_sl ([.ref ot, .int a1, .int a2, .int a3] : List Value) ++ List.replicate (4 - (lg_sl ([.ref ot, .int a1, .int a2, .int a3] : List Value)).length) Slot.unset).toArray = ls at hl ⊢
  have hl : lv_has ls 4 [(0, .ref ot), (1, .int a1), (2, .int a2), (3, .int a3)] := hl
  refine lv_aload_n hx hb dZT_setSample_0 rfl (lv_at hl 0 rfl) ?_
  refine va_get (D := (dC, dI)) (ci := 4) (v := .ref ota) (C := RZT) (T := TZT) (N := 3) hx hb hts inZT hown hK hP 0 rfl rfl 0 (by decide) (hts _ mm_117) (fun _ h9 => h9) rfl dZT_setSample_1 ?_
  refine lv_iload_n hx hb dZT_setSample_4 rfl (lv_at hl 2 rfl) ?_
  refine lv_aload_n hx hb dZT_setSample_5 rfl (lv_at hl 0 rfl) ?_
  refine va_get (D := (dC, dI)) (ci := 4) (v := .int tw) (C := RZT) (T := TZT) (N := 3) hx hb hts inZT hown hK hP 0 rfl rfl 1 (by decide) (hts _ mm_119) (fun _ h9 => h9) rfl dZT_setSample_6 ?_
  refine lv_imul hx hb dZT_setSample_9 ?_
  refine lv_iload_n hx hb dZT_setSample_10 rfl (lv_at hl 1 rfl) ?_
  refine lv_iadd hx hb dZT_setSample_11 ?_
  refine lv_iload_n hx hb dZT_setSample_12 rfl (lv_at hl 3 rfl) ?_
  obtain ⟨h_1, hw⟩ := hw
  refine va_iast hx hb hK hP hD hS 1 0 rfl rfl h_1 dZT_setSample_13 (fun H locs hP hD hS => ?_)
  have hP : va_P (dC, dI) vwCl [(ot, .inr (4, [.ref ota, .int tw, .int th])), (ota, .inl (cI, 64, .inl (upd tf ((a2 * tw) + a1).toNatClampNeg a3)))] H := hP
  have hD : va_D A [(ot, .inr (4, [.ref ota, .int tw, .int th])), (ota, .inl (cI, 64, .inl (upd tf ((a2 * tw) + a1).toNatClampNeg a3)))] := hD
  have hP9 := hP.sub (ws' := [(ot, .inr (4, [.ref ota, .int tw, .int th])), (ota, .inl (cI, 64, .inl (upd tf ((a2 * tw) + a1).toNatClampNeg a3)))]) [0, 1] rfl
  have hD9 := hD.sub (ws' := [(ot, .inr (4, [.ref ota, .int tw, .int th])), (ota, .inl (cI, 64, .inl (upd tf ((a2 * tw) + a1).toNatClampNeg a3)))]) [0, 1] (by decide) rfl
  subst hQ9
  exact W.vret hx hb hr (fun t ht hW => ⟨⟨upd tf ((a2 * tw) + a1).toNatClampNeg a3, rfl, hw, by rw [ht]; exact hP9, va_K.moved hW.alike hK, hD9⟩, hS.F ht⟩) hS.2.2 dZT_setSample_14
theorem dZT_init_0 : decode cZT_init 0 = .ok (.aload_n 0, 1) := by decide +kernel
theorem dZT_init_1 : decode cZT_init 1 = .ok (.invokespecial 3, 3) := by decide +kernel
theorem dZT_init_4 : decode cZT_init 4 = .ok (.aload_n 0, 1) := by decide +kernel
theorem dZT_init_5 : decode cZT_init 5 = .ok (.bipush 64, 2) := by decide +kernel
theorem dZT_init_7 : decode cZT_init 7 = .ok (.newarray .int, 2) := by decide +kernel
theorem dZT_init_9 : decode cZT_init 9 = .ok (.putfield 9, 3) := by decide +kernel
theorem dZT_init_12 : decode cZT_init 12 = .ok (.return_, 1) := by decide +kernel
abbrev wsZT_init : List Cond := .code yZT_init cZT_init 1 none :: tbg
def wp_ZT_init (tw : Int32) (th : Int32) (post : (Nat → Int32) → Prop) : Prop := post (fun _ => 0)
abbrev rm_ZT_init : Room := { frames := 1, cells := 1, slots := 64, locals := 20 }
set_option maxHeartbeats 4000000 in
set_option maxRecDepth 100000 in
theorem kt_ZT_init (l : Launch) (dC : Nat → ClassId) (dI : Nat → Nat → Nat) (cI : ClassId) (ot : Nat) (sz : Nat) (tw : Int32) (th : Int32) (post : (Nat → Int32) → Prop) (hw : wp_ZT_init tw th post) : Met l yZT_init wsZT_init rm_ZT_init (gw_Pc dC dI [(cI, .int)] [.ref ot] [(ot, .inr (4, [.null, .int tw, .int th]))] sz) (va_Qv (fun (u : (Nat → Int32)) => post u) (fun u t => ∃ ota : Nat, gw_B dC dI [(cI, .int)] (va_A [(ot, .inr (4, [.null, .int tw, .int th]))] sz) [(ot, .inr (4, [.ref ota, .int tw, .int th])), (ota, .inl (cI, 64, .inl u))] t) (va_A [(ot, .inr (4, [.null, .int tw, .int th]))] sz)) 1 64 (va_A [(ot, .inr (4, [.null, .int tw, .int th]))] sz) := by
  refine Met.ofW (cc := cZT_init) (maxL := 1) (ret := none) (by decide) rfl ?_
  intro p e s m args below meth c s₁ B hml hv
  obtain ⟨ha9, hsz, hP, hK, hE, hD0⟩ := hv
  have hx := B.exec
  have hb := B.bytes
  have hr := B.returns
  have hts0 := atoms_spec (ws := wsZT_init) B.pre
  have hts : ∀ w ∈ tbg, w.before args s = true := fun w h => hts0 w (List.mem_cons_of_mem _ h)
  have hown : s.vm.findClass RZT = some m.cls := findClass_of_methodNamed B.named
  have hlocks := B.notSynchronized
  have hin : meth.name = "<init>" := (name_of_methodNamed B.named B.method).1
  subst hsz
  have hD := hD0.self (sz := s.heap.size)
  refine gx_Q (fun Q9 hQ9 => ?_)
  generalize hAe : va_A [(ot, .inr (4, [.null, .int tw, .int th]))] s.heap.size = A at hD hQ9 ⊢
  have hA : ∀ q : Nat, s.heap.size ≤ q → A q := fun q h => by rw [← hAe]; exact Or.inr h
  have hS : va_S A s.heap s.heap [] := va_S.rf
  have hl := lv_entry ([.ref ot]) (n := 1) (Nat.le_of_ble_eq_true rfl)
  have he9 : entryFrame m args 1 = F0 m 0 ((lg_sl [.ref ot] ++ List.replicate (1 - (lg_sl ([.ref ot] : List Value)).length) Slot.unset).toArray) [] := by rw [ha9]; exact lg_entry_eq m [.ref ot] 1
  rw [he9]
  generalize (lg_sl ([.ref ot] : List Value) ++ List.replicate (1 - (lg_sl ([.ref ot] : List Value)).length) Slot.unset).toArray = ls at hl ⊢
  have hl : lv_has ls 1 [(0, .ref ot)] := hl
  refine lv_aload_n hx hb dZT_init_0 rfl (lv_at hl 0 rfl) ?_
  refine W.objInit hx hb hown (hts _ mm_116) (hts _ mm_23) (hts _ mm_24) rfl (by rw [hml]; exact hl.1) rfl dZT_init_1 (Nat.le_of_ble_eq_true rfl) (Nat.le_of_ble_eq_true rfl) ?_
  refine W.eq (g2 := F0 m 4 ls []) rfl ?_
  refine lv_aload_n hx hb dZT_init_4 rfl (lv_at hl 0 rfl) ?_
  refine lv_bipush (v := (64 : Int32)) hx hb dZT_init_5 (by decide) ?_
  refine va_newa (atype := .int) (N' := 64) (a0 := (64, .inl (fun _ => 0))) (ty := .int) hx hb (hts _ mm_53) rfl hK hP hD hS hA (fun _ => rfl) (by decide) (by decide) (Nat.le_of_ble_eq_true rfl) (Nat.le_of_ble_eq_true rfl) (Nat.le_of_ble_eq_true rfl) dZT_init_7 (fun q_1 cAq_1 H hK2 hP hD hS => ?_)
  have hc_q_1 : cAq_1 = cI := Option.some.inj ((va_nm_int (hK2.2 1 _ rfl).2).symm.trans (va_nm_int (hK.2 0 _ rfl).2))
  rw [hc_q_1] at hP hD
  refine W.widen (k := 1) (n := 64) (by omega) (by omega) ?_
  have hP : va_P (dC, dI) vwCl [(ot, .inr (4, [.null, .int tw, .int th])), (q_1, .inl (cI, 64, .inl (fun _ => 0)))] H := hP
  have hD : va_D A [(ot, .inr (4, [.null, .int tw, .int th])), (q_1, .inl (cI, 64, .inl (fun _ => 0)))] := hD
  refine va_putF (D := (dC, dI)) (ci := 4) (v := .ref q_1) (ty := (.array .int)) (C := RZT) (T := TZT) (N := 3) hx hb hts inZT tyZT tyZT_ok nmZT hown hK hP hD hS 0 rfl rfl 0 (by decide) (hts _ mm_117) (fun _ h9 => h9) rfl hin rfl (by decide +kernel) rfl rfl (Nat.le_of_ble_eq_true rfl) dZT_init_9 (fun H locs hP hD hS => ?_)
  have hP : va_P (dC, dI) vwCl [(ot, .inr (4, [.ref q_1, .int tw, .int th])), (q_1, .inl (cI, 64, .inl (fun _ => 0)))] H := hP
  have hD : va_D A [(ot, .inr (4, [.ref q_1, .int tw, .int th])), (q_1, .inl (cI, 64, .inl (fun _ => 0)))] := hD
  have hP9 := hP.sub (ws' := [(ot, .inr (4, [.ref q_1, .int tw, .int th])), (q_1, .inl (cI, 64, .inl (fun _ => 0)))]) [0, 1] rfl
  have hD9 := hD.sub (ws' := [(ot, .inr (4, [.ref q_1, .int tw, .int th])), (q_1, .inl (cI, 64, .inl (fun _ => 0)))]) [0, 1] (by decide) rfl
  subst hQ9
  exact W.vret hx hb hr (fun t ht hW => ⟨⟨(fun _ => 0), rfl, hw, q_1, by rw [ht]; exact hP9, va_K.moved hW.alike hK, hD9⟩, hS.F ht⟩) hS.2.2 dZT_init_12
end
section
theorem dZB_isFull_0 : decode cZB_isFull 0 = .ok (.aload_n 0, 1) := by decide +kernel
theorem dZB_isFull_1 : decode cZB_isFull 1 = .ok (.getfield 15, 3) := by decide +kernel
theorem dZB_isFull_4 : decode cZB_isFull 4 = .ok (.sipush 256, 3) := by decide +kernel
theorem dZB_isFull_7 : decode cZB_isFull 7 = .ok (.if_icmp .lt 7, 3) := by decide +kernel
theorem dZB_isFull_10 : decode cZB_isFull 10 = .ok (.iconst 1, 1) := by decide +kernel
theorem dZB_isFull_11 : decode cZB_isFull 11 = .ok (.goto 4, 3) := by decide +kernel
theorem dZB_isFull_14 : decode cZB_isFull 14 = .ok (.iconst 0, 1) := by decide +kernel
theorem dZB_isFull_15 : decode cZB_isFull 15 = .ok (.ireturn, 1) := by decide +kernel
abbrev wsZB_isFull : List Cond := .code yZB_isFull cZB_isFull 1 (some .boolean) :: tbg
def wp_ZB_isFull (bl : Int32) (bf : Nat → Int32) (post : Int32 → Prop) : Prop := ((bl < (256 : Int32) → (post (0 : Int32))) ∧ (¬ bl < (256 : Int32) → (post (1 : Int32))))
abbrev rm_ZB_isFull : Room := { frames := 0, cells := 0, slots := 0, locals := 0 }
set_option maxHeartbeats 4000000 in
set_option maxRecDepth 100000 in
theorem kt_ZB_isFull (l : Launch) (dC : Nat → ClassId) (dI : Nat → Nat → Nat) (cI : ClassId) (ob oba : Nat) (bl : Int32) (bf : Nat → Int32) (post : Int32 → Prop) (hw : wp_ZB_isFull bl bf post) : Met l yZB_isFull wsZB_isFull rm_ZB_isFull (gr_Pc dC dI [(cI, .int)] [.ref ob] [(ob, .inr (0, [.ref oba, .int bl])), (oba, .inl (cI, 256, .inl bf))]) (vp_Si post) 0 0 (fun _ => False) := by
  refine Met.ofW (cc := cZB_isFull) (maxL := 1) (ret := (some .boolean)) (by decide) rfl ?_
  intro p e s m args below meth c s₁ B hml hv
  obtain ⟨ha9, hP, hK, hE⟩ := hv
  have hx := B.exec
  have hb := B.bytes
  have hr := B.returns
  have hts0 := atoms_spec (ws := wsZB_isFull) B.pre
  have hts : ∀ w ∈ tbg, w.before args s = true := fun w h => hts0 w (List.mem_cons_of_mem _ h)
  have hown : s.vm.findClass RZB = some m.cls := findClass_of_methodNamed B.named
  have hlocks := B.notSynchronized
  refine gx_Q (fun Q9 hQ9 => ?_)
  have hl := lv_entry ([.ref ob]) (n := 1) (Nat.le_of_ble_eq_true rfl)
  have he9 : entryFrame m args 1 = F0 m 0 ((lg_sl [.ref ob] ++ List.replicate (1 - (lg_sl ([.ref ob] : List Value)).length) Slot.unset).toArray) [] := by rw [ha9]; exact lg_entry_eq m [.ref ob] 1
  rw [he9]
  generalize (lg_sl ([.ref ob] : List Value) ++ List.replicate (1 - (lg_sl ([.ref ob] : List Value)).length) Slot.unset).toArray = ls at hl ⊢
  have hl : lv_has ls 1 [(0, .ref ob)] := hl
  refine lv_aload_n hx hb dZB_isFull_0 rfl (lv_at hl 0 rfl) ?_
  refine va_get (D := (dC, dI)) (ci := 0) (v := .int bl) (C := RZB) (T := TZB) (N := 2) hx hb hts inZB hown hK hP 0 rfl rfl 1 (by decide) (hts _ mm_78) (fun _ h9 => h9) rfl dZB_isFull_1 ?_
  refine lv_sipush (v := (256 : Int32)) hx hb dZB_isFull_4 (by decide) ?_
  refine lv_icmp_lt (tgt := 14) hx hb dZB_isFull_7 (by decide) (fun c_1 => ?_) (fun c_1 => ?_)
  · have hw := hw.1 c_1
    refine lv_iconst (v := (0 : Int32)) hx hb dZB_isFull_14 (by decide) ?_
    subst hQ9
    exact W.zret (v := (0 : Int32)) (ty := .boolean) hx hb hr rfl (fun t ht hW => ⟨(0 : Int32), rfl, hw, ht⟩) (fun q h => nomatch h) dZB_isFull_15
  · have hw := hw.2 c_1
    refine lv_iconst (v := (1 : Int32)) hx hb dZB_isFull_10 (by decide) ?_
    refine lv_goto (tgt := 15) hx hb dZB_isFull_11 (by decide) ?_
    subst hQ9
    exact W.zret (v := (1 : Int32)) (ty := .boolean) hx hb hr rfl (fun t ht hW => ⟨(1 : Int32), rfl, hw, ht⟩) (fun q h => nomatch h) dZB_isFull_15
theorem dZB_sumOfFirst_0 : decode cZB_sumOfFirst 0 = .ok (.iconst 0, 1) := by decide +kernel
theorem dZB_sumOfFirst_1 : decode cZB_sumOfFirst 1 = .ok (.istore_n 2, 1) := by decide +kernel
theorem dZB_sumOfFirst_2 : decode cZB_sumOfFirst 2 = .ok (.iconst 0, 1) := by decide +kernel
theorem dZB_sumOfFirst_3 : decode cZB_sumOfFirst 3 = .ok (.istore_n 3, 1) := by decide +kernel
theorem dZB_sumOfFirst_4 : decode cZB_sumOfFirst 4 = .ok (.iload_n 3, 1) := by decide +kernel
theorem dZB_sumOfFirst_5 : decode cZB_sumOfFirst 5 = .ok (.iload_n 1, 1) := by decide +kernel
theorem dZB_sumOfFirst_6 : decode cZB_sumOfFirst 6 = .ok (.if_icmp .ge 27, 3) := by decide +kernel
theorem dZB_sumOfFirst_9 : decode cZB_sumOfFirst 9 = .ok (.sipush 257, 3) := by decide +kernel
theorem dZB_sumOfFirst_12 : decode cZB_sumOfFirst 12 = .ok (.iload_n 2, 1) := by decide +kernel
theorem dZB_sumOfFirst_13 : decode cZB_sumOfFirst 13 = .ok (.imul, 1) := by decide +kernel
theorem dZB_sumOfFirst_14 : decode cZB_sumOfFirst 14 = .ok (.aload_n 0, 1) := by decide +kernel
theorem dZB_sumOfFirst_15 : decode cZB_sumOfFirst 15 = .ok (.getfield 9, 3) := by decide +kernel
theorem dZB_sumOfFirst_18 : decode cZB_sumOfFirst 18 = .ok (.iload_n 3, 1) := by decide +kernel
theorem dZB_sumOfFirst_19 : decode cZB_sumOfFirst 19 = .ok (.iaload, 1) := by decide +kernel
theorem dZB_sumOfFirst_20 : decode cZB_sumOfFirst 20 = .ok (.iadd, 1) := by decide +kernel
theorem dZB_sumOfFirst_21 : decode cZB_sumOfFirst 21 = .ok (.iconst 1, 1) := by decide +kernel
theorem dZB_sumOfFirst_22 : decode cZB_sumOfFirst 22 = .ok (.iadd, 1) := by decide +kernel
theorem dZB_sumOfFirst_23 : decode cZB_sumOfFirst 23 = .ok (.ldc 23, 2) := by decide +kernel
theorem dZB_sumOfFirst_25 : decode cZB_sumOfFirst 25 = .ok (.irem, 1) := by decide +kernel
theorem dZB_sumOfFirst_26 : decode cZB_sumOfFirst 26 = .ok (.istore_n 2, 1) := by decide +kernel
theorem dZB_sumOfFirst_27 : decode cZB_sumOfFirst 27 = .ok (.iinc 3 1, 3) := by decide +kernel
theorem dZB_sumOfFirst_30 : decode cZB_sumOfFirst 30 = .ok (.goto (-26), 3) := by decide +kernel
theorem dZB_sumOfFirst_33 : decode cZB_sumOfFirst 33 = .ok (.iload_n 2, 1) := by decide +kernel
theorem dZB_sumOfFirst_34 : decode cZB_sumOfFirst 34 = .ok (.ireturn, 1) := by decide +kernel
abbrev wsZB_sumOfFirst : List Cond := .code yZB_sumOfFirst cZB_sumOfFirst 4 (some .int) :: tbg
def lp_ZB_sumOfFirst_4 (bl : Int32) (bf : Nat → Int32) (a1 : Int32) (post : Int32 → Prop) (K4 : Int32 → Int32 → Prop) (n : Nat) : Int32 → Int32 → Prop := Nat.rec (motive := fun _ => Int32 → Int32 → Prop) (fun (x2_4 : Int32) (x3_4 : Int32) => False) (fun _ ih4 (x2_4 : Int32) (x3_4 : Int32) => ((a1 ≤ x3_4 → (K4 x2_4 x3_4)) ∧ (¬ a1 ≤ x3_4 → (vp_in x3_4 256 ∧ (ih4 (((((257 : Int32) * x2_4) + (bf x3_4.toNatClampNeg)) + (1 : Int32)) - ((((257 : Int32) * x2_4) + (bf x3_4.toNatClampNeg)) + (1 : Int32)) / (65521 : Int32) * (65521 : Int32)) (x3_4 + (1 : Int32))))))) n
def wp_ZB_sumOfFirst (bl : Int32) (bf : Nat → Int32) (a1 : Int32) (post : Int32 → Prop) : Prop := ∃ n : Nat, lp_ZB_sumOfFirst_4 bl bf a1 post (fun (x2_4e : Int32) (x3_4e : Int32) => post x2_4e) n (0 : Int32) (0 : Int32)
abbrev rm_ZB_sumOfFirst : Room := { frames := 0, cells := 0, slots := 0, locals := 0 }
set_option maxHeartbeats 4000000 in
set_option maxRecDepth 100000 in
theorem kt_ZB_sumOfFirst (l : Launch) (dC : Nat → ClassId) (dI : Nat → Nat → Nat) (cI : ClassId) (ob oba : Nat) (bl : Int32) (bf : Nat → Int32) (a1 : Int32) (post : Int32 → Prop) (hw : wp_ZB_sumOfFirst bl bf a1 post) : Met l yZB_sumOfFirst wsZB_sumOfFirst rm_ZB_sumOfFirst (gr_Pc dC dI [(cI, .int)] [.ref ob, .int a1] [(ob, .inr (0, [.ref oba, .int bl])), (oba, .inl (cI, 256, .inl bf))]) (vp_Si post) 0 0 (fun _ => False) := by
  refine Met.ofW (cc := cZB_sumOfFirst) (maxL := 4) (ret := (some .int)) (by decide) rfl ?_
  intro p e s m args below meth c s₁ B hml hv
  obtain ⟨ha9, hP, hK, hE⟩ := hv
  have hx := B.exec
  have hb := B.bytes
  have hr := B.returns
  have hts0 := atoms_spec (ws := wsZB_sumOfFirst) B.pre
  have hts : ∀ w ∈ tbg, w.before args s = true := fun w h => hts0 w (List.mem_cons_of_mem _ h)
  have hown : s.vm.findClass RZB = some m.cls := findClass_of_methodNamed B.named
  have hlocks := B.notSynchronized
  refine gx_Q (fun Q9 hQ9 => ?_)
  have hl := lv_entry ([.ref ob, .int a1]) (n := 4) (Nat.le_of_ble_eq_true rfl)
  have he9 : entryFrame m args 4 = F0 m 0 ((lg_sl [.ref ob, .int a1] ++ List.replicate (4 - (lg_sl ([.ref ob, .int a1] : List Value)).length) Slot.unset).toArray) [] := by rw [ha9]; exact lg_entry_eq m [.ref ob, .int a1] 4
  rw [he9]
  generalize (lg_sl ([.ref ob, .int a1] : List Value) ++ List.replicate (4 - (lg_sl ([.ref ob, .int a1] : List Value)).length) Slot.unset).toArray = ls at hl ⊢
  have hl : lv_has ls 4 [(0, .ref ob), (1, .int a1)] := hl
  refine lv_iconst (v := (0 : Int32)) hx hb dZB_sumOfFirst_0 (by decide) ?_
  refine lv_istore_n (lv' := [(2, .int (0 : Int32)), (0, .ref ob), (1, .int a1)]) hx hb dZB_sumOfFirst_1 rfl hl (by decide) rfl (fun ls hl => ?_)
  refine lv_iconst (v := (0 : Int32)) hx hb dZB_sumOfFirst_2 (by decide) ?_
  refine lv_istore_n (lv' := [(3, .int (0 : Int32)), (2, .int (0 : Int32)), (0, .ref ob), (1, .int a1)]) hx hb dZB_sumOfFirst_3 rfl hl (by decide) rfl (fun ls hl => ?_)
  have lp4 : ∀ K4 : Int32 → Int32 → Prop, (∀ (x2_4 : Int32) (x3_4 : Int32), K4 x2_4 x3_4 → ∀ ls : Array Slot, lv_has ls 4 [(3, .int x3_4), (2, .int x2_4), (0, .ref ob), (1, .int a1)] → W p l e (headSpec wsZB_sumOfFirst rm_ZB_sumOfFirst).room s m args below meth c s.heap [] 0 0 Q9 (F0 m 33 ls [])) → ∀ (n : Nat) (x2_4 : Int32) (x3_4 : Int32), lp_ZB_sumOfFirst_4 bl bf a1 post K4 n x2_4 x3_4 → ∀ ls : Array Slot, lv_has ls 4 [(3, .int x3_4), (2, .int x2_4), (0, .ref ob), (1, .int a1)] → W p l e (headSpec wsZB_sumOfFirst rm_ZB_sumOfFirst).room s m args below meth c s.heap [] 0 0 Q9 (F0 m 4 ls []) := by
    intro K4 aft4 n
    induction n with
    | zero => intro x2_4 x3_4 hw; exact False.elim hw
    | succ n ih4 =>
      intro x2_4 x3_4 hw ls hl
      refine lv_iload_n hx hb dZB_sumOfFirst_4 rfl (lv_at hl 0 rfl) ?_
      refine lv_iload_n hx hb dZB_sumOfFirst_5 rfl (lv_at hl 3 rfl) ?_
      refine lv_icmp_ge (tgt := 33) hx hb dZB_sumOfFirst_6 (by decide) (fun c_1 => ?_) (fun c_1 => ?_)
      · have hw := hw.1 c_1
        exact aft4 x2_4 x3_4 hw ls (lv_sub hl [0, 1, 2, 3] rfl)
      · have hw := hw.2 c_1
        refine lv_sipush (v := (257 : Int32)) hx hb dZB_sumOfFirst_9 (by decide) ?_
        refine lv_iload_n hx hb dZB_sumOfFirst_12 rfl (lv_at hl 1 rfl) ?_
        refine lv_imul hx hb dZB_sumOfFirst_13 ?_
        refine lv_aload_n hx hb dZB_sumOfFirst_14 rfl (lv_at hl 2 rfl) ?_
        refine va_get (D := (dC, dI)) (ci := 0) (v := .ref oba) (C := RZB) (T := TZB) (N := 2) hx hb hts inZB hown hK hP 0 rfl rfl 0 (by decide) (hts _ mm_75) (fun _ h9 => h9) rfl dZB_sumOfFirst_15 ?_
        refine lv_iload_n hx hb dZB_sumOfFirst_18 rfl (lv_at hl 0 rfl) ?_
        obtain ⟨h_2, hw⟩ := hw
        refine va_iald hx hb hK hP 1 0 rfl rfl h_2 dZB_sumOfFirst_19 ?_
        refine lv_iadd hx hb dZB_sumOfFirst_20 ?_
        refine lv_iconst (v := (1 : Int32)) hx hb dZB_sumOfFirst_21 (by decide) ?_
        refine lv_iadd hx hb dZB_sumOfFirst_22 ?_
        refine lv_ldc hx hb hown (hts _ mm_177) dZB_sumOfFirst_23 ?_
        refine lv_irem hx hb dZB_sumOfFirst_25 (by decide) ?_
        refine lv_istore_n (lv' := [(2, .int (((((257 : Int32) * x2_4) + (bf x3_4.toNatClampNeg)) + (1 : Int32)) - ((((257 : Int32) * x2_4) + (bf x3_4.toNatClampNeg)) + (1 : Int32)) / (65521 : Int32) * (65521 : Int32))), (3, .int x3_4), (0, .ref ob), (1, .int a1)]) hx hb dZB_sumOfFirst_26 rfl hl (by decide) rfl (fun ls hl => ?_)
        refine lv_iinc (v := x3_4 + (1 : Int32)) (lv' := [(3, .int (x3_4 + (1 : Int32))), (2, .int (((((257 : Int32) * x2_4) + (bf x3_4.toNatClampNeg)) + (1 : Int32)) - ((((257 : Int32) * x2_4) + (bf x3_4.toNatClampNeg)) + (1 : Int32)) / (65521 : Int32) * (65521 : Int32))), (0, .ref ob), (1, .int a1)]) hx hb dZB_sumOfFirst_27 hl (k := 1) rfl rfl (by decide) rfl (fun ls hl => ?_)
        refine lv_goto (tgt := 4) hx hb dZB_sumOfFirst_30 (by decide) ?_
        exact ih4 (((((257 : Int32) * x2_4) + (bf x3_4.toNatClampNeg)) + (1 : Int32)) - ((((257 : Int32) * x2_4) + (bf x3_4.toNatClampNeg)) + (1 : Int32)) / (65521 : Int32) * (65521 : Int32)) (x3_4 + (1 : Int32)) hw ls (lv_sub hl [0, 1, 2, 3] rfl)
  obtain ⟨n4, hw⟩ := hw
  refine lp4 _ (fun x2_4e x3_4e hw ls hl => ?_) n4 (0 : Int32) (0 : Int32) hw ls (lv_sub hl [0, 1, 2, 3] rfl)
  refine lv_iload_n hx hb dZB_sumOfFirst_33 rfl (lv_at hl 1 rfl) ?_
  subst hQ9
  exact W.iret (v := x2_4e) hx hb hr (fun t ht hW => ⟨x2_4e, rfl, hw, ht⟩) (fun q h => nomatch h) dZB_sumOfFirst_34
theorem dZB_bitsFrom_0 : decode cZB_bitsFrom 0 = .ok (.iconst 0, 1) := by decide +kernel
theorem dZB_bitsFrom_1 : decode cZB_bitsFrom 1 = .ok (.istore_n 3, 1) := by decide +kernel
theorem dZB_bitsFrom_2 : decode cZB_bitsFrom 2 = .ok (.iconst 0, 1) := by decide +kernel
theorem dZB_bitsFrom_3 : decode cZB_bitsFrom 3 = .ok (.istore 4, 2) := by decide +kernel
theorem dZB_bitsFrom_5 : decode cZB_bitsFrom 5 = .ok (.iload 4, 2) := by decide +kernel
theorem dZB_bitsFrom_7 : decode cZB_bitsFrom 7 = .ok (.iload_n 2, 1) := by decide +kernel
theorem dZB_bitsFrom_8 : decode cZB_bitsFrom 8 = .ok (.if_icmp .ge 39, 3) := by decide +kernel
theorem dZB_bitsFrom_11 : decode cZB_bitsFrom 11 = .ok (.iload_n 1, 1) := by decide +kernel
theorem dZB_bitsFrom_12 : decode cZB_bitsFrom 12 = .ok (.iload 4, 2) := by decide +kernel
theorem dZB_bitsFrom_14 : decode cZB_bitsFrom 14 = .ok (.iadd, 1) := by decide +kernel
theorem dZB_bitsFrom_15 : decode cZB_bitsFrom 15 = .ok (.istore 5, 2) := by decide +kernel
theorem dZB_bitsFrom_17 : decode cZB_bitsFrom 17 = .ok (.iload_n 3, 1) := by decide +kernel
theorem dZB_bitsFrom_18 : decode cZB_bitsFrom 18 = .ok (.aload_n 0, 1) := by decide +kernel
theorem dZB_bitsFrom_19 : decode cZB_bitsFrom 19 = .ok (.getfield 9, 3) := by decide +kernel
theorem dZB_bitsFrom_22 : decode cZB_bitsFrom 22 = .ok (.iload 5, 2) := by decide +kernel
theorem dZB_bitsFrom_24 : decode cZB_bitsFrom 24 = .ok (.bipush 8, 2) := by decide +kernel
theorem dZB_bitsFrom_26 : decode cZB_bitsFrom 26 = .ok (.idiv, 1) := by decide +kernel
theorem dZB_bitsFrom_27 : decode cZB_bitsFrom 27 = .ok (.iaload, 1) := by decide +kernel
theorem dZB_bitsFrom_28 : decode cZB_bitsFrom 28 = .ok (.iload 5, 2) := by decide +kernel
theorem dZB_bitsFrom_30 : decode cZB_bitsFrom 30 = .ok (.bipush 8, 2) := by decide +kernel
theorem dZB_bitsFrom_32 : decode cZB_bitsFrom 32 = .ok (.irem, 1) := by decide +kernel
theorem dZB_bitsFrom_33 : decode cZB_bitsFrom 33 = .ok (.ishr, 1) := by decide +kernel
theorem dZB_bitsFrom_34 : decode cZB_bitsFrom 34 = .ok (.iconst 1, 1) := by decide +kernel
theorem dZB_bitsFrom_35 : decode cZB_bitsFrom 35 = .ok (.iand, 1) := by decide +kernel
theorem dZB_bitsFrom_36 : decode cZB_bitsFrom 36 = .ok (.iload 4, 2) := by decide +kernel
theorem dZB_bitsFrom_38 : decode cZB_bitsFrom 38 = .ok (.ishl, 1) := by decide +kernel
theorem dZB_bitsFrom_39 : decode cZB_bitsFrom 39 = .ok (.ior, 1) := by decide +kernel
theorem dZB_bitsFrom_40 : decode cZB_bitsFrom 40 = .ok (.istore_n 3, 1) := by decide +kernel
theorem dZB_bitsFrom_41 : decode cZB_bitsFrom 41 = .ok (.iinc 4 1, 3) := by decide +kernel
theorem dZB_bitsFrom_44 : decode cZB_bitsFrom 44 = .ok (.goto (-39), 3) := by decide +kernel
theorem dZB_bitsFrom_47 : decode cZB_bitsFrom 47 = .ok (.iload_n 3, 1) := by decide +kernel
theorem dZB_bitsFrom_48 : decode cZB_bitsFrom 48 = .ok (.ireturn, 1) := by decide +kernel
abbrev wsZB_bitsFrom : List Cond := .code yZB_bitsFrom cZB_bitsFrom 6 (some .int) :: tbg
def lp_ZB_bitsFrom_5 (bl : Int32) (bf : Nat → Int32) (a1 : Int32) (a2 : Int32) (post : Int32 → Prop) (K5 : Int32 → Int32 → Prop) (n : Nat) : Int32 → Int32 → Prop := Nat.rec (motive := fun _ => Int32 → Int32 → Prop) (fun (x3_5 : Int32) (x4_5 : Int32) => False) (fun _ ih5 (x3_5 : Int32) (x4_5 : Int32) => ((a2 ≤ x4_5 → (K5 x3_5 x4_5)) ∧ (¬ a2 ≤ x4_5 → (vp_in ((a1 + x4_5) / (8 : Int32)) 256 ∧ (ih5 (x3_5 ||| ((((bf ((a1 + x4_5) / (8 : Int32)).toNatClampNeg) >>> (((a1 + x4_5) - (a1 + x4_5) / (8 : Int32) * (8 : Int32)) &&& 31)) &&& (1 : Int32)) <<< (x4_5 &&& 31))) (x4_5 + (1 : Int32))))))) n
def wp_ZB_bitsFrom (bl : Int32) (bf : Nat → Int32) (a1 : Int32) (a2 : Int32) (post : Int32 → Prop) : Prop := ∃ n : Nat, lp_ZB_bitsFrom_5 bl bf a1 a2 post (fun (x3_5e : Int32) (x4_5e : Int32) => post x3_5e) n (0 : Int32) (0 : Int32)
abbrev rm_ZB_bitsFrom : Room := { frames := 0, cells := 0, slots := 0, locals := 0 }
set_option maxHeartbeats 4000000 in
set_option maxRecDepth 100000 in
theorem kt_ZB_bitsFrom (l : Launch) (dC : Nat → ClassId) (dI : Nat → Nat → Nat) (cI : ClassId) (ob oba : Nat) (bl : Int32) (bf : Nat → Int32) (a1 : Int32) (a2 : Int32) (post : Int32 → Prop) (hw : wp_ZB_bitsFrom bl bf a1 a2 post) : Met l yZB_bitsFrom wsZB_bitsFrom rm_ZB_bitsFrom (gr_Pc dC dI [(cI, .int)] [.ref ob, .int a1, .int a2] [(ob, .inr (0, [.ref oba, .int bl])), (oba, .inl (cI, 256, .inl bf))]) (vp_Si post) 0 0 (fun _ => False) := by
  refine Met.ofW (cc := cZB_bitsFrom) (maxL := 6) (ret := (some .int)) (by decide) rfl ?_
  intro p e s m args below meth c s₁ B hml hv
  obtain ⟨ha9, hP, hK, hE⟩ := hv
  have hx := B.exec
  have hb := B.bytes
  have hr := B.returns
  have hts0 := atoms_spec (ws := wsZB_bitsFrom) B.pre
  have hts : ∀ w ∈ tbg, w.before args s = true := fun w h => hts0 w (List.mem_cons_of_mem _ h)
  have hown : s.vm.findClass RZB = some m.cls := findClass_of_methodNamed B.named
  have hlocks := B.notSynchronized
  refine gx_Q (fun Q9 hQ9 => ?_)
  have hl := lv_entry ([.ref ob, .int a1, .int a2]) (n := 6) (Nat.le_of_ble_eq_true rfl)
  have he9 : entryFrame m args 6 = F0 m 0 ((lg_sl [.ref ob, .int a1, .int a2] ++ List.replicate (6 - (lg_sl ([.ref ob, .int a1, .int a2] : List Value)).length) Slot.unset).toArray) [] := by rw [ha9]; exact lg_entry_eq m [.ref ob, .int a1, .int a2] 6
  rw [he9]
  generalize (lg_sl ([.ref ob, .int a1, .int a2] : List Value) ++ List.replicate (6 - (lg_sl ([.ref ob, .int a1, .int a2] : List Value)).length) Slot.unset).toArray = ls at hl ⊢
  have hl : lv_has ls 6 [(0, .ref ob), (1, .int a1), (2, .int a2)] := hl
  refine lv_iconst (v := (0 : Int32)) hx hb dZB_bitsFrom_0 (by decide) ?_
  refine lv_istore_n (lv' := [(3, .int (0 : Int32)), (0, .ref ob), (1, .int a1), (2, .int a2)]) hx hb dZB_bitsFrom_1 rfl hl (by decide) rfl (fun ls hl => ?_)
  refine lv_iconst (v := (0 : Int32)) hx hb dZB_bitsFrom_2 (by decide) ?_
  refine lv_istore (lv' := [(4, .int (0 : Int32)), (3, .int (0 : Int32)), (0, .ref ob), (1, .int a1), (2, .int a2)]) hx hb dZB_bitsFrom_3 hl (by decide) rfl (fun ls hl => ?_)
  have lp5 : ∀ K5 : Int32 → Int32 → Prop, (∀ (x3_5 : Int32) (x4_5 : Int32), K5 x3_5 x4_5 → ∀ ls : Array Slot, lv_has ls 6 [(4, .int x4_5), (3, .int x3_5), (0, .ref ob), (1, .int a1), (2, .int a2)] → W p l e (headSpec wsZB_bitsFrom rm_ZB_bitsFrom).room s m args below meth c s.heap [] 0 0 Q9 (F0 m 47 ls [])) → ∀ (n : Nat) (x3_5 : Int32) (x4_5 : Int32), lp_ZB_bitsFrom_5 bl bf a1 a2 post K5 n x3_5 x4_5 → ∀ ls : Array Slot, lv_has ls 6 [(4, .int x4_5), (3, .int x3_5), (0, .ref ob), (1, .int a1), (2, .int a2)] → W p l e (headSpec wsZB_bitsFrom rm_ZB_bitsFrom).room s m args below meth c s.heap [] 0 0 Q9 (F0 m 5 ls []) := by
    intro K5 aft5 n
    induction n with
    | zero => intro x3_5 x4_5 hw; exact False.elim hw
    | succ n ih5 =>
      intro x3_5 x4_5 hw ls hl
      refine lv_iload hx hb dZB_bitsFrom_5 (lv_at hl 0 rfl) ?_
      refine lv_iload_n hx hb dZB_bitsFrom_7 rfl (lv_at hl 4 rfl) ?_
      refine lv_icmp_ge (tgt := 47) hx hb dZB_bitsFrom_8 (by decide) (fun c_1 => ?_) (fun c_1 => ?_)
      · have hw := hw.1 c_1
        exact aft5 x3_5 x4_5 hw ls (lv_sub hl [0, 1, 2, 3, 4] rfl)
      · have hw := hw.2 c_1
        refine lv_iload_n hx hb dZB_bitsFrom_11 rfl (lv_at hl 3 rfl) ?_
        refine lv_iload hx hb dZB_bitsFrom_12 (lv_at hl 0 rfl) ?_
        refine lv_iadd hx hb dZB_bitsFrom_14 ?_
        refine lv_istore (lv' := [(5, .int (a1 + x4_5)), (4, .int x4_5), (3, .int x3_5), (0, .ref ob), (1, .int a1), (2, .int a2)]) hx hb dZB_bitsFrom_15 hl (by decide) rfl (fun ls hl => ?_)
        refine lv_iload_n hx hb dZB_bitsFrom_17 rfl (lv_at hl 2 rfl) ?_
        refine lv_aload_n hx hb dZB_bitsFrom_18 rfl (lv_at hl 3 rfl) ?_
        refine va_get (D := (dC, dI)) (ci := 0) (v := .ref oba) (C := RZB) (T := TZB) (N := 2) hx hb hts inZB hown hK hP 0 rfl rfl 0 (by decide) (hts _ mm_75) (fun _ h9 => h9) rfl dZB_bitsFrom_19 ?_
        refine lv_iload hx hb dZB_bitsFrom_22 (lv_at hl 0 rfl) ?_
        refine lv_bipush (v := (8 : Int32)) hx hb dZB_bitsFrom_24 (by decide) ?_
        refine lv_idiv hx hb dZB_bitsFrom_26 (by decide) ?_
        obtain ⟨h_2, hw⟩ := hw
        refine va_iald hx hb hK hP 1 0 rfl rfl h_2 dZB_bitsFrom_27 ?_
        refine lv_iload hx hb dZB_bitsFrom_28 (lv_at hl 0 rfl) ?_
        refine lv_bipush (v := (8 : Int32)) hx hb dZB_bitsFrom_30 (by decide) ?_
        refine lv_irem hx hb dZB_bitsFrom_32 (by decide) ?_
        refine lv_ishr hx hb dZB_bitsFrom_33 ?_
        refine lv_iconst (v := (1 : Int32)) hx hb dZB_bitsFrom_34 (by decide) ?_
        refine lv_iand hx hb dZB_bitsFrom_35 ?_
        refine lv_iload hx hb dZB_bitsFrom_36 (lv_at hl 1 rfl) ?_
        refine lv_ishl hx hb dZB_bitsFrom_38 ?_
        refine lv_ior hx hb dZB_bitsFrom_39 ?_
        refine lv_istore_n (lv' := [(3, .int (x3_5 ||| ((((bf ((a1 + x4_5) / (8 : Int32)).toNatClampNeg) >>> (((a1 + x4_5) - (a1 + x4_5) / (8 : Int32) * (8 : Int32)) &&& 31)) &&& (1 : Int32)) <<< (x4_5 &&& 31)))), (5, .int (a1 + x4_5)), (4, .int x4_5), (0, .ref ob), (1, .int a1), (2, .int a2)]) hx hb dZB_bitsFrom_40 rfl hl (by decide) rfl (fun ls hl => ?_)
        refine lv_iinc (v := x4_5 + (1 : Int32)) (lv' := [(4, .int (x4_5 + (1 : Int32))), (3, .int (x3_5 ||| ((((bf ((a1 + x4_5) / (8 : Int32)).toNatClampNeg) >>> (((a1 + x4_5) - (a1 + x4_5) / (8 : Int32) * (8 : Int32)) &&& 31)) &&& (1 : Int32)) <<< (x4_5 &&& 31)))), (5, .int (a1 + x4_5)), (0, .ref ob), (1, .int a1), (2, .int a2)]) hx hb dZB_bitsFrom_41 hl (k := 2) rfl rfl (by decide) rfl (fun ls hl => ?_)
        refine lv_goto (tgt := 5) hx hb dZB_bitsFrom_44 (by decide) ?_
        exact ih5 (x3_5 ||| ((((bf ((a1 + x4_5) / (8 : Int32)).toNatClampNeg) >>> (((a1 + x4_5) - (a1 + x4_5) / (8 : Int32) * (8 : Int32)) &&& 31)) &&& (1 : Int32)) <<< (x4_5 &&& 31))) (x4_5 + (1 : Int32)) hw ls (lv_sub hl [0, 1, 3, 4, 5] rfl)
  obtain ⟨n5, hw⟩ := hw
  refine lp5 _ (fun x3_5e x4_5e hw ls hl => ?_) n5 (0 : Int32) (0 : Int32) hw ls (lv_sub hl [0, 1, 2, 3, 4] rfl)
  refine lv_iload_n hx hb dZB_bitsFrom_47 rfl (lv_at hl 1 rfl) ?_
  subst hQ9
  exact W.iret (v := x3_5e) hx hb hr (fun t ht hW => ⟨x3_5e, rfl, hw, ht⟩) (fun q h => nomatch h) dZB_bitsFrom_48
theorem dZB_append_0 : decode cZB_append 0 = .ok (.aload_n 0, 1) := by decide +kernel
theorem dZB_append_1 : decode cZB_append 1 = .ok (.invokevirtual 19, 3) := by decide +kernel
theorem dZB_append_4 : decode cZB_append 4 = .ok (.ifCond .ne 23, 3) := by decide +kernel
theorem dZB_append_7 : decode cZB_append 7 = .ok (.aload_n 0, 1) := by decide +kernel
theorem dZB_append_8 : decode cZB_append 8 = .ok (.getfield 9, 3) := by decide +kernel
theorem dZB_append_11 : decode cZB_append 11 = .ok (.aload_n 0, 1) := by decide +kernel
theorem dZB_append_12 : decode cZB_append 12 = .ok (.getfield 15, 3) := by decide +kernel
theorem dZB_append_15 : decode cZB_append 15 = .ok (.iload_n 1, 1) := by decide +kernel
theorem dZB_append_16 : decode cZB_append 16 = .ok (.iastore, 1) := by decide +kernel
theorem dZB_append_17 : decode cZB_append 17 = .ok (.aload_n 0, 1) := by decide +kernel
theorem dZB_append_18 : decode cZB_append 18 = .ok (.dup, 1) := by decide +kernel
theorem dZB_append_19 : decode cZB_append 19 = .ok (.getfield 15, 3) := by decide +kernel
theorem dZB_append_22 : decode cZB_append 22 = .ok (.iconst 1, 1) := by decide +kernel
theorem dZB_append_23 : decode cZB_append 23 = .ok (.iadd, 1) := by decide +kernel
theorem dZB_append_24 : decode cZB_append 24 = .ok (.putfield 15, 3) := by decide +kernel
theorem dZB_append_27 : decode cZB_append 27 = .ok (.return_, 1) := by decide +kernel
abbrev wsZB_append : List Cond := .code yZB_append cZB_append 2 none :: tbg
def wp_ZB_append (bl : Int32) (bf : Nat → Int32) (a1 : Int32) (post : Int32 → (Nat → Int32) → Prop) : Prop := wp_ZB_isFull bl bf (fun r_1 : Int32 => ((r_1 = (0 : Int32) → (vp_in bl 256 ∧ (post (bl + (1 : Int32)) (upd bf bl.toNatClampNeg a1)))) ∧ (¬ r_1 = (0 : Int32) → (post bl bf))))
abbrev rm_ZB_append : Room := { frames := 1, cells := 0, slots := 0, locals := 20 }
set_option maxHeartbeats 4000000 in
set_option maxRecDepth 100000 in
theorem kt_ZB_append (l : Launch) (dC : Nat → ClassId) (dI : Nat → Nat → Nat) (cI : ClassId) (ob oba : Nat) (sz : Nat) (bl : Int32) (bf : Nat → Int32) (a1 : Int32) (post : Int32 → (Nat → Int32) → Prop) (hw : wp_ZB_append bl bf a1 post) : Met l yZB_append wsZB_append rm_ZB_append (gw_Pc dC dI [(cI, .int)] [.ref ob, .int a1] [(ob, .inr (0, [.ref oba, .int bl])), (oba, .inl (cI, 256, .inl bf))] sz) (va_Qv (fun (u : Int32 × (Nat → Int32)) => post u.1 u.2) (fun u t => gw_B dC dI [(cI, .int)] (va_A [(ob, .inr (0, [.ref oba, .int bl])), (oba, .inl (cI, 256, .inl bf))] sz) [(ob, .inr (0, [.ref oba, .int u.1])), (oba, .inl (cI, 256, .inl u.2))] t) (va_A [(ob, .inr (0, [.ref oba, .int bl])), (oba, .inl (cI, 256, .inl bf))] sz)) 0 0 (va_A [(ob, .inr (0, [.ref oba, .int bl])), (oba, .inl (cI, 256, .inl bf))] sz) := by
  refine Met.ofW (cc := cZB_append) (maxL := 2) (ret := none) (by decide) rfl ?_
  intro p e s m args below meth c s₁ B hml hv
  obtain ⟨ha9, hsz, hP, hK, hE, hD0⟩ := hv
  have hx := B.exec
  have hb := B.bytes
  have hr := B.returns
  have hts0 := atoms_spec (ws := wsZB_append) B.pre
  have hts : ∀ w ∈ tbg, w.before args s = true := fun w h => hts0 w (List.mem_cons_of_mem _ h)
  have hown : s.vm.findClass RZB = some m.cls := findClass_of_methodNamed B.named
  have hlocks := B.notSynchronized
  subst hsz
  have hD := hD0.self (sz := s.heap.size)
  refine gx_Q (fun Q9 hQ9 => ?_)
  generalize hAe : va_A [(ob, .inr (0, [.ref oba, .int bl])), (oba, .inl (cI, 256, .inl bf))] s.heap.size = A at hD hQ9 ⊢
  have hA : ∀ q : Nat, s.heap.size ≤ q → A q := fun q h => by rw [← hAe]; exact Or.inr h
  have hS : va_S A s.heap s.heap [] := va_S.rf
  have hl := lv_entry ([.ref ob, .int a1]) (n := 2) (Nat.le_of_ble_eq_true rfl)
  have he9 : entryFrame m args 2 = F0 m 0 ((lg_sl [.ref ob, .int a1] ++ List.replicate (2 - (lg_sl ([.ref ob, .int a1] : List Value)).length) Slot.unset).toArray) [] := by rw [ha9]; exact lg_entry_eq m [.ref ob, .int a1] 2
  rw [he9]
  generalize (lg_sl ([.ref ob, .int a1] : List Value) ++ List.replicate (2 - (lg_sl ([.ref ob, .int a1] : List Value)).length) Slot.unset).toArray = ls at hl ⊢
  have hl : lv_has ls 2 [(0, .ref ob), (1, .int a1)] := hl
  refine lv_aload_n hx hb dZB_append_0 rfl (lv_at hl 0 rfl) ?_
  refine vp_callSi (va_runV (As := []) (rest := []) ⟨hx, hb, hml, hown, hts⟩ (kt_ZB_isFull l dC dI cI ob oba bl bf _ hw) (cwV 0 hts (tb_V mm_485 mm_486 mm_487 mm_5 mm_488) rfl rfl rfl (by decide +kernel) ⟨Nat.le_of_ble_eq_true rfl, Nat.le_of_ble_eq_true rfl⟩) ⟨gr_blind, va_recv hK hP (ci := 0) (q0 := 0) rfl rfl, fun U hU hW => gr_pre hP hK hE hU hW⟩ rfl rfl hl.1 rfl (lv_room (Nat.le_of_ble_eq_true rfl)) dZB_append_1 ⟨Nat.le_of_ble_eq_true rfl, Nat.le_of_ble_eq_true rfl⟩).run (fun r_1 hw => ?_)
  refine lv_if_ne (tgt := 27) hx hb dZB_append_4 (by decide) (fun c_2 => ?_) (fun c_2 => ?_)
  · have hw := hw.2 c_2
    have hP9 := hP.sub (ws' := [(ob, .inr (0, [.ref oba, .int bl])), (oba, .inl (cI, 256, .inl bf))]) [0, 1] rfl
    have hD9 := hD.sub (ws' := [(ob, .inr (0, [.ref oba, .int bl])), (oba, .inl (cI, 256, .inl bf))]) [0, 1] (by decide) rfl
    subst hQ9
    exact W.vret hx hb hr (fun t ht hW => ⟨⟨(bl, bf), rfl, hw, by rw [ht]; exact hP9, va_K.moved hW.alike hK, hD9⟩, hS.F ht⟩) hS.2.2 dZB_append_27
  · have hw := hw.1 c_2
    refine lv_aload_n hx hb dZB_append_7 rfl (lv_at hl 0 rfl) ?_
    refine va_get (D := (dC, dI)) (ci := 0) (v := .ref oba) (C := RZB) (T := TZB) (N := 2) hx hb hts inZB hown hK hP 0 rfl rfl 0 (by decide) (hts _ mm_75) (fun _ h9 => h9) rfl dZB_append_8 ?_
    refine lv_aload_n hx hb dZB_append_11 rfl (lv_at hl 0 rfl) ?_
    refine va_get (D := (dC, dI)) (ci := 0) (v := .int bl) (C := RZB) (T := TZB) (N := 2) hx hb hts inZB hown hK hP 0 rfl rfl 1 (by decide) (hts _ mm_78) (fun _ h9 => h9) rfl dZB_append_12 ?_
    refine lv_iload_n hx hb dZB_append_15 rfl (lv_at hl 1 rfl) ?_
    obtain ⟨h_3, hw⟩ := hw
    refine va_iast hx hb hK hP hD hS 1 0 rfl rfl h_3 dZB_append_16 (fun H locs hP hD hS => ?_)
    have hP : va_P (dC, dI) vwCl [(ob, .inr (0, [.ref oba, .int bl])), (oba, .inl (cI, 256, .inl (upd bf bl.toNatClampNeg a1)))] H := hP
    have hD : va_D A [(ob, .inr (0, [.ref oba, .int bl])), (oba, .inl (cI, 256, .inl (upd bf bl.toNatClampNeg a1)))] := hD
    refine lv_aload_n hx hb dZB_append_17 rfl (lv_at hl 0 rfl) ?_
    refine lv_dup hx hb dZB_append_18 rfl ?_
    refine va_get (D := (dC, dI)) (ci := 0) (v := .int bl) (C := RZB) (T := TZB) (N := 2) hx hb hts inZB hown hK hP 0 rfl rfl 1 (by decide) (hts _ mm_78) (fun _ h9 => h9) rfl dZB_append_19 ?_
    refine lv_iconst (v := (1 : Int32)) hx hb dZB_append_22 (by decide) ?_
    refine lv_iadd hx hb dZB_append_23 ?_
    refine va_put (D := (dC, dI)) (ci := 0) (v := .int (bl + (1 : Int32))) (ty := .int) (C := RZB) (T := TZB) (N := 2) hx hb hts inZB tyZB tyZB_ok nmZB hown hK hP hD hS 0 rfl rfl 1 (by decide) (hts _ mm_78) (fun _ h9 => h9) rfl (by decide +kernel) rfl rfl (Nat.le_of_ble_eq_true rfl) dZB_append_24 (fun H locs hP hD hS => ?_)
    have hP : va_P (dC, dI) vwCl [(ob, .inr (0, [.ref oba, .int (bl + (1 : Int32))])), (oba, .inl (cI, 256, .inl (upd bf bl.toNatClampNeg a1)))] H := hP
    have hD : va_D A [(ob, .inr (0, [.ref oba, .int (bl + (1 : Int32))])), (oba, .inl (cI, 256, .inl (upd bf bl.toNatClampNeg a1)))] := hD
    have hP9 := hP.sub (ws' := [(ob, .inr (0, [.ref oba, .int (bl + (1 : Int32))])), (oba, .inl (cI, 256, .inl (upd bf bl.toNatClampNeg a1)))]) [0, 1] rfl
    have hD9 := hD.sub (ws' := [(ob, .inr (0, [.ref oba, .int (bl + (1 : Int32))])), (oba, .inl (cI, 256, .inl (upd bf bl.toNatClampNeg a1)))]) [0, 1] (by decide) rfl
    subst hQ9
    exact W.vret hx hb hr (fun t ht hW => ⟨⟨(bl + (1 : Int32), upd bf bl.toNatClampNeg a1), rfl, hw, by rw [ht]; exact hP9, va_K.moved hW.alike hK, hD9⟩, hS.F ht⟩) hS.2.2 dZB_append_27
theorem dZB_init_0 : decode cZB_init 0 = .ok (.aload_n 0, 1) := by decide +kernel
theorem dZB_init_1 : decode cZB_init 1 = .ok (.invokespecial 3, 3) := by decide +kernel
theorem dZB_init_4 : decode cZB_init 4 = .ok (.aload_n 0, 1) := by decide +kernel
theorem dZB_init_5 : decode cZB_init 5 = .ok (.sipush 256, 3) := by decide +kernel
theorem dZB_init_8 : decode cZB_init 8 = .ok (.newarray .int, 2) := by decide +kernel
theorem dZB_init_10 : decode cZB_init 10 = .ok (.putfield 9, 3) := by decide +kernel
theorem dZB_init_13 : decode cZB_init 13 = .ok (.return_, 1) := by decide +kernel
abbrev wsZB_init : List Cond := .code yZB_init cZB_init 1 none :: tbg
def wp_ZB_init (bl : Int32) (post : (Nat → Int32) → Prop) : Prop := post (fun _ => 0)
abbrev rm_ZB_init : Room := { frames := 1, cells := 1, slots := 256, locals := 20 }
set_option maxHeartbeats 4000000 in
set_option maxRecDepth 100000 in
theorem kt_ZB_init (l : Launch) (dC : Nat → ClassId) (dI : Nat → Nat → Nat) (cI : ClassId) (ob : Nat) (sz : Nat) (bl : Int32) (post : (Nat → Int32) → Prop) (hw : wp_ZB_init bl post) : Met l yZB_init wsZB_init rm_ZB_init (gw_Pc dC dI [(cI, .int)] [.ref ob] [(ob, .inr (0, [.null, .int bl]))] sz) (va_Qv (fun (u : (Nat → Int32)) => post u) (fun u t => ∃ oba : Nat, gw_B dC dI [(cI, .int)] (va_A [(ob, .inr (0, [.null, .int bl]))] sz) [(ob, .inr (0, [.ref oba, .int bl])), (oba, .inl (cI, 256, .inl u))] t) (va_A [(ob, .inr (0, [.null, .int bl]))] sz)) 1 256 (va_A [(ob, .inr (0, [.null, .int bl]))] sz) := by
  refine Met.ofW (cc := cZB_init) (maxL := 1) (ret := none) (by decide) rfl ?_
  intro p e s m args below meth c s₁ B hml hv
  obtain ⟨ha9, hsz, hP, hK, hE, hD0⟩ := hv
  have hx := B.exec
  have hb := B.bytes
  have hr := B.returns
  have hts0 := atoms_spec (ws := wsZB_init) B.pre
  have hts : ∀ w ∈ tbg, w.before args s = true := fun w h => hts0 w (List.mem_cons_of_mem _ h)
  have hown : s.vm.findClass RZB = some m.cls := findClass_of_methodNamed B.named
  have hlocks := B.notSynchronized
  have hin : meth.name = "<init>" := (name_of_methodNamed B.named B.method).1
  subst hsz
  have hD := hD0.self (sz := s.heap.size)
  refine gx_Q (fun Q9 hQ9 => ?_)
  generalize hAe : va_A [(ob, .inr (0, [.null, .int bl]))] s.heap.size = A at hD hQ9 ⊢
  have hA : ∀ q : Nat, s.heap.size ≤ q → A q := fun q h => by rw [← hAe]; exact Or.inr h
  have hS : va_S A s.heap s.heap [] := va_S.rf
  have hl := lv_entry ([.ref ob]) (n := 1) (Nat.le_of_ble_eq_true rfl)
  have he9 : entryFrame m args 1 = F0 m 0 ((lg_sl [.ref ob] ++ List.replicate (1 - (lg_sl ([.ref ob] : List Value)).length) Slot.unset).toArray) [] := by rw [ha9]; exact lg_entry_eq m [.ref ob] 1
  rw [he9]
  generalize (lg_sl ([.ref ob] : List Value) ++ List.replicate (1 - (lg_sl ([.ref ob] : List Value)).length) Slot.unset).toArray = ls at hl ⊢
  have hl : lv_has ls 1 [(0, .ref ob)] := hl
  refine lv_aload_n hx hb dZB_init_0 rfl (lv_at hl 0 rfl) ?_
  refine W.objInit hx hb hown (hts _ mm_74) (hts _ mm_23) (hts _ mm_24) rfl (by rw [hml]; exact hl.1) rfl dZB_init_1 (Nat.le_of_ble_eq_true rfl) (Nat.le_of_ble_eq_true rfl) ?_
  refine W.eq (g2 := F0 m 4 ls []) rfl ?_
  refine lv_aload_n hx hb dZB_init_4 rfl (lv_at hl 0 rfl) ?_
  refine lv_sipush (v := (256 : Int32)) hx hb dZB_init_5 (by decide) ?_
  refine va_newa (atype := .int) (N' := 256) (a0 := (256, .inl (fun _ => 0))) (ty := .int) hx hb (hts _ mm_53) rfl hK hP hD hS hA (fun _ => rfl) (by decide) (by decide) (Nat.le_of_ble_eq_true rfl) (Nat.le_of_ble_eq_true rfl) (Nat.le_of_ble_eq_true rfl) dZB_init_8 (fun q_1 cAq_1 H hK2 hP hD hS => ?_)
  have hc_q_1 : cAq_1 = cI := Option.some.inj ((va_nm_int (hK2.2 1 _ rfl).2).symm.trans (va_nm_int (hK.2 0 _ rfl).2))
  rw [hc_q_1] at hP hD
  refine W.widen (k := 1) (n := 256) (by omega) (by omega) ?_
  have hP : va_P (dC, dI) vwCl [(ob, .inr (0, [.null, .int bl])), (q_1, .inl (cI, 256, .inl (fun _ => 0)))] H := hP
  have hD : va_D A [(ob, .inr (0, [.null, .int bl])), (q_1, .inl (cI, 256, .inl (fun _ => 0)))] := hD
  refine va_putF (D := (dC, dI)) (ci := 0) (v := .ref q_1) (ty := (.array .int)) (C := RZB) (T := TZB) (N := 2) hx hb hts inZB tyZB tyZB_ok nmZB hown hK hP hD hS 0 rfl rfl 0 (by decide) (hts _ mm_75) (fun _ h9 => h9) rfl hin rfl (by decide +kernel) rfl rfl (Nat.le_of_ble_eq_true rfl) dZB_init_10 (fun H locs hP hD hS => ?_)
  have hP : va_P (dC, dI) vwCl [(ob, .inr (0, [.ref q_1, .int bl])), (q_1, .inl (cI, 256, .inl (fun _ => 0)))] H := hP
  have hD : va_D A [(ob, .inr (0, [.ref q_1, .int bl])), (q_1, .inl (cI, 256, .inl (fun _ => 0)))] := hD
  have hP9 := hP.sub (ws' := [(ob, .inr (0, [.ref q_1, .int bl])), (q_1, .inl (cI, 256, .inl (fun _ => 0)))]) [0, 1] rfl
  have hD9 := hD.sub (ws' := [(ob, .inr (0, [.ref q_1, .int bl])), (q_1, .inl (cI, 256, .inl (fun _ => 0)))]) [0, 1] (by decide) rfl
  subst hQ9
  exact W.vret hx hb hr (fun t ht hW => ⟨⟨(fun _ => 0), rfl, hw, q_1, by rw [ht]; exact hP9, va_K.moved hW.alike hK, hD9⟩, hS.F ht⟩) hS.2.2 dZB_init_13
end
section
theorem dZQ_isWithin_0 : decode cZQ_isWithin 0 = .ok (.iload_n 0, 1) := by decide +kernel
theorem dZQ_isWithin_1 : decode cZQ_isWithin 1 = .ok (.ifCond .lt 12, 3) := by decide +kernel
theorem dZQ_isWithin_4 : decode cZQ_isWithin 4 = .ok (.iload_n 0, 1) := by decide +kernel
theorem dZQ_isWithin_5 : decode cZQ_isWithin 5 = .ok (.iload_n 1, 1) := by decide +kernel
theorem dZQ_isWithin_6 : decode cZQ_isWithin 6 = .ok (.if_icmp .ge 7, 3) := by decide +kernel
theorem dZQ_isWithin_9 : decode cZQ_isWithin 9 = .ok (.iconst 1, 1) := by decide +kernel
theorem dZQ_isWithin_10 : decode cZQ_isWithin 10 = .ok (.goto 4, 3) := by decide +kernel
theorem dZQ_isWithin_13 : decode cZQ_isWithin 13 = .ok (.iconst 0, 1) := by decide +kernel
theorem dZQ_isWithin_14 : decode cZQ_isWithin 14 = .ok (.ireturn, 1) := by decide +kernel
abbrev wsZQ_isWithin : List Cond := .code yZQ_isWithin cZQ_isWithin 2 (some .boolean) :: tbg
def wp_ZQ_isWithin (a1 : Int32) (a2 : Int32) (post : Int32 → Prop) : Prop := ((a1 < (0 : Int32) → (post (0 : Int32))) ∧ (¬ a1 < (0 : Int32) → ((a2 ≤ a1 → (post (0 : Int32))) ∧ (¬ a2 ≤ a1 → (post (1 : Int32))))))
abbrev rm_ZQ_isWithin : Room := { frames := 0, cells := 0, slots := 0, locals := 0 }
set_option maxHeartbeats 4000000 in
set_option maxRecDepth 100000 in
theorem kt_ZQ_isWithin (l : Launch) (dC : Nat → ClassId) (dI : Nat → Nat → Nat) (cI : ClassId) (a1 : Int32) (a2 : Int32) (post : Int32 → Prop) (hw : wp_ZQ_isWithin a1 a2 post) : Met l yZQ_isWithin wsZQ_isWithin rm_ZQ_isWithin (gr_Pc dC dI [(cI, .int)] [.int a1, .int a2] []) (vp_Si post) 0 0 (fun _ => False) := by
  refine Met.ofW (cc := cZQ_isWithin) (maxL := 2) (ret := (some .boolean)) (by decide) rfl ?_
  intro p e s m args below meth c s₁ B hml hv
  obtain ⟨ha9, hP, hK, hE⟩ := hv
  have hx := B.exec
  have hb := B.bytes
  have hr := B.returns
  have hts0 := atoms_spec (ws := wsZQ_isWithin) B.pre
  have hts : ∀ w ∈ tbg, w.before args s = true := fun w h => hts0 w (List.mem_cons_of_mem _ h)
  have hown : s.vm.findClass RZQ = some m.cls := findClass_of_methodNamed B.named
  have hlocks := B.notSynchronized
  refine gx_Q (fun Q9 hQ9 => ?_)
  have hl := lv_entry ([.int a1, .int a2]) (n := 2) (Nat.le_of_ble_eq_true rfl)
  have he9 : entryFrame m args 2 = F0 m 0 ((lg_sl [.int a1, .int a2] ++ List.replicate (2 - (lg_sl ([.int a1, .int a2] : List Value)).length) Slot.unset).toArray) [] := by rw [ha9]; exact lg_entry_eq m [.int a1, .int a2] 2
  rw [he9]
  generalize (lg_sl ([.int a1, .int a2] : List Value) ++ List.replicate (2 - (lg_sl ([.int a1, .int a2] : List Value)).length) Slot.unset).toArray = ls at hl ⊢
  have hl : lv_has ls 2 [(0, .int a1), (1, .int a2)] := hl
  refine lv_iload_n hx hb dZQ_isWithin_0 rfl (lv_at hl 0 rfl) ?_
  refine lv_if_lt (tgt := 13) hx hb dZQ_isWithin_1 (by decide) (fun c_1 => ?_) (fun c_1 => ?_)
  · have hw := hw.1 c_1
    refine lv_iconst (v := (0 : Int32)) hx hb dZQ_isWithin_13 (by decide) ?_
    subst hQ9
    exact W.zret (v := (0 : Int32)) (ty := .boolean) hx hb hr rfl (fun t ht hW => ⟨(0 : Int32), rfl, hw, ht⟩) (fun q h => nomatch h) dZQ_isWithin_14
  · have hw := hw.2 c_1
    refine lv_iload_n hx hb dZQ_isWithin_4 rfl (lv_at hl 0 rfl) ?_
    refine lv_iload_n hx hb dZQ_isWithin_5 rfl (lv_at hl 1 rfl) ?_
    refine lv_icmp_ge (tgt := 13) hx hb dZQ_isWithin_6 (by decide) (fun c_2 => ?_) (fun c_2 => ?_)
    · have hw := hw.1 c_2
      refine lv_iconst (v := (0 : Int32)) hx hb dZQ_isWithin_13 (by decide) ?_
      subst hQ9
      exact W.zret (v := (0 : Int32)) (ty := .boolean) hx hb hr rfl (fun t ht hW => ⟨(0 : Int32), rfl, hw, ht⟩) (fun q h => nomatch h) dZQ_isWithin_14
    · have hw := hw.2 c_2
      refine lv_iconst (v := (1 : Int32)) hx hb dZQ_isWithin_9 (by decide) ?_
      refine lv_goto (tgt := 14) hx hb dZQ_isWithin_10 (by decide) ?_
      subst hQ9
      exact W.zret (v := (1 : Int32)) (ty := .boolean) hx hb hr rfl (fun t ht hW => ⟨(1 : Int32), rfl, hw, ht⟩) (fun q h => nomatch h) dZQ_isWithin_14
theorem dZQ_isSample_0 : decode cZQ_isSample 0 = .ok (.iload_n 0, 1) := by decide +kernel
theorem dZQ_isSample_1 : decode cZQ_isSample 1 = .ok (.ifCond .lt 14, 3) := by decide +kernel
theorem dZQ_isSample_4 : decode cZQ_isSample 4 = .ok (.iload_n 0, 1) := by decide +kernel
theorem dZQ_isSample_5 : decode cZQ_isSample 5 = .ok (.sipush 255, 3) := by decide +kernel
theorem dZQ_isSample_8 : decode cZQ_isSample 8 = .ok (.if_icmp .gt 7, 3) := by decide +kernel
theorem dZQ_isSample_11 : decode cZQ_isSample 11 = .ok (.iconst 1, 1) := by decide +kernel
theorem dZQ_isSample_12 : decode cZQ_isSample 12 = .ok (.goto 4, 3) := by decide +kernel
theorem dZQ_isSample_15 : decode cZQ_isSample 15 = .ok (.iconst 0, 1) := by decide +kernel
theorem dZQ_isSample_16 : decode cZQ_isSample 16 = .ok (.ireturn, 1) := by decide +kernel
abbrev wsZQ_isSample : List Cond := .code yZQ_isSample cZQ_isSample 1 (some .boolean) :: tbg
def wp_ZQ_isSample (a1 : Int32) (post : Int32 → Prop) : Prop := ((a1 < (0 : Int32) → (post (0 : Int32))) ∧ (¬ a1 < (0 : Int32) → (((255 : Int32) < a1 → (post (0 : Int32))) ∧ (¬ (255 : Int32) < a1 → (post (1 : Int32))))))
abbrev rm_ZQ_isSample : Room := { frames := 0, cells := 0, slots := 0, locals := 0 }
set_option maxHeartbeats 4000000 in
set_option maxRecDepth 100000 in
theorem kt_ZQ_isSample (l : Launch) (dC : Nat → ClassId) (dI : Nat → Nat → Nat) (cI : ClassId) (a1 : Int32) (post : Int32 → Prop) (hw : wp_ZQ_isSample a1 post) : Met l yZQ_isSample wsZQ_isSample rm_ZQ_isSample (gr_Pc dC dI [(cI, .int)] [.int a1] []) (vp_Si post) 0 0 (fun _ => False) := by
  refine Met.ofW (cc := cZQ_isSample) (maxL := 1) (ret := (some .boolean)) (by decide) rfl ?_
  intro p e s m args below meth c s₁ B hml hv
  obtain ⟨ha9, hP, hK, hE⟩ := hv
  have hx := B.exec
  have hb := B.bytes
  have hr := B.returns
  have hts0 := atoms_spec (ws := wsZQ_isSample) B.pre
  have hts : ∀ w ∈ tbg, w.before args s = true := fun w h => hts0 w (List.mem_cons_of_mem _ h)
  have hown : s.vm.findClass RZQ = some m.cls := findClass_of_methodNamed B.named
  have hlocks := B.notSynchronized
  refine gx_Q (fun Q9 hQ9 => ?_)
  have hl := lv_entry ([.int a1]) (n := 1) (Nat.le_of_ble_eq_true rfl)
  have he9 : entryFrame m args 1 = F0 m 0 ((lg_sl [.int a1] ++ List.replicate (1 - (lg_sl ([.int a1] : List Value)).length) Slot.unset).toArray) [] := by rw [ha9]; exact lg_entry_eq m [.int a1] 1
  rw [he9]
  generalize (lg_sl ([.int a1] : List Value) ++ List.replicate (1 - (lg_sl ([.int a1] : List Value)).length) Slot.unset).toArray = ls at hl ⊢
  have hl : lv_has ls 1 [(0, .int a1)] := hl
  refine lv_iload_n hx hb dZQ_isSample_0 rfl (lv_at hl 0 rfl) ?_
  refine lv_if_lt (tgt := 15) hx hb dZQ_isSample_1 (by decide) (fun c_1 => ?_) (fun c_1 => ?_)
  · have hw := hw.1 c_1
    refine lv_iconst (v := (0 : Int32)) hx hb dZQ_isSample_15 (by decide) ?_
    subst hQ9
    exact W.zret (v := (0 : Int32)) (ty := .boolean) hx hb hr rfl (fun t ht hW => ⟨(0 : Int32), rfl, hw, ht⟩) (fun q h => nomatch h) dZQ_isSample_16
  · have hw := hw.2 c_1
    refine lv_iload_n hx hb dZQ_isSample_4 rfl (lv_at hl 0 rfl) ?_
    refine lv_sipush (v := (255 : Int32)) hx hb dZQ_isSample_5 (by decide) ?_
    refine lv_icmp_gt (tgt := 15) hx hb dZQ_isSample_8 (by decide) (fun c_2 => ?_) (fun c_2 => ?_)
    · have hw := hw.1 c_2
      refine lv_iconst (v := (0 : Int32)) hx hb dZQ_isSample_15 (by decide) ?_
      subst hQ9
      exact W.zret (v := (0 : Int32)) (ty := .boolean) hx hb hr rfl (fun t ht hW => ⟨(0 : Int32), rfl, hw, ht⟩) (fun q h => nomatch h) dZQ_isSample_16
    · have hw := hw.2 c_2
      refine lv_iconst (v := (1 : Int32)) hx hb dZQ_isSample_11 (by decide) ?_
      refine lv_goto (tgt := 16) hx hb dZQ_isSample_12 (by decide) ?_
      subst hQ9
      exact W.zret (v := (1 : Int32)) (ty := .boolean) hx hb hr rfl (fun t ht hW => ⟨(1 : Int32), rfl, hw, ht⟩) (fun q h => nomatch h) dZQ_isSample_16
theorem dZQ_greatestDivisor_0 : decode cZQ_greatestDivisor 0 = .ok (.iload_n 0, 1) := by decide +kernel
theorem dZQ_greatestDivisor_1 : decode cZQ_greatestDivisor 1 = .ok (.istore_n 2, 1) := by decide +kernel
theorem dZQ_greatestDivisor_2 : decode cZQ_greatestDivisor 2 = .ok (.iload_n 1, 1) := by decide +kernel
theorem dZQ_greatestDivisor_3 : decode cZQ_greatestDivisor 3 = .ok (.istore_n 3, 1) := by decide +kernel
theorem dZQ_greatestDivisor_4 : decode cZQ_greatestDivisor 4 = .ok (.iconst 0, 1) := by decide +kernel
theorem dZQ_greatestDivisor_5 : decode cZQ_greatestDivisor 5 = .ok (.istore 4, 2) := by decide +kernel
theorem dZQ_greatestDivisor_7 : decode cZQ_greatestDivisor 7 = .ok (.iload 4, 2) := by decide +kernel
theorem dZQ_greatestDivisor_9 : decode cZQ_greatestDivisor 9 = .ok (.bipush 64, 2) := by decide +kernel
theorem dZQ_greatestDivisor_11 : decode cZQ_greatestDivisor 11 = .ok (.if_icmp .ge 23, 3) := by decide +kernel
theorem dZQ_greatestDivisor_14 : decode cZQ_greatestDivisor 14 = .ok (.iload_n 3, 1) := by decide +kernel
theorem dZQ_greatestDivisor_15 : decode cZQ_greatestDivisor 15 = .ok (.ifCond .eq 19, 3) := by decide +kernel
theorem dZQ_greatestDivisor_18 : decode cZQ_greatestDivisor 18 = .ok (.iload_n 2, 1) := by decide +kernel
theorem dZQ_greatestDivisor_19 : decode cZQ_greatestDivisor 19 = .ok (.iload_n 3, 1) := by decide +kernel
theorem dZQ_greatestDivisor_20 : decode cZQ_greatestDivisor 20 = .ok (.irem, 1) := by decide +kernel
theorem dZQ_greatestDivisor_21 : decode cZQ_greatestDivisor 21 = .ok (.istore 5, 2) := by decide +kernel
theorem dZQ_greatestDivisor_23 : decode cZQ_greatestDivisor 23 = .ok (.iload_n 3, 1) := by decide +kernel
theorem dZQ_greatestDivisor_24 : decode cZQ_greatestDivisor 24 = .ok (.istore_n 2, 1) := by decide +kernel
theorem dZQ_greatestDivisor_25 : decode cZQ_greatestDivisor 25 = .ok (.iload 5, 2) := by decide +kernel
theorem dZQ_greatestDivisor_27 : decode cZQ_greatestDivisor 27 = .ok (.istore_n 3, 1) := by decide +kernel
theorem dZQ_greatestDivisor_28 : decode cZQ_greatestDivisor 28 = .ok (.iinc 4 1, 3) := by decide +kernel
theorem dZQ_greatestDivisor_31 : decode cZQ_greatestDivisor 31 = .ok (.goto (-24), 3) := by decide +kernel
theorem dZQ_greatestDivisor_34 : decode cZQ_greatestDivisor 34 = .ok (.iload_n 2, 1) := by decide +kernel
theorem dZQ_greatestDivisor_35 : decode cZQ_greatestDivisor 35 = .ok (.ireturn, 1) := by decide +kernel
abbrev wsZQ_greatestDivisor : List Cond := .code yZQ_greatestDivisor cZQ_greatestDivisor 6 (some .int) :: tbg
def lp_ZQ_greatestDivisor_7 (a1 : Int32) (a2 : Int32) (post : Int32 → Prop) (K7 : Int32 → Int32 → Int32 → Prop) (n : Nat) : Int32 → Int32 → Int32 → Prop := Nat.rec (motive := fun _ => Int32 → Int32 → Int32 → Prop) (fun (x2_7 : Int32) (x3_7 : Int32) (x4_7 : Int32) => False) (fun _ ih7 (x2_7 : Int32) (x3_7 : Int32) (x4_7 : Int32) => (((64 : Int32) ≤ x4_7 → (K7 x2_7 x3_7 x4_7)) ∧ (¬ (64 : Int32) ≤ x4_7 → ((x3_7 = (0 : Int32) → (K7 x2_7 x3_7 x4_7)) ∧ (¬ x3_7 = (0 : Int32) → (¬ x3_7 = 0 ∧ (ih7 x3_7 (x2_7 - x2_7 / x3_7 * x3_7) (x4_7 + (1 : Int32))))))))) n
def wp_ZQ_greatestDivisor (a1 : Int32) (a2 : Int32) (post : Int32 → Prop) : Prop := ∃ n : Nat, lp_ZQ_greatestDivisor_7 a1 a2 post (fun (x2_7e : Int32) (x3_7e : Int32) (x4_7e : Int32) => post x2_7e) n a1 a2 (0 : Int32)
abbrev rm_ZQ_greatestDivisor : Room := { frames := 0, cells := 0, slots := 0, locals := 0 }
set_option maxHeartbeats 4000000 in
set_option maxRecDepth 100000 in
theorem kt_ZQ_greatestDivisor (l : Launch) (dC : Nat → ClassId) (dI : Nat → Nat → Nat) (cI : ClassId) (a1 : Int32) (a2 : Int32) (post : Int32 → Prop) (hw : wp_ZQ_greatestDivisor a1 a2 post) : Met l yZQ_greatestDivisor wsZQ_greatestDivisor rm_ZQ_greatestDivisor (gr_Pc dC dI [(cI, .int)] [.int a1, .int a2] []) (vp_Si post) 0 0 (fun _ => False) := by
  refine Met.ofW (cc := cZQ_greatestDivisor) (maxL := 6) (ret := (some .int)) (by decide) rfl ?_
  intro p e s m args below meth c s₁ B hml hv
  obtain ⟨ha9, hP, hK, hE⟩ := hv
  have hx := B.exec
  have hb := B.bytes
  have hr := B.returns
  have hts0 := atoms_spec (ws := wsZQ_greatestDivisor) B.pre
  have hts : ∀ w ∈ tbg, w.before args s = true := fun w h => hts0 w (List.mem_cons_of_mem _ h)
  have hown : s.vm.findClass RZQ = some m.cls := findClass_of_methodNamed B.named
  have hlocks := B.notSynchronized
  refine gx_Q (fun Q9 hQ9 => ?_)
  have hl := lv_entry ([.int a1, .int a2]) (n := 6) (Nat.le_of_ble_eq_true rfl)
  have he9 : entryFrame m args 6 = F0 m 0 ((lg_sl [.int a1, .int a2] ++ List.replicate (6 - (lg_sl ([.int a1, .int a2] : List Value)).length) Slot.unset).toArray) [] := by rw [ha9]; exact lg_entry_eq m [.int a1, .int a2] 6
  rw [he9]
  generalize (lg_sl ([.int a1, .int a2] : List Value) ++ List.replicate (6 - (lg_sl ([.int a1, .int a2] : List Value)).length) Slot.unset).toArray = ls at hl ⊢
  have hl : lv_has ls 6 [(0, .int a1), (1, .int a2)] := hl
  refine lv_iload_n hx hb dZQ_greatestDivisor_0 rfl (lv_at hl 0 rfl) ?_
  refine lv_istore_n (lv' := [(2, .int a1), (0, .int a1), (1, .int a2)]) hx hb dZQ_greatestDivisor_1 rfl hl (by decide) rfl (fun ls hl => ?_)
  refine lv_iload_n hx hb dZQ_greatestDivisor_2 rfl (lv_at hl 2 rfl) ?_
  refine lv_istore_n (lv' := [(3, .int a2), (2, .int a1), (0, .int a1), (1, .int a2)]) hx hb dZQ_greatestDivisor_3 rfl hl (by decide) rfl (fun ls hl => ?_)
  refine lv_iconst (v := (0 : Int32)) hx hb dZQ_greatestDivisor_4 (by decide) ?_
  refine lv_istore (lv' := [(4, .int (0 : Int32)), (3, .int a2), (2, .int a1), (0, .int a1), (1, .int a2)]) hx hb dZQ_greatestDivisor_5 hl (by decide) rfl (fun ls hl => ?_)
  have lp7 : ∀ K7 : Int32 → Int32 → Int32 → Prop, (∀ (x2_7 : Int32) (x3_7 : Int32) (x4_7 : Int32), K7 x2_7 x3_7 x4_7 → ∀ ls : Array Slot, lv_has ls 6 [(4, .int x4_7), (3, .int x3_7), (2, .int x2_7), (0, .int a1), (1, .int a2)] → W p l e (headSpec wsZQ_greatestDivisor rm_ZQ_greatestDivisor).room s m args below meth c s.heap [] 0 0 Q9 (F0 m 34 ls [])) → ∀ (n : Nat) (x2_7 : Int32) (x3_7 : Int32) (x4_7 : Int32), lp_ZQ_greatestDivisor_7 a1 a2 post K7 n x2_7 x3_7 x4_7 → ∀ ls : Array Slot, lv_has ls 6 [(4, .int x4_7), (3, .int x3_7), (2, .int x2_7), (0, .int a1), (1, .int a2)] → W p l e (headSpec wsZQ_greatestDivisor rm_ZQ_greatestDivisor).room s m args below meth c s.heap [] 0 0 Q9 (F0 m 7 ls []) := by
    intro K7 aft7 n
    induction n with
    | zero => intro x2_7 x3_7 x4_7 hw; exact False.elim hw
    | succ n ih7 =>
      intro x2_7 x3_7 x4_7 hw ls hl
      refine lv_iload hx hb dZQ_greatestDivisor_7 (lv_at hl 0 rfl) ?_
      refine lv_bipush (v := (64 : Int32)) hx hb dZQ_greatestDivisor_9 (by decide) ?_
      refine lv_icmp_ge (tgt := 34) hx hb dZQ_greatestDivisor_11 (by decide) (fun c_1 => ?_) (fun c_1 => ?_)
      · have hw := hw.1 c_1
        exact aft7 x2_7 x3_7 x4_7 hw ls (lv_sub hl [0, 1, 2, 3, 4] rfl)
      · have hw := hw.2 c_1
        refine lv_iload_n hx hb dZQ_greatestDivisor_14 rfl (lv_at hl 1 rfl) ?_
        refine lv_if_eq (tgt := 34) hx hb dZQ_greatestDivisor_15 (by decide) (fun c_2 => ?_) (fun c_2 => ?_)
        · have hw := hw.1 c_2
          exact aft7 x2_7 x3_7 x4_7 hw ls (lv_sub hl [0, 1, 2, 3, 4] rfl)
        · have hw := hw.2 c_2
          refine lv_iload_n hx hb dZQ_greatestDivisor_18 rfl (lv_at hl 2 rfl) ?_
          refine lv_iload_n hx hb dZQ_greatestDivisor_19 rfl (lv_at hl 1 rfl) ?_
          obtain ⟨h_3, hw⟩ := hw
          refine lv_irem hx hb dZQ_greatestDivisor_20 h_3 ?_
          refine lv_istore (lv' := [(5, .int (x2_7 - x2_7 / x3_7 * x3_7)), (4, .int x4_7), (3, .int x3_7), (2, .int x2_7), (0, .int a1), (1, .int a2)]) hx hb dZQ_greatestDivisor_21 hl (by decide) rfl (fun ls hl => ?_)
          refine lv_iload_n hx hb dZQ_greatestDivisor_23 rfl (lv_at hl 2 rfl) ?_
          refine lv_istore_n (lv' := [(2, .int x3_7), (5, .int (x2_7 - x2_7 / x3_7 * x3_7)), (4, .int x4_7), (3, .int x3_7), (0, .int a1), (1, .int a2)]) hx hb dZQ_greatestDivisor_24 rfl hl (by decide) rfl (fun ls hl => ?_)
          refine lv_iload hx hb dZQ_greatestDivisor_25 (lv_at hl 1 rfl) ?_
          refine lv_istore_n (lv' := [(3, .int (x2_7 - x2_7 / x3_7 * x3_7)), (2, .int x3_7), (5, .int (x2_7 - x2_7 / x3_7 * x3_7)), (4, .int x4_7), (0, .int a1), (1, .int a2)]) hx hb dZQ_greatestDivisor_27 rfl hl (by decide) rfl (fun ls hl => ?_)
          refine lv_iinc (v := x4_7 + (1 : Int32)) (lv' := [(4, .int (x4_7 + (1 : Int32))), (3, .int (x2_7 - x2_7 / x3_7 * x3_7)), (2, .int x3_7), (5, .int (x2_7 - x2_7 / x3_7 * x3_7)), (0, .int a1), (1, .int a2)]) hx hb dZQ_greatestDivisor_28 hl (k := 3) rfl rfl (by decide) rfl (fun ls hl => ?_)
          refine lv_goto (tgt := 7) hx hb dZQ_greatestDivisor_31 (by decide) ?_
          exact ih7 x3_7 (x2_7 - x2_7 / x3_7 * x3_7) (x4_7 + (1 : Int32)) hw ls (lv_sub hl [0, 1, 2, 4, 5] rfl)
  obtain ⟨n7, hw⟩ := hw
  refine lp7 _ (fun x2_7e x3_7e x4_7e hw ls hl => ?_) n7 a1 a2 (0 : Int32) hw ls (lv_sub hl [0, 1, 2, 3, 4] rfl)
  refine lv_iload_n hx hb dZQ_greatestDivisor_34 rfl (lv_at hl 2 rfl) ?_
  subst hQ9
  exact W.iret (v := x2_7e) hx hb hr (fun t ht hW => ⟨x2_7e, rfl, hw, ht⟩) (fun q h => nomatch h) dZQ_greatestDivisor_35
theorem dZQ_bitsNeeded_0 : decode cZQ_bitsNeeded 0 = .ok (.iconst 0, 1) := by decide +kernel
theorem dZQ_bitsNeeded_1 : decode cZQ_bitsNeeded 1 = .ok (.istore_n 1, 1) := by decide +kernel
theorem dZQ_bitsNeeded_2 : decode cZQ_bitsNeeded 2 = .ok (.iload_n 1, 1) := by decide +kernel
theorem dZQ_bitsNeeded_3 : decode cZQ_bitsNeeded 3 = .ok (.bipush 9, 2) := by decide +kernel
theorem dZQ_bitsNeeded_5 : decode cZQ_bitsNeeded 5 = .ok (.if_icmp .ge 15, 3) := by decide +kernel
theorem dZQ_bitsNeeded_8 : decode cZQ_bitsNeeded 8 = .ok (.iload_n 0, 1) := by decide +kernel
theorem dZQ_bitsNeeded_9 : decode cZQ_bitsNeeded 9 = .ok (.iload_n 1, 1) := by decide +kernel
theorem dZQ_bitsNeeded_10 : decode cZQ_bitsNeeded 10 = .ok (.ishr, 1) := by decide +kernel
theorem dZQ_bitsNeeded_11 : decode cZQ_bitsNeeded 11 = .ok (.ifCond .eq 9, 3) := by decide +kernel
theorem dZQ_bitsNeeded_14 : decode cZQ_bitsNeeded 14 = .ok (.iinc 1 1, 3) := by decide +kernel
theorem dZQ_bitsNeeded_17 : decode cZQ_bitsNeeded 17 = .ok (.goto (-15), 3) := by decide +kernel
theorem dZQ_bitsNeeded_20 : decode cZQ_bitsNeeded 20 = .ok (.iload_n 1, 1) := by decide +kernel
theorem dZQ_bitsNeeded_21 : decode cZQ_bitsNeeded 21 = .ok (.ireturn, 1) := by decide +kernel
abbrev wsZQ_bitsNeeded : List Cond := .code yZQ_bitsNeeded cZQ_bitsNeeded 2 (some .int) :: tbg
def lp_ZQ_bitsNeeded_2 (a1 : Int32) (post : Int32 → Prop) (K2 : Int32 → Prop) (n : Nat) : Int32 → Prop := Nat.rec (motive := fun _ => Int32 → Prop) (fun (x1_2 : Int32) => False) (fun _ ih2 (x1_2 : Int32) => (((9 : Int32) ≤ x1_2 → (K2 x1_2)) ∧ (¬ (9 : Int32) ≤ x1_2 → (((a1 >>> (x1_2 &&& 31)) = (0 : Int32) → (K2 x1_2)) ∧ (¬ (a1 >>> (x1_2 &&& 31)) = (0 : Int32) → (ih2 (x1_2 + (1 : Int32)))))))) n
def wp_ZQ_bitsNeeded (a1 : Int32) (post : Int32 → Prop) : Prop := ∃ n : Nat, lp_ZQ_bitsNeeded_2 a1 post (fun (x1_2e : Int32) => post x1_2e) n (0 : Int32)
abbrev rm_ZQ_bitsNeeded : Room := { frames := 0, cells := 0, slots := 0, locals := 0 }
set_option maxHeartbeats 4000000 in
set_option maxRecDepth 100000 in
theorem kt_ZQ_bitsNeeded (l : Launch) (dC : Nat → ClassId) (dI : Nat → Nat → Nat) (cI : ClassId) (a1 : Int32) (post : Int32 → Prop) (hw : wp_ZQ_bitsNeeded a1 post) : Met l yZQ_bitsNeeded wsZQ_bitsNeeded rm_ZQ_bitsNeeded (gr_Pc dC dI [(cI, .int)] [.int a1] []) (vp_Si post) 0 0 (fun _ => False) := by
  refine Met.ofW (cc := cZQ_bitsNeeded) (maxL := 2) (ret := (some .int)) (by decide) rfl ?_
  intro p e s m args below meth c s₁ B hml hv
  obtain ⟨ha9, hP, hK, hE⟩ := hv
  have hx := B.exec
  have hb := B.bytes
  have hr := B.returns
  have hts0 := atoms_spec (ws := wsZQ_bitsNeeded) B.pre
  have hts : ∀ w ∈ tbg, w.before args s = true := fun w h => hts0 w (List.mem_cons_of_mem _ h)
  have hown : s.vm.findClass RZQ = some m.cls := findClass_of_methodNamed B.named
  have hlocks := B.notSynchronized
  refine gx_Q (fun Q9 hQ9 => ?_)
  have hl := lv_entry ([.int a1]) (n := 2) (Nat.le_of_ble_eq_true rfl)
  have he9 : entryFrame m args 2 = F0 m 0 ((lg_sl [.int a1] ++ List.replicate (2 - (lg_sl ([.int a1] : List Value)).length) Slot.unset).toArray) [] := by rw [ha9]; exact lg_entry_eq m [.int a1] 2
  rw [he9]
  generalize (lg_sl ([.int a1] : List Value) ++ List.replicate (2 - (lg_sl ([.int a1] : List Value)).length) Slot.unset).toArray = ls at hl ⊢
  have hl : lv_has ls 2 [(0, .int a1)] := hl
  refine lv_iconst (v := (0 : Int32)) hx hb dZQ_bitsNeeded_0 (by decide) ?_
  refine lv_istore_n (lv' := [(1, .int (0 : Int32)), (0, .int a1)]) hx hb dZQ_bitsNeeded_1 rfl hl (by decide) rfl (fun ls hl => ?_)
  have lp2 : ∀ K2 : Int32 → Prop, (∀ (x1_2 : Int32), K2 x1_2 → ∀ ls : Array Slot, lv_has ls 2 [(1, .int x1_2), (0, .int a1)] → W p l e (headSpec wsZQ_bitsNeeded rm_ZQ_bitsNeeded).room s m args below meth c s.heap [] 0 0 Q9 (F0 m 20 ls [])) → ∀ (n : Nat) (x1_2 : Int32), lp_ZQ_bitsNeeded_2 a1 post K2 n x1_2 → ∀ ls : Array Slot, lv_has ls 2 [(1, .int x1_2), (0, .int a1)] → W p l e (headSpec wsZQ_bitsNeeded rm_ZQ_bitsNeeded).room s m args below meth c s.heap [] 0 0 Q9 (F0 m 2 ls []) := by
    intro K2 aft2 n
    induction n with
    | zero => intro x1_2 hw; exact False.elim hw
    | succ n ih2 =>
      intro x1_2 hw ls hl
      refine lv_iload_n hx hb dZQ_bitsNeeded_2 rfl (lv_at hl 0 rfl) ?_
      refine lv_bipush (v := (9 : Int32)) hx hb dZQ_bitsNeeded_3 (by decide) ?_
      refine lv_icmp_ge (tgt := 20) hx hb dZQ_bitsNeeded_5 (by decide) (fun c_1 => ?_) (fun c_1 => ?_)
      · have hw := hw.1 c_1
        exact aft2 x1_2 hw ls (lv_sub hl [0, 1] rfl)
      · have hw := hw.2 c_1
        refine lv_iload_n hx hb dZQ_bitsNeeded_8 rfl (lv_at hl 1 rfl) ?_
        refine lv_iload_n hx hb dZQ_bitsNeeded_9 rfl (lv_at hl 0 rfl) ?_
        refine lv_ishr hx hb dZQ_bitsNeeded_10 ?_
        refine lv_if_eq (tgt := 20) hx hb dZQ_bitsNeeded_11 (by decide) (fun c_2 => ?_) (fun c_2 => ?_)
        · have hw := hw.1 c_2
          exact aft2 x1_2 hw ls (lv_sub hl [0, 1] rfl)
        · have hw := hw.2 c_2
          refine lv_iinc (v := x1_2 + (1 : Int32)) (lv' := [(1, .int (x1_2 + (1 : Int32))), (0, .int a1)]) hx hb dZQ_bitsNeeded_14 hl (k := 0) rfl rfl (by decide) rfl (fun ls hl => ?_)
          refine lv_goto (tgt := 2) hx hb dZQ_bitsNeeded_17 (by decide) ?_
          exact ih2 (x1_2 + (1 : Int32)) hw ls (lv_sub hl [0, 1] rfl)
  obtain ⟨n2, hw⟩ := hw
  refine lp2 _ (fun x1_2e hw ls hl => ?_) n2 (0 : Int32) hw ls (lv_sub hl [0, 1] rfl)
  refine lv_iload_n hx hb dZQ_bitsNeeded_20 rfl (lv_at hl 0 rfl) ?_
  subst hQ9
  exact W.iret (v := x1_2e) hx hb hr (fun t ht hW => ⟨x1_2e, rfl, hw, ht⟩) (fun q h => nomatch h) dZQ_bitsNeeded_21
end
section
theorem dZY_halvedUp_0 : decode cZY_halvedUp 0 = .ok (.iload_n 0, 1) := by decide +kernel
theorem dZY_halvedUp_1 : decode cZY_halvedUp 1 = .ok (.iconst 1, 1) := by decide +kernel
theorem dZY_halvedUp_2 : decode cZY_halvedUp 2 = .ok (.iload_n 1, 1) := by decide +kernel
theorem dZY_halvedUp_3 : decode cZY_halvedUp 3 = .ok (.ishl, 1) := by decide +kernel
theorem dZY_halvedUp_4 : decode cZY_halvedUp 4 = .ok (.iadd, 1) := by decide +kernel
theorem dZY_halvedUp_5 : decode cZY_halvedUp 5 = .ok (.iconst 1, 1) := by decide +kernel
theorem dZY_halvedUp_6 : decode cZY_halvedUp 6 = .ok (.isub, 1) := by decide +kernel
theorem dZY_halvedUp_7 : decode cZY_halvedUp 7 = .ok (.iload_n 1, 1) := by decide +kernel
theorem dZY_halvedUp_8 : decode cZY_halvedUp 8 = .ok (.ishr, 1) := by decide +kernel
theorem dZY_halvedUp_9 : decode cZY_halvedUp 9 = .ok (.ireturn, 1) := by decide +kernel
abbrev wsZY_halvedUp : List Cond := .code yZY_halvedUp cZY_halvedUp 2 (some .int) :: tbg
def wp_ZY_halvedUp (a1 : Int32) (a2 : Int32) (post : Int32 → Prop) : Prop := post (((a1 + ((1 : Int32) <<< (a2 &&& 31))) - (1 : Int32)) >>> (a2 &&& 31))
abbrev rm_ZY_halvedUp : Room := { frames := 0, cells := 0, slots := 0, locals := 0 }
set_option maxHeartbeats 4000000 in
set_option maxRecDepth 100000 in
theorem kt_ZY_halvedUp (l : Launch) (dC : Nat → ClassId) (dI : Nat → Nat → Nat) (cI : ClassId) (a1 : Int32) (a2 : Int32) (post : Int32 → Prop) (hw : wp_ZY_halvedUp a1 a2 post) : Met l yZY_halvedUp wsZY_halvedUp rm_ZY_halvedUp (gr_Pc dC dI [(cI, .int)] [.int a1, .int a2] []) (vp_Si post) 0 0 (fun _ => False) := by
  refine Met.ofW (cc := cZY_halvedUp) (maxL := 2) (ret := (some .int)) (by decide) rfl ?_
  intro p e s m args below meth c s₁ B hml hv
  obtain ⟨ha9, hP, hK, hE⟩ := hv
  have hx := B.exec
  have hb := B.bytes
  have hr := B.returns
  have hts0 := atoms_spec (ws := wsZY_halvedUp) B.pre
  have hts : ∀ w ∈ tbg, w.before args s = true := fun w h => hts0 w (List.mem_cons_of_mem _ h)
  have hown : s.vm.findClass RZY = some m.cls := findClass_of_methodNamed B.named
  have hlocks := B.notSynchronized
  refine gx_Q (fun Q9 hQ9 => ?_)
  have hl := lv_entry ([.int a1, .int a2]) (n := 2) (Nat.le_of_ble_eq_true rfl)
  have he9 : entryFrame m args 2 = F0 m 0 ((lg_sl [.int a1, .int a2] ++ List.replicate (2 - (lg_sl ([.int a1, .int a2] : List Value)).length) Slot.unset).toArray) [] := by rw [ha9]; exact lg_entry_eq m [.int a1, .int a2] 2
  rw [he9]
  generalize (lg_sl ([.int a1, .int a2] : List Value) ++ List.replicate (2 - (lg_sl ([.int a1, .int a2] : List Value)).length) Slot.unset).toArray = ls at hl ⊢
  have hl : lv_has ls 2 [(0, .int a1), (1, .int a2)] := hl
  refine lv_iload_n hx hb dZY_halvedUp_0 rfl (lv_at hl 0 rfl) ?_
  refine lv_iconst (v := (1 : Int32)) hx hb dZY_halvedUp_1 (by decide) ?_
  refine lv_iload_n hx hb dZY_halvedUp_2 rfl (lv_at hl 1 rfl) ?_
  refine lv_ishl hx hb dZY_halvedUp_3 ?_
  refine lv_iadd hx hb dZY_halvedUp_4 ?_
  refine lv_iconst (v := (1 : Int32)) hx hb dZY_halvedUp_5 (by decide) ?_
  refine lv_isub hx hb dZY_halvedUp_6 ?_
  refine lv_iload_n hx hb dZY_halvedUp_7 rfl (lv_at hl 1 rfl) ?_
  refine lv_ishr hx hb dZY_halvedUp_8 ?_
  subst hQ9
  exact W.iret (v := ((a1 + ((1 : Int32) <<< (a2 &&& 31))) - (1 : Int32)) >>> (a2 &&& 31)) hx hb hr (fun t ht hW => ⟨((a1 + ((1 : Int32) <<< (a2 &&& 31))) - (1 : Int32)) >>> (a2 &&& 31), rfl, hw, ht⟩) (fun q h => nomatch h) dZY_halvedUp_9
theorem dZY_tilesAlong_0 : decode cZY_tilesAlong 0 = .ok (.iload_n 0, 1) := by decide +kernel
theorem dZY_tilesAlong_1 : decode cZY_tilesAlong 1 = .ok (.bipush 8, 2) := by decide +kernel
theorem dZY_tilesAlong_3 : decode cZY_tilesAlong 3 = .ok (.iadd, 1) := by decide +kernel
theorem dZY_tilesAlong_4 : decode cZY_tilesAlong 4 = .ok (.iconst 1, 1) := by decide +kernel
theorem dZY_tilesAlong_5 : decode cZY_tilesAlong 5 = .ok (.isub, 1) := by decide +kernel
theorem dZY_tilesAlong_6 : decode cZY_tilesAlong 6 = .ok (.bipush 8, 2) := by decide +kernel
theorem dZY_tilesAlong_8 : decode cZY_tilesAlong 8 = .ok (.idiv, 1) := by decide +kernel
theorem dZY_tilesAlong_9 : decode cZY_tilesAlong 9 = .ok (.ireturn, 1) := by decide +kernel
abbrev wsZY_tilesAlong : List Cond := .code yZY_tilesAlong cZY_tilesAlong 1 (some .int) :: tbg
def wp_ZY_tilesAlong (a1 : Int32) (post : Int32 → Prop) : Prop := post (((a1 + (8 : Int32)) - (1 : Int32)) / (8 : Int32))
abbrev rm_ZY_tilesAlong : Room := { frames := 0, cells := 0, slots := 0, locals := 0 }
set_option maxHeartbeats 4000000 in
set_option maxRecDepth 100000 in
theorem kt_ZY_tilesAlong (l : Launch) (dC : Nat → ClassId) (dI : Nat → Nat → Nat) (cI : ClassId) (a1 : Int32) (post : Int32 → Prop) (hw : wp_ZY_tilesAlong a1 post) : Met l yZY_tilesAlong wsZY_tilesAlong rm_ZY_tilesAlong (gr_Pc dC dI [(cI, .int)] [.int a1] []) (vp_Si post) 0 0 (fun _ => False) := by
  refine Met.ofW (cc := cZY_tilesAlong) (maxL := 1) (ret := (some .int)) (by decide) rfl ?_
  intro p e s m args below meth c s₁ B hml hv
  obtain ⟨ha9, hP, hK, hE⟩ := hv
  have hx := B.exec
  have hb := B.bytes
  have hr := B.returns
  have hts0 := atoms_spec (ws := wsZY_tilesAlong) B.pre
  have hts : ∀ w ∈ tbg, w.before args s = true := fun w h => hts0 w (List.mem_cons_of_mem _ h)
  have hown : s.vm.findClass RZY = some m.cls := findClass_of_methodNamed B.named
  have hlocks := B.notSynchronized
  refine gx_Q (fun Q9 hQ9 => ?_)
  have hl := lv_entry ([.int a1]) (n := 1) (Nat.le_of_ble_eq_true rfl)
  have he9 : entryFrame m args 1 = F0 m 0 ((lg_sl [.int a1] ++ List.replicate (1 - (lg_sl ([.int a1] : List Value)).length) Slot.unset).toArray) [] := by rw [ha9]; exact lg_entry_eq m [.int a1] 1
  rw [he9]
  generalize (lg_sl ([.int a1] : List Value) ++ List.replicate (1 - (lg_sl ([.int a1] : List Value)).length) Slot.unset).toArray = ls at hl ⊢
  have hl : lv_has ls 1 [(0, .int a1)] := hl
  refine lv_iload_n hx hb dZY_tilesAlong_0 rfl (lv_at hl 0 rfl) ?_
  refine lv_bipush (v := (8 : Int32)) hx hb dZY_tilesAlong_1 (by decide) ?_
  refine lv_iadd hx hb dZY_tilesAlong_3 ?_
  refine lv_iconst (v := (1 : Int32)) hx hb dZY_tilesAlong_4 (by decide) ?_
  refine lv_isub hx hb dZY_tilesAlong_5 ?_
  refine lv_bipush (v := (8 : Int32)) hx hb dZY_tilesAlong_6 (by decide) ?_
  refine lv_idiv hx hb dZY_tilesAlong_8 (by decide) ?_
  subst hQ9
  exact W.iret (v := ((a1 + (8 : Int32)) - (1 : Int32)) / (8 : Int32)) hx hb hr (fun t ht hW => ⟨((a1 + (8 : Int32)) - (1 : Int32)) / (8 : Int32), rfl, hw, ht⟩) (fun q h => nomatch h) dZY_tilesAlong_9
theorem dZY_reach_0 : decode cZY_reach 0 = .ok (.iconst 1, 1) := by decide +kernel
theorem dZY_reach_1 : decode cZY_reach 1 = .ok (.iload_n 0, 1) := by decide +kernel
theorem dZY_reach_2 : decode cZY_reach 2 = .ok (.ishl, 1) := by decide +kernel
theorem dZY_reach_3 : decode cZY_reach 3 = .ok (.iload_n 2, 1) := by decide +kernel
theorem dZY_reach_4 : decode cZY_reach 4 = .ok (.iload_n 1, 1) := by decide +kernel
theorem dZY_reach_5 : decode cZY_reach 5 = .ok (.iload_n 0, 1) := by decide +kernel
theorem dZY_reach_6 : decode cZY_reach 6 = .ok (.ishl, 1) := by decide +kernel
theorem dZY_reach_7 : decode cZY_reach 7 = .ok (.isub, 1) := by decide +kernel
theorem dZY_reach_8 : decode cZY_reach 8 = .ok (.invokestatic 58, 3) := by decide +kernel
theorem dZY_reach_11 : decode cZY_reach 11 = .ok (.ireturn, 1) := by decide +kernel
abbrev wsZY_reach : List Cond := .code yZY_reach cZY_reach 3 (some .int) :: tbg
def wp_ZY_reach (a1 : Int32) (a2 : Int32) (a3 : Int32) (post : Int32 → Prop) : Prop := post (if (a3 - (a2 <<< (a1 &&& 31))) < ((1 : Int32) <<< (a1 &&& 31)) then (a3 - (a2 <<< (a1 &&& 31))) else ((1 : Int32) <<< (a1 &&& 31)))
abbrev rm_ZY_reach : Room := { frames := 1, cells := 0, slots := 0, locals := 21 }
set_option maxHeartbeats 4000000 in
set_option maxRecDepth 100000 in
theorem kt_ZY_reach (l : Launch) (dC : Nat → ClassId) (dI : Nat → Nat → Nat) (cI : ClassId) (a1 : Int32) (a2 : Int32) (a3 : Int32) (post : Int32 → Prop) (hw : wp_ZY_reach a1 a2 a3 post) : Met l yZY_reach wsZY_reach rm_ZY_reach (gr_Pc dC dI [(cI, .int)] [.int a1, .int a2, .int a3] []) (vp_Si post) 0 0 (fun _ => False) := by
  refine Met.ofW (cc := cZY_reach) (maxL := 3) (ret := (some .int)) (by decide) rfl ?_
  intro p e s m args below meth c s₁ B hml hv
  obtain ⟨ha9, hP, hK, hE⟩ := hv
  have hx := B.exec
  have hb := B.bytes
  have hr := B.returns
  have hts0 := atoms_spec (ws := wsZY_reach) B.pre
  have hts : ∀ w ∈ tbg, w.before args s = true := fun w h => hts0 w (List.mem_cons_of_mem _ h)
  have hown : s.vm.findClass RZY = some m.cls := findClass_of_methodNamed B.named
  have hlocks := B.notSynchronized
  refine gx_Q (fun Q9 hQ9 => ?_)
  have hl := lv_entry ([.int a1, .int a2, .int a3]) (n := 3) (Nat.le_of_ble_eq_true rfl)
  have he9 : entryFrame m args 3 = F0 m 0 ((lg_sl [.int a1, .int a2, .int a3] ++ List.replicate (3 - (lg_sl ([.int a1, .int a2, .int a3] : List Value)).length) Slot.unset).toArray) [] := by rw [ha9]; exact lg_entry_eq m [.int a1, .int a2, .int a3] 3
  rw [he9]
  generalize (lg_sl ([.int a1, .int a2, .int a3] : List Value) ++ List.replicate (3 - (lg_sl ([.int a1, .int a2, .int a3] : List Value)).length) Slot.unset).toArray = ls at hl ⊢
  have hl : lv_has ls 3 [(0, .int a1), (1, .int a2), (2, .int a3)] := hl
  refine lv_iconst (v := (1 : Int32)) hx hb dZY_reach_0 (by decide) ?_
  refine lv_iload_n hx hb dZY_reach_1 rfl (lv_at hl 0 rfl) ?_
  refine lv_ishl hx hb dZY_reach_2 ?_
  refine lv_iload_n hx hb dZY_reach_3 rfl (lv_at hl 2 rfl) ?_
  refine lv_iload_n hx hb dZY_reach_4 rfl (lv_at hl 1 rfl) ?_
  refine lv_iload_n hx hb dZY_reach_5 rfl (lv_at hl 0 rfl) ?_
  refine lv_ishl hx hb dZY_reach_6 ?_
  refine lv_isub hx hb dZY_reach_7 ?_
  refine va_mmin hx hb (hml.trans hl.1.symm) hown (hts _ mm_410) (hts _ mm_26) (hts _ mm_2) (hts _ mm_27) (Nat.le_of_ble_eq_true rfl) (Nat.le_of_ble_eq_true rfl) (Nat.le_of_ble_eq_true rfl) (Nat.le_of_ble_eq_true rfl) dZY_reach_8 ?_
  subst hQ9
  exact W.iret (v := if (a3 - (a2 <<< (a1 &&& 31))) < ((1 : Int32) <<< (a1 &&& 31)) then (a3 - (a2 <<< (a1 &&& 31))) else ((1 : Int32) <<< (a1 &&& 31))) hx hb hr (fun t ht hW => ⟨if (a3 - (a2 <<< (a1 &&& 31))) < ((1 : Int32) <<< (a1 &&& 31)) then (a3 - (a2 <<< (a1 &&& 31))) else ((1 : Int32) <<< (a1 &&& 31)), rfl, hw, ht⟩) (fun q h => nomatch h) dZY_reach_11
theorem dZY_tilesOverSide_0 : decode cZY_tilesOverSide 0 = .ok (.iload_n 1, 1) := by decide +kernel
theorem dZY_tilesOverSide_1 : decode cZY_tilesOverSide 1 = .ok (.iload_n 0, 1) := by decide +kernel
theorem dZY_tilesOverSide_2 : decode cZY_tilesOverSide 2 = .ok (.ishr, 1) := by decide +kernel
theorem dZY_tilesOverSide_3 : decode cZY_tilesOverSide 3 = .ok (.bipush 8, 2) := by decide +kernel
theorem dZY_tilesOverSide_5 : decode cZY_tilesOverSide 5 = .ok (.idiv, 1) := by decide +kernel
theorem dZY_tilesOverSide_6 : decode cZY_tilesOverSide 6 = .ok (.istore_n 3, 1) := by decide +kernel
theorem dZY_tilesOverSide_7 : decode cZY_tilesOverSide 7 = .ok (.iload_n 1, 1) := by decide +kernel
theorem dZY_tilesOverSide_8 : decode cZY_tilesOverSide 8 = .ok (.iload_n 2, 1) := by decide +kernel
theorem dZY_tilesOverSide_9 : decode cZY_tilesOverSide 9 = .ok (.iadd, 1) := by decide +kernel
theorem dZY_tilesOverSide_10 : decode cZY_tilesOverSide 10 = .ok (.iconst 1, 1) := by decide +kernel
theorem dZY_tilesOverSide_11 : decode cZY_tilesOverSide 11 = .ok (.isub, 1) := by decide +kernel
theorem dZY_tilesOverSide_12 : decode cZY_tilesOverSide 12 = .ok (.iload_n 0, 1) := by decide +kernel
theorem dZY_tilesOverSide_13 : decode cZY_tilesOverSide 13 = .ok (.ishr, 1) := by decide +kernel
theorem dZY_tilesOverSide_14 : decode cZY_tilesOverSide 14 = .ok (.bipush 8, 2) := by decide +kernel
theorem dZY_tilesOverSide_16 : decode cZY_tilesOverSide 16 = .ok (.idiv, 1) := by decide +kernel
theorem dZY_tilesOverSide_17 : decode cZY_tilesOverSide 17 = .ok (.istore 4, 2) := by decide +kernel
theorem dZY_tilesOverSide_19 : decode cZY_tilesOverSide 19 = .ok (.iload 4, 2) := by decide +kernel
theorem dZY_tilesOverSide_21 : decode cZY_tilesOverSide 21 = .ok (.iload_n 3, 1) := by decide +kernel
theorem dZY_tilesOverSide_22 : decode cZY_tilesOverSide 22 = .ok (.isub, 1) := by decide +kernel
theorem dZY_tilesOverSide_23 : decode cZY_tilesOverSide 23 = .ok (.iconst 1, 1) := by decide +kernel
theorem dZY_tilesOverSide_24 : decode cZY_tilesOverSide 24 = .ok (.iadd, 1) := by decide +kernel
theorem dZY_tilesOverSide_25 : decode cZY_tilesOverSide 25 = .ok (.ireturn, 1) := by decide +kernel
abbrev wsZY_tilesOverSide : List Cond := .code yZY_tilesOverSide cZY_tilesOverSide 5 (some .int) :: tbg
def wp_ZY_tilesOverSide (a1 : Int32) (a2 : Int32) (a3 : Int32) (post : Int32 → Prop) : Prop := post ((((((a2 + a3) - (1 : Int32)) >>> (a1 &&& 31)) / (8 : Int32)) - ((a2 >>> (a1 &&& 31)) / (8 : Int32))) + (1 : Int32))
abbrev rm_ZY_tilesOverSide : Room := { frames := 0, cells := 0, slots := 0, locals := 0 }
set_option maxHeartbeats 4000000 in
set_option maxRecDepth 100000 in
theorem kt_ZY_tilesOverSide (l : Launch) (dC : Nat → ClassId) (dI : Nat → Nat → Nat) (cI : ClassId) (a1 : Int32) (a2 : Int32) (a3 : Int32) (post : Int32 → Prop) (hw : wp_ZY_tilesOverSide a1 a2 a3 post) : Met l yZY_tilesOverSide wsZY_tilesOverSide rm_ZY_tilesOverSide (gr_Pc dC dI [(cI, .int)] [.int a1, .int a2, .int a3] []) (vp_Si post) 0 0 (fun _ => False) := by
  refine Met.ofW (cc := cZY_tilesOverSide) (maxL := 5) (ret := (some .int)) (by decide) rfl ?_
  intro p e s m args below meth c s₁ B hml hv
  obtain ⟨ha9, hP, hK, hE⟩ := hv
  have hx := B.exec
  have hb := B.bytes
  have hr := B.returns
  have hts0 := atoms_spec (ws := wsZY_tilesOverSide) B.pre
  have hts : ∀ w ∈ tbg, w.before args s = true := fun w h => hts0 w (List.mem_cons_of_mem _ h)
  have hown : s.vm.findClass RZY = some m.cls := findClass_of_methodNamed B.named
  have hlocks := B.notSynchronized
  refine gx_Q (fun Q9 hQ9 => ?_)
  have hl := lv_entry ([.int a1, .int a2, .int a3]) (n := 5) (Nat.le_of_ble_eq_true rfl)
  have he9 : entryFrame m args 5 = F0 m 0 ((lg_sl [.int a1, .int a2, .int a3] ++ List.replicate (5 - (lg_sl ([.int a1, .int a2, .int a3] : List Value)).length) Slot.unset).toArray) [] := by rw [ha9]; exact lg_entry_eq m [.int a1, .int a2, .int a3] 5
  rw [he9]
  generalize (lg_sl ([.int a1, .int a2, .int a3] : List Value) ++ List.replicate (5 - (lg_sl ([.int a1, .int a2, .int a3] : List Value)).length) Slot.unset).toArray = ls at hl ⊢
  have hl : lv_has ls 5 [(0, .int a1), (1, .int a2), (2, .int a3)] := hl
  refine lv_iload_n hx hb dZY_tilesOverSide_0 rfl (lv_at hl 1 rfl) ?_
  refine lv_iload_n hx hb dZY_tilesOverSide_1 rfl (lv_at hl 0 rfl) ?_
  refine lv_ishr hx hb dZY_tilesOverSide_2 ?_
  refine lv_bipush (v := (8 : Int32)) hx hb dZY_tilesOverSide_3 (by decide) ?_
  refine lv_idiv hx hb dZY_tilesOverSide_5 (by decide) ?_
  refine lv_istore_n (lv' := [(3, .int ((a2 >>> (a1 &&& 31)) / (8 : Int32))), (0, .int a1), (1, .int a2), (2, .int a3)]) hx hb dZY_tilesOverSide_6 rfl hl (by decide) rfl (fun ls hl => ?_)
  refine lv_iload_n hx hb dZY_tilesOverSide_7 rfl (lv_at hl 2 rfl) ?_
  refine lv_iload_n hx hb dZY_tilesOverSide_8 rfl (lv_at hl 3 rfl) ?_
  refine lv_iadd hx hb dZY_tilesOverSide_9 ?_
  refine lv_iconst (v := (1 : Int32)) hx hb dZY_tilesOverSide_10 (by decide) ?_
  refine lv_isub hx hb dZY_tilesOverSide_11 ?_
  refine lv_iload_n hx hb dZY_tilesOverSide_12 rfl (lv_at hl 1 rfl) ?_
  refine lv_ishr hx hb dZY_tilesOverSide_13 ?_
  refine lv_bipush (v := (8 : Int32)) hx hb dZY_tilesOverSide_14 (by decide) ?_
  refine lv_idiv hx hb dZY_tilesOverSide_16 (by decide) ?_
  refine lv_istore (lv' := [(4, .int ((((a2 + a3) - (1 : Int32)) >>> (a1 &&& 31)) / (8 : Int32))), (3, .int ((a2 >>> (a1 &&& 31)) / (8 : Int32))), (0, .int a1), (1, .int a2), (2, .int a3)]) hx hb dZY_tilesOverSide_17 hl (by decide) rfl (fun ls hl => ?_)
  refine lv_iload hx hb dZY_tilesOverSide_19 (lv_at hl 0 rfl) ?_
  refine lv_iload_n hx hb dZY_tilesOverSide_21 rfl (lv_at hl 1 rfl) ?_
  refine lv_isub hx hb dZY_tilesOverSide_22 ?_
  refine lv_iconst (v := (1 : Int32)) hx hb dZY_tilesOverSide_23 (by decide) ?_
  refine lv_iadd hx hb dZY_tilesOverSide_24 ?_
  subst hQ9
  exact W.iret (v := (((((a2 + a3) - (1 : Int32)) >>> (a1 &&& 31)) / (8 : Int32)) - ((a2 >>> (a1 &&& 31)) / (8 : Int32))) + (1 : Int32)) hx hb hr (fun t ht hW => ⟨(((((a2 + a3) - (1 : Int32)) >>> (a1 &&& 31)) / (8 : Int32)) - ((a2 >>> (a1 &&& 31)) / (8 : Int32))) + (1 : Int32), rfl, hw, ht⟩) (fun q h => nomatch h) dZY_tilesOverSide_25
theorem dZY_hasLevel_0 : decode cZY_hasLevel 0 = .ok (.iload_n 1, 1) := by decide +kernel
theorem dZY_hasLevel_1 : decode cZY_hasLevel 1 = .ok (.aload_n 0, 1) := by decide +kernel
theorem dZY_hasLevel_2 : decode cZY_hasLevel 2 = .ok (.getfield 30, 3) := by decide +kernel
theorem dZY_hasLevel_5 : decode cZY_hasLevel 5 = .ok (.invokestatic 33, 3) := by decide +kernel
theorem dZY_hasLevel_8 : decode cZY_hasLevel 8 = .ok (.ireturn, 1) := by decide +kernel
abbrev wsZY_hasLevel : List Cond := .code yZY_hasLevel cZY_hasLevel 2 (some .boolean) :: tbg
def wp_ZY_hasLevel (yk : Int32) (pw : Int32) (ph : Int32) (pn : Nat) (pf : Nat → Int32) (a1 : Int32) (post : Int32 → Prop) : Prop := wp_ZQ_isWithin a1 yk (fun r_1 : Int32 => narrow .boolean (.int r_1) = .int r_1 ∧ (post r_1))
abbrev rm_ZY_hasLevel : Room := { frames := 1, cells := 0, slots := 0, locals := 21 }
set_option maxHeartbeats 4000000 in
set_option maxRecDepth 100000 in
theorem kt_ZY_hasLevel (l : Launch) (dC : Nat → ClassId) (dI : Nat → Nat → Nat) (cI : ClassId) (oy op opa : Nat) (yk : Int32) (pw : Int32) (ph : Int32) (pn : Nat) (pf : Nat → Int32) (a1 : Int32) (post : Int32 → Prop) (hw : wp_ZY_hasLevel yk pw ph pn pf a1 post) : Met l yZY_hasLevel wsZY_hasLevel rm_ZY_hasLevel (gr_Pc dC dI [(cI, .int)] [.ref oy, .int a1] [(oy, .inr (2, [.ref op, .int yk])), (op, .inr (1, [.int pw, .int ph, .ref opa])), (opa, .inl (cI, pn, .inl pf))]) (vp_Si post) 0 0 (fun _ => False) := by
  refine Met.ofW (cc := cZY_hasLevel) (maxL := 2) (ret := (some .boolean)) (by decide) rfl ?_
  intro p e s m args below meth c s₁ B hml hv
  obtain ⟨ha9, hP, hK, hE⟩ := hv
  have hx := B.exec
  have hb := B.bytes
  have hr := B.returns
  have hts0 := atoms_spec (ws := wsZY_hasLevel) B.pre
  have hts : ∀ w ∈ tbg, w.before args s = true := fun w h => hts0 w (List.mem_cons_of_mem _ h)
  have hown : s.vm.findClass RZY = some m.cls := findClass_of_methodNamed B.named
  have hlocks := B.notSynchronized
  refine gx_Q (fun Q9 hQ9 => ?_)
  have hl := lv_entry ([.ref oy, .int a1]) (n := 2) (Nat.le_of_ble_eq_true rfl)
  have he9 : entryFrame m args 2 = F0 m 0 ((lg_sl [.ref oy, .int a1] ++ List.replicate (2 - (lg_sl ([.ref oy, .int a1] : List Value)).length) Slot.unset).toArray) [] := by rw [ha9]; exact lg_entry_eq m [.ref oy, .int a1] 2
  rw [he9]
  generalize (lg_sl ([.ref oy, .int a1] : List Value) ++ List.replicate (2 - (lg_sl ([.ref oy, .int a1] : List Value)).length) Slot.unset).toArray = ls at hl ⊢
  have hl : lv_has ls 2 [(0, .ref oy), (1, .int a1)] := hl
  refine lv_iload_n hx hb dZY_hasLevel_0 rfl (lv_at hl 1 rfl) ?_
  refine lv_aload_n hx hb dZY_hasLevel_1 rfl (lv_at hl 0 rfl) ?_
  refine va_get (D := (dC, dI)) (ci := 2) (v := .int yk) (C := RZY) (T := TZY) (N := 2) hx hb hts inZY hown hK hP 0 rfl rfl 1 (by decide) (hts _ mm_62) (fun _ h9 => h9) rfl dZY_hasLevel_2 ?_
  have hPc := hP.sub (ws' := []) [] rfl
  refine vp_callSi (va_runSN (As := [.int a1, .int yk]) (rest := []) ⟨hx, hb, hml, hown, hts⟩ (kt_ZQ_isWithin l dC dI cI  a1 yk _ hw) ⟨(va_cnB 2 hts (tb_0 mm_238) rfl rfl rfl (gxE_14 hE) (hts _ mm_1) (by decide +kernel) ⟨Nat.le_of_ble_eq_true rfl, Nat.le_of_ble_eq_true rfl⟩), hts _ mm_237, trivial⟩ ⟨gr_blind, fun U hU hW => gr_pre hPc hK hE hU hW⟩ rfl rfl hl.1 rfl (lv_room (Nat.le_of_ble_eq_true rfl)) dZY_hasLevel_5 ⟨Nat.le_of_ble_eq_true rfl, Nat.le_of_ble_eq_true rfl⟩).run (fun r_1 hw => ?_)
  obtain ⟨h_2, hw⟩ := hw
  subst hQ9
  exact W.zret (v := r_1) (ty := .boolean) hx hb hr h_2 (fun t ht hW => ⟨r_1, rfl, hw, ht⟩) (fun q h => nomatch h) dZY_hasLevel_8
theorem dZY_columnsOf_0 : decode cZY_columnsOf 0 = .ok (.aload_n 0, 1) := by decide +kernel
theorem dZY_columnsOf_1 : decode cZY_columnsOf 1 = .ok (.getfield 9, 3) := by decide +kernel
theorem dZY_columnsOf_4 : decode cZY_columnsOf 4 = .ok (.getfield 15, 3) := by decide +kernel
theorem dZY_columnsOf_7 : decode cZY_columnsOf 7 = .ok (.iload_n 1, 1) := by decide +kernel
theorem dZY_columnsOf_8 : decode cZY_columnsOf 8 = .ok (.invokestatic 55, 3) := by decide +kernel
theorem dZY_columnsOf_11 : decode cZY_columnsOf 11 = .ok (.ireturn, 1) := by decide +kernel
abbrev wsZY_columnsOf : List Cond := .code yZY_columnsOf cZY_columnsOf 2 (some .int) :: tbg
def wp_ZY_columnsOf (yk : Int32) (pw : Int32) (ph : Int32) (pn : Nat) (pf : Nat → Int32) (a1 : Int32) (post : Int32 → Prop) : Prop := wp_ZY_halvedUp pw a1 (fun r_1 : Int32 => post r_1)
abbrev rm_ZY_columnsOf : Room := { frames := 1, cells := 0, slots := 0, locals := 21 }
set_option maxHeartbeats 4000000 in
set_option maxRecDepth 100000 in
theorem kt_ZY_columnsOf (l : Launch) (dC : Nat → ClassId) (dI : Nat → Nat → Nat) (cI : ClassId) (oy op opa : Nat) (yk : Int32) (pw : Int32) (ph : Int32) (pn : Nat) (pf : Nat → Int32) (a1 : Int32) (post : Int32 → Prop) (hw : wp_ZY_columnsOf yk pw ph pn pf a1 post) : Met l yZY_columnsOf wsZY_columnsOf rm_ZY_columnsOf (gr_Pc dC dI [(cI, .int)] [.ref oy, .int a1] [(oy, .inr (2, [.ref op, .int yk])), (op, .inr (1, [.int pw, .int ph, .ref opa])), (opa, .inl (cI, pn, .inl pf))]) (vp_Si post) 0 0 (fun _ => False) := by
  refine Met.ofW (cc := cZY_columnsOf) (maxL := 2) (ret := (some .int)) (by decide) rfl ?_
  intro p e s m args below meth c s₁ B hml hv
  obtain ⟨ha9, hP, hK, hE⟩ := hv
  have hx := B.exec
  have hb := B.bytes
  have hr := B.returns
  have hts0 := atoms_spec (ws := wsZY_columnsOf) B.pre
  have hts : ∀ w ∈ tbg, w.before args s = true := fun w h => hts0 w (List.mem_cons_of_mem _ h)
  have hown : s.vm.findClass RZY = some m.cls := findClass_of_methodNamed B.named
  have hlocks := B.notSynchronized
  refine gx_Q (fun Q9 hQ9 => ?_)
  have hl := lv_entry ([.ref oy, .int a1]) (n := 2) (Nat.le_of_ble_eq_true rfl)
  have he9 : entryFrame m args 2 = F0 m 0 ((lg_sl [.ref oy, .int a1] ++ List.replicate (2 - (lg_sl ([.ref oy, .int a1] : List Value)).length) Slot.unset).toArray) [] := by rw [ha9]; exact lg_entry_eq m [.ref oy, .int a1] 2
  rw [he9]
  generalize (lg_sl ([.ref oy, .int a1] : List Value) ++ List.replicate (2 - (lg_sl ([.ref oy, .int a1] : List Value)).length) Slot.unset).toArray = ls at hl ⊢
  have hl : lv_has ls 2 [(0, .ref oy), (1, .int a1)] := hl
  refine lv_aload_n hx hb dZY_columnsOf_0 rfl (lv_at hl 0 rfl) ?_
  refine va_get (D := (dC, dI)) (ci := 2) (v := .ref op) (C := RZY) (T := TZY) (N := 2) hx hb hts inZY hown hK hP 0 rfl rfl 0 (by decide) (hts _ mm_61) (fun _ h9 => h9) rfl dZY_columnsOf_1 ?_
  refine va_get (D := (dC, dI)) (ci := 1) (v := .int pw) (C := RZP) (T := TZP) (N := 3) hx hb hts inZP hown hK hP 1 rfl rfl 0 (by decide) (hts _ mm_38) (fun _ h9 => h9) rfl dZY_columnsOf_4 ?_
  refine lv_iload_n hx hb dZY_columnsOf_7 rfl (lv_at hl 1 rfl) ?_
  have hPc := hP.sub (ws' := []) [] rfl
  refine vp_callSi (va_runS (As := [.int pw, .int a1]) (rest := []) ⟨hx, hb, hml, hown, hts⟩ (kt_ZY_halvedUp l dC dI cI  pw a1 _ hw) (va_cwS 2 hts (tb_S mm_362 mm_363 mm_4 mm_364) rfl rfl rfl (by decide +kernel) ⟨Nat.le_of_ble_eq_true rfl, Nat.le_of_ble_eq_true rfl⟩) ⟨gr_blind, fun U hU hW => gr_pre hPc hK hE hU hW⟩ rfl rfl hl.1 rfl (lv_room (Nat.le_of_ble_eq_true rfl)) dZY_columnsOf_8 ⟨Nat.le_of_ble_eq_true rfl, Nat.le_of_ble_eq_true rfl⟩).run (fun r_1 hw => ?_)
  subst hQ9
  exact W.iret (v := r_1) hx hb hr (fun t ht hW => ⟨r_1, rfl, hw, ht⟩) (fun q h => nomatch h) dZY_columnsOf_11
theorem dZY_rowsOf_0 : decode cZY_rowsOf 0 = .ok (.aload_n 0, 1) := by decide +kernel
theorem dZY_rowsOf_1 : decode cZY_rowsOf 1 = .ok (.getfield 9, 3) := by decide +kernel
theorem dZY_rowsOf_4 : decode cZY_rowsOf 4 = .ok (.getfield 21, 3) := by decide +kernel
theorem dZY_rowsOf_7 : decode cZY_rowsOf 7 = .ok (.iload_n 1, 1) := by decide +kernel
theorem dZY_rowsOf_8 : decode cZY_rowsOf 8 = .ok (.invokestatic 55, 3) := by decide +kernel
theorem dZY_rowsOf_11 : decode cZY_rowsOf 11 = .ok (.ireturn, 1) := by decide +kernel
abbrev wsZY_rowsOf : List Cond := .code yZY_rowsOf cZY_rowsOf 2 (some .int) :: tbg
def wp_ZY_rowsOf (yk : Int32) (pw : Int32) (ph : Int32) (pn : Nat) (pf : Nat → Int32) (a1 : Int32) (post : Int32 → Prop) : Prop := wp_ZY_halvedUp ph a1 (fun r_1 : Int32 => post r_1)
abbrev rm_ZY_rowsOf : Room := { frames := 1, cells := 0, slots := 0, locals := 21 }
set_option maxHeartbeats 4000000 in
set_option maxRecDepth 100000 in
theorem kt_ZY_rowsOf (l : Launch) (dC : Nat → ClassId) (dI : Nat → Nat → Nat) (cI : ClassId) (oy op opa : Nat) (yk : Int32) (pw : Int32) (ph : Int32) (pn : Nat) (pf : Nat → Int32) (a1 : Int32) (post : Int32 → Prop) (hw : wp_ZY_rowsOf yk pw ph pn pf a1 post) : Met l yZY_rowsOf wsZY_rowsOf rm_ZY_rowsOf (gr_Pc dC dI [(cI, .int)] [.ref oy, .int a1] [(oy, .inr (2, [.ref op, .int yk])), (op, .inr (1, [.int pw, .int ph, .ref opa])), (opa, .inl (cI, pn, .inl pf))]) (vp_Si post) 0 0 (fun _ => False) := by
  refine Met.ofW (cc := cZY_rowsOf) (maxL := 2) (ret := (some .int)) (by decide) rfl ?_
  intro p e s m args below meth c s₁ B hml hv
  obtain ⟨ha9, hP, hK, hE⟩ := hv
  have hx := B.exec
  have hb := B.bytes
  have hr := B.returns
  have hts0 := atoms_spec (ws := wsZY_rowsOf) B.pre
  have hts : ∀ w ∈ tbg, w.before args s = true := fun w h => hts0 w (List.mem_cons_of_mem _ h)
  have hown : s.vm.findClass RZY = some m.cls := findClass_of_methodNamed B.named
  have hlocks := B.notSynchronized
  refine gx_Q (fun Q9 hQ9 => ?_)
  have hl := lv_entry ([.ref oy, .int a1]) (n := 2) (Nat.le_of_ble_eq_true rfl)
  have he9 : entryFrame m args 2 = F0 m 0 ((lg_sl [.ref oy, .int a1] ++ List.replicate (2 - (lg_sl ([.ref oy, .int a1] : List Value)).length) Slot.unset).toArray) [] := by rw [ha9]; exact lg_entry_eq m [.ref oy, .int a1] 2
  rw [he9]
  generalize (lg_sl ([.ref oy, .int a1] : List Value) ++ List.replicate (2 - (lg_sl ([.ref oy, .int a1] : List Value)).length) Slot.unset).toArray = ls at hl ⊢
  have hl : lv_has ls 2 [(0, .ref oy), (1, .int a1)] := hl
  refine lv_aload_n hx hb dZY_rowsOf_0 rfl (lv_at hl 0 rfl) ?_
  refine va_get (D := (dC, dI)) (ci := 2) (v := .ref op) (C := RZY) (T := TZY) (N := 2) hx hb hts inZY hown hK hP 0 rfl rfl 0 (by decide) (hts _ mm_61) (fun _ h9 => h9) rfl dZY_rowsOf_1 ?_
  refine va_get (D := (dC, dI)) (ci := 1) (v := .int ph) (C := RZP) (T := TZP) (N := 3) hx hb hts inZP hown hK hP 1 rfl rfl 1 (by decide) (hts _ mm_42) (fun _ h9 => h9) rfl dZY_rowsOf_4 ?_
  refine lv_iload_n hx hb dZY_rowsOf_7 rfl (lv_at hl 1 rfl) ?_
  have hPc := hP.sub (ws' := []) [] rfl
  refine vp_callSi (va_runS (As := [.int ph, .int a1]) (rest := []) ⟨hx, hb, hml, hown, hts⟩ (kt_ZY_halvedUp l dC dI cI  ph a1 _ hw) (va_cwS 2 hts (tb_S mm_362 mm_363 mm_4 mm_364) rfl rfl rfl (by decide +kernel) ⟨Nat.le_of_ble_eq_true rfl, Nat.le_of_ble_eq_true rfl⟩) ⟨gr_blind, fun U hU hW => gr_pre hPc hK hE hU hW⟩ rfl rfl hl.1 rfl (lv_room (Nat.le_of_ble_eq_true rfl)) dZY_rowsOf_8 ⟨Nat.le_of_ble_eq_true rfl, Nat.le_of_ble_eq_true rfl⟩).run (fun r_1 hw => ?_)
  subst hQ9
  exact W.iret (v := r_1) hx hb hr (fun t ht hW => ⟨r_1, rfl, hw, ht⟩) (fun q h => nomatch h) dZY_rowsOf_11
theorem dZY_hasPlace_0 : decode cZY_hasPlace 0 = .ok (.aload_n 0, 1) := by decide +kernel
theorem dZY_hasPlace_1 : decode cZY_hasPlace 1 = .ok (.iload_n 1, 1) := by decide +kernel
theorem dZY_hasPlace_2 : decode cZY_hasPlace 2 = .ok (.invokevirtual 37, 3) := by decide +kernel
theorem dZY_hasPlace_5 : decode cZY_hasPlace 5 = .ok (.ifCond .eq 31, 3) := by decide +kernel
theorem dZY_hasPlace_8 : decode cZY_hasPlace 8 = .ok (.iload_n 2, 1) := by decide +kernel
theorem dZY_hasPlace_9 : decode cZY_hasPlace 9 = .ok (.aload_n 0, 1) := by decide +kernel
theorem dZY_hasPlace_10 : decode cZY_hasPlace 10 = .ok (.iload_n 1, 1) := by decide +kernel
theorem dZY_hasPlace_11 : decode cZY_hasPlace 11 = .ok (.invokevirtual 41, 3) := by decide +kernel
theorem dZY_hasPlace_14 : decode cZY_hasPlace 14 = .ok (.invokestatic 33, 3) := by decide +kernel
theorem dZY_hasPlace_17 : decode cZY_hasPlace 17 = .ok (.ifCond .eq 19, 3) := by decide +kernel
theorem dZY_hasPlace_20 : decode cZY_hasPlace 20 = .ok (.iload_n 3, 1) := by decide +kernel
theorem dZY_hasPlace_21 : decode cZY_hasPlace 21 = .ok (.aload_n 0, 1) := by decide +kernel
theorem dZY_hasPlace_22 : decode cZY_hasPlace 22 = .ok (.iload_n 1, 1) := by decide +kernel
theorem dZY_hasPlace_23 : decode cZY_hasPlace 23 = .ok (.invokevirtual 45, 3) := by decide +kernel
theorem dZY_hasPlace_26 : decode cZY_hasPlace 26 = .ok (.invokestatic 33, 3) := by decide +kernel
theorem dZY_hasPlace_29 : decode cZY_hasPlace 29 = .ok (.ifCond .eq 7, 3) := by decide +kernel
theorem dZY_hasPlace_32 : decode cZY_hasPlace 32 = .ok (.iconst 1, 1) := by decide +kernel
theorem dZY_hasPlace_33 : decode cZY_hasPlace 33 = .ok (.goto 4, 3) := by decide +kernel
theorem dZY_hasPlace_36 : decode cZY_hasPlace 36 = .ok (.iconst 0, 1) := by decide +kernel
theorem dZY_hasPlace_37 : decode cZY_hasPlace 37 = .ok (.ireturn, 1) := by decide +kernel
abbrev wsZY_hasPlace : List Cond := .code yZY_hasPlace cZY_hasPlace 4 (some .boolean) :: tbg
def wp_ZY_hasPlace (yk : Int32) (pw : Int32) (ph : Int32) (pn : Nat) (pf : Nat → Int32) (a1 : Int32) (a2 : Int32) (a3 : Int32) (post : Int32 → Prop) : Prop := wp_ZY_hasLevel yk pw ph pn pf a1 (fun r_1 : Int32 => ((r_1 = (0 : Int32) → (post (0 : Int32))) ∧ (¬ r_1 = (0 : Int32) → (wp_ZY_columnsOf yk pw ph pn pf a1 (fun r_3 : Int32 => wp_ZQ_isWithin a2 r_3 (fun r_4 : Int32 => ((r_4 = (0 : Int32) → (post (0 : Int32))) ∧ (¬ r_4 = (0 : Int32) → (wp_ZY_rowsOf yk pw ph pn pf a1 (fun r_6 : Int32 => wp_ZQ_isWithin a3 r_6 (fun r_7 : Int32 => ((r_7 = (0 : Int32) → (post (0 : Int32))) ∧ (¬ r_7 = (0 : Int32) → (post (1 : Int32)))))))))))))))
abbrev rm_ZY_hasPlace : Room := { frames := 2, cells := 0, slots := 0, locals := 42 }
set_option maxHeartbeats 4000000 in
set_option maxRecDepth 100000 in
theorem kt_ZY_hasPlace (l : Launch) (dC : Nat → ClassId) (dI : Nat → Nat → Nat) (cI : ClassId) (oy op opa : Nat) (yk : Int32) (pw : Int32) (ph : Int32) (pn : Nat) (pf : Nat → Int32) (a1 : Int32) (a2 : Int32) (a3 : Int32) (post : Int32 → Prop) (hw : wp_ZY_hasPlace yk pw ph pn pf a1 a2 a3 post) : Met l yZY_hasPlace wsZY_hasPlace rm_ZY_hasPlace (gr_Pc dC dI [(cI, .int)] [.ref oy, .int a1, .int a2, .int a3] [(oy, .inr (2, [.ref op, .int yk])), (op, .inr (1, [.int pw, .int ph, .ref opa])), (opa, .inl (cI, pn, .inl pf))]) (vp_Si post) 0 0 (fun _ => False) := by
  refine Met.ofW (cc := cZY_hasPlace) (maxL := 4) (ret := (some .boolean)) (by decide) rfl ?_
  intro p e s m args below meth c s₁ B hml hv
  obtain ⟨ha9, hP, hK, hE⟩ := hv
  have hx := B.exec
  have hb := B.bytes
  have hr := B.returns
  have hts0 := atoms_spec (ws := wsZY_hasPlace) B.pre
  have hts : ∀ w ∈ tbg, w.before args s = true := fun w h => hts0 w (List.mem_cons_of_mem _ h)
  have hown : s.vm.findClass RZY = some m.cls := findClass_of_methodNamed B.named
  have hlocks := B.notSynchronized
  refine gx_Q (fun Q9 hQ9 => ?_)
  have hl := lv_entry ([.ref oy, .int a1, .int a2, .int a3]) (n := 4) (Nat.le_of_ble_eq_true rfl)
  have he9 : entryFrame m args 4 = F0 m 0 ((lg_sl [.ref oy, .int a1, .int a2, .int a3] ++ List.replicate (4 - (lg_sl ([.ref oy, .int a1, .int a2, .int a3] : List Value)).length) Slot.unset).toArray) [] := by rw [ha9]; exact lg_entry_eq m [.ref oy, .int a1, .int a2, .int a3] 4
  rw [he9]
  generalize (lg_sl ([.ref oy, .int a1, .int a2, .int a3] : List Value) ++ List.replicate (4 - (lg_sl ([.ref oy, .int a1, .int a2, .int a3] : List Value)).length) Slot.unset).toArray = ls at hl ⊢
  have hl : lv_has ls 4 [(0, .ref oy), (1, .int a1), (2, .int a2), (3, .int a3)] := hl
  refine lv_aload_n hx hb dZY_hasPlace_0 rfl (lv_at hl 0 rfl) ?_
  refine lv_iload_n hx hb dZY_hasPlace_1 rfl (lv_at hl 1 rfl) ?_
  refine vp_callSi (va_runV (As := [.int a1]) (rest := []) ⟨hx, hb, hml, hown, hts⟩ (kt_ZY_hasLevel l dC dI cI oy op opa yk pw ph pn pf a1 _ hw) (cwV 1 hts (tb_V mm_353 mm_354 mm_355 mm_4 mm_356) rfl rfl rfl (by decide +kernel) ⟨Nat.le_of_ble_eq_true rfl, Nat.le_of_ble_eq_true rfl⟩) ⟨gr_blind, va_recv hK hP (ci := 2) (q0 := 0) rfl rfl, fun U hU hW => gr_pre hP hK hE hU hW⟩ rfl rfl hl.1 rfl (lv_room (Nat.le_of_ble_eq_true rfl)) dZY_hasPlace_2 ⟨Nat.le_of_ble_eq_true rfl, Nat.le_of_ble_eq_true rfl⟩).run (fun r_1 hw => ?_)
  refine lv_if_eq (tgt := 36) hx hb dZY_hasPlace_5 (by decide) (fun c_2 => ?_) (fun c_2 => ?_)
  · have hw := hw.1 c_2
    refine lv_iconst (v := (0 : Int32)) hx hb dZY_hasPlace_36 (by decide) ?_
    subst hQ9
    exact W.zret (v := (0 : Int32)) (ty := .boolean) hx hb hr rfl (fun t ht hW => ⟨(0 : Int32), rfl, hw, ht⟩) (fun q h => nomatch h) dZY_hasPlace_37
  · have hw := hw.2 c_2
    refine lv_iload_n hx hb dZY_hasPlace_8 rfl (lv_at hl 2 rfl) ?_
    refine lv_aload_n hx hb dZY_hasPlace_9 rfl (lv_at hl 0 rfl) ?_
    refine lv_iload_n hx hb dZY_hasPlace_10 rfl (lv_at hl 1 rfl) ?_
    refine vp_callSi (va_runV (As := [.int a1]) (rest := [.int a2]) ⟨hx, hb, hml, hown, hts⟩ (kt_ZY_columnsOf l dC dI cI oy op opa yk pw ph pn pf a1 _ hw) (cwV 1 hts (tb_V mm_358 mm_359 mm_360 mm_4 mm_361) rfl rfl rfl (by decide +kernel) ⟨Nat.le_of_ble_eq_true rfl, Nat.le_of_ble_eq_true rfl⟩) ⟨gr_blind, va_recv hK hP (ci := 2) (q0 := 0) rfl rfl, fun U hU hW => gr_pre hP hK hE hU hW⟩ rfl rfl hl.1 rfl (lv_room (Nat.le_of_ble_eq_true rfl)) dZY_hasPlace_11 ⟨Nat.le_of_ble_eq_true rfl, Nat.le_of_ble_eq_true rfl⟩).run (fun r_3 hw => ?_)
    have hPc := hP.sub (ws' := []) [] rfl
    refine vp_callSi (va_runSN (As := [.int a2, .int r_3]) (rest := []) ⟨hx, hb, hml, hown, hts⟩ (kt_ZQ_isWithin l dC dI cI  a2 r_3 _ hw) ⟨(va_cnB 2 hts (tb_0 mm_238) rfl rfl rfl (gxE_14 hE) (hts _ mm_1) (by decide +kernel) ⟨Nat.le_of_ble_eq_true rfl, Nat.le_of_ble_eq_true rfl⟩), hts _ mm_237, trivial⟩ ⟨gr_blind, fun U hU hW => gr_pre hPc hK hE hU hW⟩ rfl rfl hl.1 rfl (lv_room (Nat.le_of_ble_eq_true rfl)) dZY_hasPlace_14 ⟨Nat.le_of_ble_eq_true rfl, Nat.le_of_ble_eq_true rfl⟩).run (fun r_4 hw => ?_)
    refine lv_if_eq (tgt := 36) hx hb dZY_hasPlace_17 (by decide) (fun c_5 => ?_) (fun c_5 => ?_)
    · have hw := hw.1 c_5
      refine lv_iconst (v := (0 : Int32)) hx hb dZY_hasPlace_36 (by decide) ?_
      subst hQ9
      exact W.zret (v := (0 : Int32)) (ty := .boolean) hx hb hr rfl (fun t ht hW => ⟨(0 : Int32), rfl, hw, ht⟩) (fun q h => nomatch h) dZY_hasPlace_37
    · have hw := hw.2 c_5
      refine lv_iload_n hx hb dZY_hasPlace_20 rfl (lv_at hl 3 rfl) ?_
      refine lv_aload_n hx hb dZY_hasPlace_21 rfl (lv_at hl 0 rfl) ?_
      refine lv_iload_n hx hb dZY_hasPlace_22 rfl (lv_at hl 1 rfl) ?_
      refine vp_callSi (va_runV (As := [.int a1]) (rest := [.int a3]) ⟨hx, hb, hml, hown, hts⟩ (kt_ZY_rowsOf l dC dI cI oy op opa yk pw ph pn pf a1 _ hw) (cwV 1 hts (tb_V mm_365 mm_366 mm_367 mm_4 mm_368) rfl rfl rfl (by decide +kernel) ⟨Nat.le_of_ble_eq_true rfl, Nat.le_of_ble_eq_true rfl⟩) ⟨gr_blind, va_recv hK hP (ci := 2) (q0 := 0) rfl rfl, fun U hU hW => gr_pre hP hK hE hU hW⟩ rfl rfl hl.1 rfl (lv_room (Nat.le_of_ble_eq_true rfl)) dZY_hasPlace_23 ⟨Nat.le_of_ble_eq_true rfl, Nat.le_of_ble_eq_true rfl⟩).run (fun r_6 hw => ?_)
      have hPc := hP.sub (ws' := []) [] rfl
      refine vp_callSi (va_runSN (As := [.int a3, .int r_6]) (rest := []) ⟨hx, hb, hml, hown, hts⟩ (kt_ZQ_isWithin l dC dI cI  a3 r_6 _ hw) ⟨(va_cnB 2 hts (tb_0 mm_238) rfl rfl rfl (gxE_14 hE) (hts _ mm_1) (by decide +kernel) ⟨Nat.le_of_ble_eq_true rfl, Nat.le_of_ble_eq_true rfl⟩), hts _ mm_237, trivial⟩ ⟨gr_blind, fun U hU hW => gr_pre hPc hK hE hU hW⟩ rfl rfl hl.1 rfl (lv_room (Nat.le_of_ble_eq_true rfl)) dZY_hasPlace_26 ⟨Nat.le_of_ble_eq_true rfl, Nat.le_of_ble_eq_true rfl⟩).run (fun r_7 hw => ?_)
      refine lv_if_eq (tgt := 36) hx hb dZY_hasPlace_29 (by decide) (fun c_8 => ?_) (fun c_8 => ?_)
      · have hw := hw.1 c_8
        refine lv_iconst (v := (0 : Int32)) hx hb dZY_hasPlace_36 (by decide) ?_
        subst hQ9
        exact W.zret (v := (0 : Int32)) (ty := .boolean) hx hb hr rfl (fun t ht hW => ⟨(0 : Int32), rfl, hw, ht⟩) (fun q h => nomatch h) dZY_hasPlace_37
      · have hw := hw.2 c_8
        refine lv_iconst (v := (1 : Int32)) hx hb dZY_hasPlace_32 (by decide) ?_
        refine lv_goto (tgt := 37) hx hb dZY_hasPlace_33 (by decide) ?_
        subst hQ9
        exact W.zret (v := (1 : Int32)) (ty := .boolean) hx hb hr rfl (fun t ht hW => ⟨(1 : Int32), rfl, hw, ht⟩) (fun q h => nomatch h) dZY_hasPlace_37
theorem dZY_hasPart_0 : decode cZY_hasPart 0 = .ok (.aload_n 0, 1) := by decide +kernel
theorem dZY_hasPart_1 : decode cZY_hasPart 1 = .ok (.iload_n 1, 1) := by decide +kernel
theorem dZY_hasPart_2 : decode cZY_hasPart 2 = .ok (.iload_n 2, 1) := by decide +kernel
theorem dZY_hasPart_3 : decode cZY_hasPart 3 = .ok (.iload_n 3, 1) := by decide +kernel
theorem dZY_hasPart_4 : decode cZY_hasPart 4 = .ok (.invokevirtual 48, 3) := by decide +kernel
theorem dZY_hasPart_7 : decode cZY_hasPart 7 = .ok (.ifCond .eq 43, 3) := by decide +kernel
theorem dZY_hasPart_10 : decode cZY_hasPart 10 = .ok (.iload 4, 2) := by decide +kernel
theorem dZY_hasPart_12 : decode cZY_hasPart 12 = .ok (.iconst 1, 1) := by decide +kernel
theorem dZY_hasPart_13 : decode cZY_hasPart 13 = .ok (.if_icmp .lt 37, 3) := by decide +kernel
theorem dZY_hasPart_16 : decode cZY_hasPart 16 = .ok (.iload 5, 2) := by decide +kernel
theorem dZY_hasPart_18 : decode cZY_hasPart 18 = .ok (.iconst 1, 1) := by decide +kernel
theorem dZY_hasPart_19 : decode cZY_hasPart 19 = .ok (.if_icmp .lt 31, 3) := by decide +kernel
theorem dZY_hasPart_22 : decode cZY_hasPart 22 = .ok (.iload 4, 2) := by decide +kernel
theorem dZY_hasPart_24 : decode cZY_hasPart 24 = .ok (.aload_n 0, 1) := by decide +kernel
theorem dZY_hasPart_25 : decode cZY_hasPart 25 = .ok (.iload_n 1, 1) := by decide +kernel
theorem dZY_hasPart_26 : decode cZY_hasPart 26 = .ok (.invokevirtual 41, 3) := by decide +kernel
theorem dZY_hasPart_29 : decode cZY_hasPart 29 = .ok (.iload_n 2, 1) := by decide +kernel
theorem dZY_hasPart_30 : decode cZY_hasPart 30 = .ok (.isub, 1) := by decide +kernel
theorem dZY_hasPart_31 : decode cZY_hasPart 31 = .ok (.if_icmp .gt 19, 3) := by decide +kernel
theorem dZY_hasPart_34 : decode cZY_hasPart 34 = .ok (.iload 5, 2) := by decide +kernel
theorem dZY_hasPart_36 : decode cZY_hasPart 36 = .ok (.aload_n 0, 1) := by decide +kernel
theorem dZY_hasPart_37 : decode cZY_hasPart 37 = .ok (.iload_n 1, 1) := by decide +kernel
theorem dZY_hasPart_38 : decode cZY_hasPart 38 = .ok (.invokevirtual 45, 3) := by decide +kernel
theorem dZY_hasPart_41 : decode cZY_hasPart 41 = .ok (.iload_n 3, 1) := by decide +kernel
theorem dZY_hasPart_42 : decode cZY_hasPart 42 = .ok (.isub, 1) := by decide +kernel
theorem dZY_hasPart_43 : decode cZY_hasPart 43 = .ok (.if_icmp .gt 7, 3) := by decide +kernel
theorem dZY_hasPart_46 : decode cZY_hasPart 46 = .ok (.iconst 1, 1) := by decide +kernel
theorem dZY_hasPart_47 : decode cZY_hasPart 47 = .ok (.goto 4, 3) := by decide +kernel
theorem dZY_hasPart_50 : decode cZY_hasPart 50 = .ok (.iconst 0, 1) := by decide +kernel
theorem dZY_hasPart_51 : decode cZY_hasPart 51 = .ok (.ireturn, 1) := by decide +kernel
abbrev wsZY_hasPart : List Cond := .code yZY_hasPart cZY_hasPart 6 (some .boolean) :: tbg
def wp_ZY_hasPart (yk : Int32) (pw : Int32) (ph : Int32) (pn : Nat) (pf : Nat → Int32) (a1 : Int32) (a2 : Int32) (a3 : Int32) (a4 : Int32) (a5 : Int32) (post : Int32 → Prop) : Prop := wp_ZY_hasPlace yk pw ph pn pf a1 a2 a3 (fun r_1 : Int32 => ((r_1 = (0 : Int32) → (post (0 : Int32))) ∧ (¬ r_1 = (0 : Int32) → ((a4 < (1 : Int32) → (post (0 : Int32))) ∧ (¬ a4 < (1 : Int32) → ((a5 < (1 : Int32) → (post (0 : Int32))) ∧ (¬ a5 < (1 : Int32) → (wp_ZY_columnsOf yk pw ph pn pf a1 (fun r_5 : Int32 => (((r_5 - a2) < a4 → (post (0 : Int32))) ∧ (¬ (r_5 - a2) < a4 → (wp_ZY_rowsOf yk pw ph pn pf a1 (fun r_7 : Int32 => (((r_7 - a3) < a5 → (post (0 : Int32))) ∧ (¬ (r_7 - a3) < a5 → (post (1 : Int32)))))))))))))))))
abbrev rm_ZY_hasPart : Room := { frames := 3, cells := 0, slots := 0, locals := 65 }
set_option maxHeartbeats 4000000 in
set_option maxRecDepth 100000 in
theorem kt_ZY_hasPart (l : Launch) (dC : Nat → ClassId) (dI : Nat → Nat → Nat) (cI : ClassId) (oy op opa : Nat) (yk : Int32) (pw : Int32) (ph : Int32) (pn : Nat) (pf : Nat → Int32) (a1 : Int32) (a2 : Int32) (a3 : Int32) (a4 : Int32) (a5 : Int32) (post : Int32 → Prop) (hw : wp_ZY_hasPart yk pw ph pn pf a1 a2 a3 a4 a5 post) : Met l yZY_hasPart wsZY_hasPart rm_ZY_hasPart (gr_Pc dC dI [(cI, .int)] [.ref oy, .int a1, .int a2, .int a3, .int a4, .int a5] [(oy, .inr (2, [.ref op, .int yk])), (op, .inr (1, [.int pw, .int ph, .ref opa])), (opa, .inl (cI, pn, .inl pf))]) (vp_Si post) 0 0 (fun _ => False) := by
  refine Met.ofW (cc := cZY_hasPart) (maxL := 6) (ret := (some .boolean)) (by decide) rfl ?_
  intro p e s m args below meth c s₁ B hml hv
  obtain ⟨ha9, hP, hK, hE⟩ := hv
  have hx := B.exec
  have hb := B.bytes
  have hr := B.returns
  have hts0 := atoms_spec (ws := wsZY_hasPart) B.pre
  have hts : ∀ w ∈ tbg, w.before args s = true := fun w h => hts0 w (List.mem_cons_of_mem _ h)
  have hown : s.vm.findClass RZY = some m.cls := findClass_of_methodNamed B.named
  have hlocks := B.notSynchronized
  refine gx_Q (fun Q9 hQ9 => ?_)
  have hl := lv_entry ([.ref oy, .int a1, .int a2, .int a3, .int a4, .int a5]) (n := 6) (Nat.le_of_ble_eq_true rfl)
  have he9 : entryFrame m args 6 = F0 m 0 ((lg_sl [.ref oy, .int a1, .int a2, .int a3, .int a4, .int a5] ++ List.replicate (6 - (lg_sl ([.ref oy, .int a1, .int a2, .int a3, .int a4, .int a5] : List Value)).length) Slot.unset).toArray) [] := by rw [ha9]; exact lg_entry_eq m [.ref oy, .int a1, .int a2, .int a3, .int a4, .int a5] 6
  rw [he9]
  generalize (lg_sl ([.ref oy, .int a1, .int a2, .int a3, .int a4, .int a5] : List Value) ++ List.replicate (6 - (lg_sl ([.ref oy, .int a1, .int a2, .int a3, .int a4, .int a5] : List Value)).length) Slot.unset).toArray = ls at hl ⊢
  have hl : lv_has ls 6 [(0, .ref oy), (1, .int a1), (2, .int a2), (3, .int a3), (4, .int a4), (5, .int a5)] := hl
  refine lv_aload_n hx hb dZY_hasPart_0 rfl (lv_at hl 0 rfl) ?_
  refine lv_iload_n hx hb dZY_hasPart_1 rfl (lv_at hl 1 rfl) ?_
  refine lv_iload_n hx hb dZY_hasPart_2 rfl (lv_at hl 2 rfl) ?_
  refine lv_iload_n hx hb dZY_hasPart_3 rfl (lv_at hl 3 rfl) ?_
  refine vp_callSi (va_runV (As := [.int a1, .int a2, .int a3]) (rest := []) ⟨hx, hb, hml, hown, hts⟩ (kt_ZY_hasPlace l dC dI cI oy op opa yk pw ph pn pf a1 a2 a3 _ hw) (cwV 3 hts (tb_V mm_349 mm_350 mm_351 mm_4 mm_352) rfl rfl rfl (by decide +kernel) ⟨Nat.le_of_ble_eq_true rfl, Nat.le_of_ble_eq_true rfl⟩) ⟨gr_blind, va_recv hK hP (ci := 2) (q0 := 0) rfl rfl, fun U hU hW => gr_pre hP hK hE hU hW⟩ rfl rfl hl.1 rfl (lv_room (Nat.le_of_ble_eq_true rfl)) dZY_hasPart_4 ⟨Nat.le_of_ble_eq_true rfl, Nat.le_of_ble_eq_true rfl⟩).run (fun r_1 hw => ?_)
  refine lv_if_eq (tgt := 50) hx hb dZY_hasPart_7 (by decide) (fun c_2 => ?_) (fun c_2 => ?_)
  · have hw := hw.1 c_2
    refine lv_iconst (v := (0 : Int32)) hx hb dZY_hasPart_50 (by decide) ?_
    subst hQ9
    exact W.zret (v := (0 : Int32)) (ty := .boolean) hx hb hr rfl (fun t ht hW => ⟨(0 : Int32), rfl, hw, ht⟩) (fun q h => nomatch h) dZY_hasPart_51
  · have hw := hw.2 c_2
    refine lv_iload hx hb dZY_hasPart_10 (lv_at hl 4 rfl) ?_
    refine lv_iconst (v := (1 : Int32)) hx hb dZY_hasPart_12 (by decide) ?_
    refine lv_icmp_lt (tgt := 50) hx hb dZY_hasPart_13 (by decide) (fun c_3 => ?_) (fun c_3 => ?_)
    · have hw := hw.1 c_3
      refine lv_iconst (v := (0 : Int32)) hx hb dZY_hasPart_50 (by decide) ?_
      subst hQ9
      exact W.zret (v := (0 : Int32)) (ty := .boolean) hx hb hr rfl (fun t ht hW => ⟨(0 : Int32), rfl, hw, ht⟩) (fun q h => nomatch h) dZY_hasPart_51
    · have hw := hw.2 c_3
      refine lv_iload hx hb dZY_hasPart_16 (lv_at hl 5 rfl) ?_
      refine lv_iconst (v := (1 : Int32)) hx hb dZY_hasPart_18 (by decide) ?_
      refine lv_icmp_lt (tgt := 50) hx hb dZY_hasPart_19 (by decide) (fun c_4 => ?_) (fun c_4 => ?_)
      · have hw := hw.1 c_4
        refine lv_iconst (v := (0 : Int32)) hx hb dZY_hasPart_50 (by decide) ?_
        subst hQ9
        exact W.zret (v := (0 : Int32)) (ty := .boolean) hx hb hr rfl (fun t ht hW => ⟨(0 : Int32), rfl, hw, ht⟩) (fun q h => nomatch h) dZY_hasPart_51
      · have hw := hw.2 c_4
        refine lv_iload hx hb dZY_hasPart_22 (lv_at hl 4 rfl) ?_
        refine lv_aload_n hx hb dZY_hasPart_24 rfl (lv_at hl 0 rfl) ?_
        refine lv_iload_n hx hb dZY_hasPart_25 rfl (lv_at hl 1 rfl) ?_
        refine vp_callSi (va_runV (As := [.int a1]) (rest := [.int a4]) ⟨hx, hb, hml, hown, hts⟩ (kt_ZY_columnsOf l dC dI cI oy op opa yk pw ph pn pf a1 _ hw) (cwV 1 hts (tb_V mm_358 mm_359 mm_360 mm_4 mm_361) rfl rfl rfl (by decide +kernel) ⟨Nat.le_of_ble_eq_true rfl, Nat.le_of_ble_eq_true rfl⟩) ⟨gr_blind, va_recv hK hP (ci := 2) (q0 := 0) rfl rfl, fun U hU hW => gr_pre hP hK hE hU hW⟩ rfl rfl hl.1 rfl (lv_room (Nat.le_of_ble_eq_true rfl)) dZY_hasPart_26 ⟨Nat.le_of_ble_eq_true rfl, Nat.le_of_ble_eq_true rfl⟩).run (fun r_5 hw => ?_)
        refine lv_iload_n hx hb dZY_hasPart_29 rfl (lv_at hl 2 rfl) ?_
        refine lv_isub hx hb dZY_hasPart_30 ?_
        refine lv_icmp_gt (tgt := 50) hx hb dZY_hasPart_31 (by decide) (fun c_6 => ?_) (fun c_6 => ?_)
        · have hw := hw.1 c_6
          refine lv_iconst (v := (0 : Int32)) hx hb dZY_hasPart_50 (by decide) ?_
          subst hQ9
          exact W.zret (v := (0 : Int32)) (ty := .boolean) hx hb hr rfl (fun t ht hW => ⟨(0 : Int32), rfl, hw, ht⟩) (fun q h => nomatch h) dZY_hasPart_51
        · have hw := hw.2 c_6
          refine lv_iload hx hb dZY_hasPart_34 (lv_at hl 5 rfl) ?_
          refine lv_aload_n hx hb dZY_hasPart_36 rfl (lv_at hl 0 rfl) ?_
          refine lv_iload_n hx hb dZY_hasPart_37 rfl (lv_at hl 1 rfl) ?_
          refine vp_callSi (va_runV (As := [.int a1]) (rest := [.int a5]) ⟨hx, hb, hml, hown, hts⟩ (kt_ZY_rowsOf l dC dI cI oy op opa yk pw ph pn pf a1 _ hw) (cwV 1 hts (tb_V mm_365 mm_366 mm_367 mm_4 mm_368) rfl rfl rfl (by decide +kernel) ⟨Nat.le_of_ble_eq_true rfl, Nat.le_of_ble_eq_true rfl⟩) ⟨gr_blind, va_recv hK hP (ci := 2) (q0 := 0) rfl rfl, fun U hU hW => gr_pre hP hK hE hU hW⟩ rfl rfl hl.1 rfl (lv_room (Nat.le_of_ble_eq_true rfl)) dZY_hasPart_38 ⟨Nat.le_of_ble_eq_true rfl, Nat.le_of_ble_eq_true rfl⟩).run (fun r_7 hw => ?_)
          refine lv_iload_n hx hb dZY_hasPart_41 rfl (lv_at hl 3 rfl) ?_
          refine lv_isub hx hb dZY_hasPart_42 ?_
          refine lv_icmp_gt (tgt := 50) hx hb dZY_hasPart_43 (by decide) (fun c_8 => ?_) (fun c_8 => ?_)
          · have hw := hw.1 c_8
            refine lv_iconst (v := (0 : Int32)) hx hb dZY_hasPart_50 (by decide) ?_
            subst hQ9
            exact W.zret (v := (0 : Int32)) (ty := .boolean) hx hb hr rfl (fun t ht hW => ⟨(0 : Int32), rfl, hw, ht⟩) (fun q h => nomatch h) dZY_hasPart_51
          · have hw := hw.2 c_8
            refine lv_iconst (v := (1 : Int32)) hx hb dZY_hasPart_46 (by decide) ?_
            refine lv_goto (tgt := 51) hx hb dZY_hasPart_47 (by decide) ?_
            subst hQ9
            exact W.zret (v := (1 : Int32)) (ty := .boolean) hx hb hr rfl (fun t ht hW => ⟨(1 : Int32), rfl, hw, ht⟩) (fun q h => nomatch h) dZY_hasPart_51
theorem dZY_hasTile_0 : decode cZY_hasTile 0 = .ok (.aload_n 0, 1) := by decide +kernel
theorem dZY_hasTile_1 : decode cZY_hasTile 1 = .ok (.iload_n 1, 1) := by decide +kernel
theorem dZY_hasTile_2 : decode cZY_hasTile 2 = .ok (.invokevirtual 37, 3) := by decide +kernel
theorem dZY_hasTile_5 : decode cZY_hasTile 5 = .ok (.ifCond .eq 37, 3) := by decide +kernel
theorem dZY_hasTile_8 : decode cZY_hasTile 8 = .ok (.iload_n 2, 1) := by decide +kernel
theorem dZY_hasTile_9 : decode cZY_hasTile 9 = .ok (.aload_n 0, 1) := by decide +kernel
theorem dZY_hasTile_10 : decode cZY_hasTile 10 = .ok (.iload_n 1, 1) := by decide +kernel
theorem dZY_hasTile_11 : decode cZY_hasTile 11 = .ok (.invokevirtual 41, 3) := by decide +kernel
theorem dZY_hasTile_14 : decode cZY_hasTile 14 = .ok (.invokestatic 52, 3) := by decide +kernel
theorem dZY_hasTile_17 : decode cZY_hasTile 17 = .ok (.invokestatic 33, 3) := by decide +kernel
theorem dZY_hasTile_20 : decode cZY_hasTile 20 = .ok (.ifCond .eq 22, 3) := by decide +kernel
theorem dZY_hasTile_23 : decode cZY_hasTile 23 = .ok (.iload_n 3, 1) := by decide +kernel
theorem dZY_hasTile_24 : decode cZY_hasTile 24 = .ok (.aload_n 0, 1) := by decide +kernel
theorem dZY_hasTile_25 : decode cZY_hasTile 25 = .ok (.iload_n 1, 1) := by decide +kernel
theorem dZY_hasTile_26 : decode cZY_hasTile 26 = .ok (.invokevirtual 45, 3) := by decide +kernel
theorem dZY_hasTile_29 : decode cZY_hasTile 29 = .ok (.invokestatic 52, 3) := by decide +kernel
theorem dZY_hasTile_32 : decode cZY_hasTile 32 = .ok (.invokestatic 33, 3) := by decide +kernel
theorem dZY_hasTile_35 : decode cZY_hasTile 35 = .ok (.ifCond .eq 7, 3) := by decide +kernel
theorem dZY_hasTile_38 : decode cZY_hasTile 38 = .ok (.iconst 1, 1) := by decide +kernel
theorem dZY_hasTile_39 : decode cZY_hasTile 39 = .ok (.goto 4, 3) := by decide +kernel
theorem dZY_hasTile_42 : decode cZY_hasTile 42 = .ok (.iconst 0, 1) := by decide +kernel
theorem dZY_hasTile_43 : decode cZY_hasTile 43 = .ok (.ireturn, 1) := by decide +kernel
abbrev wsZY_hasTile : List Cond := .code yZY_hasTile cZY_hasTile 4 (some .boolean) :: tbg
def wp_ZY_hasTile (yk : Int32) (pw : Int32) (ph : Int32) (pn : Nat) (pf : Nat → Int32) (a1 : Int32) (a2 : Int32) (a3 : Int32) (post : Int32 → Prop) : Prop := wp_ZY_hasLevel yk pw ph pn pf a1 (fun r_1 : Int32 => ((r_1 = (0 : Int32) → (post (0 : Int32))) ∧ (¬ r_1 = (0 : Int32) → (wp_ZY_columnsOf yk pw ph pn pf a1 (fun r_3 : Int32 => wp_ZY_tilesAlong r_3 (fun r_4 : Int32 => wp_ZQ_isWithin a2 r_4 (fun r_5 : Int32 => ((r_5 = (0 : Int32) → (post (0 : Int32))) ∧ (¬ r_5 = (0 : Int32) → (wp_ZY_rowsOf yk pw ph pn pf a1 (fun r_7 : Int32 => wp_ZY_tilesAlong r_7 (fun r_8 : Int32 => wp_ZQ_isWithin a3 r_8 (fun r_9 : Int32 => ((r_9 = (0 : Int32) → (post (0 : Int32))) ∧ (¬ r_9 = (0 : Int32) → (post (1 : Int32)))))))))))))))))
abbrev rm_ZY_hasTile : Room := { frames := 2, cells := 0, slots := 0, locals := 42 }
set_option maxHeartbeats 4000000 in
set_option maxRecDepth 100000 in
theorem kt_ZY_hasTile (l : Launch) (dC : Nat → ClassId) (dI : Nat → Nat → Nat) (cI : ClassId) (oy op opa : Nat) (yk : Int32) (pw : Int32) (ph : Int32) (pn : Nat) (pf : Nat → Int32) (a1 : Int32) (a2 : Int32) (a3 : Int32) (post : Int32 → Prop) (hw : wp_ZY_hasTile yk pw ph pn pf a1 a2 a3 post) : Met l yZY_hasTile wsZY_hasTile rm_ZY_hasTile (gr_Pc dC dI [(cI, .int)] [.ref oy, .int a1, .int a2, .int a3] [(oy, .inr (2, [.ref op, .int yk])), (op, .inr (1, [.int pw, .int ph, .ref opa])), (opa, .inl (cI, pn, .inl pf))]) (vp_Si post) 0 0 (fun _ => False) := by
  refine Met.ofW (cc := cZY_hasTile) (maxL := 4) (ret := (some .boolean)) (by decide) rfl ?_
  intro p e s m args below meth c s₁ B hml hv
  obtain ⟨ha9, hP, hK, hE⟩ := hv
  have hx := B.exec
  have hb := B.bytes
  have hr := B.returns
  have hts0 := atoms_spec (ws := wsZY_hasTile) B.pre
  have hts : ∀ w ∈ tbg, w.before args s = true := fun w h => hts0 w (List.mem_cons_of_mem _ h)
  have hown : s.vm.findClass RZY = some m.cls := findClass_of_methodNamed B.named
  have hlocks := B.notSynchronized
  refine gx_Q (fun Q9 hQ9 => ?_)
  have hl := lv_entry ([.ref oy, .int a1, .int a2, .int a3]) (n := 4) (Nat.le_of_ble_eq_true rfl)
  have he9 : entryFrame m args 4 = F0 m 0 ((lg_sl [.ref oy, .int a1, .int a2, .int a3] ++ List.replicate (4 - (lg_sl ([.ref oy, .int a1, .int a2, .int a3] : List Value)).length) Slot.unset).toArray) [] := by rw [ha9]; exact lg_entry_eq m [.ref oy, .int a1, .int a2, .int a3] 4
  rw [he9]
  generalize (lg_sl ([.ref oy, .int a1, .int a2, .int a3] : List Value) ++ List.replicate (4 - (lg_sl ([.ref oy, .int a1, .int a2, .int a3] : List Value)).length) Slot.unset).toArray = ls at hl ⊢
  have hl : lv_has ls 4 [(0, .ref oy), (1, .int a1), (2, .int a2), (3, .int a3)] := hl
  refine lv_aload_n hx hb dZY_hasTile_0 rfl (lv_at hl 0 rfl) ?_
  refine lv_iload_n hx hb dZY_hasTile_1 rfl (lv_at hl 1 rfl) ?_
  refine vp_callSi (va_runV (As := [.int a1]) (rest := []) ⟨hx, hb, hml, hown, hts⟩ (kt_ZY_hasLevel l dC dI cI oy op opa yk pw ph pn pf a1 _ hw) (cwV 1 hts (tb_V mm_353 mm_354 mm_355 mm_4 mm_356) rfl rfl rfl (by decide +kernel) ⟨Nat.le_of_ble_eq_true rfl, Nat.le_of_ble_eq_true rfl⟩) ⟨gr_blind, va_recv hK hP (ci := 2) (q0 := 0) rfl rfl, fun U hU hW => gr_pre hP hK hE hU hW⟩ rfl rfl hl.1 rfl (lv_room (Nat.le_of_ble_eq_true rfl)) dZY_hasTile_2 ⟨Nat.le_of_ble_eq_true rfl, Nat.le_of_ble_eq_true rfl⟩).run (fun r_1 hw => ?_)
  refine lv_if_eq (tgt := 42) hx hb dZY_hasTile_5 (by decide) (fun c_2 => ?_) (fun c_2 => ?_)
  · have hw := hw.1 c_2
    refine lv_iconst (v := (0 : Int32)) hx hb dZY_hasTile_42 (by decide) ?_
    subst hQ9
    exact W.zret (v := (0 : Int32)) (ty := .boolean) hx hb hr rfl (fun t ht hW => ⟨(0 : Int32), rfl, hw, ht⟩) (fun q h => nomatch h) dZY_hasTile_43
  · have hw := hw.2 c_2
    refine lv_iload_n hx hb dZY_hasTile_8 rfl (lv_at hl 2 rfl) ?_
    refine lv_aload_n hx hb dZY_hasTile_9 rfl (lv_at hl 0 rfl) ?_
    refine lv_iload_n hx hb dZY_hasTile_10 rfl (lv_at hl 1 rfl) ?_
    refine vp_callSi (va_runV (As := [.int a1]) (rest := [.int a2]) ⟨hx, hb, hml, hown, hts⟩ (kt_ZY_columnsOf l dC dI cI oy op opa yk pw ph pn pf a1 _ hw) (cwV 1 hts (tb_V mm_358 mm_359 mm_360 mm_4 mm_361) rfl rfl rfl (by decide +kernel) ⟨Nat.le_of_ble_eq_true rfl, Nat.le_of_ble_eq_true rfl⟩) ⟨gr_blind, va_recv hK hP (ci := 2) (q0 := 0) rfl rfl, fun U hU hW => gr_pre hP hK hE hU hW⟩ rfl rfl hl.1 rfl (lv_room (Nat.le_of_ble_eq_true rfl)) dZY_hasTile_11 ⟨Nat.le_of_ble_eq_true rfl, Nat.le_of_ble_eq_true rfl⟩).run (fun r_3 hw => ?_)
    have hPc := hP.sub (ws' := []) [] rfl
    refine vp_callSi (va_runS (As := [.int r_3]) (rest := [.int a2]) ⟨hx, hb, hml, hown, hts⟩ (kt_ZY_tilesAlong l dC dI cI  r_3 _ hw) (va_cwS 1 hts (tb_S mm_460 mm_461 mm_4 mm_462) rfl rfl rfl (by decide +kernel) ⟨Nat.le_of_ble_eq_true rfl, Nat.le_of_ble_eq_true rfl⟩) ⟨gr_blind, fun U hU hW => gr_pre hPc hK hE hU hW⟩ rfl rfl hl.1 rfl (lv_room (Nat.le_of_ble_eq_true rfl)) dZY_hasTile_14 ⟨Nat.le_of_ble_eq_true rfl, Nat.le_of_ble_eq_true rfl⟩).run (fun r_4 hw => ?_)
    have hPc := hP.sub (ws' := []) [] rfl
    refine vp_callSi (va_runSN (As := [.int a2, .int r_4]) (rest := []) ⟨hx, hb, hml, hown, hts⟩ (kt_ZQ_isWithin l dC dI cI  a2 r_4 _ hw) ⟨(va_cnB 2 hts (tb_0 mm_238) rfl rfl rfl (gxE_14 hE) (hts _ mm_1) (by decide +kernel) ⟨Nat.le_of_ble_eq_true rfl, Nat.le_of_ble_eq_true rfl⟩), hts _ mm_237, trivial⟩ ⟨gr_blind, fun U hU hW => gr_pre hPc hK hE hU hW⟩ rfl rfl hl.1 rfl (lv_room (Nat.le_of_ble_eq_true rfl)) dZY_hasTile_17 ⟨Nat.le_of_ble_eq_true rfl, Nat.le_of_ble_eq_true rfl⟩).run (fun r_5 hw => ?_)
    refine lv_if_eq (tgt := 42) hx hb dZY_hasTile_20 (by decide) (fun c_6 => ?_) (fun c_6 => ?_)
    · have hw := hw.1 c_6
      refine lv_iconst (v := (0 : Int32)) hx hb dZY_hasTile_42 (by decide) ?_
      subst hQ9
      exact W.zret (v := (0 : Int32)) (ty := .boolean) hx hb hr rfl (fun t ht hW => ⟨(0 : Int32), rfl, hw, ht⟩) (fun q h => nomatch h) dZY_hasTile_43
    · have hw := hw.2 c_6
      refine lv_iload_n hx hb dZY_hasTile_23 rfl (lv_at hl 3 rfl) ?_
      refine lv_aload_n hx hb dZY_hasTile_24 rfl (lv_at hl 0 rfl) ?_
      refine lv_iload_n hx hb dZY_hasTile_25 rfl (lv_at hl 1 rfl) ?_
      refine vp_callSi (va_runV (As := [.int a1]) (rest := [.int a3]) ⟨hx, hb, hml, hown, hts⟩ (kt_ZY_rowsOf l dC dI cI oy op opa yk pw ph pn pf a1 _ hw) (cwV 1 hts (tb_V mm_365 mm_366 mm_367 mm_4 mm_368) rfl rfl rfl (by decide +kernel) ⟨Nat.le_of_ble_eq_true rfl, Nat.le_of_ble_eq_true rfl⟩) ⟨gr_blind, va_recv hK hP (ci := 2) (q0 := 0) rfl rfl, fun U hU hW => gr_pre hP hK hE hU hW⟩ rfl rfl hl.1 rfl (lv_room (Nat.le_of_ble_eq_true rfl)) dZY_hasTile_26 ⟨Nat.le_of_ble_eq_true rfl, Nat.le_of_ble_eq_true rfl⟩).run (fun r_7 hw => ?_)
      have hPc := hP.sub (ws' := []) [] rfl
      refine vp_callSi (va_runS (As := [.int r_7]) (rest := [.int a3]) ⟨hx, hb, hml, hown, hts⟩ (kt_ZY_tilesAlong l dC dI cI  r_7 _ hw) (va_cwS 1 hts (tb_S mm_460 mm_461 mm_4 mm_462) rfl rfl rfl (by decide +kernel) ⟨Nat.le_of_ble_eq_true rfl, Nat.le_of_ble_eq_true rfl⟩) ⟨gr_blind, fun U hU hW => gr_pre hPc hK hE hU hW⟩ rfl rfl hl.1 rfl (lv_room (Nat.le_of_ble_eq_true rfl)) dZY_hasTile_29 ⟨Nat.le_of_ble_eq_true rfl, Nat.le_of_ble_eq_true rfl⟩).run (fun r_8 hw => ?_)
      have hPc := hP.sub (ws' := []) [] rfl
      refine vp_callSi (va_runSN (As := [.int a3, .int r_8]) (rest := []) ⟨hx, hb, hml, hown, hts⟩ (kt_ZQ_isWithin l dC dI cI  a3 r_8 _ hw) ⟨(va_cnB 2 hts (tb_0 mm_238) rfl rfl rfl (gxE_14 hE) (hts _ mm_1) (by decide +kernel) ⟨Nat.le_of_ble_eq_true rfl, Nat.le_of_ble_eq_true rfl⟩), hts _ mm_237, trivial⟩ ⟨gr_blind, fun U hU hW => gr_pre hPc hK hE hU hW⟩ rfl rfl hl.1 rfl (lv_room (Nat.le_of_ble_eq_true rfl)) dZY_hasTile_32 ⟨Nat.le_of_ble_eq_true rfl, Nat.le_of_ble_eq_true rfl⟩).run (fun r_9 hw => ?_)
      refine lv_if_eq (tgt := 42) hx hb dZY_hasTile_35 (by decide) (fun c_10 => ?_) (fun c_10 => ?_)
      · have hw := hw.1 c_10
        refine lv_iconst (v := (0 : Int32)) hx hb dZY_hasTile_42 (by decide) ?_
        subst hQ9
        exact W.zret (v := (0 : Int32)) (ty := .boolean) hx hb hr rfl (fun t ht hW => ⟨(0 : Int32), rfl, hw, ht⟩) (fun q h => nomatch h) dZY_hasTile_43
      · have hw := hw.2 c_10
        refine lv_iconst (v := (1 : Int32)) hx hb dZY_hasTile_38 (by decide) ?_
        refine lv_goto (tgt := 43) hx hb dZY_hasTile_39 (by decide) ?_
        subst hQ9
        exact W.zret (v := (1 : Int32)) (ty := .boolean) hx hb hr rfl (fun t ht hW => ⟨(1 : Int32), rfl, hw, ht⟩) (fun q h => nomatch h) dZY_hasTile_43
theorem dZY_tileColumns_0 : decode cZY_tileColumns 0 = .ok (.bipush 8, 2) := by decide +kernel
theorem dZY_tileColumns_2 : decode cZY_tileColumns 2 = .ok (.aload_n 0, 1) := by decide +kernel
theorem dZY_tileColumns_3 : decode cZY_tileColumns 3 = .ok (.iload_n 1, 1) := by decide +kernel
theorem dZY_tileColumns_4 : decode cZY_tileColumns 4 = .ok (.invokevirtual 41, 3) := by decide +kernel
theorem dZY_tileColumns_7 : decode cZY_tileColumns 7 = .ok (.bipush 8, 2) := by decide +kernel
theorem dZY_tileColumns_9 : decode cZY_tileColumns 9 = .ok (.iload_n 2, 1) := by decide +kernel
theorem dZY_tileColumns_10 : decode cZY_tileColumns 10 = .ok (.imul, 1) := by decide +kernel
theorem dZY_tileColumns_11 : decode cZY_tileColumns 11 = .ok (.isub, 1) := by decide +kernel
theorem dZY_tileColumns_12 : decode cZY_tileColumns 12 = .ok (.invokestatic 58, 3) := by decide +kernel
theorem dZY_tileColumns_15 : decode cZY_tileColumns 15 = .ok (.ireturn, 1) := by decide +kernel
abbrev wsZY_tileColumns : List Cond := .code yZY_tileColumns cZY_tileColumns 3 (some .int) :: tbg
def wp_ZY_tileColumns (yk : Int32) (pw : Int32) (ph : Int32) (pn : Nat) (pf : Nat → Int32) (a1 : Int32) (a2 : Int32) (post : Int32 → Prop) : Prop := wp_ZY_columnsOf yk pw ph pn pf a1 (fun r_1 : Int32 => post (if (r_1 - ((8 : Int32) * a2)) < (8 : Int32) then (r_1 - ((8 : Int32) * a2)) else (8 : Int32)))
abbrev rm_ZY_tileColumns : Room := { frames := 2, cells := 0, slots := 0, locals := 42 }
set_option maxHeartbeats 4000000 in
set_option maxRecDepth 100000 in
theorem kt_ZY_tileColumns (l : Launch) (dC : Nat → ClassId) (dI : Nat → Nat → Nat) (cI : ClassId) (oy op opa : Nat) (yk : Int32) (pw : Int32) (ph : Int32) (pn : Nat) (pf : Nat → Int32) (a1 : Int32) (a2 : Int32) (post : Int32 → Prop) (hw : wp_ZY_tileColumns yk pw ph pn pf a1 a2 post) : Met l yZY_tileColumns wsZY_tileColumns rm_ZY_tileColumns (gr_Pc dC dI [(cI, .int)] [.ref oy, .int a1, .int a2] [(oy, .inr (2, [.ref op, .int yk])), (op, .inr (1, [.int pw, .int ph, .ref opa])), (opa, .inl (cI, pn, .inl pf))]) (vp_Si post) 0 0 (fun _ => False) := by
  refine Met.ofW (cc := cZY_tileColumns) (maxL := 3) (ret := (some .int)) (by decide) rfl ?_
  intro p e s m args below meth c s₁ B hml hv
  obtain ⟨ha9, hP, hK, hE⟩ := hv
  have hx := B.exec
  have hb := B.bytes
  have hr := B.returns
  have hts0 := atoms_spec (ws := wsZY_tileColumns) B.pre
  have hts : ∀ w ∈ tbg, w.before args s = true := fun w h => hts0 w (List.mem_cons_of_mem _ h)
  have hown : s.vm.findClass RZY = some m.cls := findClass_of_methodNamed B.named
  have hlocks := B.notSynchronized
  refine gx_Q (fun Q9 hQ9 => ?_)
  have hl := lv_entry ([.ref oy, .int a1, .int a2]) (n := 3) (Nat.le_of_ble_eq_true rfl)
  have he9 : entryFrame m args 3 = F0 m 0 ((lg_sl [.ref oy, .int a1, .int a2] ++ List.replicate (3 - (lg_sl ([.ref oy, .int a1, .int a2] : List Value)).length) Slot.unset).toArray) [] := by rw [ha9]; exact lg_entry_eq m [.ref oy, .int a1, .int a2] 3
  rw [he9]
  generalize (lg_sl ([.ref oy, .int a1, .int a2] : List Value) ++ List.replicate (3 - (lg_sl ([.ref oy, .int a1, .int a2] : List Value)).length) Slot.unset).toArray = ls at hl ⊢
  have hl : lv_has ls 3 [(0, .ref oy), (1, .int a1), (2, .int a2)] := hl
  refine lv_bipush (v := (8 : Int32)) hx hb dZY_tileColumns_0 (by decide) ?_
  refine lv_aload_n hx hb dZY_tileColumns_2 rfl (lv_at hl 0 rfl) ?_
  refine lv_iload_n hx hb dZY_tileColumns_3 rfl (lv_at hl 1 rfl) ?_
  refine vp_callSi (va_runV (As := [.int a1]) (rest := [.int (8 : Int32)]) ⟨hx, hb, hml, hown, hts⟩ (kt_ZY_columnsOf l dC dI cI oy op opa yk pw ph pn pf a1 _ hw) (cwV 1 hts (tb_V mm_358 mm_359 mm_360 mm_4 mm_361) rfl rfl rfl (by decide +kernel) ⟨Nat.le_of_ble_eq_true rfl, Nat.le_of_ble_eq_true rfl⟩) ⟨gr_blind, va_recv hK hP (ci := 2) (q0 := 0) rfl rfl, fun U hU hW => gr_pre hP hK hE hU hW⟩ rfl rfl hl.1 rfl (lv_room (Nat.le_of_ble_eq_true rfl)) dZY_tileColumns_4 ⟨Nat.le_of_ble_eq_true rfl, Nat.le_of_ble_eq_true rfl⟩).run (fun r_1 hw => ?_)
  refine lv_bipush (v := (8 : Int32)) hx hb dZY_tileColumns_7 (by decide) ?_
  refine lv_iload_n hx hb dZY_tileColumns_9 rfl (lv_at hl 2 rfl) ?_
  refine lv_imul hx hb dZY_tileColumns_10 ?_
  refine lv_isub hx hb dZY_tileColumns_11 ?_
  refine va_mmin hx hb (hml.trans hl.1.symm) hown (hts _ mm_410) (hts _ mm_26) (hts _ mm_2) (hts _ mm_27) (Nat.le_of_ble_eq_true rfl) (Nat.le_of_ble_eq_true rfl) (Nat.le_of_ble_eq_true rfl) (Nat.le_of_ble_eq_true rfl) dZY_tileColumns_12 ?_
  subst hQ9
  exact W.iret (v := if (r_1 - ((8 : Int32) * a2)) < (8 : Int32) then (r_1 - ((8 : Int32) * a2)) else (8 : Int32)) hx hb hr (fun t ht hW => ⟨if (r_1 - ((8 : Int32) * a2)) < (8 : Int32) then (r_1 - ((8 : Int32) * a2)) else (8 : Int32), rfl, hw, ht⟩) (fun q h => nomatch h) dZY_tileColumns_15
theorem dZY_tileRows_0 : decode cZY_tileRows 0 = .ok (.bipush 8, 2) := by decide +kernel
theorem dZY_tileRows_2 : decode cZY_tileRows 2 = .ok (.aload_n 0, 1) := by decide +kernel
theorem dZY_tileRows_3 : decode cZY_tileRows 3 = .ok (.iload_n 1, 1) := by decide +kernel
theorem dZY_tileRows_4 : decode cZY_tileRows 4 = .ok (.invokevirtual 45, 3) := by decide +kernel
theorem dZY_tileRows_7 : decode cZY_tileRows 7 = .ok (.bipush 8, 2) := by decide +kernel
theorem dZY_tileRows_9 : decode cZY_tileRows 9 = .ok (.iload_n 2, 1) := by decide +kernel
theorem dZY_tileRows_10 : decode cZY_tileRows 10 = .ok (.imul, 1) := by decide +kernel
theorem dZY_tileRows_11 : decode cZY_tileRows 11 = .ok (.isub, 1) := by decide +kernel
theorem dZY_tileRows_12 : decode cZY_tileRows 12 = .ok (.invokestatic 58, 3) := by decide +kernel
theorem dZY_tileRows_15 : decode cZY_tileRows 15 = .ok (.ireturn, 1) := by decide +kernel
abbrev wsZY_tileRows : List Cond := .code yZY_tileRows cZY_tileRows 3 (some .int) :: tbg
def wp_ZY_tileRows (yk : Int32) (pw : Int32) (ph : Int32) (pn : Nat) (pf : Nat → Int32) (a1 : Int32) (a2 : Int32) (post : Int32 → Prop) : Prop := wp_ZY_rowsOf yk pw ph pn pf a1 (fun r_1 : Int32 => post (if (r_1 - ((8 : Int32) * a2)) < (8 : Int32) then (r_1 - ((8 : Int32) * a2)) else (8 : Int32)))
abbrev rm_ZY_tileRows : Room := { frames := 2, cells := 0, slots := 0, locals := 42 }
set_option maxHeartbeats 4000000 in
set_option maxRecDepth 100000 in
theorem kt_ZY_tileRows (l : Launch) (dC : Nat → ClassId) (dI : Nat → Nat → Nat) (cI : ClassId) (oy op opa : Nat) (yk : Int32) (pw : Int32) (ph : Int32) (pn : Nat) (pf : Nat → Int32) (a1 : Int32) (a2 : Int32) (post : Int32 → Prop) (hw : wp_ZY_tileRows yk pw ph pn pf a1 a2 post) : Met l yZY_tileRows wsZY_tileRows rm_ZY_tileRows (gr_Pc dC dI [(cI, .int)] [.ref oy, .int a1, .int a2] [(oy, .inr (2, [.ref op, .int yk])), (op, .inr (1, [.int pw, .int ph, .ref opa])), (opa, .inl (cI, pn, .inl pf))]) (vp_Si post) 0 0 (fun _ => False) := by
  refine Met.ofW (cc := cZY_tileRows) (maxL := 3) (ret := (some .int)) (by decide) rfl ?_
  intro p e s m args below meth c s₁ B hml hv
  obtain ⟨ha9, hP, hK, hE⟩ := hv
  have hx := B.exec
  have hb := B.bytes
  have hr := B.returns
  have hts0 := atoms_spec (ws := wsZY_tileRows) B.pre
  have hts : ∀ w ∈ tbg, w.before args s = true := fun w h => hts0 w (List.mem_cons_of_mem _ h)
  have hown : s.vm.findClass RZY = some m.cls := findClass_of_methodNamed B.named
  have hlocks := B.notSynchronized
  refine gx_Q (fun Q9 hQ9 => ?_)
  have hl := lv_entry ([.ref oy, .int a1, .int a2]) (n := 3) (Nat.le_of_ble_eq_true rfl)
  have he9 : entryFrame m args 3 = F0 m 0 ((lg_sl [.ref oy, .int a1, .int a2] ++ List.replicate (3 - (lg_sl ([.ref oy, .int a1, .int a2] : List Value)).length) Slot.unset).toArray) [] := by rw [ha9]; exact lg_entry_eq m [.ref oy, .int a1, .int a2] 3
  rw [he9]
  generalize (lg_sl ([.ref oy, .int a1, .int a2] : List Value) ++ List.replicate (3 - (lg_sl ([.ref oy, .int a1, .int a2] : List Value)).length) Slot.unset).toArray = ls at hl ⊢
  have hl : lv_has ls 3 [(0, .ref oy), (1, .int a1), (2, .int a2)] := hl
  refine lv_bipush (v := (8 : Int32)) hx hb dZY_tileRows_0 (by decide) ?_
  refine lv_aload_n hx hb dZY_tileRows_2 rfl (lv_at hl 0 rfl) ?_
  refine lv_iload_n hx hb dZY_tileRows_3 rfl (lv_at hl 1 rfl) ?_
  refine vp_callSi (va_runV (As := [.int a1]) (rest := [.int (8 : Int32)]) ⟨hx, hb, hml, hown, hts⟩ (kt_ZY_rowsOf l dC dI cI oy op opa yk pw ph pn pf a1 _ hw) (cwV 1 hts (tb_V mm_365 mm_366 mm_367 mm_4 mm_368) rfl rfl rfl (by decide +kernel) ⟨Nat.le_of_ble_eq_true rfl, Nat.le_of_ble_eq_true rfl⟩) ⟨gr_blind, va_recv hK hP (ci := 2) (q0 := 0) rfl rfl, fun U hU hW => gr_pre hP hK hE hU hW⟩ rfl rfl hl.1 rfl (lv_room (Nat.le_of_ble_eq_true rfl)) dZY_tileRows_4 ⟨Nat.le_of_ble_eq_true rfl, Nat.le_of_ble_eq_true rfl⟩).run (fun r_1 hw => ?_)
  refine lv_bipush (v := (8 : Int32)) hx hb dZY_tileRows_7 (by decide) ?_
  refine lv_iload_n hx hb dZY_tileRows_9 rfl (lv_at hl 2 rfl) ?_
  refine lv_imul hx hb dZY_tileRows_10 ?_
  refine lv_isub hx hb dZY_tileRows_11 ?_
  refine va_mmin hx hb (hml.trans hl.1.symm) hown (hts _ mm_410) (hts _ mm_26) (hts _ mm_2) (hts _ mm_27) (Nat.le_of_ble_eq_true rfl) (Nat.le_of_ble_eq_true rfl) (Nat.le_of_ble_eq_true rfl) (Nat.le_of_ble_eq_true rfl) dZY_tileRows_12 ?_
  subst hQ9
  exact W.iret (v := if (r_1 - ((8 : Int32) * a2)) < (8 : Int32) then (r_1 - ((8 : Int32) * a2)) else (8 : Int32)) hx hb hr (fun t ht hW => ⟨if (r_1 - ((8 : Int32) * a2)) < (8 : Int32) then (r_1 - ((8 : Int32) * a2)) else (8 : Int32), rfl, hw, ht⟩) (fun q h => nomatch h) dZY_tileRows_15
theorem dZY_countUnder_0 : decode cZY_countUnder 0 = .ok (.iload_n 1, 1) := by decide +kernel
theorem dZY_countUnder_1 : decode cZY_countUnder 1 = .ok (.iload_n 2, 1) := by decide +kernel
theorem dZY_countUnder_2 : decode cZY_countUnder 2 = .ok (.aload_n 0, 1) := by decide +kernel
theorem dZY_countUnder_3 : decode cZY_countUnder 3 = .ok (.getfield 9, 3) := by decide +kernel
theorem dZY_countUnder_6 : decode cZY_countUnder 6 = .ok (.getfield 15, 3) := by decide +kernel
theorem dZY_countUnder_9 : decode cZY_countUnder 9 = .ok (.invokestatic 61, 3) := by decide +kernel
theorem dZY_countUnder_12 : decode cZY_countUnder 12 = .ok (.iload_n 1, 1) := by decide +kernel
theorem dZY_countUnder_13 : decode cZY_countUnder 13 = .ok (.iload_n 3, 1) := by decide +kernel
theorem dZY_countUnder_14 : decode cZY_countUnder 14 = .ok (.aload_n 0, 1) := by decide +kernel
theorem dZY_countUnder_15 : decode cZY_countUnder 15 = .ok (.getfield 9, 3) := by decide +kernel
theorem dZY_countUnder_18 : decode cZY_countUnder 18 = .ok (.getfield 21, 3) := by decide +kernel
theorem dZY_countUnder_21 : decode cZY_countUnder 21 = .ok (.invokestatic 61, 3) := by decide +kernel
theorem dZY_countUnder_24 : decode cZY_countUnder 24 = .ok (.imul, 1) := by decide +kernel
theorem dZY_countUnder_25 : decode cZY_countUnder 25 = .ok (.ireturn, 1) := by decide +kernel
abbrev wsZY_countUnder : List Cond := .code yZY_countUnder cZY_countUnder 4 (some .int) :: tbg
def wp_ZY_countUnder (yk : Int32) (pw : Int32) (ph : Int32) (pn : Nat) (pf : Nat → Int32) (a1 : Int32) (a2 : Int32) (a3 : Int32) (post : Int32 → Prop) : Prop := wp_ZY_reach a1 a2 pw (fun r_1 : Int32 => wp_ZY_reach a1 a3 ph (fun r_2 : Int32 => post (r_1 * r_2)))
abbrev rm_ZY_countUnder : Room := { frames := 2, cells := 0, slots := 0, locals := 43 }
set_option maxHeartbeats 4000000 in
set_option maxRecDepth 100000 in
theorem kt_ZY_countUnder (l : Launch) (dC : Nat → ClassId) (dI : Nat → Nat → Nat) (cI : ClassId) (oy op opa : Nat) (yk : Int32) (pw : Int32) (ph : Int32) (pn : Nat) (pf : Nat → Int32) (a1 : Int32) (a2 : Int32) (a3 : Int32) (post : Int32 → Prop) (hw : wp_ZY_countUnder yk pw ph pn pf a1 a2 a3 post) : Met l yZY_countUnder wsZY_countUnder rm_ZY_countUnder (gr_Pc dC dI [(cI, .int)] [.ref oy, .int a1, .int a2, .int a3] [(oy, .inr (2, [.ref op, .int yk])), (op, .inr (1, [.int pw, .int ph, .ref opa])), (opa, .inl (cI, pn, .inl pf))]) (vp_Si post) 0 0 (fun _ => False) := by
  refine Met.ofW (cc := cZY_countUnder) (maxL := 4) (ret := (some .int)) (by decide) rfl ?_
  intro p e s m args below meth c s₁ B hml hv
  obtain ⟨ha9, hP, hK, hE⟩ := hv
  have hx := B.exec
  have hb := B.bytes
  have hr := B.returns
  have hts0 := atoms_spec (ws := wsZY_countUnder) B.pre
  have hts : ∀ w ∈ tbg, w.before args s = true := fun w h => hts0 w (List.mem_cons_of_mem _ h)
  have hown : s.vm.findClass RZY = some m.cls := findClass_of_methodNamed B.named
  have hlocks := B.notSynchronized
  refine gx_Q (fun Q9 hQ9 => ?_)
  have hl := lv_entry ([.ref oy, .int a1, .int a2, .int a3]) (n := 4) (Nat.le_of_ble_eq_true rfl)
  have he9 : entryFrame m args 4 = F0 m 0 ((lg_sl [.ref oy, .int a1, .int a2, .int a3] ++ List.replicate (4 - (lg_sl ([.ref oy, .int a1, .int a2, .int a3] : List Value)).length) Slot.unset).toArray) [] := by rw [ha9]; exact lg_entry_eq m [.ref oy, .int a1, .int a2, .int a3] 4
  rw [he9]
  generalize (lg_sl ([.ref oy, .int a1, .int a2, .int a3] : List Value) ++ List.replicate (4 - (lg_sl ([.ref oy, .int a1, .int a2, .int a3] : List Value)).length) Slot.unset).toArray = ls at hl ⊢
  have hl : lv_has ls 4 [(0, .ref oy), (1, .int a1), (2, .int a2), (3, .int a3)] := hl
  refine lv_iload_n hx hb dZY_countUnder_0 rfl (lv_at hl 1 rfl) ?_
  refine lv_iload_n hx hb dZY_countUnder_1 rfl (lv_at hl 2 rfl) ?_
  refine lv_aload_n hx hb dZY_countUnder_2 rfl (lv_at hl 0 rfl) ?_
  refine va_get (D := (dC, dI)) (ci := 2) (v := .ref op) (C := RZY) (T := TZY) (N := 2) hx hb hts inZY hown hK hP 0 rfl rfl 0 (by decide) (hts _ mm_61) (fun _ h9 => h9) rfl dZY_countUnder_3 ?_
  refine va_get (D := (dC, dI)) (ci := 1) (v := .int pw) (C := RZP) (T := TZP) (N := 3) hx hb hts inZP hown hK hP 1 rfl rfl 0 (by decide) (hts _ mm_38) (fun _ h9 => h9) rfl dZY_countUnder_6 ?_
  have hPc := hP.sub (ws' := []) [] rfl
  refine vp_callSi (va_runS (As := [.int a1, .int a2, .int pw]) (rest := []) ⟨hx, hb, hml, hown, hts⟩ (kt_ZY_reach l dC dI cI  a1 a2 pw _ hw) (va_cwS 3 hts (tb_S mm_407 mm_408 mm_4 mm_409) rfl rfl rfl (by decide +kernel) ⟨Nat.le_of_ble_eq_true rfl, Nat.le_of_ble_eq_true rfl⟩) ⟨gr_blind, fun U hU hW => gr_pre hPc hK hE hU hW⟩ rfl rfl hl.1 rfl (lv_room (Nat.le_of_ble_eq_true rfl)) dZY_countUnder_9 ⟨Nat.le_of_ble_eq_true rfl, Nat.le_of_ble_eq_true rfl⟩).run (fun r_1 hw => ?_)
  refine lv_iload_n hx hb dZY_countUnder_12 rfl (lv_at hl 1 rfl) ?_
  refine lv_iload_n hx hb dZY_countUnder_13 rfl (lv_at hl 3 rfl) ?_
  refine lv_aload_n hx hb dZY_countUnder_14 rfl (lv_at hl 0 rfl) ?_
  refine va_get (D := (dC, dI)) (ci := 2) (v := .ref op) (C := RZY) (T := TZY) (N := 2) hx hb hts inZY hown hK hP 0 rfl rfl 0 (by decide) (hts _ mm_61) (fun _ h9 => h9) rfl dZY_countUnder_15 ?_
  refine va_get (D := (dC, dI)) (ci := 1) (v := .int ph) (C := RZP) (T := TZP) (N := 3) hx hb hts inZP hown hK hP 1 rfl rfl 1 (by decide) (hts _ mm_42) (fun _ h9 => h9) rfl dZY_countUnder_18 ?_
  have hPc := hP.sub (ws' := []) [] rfl
  refine vp_callSi (va_runS (As := [.int a1, .int a3, .int ph]) (rest := [.int r_1]) ⟨hx, hb, hml, hown, hts⟩ (kt_ZY_reach l dC dI cI  a1 a3 ph _ hw) (va_cwS 3 hts (tb_S mm_407 mm_408 mm_4 mm_409) rfl rfl rfl (by decide +kernel) ⟨Nat.le_of_ble_eq_true rfl, Nat.le_of_ble_eq_true rfl⟩) ⟨gr_blind, fun U hU hW => gr_pre hPc hK hE hU hW⟩ rfl rfl hl.1 rfl (lv_room (Nat.le_of_ble_eq_true rfl)) dZY_countUnder_21 ⟨Nat.le_of_ble_eq_true rfl, Nat.le_of_ble_eq_true rfl⟩).run (fun r_2 hw => ?_)
  refine lv_imul hx hb dZY_countUnder_24 ?_
  subst hQ9
  exact W.iret (v := r_1 * r_2) hx hb hr (fun t ht hW => ⟨r_1 * r_2, rfl, hw, ht⟩) (fun q h => nomatch h) dZY_countUnder_25
theorem dZY_totalUnder_0 : decode cZY_totalUnder 0 = .ok (.aload_n 0, 1) := by decide +kernel
theorem dZY_totalUnder_1 : decode cZY_totalUnder 1 = .ok (.getfield 9, 3) := by decide +kernel
theorem dZY_totalUnder_4 : decode cZY_totalUnder 4 = .ok (.iload_n 2, 1) := by decide +kernel
theorem dZY_totalUnder_5 : decode cZY_totalUnder 5 = .ok (.iload_n 1, 1) := by decide +kernel
theorem dZY_totalUnder_6 : decode cZY_totalUnder 6 = .ok (.ishl, 1) := by decide +kernel
theorem dZY_totalUnder_7 : decode cZY_totalUnder 7 = .ok (.iload_n 3, 1) := by decide +kernel
theorem dZY_totalUnder_8 : decode cZY_totalUnder 8 = .ok (.iload_n 1, 1) := by decide +kernel
theorem dZY_totalUnder_9 : decode cZY_totalUnder 9 = .ok (.ishl, 1) := by decide +kernel
theorem dZY_totalUnder_10 : decode cZY_totalUnder 10 = .ok (.iload_n 1, 1) := by decide +kernel
theorem dZY_totalUnder_11 : decode cZY_totalUnder 11 = .ok (.iload_n 2, 1) := by decide +kernel
theorem dZY_totalUnder_12 : decode cZY_totalUnder 12 = .ok (.aload_n 0, 1) := by decide +kernel
theorem dZY_totalUnder_13 : decode cZY_totalUnder 13 = .ok (.getfield 9, 3) := by decide +kernel
theorem dZY_totalUnder_16 : decode cZY_totalUnder 16 = .ok (.getfield 15, 3) := by decide +kernel
theorem dZY_totalUnder_19 : decode cZY_totalUnder 19 = .ok (.invokestatic 61, 3) := by decide +kernel
theorem dZY_totalUnder_22 : decode cZY_totalUnder 22 = .ok (.iload_n 1, 1) := by decide +kernel
theorem dZY_totalUnder_23 : decode cZY_totalUnder 23 = .ok (.iload_n 3, 1) := by decide +kernel
theorem dZY_totalUnder_24 : decode cZY_totalUnder 24 = .ok (.aload_n 0, 1) := by decide +kernel
theorem dZY_totalUnder_25 : decode cZY_totalUnder 25 = .ok (.getfield 9, 3) := by decide +kernel
theorem dZY_totalUnder_28 : decode cZY_totalUnder 28 = .ok (.getfield 21, 3) := by decide +kernel
theorem dZY_totalUnder_31 : decode cZY_totalUnder 31 = .ok (.invokestatic 61, 3) := by decide +kernel
theorem dZY_totalUnder_34 : decode cZY_totalUnder 34 = .ok (.invokevirtual 65, 3) := by decide +kernel
theorem dZY_totalUnder_37 : decode cZY_totalUnder 37 = .ok (.ireturn, 1) := by decide +kernel
abbrev wsZY_totalUnder : List Cond := .code yZY_totalUnder cZY_totalUnder 4 (some .int) :: tbg
def wp_ZY_totalUnder (yk : Int32) (pw : Int32) (ph : Int32) (pn : Nat) (pf : Nat → Int32) (a1 : Int32) (a2 : Int32) (a3 : Int32) (post : Int32 → Prop) : Prop := wp_ZY_reach a1 a2 pw (fun r_1 : Int32 => wp_ZY_reach a1 a3 ph (fun r_2 : Int32 => wp_ZP_sumOfPart pw ph pn pf (a2 <<< (a1 &&& 31)) (a3 <<< (a1 &&& 31)) r_1 r_2 (fun r_3 : Int32 => post r_3)))
abbrev rm_ZY_totalUnder : Room := { frames := 2, cells := 0, slots := 0, locals := 49 }
set_option maxHeartbeats 4000000 in
set_option maxRecDepth 100000 in
theorem kt_ZY_totalUnder (l : Launch) (dC : Nat → ClassId) (dI : Nat → Nat → Nat) (cI : ClassId) (oy op opa : Nat) (yk : Int32) (pw : Int32) (ph : Int32) (pn : Nat) (pf : Nat → Int32) (a1 : Int32) (a2 : Int32) (a3 : Int32) (post : Int32 → Prop) (hw : wp_ZY_totalUnder yk pw ph pn pf a1 a2 a3 post) : Met l yZY_totalUnder wsZY_totalUnder rm_ZY_totalUnder (gr_Pc dC dI [(cI, .int)] [.ref oy, .int a1, .int a2, .int a3] [(oy, .inr (2, [.ref op, .int yk])), (op, .inr (1, [.int pw, .int ph, .ref opa])), (opa, .inl (cI, pn, .inl pf))]) (vp_Si post) 0 0 (fun _ => False) := by
  refine Met.ofW (cc := cZY_totalUnder) (maxL := 4) (ret := (some .int)) (by decide) rfl ?_
  intro p e s m args below meth c s₁ B hml hv
  obtain ⟨ha9, hP, hK, hE⟩ := hv
  have hx := B.exec
  have hb := B.bytes
  have hr := B.returns
  have hts0 := atoms_spec (ws := wsZY_totalUnder) B.pre
  have hts : ∀ w ∈ tbg, w.before args s = true := fun w h => hts0 w (List.mem_cons_of_mem _ h)
  have hown : s.vm.findClass RZY = some m.cls := findClass_of_methodNamed B.named
  have hlocks := B.notSynchronized
  refine gx_Q (fun Q9 hQ9 => ?_)
  have hl := lv_entry ([.ref oy, .int a1, .int a2, .int a3]) (n := 4) (Nat.le_of_ble_eq_true rfl)
  have he9 : entryFrame m args 4 = F0 m 0 ((lg_sl [.ref oy, .int a1, .int a2, .int a3] ++ List.replicate (4 - (lg_sl ([.ref oy, .int a1, .int a2, .int a3] : List Value)).length) Slot.unset).toArray) [] := by rw [ha9]; exact lg_entry_eq m [.ref oy, .int a1, .int a2, .int a3] 4
  rw [he9]
  generalize (lg_sl ([.ref oy, .int a1, .int a2, .int a3] : List Value) ++ List.replicate (4 - (lg_sl ([.ref oy, .int a1, .int a2, .int a3] : List Value)).length) Slot.unset).toArray = ls at hl ⊢
  have hl : lv_has ls 4 [(0, .ref oy), (1, .int a1), (2, .int a2), (3, .int a3)] := hl
  refine lv_aload_n hx hb dZY_totalUnder_0 rfl (lv_at hl 0 rfl) ?_
  refine va_get (D := (dC, dI)) (ci := 2) (v := .ref op) (C := RZY) (T := TZY) (N := 2) hx hb hts inZY hown hK hP 0 rfl rfl 0 (by decide) (hts _ mm_61) (fun _ h9 => h9) rfl dZY_totalUnder_1 ?_
  refine lv_iload_n hx hb dZY_totalUnder_4 rfl (lv_at hl 2 rfl) ?_
  refine lv_iload_n hx hb dZY_totalUnder_5 rfl (lv_at hl 1 rfl) ?_
  refine lv_ishl hx hb dZY_totalUnder_6 ?_
  refine lv_iload_n hx hb dZY_totalUnder_7 rfl (lv_at hl 3 rfl) ?_
  refine lv_iload_n hx hb dZY_totalUnder_8 rfl (lv_at hl 1 rfl) ?_
  refine lv_ishl hx hb dZY_totalUnder_9 ?_
  refine lv_iload_n hx hb dZY_totalUnder_10 rfl (lv_at hl 1 rfl) ?_
  refine lv_iload_n hx hb dZY_totalUnder_11 rfl (lv_at hl 2 rfl) ?_
  refine lv_aload_n hx hb dZY_totalUnder_12 rfl (lv_at hl 0 rfl) ?_
  refine va_get (D := (dC, dI)) (ci := 2) (v := .ref op) (C := RZY) (T := TZY) (N := 2) hx hb hts inZY hown hK hP 0 rfl rfl 0 (by decide) (hts _ mm_61) (fun _ h9 => h9) rfl dZY_totalUnder_13 ?_
  refine va_get (D := (dC, dI)) (ci := 1) (v := .int pw) (C := RZP) (T := TZP) (N := 3) hx hb hts inZP hown hK hP 1 rfl rfl 0 (by decide) (hts _ mm_38) (fun _ h9 => h9) rfl dZY_totalUnder_16 ?_
  have hPc := hP.sub (ws' := []) [] rfl
  refine vp_callSi (va_runS (As := [.int a1, .int a2, .int pw]) (rest := [.int (a3 <<< (a1 &&& 31)), .int (a2 <<< (a1 &&& 31)), .ref op]) ⟨hx, hb, hml, hown, hts⟩ (kt_ZY_reach l dC dI cI  a1 a2 pw _ hw) (va_cwS 3 hts (tb_S mm_407 mm_408 mm_4 mm_409) rfl rfl rfl (by decide +kernel) ⟨Nat.le_of_ble_eq_true rfl, Nat.le_of_ble_eq_true rfl⟩) ⟨gr_blind, fun U hU hW => gr_pre hPc hK hE hU hW⟩ rfl rfl hl.1 rfl (lv_room (Nat.le_of_ble_eq_true rfl)) dZY_totalUnder_19 ⟨Nat.le_of_ble_eq_true rfl, Nat.le_of_ble_eq_true rfl⟩).run (fun r_1 hw => ?_)
  refine lv_iload_n hx hb dZY_totalUnder_22 rfl (lv_at hl 1 rfl) ?_
  refine lv_iload_n hx hb dZY_totalUnder_23 rfl (lv_at hl 3 rfl) ?_
  refine lv_aload_n hx hb dZY_totalUnder_24 rfl (lv_at hl 0 rfl) ?_
  refine va_get (D := (dC, dI)) (ci := 2) (v := .ref op) (C := RZY) (T := TZY) (N := 2) hx hb hts inZY hown hK hP 0 rfl rfl 0 (by decide) (hts _ mm_61) (fun _ h9 => h9) rfl dZY_totalUnder_25 ?_
  refine va_get (D := (dC, dI)) (ci := 1) (v := .int ph) (C := RZP) (T := TZP) (N := 3) hx hb hts inZP hown hK hP 1 rfl rfl 1 (by decide) (hts _ mm_42) (fun _ h9 => h9) rfl dZY_totalUnder_28 ?_
  have hPc := hP.sub (ws' := []) [] rfl
  refine vp_callSi (va_runS (As := [.int a1, .int a3, .int ph]) (rest := [.int r_1, .int (a3 <<< (a1 &&& 31)), .int (a2 <<< (a1 &&& 31)), .ref op]) ⟨hx, hb, hml, hown, hts⟩ (kt_ZY_reach l dC dI cI  a1 a3 ph _ hw) (va_cwS 3 hts (tb_S mm_407 mm_408 mm_4 mm_409) rfl rfl rfl (by decide +kernel) ⟨Nat.le_of_ble_eq_true rfl, Nat.le_of_ble_eq_true rfl⟩) ⟨gr_blind, fun U hU hW => gr_pre hPc hK hE hU hW⟩ rfl rfl hl.1 rfl (lv_room (Nat.le_of_ble_eq_true rfl)) dZY_totalUnder_31 ⟨Nat.le_of_ble_eq_true rfl, Nat.le_of_ble_eq_true rfl⟩).run (fun r_2 hw => ?_)
  have hPc := hP.sub (ws' := [(op, .inr (1, [.int pw, .int ph, .ref opa])), (opa, .inl (cI, pn, .inl pf))]) [1, 2] rfl
  refine vp_callSi (va_runV (As := [.int (a2 <<< (a1 &&& 31)), .int (a3 <<< (a1 &&& 31)), .int r_1, .int r_2]) (rest := []) ⟨hx, hb, hml, hown, hts⟩ (kt_ZP_sumOfPart l dC dI cI op opa pw ph pn pf (a2 <<< (a1 &&& 31)) (a3 <<< (a1 &&& 31)) r_1 r_2 _ hw) (cwV 4 hts (tb_V mm_415 mm_416 mm_417 mm_3 mm_418) rfl rfl rfl (by decide +kernel) ⟨Nat.le_of_ble_eq_true rfl, Nat.le_of_ble_eq_true rfl⟩) ⟨gr_blind, va_recv hK hPc (ci := 1) (q0 := 0) rfl rfl, fun U hU hW => gr_pre hPc hK hE hU hW⟩ rfl rfl hl.1 rfl (lv_room (Nat.le_of_ble_eq_true rfl)) dZY_totalUnder_34 ⟨Nat.le_of_ble_eq_true rfl, Nat.le_of_ble_eq_true rfl⟩).run (fun r_3 hw => ?_)
  subst hQ9
  exact W.iret (v := r_3) hx hb hr (fun t ht hW => ⟨r_3, rfl, hw, ht⟩) (fun q h => nomatch h) dZY_totalUnder_37
theorem dZY_roundedMean_0 : decode cZY_roundedMean 0 = .ok (.aload_n 0, 1) := by decide +kernel
theorem dZY_roundedMean_1 : decode cZY_roundedMean 1 = .ok (.iload_n 1, 1) := by decide +kernel
theorem dZY_roundedMean_2 : decode cZY_roundedMean 2 = .ok (.iload_n 2, 1) := by decide +kernel
theorem dZY_roundedMean_3 : decode cZY_roundedMean 3 = .ok (.iload_n 3, 1) := by decide +kernel
theorem dZY_roundedMean_4 : decode cZY_roundedMean 4 = .ok (.invokevirtual 69, 3) := by decide +kernel
theorem dZY_roundedMean_7 : decode cZY_roundedMean 7 = .ok (.istore 4, 2) := by decide +kernel
theorem dZY_roundedMean_9 : decode cZY_roundedMean 9 = .ok (.iconst 2, 1) := by decide +kernel
theorem dZY_roundedMean_10 : decode cZY_roundedMean 10 = .ok (.aload_n 0, 1) := by decide +kernel
theorem dZY_roundedMean_11 : decode cZY_roundedMean 11 = .ok (.iload_n 1, 1) := by decide +kernel
theorem dZY_roundedMean_12 : decode cZY_roundedMean 12 = .ok (.iload_n 2, 1) := by decide +kernel
theorem dZY_roundedMean_13 : decode cZY_roundedMean 13 = .ok (.iload_n 3, 1) := by decide +kernel
theorem dZY_roundedMean_14 : decode cZY_roundedMean 14 = .ok (.invokevirtual 72, 3) := by decide +kernel
theorem dZY_roundedMean_17 : decode cZY_roundedMean 17 = .ok (.imul, 1) := by decide +kernel
theorem dZY_roundedMean_18 : decode cZY_roundedMean 18 = .ok (.iload 4, 2) := by decide +kernel
theorem dZY_roundedMean_20 : decode cZY_roundedMean 20 = .ok (.iadd, 1) := by decide +kernel
theorem dZY_roundedMean_21 : decode cZY_roundedMean 21 = .ok (.iconst 2, 1) := by decide +kernel
theorem dZY_roundedMean_22 : decode cZY_roundedMean 22 = .ok (.iload 4, 2) := by decide +kernel
theorem dZY_roundedMean_24 : decode cZY_roundedMean 24 = .ok (.imul, 1) := by decide +kernel
theorem dZY_roundedMean_25 : decode cZY_roundedMean 25 = .ok (.idiv, 1) := by decide +kernel
theorem dZY_roundedMean_26 : decode cZY_roundedMean 26 = .ok (.ireturn, 1) := by decide +kernel
abbrev wsZY_roundedMean : List Cond := .code yZY_roundedMean cZY_roundedMean 5 (some .int) :: tbg
def wp_ZY_roundedMean (yk : Int32) (pw : Int32) (ph : Int32) (pn : Nat) (pf : Nat → Int32) (a1 : Int32) (a2 : Int32) (a3 : Int32) (post : Int32 → Prop) : Prop := wp_ZY_countUnder yk pw ph pn pf a1 a2 a3 (fun r_1 : Int32 => wp_ZY_totalUnder yk pw ph pn pf a1 a2 a3 (fun r_2 : Int32 => ¬ ((2 : Int32) * r_1) = 0 ∧ (post ((((2 : Int32) * r_2) + r_1) / ((2 : Int32) * r_1)))))
abbrev rm_ZY_roundedMean : Room := { frames := 3, cells := 0, slots := 0, locals := 72 }
set_option maxHeartbeats 4000000 in
set_option maxRecDepth 100000 in
theorem kt_ZY_roundedMean (l : Launch) (dC : Nat → ClassId) (dI : Nat → Nat → Nat) (cI : ClassId) (oy op opa : Nat) (yk : Int32) (pw : Int32) (ph : Int32) (pn : Nat) (pf : Nat → Int32) (a1 : Int32) (a2 : Int32) (a3 : Int32) (post : Int32 → Prop) (hw : wp_ZY_roundedMean yk pw ph pn pf a1 a2 a3 post) : Met l yZY_roundedMean wsZY_roundedMean rm_ZY_roundedMean (gr_Pc dC dI [(cI, .int)] [.ref oy, .int a1, .int a2, .int a3] [(oy, .inr (2, [.ref op, .int yk])), (op, .inr (1, [.int pw, .int ph, .ref opa])), (opa, .inl (cI, pn, .inl pf))]) (vp_Si post) 0 0 (fun _ => False) := by
  refine Met.ofW (cc := cZY_roundedMean) (maxL := 5) (ret := (some .int)) (by decide) rfl ?_
  intro p e s m args below meth c s₁ B hml hv
  obtain ⟨ha9, hP, hK, hE⟩ := hv
  have hx := B.exec
  have hb := B.bytes
  have hr := B.returns
  have hts0 := atoms_spec (ws := wsZY_roundedMean) B.pre
  have hts : ∀ w ∈ tbg, w.before args s = true := fun w h => hts0 w (List.mem_cons_of_mem _ h)
  have hown : s.vm.findClass RZY = some m.cls := findClass_of_methodNamed B.named
  have hlocks := B.notSynchronized
  refine gx_Q (fun Q9 hQ9 => ?_)
  have hl := lv_entry ([.ref oy, .int a1, .int a2, .int a3]) (n := 5) (Nat.le_of_ble_eq_true rfl)
  have he9 : entryFrame m args 5 = F0 m 0 ((lg_sl [.ref oy, .int a1, .int a2, .int a3] ++ List.replicate (5 - (lg_sl ([.ref oy, .int a1, .int a2, .int a3] : List Value)).length) Slot.unset).toArray) [] := by rw [ha9]; exact lg_entry_eq m [.ref oy, .int a1, .int a2, .int a3] 5
  rw [he9]
  generalize (lg_sl ([.ref oy, .int a1, .int a2, .int a3] : List Value) ++ List.replicate (5 - (lg_sl ([.ref oy, .int a1, .int a2, .int a3] : List Value)).length) Slot.unset).toArray = ls at hl ⊢
  have hl : lv_has ls 5 [(0, .ref oy), (1, .int a1), (2, .int a2), (3, .int a3)] := hl
  refine lv_aload_n hx hb dZY_roundedMean_0 rfl (lv_at hl 0 rfl) ?_
  refine lv_iload_n hx hb dZY_roundedMean_1 rfl (lv_at hl 1 rfl) ?_
  refine lv_iload_n hx hb dZY_roundedMean_2 rfl (lv_at hl 2 rfl) ?_
  refine lv_iload_n hx hb dZY_roundedMean_3 rfl (lv_at hl 3 rfl) ?_
  refine vp_callSi (va_runV (As := [.int a1, .int a2, .int a3]) (rest := []) ⟨hx, hb, hml, hown, hts⟩ (kt_ZY_countUnder l dC dI cI oy op opa yk pw ph pn pf a1 a2 a3 _ hw) (cwV 3 hts (tb_V mm_403 mm_404 mm_405 mm_4 mm_406) rfl rfl rfl (by decide +kernel) ⟨Nat.le_of_ble_eq_true rfl, Nat.le_of_ble_eq_true rfl⟩) ⟨gr_blind, va_recv hK hP (ci := 2) (q0 := 0) rfl rfl, fun U hU hW => gr_pre hP hK hE hU hW⟩ rfl rfl hl.1 rfl (lv_room (Nat.le_of_ble_eq_true rfl)) dZY_roundedMean_4 ⟨Nat.le_of_ble_eq_true rfl, Nat.le_of_ble_eq_true rfl⟩).run (fun r_1 hw => ?_)
  refine lv_istore (lv' := [(4, .int r_1), (0, .ref oy), (1, .int a1), (2, .int a2), (3, .int a3)]) hx hb dZY_roundedMean_7 hl (by decide) rfl (fun ls hl => ?_)
  refine lv_iconst (v := (2 : Int32)) hx hb dZY_roundedMean_9 (by decide) ?_
  refine lv_aload_n hx hb dZY_roundedMean_10 rfl (lv_at hl 1 rfl) ?_
  refine lv_iload_n hx hb dZY_roundedMean_11 rfl (lv_at hl 2 rfl) ?_
  refine lv_iload_n hx hb dZY_roundedMean_12 rfl (lv_at hl 3 rfl) ?_
  refine lv_iload_n hx hb dZY_roundedMean_13 rfl (lv_at hl 4 rfl) ?_
  refine vp_callSi (va_runV (As := [.int a1, .int a2, .int a3]) (rest := [.int (2 : Int32)]) ⟨hx, hb, hml, hown, hts⟩ (kt_ZY_totalUnder l dC dI cI oy op opa yk pw ph pn pf a1 a2 a3 _ hw) (cwV 3 hts (tb_V mm_411 mm_412 mm_413 mm_4 mm_414) rfl rfl rfl (by decide +kernel) ⟨Nat.le_of_ble_eq_true rfl, Nat.le_of_ble_eq_true rfl⟩) ⟨gr_blind, va_recv hK hP (ci := 2) (q0 := 0) rfl rfl, fun U hU hW => gr_pre hP hK hE hU hW⟩ rfl rfl hl.1 rfl (lv_room (Nat.le_of_ble_eq_true rfl)) dZY_roundedMean_14 ⟨Nat.le_of_ble_eq_true rfl, Nat.le_of_ble_eq_true rfl⟩).run (fun r_2 hw => ?_)
  refine lv_imul hx hb dZY_roundedMean_17 ?_
  refine lv_iload hx hb dZY_roundedMean_18 (lv_at hl 0 rfl) ?_
  refine lv_iadd hx hb dZY_roundedMean_20 ?_
  refine lv_iconst (v := (2 : Int32)) hx hb dZY_roundedMean_21 (by decide) ?_
  refine lv_iload hx hb dZY_roundedMean_22 (lv_at hl 0 rfl) ?_
  refine lv_imul hx hb dZY_roundedMean_24 ?_
  obtain ⟨h_3, hw⟩ := hw
  refine lv_idiv hx hb dZY_roundedMean_25 h_3 ?_
  subst hQ9
  exact W.iret (v := (((2 : Int32) * r_2) + r_1) / ((2 : Int32) * r_1)) hx hb hr (fun t ht hW => ⟨(((2 : Int32) * r_2) + r_1) / ((2 : Int32) * r_1), rfl, hw, ht⟩) (fun q h => nomatch h) dZY_roundedMean_26
theorem dZY_tilesOver_0 : decode cZY_tilesOver 0 = .ok (.iconst 0, 1) := by decide +kernel
theorem dZY_tilesOver_1 : decode cZY_tilesOver 1 = .ok (.istore 5, 2) := by decide +kernel
theorem dZY_tilesOver_3 : decode cZY_tilesOver 3 = .ok (.iconst 0, 1) := by decide +kernel
theorem dZY_tilesOver_4 : decode cZY_tilesOver 4 = .ok (.istore 6, 2) := by decide +kernel
theorem dZY_tilesOver_6 : decode cZY_tilesOver 6 = .ok (.iload 6, 2) := by decide +kernel
theorem dZY_tilesOver_8 : decode cZY_tilesOver 8 = .ok (.aload_n 0, 1) := by decide +kernel
theorem dZY_tilesOver_9 : decode cZY_tilesOver 9 = .ok (.getfield 30, 3) := by decide +kernel
theorem dZY_tilesOver_12 : decode cZY_tilesOver 12 = .ok (.if_icmp .ge 30, 3) := by decide +kernel
theorem dZY_tilesOver_15 : decode cZY_tilesOver 15 = .ok (.iload 5, 2) := by decide +kernel
theorem dZY_tilesOver_17 : decode cZY_tilesOver 17 = .ok (.iload 6, 2) := by decide +kernel
theorem dZY_tilesOver_19 : decode cZY_tilesOver 19 = .ok (.iload_n 1, 1) := by decide +kernel
theorem dZY_tilesOver_20 : decode cZY_tilesOver 20 = .ok (.iload_n 3, 1) := by decide +kernel
theorem dZY_tilesOver_21 : decode cZY_tilesOver 21 = .ok (.invokestatic 75, 3) := by decide +kernel
theorem dZY_tilesOver_24 : decode cZY_tilesOver 24 = .ok (.iload 6, 2) := by decide +kernel
theorem dZY_tilesOver_26 : decode cZY_tilesOver 26 = .ok (.iload_n 2, 1) := by decide +kernel
theorem dZY_tilesOver_27 : decode cZY_tilesOver 27 = .ok (.iload 4, 2) := by decide +kernel
theorem dZY_tilesOver_29 : decode cZY_tilesOver 29 = .ok (.invokestatic 75, 3) := by decide +kernel
theorem dZY_tilesOver_32 : decode cZY_tilesOver 32 = .ok (.imul, 1) := by decide +kernel
theorem dZY_tilesOver_33 : decode cZY_tilesOver 33 = .ok (.iadd, 1) := by decide +kernel
theorem dZY_tilesOver_34 : decode cZY_tilesOver 34 = .ok (.istore 5, 2) := by decide +kernel
theorem dZY_tilesOver_36 : decode cZY_tilesOver 36 = .ok (.iinc 6 1, 3) := by decide +kernel
theorem dZY_tilesOver_39 : decode cZY_tilesOver 39 = .ok (.goto (-33), 3) := by decide +kernel
theorem dZY_tilesOver_42 : decode cZY_tilesOver 42 = .ok (.iload 5, 2) := by decide +kernel
theorem dZY_tilesOver_44 : decode cZY_tilesOver 44 = .ok (.ireturn, 1) := by decide +kernel
abbrev wsZY_tilesOver : List Cond := .code yZY_tilesOver cZY_tilesOver 7 (some .int) :: tbg
def lp_ZY_tilesOver_6 (yk : Int32) (pw : Int32) (ph : Int32) (pn : Nat) (pf : Nat → Int32) (a1 : Int32) (a2 : Int32) (a3 : Int32) (a4 : Int32) (post : Int32 → Prop) (K6 : Int32 → Int32 → Prop) (n : Nat) : Int32 → Int32 → Prop := Nat.rec (motive := fun _ => Int32 → Int32 → Prop) (fun (x5_6 : Int32) (x6_6 : Int32) => False) (fun _ ih6 (x5_6 : Int32) (x6_6 : Int32) => ((yk ≤ x6_6 → (K6 x5_6 x6_6)) ∧ (¬ yk ≤ x6_6 → (wp_ZY_tilesOverSide x6_6 a1 a3 (fun r_2 : Int32 => wp_ZY_tilesOverSide x6_6 a2 a4 (fun r_3 : Int32 => ih6 (x5_6 + (r_2 * r_3)) (x6_6 + (1 : Int32)))))))) n
def wp_ZY_tilesOver (yk : Int32) (pw : Int32) (ph : Int32) (pn : Nat) (pf : Nat → Int32) (a1 : Int32) (a2 : Int32) (a3 : Int32) (a4 : Int32) (post : Int32 → Prop) : Prop := ∃ n : Nat, lp_ZY_tilesOver_6 yk pw ph pn pf a1 a2 a3 a4 post (fun (x5_6e : Int32) (x6_6e : Int32) => post x5_6e) n (0 : Int32) (0 : Int32)
abbrev rm_ZY_tilesOver : Room := { frames := 1, cells := 0, slots := 0, locals := 24 }
set_option maxHeartbeats 4000000 in
set_option maxRecDepth 100000 in
theorem kt_ZY_tilesOver (l : Launch) (dC : Nat → ClassId) (dI : Nat → Nat → Nat) (cI : ClassId) (oy op opa : Nat) (yk : Int32) (pw : Int32) (ph : Int32) (pn : Nat) (pf : Nat → Int32) (a1 : Int32) (a2 : Int32) (a3 : Int32) (a4 : Int32) (post : Int32 → Prop) (hw : wp_ZY_tilesOver yk pw ph pn pf a1 a2 a3 a4 post) : Met l yZY_tilesOver wsZY_tilesOver rm_ZY_tilesOver (gr_Pc dC dI [(cI, .int)] [.ref oy, .int a1, .int a2, .int a3, .int a4] [(oy, .inr (2, [.ref op, .int yk])), (op, .inr (1, [.int pw, .int ph, .ref opa])), (opa, .inl (cI, pn, .inl pf))]) (vp_Si post) 0 0 (fun _ => False) := by
  refine Met.ofW (cc := cZY_tilesOver) (maxL := 7) (ret := (some .int)) (by decide) rfl ?_
  intro p e s m args below meth c s₁ B hml hv
  obtain ⟨ha9, hP, hK, hE⟩ := hv
  have hx := B.exec
  have hb := B.bytes
  have hr := B.returns
  have hts0 := atoms_spec (ws := wsZY_tilesOver) B.pre
  have hts : ∀ w ∈ tbg, w.before args s = true := fun w h => hts0 w (List.mem_cons_of_mem _ h)
  have hown : s.vm.findClass RZY = some m.cls := findClass_of_methodNamed B.named
  have hlocks := B.notSynchronized
  refine gx_Q (fun Q9 hQ9 => ?_)
  have hl := lv_entry ([.ref oy, .int a1, .int a2, .int a3, .int a4]) (n := 7) (Nat.le_of_ble_eq_true rfl)
  have he9 : entryFrame m args 7 = F0 m 0 ((lg_sl [.ref oy, .int a1, .int a2, .int a3, .int a4] ++ List.replicate (7 - (lg_sl ([.ref oy, .int a1, .int a2, .int a3, .int a4] : List Value)).length) Slot.unset).toArray) [] := by rw [ha9]; exact lg_entry_eq m [.ref oy, .int a1, .int a2, .int a3, .int a4] 7
  rw [he9]
  generalize (lg_sl ([.ref oy, .int a1, .int a2, .int a3, .int a4] : List Value) ++ List.replicate (7 - (lg_sl ([.ref oy, .int a1, .int a2, .int a3, .int a4] : List Value)).length) Slot.unset).toArray = ls at hl ⊢
  have hl : lv_has ls 7 [(0, .ref oy), (1, .int a1), (2, .int a2), (3, .int a3), (4, .int a4)] := hl
  refine lv_iconst (v := (0 : Int32)) hx hb dZY_tilesOver_0 (by decide) ?_
  refine lv_istore (lv' := [(5, .int (0 : Int32)), (0, .ref oy), (1, .int a1), (2, .int a2), (3, .int a3), (4, .int a4)]) hx hb dZY_tilesOver_1 hl (by decide) rfl (fun ls hl => ?_)
  refine lv_iconst (v := (0 : Int32)) hx hb dZY_tilesOver_3 (by decide) ?_
  refine lv_istore (lv' := [(6, .int (0 : Int32)), (5, .int (0 : Int32)), (0, .ref oy), (1, .int a1), (2, .int a2), (3, .int a3), (4, .int a4)]) hx hb dZY_tilesOver_4 hl (by decide) rfl (fun ls hl => ?_)
  have lp6 : ∀ K6 : Int32 → Int32 → Prop, (∀ (x5_6 : Int32) (x6_6 : Int32), K6 x5_6 x6_6 → ∀ ls : Array Slot, lv_has ls 7 [(6, .int x6_6), (5, .int x5_6), (0, .ref oy), (1, .int a1), (2, .int a2), (3, .int a3), (4, .int a4)] → W p l e (headSpec wsZY_tilesOver rm_ZY_tilesOver).room s m args below meth c s.heap [] 0 0 Q9 (F0 m 42 ls [])) → ∀ (n : Nat) (x5_6 : Int32) (x6_6 : Int32), lp_ZY_tilesOver_6 yk pw ph pn pf a1 a2 a3 a4 post K6 n x5_6 x6_6 → ∀ ls : Array Slot, lv_has ls 7 [(6, .int x6_6), (5, .int x5_6), (0, .ref oy), (1, .int a1), (2, .int a2), (3, .int a3), (4, .int a4)] → W p l e (headSpec wsZY_tilesOver rm_ZY_tilesOver).room s m args below meth c s.heap [] 0 0 Q9 (F0 m 6 ls []) := by
    intro K6 aft6 n
    induction n with
    | zero => intro x5_6 x6_6 hw; exact False.elim hw
    | succ n ih6 =>
      intro x5_6 x6_6 hw ls hl
      refine lv_iload hx hb dZY_tilesOver_6 (lv_at hl 0 rfl) ?_
      refine lv_aload_n hx hb dZY_tilesOver_8 rfl (lv_at hl 2 rfl) ?_
      refine va_get (D := (dC, dI)) (ci := 2) (v := .int yk) (C := RZY) (T := TZY) (N := 2) hx hb hts inZY hown hK hP 0 rfl rfl 1 (by decide) (hts _ mm_62) (fun _ h9 => h9) rfl dZY_tilesOver_9 ?_
      refine lv_icmp_ge (tgt := 42) hx hb dZY_tilesOver_12 (by decide) (fun c_1 => ?_) (fun c_1 => ?_)
      · have hw := hw.1 c_1
        exact aft6 x5_6 x6_6 hw ls (lv_sub hl [0, 1, 2, 3, 4, 5, 6] rfl)
      · have hw := hw.2 c_1
        refine lv_iload hx hb dZY_tilesOver_15 (lv_at hl 1 rfl) ?_
        refine lv_iload hx hb dZY_tilesOver_17 (lv_at hl 0 rfl) ?_
        refine lv_iload_n hx hb dZY_tilesOver_19 rfl (lv_at hl 3 rfl) ?_
        refine lv_iload_n hx hb dZY_tilesOver_20 rfl (lv_at hl 5 rfl) ?_
        have hPc := hP.sub (ws' := []) [] rfl
        refine vp_callSi (va_runS (As := [.int x6_6, .int a1, .int a3]) (rest := [.int x5_6]) ⟨hx, hb, hml, hown, hts⟩ (kt_ZY_tilesOverSide l dC dI cI  x6_6 a1 a3 _ hw) (va_cwS 3 hts (tb_S mm_378 mm_379 mm_4 mm_380) rfl rfl rfl (by decide +kernel) ⟨Nat.le_of_ble_eq_true rfl, Nat.le_of_ble_eq_true rfl⟩) ⟨gr_blind, fun U hU hW => gr_pre hPc hK hE hU hW⟩ rfl rfl hl.1 rfl (lv_room (Nat.le_of_ble_eq_true rfl)) dZY_tilesOver_21 ⟨Nat.le_of_ble_eq_true rfl, Nat.le_of_ble_eq_true rfl⟩).run (fun r_2 hw => ?_)
        refine lv_iload hx hb dZY_tilesOver_24 (lv_at hl 0 rfl) ?_
        refine lv_iload_n hx hb dZY_tilesOver_26 rfl (lv_at hl 4 rfl) ?_
        refine lv_iload hx hb dZY_tilesOver_27 (lv_at hl 6 rfl) ?_
        have hPc := hP.sub (ws' := []) [] rfl
        refine vp_callSi (va_runS (As := [.int x6_6, .int a2, .int a4]) (rest := [.int r_2, .int x5_6]) ⟨hx, hb, hml, hown, hts⟩ (kt_ZY_tilesOverSide l dC dI cI  x6_6 a2 a4 _ hw) (va_cwS 3 hts (tb_S mm_378 mm_379 mm_4 mm_380) rfl rfl rfl (by decide +kernel) ⟨Nat.le_of_ble_eq_true rfl, Nat.le_of_ble_eq_true rfl⟩) ⟨gr_blind, fun U hU hW => gr_pre hPc hK hE hU hW⟩ rfl rfl hl.1 rfl (lv_room (Nat.le_of_ble_eq_true rfl)) dZY_tilesOver_29 ⟨Nat.le_of_ble_eq_true rfl, Nat.le_of_ble_eq_true rfl⟩).run (fun r_3 hw => ?_)
        refine lv_imul hx hb dZY_tilesOver_32 ?_
        refine lv_iadd hx hb dZY_tilesOver_33 ?_
        refine lv_istore (lv' := [(5, .int (x5_6 + (r_2 * r_3))), (6, .int x6_6), (0, .ref oy), (1, .int a1), (2, .int a2), (3, .int a3), (4, .int a4)]) hx hb dZY_tilesOver_34 hl (by decide) rfl (fun ls hl => ?_)
        refine lv_iinc (v := x6_6 + (1 : Int32)) (lv' := [(6, .int (x6_6 + (1 : Int32))), (5, .int (x5_6 + (r_2 * r_3))), (0, .ref oy), (1, .int a1), (2, .int a2), (3, .int a3), (4, .int a4)]) hx hb dZY_tilesOver_36 hl (k := 1) rfl rfl (by decide) rfl (fun ls hl => ?_)
        refine lv_goto (tgt := 6) hx hb dZY_tilesOver_39 (by decide) ?_
        exact ih6 (x5_6 + (r_2 * r_3)) (x6_6 + (1 : Int32)) hw ls (lv_sub hl [0, 1, 2, 3, 4, 5, 6] rfl)
  obtain ⟨n6, hw⟩ := hw
  refine lp6 _ (fun x5_6e x6_6e hw ls hl => ?_) n6 (0 : Int32) (0 : Int32) hw ls (lv_sub hl [0, 1, 2, 3, 4, 5, 6] rfl)
  refine lv_iload hx hb dZY_tilesOver_42 (lv_at hl 1 rfl) ?_
  subst hQ9
  exact W.iret (v := x5_6e) hx hb hr (fun t ht hW => ⟨x5_6e, rfl, hw, ht⟩) (fun q h => nomatch h) dZY_tilesOver_44
end
section
theorem dZY_cutTile_0 : decode cZY_cutTile 0 = .ok (.aload 4, 2) := by decide +kernel
theorem dZY_cutTile_2 : decode cZY_cutTile 2 = .ok (.aload_n 0, 1) := by decide +kernel
theorem dZY_cutTile_3 : decode cZY_cutTile 3 = .ok (.iload_n 1, 1) := by decide +kernel
theorem dZY_cutTile_4 : decode cZY_cutTile 4 = .ok (.iload_n 2, 1) := by decide +kernel
theorem dZY_cutTile_5 : decode cZY_cutTile 5 = .ok (.invokevirtual 78, 3) := by decide +kernel
theorem dZY_cutTile_8 : decode cZY_cutTile 8 = .ok (.aload_n 0, 1) := by decide +kernel
theorem dZY_cutTile_9 : decode cZY_cutTile 9 = .ok (.iload_n 1, 1) := by decide +kernel
theorem dZY_cutTile_10 : decode cZY_cutTile 10 = .ok (.iload_n 3, 1) := by decide +kernel
theorem dZY_cutTile_11 : decode cZY_cutTile 11 = .ok (.invokevirtual 81, 3) := by decide +kernel
theorem dZY_cutTile_14 : decode cZY_cutTile 14 = .ok (.invokevirtual 84, 3) := by decide +kernel
theorem dZY_cutTile_17 : decode cZY_cutTile 17 = .ok (.iconst 0, 1) := by decide +kernel
theorem dZY_cutTile_18 : decode cZY_cutTile 18 = .ok (.istore 5, 2) := by decide +kernel
theorem dZY_cutTile_20 : decode cZY_cutTile 20 = .ok (.iload 5, 2) := by decide +kernel
theorem dZY_cutTile_22 : decode cZY_cutTile 22 = .ok (.aload 4, 2) := by decide +kernel
theorem dZY_cutTile_24 : decode cZY_cutTile 24 = .ok (.getfield 90, 3) := by decide +kernel
theorem dZY_cutTile_27 : decode cZY_cutTile 27 = .ok (.if_icmp .ge 56, 3) := by decide +kernel
theorem dZY_cutTile_30 : decode cZY_cutTile 30 = .ok (.iconst 0, 1) := by decide +kernel
theorem dZY_cutTile_31 : decode cZY_cutTile 31 = .ok (.istore 6, 2) := by decide +kernel
theorem dZY_cutTile_33 : decode cZY_cutTile 33 = .ok (.iload 6, 2) := by decide +kernel
theorem dZY_cutTile_35 : decode cZY_cutTile 35 = .ok (.aload 4, 2) := by decide +kernel
theorem dZY_cutTile_37 : decode cZY_cutTile 37 = .ok (.getfield 91, 3) := by decide +kernel
theorem dZY_cutTile_40 : decode cZY_cutTile 40 = .ok (.if_icmp .ge 37, 3) := by decide +kernel
theorem dZY_cutTile_43 : decode cZY_cutTile 43 = .ok (.aload 4, 2) := by decide +kernel
theorem dZY_cutTile_45 : decode cZY_cutTile 45 = .ok (.iload 6, 2) := by decide +kernel
theorem dZY_cutTile_47 : decode cZY_cutTile 47 = .ok (.iload 5, 2) := by decide +kernel
theorem dZY_cutTile_49 : decode cZY_cutTile 49 = .ok (.aload_n 0, 1) := by decide +kernel
theorem dZY_cutTile_50 : decode cZY_cutTile 50 = .ok (.iload_n 1, 1) := by decide +kernel
theorem dZY_cutTile_51 : decode cZY_cutTile 51 = .ok (.bipush 8, 2) := by decide +kernel
theorem dZY_cutTile_53 : decode cZY_cutTile 53 = .ok (.iload_n 2, 1) := by decide +kernel
theorem dZY_cutTile_54 : decode cZY_cutTile 54 = .ok (.imul, 1) := by decide +kernel
theorem dZY_cutTile_55 : decode cZY_cutTile 55 = .ok (.iload 6, 2) := by decide +kernel
theorem dZY_cutTile_57 : decode cZY_cutTile 57 = .ok (.iadd, 1) := by decide +kernel
theorem dZY_cutTile_58 : decode cZY_cutTile 58 = .ok (.bipush 8, 2) := by decide +kernel
theorem dZY_cutTile_60 : decode cZY_cutTile 60 = .ok (.iload_n 3, 1) := by decide +kernel
theorem dZY_cutTile_61 : decode cZY_cutTile 61 = .ok (.imul, 1) := by decide +kernel
theorem dZY_cutTile_62 : decode cZY_cutTile 62 = .ok (.iload 5, 2) := by decide +kernel
theorem dZY_cutTile_64 : decode cZY_cutTile 64 = .ok (.iadd, 1) := by decide +kernel
theorem dZY_cutTile_65 : decode cZY_cutTile 65 = .ok (.invokevirtual 92, 3) := by decide +kernel
theorem dZY_cutTile_68 : decode cZY_cutTile 68 = .ok (.invokevirtual 95, 3) := by decide +kernel
theorem dZY_cutTile_71 : decode cZY_cutTile 71 = .ok (.iinc 6 1, 3) := by decide +kernel
theorem dZY_cutTile_74 : decode cZY_cutTile 74 = .ok (.goto (-41), 3) := by decide +kernel
theorem dZY_cutTile_77 : decode cZY_cutTile 77 = .ok (.iinc 5 1, 3) := by decide +kernel
theorem dZY_cutTile_80 : decode cZY_cutTile 80 = .ok (.goto (-60), 3) := by decide +kernel
theorem dZY_cutTile_83 : decode cZY_cutTile 83 = .ok (.return_, 1) := by decide +kernel
abbrev wsZY_cutTile : List Cond := .code yZY_cutTile cZY_cutTile 7 none :: tbg
def lp_ZY_cutTile_33 (yk : Int32) (pw : Int32) (ph : Int32) (pn : Nat) (pf : Nat → Int32) (tw : Int32) (th : Int32) (tf : Nat → Int32) (a1 : Int32) (a2 : Int32) (a3 : Int32) (r_1 : Int32) (r_2 : Int32) (tw_3 : Int32) (th_4 : Int32) (x5_20 : Int32) (f_20_ota : Nat → Int32) (post : Int32 → Int32 → (Nat → Int32) → Prop) (K33 : Int32 → (Nat → Int32) → Prop) (n : Nat) : Int32 → (Nat → Int32) → Prop := Nat.rec (motive := fun _ => Int32 → (Nat → Int32) → Prop) (fun (x6_33 : Int32) (f_33_ota : Nat → Int32) => False) (fun _ ih33 (x6_33 : Int32) (f_33_ota : Nat → Int32) => ((tw_3 ≤ x6_33 → (K33 x6_33 f_33_ota)) ∧ (¬ tw_3 ≤ x6_33 → (wp_ZY_roundedMean yk pw ph pn pf a1 (((8 : Int32) * a2) + x6_33) (((8 : Int32) * a3) + x5_20) (fun r_7 : Int32 => wp_ZT_setSample tw_3 th_4 f_33_ota x6_33 x5_20 r_7 (fun (tf_8 : Nat → Int32) => ih33 (x6_33 + (1 : Int32)) tf_8)))))) n
def lp_ZY_cutTile_20 (yk : Int32) (pw : Int32) (ph : Int32) (pn : Nat) (pf : Nat → Int32) (tw : Int32) (th : Int32) (tf : Nat → Int32) (a1 : Int32) (a2 : Int32) (a3 : Int32) (r_1 : Int32) (r_2 : Int32) (tw_3 : Int32) (th_4 : Int32) (post : Int32 → Int32 → (Nat → Int32) → Prop) (K20 : Int32 → (Nat → Int32) → Prop) (n : Nat) : Int32 → (Nat → Int32) → Prop := Nat.rec (motive := fun _ => Int32 → (Nat → Int32) → Prop) (fun (x5_20 : Int32) (f_20_ota : Nat → Int32) => False) (fun _ ih20 (x5_20 : Int32) (f_20_ota : Nat → Int32) => ((th_4 ≤ x5_20 → (K20 x5_20 f_20_ota)) ∧ (¬ th_4 ≤ x5_20 → (∃ n : Nat, lp_ZY_cutTile_33 yk pw ph pn pf tw th tf a1 a2 a3 r_1 r_2 tw_3 th_4 x5_20 f_20_ota post (fun (x6_33e : Int32) (f_33e_ota : Nat → Int32) => ih20 (x5_20 + (1 : Int32)) f_33e_ota) n (0 : Int32) f_20_ota)))) n
def wp_ZY_cutTile (yk : Int32) (pw : Int32) (ph : Int32) (pn : Nat) (pf : Nat → Int32) (tw : Int32) (th : Int32) (tf : Nat → Int32) (a1 : Int32) (a2 : Int32) (a3 : Int32) (post : Int32 → Int32 → (Nat → Int32) → Prop) : Prop := wp_ZY_tileColumns yk pw ph pn pf a1 a2 (fun r_1 : Int32 => wp_ZY_tileRows yk pw ph pn pf a1 a3 (fun r_2 : Int32 => wp_ZT_setSize tw th tf r_1 r_2 (fun (tw_3 : Int32) (th_4 : Int32) => ∃ n : Nat, lp_ZY_cutTile_20 yk pw ph pn pf tw th tf a1 a2 a3 r_1 r_2 tw_3 th_4 post (fun (x5_20e : Int32) (f_20e_ota : Nat → Int32) => post tw_3 th_4 f_20e_ota) n (0 : Int32) tf)))
abbrev rm_ZY_cutTile : Room := { frames := 4, cells := 0, slots := 0, locals := 96 }
set_option maxHeartbeats 4000000 in
set_option maxRecDepth 100000 in
theorem kt_ZY_cutTile (l : Launch) (dC : Nat → ClassId) (dI : Nat → Nat → Nat) (cI : ClassId) (oy op opa ot ota : Nat) (sz : Nat) (yk : Int32) (pw : Int32) (ph : Int32) (pn : Nat) (pf : Nat → Int32) (tw : Int32) (th : Int32) (tf : Nat → Int32) (a1 : Int32) (a2 : Int32) (a3 : Int32) (post : Int32 → Int32 → (Nat → Int32) → Prop) (hw : wp_ZY_cutTile yk pw ph pn pf tw th tf a1 a2 a3 post) : Met l yZY_cutTile wsZY_cutTile rm_ZY_cutTile (gw_Pc dC dI [(cI, .int)] [.ref oy, .int a1, .int a2, .int a3, .ref ot] [(oy, .inr (2, [.ref op, .int yk])), (op, .inr (1, [.int pw, .int ph, .ref opa])), (opa, .inl (cI, pn, .inl pf)), (ot, .inr (4, [.ref ota, .int tw, .int th])), (ota, .inl (cI, 64, .inl tf))] sz) (va_Qv (fun (u : Int32 × Int32 × (Nat → Int32)) => post u.1 u.2.1 u.2.2) (fun u t => gw_B dC dI [(cI, .int)] (va_A [(oy, .inr (2, [.ref op, .int yk])), (op, .inr (1, [.int pw, .int ph, .ref opa])), (opa, .inl (cI, pn, .inl pf)), (ot, .inr (4, [.ref ota, .int tw, .int th])), (ota, .inl (cI, 64, .inl tf))] sz) [(oy, .inr (2, [.ref op, .int yk])), (op, .inr (1, [.int pw, .int ph, .ref opa])), (opa, .inl (cI, pn, .inl pf)), (ot, .inr (4, [.ref ota, .int u.1, .int u.2.1])), (ota, .inl (cI, 64, .inl u.2.2))] t) (va_A [(oy, .inr (2, [.ref op, .int yk])), (op, .inr (1, [.int pw, .int ph, .ref opa])), (opa, .inl (cI, pn, .inl pf)), (ot, .inr (4, [.ref ota, .int tw, .int th])), (ota, .inl (cI, 64, .inl tf))] sz)) 0 0 (va_A [(oy, .inr (2, [.ref op, .int yk])), (op, .inr (1, [.int pw, .int ph, .ref opa])), (opa, .inl (cI, pn, .inl pf)), (ot, .inr (4, [.ref ota, .int tw, .int th])), (ota, .inl (cI, 64, .inl tf))] sz) := by
  refine Met.ofW (cc := cZY_cutTile) (maxL := 7) (ret := none) (by decide) rfl ?_
  intro p e s m args below meth c s₁ B hml hv
  obtain ⟨ha9, hsz, hP, hK, hE, hD0⟩ := hv
  have hx := B.exec
  have hb := B.bytes
  have hr := B.returns
  have hts0 := atoms_spec (ws := wsZY_cutTile) B.pre
  have hts : ∀ w ∈ tbg, w.before args s = true := fun w h => hts0 w (List.mem_cons_of_mem _ h)
  have hown : s.vm.findClass RZY = some m.cls := findClass_of_methodNamed B.named
  have hlocks := B.notSynchronized
  subst hsz
  have hD := hD0.self (sz := s.heap.size)
  refine gx_Q (fun Q9 hQ9 => ?_)
  generalize hAe : va_A [(oy, .inr (2, [.ref op, .int yk])), (op, .inr (1, [.int pw, .int ph, .ref opa])), (opa, .inl (cI, pn, .inl pf)), (ot, .inr (4, [.ref ota, .int tw, .int th])), (ota, .inl (cI, 64, .inl tf))] s.heap.size = A at hD hQ9 ⊢
  have hA : ∀ q : Nat, s.heap.size ≤ q → A q := fun q h => by rw [← hAe]; exact Or.inr h
  have hS : va_S A s.heap s.heap [] := va_S.rf
  have hl := lv_entry ([.ref oy, .int a1, .int a2, .int a3, .ref ot]) (n := 7) (Nat.le_of_ble_eq_true rfl)
  have he9 : entryFrame m args 7 = F0 m 0 ((lg_sl [.ref oy, .int a1, .int a2, .int a3, .ref ot] ++ List.replicate (7 - (lg_sl ([.ref oy, .int a1, .int a2, .int a3, .ref ot] : List Value)).length) Slot.unset).toArray) [] := by rw [ha9]; exact lg_entry_eq m [.ref oy, .int a1, .int a2, .int a3, .ref ot] 7
  rw [he9]
  generalize (lg_sl ([.ref oy, .int a1, .int a2, .int a3, .ref ot] : List Value) ++ List.replicate (7 - (lg_sl ([.ref oy, .int a1, .int a2, .int a3, .ref ot] : List Value)).length) Slot.unset).toArray = ls at hl ⊢
  have hl : lv_has ls 7 [(0, .ref oy), (1, .int a1), (2, .int a2), (3, .int a3), (4, .ref ot)] := hl
  refine lv_aload hx hb dZY_cutTile_0 (lv_at hl 4 rfl) ?_
  refine lv_aload_n hx hb dZY_cutTile_2 rfl (lv_at hl 0 rfl) ?_
  refine lv_iload_n hx hb dZY_cutTile_3 rfl (lv_at hl 1 rfl) ?_
  refine lv_iload_n hx hb dZY_cutTile_4 rfl (lv_at hl 2 rfl) ?_
  have hPc := hP.sub (ws' := [(oy, .inr (2, [.ref op, .int yk])), (op, .inr (1, [.int pw, .int ph, .ref opa])), (opa, .inl (cI, pn, .inl pf))]) [0, 1, 2] rfl
  refine vp_callSi (va_runV (As := [.int a1, .int a2]) (rest := [.ref ot]) ⟨hx, hb, hml, hown, hts⟩ (kt_ZY_tileColumns l dC dI cI oy op opa yk pw ph pn pf a1 a2 _ hw) (cwV 2 hts (tb_V mm_467 mm_468 mm_469 mm_4 mm_470) rfl rfl rfl (by decide +kernel) ⟨Nat.le_of_ble_eq_true rfl, Nat.le_of_ble_eq_true rfl⟩) ⟨gr_blind, va_recv hK hPc (ci := 2) (q0 := 0) rfl rfl, fun U hU hW => gr_pre hPc hK hE hU hW⟩ rfl rfl hl.1 rfl (lv_room (Nat.le_of_ble_eq_true rfl)) dZY_cutTile_5 ⟨Nat.le_of_ble_eq_true rfl, Nat.le_of_ble_eq_true rfl⟩).run (fun r_1 hw => ?_)
  refine lv_aload_n hx hb dZY_cutTile_8 rfl (lv_at hl 0 rfl) ?_
  refine lv_iload_n hx hb dZY_cutTile_9 rfl (lv_at hl 1 rfl) ?_
  refine lv_iload_n hx hb dZY_cutTile_10 rfl (lv_at hl 3 rfl) ?_
  have hPc := hP.sub (ws' := [(oy, .inr (2, [.ref op, .int yk])), (op, .inr (1, [.int pw, .int ph, .ref opa])), (opa, .inl (cI, pn, .inl pf))]) [0, 1, 2] rfl
  refine vp_callSi (va_runV (As := [.int a1, .int a3]) (rest := [.int r_1, .ref ot]) ⟨hx, hb, hml, hown, hts⟩ (kt_ZY_tileRows l dC dI cI oy op opa yk pw ph pn pf a1 a3 _ hw) (cwV 2 hts (tb_V mm_471 mm_472 mm_473 mm_4 mm_474) rfl rfl rfl (by decide +kernel) ⟨Nat.le_of_ble_eq_true rfl, Nat.le_of_ble_eq_true rfl⟩) ⟨gr_blind, va_recv hK hPc (ci := 2) (q0 := 0) rfl rfl, fun U hU hW => gr_pre hPc hK hE hU hW⟩ rfl rfl hl.1 rfl (lv_room (Nat.le_of_ble_eq_true rfl)) dZY_cutTile_11 ⟨Nat.le_of_ble_eq_true rfl, Nat.le_of_ble_eq_true rfl⟩).run (fun r_2 hw => ?_)
  have hPc := hP.sub (ws' := [(ot, .inr (4, [.ref ota, .int tw, .int th])), (ota, .inl (cI, 64, .inl tf))]) [3, 4] rfl
  have hDc := hD.sub (ws' := [(ot, .inr (4, [.ref ota, .int tw, .int th])), (ota, .inl (cI, 64, .inl tf))]) [3, 4] (by decide) rfl
  have hFc := va_free (wc := [(ot, .inr (4, [.ref ota, .int tw, .int th])), (ota, .inl (cI, 64, .inl tf))]) hD hS hA [3, 4] rfl
  refine va_callv (va_runV (As := [.int r_1, .int r_2]) (rest := []) ⟨hx, hb, hml, hown, hts⟩ (kt_ZT_setSize l dC dI cI ot ota _ tw th tf r_1 r_2 _ hw) (cwV 2 hts (tb_V mm_475 mm_185 mm_186 mm_7 mm_187) rfl rfl rfl (by decide +kernel) ⟨Nat.le_of_ble_eq_true rfl, Nat.le_of_ble_eq_true rfl⟩) ⟨gw_blind, va_recv hK hPc (ci := 4) (q0 := 0) rfl rfl, fun U hU hW => gw_pre hPc hDc hK hE hU hW⟩ rfl rfl hl.1 rfl (lv_room (Nat.le_of_ble_eq_true rfl)) dZY_cutTile_14 ⟨Nat.le_of_ble_eq_true rfl, Nat.le_of_ble_eq_true rfl⟩) hS (fun q _ h => hFc q h) hFc (fun u t H1 locs ht hvm hw hB hz1 hk1 hS => ?_)
  obtain ⟨tw_3, th_4⟩ := u
  obtain ⟨hP1, hK1, hD1⟩ := hB
  rw [ht] at hP1
  try dsimp only at hw
  obtain ⟨hP, hD⟩ := va_join (wr := [(oy, .inr (2, [.ref op, .int yk])), (op, .inr (1, [.int pw, .int ph, .ref opa])), (opa, .inl (cI, pn, .inl pf))]) (w1 := [(ot, .inr (4, [.ref ota, .int tw_3, .int th_4])), (ota, .inl (cI, 64, .inl tf))]) hP hD [3, 4] [0, 1, 2] rfl rfl (by decide) (by decide) hk1 hFc hP1 hD1
  generalize H1 = H at hP hS ⊢
  have hP : va_P (dC, dI) vwCl [(oy, .inr (2, [.ref op, .int yk])), (op, .inr (1, [.int pw, .int ph, .ref opa])), (opa, .inl (cI, pn, .inl pf)), (ot, .inr (4, [.ref ota, .int tw_3, .int th_4])), (ota, .inl (cI, 64, .inl tf))] H := hP
  have hD : va_D A [(oy, .inr (2, [.ref op, .int yk])), (op, .inr (1, [.int pw, .int ph, .ref opa])), (opa, .inl (cI, pn, .inl pf)), (ot, .inr (4, [.ref ota, .int tw_3, .int th_4])), (ota, .inl (cI, 64, .inl tf))] := hD
  refine lv_iconst (v := (0 : Int32)) hx hb dZY_cutTile_17 (by decide) ?_
  refine lv_istore (lv' := [(5, .int (0 : Int32)), (0, .ref oy), (1, .int a1), (2, .int a2), (3, .int a3), (4, .ref ot)]) hx hb dZY_cutTile_18 hl (by decide) rfl (fun ls hl => ?_)
  have lp20 : ∀ K20 : Int32 → (Nat → Int32) → Prop, (∀ (x5_20 : Int32) (f_20_ota : Nat → Int32), K20 x5_20 f_20_ota → ∀ (H : Heap) (locs : List Loc), va_P (dC, dI) vwCl [(oy, .inr (2, [.ref op, .int yk])), (op, .inr (1, [.int pw, .int ph, .ref opa])), (opa, .inl (cI, pn, .inl pf)), (ot, .inr (4, [.ref ota, .int tw_3, .int th_4])), (ota, .inl (cI, 64, .inl f_20_ota))] H → va_D A [(oy, .inr (2, [.ref op, .int yk])), (op, .inr (1, [.int pw, .int ph, .ref opa])), (opa, .inl (cI, pn, .inl pf)), (ot, .inr (4, [.ref ota, .int tw_3, .int th_4])), (ota, .inl (cI, 64, .inl f_20_ota))] → va_S A s.heap H locs → ∀ ls : Array Slot, lv_has ls 7 [(5, .int x5_20), (0, .ref oy), (1, .int a1), (2, .int a2), (3, .int a3), (4, .ref ot)] → W p l e (headSpec wsZY_cutTile rm_ZY_cutTile).room s m args below meth c H locs 0 0 Q9 (F0 m 83 ls [])) → ∀ (n : Nat) (x5_20 : Int32) (f_20_ota : Nat → Int32), lp_ZY_cutTile_20 yk pw ph pn pf tw th tf a1 a2 a3 r_1 r_2 tw_3 th_4 post K20 n x5_20 f_20_ota → ∀ (H : Heap) (locs : List Loc), va_P (dC, dI) vwCl [(oy, .inr (2, [.ref op, .int yk])), (op, .inr (1, [.int pw, .int ph, .ref opa])), (opa, .inl (cI, pn, .inl pf)), (ot, .inr (4, [.ref ota, .int tw_3, .int th_4])), (ota, .inl (cI, 64, .inl f_20_ota))] H → va_D A [(oy, .inr (2, [.ref op, .int yk])), (op, .inr (1, [.int pw, .int ph, .ref opa])), (opa, .inl (cI, pn, .inl pf)), (ot, .inr (4, [.ref ota, .int tw_3, .int th_4])), (ota, .inl (cI, 64, .inl f_20_ota))] → va_S A s.heap H locs → ∀ ls : Array Slot, lv_has ls 7 [(5, .int x5_20), (0, .ref oy), (1, .int a1), (2, .int a2), (3, .int a3), (4, .ref ot)] → W p l e (headSpec wsZY_cutTile rm_ZY_cutTile).room s m args below meth c H locs 0 0 Q9 (F0 m 20 ls []) := by
    intro K20 aft20 n
    induction n with
    | zero => intro x5_20 f_20_ota hw; exact False.elim hw
    | succ n ih20 =>
      intro x5_20 f_20_ota hw H locs hP hD hS ls hl
      refine lv_iload hx hb dZY_cutTile_20 (lv_at hl 0 rfl) ?_
      refine lv_aload hx hb dZY_cutTile_22 (lv_at hl 5 rfl) ?_
      refine va_get (D := (dC, dI)) (ci := 4) (v := .int th_4) (C := RZT) (T := TZT) (N := 3) hx hb hts inZT hown hK hP 3 rfl rfl 2 (by decide) (hts _ mm_127) (fun _ h9 => h9) rfl dZY_cutTile_24 ?_
      refine lv_icmp_ge (tgt := 83) hx hb dZY_cutTile_27 (by decide) (fun c_5 => ?_) (fun c_5 => ?_)
      · have hw := hw.1 c_5
        exact aft20 x5_20 f_20_ota hw _ _ (hP.sub [0, 1, 2, 3, 4] rfl) (hD.sub [0, 1, 2, 3, 4] (by decide) rfl) hS ls (lv_sub hl [0, 1, 2, 3, 4, 5] rfl)
      · have hw := hw.2 c_5
        refine lv_iconst (v := (0 : Int32)) hx hb dZY_cutTile_30 (by decide) ?_
        refine lv_istore (lv' := [(6, .int (0 : Int32)), (5, .int x5_20), (0, .ref oy), (1, .int a1), (2, .int a2), (3, .int a3), (4, .ref ot)]) hx hb dZY_cutTile_31 hl (by decide) rfl (fun ls hl => ?_)
        have lp33 : ∀ K33 : Int32 → (Nat → Int32) → Prop, (∀ (x6_33 : Int32) (f_33_ota : Nat → Int32), K33 x6_33 f_33_ota → ∀ (H : Heap) (locs : List Loc), va_P (dC, dI) vwCl [(oy, .inr (2, [.ref op, .int yk])), (op, .inr (1, [.int pw, .int ph, .ref opa])), (opa, .inl (cI, pn, .inl pf)), (ot, .inr (4, [.ref ota, .int tw_3, .int th_4])), (ota, .inl (cI, 64, .inl f_33_ota))] H → va_D A [(oy, .inr (2, [.ref op, .int yk])), (op, .inr (1, [.int pw, .int ph, .ref opa])), (opa, .inl (cI, pn, .inl pf)), (ot, .inr (4, [.ref ota, .int tw_3, .int th_4])), (ota, .inl (cI, 64, .inl f_33_ota))] → va_S A s.heap H locs → ∀ ls : Array Slot, lv_has ls 7 [(6, .int x6_33), (5, .int x5_20), (0, .ref oy), (1, .int a1), (2, .int a2), (3, .int a3), (4, .ref ot)] → W p l e (headSpec wsZY_cutTile rm_ZY_cutTile).room s m args below meth c H locs 0 0 Q9 (F0 m 77 ls [])) → ∀ (n : Nat) (x6_33 : Int32) (f_33_ota : Nat → Int32), lp_ZY_cutTile_33 yk pw ph pn pf tw th tf a1 a2 a3 r_1 r_2 tw_3 th_4 x5_20 f_20_ota post K33 n x6_33 f_33_ota → ∀ (H : Heap) (locs : List Loc), va_P (dC, dI) vwCl [(oy, .inr (2, [.ref op, .int yk])), (op, .inr (1, [.int pw, .int ph, .ref opa])), (opa, .inl (cI, pn, .inl pf)), (ot, .inr (4, [.ref ota, .int tw_3, .int th_4])), (ota, .inl (cI, 64, .inl f_33_ota))] H → va_D A [(oy, .inr (2, [.ref op, .int yk])), (op, .inr (1, [.int pw, .int ph, .ref opa])), (opa, .inl (cI, pn, .inl pf)), (ot, .inr (4, [.ref ota, .int tw_3, .int th_4])), (ota, .inl (cI, 64, .inl f_33_ota))] → va_S A s.heap H locs → ∀ ls : Array Slot, lv_has ls 7 [(6, .int x6_33), (5, .int x5_20), (0, .ref oy), (1, .int a1), (2, .int a2), (3, .int a3), (4, .ref ot)] → W p l e (headSpec wsZY_cutTile rm_ZY_cutTile).room s m args below meth c H locs 0 0 Q9 (F0 m 33 ls []) := by
          intro K33 aft33 n
          induction n with
          | zero => intro x6_33 f_33_ota hw; exact False.elim hw
          | succ n ih33 =>
            intro x6_33 f_33_ota hw H locs hP hD hS ls hl
            refine lv_iload hx hb dZY_cutTile_33 (lv_at hl 0 rfl) ?_
            refine lv_aload hx hb dZY_cutTile_35 (lv_at hl 6 rfl) ?_
            refine va_get (D := (dC, dI)) (ci := 4) (v := .int tw_3) (C := RZT) (T := TZT) (N := 3) hx hb hts inZT hown hK hP 3 rfl rfl 1 (by decide) (hts _ mm_122) (fun _ h9 => h9) rfl dZY_cutTile_37 ?_
            refine lv_icmp_ge (tgt := 77) hx hb dZY_cutTile_40 (by decide) (fun c_6 => ?_) (fun c_6 => ?_)
            · have hw := hw.1 c_6
              exact aft33 x6_33 f_33_ota hw _ _ (hP.sub [0, 1, 2, 3, 4] rfl) (hD.sub [0, 1, 2, 3, 4] (by decide) rfl) hS ls (lv_sub hl [0, 1, 2, 3, 4, 5, 6] rfl)
            · have hw := hw.2 c_6
              refine lv_aload hx hb dZY_cutTile_43 (lv_at hl 6 rfl) ?_
              refine lv_iload hx hb dZY_cutTile_45 (lv_at hl 0 rfl) ?_
              refine lv_iload hx hb dZY_cutTile_47 (lv_at hl 1 rfl) ?_
              refine lv_aload_n hx hb dZY_cutTile_49 rfl (lv_at hl 2 rfl) ?_
              refine lv_iload_n hx hb dZY_cutTile_50 rfl (lv_at hl 3 rfl) ?_
              refine lv_bipush (v := (8 : Int32)) hx hb dZY_cutTile_51 (by decide) ?_
              refine lv_iload_n hx hb dZY_cutTile_53 rfl (lv_at hl 4 rfl) ?_
              refine lv_imul hx hb dZY_cutTile_54 ?_
              refine lv_iload hx hb dZY_cutTile_55 (lv_at hl 0 rfl) ?_
              refine lv_iadd hx hb dZY_cutTile_57 ?_
              refine lv_bipush (v := (8 : Int32)) hx hb dZY_cutTile_58 (by decide) ?_
              refine lv_iload_n hx hb dZY_cutTile_60 rfl (lv_at hl 5 rfl) ?_
              refine lv_imul hx hb dZY_cutTile_61 ?_
              refine lv_iload hx hb dZY_cutTile_62 (lv_at hl 1 rfl) ?_
              refine lv_iadd hx hb dZY_cutTile_64 ?_
              have hPc := hP.sub (ws' := [(oy, .inr (2, [.ref op, .int yk])), (op, .inr (1, [.int pw, .int ph, .ref opa])), (opa, .inl (cI, pn, .inl pf))]) [0, 1, 2] rfl
              refine vp_callSi (va_runV (As := [.int a1, .int (((8 : Int32) * a2) + x6_33), .int (((8 : Int32) * a3) + x5_20)]) (rest := [.int x5_20, .int x6_33, .ref ot]) ⟨hx, hb, hml, hown, hts⟩ (kt_ZY_roundedMean l dC dI cI oy op opa yk pw ph pn pf a1 (((8 : Int32) * a2) + x6_33) (((8 : Int32) * a3) + x5_20) _ hw) (cwV 3 hts (tb_V mm_476 mm_400 mm_401 mm_4 mm_402) rfl rfl rfl (by decide +kernel) ⟨Nat.le_of_ble_eq_true rfl, Nat.le_of_ble_eq_true rfl⟩) ⟨gr_blind, va_recv hK hPc (ci := 2) (q0 := 0) rfl rfl, fun U hU hW => gr_pre hPc hK hE hU hW⟩ rfl rfl hl.1 rfl (lv_room (Nat.le_of_ble_eq_true rfl)) dZY_cutTile_65 ⟨Nat.le_of_ble_eq_true rfl, Nat.le_of_ble_eq_true rfl⟩).run (fun r_7 hw => ?_)
              have hPc := hP.sub (ws' := [(ot, .inr (4, [.ref ota, .int tw_3, .int th_4])), (ota, .inl (cI, 64, .inl f_33_ota))]) [3, 4] rfl
              have hDc := hD.sub (ws' := [(ot, .inr (4, [.ref ota, .int tw_3, .int th_4])), (ota, .inl (cI, 64, .inl f_33_ota))]) [3, 4] (by decide) rfl
              have hFc := va_free (wc := [(ot, .inr (4, [.ref ota, .int tw_3, .int th_4])), (ota, .inl (cI, 64, .inl f_33_ota))]) hD hS hA [3, 4] rfl
              refine va_callv (va_runV (As := [.int x6_33, .int x5_20, .int r_7]) (rest := []) ⟨hx, hb, hml, hown, hts⟩ (kt_ZT_setSample l dC dI cI ot ota _ tw_3 th_4 f_33_ota x6_33 x5_20 r_7 _ hw) (cwV 3 hts (tb_V mm_477 mm_210 mm_211 mm_7 mm_212) rfl rfl rfl (by decide +kernel) ⟨Nat.le_of_ble_eq_true rfl, Nat.le_of_ble_eq_true rfl⟩) ⟨gw_blind, va_recv hK hPc (ci := 4) (q0 := 0) rfl rfl, fun U hU hW => gw_pre hPc hDc hK hE hU hW⟩ rfl rfl hl.1 rfl (lv_room (Nat.le_of_ble_eq_true rfl)) dZY_cutTile_68 ⟨Nat.le_of_ble_eq_true rfl, Nat.le_of_ble_eq_true rfl⟩) hS (fun q _ h => hFc q h) hFc (fun tf_8 t H1 locs ht hvm hw hB hz1 hk1 hS => ?_)
              obtain ⟨hP1, hK1, hD1⟩ := hB
              rw [ht] at hP1
              try dsimp only at hw
              obtain ⟨hP, hD⟩ := va_join (wr := [(oy, .inr (2, [.ref op, .int yk])), (op, .inr (1, [.int pw, .int ph, .ref opa])), (opa, .inl (cI, pn, .inl pf))]) (w1 := [(ot, .inr (4, [.ref ota, .int tw_3, .int th_4])), (ota, .inl (cI, 64, .inl tf_8))]) hP hD [3, 4] [0, 1, 2] rfl rfl (by decide) (by decide) hk1 hFc hP1 hD1
              generalize H1 = H at hP hS ⊢
              have hP : va_P (dC, dI) vwCl [(oy, .inr (2, [.ref op, .int yk])), (op, .inr (1, [.int pw, .int ph, .ref opa])), (opa, .inl (cI, pn, .inl pf)), (ot, .inr (4, [.ref ota, .int tw_3, .int th_4])), (ota, .inl (cI, 64, .inl tf_8))] H := hP
              have hD : va_D A [(oy, .inr (2, [.ref op, .int yk])), (op, .inr (1, [.int pw, .int ph, .ref opa])), (opa, .inl (cI, pn, .inl pf)), (ot, .inr (4, [.ref ota, .int tw_3, .int th_4])), (ota, .inl (cI, 64, .inl tf_8))] := hD
              refine lv_iinc (v := x6_33 + (1 : Int32)) (lv' := [(6, .int (x6_33 + (1 : Int32))), (5, .int x5_20), (0, .ref oy), (1, .int a1), (2, .int a2), (3, .int a3), (4, .ref ot)]) hx hb dZY_cutTile_71 hl (k := 0) rfl rfl (by decide) rfl (fun ls hl => ?_)
              refine lv_goto (tgt := 33) hx hb dZY_cutTile_74 (by decide) ?_
              exact ih33 (x6_33 + (1 : Int32)) tf_8 hw _ _ (hP.sub [0, 1, 2, 3, 4] rfl) (hD.sub [0, 1, 2, 3, 4] (by decide) rfl) hS ls (lv_sub hl [0, 1, 2, 3, 4, 5, 6] rfl)
        obtain ⟨n33, hw⟩ := hw
        refine lp33 _ (fun x6_33e f_33e_ota hw H locs hP hD hS ls hl => ?_) n33 (0 : Int32) f_20_ota hw _ _ (hP.sub [0, 1, 2, 3, 4] rfl) (hD.sub [0, 1, 2, 3, 4] (by decide) rfl) hS ls (lv_sub hl [0, 1, 2, 3, 4, 5, 6] rfl)
        refine lv_iinc (v := x5_20 + (1 : Int32)) (lv' := [(5, .int (x5_20 + (1 : Int32))), (6, .int x6_33e), (0, .ref oy), (1, .int a1), (2, .int a2), (3, .int a3), (4, .ref ot)]) hx hb dZY_cutTile_77 hl (k := 1) rfl rfl (by decide) rfl (fun ls hl => ?_)
        refine lv_goto (tgt := 20) hx hb dZY_cutTile_80 (by decide) ?_
        exact ih20 (x5_20 + (1 : Int32)) f_33e_ota hw _ _ (hP.sub [0, 1, 2, 3, 4] rfl) (hD.sub [0, 1, 2, 3, 4] (by decide) rfl) hS ls (lv_sub hl [0, 2, 3, 4, 5, 6] rfl)
  obtain ⟨n20, hw⟩ := hw
  refine lp20 _ (fun x5_20e f_20e_ota hw H locs hP hD hS ls hl => ?_) n20 (0 : Int32) tf hw _ _ (hP.sub [0, 1, 2, 3, 4] rfl) (hD.sub [0, 1, 2, 3, 4] (by decide) rfl) hS ls (lv_sub hl [0, 1, 2, 3, 4, 5] rfl)
  have hP9 := hP.sub (ws' := [(oy, .inr (2, [.ref op, .int yk])), (op, .inr (1, [.int pw, .int ph, .ref opa])), (opa, .inl (cI, pn, .inl pf)), (ot, .inr (4, [.ref ota, .int tw_3, .int th_4])), (ota, .inl (cI, 64, .inl f_20e_ota))]) [0, 1, 2, 3, 4] rfl
  have hD9 := hD.sub (ws' := [(oy, .inr (2, [.ref op, .int yk])), (op, .inr (1, [.int pw, .int ph, .ref opa])), (opa, .inl (cI, pn, .inl pf)), (ot, .inr (4, [.ref ota, .int tw_3, .int th_4])), (ota, .inl (cI, 64, .inl f_20e_ota))]) [0, 1, 2, 3, 4] (by decide) rfl
  subst hQ9
  exact W.vret hx hb hr (fun t ht hW => ⟨⟨(tw_3, th_4, f_20e_ota), rfl, hw, by rw [ht]; exact hP9, va_K.moved hW.alike hK, hD9⟩, hS.F ht⟩) hS.2.2 dZY_cutTile_83
theorem dZY_layTile_0 : decode cZY_layTile 0 = .ok (.iconst 0, 1) := by decide +kernel
theorem dZY_layTile_1 : decode cZY_layTile 1 = .ok (.istore 4, 2) := by decide +kernel
theorem dZY_layTile_3 : decode cZY_layTile 3 = .ok (.iload 4, 2) := by decide +kernel
theorem dZY_layTile_5 : decode cZY_layTile 5 = .ok (.aload_n 3, 1) := by decide +kernel
theorem dZY_layTile_6 : decode cZY_layTile 6 = .ok (.getfield 90, 3) := by decide +kernel
theorem dZY_layTile_9 : decode cZY_layTile 9 = .ok (.if_icmp .ge 56, 3) := by decide +kernel
theorem dZY_layTile_12 : decode cZY_layTile 12 = .ok (.iconst 0, 1) := by decide +kernel
theorem dZY_layTile_13 : decode cZY_layTile 13 = .ok (.istore 5, 2) := by decide +kernel
theorem dZY_layTile_15 : decode cZY_layTile 15 = .ok (.iload 5, 2) := by decide +kernel
theorem dZY_layTile_17 : decode cZY_layTile 17 = .ok (.aload_n 3, 1) := by decide +kernel
theorem dZY_layTile_18 : decode cZY_layTile 18 = .ok (.getfield 91, 3) := by decide +kernel
theorem dZY_layTile_21 : decode cZY_layTile 21 = .ok (.if_icmp .ge 38, 3) := by decide +kernel
theorem dZY_layTile_24 : decode cZY_layTile 24 = .ok (.aload_n 0, 1) := by decide +kernel
theorem dZY_layTile_25 : decode cZY_layTile 25 = .ok (.getfield 9, 3) := by decide +kernel
theorem dZY_layTile_28 : decode cZY_layTile 28 = .ok (.bipush 8, 2) := by decide +kernel
theorem dZY_layTile_30 : decode cZY_layTile 30 = .ok (.iload_n 1, 1) := by decide +kernel
theorem dZY_layTile_31 : decode cZY_layTile 31 = .ok (.imul, 1) := by decide +kernel
theorem dZY_layTile_32 : decode cZY_layTile 32 = .ok (.iload 5, 2) := by decide +kernel
theorem dZY_layTile_34 : decode cZY_layTile 34 = .ok (.iadd, 1) := by decide +kernel
theorem dZY_layTile_35 : decode cZY_layTile 35 = .ok (.bipush 8, 2) := by decide +kernel
theorem dZY_layTile_37 : decode cZY_layTile 37 = .ok (.iload_n 2, 1) := by decide +kernel
theorem dZY_layTile_38 : decode cZY_layTile 38 = .ok (.imul, 1) := by decide +kernel
theorem dZY_layTile_39 : decode cZY_layTile 39 = .ok (.iload 4, 2) := by decide +kernel
theorem dZY_layTile_41 : decode cZY_layTile 41 = .ok (.iadd, 1) := by decide +kernel
theorem dZY_layTile_42 : decode cZY_layTile 42 = .ok (.aload_n 3, 1) := by decide +kernel
theorem dZY_layTile_43 : decode cZY_layTile 43 = .ok (.iload 5, 2) := by decide +kernel
theorem dZY_layTile_45 : decode cZY_layTile 45 = .ok (.iload 4, 2) := by decide +kernel
theorem dZY_layTile_47 : decode cZY_layTile 47 = .ok (.invokevirtual 99, 3) := by decide +kernel
theorem dZY_layTile_50 : decode cZY_layTile 50 = .ok (.invokevirtual 102, 3) := by decide +kernel
theorem dZY_layTile_53 : decode cZY_layTile 53 = .ok (.iinc 5 1, 3) := by decide +kernel
theorem dZY_layTile_56 : decode cZY_layTile 56 = .ok (.goto (-41), 3) := by decide +kernel
theorem dZY_layTile_59 : decode cZY_layTile 59 = .ok (.iinc 4 1, 3) := by decide +kernel
theorem dZY_layTile_62 : decode cZY_layTile 62 = .ok (.goto (-59), 3) := by decide +kernel
theorem dZY_layTile_65 : decode cZY_layTile 65 = .ok (.return_, 1) := by decide +kernel
abbrev wsZY_layTile : List Cond := .code yZY_layTile cZY_layTile 6 none :: tbg
def lp_ZY_layTile_15 (yk : Int32) (pw : Int32) (ph : Int32) (pn : Nat) (pf : Nat → Int32) (tw : Int32) (th : Int32) (tf : Nat → Int32) (a1 : Int32) (a2 : Int32) (x4_3 : Int32) (f_3_opa : Nat → Int32) (post : (Nat → Int32) → Prop) (K15 : Int32 → (Nat → Int32) → Prop) (n : Nat) : Int32 → (Nat → Int32) → Prop := Nat.rec (motive := fun _ => Int32 → (Nat → Int32) → Prop) (fun (x5_15 : Int32) (f_15_opa : Nat → Int32) => False) (fun _ ih15 (x5_15 : Int32) (f_15_opa : Nat → Int32) => ((tw ≤ x5_15 → (K15 x5_15 f_15_opa)) ∧ (¬ tw ≤ x5_15 → (wp_ZT_sampleAt tw th tf x5_15 x4_3 (fun r_3 : Int32 => wp_ZP_setSample pw ph pn f_15_opa (((8 : Int32) * a1) + x5_15) (((8 : Int32) * a2) + x4_3) r_3 (fun (pf_4 : Nat → Int32) => ih15 (x5_15 + (1 : Int32)) pf_4)))))) n
def lp_ZY_layTile_3 (yk : Int32) (pw : Int32) (ph : Int32) (pn : Nat) (pf : Nat → Int32) (tw : Int32) (th : Int32) (tf : Nat → Int32) (a1 : Int32) (a2 : Int32) (post : (Nat → Int32) → Prop) (K3 : Int32 → (Nat → Int32) → Prop) (n : Nat) : Int32 → (Nat → Int32) → Prop := Nat.rec (motive := fun _ => Int32 → (Nat → Int32) → Prop) (fun (x4_3 : Int32) (f_3_opa : Nat → Int32) => False) (fun _ ih3 (x4_3 : Int32) (f_3_opa : Nat → Int32) => ((th ≤ x4_3 → (K3 x4_3 f_3_opa)) ∧ (¬ th ≤ x4_3 → (∃ n : Nat, lp_ZY_layTile_15 yk pw ph pn pf tw th tf a1 a2 x4_3 f_3_opa post (fun (x5_15e : Int32) (f_15e_opa : Nat → Int32) => ih3 (x4_3 + (1 : Int32)) f_15e_opa) n (0 : Int32) f_3_opa)))) n
def wp_ZY_layTile (yk : Int32) (pw : Int32) (ph : Int32) (pn : Nat) (pf : Nat → Int32) (tw : Int32) (th : Int32) (tf : Nat → Int32) (a1 : Int32) (a2 : Int32) (post : (Nat → Int32) → Prop) : Prop := ∃ n : Nat, lp_ZY_layTile_3 yk pw ph pn pf tw th tf a1 a2 post (fun (x4_3e : Int32) (f_3e_opa : Nat → Int32) => post f_3e_opa) n (0 : Int32) pf
abbrev rm_ZY_layTile : Room := { frames := 1, cells := 0, slots := 0, locals := 23 }
set_option maxHeartbeats 4000000 in
set_option maxRecDepth 100000 in
theorem kt_ZY_layTile (l : Launch) (dC : Nat → ClassId) (dI : Nat → Nat → Nat) (cI : ClassId) (oy op opa ot ota : Nat) (sz : Nat) (yk : Int32) (pw : Int32) (ph : Int32) (pn : Nat) (pf : Nat → Int32) (tw : Int32) (th : Int32) (tf : Nat → Int32) (a1 : Int32) (a2 : Int32) (post : (Nat → Int32) → Prop) (hw : wp_ZY_layTile yk pw ph pn pf tw th tf a1 a2 post) : Met l yZY_layTile wsZY_layTile rm_ZY_layTile (gw_Pc dC dI [(cI, .int)] [.ref oy, .int a1, .int a2, .ref ot] [(oy, .inr (2, [.ref op, .int yk])), (op, .inr (1, [.int pw, .int ph, .ref opa])), (opa, .inl (cI, pn, .inl pf)), (ot, .inr (4, [.ref ota, .int tw, .int th])), (ota, .inl (cI, 64, .inl tf))] sz) (va_Qv (fun (u : (Nat → Int32)) => post u) (fun u t => gw_B dC dI [(cI, .int)] (va_A [(oy, .inr (2, [.ref op, .int yk])), (op, .inr (1, [.int pw, .int ph, .ref opa])), (opa, .inl (cI, pn, .inl pf)), (ot, .inr (4, [.ref ota, .int tw, .int th])), (ota, .inl (cI, 64, .inl tf))] sz) [(oy, .inr (2, [.ref op, .int yk])), (op, .inr (1, [.int pw, .int ph, .ref opa])), (opa, .inl (cI, pn, .inl u)), (ot, .inr (4, [.ref ota, .int tw, .int th])), (ota, .inl (cI, 64, .inl tf))] t) (va_A [(oy, .inr (2, [.ref op, .int yk])), (op, .inr (1, [.int pw, .int ph, .ref opa])), (opa, .inl (cI, pn, .inl pf)), (ot, .inr (4, [.ref ota, .int tw, .int th])), (ota, .inl (cI, 64, .inl tf))] sz)) 0 0 (va_A [(oy, .inr (2, [.ref op, .int yk])), (op, .inr (1, [.int pw, .int ph, .ref opa])), (opa, .inl (cI, pn, .inl pf)), (ot, .inr (4, [.ref ota, .int tw, .int th])), (ota, .inl (cI, 64, .inl tf))] sz) := by
  refine Met.ofW (cc := cZY_layTile) (maxL := 6) (ret := none) (by decide) rfl ?_
  intro p e s m args below meth c s₁ B hml hv
  obtain ⟨ha9, hsz, hP, hK, hE, hD0⟩ := hv
  have hx := B.exec
  have hb := B.bytes
  have hr := B.returns
  have hts0 := atoms_spec (ws := wsZY_layTile) B.pre
  have hts : ∀ w ∈ tbg, w.before args s = true := fun w h => hts0 w (List.mem_cons_of_mem _ h)
  have hown : s.vm.findClass RZY = some m.cls := findClass_of_methodNamed B.named
  have hlocks := B.notSynchronized
  subst hsz
  have hD := hD0.self (sz := s.heap.size)
  refine gx_Q (fun Q9 hQ9 => ?_)
  generalize hAe : va_A [(oy, .inr (2, [.ref op, .int yk])), (op, .inr (1, [.int pw, .int ph, .ref opa])), (opa, .inl (cI, pn, .inl pf)), (ot, .inr (4, [.ref ota, .int tw, .int th])), (ota, .inl (cI, 64, .inl tf))] s.heap.size = A at hD hQ9 ⊢
  have hA : ∀ q : Nat, s.heap.size ≤ q → A q := fun q h => by rw [← hAe]; exact Or.inr h
  have hS : va_S A s.heap s.heap [] := va_S.rf
  have hl := lv_entry ([.ref oy, .int a1, .int a2, .ref ot]) (n := 6) (Nat.le_of_ble_eq_true rfl)
  have he9 : entryFrame m args 6 = F0 m 0 ((lg_sl [.ref oy, .int a1, .int a2, .ref ot] ++ List.replicate (6 - (lg_sl ([.ref oy, .int a1, .int a2, .ref ot] : List Value)).length) Slot.unset).toArray) [] := by rw [ha9]; exact lg_entry_eq m [.ref oy, .int a1, .int a2, .ref ot] 6
  rw [he9]
  generalize (lg_sl ([.ref oy, .int a1, .int a2, .ref ot] : List Value) ++ List.replicate (6 - (lg_sl ([.ref oy, .int a1, .int a2, .ref ot] : List Value)).length) Slot.unset).toArray = ls at hl ⊢
  have hl : lv_has ls 6 [(0, .ref oy), (1, .int a1), (2, .int a2), (3, .ref ot)] := hl
  refine lv_iconst (v := (0 : Int32)) hx hb dZY_layTile_0 (by decide) ?_
  refine lv_istore (lv' := [(4, .int (0 : Int32)), (0, .ref oy), (1, .int a1), (2, .int a2), (3, .ref ot)]) hx hb dZY_layTile_1 hl (by decide) rfl (fun ls hl => ?_)
  have lp3 : ∀ K3 : Int32 → (Nat → Int32) → Prop, (∀ (x4_3 : Int32) (f_3_opa : Nat → Int32), K3 x4_3 f_3_opa → ∀ (H : Heap) (locs : List Loc), va_P (dC, dI) vwCl [(oy, .inr (2, [.ref op, .int yk])), (op, .inr (1, [.int pw, .int ph, .ref opa])), (opa, .inl (cI, pn, .inl f_3_opa)), (ot, .inr (4, [.ref ota, .int tw, .int th])), (ota, .inl (cI, 64, .inl tf))] H → va_D A [(oy, .inr (2, [.ref op, .int yk])), (op, .inr (1, [.int pw, .int ph, .ref opa])), (opa, .inl (cI, pn, .inl f_3_opa)), (ot, .inr (4, [.ref ota, .int tw, .int th])), (ota, .inl (cI, 64, .inl tf))] → va_S A s.heap H locs → ∀ ls : Array Slot, lv_has ls 6 [(4, .int x4_3), (0, .ref oy), (1, .int a1), (2, .int a2), (3, .ref ot)] → W p l e (headSpec wsZY_layTile rm_ZY_layTile).room s m args below meth c H locs 0 0 Q9 (F0 m 65 ls [])) → ∀ (n : Nat) (x4_3 : Int32) (f_3_opa : Nat → Int32), lp_ZY_layTile_3 yk pw ph pn pf tw th tf a1 a2 post K3 n x4_3 f_3_opa → ∀ (H : Heap) (locs : List Loc), va_P (dC, dI) vwCl [(oy, .inr (2, [.ref op, .int yk])), (op, .inr (1, [.int pw, .int ph, .ref opa])), (opa, .inl (cI, pn, .inl f_3_opa)), (ot, .inr (4, [.ref ota, .int tw, .int th])), (ota, .inl (cI, 64, .inl tf))] H → va_D A [(oy, .inr (2, [.ref op, .int yk])), (op, .inr (1, [.int pw, .int ph, .ref opa])), (opa, .inl (cI, pn, .inl f_3_opa)), (ot, .inr (4, [.ref ota, .int tw, .int th])), (ota, .inl (cI, 64, .inl tf))] → va_S A s.heap H locs → ∀ ls : Array Slot, lv_has ls 6 [(4, .int x4_3), (0, .ref oy), (1, .int a1), (2, .int a2), (3, .ref ot)] → W p l e (headSpec wsZY_layTile rm_ZY_layTile).room s m args below meth c H locs 0 0 Q9 (F0 m 3 ls []) := by
    intro K3 aft3 n
    induction n with
    | zero => intro x4_3 f_3_opa hw; exact False.elim hw
    | succ n ih3 =>
      intro x4_3 f_3_opa hw H locs hP hD hS ls hl
      refine lv_iload hx hb dZY_layTile_3 (lv_at hl 0 rfl) ?_
      refine lv_aload_n hx hb dZY_layTile_5 rfl (lv_at hl 4 rfl) ?_
      refine va_get (D := (dC, dI)) (ci := 4) (v := .int th) (C := RZT) (T := TZT) (N := 3) hx hb hts inZT hown hK hP 3 rfl rfl 2 (by decide) (hts _ mm_127) (fun _ h9 => h9) rfl dZY_layTile_6 ?_
      refine lv_icmp_ge (tgt := 65) hx hb dZY_layTile_9 (by decide) (fun c_1 => ?_) (fun c_1 => ?_)
      · have hw := hw.1 c_1
        exact aft3 x4_3 f_3_opa hw _ _ (hP.sub [0, 1, 2, 3, 4] rfl) (hD.sub [0, 1, 2, 3, 4] (by decide) rfl) hS ls (lv_sub hl [0, 1, 2, 3, 4] rfl)
      · have hw := hw.2 c_1
        refine lv_iconst (v := (0 : Int32)) hx hb dZY_layTile_12 (by decide) ?_
        refine lv_istore (lv' := [(5, .int (0 : Int32)), (4, .int x4_3), (0, .ref oy), (1, .int a1), (2, .int a2), (3, .ref ot)]) hx hb dZY_layTile_13 hl (by decide) rfl (fun ls hl => ?_)
        have lp15 : ∀ K15 : Int32 → (Nat → Int32) → Prop, (∀ (x5_15 : Int32) (f_15_opa : Nat → Int32), K15 x5_15 f_15_opa → ∀ (H : Heap) (locs : List Loc), va_P (dC, dI) vwCl [(oy, .inr (2, [.ref op, .int yk])), (op, .inr (1, [.int pw, .int ph, .ref opa])), (opa, .inl (cI, pn, .inl f_15_opa)), (ot, .inr (4, [.ref ota, .int tw, .int th])), (ota, .inl (cI, 64, .inl tf))] H → va_D A [(oy, .inr (2, [.ref op, .int yk])), (op, .inr (1, [.int pw, .int ph, .ref opa])), (opa, .inl (cI, pn, .inl f_15_opa)), (ot, .inr (4, [.ref ota, .int tw, .int th])), (ota, .inl (cI, 64, .inl tf))] → va_S A s.heap H locs → ∀ ls : Array Slot, lv_has ls 6 [(5, .int x5_15), (4, .int x4_3), (0, .ref oy), (1, .int a1), (2, .int a2), (3, .ref ot)] → W p l e (headSpec wsZY_layTile rm_ZY_layTile).room s m args below meth c H locs 0 0 Q9 (F0 m 59 ls [])) → ∀ (n : Nat) (x5_15 : Int32) (f_15_opa : Nat → Int32), lp_ZY_layTile_15 yk pw ph pn pf tw th tf a1 a2 x4_3 f_3_opa post K15 n x5_15 f_15_opa → ∀ (H : Heap) (locs : List Loc), va_P (dC, dI) vwCl [(oy, .inr (2, [.ref op, .int yk])), (op, .inr (1, [.int pw, .int ph, .ref opa])), (opa, .inl (cI, pn, .inl f_15_opa)), (ot, .inr (4, [.ref ota, .int tw, .int th])), (ota, .inl (cI, 64, .inl tf))] H → va_D A [(oy, .inr (2, [.ref op, .int yk])), (op, .inr (1, [.int pw, .int ph, .ref opa])), (opa, .inl (cI, pn, .inl f_15_opa)), (ot, .inr (4, [.ref ota, .int tw, .int th])), (ota, .inl (cI, 64, .inl tf))] → va_S A s.heap H locs → ∀ ls : Array Slot, lv_has ls 6 [(5, .int x5_15), (4, .int x4_3), (0, .ref oy), (1, .int a1), (2, .int a2), (3, .ref ot)] → W p l e (headSpec wsZY_layTile rm_ZY_layTile).room s m args below meth c H locs 0 0 Q9 (F0 m 15 ls []) := by
          intro K15 aft15 n
          induction n with
          | zero => intro x5_15 f_15_opa hw; exact False.elim hw
          | succ n ih15 =>
            intro x5_15 f_15_opa hw H locs hP hD hS ls hl
            refine lv_iload hx hb dZY_layTile_15 (lv_at hl 0 rfl) ?_
            refine lv_aload_n hx hb dZY_layTile_17 rfl (lv_at hl 5 rfl) ?_
            refine va_get (D := (dC, dI)) (ci := 4) (v := .int tw) (C := RZT) (T := TZT) (N := 3) hx hb hts inZT hown hK hP 3 rfl rfl 1 (by decide) (hts _ mm_122) (fun _ h9 => h9) rfl dZY_layTile_18 ?_
            refine lv_icmp_ge (tgt := 59) hx hb dZY_layTile_21 (by decide) (fun c_2 => ?_) (fun c_2 => ?_)
            · have hw := hw.1 c_2
              exact aft15 x5_15 f_15_opa hw _ _ (hP.sub [0, 1, 2, 3, 4] rfl) (hD.sub [0, 1, 2, 3, 4] (by decide) rfl) hS ls (lv_sub hl [0, 1, 2, 3, 4, 5] rfl)
            · have hw := hw.2 c_2
              refine lv_aload_n hx hb dZY_layTile_24 rfl (lv_at hl 2 rfl) ?_
              refine va_get (D := (dC, dI)) (ci := 2) (v := .ref op) (C := RZY) (T := TZY) (N := 2) hx hb hts inZY hown hK hP 0 rfl rfl 0 (by decide) (hts _ mm_61) (fun _ h9 => h9) rfl dZY_layTile_25 ?_
              refine lv_bipush (v := (8 : Int32)) hx hb dZY_layTile_28 (by decide) ?_
              refine lv_iload_n hx hb dZY_layTile_30 rfl (lv_at hl 3 rfl) ?_
              refine lv_imul hx hb dZY_layTile_31 ?_
              refine lv_iload hx hb dZY_layTile_32 (lv_at hl 0 rfl) ?_
              refine lv_iadd hx hb dZY_layTile_34 ?_
              refine lv_bipush (v := (8 : Int32)) hx hb dZY_layTile_35 (by decide) ?_
              refine lv_iload_n hx hb dZY_layTile_37 rfl (lv_at hl 4 rfl) ?_
              refine lv_imul hx hb dZY_layTile_38 ?_
              refine lv_iload hx hb dZY_layTile_39 (lv_at hl 1 rfl) ?_
              refine lv_iadd hx hb dZY_layTile_41 ?_
              refine lv_aload_n hx hb dZY_layTile_42 rfl (lv_at hl 5 rfl) ?_
              refine lv_iload hx hb dZY_layTile_43 (lv_at hl 0 rfl) ?_
              refine lv_iload hx hb dZY_layTile_45 (lv_at hl 1 rfl) ?_
              have hPc := hP.sub (ws' := [(ot, .inr (4, [.ref ota, .int tw, .int th])), (ota, .inl (cI, 64, .inl tf))]) [3, 4] rfl
              refine vp_callSi (va_runV (As := [.int x5_15, .int x4_3]) (rest := [.int (((8 : Int32) * a2) + x4_3), .int (((8 : Int32) * a1) + x5_15), .ref op]) ⟨hx, hb, hml, hown, hts⟩ (kt_ZT_sampleAt l dC dI cI ot ota tw th tf x5_15 x4_3 _ hw) (cwV 2 hts (tb_V mm_566 mm_200 mm_201 mm_7 mm_202) rfl rfl rfl (by decide +kernel) ⟨Nat.le_of_ble_eq_true rfl, Nat.le_of_ble_eq_true rfl⟩) ⟨gr_blind, va_recv hK hPc (ci := 4) (q0 := 0) rfl rfl, fun U hU hW => gr_pre hPc hK hE hU hW⟩ rfl rfl hl.1 rfl (lv_room (Nat.le_of_ble_eq_true rfl)) dZY_layTile_47 ⟨Nat.le_of_ble_eq_true rfl, Nat.le_of_ble_eq_true rfl⟩).run (fun r_3 hw => ?_)
              have hPc := hP.sub (ws' := [(op, .inr (1, [.int pw, .int ph, .ref opa])), (opa, .inl (cI, pn, .inl f_15_opa))]) [1, 2] rfl
              have hDc := hD.sub (ws' := [(op, .inr (1, [.int pw, .int ph, .ref opa])), (opa, .inl (cI, pn, .inl f_15_opa))]) [1, 2] (by decide) rfl
              have hFc := va_free (wc := [(op, .inr (1, [.int pw, .int ph, .ref opa])), (opa, .inl (cI, pn, .inl f_15_opa))]) hD hS hA [1, 2] rfl
              refine va_callv (va_runV (As := [.int (((8 : Int32) * a1) + x5_15), .int (((8 : Int32) * a2) + x4_3), .int r_3]) (rest := []) ⟨hx, hb, hml, hown, hts⟩ (kt_ZP_setSample l dC dI cI op opa _ pw ph pn f_15_opa (((8 : Int32) * a1) + x5_15) (((8 : Int32) * a2) + x4_3) r_3 _ hw) (cwV 3 hts (tb_V mm_567 mm_335 mm_336 mm_3 mm_337) rfl rfl rfl (by decide +kernel) ⟨Nat.le_of_ble_eq_true rfl, Nat.le_of_ble_eq_true rfl⟩) ⟨gw_blind, va_recv hK hPc (ci := 1) (q0 := 0) rfl rfl, fun U hU hW => gw_pre hPc hDc hK hE hU hW⟩ rfl rfl hl.1 rfl (lv_room (Nat.le_of_ble_eq_true rfl)) dZY_layTile_50 ⟨Nat.le_of_ble_eq_true rfl, Nat.le_of_ble_eq_true rfl⟩) hS (fun q _ h => hFc q h) hFc (fun pf_4 t H1 locs ht hvm hw hB hz1 hk1 hS => ?_)
              obtain ⟨hP1, hK1, hD1⟩ := hB
              rw [ht] at hP1
              try dsimp only at hw
              obtain ⟨hP, hD⟩ := va_join (wr := [(oy, .inr (2, [.ref op, .int yk])), (ot, .inr (4, [.ref ota, .int tw, .int th])), (ota, .inl (cI, 64, .inl tf))]) (w1 := [(op, .inr (1, [.int pw, .int ph, .ref opa])), (opa, .inl (cI, pn, .inl pf_4))]) hP hD [1, 2] [0, 3, 4] rfl rfl (by decide) (by decide) hk1 hFc hP1 hD1
              generalize H1 = H at hP hS ⊢
              have hP : va_P (dC, dI) vwCl [(oy, .inr (2, [.ref op, .int yk])), (ot, .inr (4, [.ref ota, .int tw, .int th])), (ota, .inl (cI, 64, .inl tf)), (op, .inr (1, [.int pw, .int ph, .ref opa])), (opa, .inl (cI, pn, .inl pf_4))] H := hP
              have hD : va_D A [(oy, .inr (2, [.ref op, .int yk])), (ot, .inr (4, [.ref ota, .int tw, .int th])), (ota, .inl (cI, 64, .inl tf)), (op, .inr (1, [.int pw, .int ph, .ref opa])), (opa, .inl (cI, pn, .inl pf_4))] := hD
              refine lv_iinc (v := x5_15 + (1 : Int32)) (lv' := [(5, .int (x5_15 + (1 : Int32))), (4, .int x4_3), (0, .ref oy), (1, .int a1), (2, .int a2), (3, .ref ot)]) hx hb dZY_layTile_53 hl (k := 0) rfl rfl (by decide) rfl (fun ls hl => ?_)
              refine lv_goto (tgt := 15) hx hb dZY_layTile_56 (by decide) ?_
              exact ih15 (x5_15 + (1 : Int32)) pf_4 hw _ _ (hP.sub [0, 3, 4, 1, 2] rfl) (hD.sub [0, 3, 4, 1, 2] (by decide) rfl) hS ls (lv_sub hl [0, 1, 2, 3, 4, 5] rfl)
        obtain ⟨n15, hw⟩ := hw
        refine lp15 _ (fun x5_15e f_15e_opa hw H locs hP hD hS ls hl => ?_) n15 (0 : Int32) f_3_opa hw _ _ (hP.sub [0, 1, 2, 3, 4] rfl) (hD.sub [0, 1, 2, 3, 4] (by decide) rfl) hS ls (lv_sub hl [0, 1, 2, 3, 4, 5] rfl)
        refine lv_iinc (v := x4_3 + (1 : Int32)) (lv' := [(4, .int (x4_3 + (1 : Int32))), (5, .int x5_15e), (0, .ref oy), (1, .int a1), (2, .int a2), (3, .ref ot)]) hx hb dZY_layTile_59 hl (k := 1) rfl rfl (by decide) rfl (fun ls hl => ?_)
        refine lv_goto (tgt := 3) hx hb dZY_layTile_62 (by decide) ?_
        exact ih3 (x4_3 + (1 : Int32)) f_15e_opa hw _ _ (hP.sub [0, 1, 2, 3, 4] rfl) (hD.sub [0, 1, 2, 3, 4] (by decide) rfl) hS ls (lv_sub hl [0, 2, 3, 4, 5] rfl)
  obtain ⟨n3, hw⟩ := hw
  refine lp3 _ (fun x4_3e f_3e_opa hw H locs hP hD hS ls hl => ?_) n3 (0 : Int32) pf hw _ _ (hP.sub [0, 1, 2, 3, 4] rfl) (hD.sub [0, 1, 2, 3, 4] (by decide) rfl) hS ls (lv_sub hl [0, 1, 2, 3, 4] rfl)
  have hP9 := hP.sub (ws' := [(oy, .inr (2, [.ref op, .int yk])), (op, .inr (1, [.int pw, .int ph, .ref opa])), (opa, .inl (cI, pn, .inl f_3e_opa)), (ot, .inr (4, [.ref ota, .int tw, .int th])), (ota, .inl (cI, 64, .inl tf))]) [0, 1, 2, 3, 4] rfl
  have hD9 := hD.sub (ws' := [(oy, .inr (2, [.ref op, .int yk])), (op, .inr (1, [.int pw, .int ph, .ref opa])), (opa, .inl (cI, pn, .inl f_3e_opa)), (ot, .inr (4, [.ref ota, .int tw, .int th])), (ota, .inl (cI, 64, .inl tf))]) [0, 1, 2, 3, 4] (by decide) rfl
  subst hQ9
  exact W.vret hx hb hr (fun t ht hW => ⟨⟨f_3e_opa, rfl, hw, by rw [ht]; exact hP9, va_K.moved hW.alike hK, hD9⟩, hS.F ht⟩) hS.2.2 dZY_layTile_65
theorem dZY_init_0 : decode cZY_init 0 = .ok (.aload_n 0, 1) := by decide +kernel
theorem dZY_init_1 : decode cZY_init 1 = .ok (.invokespecial 3, 3) := by decide +kernel
theorem dZY_init_4 : decode cZY_init 4 = .ok (.aload_n 0, 1) := by decide +kernel
theorem dZY_init_5 : decode cZY_init 5 = .ok (.aload_n 1, 1) := by decide +kernel
theorem dZY_init_6 : decode cZY_init 6 = .ok (.putfield 9, 3) := by decide +kernel
theorem dZY_init_9 : decode cZY_init 9 = .ok (.aload_n 1, 1) := by decide +kernel
theorem dZY_init_10 : decode cZY_init 10 = .ok (.getfield 15, 3) := by decide +kernel
theorem dZY_init_13 : decode cZY_init 13 = .ok (.aload_n 1, 1) := by decide +kernel
theorem dZY_init_14 : decode cZY_init 14 = .ok (.getfield 21, 3) := by decide +kernel
theorem dZY_init_17 : decode cZY_init 17 = .ok (.invokestatic 24, 3) := by decide +kernel
theorem dZY_init_20 : decode cZY_init 20 = .ok (.istore_n 2, 1) := by decide +kernel
theorem dZY_init_21 : decode cZY_init 21 = .ok (.iconst 1, 1) := by decide +kernel
theorem dZY_init_22 : decode cZY_init 22 = .ok (.istore_n 3, 1) := by decide +kernel
theorem dZY_init_23 : decode cZY_init 23 = .ok (.iconst 1, 1) := by decide +kernel
theorem dZY_init_24 : decode cZY_init 24 = .ok (.istore 4, 2) := by decide +kernel
theorem dZY_init_26 : decode cZY_init 26 = .ok (.iload 4, 2) := by decide +kernel
theorem dZY_init_28 : decode cZY_init 28 = .ok (.iload_n 2, 1) := by decide +kernel
theorem dZY_init_29 : decode cZY_init 29 = .ok (.if_icmp .ge 15, 3) := by decide +kernel
theorem dZY_init_32 : decode cZY_init 32 = .ok (.iinc 3 1, 3) := by decide +kernel
theorem dZY_init_35 : decode cZY_init 35 = .ok (.iload 4, 2) := by decide +kernel
theorem dZY_init_37 : decode cZY_init 37 = .ok (.iconst 2, 1) := by decide +kernel
theorem dZY_init_38 : decode cZY_init 38 = .ok (.imul, 1) := by decide +kernel
theorem dZY_init_39 : decode cZY_init 39 = .ok (.istore 4, 2) := by decide +kernel
theorem dZY_init_41 : decode cZY_init 41 = .ok (.goto (-15), 3) := by decide +kernel
theorem dZY_init_44 : decode cZY_init 44 = .ok (.aload_n 0, 1) := by decide +kernel
theorem dZY_init_45 : decode cZY_init 45 = .ok (.iload_n 3, 1) := by decide +kernel
theorem dZY_init_46 : decode cZY_init 46 = .ok (.putfield 30, 3) := by decide +kernel
theorem dZY_init_49 : decode cZY_init 49 = .ok (.return_, 1) := by decide +kernel
abbrev wsZY_init : List Cond := .code yZY_init cZY_init 5 none :: tbg
def lp_ZY_init_26 (pw : Int32) (ph : Int32) (pn : Nat) (pf : Nat → Int32) (post : Int32 → Prop) (K26 : Int32 → Int32 → Prop) (n : Nat) : Int32 → Int32 → Prop := Nat.rec (motive := fun _ => Int32 → Int32 → Prop) (fun (x3_26 : Int32) (x4_26 : Int32) => False) (fun _ ih26 (x3_26 : Int32) (x4_26 : Int32) => (((if pw < ph then ph else pw) ≤ x4_26 → (K26 x3_26 x4_26)) ∧ (¬ (if pw < ph then ph else pw) ≤ x4_26 → (ih26 (x3_26 + (1 : Int32)) (x4_26 * (2 : Int32)))))) n
def wp_ZY_init (pw : Int32) (ph : Int32) (pn : Nat) (pf : Nat → Int32) (post : Int32 → Prop) : Prop := ∃ n : Nat, lp_ZY_init_26 pw ph pn pf post (fun (x3_26e : Int32) (x4_26e : Int32) => post x3_26e) n (1 : Int32) (1 : Int32)
abbrev rm_ZY_init : Room := { frames := 1, cells := 0, slots := 0, locals := 21 }
set_option maxHeartbeats 4000000 in
set_option maxRecDepth 100000 in
theorem kt_ZY_init (l : Launch) (dC : Nat → ClassId) (dI : Nat → Nat → Nat) (cI : ClassId) (oy op opa : Nat) (sz : Nat) (pw : Int32) (ph : Int32) (pn : Nat) (pf : Nat → Int32) (post : Int32 → Prop) (hw : wp_ZY_init pw ph pn pf post) : Met l yZY_init wsZY_init rm_ZY_init (gw_Pc dC dI [(cI, .int)] [.ref oy, .ref op] [(oy, .inr (2, [.null, .int (0 : Int32)])), (op, .inr (1, [.int pw, .int ph, .ref opa])), (opa, .inl (cI, pn, .inl pf))] sz) (va_Qv (fun (u : Int32) => post u) (fun u t => gw_B dC dI [(cI, .int)] (va_A [(oy, .inr (2, [.null, .int (0 : Int32)])), (op, .inr (1, [.int pw, .int ph, .ref opa])), (opa, .inl (cI, pn, .inl pf))] sz) [(oy, .inr (2, [.ref op, .int u])), (op, .inr (1, [.int pw, .int ph, .ref opa])), (opa, .inl (cI, pn, .inl pf))] t) (va_A [(oy, .inr (2, [.null, .int (0 : Int32)])), (op, .inr (1, [.int pw, .int ph, .ref opa])), (opa, .inl (cI, pn, .inl pf))] sz)) 0 0 (va_A [(oy, .inr (2, [.null, .int (0 : Int32)])), (op, .inr (1, [.int pw, .int ph, .ref opa])), (opa, .inl (cI, pn, .inl pf))] sz) := by
  refine Met.ofW (cc := cZY_init) (maxL := 5) (ret := none) (by decide) rfl ?_
  intro p e s m args below meth c s₁ B hml hv
  obtain ⟨ha9, hsz, hP, hK, hE, hD0⟩ := hv
  have hx := B.exec
  have hb := B.bytes
  have hr := B.returns
  have hts0 := atoms_spec (ws := wsZY_init) B.pre
  have hts : ∀ w ∈ tbg, w.before args s = true := fun w h => hts0 w (List.mem_cons_of_mem _ h)
  have hown : s.vm.findClass RZY = some m.cls := findClass_of_methodNamed B.named
  have hlocks := B.notSynchronized
  have hin : meth.name = "<init>" := (name_of_methodNamed B.named B.method).1
  subst hsz
  have hD := hD0.self (sz := s.heap.size)
  refine gx_Q (fun Q9 hQ9 => ?_)
  generalize hAe : va_A [(oy, .inr (2, [.null, .int (0 : Int32)])), (op, .inr (1, [.int pw, .int ph, .ref opa])), (opa, .inl (cI, pn, .inl pf))] s.heap.size = A at hD hQ9 ⊢
  have hA : ∀ q : Nat, s.heap.size ≤ q → A q := fun q h => by rw [← hAe]; exact Or.inr h
  have hS : va_S A s.heap s.heap [] := va_S.rf
  have hl := lv_entry ([.ref oy, .ref op]) (n := 5) (Nat.le_of_ble_eq_true rfl)
  have he9 : entryFrame m args 5 = F0 m 0 ((lg_sl [.ref oy, .ref op] ++ List.replicate (5 - (lg_sl ([.ref oy, .ref op] : List Value)).length) Slot.unset).toArray) [] := by rw [ha9]; exact lg_entry_eq m [.ref oy, .ref op] 5
  rw [he9]
  generalize (lg_sl ([.ref oy, .ref op] : List Value) ++ List.replicate (5 - (lg_sl ([.ref oy, .ref op] : List Value)).length) Slot.unset).toArray = ls at hl ⊢
  have hl : lv_has ls 5 [(0, .ref oy), (1, .ref op)] := hl
  refine lv_aload_n hx hb dZY_init_0 rfl (lv_at hl 0 rfl) ?_
  refine W.objInit hx hb hown (hts _ mm_59) (hts _ mm_23) (hts _ mm_24) rfl (by rw [hml]; exact hl.1) rfl dZY_init_1 (Nat.le_of_ble_eq_true rfl) (Nat.le_of_ble_eq_true rfl) ?_
  refine W.eq (g2 := F0 m 4 ls []) rfl ?_
  refine lv_aload_n hx hb dZY_init_4 rfl (lv_at hl 0 rfl) ?_
  refine lv_aload_n hx hb dZY_init_5 rfl (lv_at hl 1 rfl) ?_
  refine va_putF (D := (dC, dI)) (ci := 2) (v := .ref op) (ty := (.object "TilePyramid$Picture")) (C := RZY) (T := TZY) (N := 2) hx hb hts inZY tyZY tyZY_ok nmZY hown hK hP hD hS 0 rfl rfl 0 (by decide) (hts _ mm_61) (fun _ h9 => h9) rfl hin rfl (by decide +kernel) rfl rfl (Nat.le_of_ble_eq_true rfl) dZY_init_6 (fun H locs hP hD hS => ?_)
  have hP : va_P (dC, dI) vwCl [(oy, .inr (2, [.ref op, .int (0 : Int32)])), (op, .inr (1, [.int pw, .int ph, .ref opa])), (opa, .inl (cI, pn, .inl pf))] H := hP
  have hD : va_D A [(oy, .inr (2, [.ref op, .int (0 : Int32)])), (op, .inr (1, [.int pw, .int ph, .ref opa])), (opa, .inl (cI, pn, .inl pf))] := hD
  refine lv_aload_n hx hb dZY_init_9 rfl (lv_at hl 1 rfl) ?_
  refine va_get (D := (dC, dI)) (ci := 1) (v := .int pw) (C := RZP) (T := TZP) (N := 3) hx hb hts inZP hown hK hP 1 rfl rfl 0 (by decide) (hts _ mm_38) (fun _ h9 => h9) rfl dZY_init_10 ?_
  refine lv_aload_n hx hb dZY_init_13 rfl (lv_at hl 1 rfl) ?_
  refine va_get (D := (dC, dI)) (ci := 1) (v := .int ph) (C := RZP) (T := TZP) (N := 3) hx hb hts inZP hown hK hP 1 rfl rfl 1 (by decide) (hts _ mm_42) (fun _ h9 => h9) rfl dZY_init_14 ?_
  refine va_mmax hx hb (hml.trans hl.1.symm) hown (hts _ mm_60) (hts _ mm_29) (hts _ mm_2) (hts _ mm_30) (Nat.le_of_ble_eq_true rfl) (Nat.le_of_ble_eq_true rfl) (Nat.le_of_ble_eq_true rfl) (Nat.le_of_ble_eq_true rfl) dZY_init_17 ?_
  refine lv_istore_n (lv' := [(2, .int (if pw < ph then ph else pw)), (0, .ref oy), (1, .ref op)]) hx hb dZY_init_20 rfl hl (by decide) rfl (fun ls hl => ?_)
  refine lv_iconst (v := (1 : Int32)) hx hb dZY_init_21 (by decide) ?_
  refine lv_istore_n (lv' := [(3, .int (1 : Int32)), (2, .int (if pw < ph then ph else pw)), (0, .ref oy), (1, .ref op)]) hx hb dZY_init_22 rfl hl (by decide) rfl (fun ls hl => ?_)
  refine lv_iconst (v := (1 : Int32)) hx hb dZY_init_23 (by decide) ?_
  refine lv_istore (lv' := [(4, .int (1 : Int32)), (3, .int (1 : Int32)), (2, .int (if pw < ph then ph else pw)), (0, .ref oy), (1, .ref op)]) hx hb dZY_init_24 hl (by decide) rfl (fun ls hl => ?_)
  have lp26 : ∀ K26 : Int32 → Int32 → Prop, (∀ (x3_26 : Int32) (x4_26 : Int32), K26 x3_26 x4_26 → ∀ (H : Heap) (locs : List Loc), va_P (dC, dI) vwCl [(oy, .inr (2, [.ref op, .int (0 : Int32)])), (op, .inr (1, [.int pw, .int ph, .ref opa])), (opa, .inl (cI, pn, .inl pf))] H → va_D A [(oy, .inr (2, [.ref op, .int (0 : Int32)])), (op, .inr (1, [.int pw, .int ph, .ref opa])), (opa, .inl (cI, pn, .inl pf))] → va_S A s.heap H locs → ∀ ls : Array Slot, lv_has ls 5 [(4, .int x4_26), (3, .int x3_26), (2, .int (if pw < ph then ph else pw)), (0, .ref oy), (1, .ref op)] → W p l e (headSpec wsZY_init rm_ZY_init).room s m args below meth c H locs 0 0 Q9 (F0 m 44 ls [])) → ∀ (n : Nat) (x3_26 : Int32) (x4_26 : Int32), lp_ZY_init_26 pw ph pn pf post K26 n x3_26 x4_26 → ∀ (H : Heap) (locs : List Loc), va_P (dC, dI) vwCl [(oy, .inr (2, [.ref op, .int (0 : Int32)])), (op, .inr (1, [.int pw, .int ph, .ref opa])), (opa, .inl (cI, pn, .inl pf))] H → va_D A [(oy, .inr (2, [.ref op, .int (0 : Int32)])), (op, .inr (1, [.int pw, .int ph, .ref opa])), (opa, .inl (cI, pn, .inl pf))] → va_S A s.heap H locs → ∀ ls : Array Slot, lv_has ls 5 [(4, .int x4_26), (3, .int x3_26), (2, .int (if pw < ph then ph else pw)), (0, .ref oy), (1, .ref op)] → W p l e (headSpec wsZY_init rm_ZY_init).room s m args below meth c H locs 0 0 Q9 (F0 m 26 ls []) := by
    intro K26 aft26 n
    induction n with
    | zero => intro x3_26 x4_26 hw; exact False.elim hw
    | succ n ih26 =>
      intro x3_26 x4_26 hw H locs hP hD hS ls hl
      refine lv_iload hx hb dZY_init_26 (lv_at hl 0 rfl) ?_
      refine lv_iload_n hx hb dZY_init_28 rfl (lv_at hl 2 rfl) ?_
      refine lv_icmp_ge (tgt := 44) hx hb dZY_init_29 (by decide) (fun c_1 => ?_) (fun c_1 => ?_)
      · have hw := hw.1 c_1
        exact aft26 x3_26 x4_26 hw _ _ (hP.sub [0, 1, 2] rfl) (hD.sub [0, 1, 2] (by decide) rfl) hS ls (lv_sub hl [0, 1, 2, 3, 4] rfl)
      · have hw := hw.2 c_1
        refine lv_iinc (v := x3_26 + (1 : Int32)) (lv' := [(3, .int (x3_26 + (1 : Int32))), (4, .int x4_26), (2, .int (if pw < ph then ph else pw)), (0, .ref oy), (1, .ref op)]) hx hb dZY_init_32 hl (k := 1) rfl rfl (by decide) rfl (fun ls hl => ?_)
        refine lv_iload hx hb dZY_init_35 (lv_at hl 1 rfl) ?_
        refine lv_iconst (v := (2 : Int32)) hx hb dZY_init_37 (by decide) ?_
        refine lv_imul hx hb dZY_init_38 ?_
        refine lv_istore (lv' := [(4, .int (x4_26 * (2 : Int32))), (3, .int (x3_26 + (1 : Int32))), (2, .int (if pw < ph then ph else pw)), (0, .ref oy), (1, .ref op)]) hx hb dZY_init_39 hl (by decide) rfl (fun ls hl => ?_)
        refine lv_goto (tgt := 26) hx hb dZY_init_41 (by decide) ?_
        exact ih26 (x3_26 + (1 : Int32)) (x4_26 * (2 : Int32)) hw _ _ (hP.sub [0, 1, 2] rfl) (hD.sub [0, 1, 2] (by decide) rfl) hS ls (lv_sub hl [0, 1, 2, 3, 4] rfl)
  obtain ⟨n26, hw⟩ := hw
  refine lp26 _ (fun x3_26e x4_26e hw H locs hP hD hS ls hl => ?_) n26 (1 : Int32) (1 : Int32) hw _ _ (hP.sub [0, 1, 2] rfl) (hD.sub [0, 1, 2] (by decide) rfl) hS ls (lv_sub hl [0, 1, 2, 3, 4] rfl)
  refine lv_aload_n hx hb dZY_init_44 rfl (lv_at hl 3 rfl) ?_
  refine lv_iload_n hx hb dZY_init_45 rfl (lv_at hl 1 rfl) ?_
  refine va_putF (D := (dC, dI)) (ci := 2) (v := .int x3_26e) (ty := .int) (C := RZY) (T := TZY) (N := 2) hx hb hts inZY tyZY tyZY_ok nmZY hown hK hP hD hS 0 rfl rfl 1 (by decide) (hts _ mm_62) (fun _ h9 => h9) rfl hin rfl (by decide +kernel) rfl rfl (Nat.le_of_ble_eq_true rfl) dZY_init_46 (fun H locs hP hD hS => ?_)
  have hP : va_P (dC, dI) vwCl [(oy, .inr (2, [.ref op, .int x3_26e])), (op, .inr (1, [.int pw, .int ph, .ref opa])), (opa, .inl (cI, pn, .inl pf))] H := hP
  have hD : va_D A [(oy, .inr (2, [.ref op, .int x3_26e])), (op, .inr (1, [.int pw, .int ph, .ref opa])), (opa, .inl (cI, pn, .inl pf))] := hD
  have hP9 := hP.sub (ws' := [(oy, .inr (2, [.ref op, .int x3_26e])), (op, .inr (1, [.int pw, .int ph, .ref opa])), (opa, .inl (cI, pn, .inl pf))]) [0, 1, 2] rfl
  have hD9 := hD.sub (ws' := [(oy, .inr (2, [.ref op, .int x3_26e])), (op, .inr (1, [.int pw, .int ph, .ref opa])), (opa, .inl (cI, pn, .inl pf))]) [0, 1, 2] (by decide) rfl
  subst hQ9
  exact W.vret hx hb hr (fun t ht hW => ⟨⟨x3_26e, rfl, hw, by rw [ht]; exact hP9, va_K.moved hW.alike hK, hD9⟩, hS.F ht⟩) hS.2.2 dZY_init_49
end
section
theorem dZK_numberAt_0 : decode cZK_numberAt 0 = .ok (.aload_n 0, 1) := by decide +kernel
theorem dZK_numberAt_1 : decode cZK_numberAt 1 = .ok (.iload_n 1, 1) := by decide +kernel
theorem dZK_numberAt_2 : decode cZK_numberAt 2 = .ok (.iload_n 2, 1) := by decide +kernel
theorem dZK_numberAt_3 : decode cZK_numberAt 3 = .ok (.invokevirtual 54, 3) := by decide +kernel
theorem dZK_numberAt_6 : decode cZK_numberAt 6 = .ok (.aload_n 0, 1) := by decide +kernel
theorem dZK_numberAt_7 : decode cZK_numberAt 7 = .ok (.iload_n 1, 1) := by decide +kernel
theorem dZK_numberAt_8 : decode cZK_numberAt 8 = .ok (.iload_n 2, 1) := by decide +kernel
theorem dZK_numberAt_9 : decode cZK_numberAt 9 = .ok (.invokevirtual 57, 3) := by decide +kernel
theorem dZK_numberAt_12 : decode cZK_numberAt 12 = .ok (.isub, 1) := by decide +kernel
theorem dZK_numberAt_13 : decode cZK_numberAt 13 = .ok (.istore_n 3, 1) := by decide +kernel
theorem dZK_numberAt_14 : decode cZK_numberAt 14 = .ok (.iload_n 3, 1) := by decide +kernel
theorem dZK_numberAt_15 : decode cZK_numberAt 15 = .ok (.ifCond .lt 9, 3) := by decide +kernel
theorem dZK_numberAt_18 : decode cZK_numberAt 18 = .ok (.iconst 2, 1) := by decide +kernel
theorem dZK_numberAt_19 : decode cZK_numberAt 19 = .ok (.iload_n 3, 1) := by decide +kernel
theorem dZK_numberAt_20 : decode cZK_numberAt 20 = .ok (.imul, 1) := by decide +kernel
theorem dZK_numberAt_21 : decode cZK_numberAt 21 = .ok (.goto 9, 3) := by decide +kernel
theorem dZK_numberAt_24 : decode cZK_numberAt 24 = .ok (.bipush (-2), 2) := by decide +kernel
theorem dZK_numberAt_26 : decode cZK_numberAt 26 = .ok (.iload_n 3, 1) := by decide +kernel
theorem dZK_numberAt_27 : decode cZK_numberAt 27 = .ok (.imul, 1) := by decide +kernel
theorem dZK_numberAt_28 : decode cZK_numberAt 28 = .ok (.iconst 1, 1) := by decide +kernel
theorem dZK_numberAt_29 : decode cZK_numberAt 29 = .ok (.isub, 1) := by decide +kernel
theorem dZK_numberAt_30 : decode cZK_numberAt 30 = .ok (.ireturn, 1) := by decide +kernel
abbrev wsZK_numberAt : List Cond := .code yZK_numberAt cZK_numberAt 4 (some .int) :: tbg
def wp_ZK_numberAt (tw : Int32) (th : Int32) (tf : Nat → Int32) (a1 : Int32) (a2 : Int32) (post : Int32 → Prop) : Prop := wp_ZT_sampleAt tw th tf a1 a2 (fun r_1 : Int32 => wp_ZT_formerSample tw th tf a1 a2 (fun r_2 : Int32 => (((r_1 - r_2) < (0 : Int32) → (post (((-2 : Int32) * (r_1 - r_2)) - (1 : Int32)))) ∧ (¬ (r_1 - r_2) < (0 : Int32) → (post ((2 : Int32) * (r_1 - r_2)))))))
abbrev rm_ZK_numberAt : Room := { frames := 2, cells := 0, slots := 0, locals := 44 }
set_option maxHeartbeats 4000000 in
set_option maxRecDepth 100000 in
theorem kt_ZK_numberAt (l : Launch) (dC : Nat → ClassId) (dI : Nat → Nat → Nat) (cI : ClassId) (ot ota : Nat) (tw : Int32) (th : Int32) (tf : Nat → Int32) (a1 : Int32) (a2 : Int32) (post : Int32 → Prop) (hw : wp_ZK_numberAt tw th tf a1 a2 post) : Met l yZK_numberAt wsZK_numberAt rm_ZK_numberAt (gr_Pc dC dI [(cI, .int)] [.ref ot, .int a1, .int a2] [(ot, .inr (4, [.ref ota, .int tw, .int th])), (ota, .inl (cI, 64, .inl tf))]) (vp_Si post) 0 0 (fun _ => False) := by
  refine Met.ofW (cc := cZK_numberAt) (maxL := 4) (ret := (some .int)) (by decide) rfl ?_
  intro p e s m args below meth c s₁ B hml hv
  obtain ⟨ha9, hP, hK, hE⟩ := hv
  have hx := B.exec
  have hb := B.bytes
  have hr := B.returns
  have hts0 := atoms_spec (ws := wsZK_numberAt) B.pre
  have hts : ∀ w ∈ tbg, w.before args s = true := fun w h => hts0 w (List.mem_cons_of_mem _ h)
  have hown : s.vm.findClass RZK = some m.cls := findClass_of_methodNamed B.named
  have hlocks := B.notSynchronized
  refine gx_Q (fun Q9 hQ9 => ?_)
  have hl := lv_entry ([.ref ot, .int a1, .int a2]) (n := 4) (Nat.le_of_ble_eq_true rfl)
  have he9 : entryFrame m args 4 = F0 m 0 ((lg_sl [.ref ot, .int a1, .int a2] ++ List.replicate (4 - (lg_sl ([.ref ot, .int a1, .int a2] : List Value)).length) Slot.unset).toArray) [] := by rw [ha9]; exact lg_entry_eq m [.ref ot, .int a1, .int a2] 4
  rw [he9]
  generalize (lg_sl ([.ref ot, .int a1, .int a2] : List Value) ++ List.replicate (4 - (lg_sl ([.ref ot, .int a1, .int a2] : List Value)).length) Slot.unset).toArray = ls at hl ⊢
  have hl : lv_has ls 4 [(0, .ref ot), (1, .int a1), (2, .int a2)] := hl
  refine lv_aload_n hx hb dZK_numberAt_0 rfl (lv_at hl 0 rfl) ?_
  refine lv_iload_n hx hb dZK_numberAt_1 rfl (lv_at hl 1 rfl) ?_
  refine lv_iload_n hx hb dZK_numberAt_2 rfl (lv_at hl 2 rfl) ?_
  refine vp_callSi (va_runV (As := [.int a1, .int a2]) (rest := []) ⟨hx, hb, hml, hown, hts⟩ (kt_ZT_sampleAt l dC dI cI ot ota tw th tf a1 a2 _ hw) (cwV 2 hts (tb_V mm_498 mm_200 mm_201 mm_7 mm_202) rfl rfl rfl (by decide +kernel) ⟨Nat.le_of_ble_eq_true rfl, Nat.le_of_ble_eq_true rfl⟩) ⟨gr_blind, va_recv hK hP (ci := 4) (q0 := 0) rfl rfl, fun U hU hW => gr_pre hP hK hE hU hW⟩ rfl rfl hl.1 rfl (lv_room (Nat.le_of_ble_eq_true rfl)) dZK_numberAt_3 ⟨Nat.le_of_ble_eq_true rfl, Nat.le_of_ble_eq_true rfl⟩).run (fun r_1 hw => ?_)
  refine lv_aload_n hx hb dZK_numberAt_6 rfl (lv_at hl 0 rfl) ?_
  refine lv_iload_n hx hb dZK_numberAt_7 rfl (lv_at hl 1 rfl) ?_
  refine lv_iload_n hx hb dZK_numberAt_8 rfl (lv_at hl 2 rfl) ?_
  refine vp_callSi (va_runV (As := [.int a1, .int a2]) (rest := [.int r_1]) ⟨hx, hb, hml, hown, hts⟩ (kt_ZT_formerSample l dC dI cI ot ota tw th tf a1 a2 _ hw) (cwV 2 hts (tb_V mm_499 mm_196 mm_197 mm_7 mm_198) rfl rfl rfl (by decide +kernel) ⟨Nat.le_of_ble_eq_true rfl, Nat.le_of_ble_eq_true rfl⟩) ⟨gr_blind, va_recv hK hP (ci := 4) (q0 := 0) rfl rfl, fun U hU hW => gr_pre hP hK hE hU hW⟩ rfl rfl hl.1 rfl (lv_room (Nat.le_of_ble_eq_true rfl)) dZK_numberAt_9 ⟨Nat.le_of_ble_eq_true rfl, Nat.le_of_ble_eq_true rfl⟩).run (fun r_2 hw => ?_)
  refine lv_isub hx hb dZK_numberAt_12 ?_
  refine lv_istore_n (lv' := [(3, .int (r_1 - r_2)), (0, .ref ot), (1, .int a1), (2, .int a2)]) hx hb dZK_numberAt_13 rfl hl (by decide) rfl (fun ls hl => ?_)
  refine lv_iload_n hx hb dZK_numberAt_14 rfl (lv_at hl 0 rfl) ?_
  refine lv_if_lt (tgt := 24) hx hb dZK_numberAt_15 (by decide) (fun c_3 => ?_) (fun c_3 => ?_)
  · have hw := hw.1 c_3
    refine lv_bipush (v := (-2 : Int32)) hx hb dZK_numberAt_24 (by decide) ?_
    refine lv_iload_n hx hb dZK_numberAt_26 rfl (lv_at hl 0 rfl) ?_
    refine lv_imul hx hb dZK_numberAt_27 ?_
    refine lv_iconst (v := (1 : Int32)) hx hb dZK_numberAt_28 (by decide) ?_
    refine lv_isub hx hb dZK_numberAt_29 ?_
    subst hQ9
    exact W.iret (v := ((-2 : Int32) * (r_1 - r_2)) - (1 : Int32)) hx hb hr (fun t ht hW => ⟨((-2 : Int32) * (r_1 - r_2)) - (1 : Int32), rfl, hw, ht⟩) (fun q h => nomatch h) dZK_numberAt_30
  · have hw := hw.2 c_3
    refine lv_iconst (v := (2 : Int32)) hx hb dZK_numberAt_18 (by decide) ?_
    refine lv_iload_n hx hb dZK_numberAt_19 rfl (lv_at hl 0 rfl) ?_
    refine lv_imul hx hb dZK_numberAt_20 ?_
    refine lv_goto (tgt := 30) hx hb dZK_numberAt_21 (by decide) ?_
    subst hQ9
    exact W.iret (v := (2 : Int32) * (r_1 - r_2)) hx hb hr (fun t ht hW => ⟨(2 : Int32) * (r_1 - r_2), rfl, hw, ht⟩) (fun q h => nomatch h) dZK_numberAt_30
theorem dZK_greatestNumber_0 : decode cZK_greatestNumber 0 = .ok (.iconst 0, 1) := by decide +kernel
theorem dZK_greatestNumber_1 : decode cZK_greatestNumber 1 = .ok (.istore_n 2, 1) := by decide +kernel
theorem dZK_greatestNumber_2 : decode cZK_greatestNumber 2 = .ok (.iconst 0, 1) := by decide +kernel
theorem dZK_greatestNumber_3 : decode cZK_greatestNumber 3 = .ok (.istore_n 3, 1) := by decide +kernel
theorem dZK_greatestNumber_4 : decode cZK_greatestNumber 4 = .ok (.iload_n 3, 1) := by decide +kernel
theorem dZK_greatestNumber_5 : decode cZK_greatestNumber 5 = .ok (.aload_n 0, 1) := by decide +kernel
theorem dZK_greatestNumber_6 : decode cZK_greatestNumber 6 = .ok (.getfield 15, 3) := by decide +kernel
theorem dZK_greatestNumber_9 : decode cZK_greatestNumber 9 = .ok (.if_icmp .ge 20, 3) := by decide +kernel
theorem dZK_greatestNumber_12 : decode cZK_greatestNumber 12 = .ok (.iload_n 2, 1) := by decide +kernel
theorem dZK_greatestNumber_13 : decode cZK_greatestNumber 13 = .ok (.aload_n 0, 1) := by decide +kernel
theorem dZK_greatestNumber_14 : decode cZK_greatestNumber 14 = .ok (.iload_n 3, 1) := by decide +kernel
theorem dZK_greatestNumber_15 : decode cZK_greatestNumber 15 = .ok (.iload_n 1, 1) := by decide +kernel
theorem dZK_greatestNumber_16 : decode cZK_greatestNumber 16 = .ok (.invokestatic 44, 3) := by decide +kernel
theorem dZK_greatestNumber_19 : decode cZK_greatestNumber 19 = .ok (.invokestatic 48, 3) := by decide +kernel
theorem dZK_greatestNumber_22 : decode cZK_greatestNumber 22 = .ok (.istore_n 2, 1) := by decide +kernel
theorem dZK_greatestNumber_23 : decode cZK_greatestNumber 23 = .ok (.iinc 3 1, 3) := by decide +kernel
theorem dZK_greatestNumber_26 : decode cZK_greatestNumber 26 = .ok (.goto (-22), 3) := by decide +kernel
theorem dZK_greatestNumber_29 : decode cZK_greatestNumber 29 = .ok (.iload_n 2, 1) := by decide +kernel
theorem dZK_greatestNumber_30 : decode cZK_greatestNumber 30 = .ok (.ireturn, 1) := by decide +kernel
abbrev wsZK_greatestNumber : List Cond := .code yZK_greatestNumber cZK_greatestNumber 4 (some .int) :: tbg
def lp_ZK_greatestNumber_4 (tw : Int32) (th : Int32) (tf : Nat → Int32) (a1 : Int32) (post : Int32 → Prop) (K4 : Int32 → Int32 → Prop) (n : Nat) : Int32 → Int32 → Prop := Nat.rec (motive := fun _ => Int32 → Int32 → Prop) (fun (x2_4 : Int32) (x3_4 : Int32) => False) (fun _ ih4 (x2_4 : Int32) (x3_4 : Int32) => ((tw ≤ x3_4 → (K4 x2_4 x3_4)) ∧ (¬ tw ≤ x3_4 → (wp_ZK_numberAt tw th tf x3_4 a1 (fun r_2 : Int32 => ih4 (if x2_4 < r_2 then r_2 else x2_4) (x3_4 + (1 : Int32))))))) n
def wp_ZK_greatestNumber (tw : Int32) (th : Int32) (tf : Nat → Int32) (a1 : Int32) (post : Int32 → Prop) : Prop := ∃ n : Nat, lp_ZK_greatestNumber_4 tw th tf a1 post (fun (x2_4e : Int32) (x3_4e : Int32) => post x2_4e) n (0 : Int32) (0 : Int32)
abbrev rm_ZK_greatestNumber : Room := { frames := 3, cells := 0, slots := 0, locals := 67 }
set_option maxHeartbeats 4000000 in
set_option maxRecDepth 100000 in
theorem kt_ZK_greatestNumber (l : Launch) (dC : Nat → ClassId) (dI : Nat → Nat → Nat) (cI : ClassId) (ot ota : Nat) (tw : Int32) (th : Int32) (tf : Nat → Int32) (a1 : Int32) (post : Int32 → Prop) (hw : wp_ZK_greatestNumber tw th tf a1 post) : Met l yZK_greatestNumber wsZK_greatestNumber rm_ZK_greatestNumber (gr_Pc dC dI [(cI, .int)] [.ref ot, .int a1] [(ot, .inr (4, [.ref ota, .int tw, .int th])), (ota, .inl (cI, 64, .inl tf))]) (vp_Si post) 0 0 (fun _ => False) := by
  refine Met.ofW (cc := cZK_greatestNumber) (maxL := 4) (ret := (some .int)) (by decide) rfl ?_
  intro p e s m args below meth c s₁ B hml hv
  obtain ⟨ha9, hP, hK, hE⟩ := hv
  have hx := B.exec
  have hb := B.bytes
  have hr := B.returns
  have hts0 := atoms_spec (ws := wsZK_greatestNumber) B.pre
  have hts : ∀ w ∈ tbg, w.before args s = true := fun w h => hts0 w (List.mem_cons_of_mem _ h)
  have hown : s.vm.findClass RZK = some m.cls := findClass_of_methodNamed B.named
  have hlocks := B.notSynchronized
  refine gx_Q (fun Q9 hQ9 => ?_)
  have hl := lv_entry ([.ref ot, .int a1]) (n := 4) (Nat.le_of_ble_eq_true rfl)
  have he9 : entryFrame m args 4 = F0 m 0 ((lg_sl [.ref ot, .int a1] ++ List.replicate (4 - (lg_sl ([.ref ot, .int a1] : List Value)).length) Slot.unset).toArray) [] := by rw [ha9]; exact lg_entry_eq m [.ref ot, .int a1] 4
  rw [he9]
  generalize (lg_sl ([.ref ot, .int a1] : List Value) ++ List.replicate (4 - (lg_sl ([.ref ot, .int a1] : List Value)).length) Slot.unset).toArray = ls at hl ⊢
  have hl : lv_has ls 4 [(0, .ref ot), (1, .int a1)] := hl
  refine lv_iconst (v := (0 : Int32)) hx hb dZK_greatestNumber_0 (by decide) ?_
  refine lv_istore_n (lv' := [(2, .int (0 : Int32)), (0, .ref ot), (1, .int a1)]) hx hb dZK_greatestNumber_1 rfl hl (by decide) rfl (fun ls hl => ?_)
  refine lv_iconst (v := (0 : Int32)) hx hb dZK_greatestNumber_2 (by decide) ?_
  refine lv_istore_n (lv' := [(3, .int (0 : Int32)), (2, .int (0 : Int32)), (0, .ref ot), (1, .int a1)]) hx hb dZK_greatestNumber_3 rfl hl (by decide) rfl (fun ls hl => ?_)
  have lp4 : ∀ K4 : Int32 → Int32 → Prop, (∀ (x2_4 : Int32) (x3_4 : Int32), K4 x2_4 x3_4 → ∀ ls : Array Slot, lv_has ls 4 [(3, .int x3_4), (2, .int x2_4), (0, .ref ot), (1, .int a1)] → W p l e (headSpec wsZK_greatestNumber rm_ZK_greatestNumber).room s m args below meth c s.heap [] 0 0 Q9 (F0 m 29 ls [])) → ∀ (n : Nat) (x2_4 : Int32) (x3_4 : Int32), lp_ZK_greatestNumber_4 tw th tf a1 post K4 n x2_4 x3_4 → ∀ ls : Array Slot, lv_has ls 4 [(3, .int x3_4), (2, .int x2_4), (0, .ref ot), (1, .int a1)] → W p l e (headSpec wsZK_greatestNumber rm_ZK_greatestNumber).room s m args below meth c s.heap [] 0 0 Q9 (F0 m 4 ls []) := by
    intro K4 aft4 n
    induction n with
    | zero => intro x2_4 x3_4 hw; exact False.elim hw
    | succ n ih4 =>
      intro x2_4 x3_4 hw ls hl
      refine lv_iload_n hx hb dZK_greatestNumber_4 rfl (lv_at hl 0 rfl) ?_
      refine lv_aload_n hx hb dZK_greatestNumber_5 rfl (lv_at hl 2 rfl) ?_
      refine va_get (D := (dC, dI)) (ci := 4) (v := .int tw) (C := RZT) (T := TZT) (N := 3) hx hb hts inZT hown hK hP 0 rfl rfl 1 (by decide) (hts _ mm_120) (fun _ h9 => h9) rfl dZK_greatestNumber_6 ?_
      refine lv_icmp_ge (tgt := 29) hx hb dZK_greatestNumber_9 (by decide) (fun c_1 => ?_) (fun c_1 => ?_)
      · have hw := hw.1 c_1
        exact aft4 x2_4 x3_4 hw ls (lv_sub hl [0, 1, 2, 3] rfl)
      · have hw := hw.2 c_1
        refine lv_iload_n hx hb dZK_greatestNumber_12 rfl (lv_at hl 1 rfl) ?_
        refine lv_aload_n hx hb dZK_greatestNumber_13 rfl (lv_at hl 2 rfl) ?_
        refine lv_iload_n hx hb dZK_greatestNumber_14 rfl (lv_at hl 0 rfl) ?_
        refine lv_iload_n hx hb dZK_greatestNumber_15 rfl (lv_at hl 3 rfl) ?_
        refine vp_callSi (va_runS (As := [.ref ot, .int x3_4, .int a1]) (rest := [.int x2_4]) ⟨hx, hb, hml, hown, hts⟩ (kt_ZK_numberAt l dC dI cI ot ota tw th tf x3_4 a1 _ hw) (va_cwS 3 hts (tb_S mm_495 mm_496 mm_14 mm_497) rfl rfl rfl (by decide +kernel) ⟨Nat.le_of_ble_eq_true rfl, Nat.le_of_ble_eq_true rfl⟩) ⟨gr_blind, fun U hU hW => gr_pre hP hK hE hU hW⟩ rfl rfl hl.1 rfl (lv_room (Nat.le_of_ble_eq_true rfl)) dZK_greatestNumber_16 ⟨Nat.le_of_ble_eq_true rfl, Nat.le_of_ble_eq_true rfl⟩).run (fun r_2 hw => ?_)
        refine va_mmax hx hb (hml.trans hl.1.symm) hown (hts _ mm_500) (hts _ mm_29) (hts _ mm_2) (hts _ mm_30) (Nat.le_of_ble_eq_true rfl) (Nat.le_of_ble_eq_true rfl) (Nat.le_of_ble_eq_true rfl) (Nat.le_of_ble_eq_true rfl) dZK_greatestNumber_19 ?_
        refine lv_istore_n (lv' := [(2, .int (if x2_4 < r_2 then r_2 else x2_4)), (3, .int x3_4), (0, .ref ot), (1, .int a1)]) hx hb dZK_greatestNumber_22 rfl hl (by decide) rfl (fun ls hl => ?_)
        refine lv_iinc (v := x3_4 + (1 : Int32)) (lv' := [(3, .int (x3_4 + (1 : Int32))), (2, .int (if x2_4 < r_2 then r_2 else x2_4)), (0, .ref ot), (1, .int a1)]) hx hb dZK_greatestNumber_23 hl (k := 1) rfl rfl (by decide) rfl (fun ls hl => ?_)
        refine lv_goto (tgt := 4) hx hb dZK_greatestNumber_26 (by decide) ?_
        exact ih4 (if x2_4 < r_2 then r_2 else x2_4) (x3_4 + (1 : Int32)) hw ls (lv_sub hl [0, 1, 2, 3] rfl)
  obtain ⟨n4, hw⟩ := hw
  refine lp4 _ (fun x2_4e x3_4e hw ls hl => ?_) n4 (0 : Int32) (0 : Int32) hw ls (lv_sub hl [0, 1, 2, 3] rfl)
  refine lv_iload_n hx hb dZK_greatestNumber_29 rfl (lv_at hl 1 rfl) ?_
  subst hQ9
  exact W.iret (v := x2_4e) hx hb hr (fun t ht hW => ⟨x2_4e, rfl, hw, ht⟩) (fun q h => nomatch h) dZK_greatestNumber_30
theorem dZK_packRow_0 : decode cZK_packRow 0 = .ok (.aload_n 0, 1) := by decide +kernel
theorem dZK_packRow_1 : decode cZK_packRow 1 = .ok (.iload_n 1, 1) := by decide +kernel
theorem dZK_packRow_2 : decode cZK_packRow 2 = .ok (.invokestatic 37, 3) := by decide +kernel
theorem dZK_packRow_5 : decode cZK_packRow 5 = .ok (.invokestatic 41, 3) := by decide +kernel
theorem dZK_packRow_8 : decode cZK_packRow 8 = .ok (.istore_n 3, 1) := by decide +kernel
theorem dZK_packRow_9 : decode cZK_packRow 9 = .ok (.aload_n 2, 1) := by decide +kernel
theorem dZK_packRow_10 : decode cZK_packRow 10 = .ok (.iload_n 3, 1) := by decide +kernel
theorem dZK_packRow_11 : decode cZK_packRow 11 = .ok (.invokevirtual 20, 3) := by decide +kernel
theorem dZK_packRow_14 : decode cZK_packRow 14 = .ok (.iconst 0, 1) := by decide +kernel
theorem dZK_packRow_15 : decode cZK_packRow 15 = .ok (.istore 4, 2) := by decide +kernel
theorem dZK_packRow_17 : decode cZK_packRow 17 = .ok (.iconst 0, 1) := by decide +kernel
theorem dZK_packRow_18 : decode cZK_packRow 18 = .ok (.istore 5, 2) := by decide +kernel
theorem dZK_packRow_20 : decode cZK_packRow 20 = .ok (.iconst 0, 1) := by decide +kernel
theorem dZK_packRow_21 : decode cZK_packRow 21 = .ok (.istore 6, 2) := by decide +kernel
theorem dZK_packRow_23 : decode cZK_packRow 23 = .ok (.iload 6, 2) := by decide +kernel
theorem dZK_packRow_25 : decode cZK_packRow 25 = .ok (.aload_n 0, 1) := by decide +kernel
theorem dZK_packRow_26 : decode cZK_packRow 26 = .ok (.getfield 15, 3) := by decide +kernel
theorem dZK_packRow_29 : decode cZK_packRow 29 = .ok (.if_icmp .ge 60, 3) := by decide +kernel
theorem dZK_packRow_32 : decode cZK_packRow 32 = .ok (.iload 4, 2) := by decide +kernel
theorem dZK_packRow_34 : decode cZK_packRow 34 = .ok (.aload_n 0, 1) := by decide +kernel
theorem dZK_packRow_35 : decode cZK_packRow 35 = .ok (.iload 6, 2) := by decide +kernel
theorem dZK_packRow_37 : decode cZK_packRow 37 = .ok (.iload_n 1, 1) := by decide +kernel
theorem dZK_packRow_38 : decode cZK_packRow 38 = .ok (.invokestatic 44, 3) := by decide +kernel
theorem dZK_packRow_41 : decode cZK_packRow 41 = .ok (.iload 5, 2) := by decide +kernel
theorem dZK_packRow_43 : decode cZK_packRow 43 = .ok (.ishl, 1) := by decide +kernel
theorem dZK_packRow_44 : decode cZK_packRow 44 = .ok (.ior, 1) := by decide +kernel
theorem dZK_packRow_45 : decode cZK_packRow 45 = .ok (.istore 4, 2) := by decide +kernel
theorem dZK_packRow_47 : decode cZK_packRow 47 = .ok (.iload 5, 2) := by decide +kernel
theorem dZK_packRow_49 : decode cZK_packRow 49 = .ok (.iload_n 3, 1) := by decide +kernel
theorem dZK_packRow_50 : decode cZK_packRow 50 = .ok (.iadd, 1) := by decide +kernel
theorem dZK_packRow_51 : decode cZK_packRow 51 = .ok (.istore 5, 2) := by decide +kernel
theorem dZK_packRow_53 : decode cZK_packRow 53 = .ok (.iload 5, 2) := by decide +kernel
theorem dZK_packRow_55 : decode cZK_packRow 55 = .ok (.bipush 8, 2) := by decide +kernel
theorem dZK_packRow_57 : decode cZK_packRow 57 = .ok (.if_icmp .lt 26, 3) := by decide +kernel
theorem dZK_packRow_60 : decode cZK_packRow 60 = .ok (.aload_n 2, 1) := by decide +kernel
theorem dZK_packRow_61 : decode cZK_packRow 61 = .ok (.iload 4, 2) := by decide +kernel
theorem dZK_packRow_63 : decode cZK_packRow 63 = .ok (.sipush 255, 3) := by decide +kernel
theorem dZK_packRow_66 : decode cZK_packRow 66 = .ok (.iand, 1) := by decide +kernel
theorem dZK_packRow_67 : decode cZK_packRow 67 = .ok (.invokevirtual 20, 3) := by decide +kernel
theorem dZK_packRow_70 : decode cZK_packRow 70 = .ok (.iload 4, 2) := by decide +kernel
theorem dZK_packRow_72 : decode cZK_packRow 72 = .ok (.bipush 8, 2) := by decide +kernel
theorem dZK_packRow_74 : decode cZK_packRow 74 = .ok (.ishr, 1) := by decide +kernel
theorem dZK_packRow_75 : decode cZK_packRow 75 = .ok (.istore 4, 2) := by decide +kernel
theorem dZK_packRow_77 : decode cZK_packRow 77 = .ok (.iinc 5 (-8), 3) := by decide +kernel
theorem dZK_packRow_80 : decode cZK_packRow 80 = .ok (.goto (-27), 3) := by decide +kernel
theorem dZK_packRow_83 : decode cZK_packRow 83 = .ok (.iinc 6 1, 3) := by decide +kernel
theorem dZK_packRow_86 : decode cZK_packRow 86 = .ok (.goto (-63), 3) := by decide +kernel
theorem dZK_packRow_89 : decode cZK_packRow 89 = .ok (.iload 5, 2) := by decide +kernel
theorem dZK_packRow_91 : decode cZK_packRow 91 = .ok (.ifCond .le 9, 3) := by decide +kernel
theorem dZK_packRow_94 : decode cZK_packRow 94 = .ok (.aload_n 2, 1) := by decide +kernel
theorem dZK_packRow_95 : decode cZK_packRow 95 = .ok (.iload 4, 2) := by decide +kernel
theorem dZK_packRow_97 : decode cZK_packRow 97 = .ok (.invokevirtual 20, 3) := by decide +kernel
theorem dZK_packRow_100 : decode cZK_packRow 100 = .ok (.return_, 1) := by decide +kernel
abbrev wsZK_packRow : List Cond := .code yZK_packRow cZK_packRow 7 none :: tbg
def lp_ZK_packRow_53 (tw : Int32) (th : Int32) (tf : Nat → Int32) (bl : Int32) (bf : Nat → Int32) (a1 : Int32) (r_1 : Int32) (r_2 : Int32) (bl_3 : Int32) (bf_4 : Nat → Int32) (x4_23 : Int32) (x5_23 : Int32) (x6_23 : Int32) (v1_23_ob : Int32) (f_23_oba : Nat → Int32) (r_6 : Int32) (post : Int32 → (Nat → Int32) → Prop) (K53 : Int32 → Int32 → Int32 → (Nat → Int32) → Prop) (n : Nat) : Int32 → Int32 → Int32 → (Nat → Int32) → Prop := Nat.rec (motive := fun _ => Int32 → Int32 → Int32 → (Nat → Int32) → Prop) (fun (x4_53 : Int32) (x5_53 : Int32) (v1_53_ob : Int32) (f_53_oba : Nat → Int32) => False) (fun _ ih53 (x4_53 : Int32) (x5_53 : Int32) (v1_53_ob : Int32) (f_53_oba : Nat → Int32) => ((x5_53 < (8 : Int32) → (K53 x4_53 x5_53 v1_53_ob f_53_oba)) ∧ (¬ x5_53 < (8 : Int32) → (wp_ZB_append v1_53_ob f_53_oba (x4_53 &&& (255 : Int32)) (fun (bl_8 : Int32) (bf_9 : Nat → Int32) => ih53 (x4_53 >>> ((8 : Int32) &&& 31)) (x5_53 + (-8 : Int32)) bl_8 bf_9))))) n
def lp_ZK_packRow_23 (tw : Int32) (th : Int32) (tf : Nat → Int32) (bl : Int32) (bf : Nat → Int32) (a1 : Int32) (r_1 : Int32) (r_2 : Int32) (bl_3 : Int32) (bf_4 : Nat → Int32) (post : Int32 → (Nat → Int32) → Prop) (K23 : Int32 → Int32 → Int32 → Int32 → (Nat → Int32) → Prop) (n : Nat) : Int32 → Int32 → Int32 → Int32 → (Nat → Int32) → Prop := Nat.rec (motive := fun _ => Int32 → Int32 → Int32 → Int32 → (Nat → Int32) → Prop) (fun (x4_23 : Int32) (x5_23 : Int32) (x6_23 : Int32) (v1_23_ob : Int32) (f_23_oba : Nat → Int32) => False) (fun _ ih23 (x4_23 : Int32) (x5_23 : Int32) (x6_23 : Int32) (v1_23_ob : Int32) (f_23_oba : Nat → Int32) => ((tw ≤ x6_23 → (K23 x4_23 x5_23 x6_23 v1_23_ob f_23_oba)) ∧ (¬ tw ≤ x6_23 → (wp_ZK_numberAt tw th tf x6_23 a1 (fun r_6 : Int32 => ∃ n : Nat, lp_ZK_packRow_53 tw th tf bl bf a1 r_1 r_2 bl_3 bf_4 x4_23 x5_23 x6_23 v1_23_ob f_23_oba r_6 post (fun (x4_53e : Int32) (x5_53e : Int32) (v1_53e_ob : Int32) (f_53e_oba : Nat → Int32) => ih23 x4_53e x5_53e (x6_23 + (1 : Int32)) v1_53e_ob f_53e_oba) n (x4_23 ||| (r_6 <<< (x5_23 &&& 31))) (x5_23 + r_2) v1_23_ob f_23_oba))))) n
def wp_ZK_packRow (tw : Int32) (th : Int32) (tf : Nat → Int32) (bl : Int32) (bf : Nat → Int32) (a1 : Int32) (post : Int32 → (Nat → Int32) → Prop) : Prop := wp_ZK_greatestNumber tw th tf a1 (fun r_1 : Int32 => wp_ZQ_bitsNeeded r_1 (fun r_2 : Int32 => wp_ZB_append bl bf r_2 (fun (bl_3 : Int32) (bf_4 : Nat → Int32) => ∃ n : Nat, lp_ZK_packRow_23 tw th tf bl bf a1 r_1 r_2 bl_3 bf_4 post (fun (x4_23e : Int32) (x5_23e : Int32) (x6_23e : Int32) (v1_23e_ob : Int32) (f_23e_oba : Nat → Int32) => ((x5_23e ≤ (0 : Int32) → (post v1_23e_ob f_23e_oba)) ∧ (¬ x5_23e ≤ (0 : Int32) → (wp_ZB_append v1_23e_ob f_23e_oba x4_23e (fun (bl_11 : Int32) (bf_12 : Nat → Int32) => post bl_11 bf_12))))) n (0 : Int32) (0 : Int32) (0 : Int32) bl_3 bf_4)))
abbrev rm_ZK_packRow : Room := { frames := 4, cells := 0, slots := 0, locals := 90 }
set_option maxHeartbeats 4000000 in
set_option maxRecDepth 100000 in
theorem kt_ZK_packRow (l : Launch) (dC : Nat → ClassId) (dI : Nat → Nat → Nat) (cI : ClassId) (ot ota ob oba : Nat) (sz : Nat) (tw : Int32) (th : Int32) (tf : Nat → Int32) (bl : Int32) (bf : Nat → Int32) (a1 : Int32) (post : Int32 → (Nat → Int32) → Prop) (hw : wp_ZK_packRow tw th tf bl bf a1 post) : Met l yZK_packRow wsZK_packRow rm_ZK_packRow (gw_Pc dC dI [(cI, .int)] [.ref ot, .int a1, .ref ob] [(ot, .inr (4, [.ref ota, .int tw, .int th])), (ota, .inl (cI, 64, .inl tf)), (ob, .inr (0, [.ref oba, .int bl])), (oba, .inl (cI, 256, .inl bf))] sz) (va_Qv (fun (u : Int32 × (Nat → Int32)) => post u.1 u.2) (fun u t => gw_B dC dI [(cI, .int)] (va_A [(ot, .inr (4, [.ref ota, .int tw, .int th])), (ota, .inl (cI, 64, .inl tf)), (ob, .inr (0, [.ref oba, .int bl])), (oba, .inl (cI, 256, .inl bf))] sz) [(ot, .inr (4, [.ref ota, .int tw, .int th])), (ota, .inl (cI, 64, .inl tf)), (ob, .inr (0, [.ref oba, .int u.1])), (oba, .inl (cI, 256, .inl u.2))] t) (va_A [(ot, .inr (4, [.ref ota, .int tw, .int th])), (ota, .inl (cI, 64, .inl tf)), (ob, .inr (0, [.ref oba, .int bl])), (oba, .inl (cI, 256, .inl bf))] sz)) 0 0 (va_A [(ot, .inr (4, [.ref ota, .int tw, .int th])), (ota, .inl (cI, 64, .inl tf)), (ob, .inr (0, [.ref oba, .int bl])), (oba, .inl (cI, 256, .inl bf))] sz) := by
  refine Met.ofW (cc := cZK_packRow) (maxL := 7) (ret := none) (by decide) rfl ?_
  intro p e s m args below meth c s₁ B hml hv
  obtain ⟨ha9, hsz, hP, hK, hE, hD0⟩ := hv
  have hx := B.exec
  have hb := B.bytes
  have hr := B.returns
  have hts0 := atoms_spec (ws := wsZK_packRow) B.pre
  have hts : ∀ w ∈ tbg, w.before args s = true := fun w h => hts0 w (List.mem_cons_of_mem _ h)
  have hown : s.vm.findClass RZK = some m.cls := findClass_of_methodNamed B.named
  have hlocks := B.notSynchronized
  subst hsz
  have hD := hD0.self (sz := s.heap.size)
  refine gx_Q (fun Q9 hQ9 => ?_)
  generalize hAe : va_A [(ot, .inr (4, [.ref ota, .int tw, .int th])), (ota, .inl (cI, 64, .inl tf)), (ob, .inr (0, [.ref oba, .int bl])), (oba, .inl (cI, 256, .inl bf))] s.heap.size = A at hD hQ9 ⊢
  have hA : ∀ q : Nat, s.heap.size ≤ q → A q := fun q h => by rw [← hAe]; exact Or.inr h
  have hS : va_S A s.heap s.heap [] := va_S.rf
  have hl := lv_entry ([.ref ot, .int a1, .ref ob]) (n := 7) (Nat.le_of_ble_eq_true rfl)
  have he9 : entryFrame m args 7 = F0 m 0 ((lg_sl [.ref ot, .int a1, .ref ob] ++ List.replicate (7 - (lg_sl ([.ref ot, .int a1, .ref ob] : List Value)).length) Slot.unset).toArray) [] := by rw [ha9]; exact lg_entry_eq m [.ref ot, .int a1, .ref ob] 7
  rw [he9]
  generalize (lg_sl ([.ref ot, .int a1, .ref ob] : List Value) ++ List.replicate (7 - (lg_sl ([.ref ot, .int a1, .ref ob] : List Value)).length) Slot.unset).toArray = ls at hl ⊢
  have hl : lv_has ls 7 [(0, .ref ot), (1, .int a1), (2, .ref ob)] := hl
  refine lv_aload_n hx hb dZK_packRow_0 rfl (lv_at hl 0 rfl) ?_
  refine lv_iload_n hx hb dZK_packRow_1 rfl (lv_at hl 1 rfl) ?_
  have hPc := hP.sub (ws' := [(ot, .inr (4, [.ref ota, .int tw, .int th])), (ota, .inl (cI, 64, .inl tf))]) [0, 1] rfl
  refine vp_callSi (va_runS (As := [.ref ot, .int a1]) (rest := []) ⟨hx, hb, hml, hown, hts⟩ (kt_ZK_greatestNumber l dC dI cI ot ota tw th tf a1 _ hw) (va_cwS 2 hts (tb_S mm_492 mm_493 mm_14 mm_494) rfl rfl rfl (by decide +kernel) ⟨Nat.le_of_ble_eq_true rfl, Nat.le_of_ble_eq_true rfl⟩) ⟨gr_blind, fun U hU hW => gr_pre hPc hK hE hU hW⟩ rfl rfl hl.1 rfl (lv_room (Nat.le_of_ble_eq_true rfl)) dZK_packRow_2 ⟨Nat.le_of_ble_eq_true rfl, Nat.le_of_ble_eq_true rfl⟩).run (fun r_1 hw => ?_)
  have hPc := hP.sub (ws' := []) [] rfl
  refine vp_callSi (va_runSN (As := [.int r_1]) (rest := []) ⟨hx, hb, hml, hown, hts⟩ (kt_ZQ_bitsNeeded l dC dI cI  r_1 _ hw) ⟨(va_cnB 1 hts (tb_0 mm_216) rfl rfl rfl (gxE_15 hE) (hts _ mm_1) (by decide +kernel) ⟨Nat.le_of_ble_eq_true rfl, Nat.le_of_ble_eq_true rfl⟩), hts _ mm_215, trivial⟩ ⟨gr_blind, fun U hU hW => gr_pre hPc hK hE hU hW⟩ rfl rfl hl.1 rfl (lv_room (Nat.le_of_ble_eq_true rfl)) dZK_packRow_5 ⟨Nat.le_of_ble_eq_true rfl, Nat.le_of_ble_eq_true rfl⟩).run (fun r_2 hw => ?_)
  refine lv_istore_n (lv' := [(3, .int r_2), (0, .ref ot), (1, .int a1), (2, .ref ob)]) hx hb dZK_packRow_8 rfl hl (by decide) rfl (fun ls hl => ?_)
  refine lv_aload_n hx hb dZK_packRow_9 rfl (lv_at hl 3 rfl) ?_
  refine lv_iload_n hx hb dZK_packRow_10 rfl (lv_at hl 0 rfl) ?_
  have hPc := hP.sub (ws' := [(ob, .inr (0, [.ref oba, .int bl])), (oba, .inl (cI, 256, .inl bf))]) [2, 3] rfl
  have hDc := hD.sub (ws' := [(ob, .inr (0, [.ref oba, .int bl])), (oba, .inl (cI, 256, .inl bf))]) [2, 3] (by decide) rfl
  have hFc := va_free (wc := [(ob, .inr (0, [.ref oba, .int bl])), (oba, .inl (cI, 256, .inl bf))]) hD hS hA [2, 3] rfl
  refine va_callv (va_runV (As := [.int r_2]) (rest := []) ⟨hx, hb, hml, hown, hts⟩ (kt_ZB_append l dC dI cI ob oba _ bl bf r_2 _ hw) (cwV 1 hts (tb_V mm_481 mm_482 mm_483 mm_5 mm_484) rfl rfl rfl (by decide +kernel) ⟨Nat.le_of_ble_eq_true rfl, Nat.le_of_ble_eq_true rfl⟩) ⟨gw_blind, va_recv hK hPc (ci := 0) (q0 := 0) rfl rfl, fun U hU hW => gw_pre hPc hDc hK hE hU hW⟩ rfl rfl hl.1 rfl (lv_room (Nat.le_of_ble_eq_true rfl)) dZK_packRow_11 ⟨Nat.le_of_ble_eq_true rfl, Nat.le_of_ble_eq_true rfl⟩) hS (fun q _ h => hFc q h) hFc (fun u t H1 locs ht hvm hw hB hz1 hk1 hS => ?_)
  obtain ⟨bl_3, bf_4⟩ := u
  obtain ⟨hP1, hK1, hD1⟩ := hB
  rw [ht] at hP1
  try dsimp only at hw
  obtain ⟨hP, hD⟩ := va_join (wr := [(ot, .inr (4, [.ref ota, .int tw, .int th])), (ota, .inl (cI, 64, .inl tf))]) (w1 := [(ob, .inr (0, [.ref oba, .int bl_3])), (oba, .inl (cI, 256, .inl bf_4))]) hP hD [2, 3] [0, 1] rfl rfl (by decide) (by decide) hk1 hFc hP1 hD1
  generalize H1 = H at hP hS ⊢
  have hP : va_P (dC, dI) vwCl [(ot, .inr (4, [.ref ota, .int tw, .int th])), (ota, .inl (cI, 64, .inl tf)), (ob, .inr (0, [.ref oba, .int bl_3])), (oba, .inl (cI, 256, .inl bf_4))] H := hP
  have hD : va_D A [(ot, .inr (4, [.ref ota, .int tw, .int th])), (ota, .inl (cI, 64, .inl tf)), (ob, .inr (0, [.ref oba, .int bl_3])), (oba, .inl (cI, 256, .inl bf_4))] := hD
  refine lv_iconst (v := (0 : Int32)) hx hb dZK_packRow_14 (by decide) ?_
  refine lv_istore (lv' := [(4, .int (0 : Int32)), (3, .int r_2), (0, .ref ot), (1, .int a1), (2, .ref ob)]) hx hb dZK_packRow_15 hl (by decide) rfl (fun ls hl => ?_)
  refine lv_iconst (v := (0 : Int32)) hx hb dZK_packRow_17 (by decide) ?_
  refine lv_istore (lv' := [(5, .int (0 : Int32)), (4, .int (0 : Int32)), (3, .int r_2), (0, .ref ot), (1, .int a1), (2, .ref ob)]) hx hb dZK_packRow_18 hl (by decide) rfl (fun ls hl => ?_)
  refine lv_iconst (v := (0 : Int32)) hx hb dZK_packRow_20 (by decide) ?_
  refine lv_istore (lv' := [(6, .int (0 : Int32)), (5, .int (0 : Int32)), (4, .int (0 : Int32)), (3, .int r_2), (0, .ref ot), (1, .int a1), (2, .ref ob)]) hx hb dZK_packRow_21 hl (by decide) rfl (fun ls hl => ?_)
  have lp23 : ∀ K23 : Int32 → Int32 → Int32 → Int32 → (Nat → Int32) → Prop, (∀ (x4_23 : Int32) (x5_23 : Int32) (x6_23 : Int32) (v1_23_ob : Int32) (f_23_oba : Nat → Int32), K23 x4_23 x5_23 x6_23 v1_23_ob f_23_oba → ∀ (H : Heap) (locs : List Loc), va_P (dC, dI) vwCl [(ot, .inr (4, [.ref ota, .int tw, .int th])), (ota, .inl (cI, 64, .inl tf)), (ob, .inr (0, [.ref oba, .int v1_23_ob])), (oba, .inl (cI, 256, .inl f_23_oba))] H → va_D A [(ot, .inr (4, [.ref ota, .int tw, .int th])), (ota, .inl (cI, 64, .inl tf)), (ob, .inr (0, [.ref oba, .int v1_23_ob])), (oba, .inl (cI, 256, .inl f_23_oba))] → va_S A s.heap H locs → ∀ ls : Array Slot, lv_has ls 7 [(6, .int x6_23), (5, .int x5_23), (4, .int x4_23), (3, .int r_2), (0, .ref ot), (1, .int a1), (2, .ref ob)] → W p l e (headSpec wsZK_packRow rm_ZK_packRow).room s m args below meth c H locs 0 0 Q9 (F0 m 89 ls [])) → ∀ (n : Nat) (x4_23 : Int32) (x5_23 : Int32) (x6_23 : Int32) (v1_23_ob : Int32) (f_23_oba : Nat → Int32), lp_ZK_packRow_23 tw th tf bl bf a1 r_1 r_2 bl_3 bf_4 post K23 n x4_23 x5_23 x6_23 v1_23_ob f_23_oba → ∀ (H : Heap) (locs : List Loc), va_P (dC, dI) vwCl [(ot, .inr (4, [.ref ota, .int tw, .int th])), (ota, .inl (cI, 64, .inl tf)), (ob, .inr (0, [.ref oba, .int v1_23_ob])), (oba, .inl (cI, 256, .inl f_23_oba))] H → va_D A [(ot, .inr (4, [.ref ota, .int tw, .int th])), (ota, .inl (cI, 64, .inl tf)), (ob, .inr (0, [.ref oba, .int v1_23_ob])), (oba, .inl (cI, 256, .inl f_23_oba))] → va_S A s.heap H locs → ∀ ls : Array Slot, lv_has ls 7 [(6, .int x6_23), (5, .int x5_23), (4, .int x4_23), (3, .int r_2), (0, .ref ot), (1, .int a1), (2, .ref ob)] → W p l e (headSpec wsZK_packRow rm_ZK_packRow).room s m args below meth c H locs 0 0 Q9 (F0 m 23 ls []) := by
    intro K23 aft23 n
    induction n with
    | zero => intro x4_23 x5_23 x6_23 v1_23_ob f_23_oba hw; exact False.elim hw
    | succ n ih23 =>
      intro x4_23 x5_23 x6_23 v1_23_ob f_23_oba hw H locs hP hD hS ls hl
      refine lv_iload hx hb dZK_packRow_23 (lv_at hl 0 rfl) ?_
      refine lv_aload_n hx hb dZK_packRow_25 rfl (lv_at hl 4 rfl) ?_
      refine va_get (D := (dC, dI)) (ci := 4) (v := .int tw) (C := RZT) (T := TZT) (N := 3) hx hb hts inZT hown hK hP 0 rfl rfl 1 (by decide) (hts _ mm_120) (fun _ h9 => h9) rfl dZK_packRow_26 ?_
      refine lv_icmp_ge (tgt := 89) hx hb dZK_packRow_29 (by decide) (fun c_5 => ?_) (fun c_5 => ?_)
      · have hw := hw.1 c_5
        exact aft23 x4_23 x5_23 x6_23 v1_23_ob f_23_oba hw _ _ (hP.sub [0, 1, 2, 3] rfl) (hD.sub [0, 1, 2, 3] (by decide) rfl) hS ls (lv_sub hl [0, 1, 2, 3, 4, 5, 6] rfl)
      · have hw := hw.2 c_5
        refine lv_iload hx hb dZK_packRow_32 (lv_at hl 2 rfl) ?_
        refine lv_aload_n hx hb dZK_packRow_34 rfl (lv_at hl 4 rfl) ?_
        refine lv_iload hx hb dZK_packRow_35 (lv_at hl 0 rfl) ?_
        refine lv_iload_n hx hb dZK_packRow_37 rfl (lv_at hl 5 rfl) ?_
        have hPc := hP.sub (ws' := [(ot, .inr (4, [.ref ota, .int tw, .int th])), (ota, .inl (cI, 64, .inl tf))]) [0, 1] rfl
        refine vp_callSi (va_runS (As := [.ref ot, .int x6_23, .int a1]) (rest := [.int x4_23]) ⟨hx, hb, hml, hown, hts⟩ (kt_ZK_numberAt l dC dI cI ot ota tw th tf x6_23 a1 _ hw) (va_cwS 3 hts (tb_S mm_495 mm_496 mm_14 mm_497) rfl rfl rfl (by decide +kernel) ⟨Nat.le_of_ble_eq_true rfl, Nat.le_of_ble_eq_true rfl⟩) ⟨gr_blind, fun U hU hW => gr_pre hPc hK hE hU hW⟩ rfl rfl hl.1 rfl (lv_room (Nat.le_of_ble_eq_true rfl)) dZK_packRow_38 ⟨Nat.le_of_ble_eq_true rfl, Nat.le_of_ble_eq_true rfl⟩).run (fun r_6 hw => ?_)
        refine lv_iload hx hb dZK_packRow_41 (lv_at hl 1 rfl) ?_
        refine lv_ishl hx hb dZK_packRow_43 ?_
        refine lv_ior hx hb dZK_packRow_44 ?_
        refine lv_istore (lv' := [(4, .int (x4_23 ||| (r_6 <<< (x5_23 &&& 31)))), (6, .int x6_23), (5, .int x5_23), (3, .int r_2), (0, .ref ot), (1, .int a1), (2, .ref ob)]) hx hb dZK_packRow_45 hl (by decide) rfl (fun ls hl => ?_)
        refine lv_iload hx hb dZK_packRow_47 (lv_at hl 2 rfl) ?_
        refine lv_iload_n hx hb dZK_packRow_49 rfl (lv_at hl 3 rfl) ?_
        refine lv_iadd hx hb dZK_packRow_50 ?_
        refine lv_istore (lv' := [(5, .int (x5_23 + r_2)), (4, .int (x4_23 ||| (r_6 <<< (x5_23 &&& 31)))), (6, .int x6_23), (3, .int r_2), (0, .ref ot), (1, .int a1), (2, .ref ob)]) hx hb dZK_packRow_51 hl (by decide) rfl (fun ls hl => ?_)
        have lp53 : ∀ K53 : Int32 → Int32 → Int32 → (Nat → Int32) → Prop, (∀ (x4_53 : Int32) (x5_53 : Int32) (v1_53_ob : Int32) (f_53_oba : Nat → Int32), K53 x4_53 x5_53 v1_53_ob f_53_oba → ∀ (H : Heap) (locs : List Loc), va_P (dC, dI) vwCl [(ot, .inr (4, [.ref ota, .int tw, .int th])), (ota, .inl (cI, 64, .inl tf)), (ob, .inr (0, [.ref oba, .int v1_53_ob])), (oba, .inl (cI, 256, .inl f_53_oba))] H → va_D A [(ot, .inr (4, [.ref ota, .int tw, .int th])), (ota, .inl (cI, 64, .inl tf)), (ob, .inr (0, [.ref oba, .int v1_53_ob])), (oba, .inl (cI, 256, .inl f_53_oba))] → va_S A s.heap H locs → ∀ ls : Array Slot, lv_has ls 7 [(5, .int x5_53), (4, .int x4_53), (6, .int x6_23), (3, .int r_2), (0, .ref ot), (1, .int a1), (2, .ref ob)] → W p l e (headSpec wsZK_packRow rm_ZK_packRow).room s m args below meth c H locs 0 0 Q9 (F0 m 83 ls [])) → ∀ (n : Nat) (x4_53 : Int32) (x5_53 : Int32) (v1_53_ob : Int32) (f_53_oba : Nat → Int32), lp_ZK_packRow_53 tw th tf bl bf a1 r_1 r_2 bl_3 bf_4 x4_23 x5_23 x6_23 v1_23_ob f_23_oba r_6 post K53 n x4_53 x5_53 v1_53_ob f_53_oba → ∀ (H : Heap) (locs : List Loc), va_P (dC, dI) vwCl [(ot, .inr (4, [.ref ota, .int tw, .int th])), (ota, .inl (cI, 64, .inl tf)), (ob, .inr (0, [.ref oba, .int v1_53_ob])), (oba, .inl (cI, 256, .inl f_53_oba))] H → va_D A [(ot, .inr (4, [.ref ota, .int tw, .int th])), (ota, .inl (cI, 64, .inl tf)), (ob, .inr (0, [.ref oba, .int v1_53_ob])), (oba, .inl (cI, 256, .inl f_53_oba))] → va_S A s.heap H locs → ∀ ls : Array Slot, lv_has ls 7 [(5, .int x5_53), (4, .int x4_53), (6, .int x6_23), (3, .int r_2), (0, .ref ot), (1, .int a1), (2, .ref ob)] → W p l e (headSpec wsZK_packRow rm_ZK_packRow).room s m args below meth c H locs 0 0 Q9 (F0 m 53 ls []) := by
          intro K53 aft53 n
          induction n with
          | zero => intro x4_53 x5_53 v1_53_ob f_53_oba hw; exact False.elim hw
          | succ n ih53 =>
            intro x4_53 x5_53 v1_53_ob f_53_oba hw H locs hP hD hS ls hl
            refine lv_iload hx hb dZK_packRow_53 (lv_at hl 0 rfl) ?_
            refine lv_bipush (v := (8 : Int32)) hx hb dZK_packRow_55 (by decide) ?_
            refine lv_icmp_lt (tgt := 83) hx hb dZK_packRow_57 (by decide) (fun c_7 => ?_) (fun c_7 => ?_)
            · have hw := hw.1 c_7
              exact aft53 x4_53 x5_53 v1_53_ob f_53_oba hw _ _ (hP.sub [0, 1, 2, 3] rfl) (hD.sub [0, 1, 2, 3] (by decide) rfl) hS ls (lv_sub hl [0, 1, 2, 3, 4, 5, 6] rfl)
            · have hw := hw.2 c_7
              refine lv_aload_n hx hb dZK_packRow_60 rfl (lv_at hl 6 rfl) ?_
              refine lv_iload hx hb dZK_packRow_61 (lv_at hl 1 rfl) ?_
              refine lv_sipush (v := (255 : Int32)) hx hb dZK_packRow_63 (by decide) ?_
              refine lv_iand hx hb dZK_packRow_66 ?_
              have hPc := hP.sub (ws' := [(ob, .inr (0, [.ref oba, .int v1_53_ob])), (oba, .inl (cI, 256, .inl f_53_oba))]) [2, 3] rfl
              have hDc := hD.sub (ws' := [(ob, .inr (0, [.ref oba, .int v1_53_ob])), (oba, .inl (cI, 256, .inl f_53_oba))]) [2, 3] (by decide) rfl
              have hFc := va_free (wc := [(ob, .inr (0, [.ref oba, .int v1_53_ob])), (oba, .inl (cI, 256, .inl f_53_oba))]) hD hS hA [2, 3] rfl
              refine va_callv (va_runV (As := [.int (x4_53 &&& (255 : Int32))]) (rest := []) ⟨hx, hb, hml, hown, hts⟩ (kt_ZB_append l dC dI cI ob oba _ v1_53_ob f_53_oba (x4_53 &&& (255 : Int32)) _ hw) (cwV 1 hts (tb_V mm_481 mm_482 mm_483 mm_5 mm_484) rfl rfl rfl (by decide +kernel) ⟨Nat.le_of_ble_eq_true rfl, Nat.le_of_ble_eq_true rfl⟩) ⟨gw_blind, va_recv hK hPc (ci := 0) (q0 := 0) rfl rfl, fun U hU hW => gw_pre hPc hDc hK hE hU hW⟩ rfl rfl hl.1 rfl (lv_room (Nat.le_of_ble_eq_true rfl)) dZK_packRow_67 ⟨Nat.le_of_ble_eq_true rfl, Nat.le_of_ble_eq_true rfl⟩) hS (fun q _ h => hFc q h) hFc (fun u t H1 locs ht hvm hw hB hz1 hk1 hS => ?_)
              obtain ⟨bl_8, bf_9⟩ := u
              obtain ⟨hP1, hK1, hD1⟩ := hB
              rw [ht] at hP1
              try dsimp only at hw
              obtain ⟨hP, hD⟩ := va_join (wr := [(ot, .inr (4, [.ref ota, .int tw, .int th])), (ota, .inl (cI, 64, .inl tf))]) (w1 := [(ob, .inr (0, [.ref oba, .int bl_8])), (oba, .inl (cI, 256, .inl bf_9))]) hP hD [2, 3] [0, 1] rfl rfl (by decide) (by decide) hk1 hFc hP1 hD1
              generalize H1 = H at hP hS ⊢
              have hP : va_P (dC, dI) vwCl [(ot, .inr (4, [.ref ota, .int tw, .int th])), (ota, .inl (cI, 64, .inl tf)), (ob, .inr (0, [.ref oba, .int bl_8])), (oba, .inl (cI, 256, .inl bf_9))] H := hP
              have hD : va_D A [(ot, .inr (4, [.ref ota, .int tw, .int th])), (ota, .inl (cI, 64, .inl tf)), (ob, .inr (0, [.ref oba, .int bl_8])), (oba, .inl (cI, 256, .inl bf_9))] := hD
              refine lv_iload hx hb dZK_packRow_70 (lv_at hl 1 rfl) ?_
              refine lv_bipush (v := (8 : Int32)) hx hb dZK_packRow_72 (by decide) ?_
              refine lv_ishr hx hb dZK_packRow_74 ?_
              refine lv_istore (lv' := [(4, .int (x4_53 >>> ((8 : Int32) &&& 31))), (5, .int x5_53), (6, .int x6_23), (3, .int r_2), (0, .ref ot), (1, .int a1), (2, .ref ob)]) hx hb dZK_packRow_75 hl (by decide) rfl (fun ls hl => ?_)
              refine lv_iinc (v := x5_53 + (-8 : Int32)) (lv' := [(5, .int (x5_53 + (-8 : Int32))), (4, .int (x4_53 >>> ((8 : Int32) &&& 31))), (6, .int x6_23), (3, .int r_2), (0, .ref ot), (1, .int a1), (2, .ref ob)]) hx hb dZK_packRow_77 hl (k := 1) rfl rfl (by decide) rfl (fun ls hl => ?_)
              refine lv_goto (tgt := 53) hx hb dZK_packRow_80 (by decide) ?_
              exact ih53 (x4_53 >>> ((8 : Int32) &&& 31)) (x5_53 + (-8 : Int32)) bl_8 bf_9 hw _ _ (hP.sub [0, 1, 2, 3] rfl) (hD.sub [0, 1, 2, 3] (by decide) rfl) hS ls (lv_sub hl [0, 1, 2, 3, 4, 5, 6] rfl)
        obtain ⟨n53, hw⟩ := hw
        refine lp53 _ (fun x4_53e x5_53e v1_53e_ob f_53e_oba hw H locs hP hD hS ls hl => ?_) n53 (x4_23 ||| (r_6 <<< (x5_23 &&& 31))) (x5_23 + r_2) v1_23_ob f_23_oba hw _ _ (hP.sub [0, 1, 2, 3] rfl) (hD.sub [0, 1, 2, 3] (by decide) rfl) hS ls (lv_sub hl [0, 1, 2, 3, 4, 5, 6] rfl)
        refine lv_iinc (v := x6_23 + (1 : Int32)) (lv' := [(6, .int (x6_23 + (1 : Int32))), (5, .int x5_53e), (4, .int x4_53e), (3, .int r_2), (0, .ref ot), (1, .int a1), (2, .ref ob)]) hx hb dZK_packRow_83 hl (k := 2) rfl rfl (by decide) rfl (fun ls hl => ?_)
        refine lv_goto (tgt := 23) hx hb dZK_packRow_86 (by decide) ?_
        exact ih23 x4_53e x5_53e (x6_23 + (1 : Int32)) v1_53e_ob f_53e_oba hw _ _ (hP.sub [0, 1, 2, 3] rfl) (hD.sub [0, 1, 2, 3] (by decide) rfl) hS ls (lv_sub hl [0, 1, 2, 3, 4, 5, 6] rfl)
  obtain ⟨n23, hw⟩ := hw
  refine lp23 _ (fun x4_23e x5_23e x6_23e v1_23e_ob f_23e_oba hw H locs hP hD hS ls hl => ?_) n23 (0 : Int32) (0 : Int32) (0 : Int32) bl_3 bf_4 hw _ _ (hP.sub [0, 1, 2, 3] rfl) (hD.sub [0, 1, 2, 3] (by decide) rfl) hS ls (lv_sub hl [0, 1, 2, 3, 4, 5, 6] rfl)
  refine lv_iload hx hb dZK_packRow_89 (lv_at hl 1 rfl) ?_
  refine lv_if_le (tgt := 100) hx hb dZK_packRow_91 (by decide) (fun c_10 => ?_) (fun c_10 => ?_)
  · have hw := hw.1 c_10
    have hP9 := hP.sub (ws' := [(ot, .inr (4, [.ref ota, .int tw, .int th])), (ota, .inl (cI, 64, .inl tf)), (ob, .inr (0, [.ref oba, .int v1_23e_ob])), (oba, .inl (cI, 256, .inl f_23e_oba))]) [0, 1, 2, 3] rfl
    have hD9 := hD.sub (ws' := [(ot, .inr (4, [.ref ota, .int tw, .int th])), (ota, .inl (cI, 64, .inl tf)), (ob, .inr (0, [.ref oba, .int v1_23e_ob])), (oba, .inl (cI, 256, .inl f_23e_oba))]) [0, 1, 2, 3] (by decide) rfl
    subst hQ9
    exact W.vret hx hb hr (fun t ht hW => ⟨⟨(v1_23e_ob, f_23e_oba), rfl, hw, by rw [ht]; exact hP9, va_K.moved hW.alike hK, hD9⟩, hS.F ht⟩) hS.2.2 dZK_packRow_100
  · have hw := hw.2 c_10
    refine lv_aload_n hx hb dZK_packRow_94 rfl (lv_at hl 6 rfl) ?_
    refine lv_iload hx hb dZK_packRow_95 (lv_at hl 2 rfl) ?_
    have hPc := hP.sub (ws' := [(ob, .inr (0, [.ref oba, .int v1_23e_ob])), (oba, .inl (cI, 256, .inl f_23e_oba))]) [2, 3] rfl
    have hDc := hD.sub (ws' := [(ob, .inr (0, [.ref oba, .int v1_23e_ob])), (oba, .inl (cI, 256, .inl f_23e_oba))]) [2, 3] (by decide) rfl
    have hFc := va_free (wc := [(ob, .inr (0, [.ref oba, .int v1_23e_ob])), (oba, .inl (cI, 256, .inl f_23e_oba))]) hD hS hA [2, 3] rfl
    refine va_callv (va_runV (As := [.int x4_23e]) (rest := []) ⟨hx, hb, hml, hown, hts⟩ (kt_ZB_append l dC dI cI ob oba _ v1_23e_ob f_23e_oba x4_23e _ hw) (cwV 1 hts (tb_V mm_481 mm_482 mm_483 mm_5 mm_484) rfl rfl rfl (by decide +kernel) ⟨Nat.le_of_ble_eq_true rfl, Nat.le_of_ble_eq_true rfl⟩) ⟨gw_blind, va_recv hK hPc (ci := 0) (q0 := 0) rfl rfl, fun U hU hW => gw_pre hPc hDc hK hE hU hW⟩ rfl rfl hl.1 rfl (lv_room (Nat.le_of_ble_eq_true rfl)) dZK_packRow_97 ⟨Nat.le_of_ble_eq_true rfl, Nat.le_of_ble_eq_true rfl⟩) hS (fun q _ h => hFc q h) hFc (fun u t H1 locs ht hvm hw hB hz1 hk1 hS => ?_)
    obtain ⟨bl_11, bf_12⟩ := u
    obtain ⟨hP1, hK1, hD1⟩ := hB
    rw [ht] at hP1
    try dsimp only at hw
    obtain ⟨hP, hD⟩ := va_join (wr := [(ot, .inr (4, [.ref ota, .int tw, .int th])), (ota, .inl (cI, 64, .inl tf))]) (w1 := [(ob, .inr (0, [.ref oba, .int bl_11])), (oba, .inl (cI, 256, .inl bf_12))]) hP hD [2, 3] [0, 1] rfl rfl (by decide) (by decide) hk1 hFc hP1 hD1
    generalize H1 = H at hP hS ⊢
    have hP : va_P (dC, dI) vwCl [(ot, .inr (4, [.ref ota, .int tw, .int th])), (ota, .inl (cI, 64, .inl tf)), (ob, .inr (0, [.ref oba, .int bl_11])), (oba, .inl (cI, 256, .inl bf_12))] H := hP
    have hD : va_D A [(ot, .inr (4, [.ref ota, .int tw, .int th])), (ota, .inl (cI, 64, .inl tf)), (ob, .inr (0, [.ref oba, .int bl_11])), (oba, .inl (cI, 256, .inl bf_12))] := hD
    have hP9 := hP.sub (ws' := [(ot, .inr (4, [.ref ota, .int tw, .int th])), (ota, .inl (cI, 64, .inl tf)), (ob, .inr (0, [.ref oba, .int bl_11])), (oba, .inl (cI, 256, .inl bf_12))]) [0, 1, 2, 3] rfl
    have hD9 := hD.sub (ws' := [(ot, .inr (4, [.ref ota, .int tw, .int th])), (ota, .inl (cI, 64, .inl tf)), (ob, .inr (0, [.ref oba, .int bl_11])), (oba, .inl (cI, 256, .inl bf_12))]) [0, 1, 2, 3] (by decide) rfl
    subst hQ9
    exact W.vret hx hb hr (fun t ht hW => ⟨⟨(bl_11, bf_12), rfl, hw, by rw [ht]; exact hP9, va_K.moved hW.alike hK, hD9⟩, hS.F ht⟩) hS.2.2 dZK_packRow_100
theorem dZK_packTile_0 : decode cZK_packTile 0 = .ok (.aload_n 1, 1) := by decide +kernel
theorem dZK_packTile_1 : decode cZK_packTile 1 = .ok (.iconst 0, 1) := by decide +kernel
theorem dZK_packTile_2 : decode cZK_packTile 2 = .ok (.putfield 9, 3) := by decide +kernel
theorem dZK_packTile_5 : decode cZK_packTile 5 = .ok (.aload_n 1, 1) := by decide +kernel
theorem dZK_packTile_6 : decode cZK_packTile 6 = .ok (.aload_n 0, 1) := by decide +kernel
theorem dZK_packTile_7 : decode cZK_packTile 7 = .ok (.getfield 15, 3) := by decide +kernel
theorem dZK_packTile_10 : decode cZK_packTile 10 = .ok (.invokevirtual 20, 3) := by decide +kernel
theorem dZK_packTile_13 : decode cZK_packTile 13 = .ok (.aload_n 1, 1) := by decide +kernel
theorem dZK_packTile_14 : decode cZK_packTile 14 = .ok (.aload_n 0, 1) := by decide +kernel
theorem dZK_packTile_15 : decode cZK_packTile 15 = .ok (.getfield 24, 3) := by decide +kernel
theorem dZK_packTile_18 : decode cZK_packTile 18 = .ok (.invokevirtual 20, 3) := by decide +kernel
theorem dZK_packTile_21 : decode cZK_packTile 21 = .ok (.iconst 0, 1) := by decide +kernel
theorem dZK_packTile_22 : decode cZK_packTile 22 = .ok (.istore_n 2, 1) := by decide +kernel
theorem dZK_packTile_23 : decode cZK_packTile 23 = .ok (.iload_n 2, 1) := by decide +kernel
theorem dZK_packTile_24 : decode cZK_packTile 24 = .ok (.aload_n 0, 1) := by decide +kernel
theorem dZK_packTile_25 : decode cZK_packTile 25 = .ok (.getfield 24, 3) := by decide +kernel
theorem dZK_packTile_28 : decode cZK_packTile 28 = .ok (.if_icmp .ge 15, 3) := by decide +kernel
theorem dZK_packTile_31 : decode cZK_packTile 31 = .ok (.aload_n 0, 1) := by decide +kernel
theorem dZK_packTile_32 : decode cZK_packTile 32 = .ok (.iload_n 2, 1) := by decide +kernel
theorem dZK_packTile_33 : decode cZK_packTile 33 = .ok (.aload_n 1, 1) := by decide +kernel
theorem dZK_packTile_34 : decode cZK_packTile 34 = .ok (.invokestatic 27, 3) := by decide +kernel
theorem dZK_packTile_37 : decode cZK_packTile 37 = .ok (.iinc 2 1, 3) := by decide +kernel
theorem dZK_packTile_40 : decode cZK_packTile 40 = .ok (.goto (-17), 3) := by decide +kernel
theorem dZK_packTile_43 : decode cZK_packTile 43 = .ok (.aload_n 1, 1) := by decide +kernel
theorem dZK_packTile_44 : decode cZK_packTile 44 = .ok (.aload_n 1, 1) := by decide +kernel
theorem dZK_packTile_45 : decode cZK_packTile 45 = .ok (.getfield 9, 3) := by decide +kernel
theorem dZK_packTile_48 : decode cZK_packTile 48 = .ok (.invokevirtual 33, 3) := by decide +kernel
theorem dZK_packTile_51 : decode cZK_packTile 51 = .ok (.istore_n 2, 1) := by decide +kernel
theorem dZK_packTile_52 : decode cZK_packTile 52 = .ok (.aload_n 1, 1) := by decide +kernel
theorem dZK_packTile_53 : decode cZK_packTile 53 = .ok (.iload_n 2, 1) := by decide +kernel
theorem dZK_packTile_54 : decode cZK_packTile 54 = .ok (.sipush 255, 3) := by decide +kernel
theorem dZK_packTile_57 : decode cZK_packTile 57 = .ok (.iand, 1) := by decide +kernel
theorem dZK_packTile_58 : decode cZK_packTile 58 = .ok (.invokevirtual 20, 3) := by decide +kernel
theorem dZK_packTile_61 : decode cZK_packTile 61 = .ok (.aload_n 1, 1) := by decide +kernel
theorem dZK_packTile_62 : decode cZK_packTile 62 = .ok (.iload_n 2, 1) := by decide +kernel
theorem dZK_packTile_63 : decode cZK_packTile 63 = .ok (.bipush 8, 2) := by decide +kernel
theorem dZK_packTile_65 : decode cZK_packTile 65 = .ok (.ishr, 1) := by decide +kernel
theorem dZK_packTile_66 : decode cZK_packTile 66 = .ok (.invokevirtual 20, 3) := by decide +kernel
theorem dZK_packTile_69 : decode cZK_packTile 69 = .ok (.return_, 1) := by decide +kernel
abbrev wsZK_packTile : List Cond := .code yZK_packTile cZK_packTile 3 none :: tbg
def lp_ZK_packTile_23 (tw : Int32) (th : Int32) (tf : Nat → Int32) (bl : Int32) (bf : Nat → Int32) (bl_1 : Int32) (bf_2 : Nat → Int32) (bl_3 : Int32) (bf_4 : Nat → Int32) (post : Int32 → (Nat → Int32) → Prop) (K23 : Int32 → Int32 → (Nat → Int32) → Prop) (n : Nat) : Int32 → Int32 → (Nat → Int32) → Prop := Nat.rec (motive := fun _ => Int32 → Int32 → (Nat → Int32) → Prop) (fun (x2_23 : Int32) (v1_23_ob : Int32) (f_23_oba : Nat → Int32) => False) (fun _ ih23 (x2_23 : Int32) (v1_23_ob : Int32) (f_23_oba : Nat → Int32) => ((th ≤ x2_23 → (K23 x2_23 v1_23_ob f_23_oba)) ∧ (¬ th ≤ x2_23 → (wp_ZK_packRow tw th tf v1_23_ob f_23_oba x2_23 (fun (bl_6 : Int32) (bf_7 : Nat → Int32) => ih23 (x2_23 + (1 : Int32)) bl_6 bf_7))))) n
def wp_ZK_packTile (tw : Int32) (th : Int32) (tf : Nat → Int32) (bl : Int32) (bf : Nat → Int32) (post : Int32 → (Nat → Int32) → Prop) : Prop := wp_ZB_append (0 : Int32) bf tw (fun (bl_1 : Int32) (bf_2 : Nat → Int32) => wp_ZB_append bl_1 bf_2 th (fun (bl_3 : Int32) (bf_4 : Nat → Int32) => ∃ n : Nat, lp_ZK_packTile_23 tw th tf bl bf bl_1 bf_2 bl_3 bf_4 post (fun (x2_23e : Int32) (v1_23e_ob : Int32) (f_23e_oba : Nat → Int32) => wp_ZB_sumOfFirst v1_23e_ob f_23e_oba v1_23e_ob (fun r_8 : Int32 => wp_ZB_append v1_23e_ob f_23e_oba (r_8 &&& (255 : Int32)) (fun (bl_9 : Int32) (bf_10 : Nat → Int32) => wp_ZB_append bl_9 bf_10 (r_8 >>> ((8 : Int32) &&& 31)) (fun (bl_11 : Int32) (bf_12 : Nat → Int32) => post bl_11 bf_12)))) n (0 : Int32) bl_3 bf_4))
abbrev rm_ZK_packTile : Room := { frames := 5, cells := 0, slots := 0, locals := 116 }
set_option maxHeartbeats 4000000 in
set_option maxRecDepth 100000 in
theorem kt_ZK_packTile (l : Launch) (dC : Nat → ClassId) (dI : Nat → Nat → Nat) (cI : ClassId) (ot ota ob oba : Nat) (sz : Nat) (tw : Int32) (th : Int32) (tf : Nat → Int32) (bl : Int32) (bf : Nat → Int32) (post : Int32 → (Nat → Int32) → Prop) (hw : wp_ZK_packTile tw th tf bl bf post) : Met l yZK_packTile wsZK_packTile rm_ZK_packTile (gw_Pc dC dI [(cI, .int)] [.ref ot, .ref ob] [(ot, .inr (4, [.ref ota, .int tw, .int th])), (ota, .inl (cI, 64, .inl tf)), (ob, .inr (0, [.ref oba, .int bl])), (oba, .inl (cI, 256, .inl bf))] sz) (va_Qv (fun (u : Int32 × (Nat → Int32)) => post u.1 u.2) (fun u t => gw_B dC dI [(cI, .int)] (va_A [(ot, .inr (4, [.ref ota, .int tw, .int th])), (ota, .inl (cI, 64, .inl tf)), (ob, .inr (0, [.ref oba, .int bl])), (oba, .inl (cI, 256, .inl bf))] sz) [(ot, .inr (4, [.ref ota, .int tw, .int th])), (ota, .inl (cI, 64, .inl tf)), (ob, .inr (0, [.ref oba, .int u.1])), (oba, .inl (cI, 256, .inl u.2))] t) (va_A [(ot, .inr (4, [.ref ota, .int tw, .int th])), (ota, .inl (cI, 64, .inl tf)), (ob, .inr (0, [.ref oba, .int bl])), (oba, .inl (cI, 256, .inl bf))] sz)) 0 0 (va_A [(ot, .inr (4, [.ref ota, .int tw, .int th])), (ota, .inl (cI, 64, .inl tf)), (ob, .inr (0, [.ref oba, .int bl])), (oba, .inl (cI, 256, .inl bf))] sz) := by
  refine Met.ofW (cc := cZK_packTile) (maxL := 3) (ret := none) (by decide) rfl ?_
  intro p e s m args below meth c s₁ B hml hv
  obtain ⟨ha9, hsz, hP, hK, hE, hD0⟩ := hv
  have hx := B.exec
  have hb := B.bytes
  have hr := B.returns
  have hts0 := atoms_spec (ws := wsZK_packTile) B.pre
  have hts : ∀ w ∈ tbg, w.before args s = true := fun w h => hts0 w (List.mem_cons_of_mem _ h)
  have hown : s.vm.findClass RZK = some m.cls := findClass_of_methodNamed B.named
  have hlocks := B.notSynchronized
  subst hsz
  have hD := hD0.self (sz := s.heap.size)
  refine gx_Q (fun Q9 hQ9 => ?_)
  generalize hAe : va_A [(ot, .inr (4, [.ref ota, .int tw, .int th])), (ota, .inl (cI, 64, .inl tf)), (ob, .inr (0, [.ref oba, .int bl])), (oba, .inl (cI, 256, .inl bf))] s.heap.size = A at hD hQ9 ⊢
  have hA : ∀ q : Nat, s.heap.size ≤ q → A q := fun q h => by rw [← hAe]; exact Or.inr h
  have hS : va_S A s.heap s.heap [] := va_S.rf
  have hl := lv_entry ([.ref ot, .ref ob]) (n := 3) (Nat.le_of_ble_eq_true rfl)
  have he9 : entryFrame m args 3 = F0 m 0 ((lg_sl [.ref ot, .ref ob] ++ List.replicate (3 - (lg_sl ([.ref ot, .ref ob] : List Value)).length) Slot.unset).toArray) [] := by rw [ha9]; exact lg_entry_eq m [.ref ot, .ref ob] 3
  rw [he9]
  generalize (lg_sl ([.ref ot, .ref ob] : List Value) ++ List.replicate (3 - (lg_sl ([.ref ot, .ref ob] : List Value)).length) Slot.unset).toArray = ls at hl ⊢
  have hl : lv_has ls 3 [(0, .ref ot), (1, .ref ob)] := hl
  refine lv_aload_n hx hb dZK_packTile_0 rfl (lv_at hl 1 rfl) ?_
  refine lv_iconst (v := (0 : Int32)) hx hb dZK_packTile_1 (by decide) ?_
  refine va_put (D := (dC, dI)) (ci := 0) (v := .int (0 : Int32)) (ty := .int) (C := RZB) (T := TZB) (N := 2) hx hb hts inZB tyZB tyZB_ok nmZB hown hK hP hD hS 2 rfl rfl 1 (by decide) (hts _ mm_80) (fun _ h9 => h9) rfl (by decide +kernel) rfl rfl (Nat.le_of_ble_eq_true rfl) dZK_packTile_2 (fun H locs hP hD hS => ?_)
  have hP : va_P (dC, dI) vwCl [(ot, .inr (4, [.ref ota, .int tw, .int th])), (ota, .inl (cI, 64, .inl tf)), (ob, .inr (0, [.ref oba, .int (0 : Int32)])), (oba, .inl (cI, 256, .inl bf))] H := hP
  have hD : va_D A [(ot, .inr (4, [.ref ota, .int tw, .int th])), (ota, .inl (cI, 64, .inl tf)), (ob, .inr (0, [.ref oba, .int (0 : Int32)])), (oba, .inl (cI, 256, .inl bf))] := hD
  refine lv_aload_n hx hb dZK_packTile_5 rfl (lv_at hl 1 rfl) ?_
  refine lv_aload_n hx hb dZK_packTile_6 rfl (lv_at hl 0 rfl) ?_
  refine va_get (D := (dC, dI)) (ci := 4) (v := .int tw) (C := RZT) (T := TZT) (N := 3) hx hb hts inZT hown hK hP 0 rfl rfl 1 (by decide) (hts _ mm_120) (fun _ h9 => h9) rfl dZK_packTile_7 ?_
  have hPc := hP.sub (ws' := [(ob, .inr (0, [.ref oba, .int (0 : Int32)])), (oba, .inl (cI, 256, .inl bf))]) [2, 3] rfl
  have hDc := hD.sub (ws' := [(ob, .inr (0, [.ref oba, .int (0 : Int32)])), (oba, .inl (cI, 256, .inl bf))]) [2, 3] (by decide) rfl
  have hFc := va_free (wc := [(ob, .inr (0, [.ref oba, .int (0 : Int32)])), (oba, .inl (cI, 256, .inl bf))]) hD hS hA [2, 3] rfl
  refine va_callv (va_runV (As := [.int tw]) (rest := []) ⟨hx, hb, hml, hown, hts⟩ (kt_ZB_append l dC dI cI ob oba _ (0 : Int32) bf tw _ hw) (cwV 1 hts (tb_V mm_481 mm_482 mm_483 mm_5 mm_484) rfl rfl rfl (by decide +kernel) ⟨Nat.le_of_ble_eq_true rfl, Nat.le_of_ble_eq_true rfl⟩) ⟨gw_blind, va_recv hK hPc (ci := 0) (q0 := 0) rfl rfl, fun U hU hW => gw_pre hPc hDc hK hE hU hW⟩ rfl rfl hl.1 rfl (lv_room (Nat.le_of_ble_eq_true rfl)) dZK_packTile_10 ⟨Nat.le_of_ble_eq_true rfl, Nat.le_of_ble_eq_true rfl⟩) hS (fun q _ h => hFc q h) hFc (fun u t H1 locs ht hvm hw hB hz1 hk1 hS => ?_)
  obtain ⟨bl_1, bf_2⟩ := u
  obtain ⟨hP1, hK1, hD1⟩ := hB
  rw [ht] at hP1
  try dsimp only at hw
  obtain ⟨hP, hD⟩ := va_join (wr := [(ot, .inr (4, [.ref ota, .int tw, .int th])), (ota, .inl (cI, 64, .inl tf))]) (w1 := [(ob, .inr (0, [.ref oba, .int bl_1])), (oba, .inl (cI, 256, .inl bf_2))]) hP hD [2, 3] [0, 1] rfl rfl (by decide) (by decide) hk1 hFc hP1 hD1
  generalize H1 = H at hP hS ⊢
  have hP : va_P (dC, dI) vwCl [(ot, .inr (4, [.ref ota, .int tw, .int th])), (ota, .inl (cI, 64, .inl tf)), (ob, .inr (0, [.ref oba, .int bl_1])), (oba, .inl (cI, 256, .inl bf_2))] H := hP
  have hD : va_D A [(ot, .inr (4, [.ref ota, .int tw, .int th])), (ota, .inl (cI, 64, .inl tf)), (ob, .inr (0, [.ref oba, .int bl_1])), (oba, .inl (cI, 256, .inl bf_2))] := hD
  refine lv_aload_n hx hb dZK_packTile_13 rfl (lv_at hl 1 rfl) ?_
  refine lv_aload_n hx hb dZK_packTile_14 rfl (lv_at hl 0 rfl) ?_
  refine va_get (D := (dC, dI)) (ci := 4) (v := .int th) (C := RZT) (T := TZT) (N := 3) hx hb hts inZT hown hK hP 0 rfl rfl 2 (by decide) (hts _ mm_125) (fun _ h9 => h9) rfl dZK_packTile_15 ?_
  have hPc := hP.sub (ws' := [(ob, .inr (0, [.ref oba, .int bl_1])), (oba, .inl (cI, 256, .inl bf_2))]) [2, 3] rfl
  have hDc := hD.sub (ws' := [(ob, .inr (0, [.ref oba, .int bl_1])), (oba, .inl (cI, 256, .inl bf_2))]) [2, 3] (by decide) rfl
  have hFc := va_free (wc := [(ob, .inr (0, [.ref oba, .int bl_1])), (oba, .inl (cI, 256, .inl bf_2))]) hD hS hA [2, 3] rfl
  refine va_callv (va_runV (As := [.int th]) (rest := []) ⟨hx, hb, hml, hown, hts⟩ (kt_ZB_append l dC dI cI ob oba _ bl_1 bf_2 th _ hw) (cwV 1 hts (tb_V mm_481 mm_482 mm_483 mm_5 mm_484) rfl rfl rfl (by decide +kernel) ⟨Nat.le_of_ble_eq_true rfl, Nat.le_of_ble_eq_true rfl⟩) ⟨gw_blind, va_recv hK hPc (ci := 0) (q0 := 0) rfl rfl, fun U hU hW => gw_pre hPc hDc hK hE hU hW⟩ rfl rfl hl.1 rfl (lv_room (Nat.le_of_ble_eq_true rfl)) dZK_packTile_18 ⟨Nat.le_of_ble_eq_true rfl, Nat.le_of_ble_eq_true rfl⟩) hS (fun q _ h => hFc q h) hFc (fun u t H1 locs ht hvm hw hB hz1 hk1 hS => ?_)
  obtain ⟨bl_3, bf_4⟩ := u
  obtain ⟨hP1, hK1, hD1⟩ := hB
  rw [ht] at hP1
  try dsimp only at hw
  obtain ⟨hP, hD⟩ := va_join (wr := [(ot, .inr (4, [.ref ota, .int tw, .int th])), (ota, .inl (cI, 64, .inl tf))]) (w1 := [(ob, .inr (0, [.ref oba, .int bl_3])), (oba, .inl (cI, 256, .inl bf_4))]) hP hD [2, 3] [0, 1] rfl rfl (by decide) (by decide) hk1 hFc hP1 hD1
  generalize H1 = H at hP hS ⊢
  have hP : va_P (dC, dI) vwCl [(ot, .inr (4, [.ref ota, .int tw, .int th])), (ota, .inl (cI, 64, .inl tf)), (ob, .inr (0, [.ref oba, .int bl_3])), (oba, .inl (cI, 256, .inl bf_4))] H := hP
  have hD : va_D A [(ot, .inr (4, [.ref ota, .int tw, .int th])), (ota, .inl (cI, 64, .inl tf)), (ob, .inr (0, [.ref oba, .int bl_3])), (oba, .inl (cI, 256, .inl bf_4))] := hD
  refine lv_iconst (v := (0 : Int32)) hx hb dZK_packTile_21 (by decide) ?_
  refine lv_istore_n (lv' := [(2, .int (0 : Int32)), (0, .ref ot), (1, .ref ob)]) hx hb dZK_packTile_22 rfl hl (by decide) rfl (fun ls hl => ?_)
  have lp23 : ∀ K23 : Int32 → Int32 → (Nat → Int32) → Prop, (∀ (x2_23 : Int32) (v1_23_ob : Int32) (f_23_oba : Nat → Int32), K23 x2_23 v1_23_ob f_23_oba → ∀ (H : Heap) (locs : List Loc), va_P (dC, dI) vwCl [(ot, .inr (4, [.ref ota, .int tw, .int th])), (ota, .inl (cI, 64, .inl tf)), (ob, .inr (0, [.ref oba, .int v1_23_ob])), (oba, .inl (cI, 256, .inl f_23_oba))] H → va_D A [(ot, .inr (4, [.ref ota, .int tw, .int th])), (ota, .inl (cI, 64, .inl tf)), (ob, .inr (0, [.ref oba, .int v1_23_ob])), (oba, .inl (cI, 256, .inl f_23_oba))] → va_S A s.heap H locs → ∀ ls : Array Slot, lv_has ls 3 [(2, .int x2_23), (0, .ref ot), (1, .ref ob)] → W p l e (headSpec wsZK_packTile rm_ZK_packTile).room s m args below meth c H locs 0 0 Q9 (F0 m 43 ls [])) → ∀ (n : Nat) (x2_23 : Int32) (v1_23_ob : Int32) (f_23_oba : Nat → Int32), lp_ZK_packTile_23 tw th tf bl bf bl_1 bf_2 bl_3 bf_4 post K23 n x2_23 v1_23_ob f_23_oba → ∀ (H : Heap) (locs : List Loc), va_P (dC, dI) vwCl [(ot, .inr (4, [.ref ota, .int tw, .int th])), (ota, .inl (cI, 64, .inl tf)), (ob, .inr (0, [.ref oba, .int v1_23_ob])), (oba, .inl (cI, 256, .inl f_23_oba))] H → va_D A [(ot, .inr (4, [.ref ota, .int tw, .int th])), (ota, .inl (cI, 64, .inl tf)), (ob, .inr (0, [.ref oba, .int v1_23_ob])), (oba, .inl (cI, 256, .inl f_23_oba))] → va_S A s.heap H locs → ∀ ls : Array Slot, lv_has ls 3 [(2, .int x2_23), (0, .ref ot), (1, .ref ob)] → W p l e (headSpec wsZK_packTile rm_ZK_packTile).room s m args below meth c H locs 0 0 Q9 (F0 m 23 ls []) := by
    intro K23 aft23 n
    induction n with
    | zero => intro x2_23 v1_23_ob f_23_oba hw; exact False.elim hw
    | succ n ih23 =>
      intro x2_23 v1_23_ob f_23_oba hw H locs hP hD hS ls hl
      refine lv_iload_n hx hb dZK_packTile_23 rfl (lv_at hl 0 rfl) ?_
      refine lv_aload_n hx hb dZK_packTile_24 rfl (lv_at hl 1 rfl) ?_
      refine va_get (D := (dC, dI)) (ci := 4) (v := .int th) (C := RZT) (T := TZT) (N := 3) hx hb hts inZT hown hK hP 0 rfl rfl 2 (by decide) (hts _ mm_125) (fun _ h9 => h9) rfl dZK_packTile_25 ?_
      refine lv_icmp_ge (tgt := 43) hx hb dZK_packTile_28 (by decide) (fun c_5 => ?_) (fun c_5 => ?_)
      · have hw := hw.1 c_5
        exact aft23 x2_23 v1_23_ob f_23_oba hw _ _ (hP.sub [0, 1, 2, 3] rfl) (hD.sub [0, 1, 2, 3] (by decide) rfl) hS ls (lv_sub hl [0, 1, 2] rfl)
      · have hw := hw.2 c_5
        refine lv_aload_n hx hb dZK_packTile_31 rfl (lv_at hl 1 rfl) ?_
        refine lv_iload_n hx hb dZK_packTile_32 rfl (lv_at hl 0 rfl) ?_
        refine lv_aload_n hx hb dZK_packTile_33 rfl (lv_at hl 2 rfl) ?_
        have hPc := hP.sub (ws' := [(ot, .inr (4, [.ref ota, .int tw, .int th])), (ota, .inl (cI, 64, .inl tf)), (ob, .inr (0, [.ref oba, .int v1_23_ob])), (oba, .inl (cI, 256, .inl f_23_oba))]) [0, 1, 2, 3] rfl
        have hDc := hD.sub (ws' := [(ot, .inr (4, [.ref ota, .int tw, .int th])), (ota, .inl (cI, 64, .inl tf)), (ob, .inr (0, [.ref oba, .int v1_23_ob])), (oba, .inl (cI, 256, .inl f_23_oba))]) [0, 1, 2, 3] (by decide) rfl
        have hFc := va_free (wc := [(ot, .inr (4, [.ref ota, .int tw, .int th])), (ota, .inl (cI, 64, .inl tf)), (ob, .inr (0, [.ref oba, .int v1_23_ob])), (oba, .inl (cI, 256, .inl f_23_oba))]) hD hS hA [0, 1, 2, 3] rfl
        refine va_callv (va_runS (As := [.ref ot, .int x2_23, .ref ob]) (rest := []) ⟨hx, hb, hml, hown, hts⟩ (kt_ZK_packRow l dC dI cI ot ota ob oba _ tw th tf v1_23_ob f_23_oba x2_23 _ hw) (va_cwS 3 hts (tb_S mm_489 mm_490 mm_14 mm_491) rfl rfl rfl (by decide +kernel) ⟨Nat.le_of_ble_eq_true rfl, Nat.le_of_ble_eq_true rfl⟩) ⟨gw_blind, fun U hU hW => gw_pre hPc hDc hK hE hU hW⟩ rfl rfl hl.1 rfl (lv_room (Nat.le_of_ble_eq_true rfl)) dZK_packTile_34 ⟨Nat.le_of_ble_eq_true rfl, Nat.le_of_ble_eq_true rfl⟩) hS (fun q _ h => hFc q h) hFc (fun u t H1 locs ht hvm hw hB hz1 hk1 hS => ?_)
        obtain ⟨bl_6, bf_7⟩ := u
        obtain ⟨hP1, hK1, hD1⟩ := hB
        rw [ht] at hP1
        try dsimp only at hw
        obtain ⟨hP, hD⟩ := va_join (wr := []) (w1 := [(ot, .inr (4, [.ref ota, .int tw, .int th])), (ota, .inl (cI, 64, .inl tf)), (ob, .inr (0, [.ref oba, .int bl_6])), (oba, .inl (cI, 256, .inl bf_7))]) hP hD [0, 1, 2, 3] [] rfl rfl (by decide) (by decide) hk1 hFc hP1 hD1
        generalize H1 = H at hP hS ⊢
        have hP : va_P (dC, dI) vwCl [(ot, .inr (4, [.ref ota, .int tw, .int th])), (ota, .inl (cI, 64, .inl tf)), (ob, .inr (0, [.ref oba, .int bl_6])), (oba, .inl (cI, 256, .inl bf_7))] H := hP
        have hD : va_D A [(ot, .inr (4, [.ref ota, .int tw, .int th])), (ota, .inl (cI, 64, .inl tf)), (ob, .inr (0, [.ref oba, .int bl_6])), (oba, .inl (cI, 256, .inl bf_7))] := hD
        refine lv_iinc (v := x2_23 + (1 : Int32)) (lv' := [(2, .int (x2_23 + (1 : Int32))), (0, .ref ot), (1, .ref ob)]) hx hb dZK_packTile_37 hl (k := 0) rfl rfl (by decide) rfl (fun ls hl => ?_)
        refine lv_goto (tgt := 23) hx hb dZK_packTile_40 (by decide) ?_
        exact ih23 (x2_23 + (1 : Int32)) bl_6 bf_7 hw _ _ (hP.sub [0, 1, 2, 3] rfl) (hD.sub [0, 1, 2, 3] (by decide) rfl) hS ls (lv_sub hl [0, 1, 2] rfl)
  obtain ⟨n23, hw⟩ := hw
  refine lp23 _ (fun x2_23e v1_23e_ob f_23e_oba hw H locs hP hD hS ls hl => ?_) n23 (0 : Int32) bl_3 bf_4 hw _ _ (hP.sub [0, 1, 2, 3] rfl) (hD.sub [0, 1, 2, 3] (by decide) rfl) hS ls (lv_sub hl [0, 1, 2] rfl)
  refine lv_aload_n hx hb dZK_packTile_43 rfl (lv_at hl 2 rfl) ?_
  refine lv_aload_n hx hb dZK_packTile_44 rfl (lv_at hl 2 rfl) ?_
  refine va_get (D := (dC, dI)) (ci := 0) (v := .int v1_23e_ob) (C := RZB) (T := TZB) (N := 2) hx hb hts inZB hown hK hP 2 rfl rfl 1 (by decide) (hts _ mm_80) (fun _ h9 => h9) rfl dZK_packTile_45 ?_
  have hPc := hP.sub (ws' := [(ob, .inr (0, [.ref oba, .int v1_23e_ob])), (oba, .inl (cI, 256, .inl f_23e_oba))]) [2, 3] rfl
  refine vp_callSi (va_runV (As := [.int v1_23e_ob]) (rest := []) ⟨hx, hb, hml, hown, hts⟩ (kt_ZB_sumOfFirst l dC dI cI ob oba v1_23e_ob f_23e_oba v1_23e_ob _ hw) (cwV 1 hts (tb_V mm_502 mm_174 mm_175 mm_5 mm_176) rfl rfl rfl (by decide +kernel) ⟨Nat.le_of_ble_eq_true rfl, Nat.le_of_ble_eq_true rfl⟩) ⟨gr_blind, va_recv hK hPc (ci := 0) (q0 := 0) rfl rfl, fun U hU hW => gr_pre hPc hK hE hU hW⟩ rfl rfl hl.1 rfl (lv_room (Nat.le_of_ble_eq_true rfl)) dZK_packTile_48 ⟨Nat.le_of_ble_eq_true rfl, Nat.le_of_ble_eq_true rfl⟩).run (fun r_8 hw => ?_)
  refine lv_istore_n (lv' := [(2, .int r_8), (0, .ref ot), (1, .ref ob)]) hx hb dZK_packTile_51 rfl hl (by decide) rfl (fun ls hl => ?_)
  refine lv_aload_n hx hb dZK_packTile_52 rfl (lv_at hl 2 rfl) ?_
  refine lv_iload_n hx hb dZK_packTile_53 rfl (lv_at hl 0 rfl) ?_
  refine lv_sipush (v := (255 : Int32)) hx hb dZK_packTile_54 (by decide) ?_
  refine lv_iand hx hb dZK_packTile_57 ?_
  have hPc := hP.sub (ws' := [(ob, .inr (0, [.ref oba, .int v1_23e_ob])), (oba, .inl (cI, 256, .inl f_23e_oba))]) [2, 3] rfl
  have hDc := hD.sub (ws' := [(ob, .inr (0, [.ref oba, .int v1_23e_ob])), (oba, .inl (cI, 256, .inl f_23e_oba))]) [2, 3] (by decide) rfl
  have hFc := va_free (wc := [(ob, .inr (0, [.ref oba, .int v1_23e_ob])), (oba, .inl (cI, 256, .inl f_23e_oba))]) hD hS hA [2, 3] rfl
  refine va_callv (va_runV (As := [.int (r_8 &&& (255 : Int32))]) (rest := []) ⟨hx, hb, hml, hown, hts⟩ (kt_ZB_append l dC dI cI ob oba _ v1_23e_ob f_23e_oba (r_8 &&& (255 : Int32)) _ hw) (cwV 1 hts (tb_V mm_481 mm_482 mm_483 mm_5 mm_484) rfl rfl rfl (by decide +kernel) ⟨Nat.le_of_ble_eq_true rfl, Nat.le_of_ble_eq_true rfl⟩) ⟨gw_blind, va_recv hK hPc (ci := 0) (q0 := 0) rfl rfl, fun U hU hW => gw_pre hPc hDc hK hE hU hW⟩ rfl rfl hl.1 rfl (lv_room (Nat.le_of_ble_eq_true rfl)) dZK_packTile_58 ⟨Nat.le_of_ble_eq_true rfl, Nat.le_of_ble_eq_true rfl⟩) hS (fun q _ h => hFc q h) hFc (fun u t H1 locs ht hvm hw hB hz1 hk1 hS => ?_)
  obtain ⟨bl_9, bf_10⟩ := u
  obtain ⟨hP1, hK1, hD1⟩ := hB
  rw [ht] at hP1
  try dsimp only at hw
  obtain ⟨hP, hD⟩ := va_join (wr := [(ot, .inr (4, [.ref ota, .int tw, .int th])), (ota, .inl (cI, 64, .inl tf))]) (w1 := [(ob, .inr (0, [.ref oba, .int bl_9])), (oba, .inl (cI, 256, .inl bf_10))]) hP hD [2, 3] [0, 1] rfl rfl (by decide) (by decide) hk1 hFc hP1 hD1
  generalize H1 = H at hP hS ⊢
  have hP : va_P (dC, dI) vwCl [(ot, .inr (4, [.ref ota, .int tw, .int th])), (ota, .inl (cI, 64, .inl tf)), (ob, .inr (0, [.ref oba, .int bl_9])), (oba, .inl (cI, 256, .inl bf_10))] H := hP
  have hD : va_D A [(ot, .inr (4, [.ref ota, .int tw, .int th])), (ota, .inl (cI, 64, .inl tf)), (ob, .inr (0, [.ref oba, .int bl_9])), (oba, .inl (cI, 256, .inl bf_10))] := hD
  refine lv_aload_n hx hb dZK_packTile_61 rfl (lv_at hl 2 rfl) ?_
  refine lv_iload_n hx hb dZK_packTile_62 rfl (lv_at hl 0 rfl) ?_
  refine lv_bipush (v := (8 : Int32)) hx hb dZK_packTile_63 (by decide) ?_
  refine lv_ishr hx hb dZK_packTile_65 ?_
  have hPc := hP.sub (ws' := [(ob, .inr (0, [.ref oba, .int bl_9])), (oba, .inl (cI, 256, .inl bf_10))]) [2, 3] rfl
  have hDc := hD.sub (ws' := [(ob, .inr (0, [.ref oba, .int bl_9])), (oba, .inl (cI, 256, .inl bf_10))]) [2, 3] (by decide) rfl
  have hFc := va_free (wc := [(ob, .inr (0, [.ref oba, .int bl_9])), (oba, .inl (cI, 256, .inl bf_10))]) hD hS hA [2, 3] rfl
  refine va_callv (va_runV (As := [.int (r_8 >>> ((8 : Int32) &&& 31))]) (rest := []) ⟨hx, hb, hml, hown, hts⟩ (kt_ZB_append l dC dI cI ob oba _ bl_9 bf_10 (r_8 >>> ((8 : Int32) &&& 31)) _ hw) (cwV 1 hts (tb_V mm_481 mm_482 mm_483 mm_5 mm_484) rfl rfl rfl (by decide +kernel) ⟨Nat.le_of_ble_eq_true rfl, Nat.le_of_ble_eq_true rfl⟩) ⟨gw_blind, va_recv hK hPc (ci := 0) (q0 := 0) rfl rfl, fun U hU hW => gw_pre hPc hDc hK hE hU hW⟩ rfl rfl hl.1 rfl (lv_room (Nat.le_of_ble_eq_true rfl)) dZK_packTile_66 ⟨Nat.le_of_ble_eq_true rfl, Nat.le_of_ble_eq_true rfl⟩) hS (fun q _ h => hFc q h) hFc (fun u t H1 locs ht hvm hw hB hz1 hk1 hS => ?_)
  obtain ⟨bl_11, bf_12⟩ := u
  obtain ⟨hP1, hK1, hD1⟩ := hB
  rw [ht] at hP1
  try dsimp only at hw
  obtain ⟨hP, hD⟩ := va_join (wr := [(ot, .inr (4, [.ref ota, .int tw, .int th])), (ota, .inl (cI, 64, .inl tf))]) (w1 := [(ob, .inr (0, [.ref oba, .int bl_11])), (oba, .inl (cI, 256, .inl bf_12))]) hP hD [2, 3] [0, 1] rfl rfl (by decide) (by decide) hk1 hFc hP1 hD1
  generalize H1 = H at hP hS ⊢
  have hP : va_P (dC, dI) vwCl [(ot, .inr (4, [.ref ota, .int tw, .int th])), (ota, .inl (cI, 64, .inl tf)), (ob, .inr (0, [.ref oba, .int bl_11])), (oba, .inl (cI, 256, .inl bf_12))] H := hP
  have hD : va_D A [(ot, .inr (4, [.ref ota, .int tw, .int th])), (ota, .inl (cI, 64, .inl tf)), (ob, .inr (0, [.ref oba, .int bl_11])), (oba, .inl (cI, 256, .inl bf_12))] := hD
  have hP9 := hP.sub (ws' := [(ot, .inr (4, [.ref ota, .int tw, .int th])), (ota, .inl (cI, 64, .inl tf)), (ob, .inr (0, [.ref oba, .int bl_11])), (oba, .inl (cI, 256, .inl bf_12))]) [0, 1, 2, 3] rfl
  have hD9 := hD.sub (ws' := [(ot, .inr (4, [.ref ota, .int tw, .int th])), (ota, .inl (cI, 64, .inl tf)), (ob, .inr (0, [.ref oba, .int bl_11])), (oba, .inl (cI, 256, .inl bf_12))]) [0, 1, 2, 3] (by decide) rfl
  subst hQ9
  exact W.vret hx hb hr (fun t ht hW => ⟨⟨(bl_11, bf_12), rfl, hw, by rw [ht]; exact hP9, va_K.moved hW.alike hK, hD9⟩, hS.F ht⟩) hS.2.2 dZK_packTile_69
end
section
theorem dZO_isSide_0 : decode cZO_isSide 0 = .ok (.iload_n 0, 1) := by decide +kernel
theorem dZO_isSide_1 : decode cZO_isSide 1 = .ok (.iconst 1, 1) := by decide +kernel
theorem dZO_isSide_2 : decode cZO_isSide 2 = .ok (.if_icmp .lt 13, 3) := by decide +kernel
theorem dZO_isSide_5 : decode cZO_isSide 5 = .ok (.iload_n 0, 1) := by decide +kernel
theorem dZO_isSide_6 : decode cZO_isSide 6 = .ok (.bipush 8, 2) := by decide +kernel
theorem dZO_isSide_8 : decode cZO_isSide 8 = .ok (.if_icmp .gt 7, 3) := by decide +kernel
theorem dZO_isSide_11 : decode cZO_isSide 11 = .ok (.iconst 1, 1) := by decide +kernel
theorem dZO_isSide_12 : decode cZO_isSide 12 = .ok (.goto 4, 3) := by decide +kernel
theorem dZO_isSide_15 : decode cZO_isSide 15 = .ok (.iconst 0, 1) := by decide +kernel
theorem dZO_isSide_16 : decode cZO_isSide 16 = .ok (.ireturn, 1) := by decide +kernel
abbrev wsZO_isSide : List Cond := .code yZO_isSide cZO_isSide 1 (some .boolean) :: tbg
def wp_ZO_isSide (a1 : Int32) (post : Int32 → Prop) : Prop := ((a1 < (1 : Int32) → (post (0 : Int32))) ∧ (¬ a1 < (1 : Int32) → (((8 : Int32) < a1 → (post (0 : Int32))) ∧ (¬ (8 : Int32) < a1 → (post (1 : Int32))))))
abbrev rm_ZO_isSide : Room := { frames := 0, cells := 0, slots := 0, locals := 0 }
set_option maxHeartbeats 4000000 in
set_option maxRecDepth 100000 in
theorem kt_ZO_isSide (l : Launch) (dC : Nat → ClassId) (dI : Nat → Nat → Nat) (cI : ClassId) (a1 : Int32) (post : Int32 → Prop) (hw : wp_ZO_isSide a1 post) : Met l yZO_isSide wsZO_isSide rm_ZO_isSide (gr_Pc dC dI [(cI, .int)] [.int a1] []) (vp_Si post) 0 0 (fun _ => False) := by
  refine Met.ofW (cc := cZO_isSide) (maxL := 1) (ret := (some .boolean)) (by decide) rfl ?_
  intro p e s m args below meth c s₁ B hml hv
  obtain ⟨ha9, hP, hK, hE⟩ := hv
  have hx := B.exec
  have hb := B.bytes
  have hr := B.returns
  have hts0 := atoms_spec (ws := wsZO_isSide) B.pre
  have hts : ∀ w ∈ tbg, w.before args s = true := fun w h => hts0 w (List.mem_cons_of_mem _ h)
  have hown : s.vm.findClass RZO = some m.cls := findClass_of_methodNamed B.named
  have hlocks := B.notSynchronized
  refine gx_Q (fun Q9 hQ9 => ?_)
  have hl := lv_entry ([.int a1]) (n := 1) (Nat.le_of_ble_eq_true rfl)
  have he9 : entryFrame m args 1 = F0 m 0 ((lg_sl [.int a1] ++ List.replicate (1 - (lg_sl ([.int a1] : List Value)).length) Slot.unset).toArray) [] := by rw [ha9]; exact lg_entry_eq m [.int a1] 1
  rw [he9]
  generalize (lg_sl ([.int a1] : List Value) ++ List.replicate (1 - (lg_sl ([.int a1] : List Value)).length) Slot.unset).toArray = ls at hl ⊢
  have hl : lv_has ls 1 [(0, .int a1)] := hl
  refine lv_iload_n hx hb dZO_isSide_0 rfl (lv_at hl 0 rfl) ?_
  refine lv_iconst (v := (1 : Int32)) hx hb dZO_isSide_1 (by decide) ?_
  refine lv_icmp_lt (tgt := 15) hx hb dZO_isSide_2 (by decide) (fun c_1 => ?_) (fun c_1 => ?_)
  · have hw := hw.1 c_1
    refine lv_iconst (v := (0 : Int32)) hx hb dZO_isSide_15 (by decide) ?_
    subst hQ9
    exact W.zret (v := (0 : Int32)) (ty := .boolean) hx hb hr rfl (fun t ht hW => ⟨(0 : Int32), rfl, hw, ht⟩) (fun q h => nomatch h) dZO_isSide_16
  · have hw := hw.2 c_1
    refine lv_iload_n hx hb dZO_isSide_5 rfl (lv_at hl 0 rfl) ?_
    refine lv_bipush (v := (8 : Int32)) hx hb dZO_isSide_6 (by decide) ?_
    refine lv_icmp_gt (tgt := 15) hx hb dZO_isSide_8 (by decide) (fun c_2 => ?_) (fun c_2 => ?_)
    · have hw := hw.1 c_2
      refine lv_iconst (v := (0 : Int32)) hx hb dZO_isSide_15 (by decide) ?_
      subst hQ9
      exact W.zret (v := (0 : Int32)) (ty := .boolean) hx hb hr rfl (fun t ht hW => ⟨(0 : Int32), rfl, hw, ht⟩) (fun q h => nomatch h) dZO_isSide_16
    · have hw := hw.2 c_2
      refine lv_iconst (v := (1 : Int32)) hx hb dZO_isSide_11 (by decide) ?_
      refine lv_goto (tgt := 16) hx hb dZO_isSide_12 (by decide) ?_
      subst hQ9
      exact W.zret (v := (1 : Int32)) (ty := .boolean) hx hb hr rfl (fun t ht hW => ⟨(1 : Int32), rfl, hw, ht⟩) (fun q h => nomatch h) dZO_isSide_16
theorem dZO_differenceOf_0 : decode cZO_differenceOf 0 = .ok (.iload_n 0, 1) := by decide +kernel
theorem dZO_differenceOf_1 : decode cZO_differenceOf 1 = .ok (.iconst 2, 1) := by decide +kernel
theorem dZO_differenceOf_2 : decode cZO_differenceOf 2 = .ok (.irem, 1) := by decide +kernel
theorem dZO_differenceOf_3 : decode cZO_differenceOf 3 = .ok (.ifCond .ne 9, 3) := by decide +kernel
theorem dZO_differenceOf_6 : decode cZO_differenceOf 6 = .ok (.iload_n 0, 1) := by decide +kernel
theorem dZO_differenceOf_7 : decode cZO_differenceOf 7 = .ok (.iconst 2, 1) := by decide +kernel
theorem dZO_differenceOf_8 : decode cZO_differenceOf 8 = .ok (.idiv, 1) := by decide +kernel
theorem dZO_differenceOf_9 : decode cZO_differenceOf 9 = .ok (.goto 9, 3) := by decide +kernel
theorem dZO_differenceOf_12 : decode cZO_differenceOf 12 = .ok (.iload_n 0, 1) := by decide +kernel
theorem dZO_differenceOf_13 : decode cZO_differenceOf 13 = .ok (.iconst 2, 1) := by decide +kernel
theorem dZO_differenceOf_14 : decode cZO_differenceOf 14 = .ok (.idiv, 1) := by decide +kernel
theorem dZO_differenceOf_15 : decode cZO_differenceOf 15 = .ok (.ineg, 1) := by decide +kernel
theorem dZO_differenceOf_16 : decode cZO_differenceOf 16 = .ok (.iconst 1, 1) := by decide +kernel
theorem dZO_differenceOf_17 : decode cZO_differenceOf 17 = .ok (.isub, 1) := by decide +kernel
theorem dZO_differenceOf_18 : decode cZO_differenceOf 18 = .ok (.ireturn, 1) := by decide +kernel
abbrev wsZO_differenceOf : List Cond := .code yZO_differenceOf cZO_differenceOf 1 (some .int) :: tbg
def wp_ZO_differenceOf (a1 : Int32) (post : Int32 → Prop) : Prop := (((a1 - a1 / (2 : Int32) * (2 : Int32)) = (0 : Int32) → (post (a1 / (2 : Int32)))) ∧ (¬ (a1 - a1 / (2 : Int32) * (2 : Int32)) = (0 : Int32) → (post ((-(a1 / (2 : Int32))) - (1 : Int32)))))
abbrev rm_ZO_differenceOf : Room := { frames := 0, cells := 0, slots := 0, locals := 0 }
set_option maxHeartbeats 4000000 in
set_option maxRecDepth 100000 in
theorem kt_ZO_differenceOf (l : Launch) (dC : Nat → ClassId) (dI : Nat → Nat → Nat) (cI : ClassId) (a1 : Int32) (post : Int32 → Prop) (hw : wp_ZO_differenceOf a1 post) : Met l yZO_differenceOf wsZO_differenceOf rm_ZO_differenceOf (gr_Pc dC dI [(cI, .int)] [.int a1] []) (vp_Si post) 0 0 (fun _ => False) := by
  refine Met.ofW (cc := cZO_differenceOf) (maxL := 1) (ret := (some .int)) (by decide) rfl ?_
  intro p e s m args below meth c s₁ B hml hv
  obtain ⟨ha9, hP, hK, hE⟩ := hv
  have hx := B.exec
  have hb := B.bytes
  have hr := B.returns
  have hts0 := atoms_spec (ws := wsZO_differenceOf) B.pre
  have hts : ∀ w ∈ tbg, w.before args s = true := fun w h => hts0 w (List.mem_cons_of_mem _ h)
  have hown : s.vm.findClass RZO = some m.cls := findClass_of_methodNamed B.named
  have hlocks := B.notSynchronized
  refine gx_Q (fun Q9 hQ9 => ?_)
  have hl := lv_entry ([.int a1]) (n := 1) (Nat.le_of_ble_eq_true rfl)
  have he9 : entryFrame m args 1 = F0 m 0 ((lg_sl [.int a1] ++ List.replicate (1 - (lg_sl ([.int a1] : List Value)).length) Slot.unset).toArray) [] := by rw [ha9]; exact lg_entry_eq m [.int a1] 1
  rw [he9]
  generalize (lg_sl ([.int a1] : List Value) ++ List.replicate (1 - (lg_sl ([.int a1] : List Value)).length) Slot.unset).toArray = ls at hl ⊢
  have hl : lv_has ls 1 [(0, .int a1)] := hl
  refine lv_iload_n hx hb dZO_differenceOf_0 rfl (lv_at hl 0 rfl) ?_
  refine lv_iconst (v := (2 : Int32)) hx hb dZO_differenceOf_1 (by decide) ?_
  refine lv_irem hx hb dZO_differenceOf_2 (by decide) ?_
  refine lv_if_ne (tgt := 12) hx hb dZO_differenceOf_3 (by decide) (fun c_1 => ?_) (fun c_1 => ?_)
  · have hw := hw.2 c_1
    refine lv_iload_n hx hb dZO_differenceOf_12 rfl (lv_at hl 0 rfl) ?_
    refine lv_iconst (v := (2 : Int32)) hx hb dZO_differenceOf_13 (by decide) ?_
    refine lv_idiv hx hb dZO_differenceOf_14 (by decide) ?_
    refine lv_ineg hx hb dZO_differenceOf_15 ?_
    refine lv_iconst (v := (1 : Int32)) hx hb dZO_differenceOf_16 (by decide) ?_
    refine lv_isub hx hb dZO_differenceOf_17 ?_
    subst hQ9
    exact W.iret (v := (-(a1 / (2 : Int32))) - (1 : Int32)) hx hb hr (fun t ht hW => ⟨(-(a1 / (2 : Int32))) - (1 : Int32), rfl, hw, ht⟩) (fun q h => nomatch h) dZO_differenceOf_18
  · have hw := hw.1 c_1
    refine lv_iload_n hx hb dZO_differenceOf_6 rfl (lv_at hl 0 rfl) ?_
    refine lv_iconst (v := (2 : Int32)) hx hb dZO_differenceOf_7 (by decide) ?_
    refine lv_idiv hx hb dZO_differenceOf_8 (by decide) ?_
    refine lv_goto (tgt := 18) hx hb dZO_differenceOf_9 (by decide) ?_
    subst hQ9
    exact W.iret (v := a1 / (2 : Int32)) hx hb hr (fun t ht hW => ⟨a1 / (2 : Int32), rfl, hw, ht⟩) (fun q h => nomatch h) dZO_differenceOf_18
theorem dZO_isSumRight_0 : decode cZO_isSumRight 0 = .ok (.aload_n 0, 1) := by decide +kernel
theorem dZO_isSumRight_1 : decode cZO_isSumRight 1 = .ok (.getfield 9, 3) := by decide +kernel
theorem dZO_isSumRight_4 : decode cZO_isSumRight 4 = .ok (.iconst 2, 1) := by decide +kernel
theorem dZO_isSumRight_5 : decode cZO_isSumRight 5 = .ok (.isub, 1) := by decide +kernel
theorem dZO_isSumRight_6 : decode cZO_isSumRight 6 = .ok (.istore_n 1, 1) := by decide +kernel
theorem dZO_isSumRight_7 : decode cZO_isSumRight 7 = .ok (.iload_n 1, 1) := by decide +kernel
theorem dZO_isSumRight_8 : decode cZO_isSumRight 8 = .ok (.ifCond .lt 33, 3) := by decide +kernel
theorem dZO_isSumRight_11 : decode cZO_isSumRight 11 = .ok (.aload_n 0, 1) := by decide +kernel
theorem dZO_isSumRight_12 : decode cZO_isSumRight 12 = .ok (.iload_n 1, 1) := by decide +kernel
theorem dZO_isSumRight_13 : decode cZO_isSumRight 13 = .ok (.invokevirtual 15, 3) := by decide +kernel
theorem dZO_isSumRight_16 : decode cZO_isSumRight 16 = .ok (.aload_n 0, 1) := by decide +kernel
theorem dZO_isSumRight_17 : decode cZO_isSumRight 17 = .ok (.getfield 19, 3) := by decide +kernel
theorem dZO_isSumRight_20 : decode cZO_isSumRight 20 = .ok (.iload_n 1, 1) := by decide +kernel
theorem dZO_isSumRight_21 : decode cZO_isSumRight 21 = .ok (.iaload, 1) := by decide +kernel
theorem dZO_isSumRight_22 : decode cZO_isSumRight 22 = .ok (.aload_n 0, 1) := by decide +kernel
theorem dZO_isSumRight_23 : decode cZO_isSumRight 23 = .ok (.getfield 19, 3) := by decide +kernel
theorem dZO_isSumRight_26 : decode cZO_isSumRight 26 = .ok (.iload_n 1, 1) := by decide +kernel
theorem dZO_isSumRight_27 : decode cZO_isSumRight 27 = .ok (.iconst 1, 1) := by decide +kernel
theorem dZO_isSumRight_28 : decode cZO_isSumRight 28 = .ok (.iadd, 1) := by decide +kernel
theorem dZO_isSumRight_29 : decode cZO_isSumRight 29 = .ok (.iaload, 1) := by decide +kernel
theorem dZO_isSumRight_30 : decode cZO_isSumRight 30 = .ok (.bipush 8, 2) := by decide +kernel
theorem dZO_isSumRight_32 : decode cZO_isSumRight 32 = .ok (.ishl, 1) := by decide +kernel
theorem dZO_isSumRight_33 : decode cZO_isSumRight 33 = .ok (.iadd, 1) := by decide +kernel
theorem dZO_isSumRight_34 : decode cZO_isSumRight 34 = .ok (.if_icmp .ne 7, 3) := by decide +kernel
theorem dZO_isSumRight_37 : decode cZO_isSumRight 37 = .ok (.iconst 1, 1) := by decide +kernel
theorem dZO_isSumRight_38 : decode cZO_isSumRight 38 = .ok (.goto 4, 3) := by decide +kernel
theorem dZO_isSumRight_41 : decode cZO_isSumRight 41 = .ok (.iconst 0, 1) := by decide +kernel
theorem dZO_isSumRight_42 : decode cZO_isSumRight 42 = .ok (.ireturn, 1) := by decide +kernel
abbrev wsZO_isSumRight : List Cond := .code yZO_isSumRight cZO_isSumRight 2 (some .boolean) :: tbg
def wp_ZO_isSumRight (bl : Int32) (bf : Nat → Int32) (post : Int32 → Prop) : Prop := (((bl - (2 : Int32)) < (0 : Int32) → (post (0 : Int32))) ∧ (¬ (bl - (2 : Int32)) < (0 : Int32) → (wp_ZB_sumOfFirst bl bf (bl - (2 : Int32)) (fun r_2 : Int32 => vp_in (bl - (2 : Int32)) 256 ∧ (vp_in ((bl - (2 : Int32)) + (1 : Int32)) 256 ∧ (((r_2 = ((bf (bl - (2 : Int32)).toNatClampNeg) + ((bf ((bl - (2 : Int32)) + (1 : Int32)).toNatClampNeg) <<< ((8 : Int32) &&& 31))) → (post (1 : Int32))) ∧ (¬ r_2 = ((bf (bl - (2 : Int32)).toNatClampNeg) + ((bf ((bl - (2 : Int32)) + (1 : Int32)).toNatClampNeg) <<< ((8 : Int32) &&& 31))) → (post (0 : Int32))))))))))
abbrev rm_ZO_isSumRight : Room := { frames := 1, cells := 0, slots := 0, locals := 23 }
set_option maxHeartbeats 4000000 in
set_option maxRecDepth 100000 in
theorem kt_ZO_isSumRight (l : Launch) (dC : Nat → ClassId) (dI : Nat → Nat → Nat) (cI : ClassId) (ob oba : Nat) (bl : Int32) (bf : Nat → Int32) (post : Int32 → Prop) (hw : wp_ZO_isSumRight bl bf post) : Met l yZO_isSumRight wsZO_isSumRight rm_ZO_isSumRight (gr_Pc dC dI [(cI, .int)] [.ref ob] [(ob, .inr (0, [.ref oba, .int bl])), (oba, .inl (cI, 256, .inl bf))]) (vp_Si post) 0 0 (fun _ => False) := by
  refine Met.ofW (cc := cZO_isSumRight) (maxL := 2) (ret := (some .boolean)) (by decide) rfl ?_
  intro p e s m args below meth c s₁ B hml hv
  obtain ⟨ha9, hP, hK, hE⟩ := hv
  have hx := B.exec
  have hb := B.bytes
  have hr := B.returns
  have hts0 := atoms_spec (ws := wsZO_isSumRight) B.pre
  have hts : ∀ w ∈ tbg, w.before args s = true := fun w h => hts0 w (List.mem_cons_of_mem _ h)
  have hown : s.vm.findClass RZO = some m.cls := findClass_of_methodNamed B.named
  have hlocks := B.notSynchronized
  refine gx_Q (fun Q9 hQ9 => ?_)
  have hl := lv_entry ([.ref ob]) (n := 2) (Nat.le_of_ble_eq_true rfl)
  have he9 : entryFrame m args 2 = F0 m 0 ((lg_sl [.ref ob] ++ List.replicate (2 - (lg_sl ([.ref ob] : List Value)).length) Slot.unset).toArray) [] := by rw [ha9]; exact lg_entry_eq m [.ref ob] 2
  rw [he9]
  generalize (lg_sl ([.ref ob] : List Value) ++ List.replicate (2 - (lg_sl ([.ref ob] : List Value)).length) Slot.unset).toArray = ls at hl ⊢
  have hl : lv_has ls 2 [(0, .ref ob)] := hl
  refine lv_aload_n hx hb dZO_isSumRight_0 rfl (lv_at hl 0 rfl) ?_
  refine va_get (D := (dC, dI)) (ci := 0) (v := .int bl) (C := RZB) (T := TZB) (N := 2) hx hb hts inZB hown hK hP 0 rfl rfl 1 (by decide) (hts _ mm_79) (fun _ h9 => h9) rfl dZO_isSumRight_1 ?_
  refine lv_iconst (v := (2 : Int32)) hx hb dZO_isSumRight_4 (by decide) ?_
  refine lv_isub hx hb dZO_isSumRight_5 ?_
  refine lv_istore_n (lv' := [(1, .int (bl - (2 : Int32))), (0, .ref ob)]) hx hb dZO_isSumRight_6 rfl hl (by decide) rfl (fun ls hl => ?_)
  refine lv_iload_n hx hb dZO_isSumRight_7 rfl (lv_at hl 0 rfl) ?_
  refine lv_if_lt (tgt := 41) hx hb dZO_isSumRight_8 (by decide) (fun c_1 => ?_) (fun c_1 => ?_)
  · have hw := hw.1 c_1
    refine lv_iconst (v := (0 : Int32)) hx hb dZO_isSumRight_41 (by decide) ?_
    subst hQ9
    exact W.zret (v := (0 : Int32)) (ty := .boolean) hx hb hr rfl (fun t ht hW => ⟨(0 : Int32), rfl, hw, ht⟩) (fun q h => nomatch h) dZO_isSumRight_42
  · have hw := hw.2 c_1
    refine lv_aload_n hx hb dZO_isSumRight_11 rfl (lv_at hl 1 rfl) ?_
    refine lv_iload_n hx hb dZO_isSumRight_12 rfl (lv_at hl 0 rfl) ?_
    refine vp_callSi (va_runV (As := [.int (bl - (2 : Int32))]) (rest := []) ⟨hx, hb, hml, hown, hts⟩ (kt_ZB_sumOfFirst l dC dI cI ob oba bl bf (bl - (2 : Int32)) _ hw) (cwV 1 hts (tb_V mm_173 mm_174 mm_175 mm_5 mm_176) rfl rfl rfl (by decide +kernel) ⟨Nat.le_of_ble_eq_true rfl, Nat.le_of_ble_eq_true rfl⟩) ⟨gr_blind, va_recv hK hP (ci := 0) (q0 := 0) rfl rfl, fun U hU hW => gr_pre hP hK hE hU hW⟩ rfl rfl hl.1 rfl (lv_room (Nat.le_of_ble_eq_true rfl)) dZO_isSumRight_13 ⟨Nat.le_of_ble_eq_true rfl, Nat.le_of_ble_eq_true rfl⟩).run (fun r_2 hw => ?_)
    refine lv_aload_n hx hb dZO_isSumRight_16 rfl (lv_at hl 1 rfl) ?_
    refine va_get (D := (dC, dI)) (ci := 0) (v := .ref oba) (C := RZB) (T := TZB) (N := 2) hx hb hts inZB hown hK hP 0 rfl rfl 0 (by decide) (hts _ mm_76) (fun _ h9 => h9) rfl dZO_isSumRight_17 ?_
    refine lv_iload_n hx hb dZO_isSumRight_20 rfl (lv_at hl 0 rfl) ?_
    obtain ⟨h_3, hw⟩ := hw
    refine va_iald hx hb hK hP 1 0 rfl rfl h_3 dZO_isSumRight_21 ?_
    refine lv_aload_n hx hb dZO_isSumRight_22 rfl (lv_at hl 1 rfl) ?_
    refine va_get (D := (dC, dI)) (ci := 0) (v := .ref oba) (C := RZB) (T := TZB) (N := 2) hx hb hts inZB hown hK hP 0 rfl rfl 0 (by decide) (hts _ mm_76) (fun _ h9 => h9) rfl dZO_isSumRight_23 ?_
    refine lv_iload_n hx hb dZO_isSumRight_26 rfl (lv_at hl 0 rfl) ?_
    refine lv_iconst (v := (1 : Int32)) hx hb dZO_isSumRight_27 (by decide) ?_
    refine lv_iadd hx hb dZO_isSumRight_28 ?_
    obtain ⟨h_4, hw⟩ := hw
    refine va_iald hx hb hK hP 1 0 rfl rfl h_4 dZO_isSumRight_29 ?_
    refine lv_bipush (v := (8 : Int32)) hx hb dZO_isSumRight_30 (by decide) ?_
    refine lv_ishl hx hb dZO_isSumRight_32 ?_
    refine lv_iadd hx hb dZO_isSumRight_33 ?_
    refine lv_icmp_ne (tgt := 41) hx hb dZO_isSumRight_34 (by decide) (fun c_5 => ?_) (fun c_5 => ?_)
    · have hw := hw.2 c_5
      refine lv_iconst (v := (0 : Int32)) hx hb dZO_isSumRight_41 (by decide) ?_
      subst hQ9
      exact W.zret (v := (0 : Int32)) (ty := .boolean) hx hb hr rfl (fun t ht hW => ⟨(0 : Int32), rfl, hw, ht⟩) (fun q h => nomatch h) dZO_isSumRight_42
    · have hw := hw.1 c_5
      refine lv_iconst (v := (1 : Int32)) hx hb dZO_isSumRight_37 (by decide) ?_
      refine lv_goto (tgt := 42) hx hb dZO_isSumRight_38 (by decide) ?_
      subst hQ9
      exact W.zret (v := (1 : Int32)) (ty := .boolean) hx hb hr rfl (fun t ht hW => ⟨(1 : Int32), rfl, hw, ht⟩) (fun q h => nomatch h) dZO_isSumRight_42
theorem dZO_openRow_0 : decode cZO_openRow 0 = .ok (.iload_n 1, 1) := by decide +kernel
theorem dZO_openRow_1 : decode cZO_openRow 1 = .ok (.iload_n 2, 1) := by decide +kernel
theorem dZO_openRow_2 : decode cZO_openRow 2 = .ok (.if_icmp .ge 14, 3) := by decide +kernel
theorem dZO_openRow_5 : decode cZO_openRow 5 = .ok (.aload_n 0, 1) := by decide +kernel
theorem dZO_openRow_6 : decode cZO_openRow 6 = .ok (.getfield 19, 3) := by decide +kernel
theorem dZO_openRow_9 : decode cZO_openRow 9 = .ok (.iload_n 1, 1) := by decide +kernel
theorem dZO_openRow_10 : decode cZO_openRow 10 = .ok (.iaload, 1) := by decide +kernel
theorem dZO_openRow_11 : decode cZO_openRow 11 = .ok (.bipush 9, 2) := by decide +kernel
theorem dZO_openRow_13 : decode cZO_openRow 13 = .ok (.if_icmp .le 5, 3) := by decide +kernel
theorem dZO_openRow_16 : decode cZO_openRow 16 = .ok (.iconst (-1), 1) := by decide +kernel
theorem dZO_openRow_17 : decode cZO_openRow 17 = .ok (.ireturn, 1) := by decide +kernel
theorem dZO_openRow_18 : decode cZO_openRow 18 = .ok (.aload_n 0, 1) := by decide +kernel
theorem dZO_openRow_19 : decode cZO_openRow 19 = .ok (.getfield 19, 3) := by decide +kernel
theorem dZO_openRow_22 : decode cZO_openRow 22 = .ok (.iload_n 1, 1) := by decide +kernel
theorem dZO_openRow_23 : decode cZO_openRow 23 = .ok (.iaload, 1) := by decide +kernel
theorem dZO_openRow_24 : decode cZO_openRow 24 = .ok (.istore 5, 2) := by decide +kernel
theorem dZO_openRow_26 : decode cZO_openRow 26 = .ok (.iload 5, 2) := by decide +kernel
theorem dZO_openRow_28 : decode cZO_openRow 28 = .ok (.aload_n 3, 1) := by decide +kernel
theorem dZO_openRow_29 : decode cZO_openRow 29 = .ok (.getfield 42, 3) := by decide +kernel
theorem dZO_openRow_32 : decode cZO_openRow 32 = .ok (.imul, 1) := by decide +kernel
theorem dZO_openRow_33 : decode cZO_openRow 33 = .ok (.istore 6, 2) := by decide +kernel
theorem dZO_openRow_35 : decode cZO_openRow 35 = .ok (.iload_n 1, 1) := by decide +kernel
theorem dZO_openRow_36 : decode cZO_openRow 36 = .ok (.iconst 1, 1) := by decide +kernel
theorem dZO_openRow_37 : decode cZO_openRow 37 = .ok (.iadd, 1) := by decide +kernel
theorem dZO_openRow_38 : decode cZO_openRow 38 = .ok (.iload 6, 2) := by decide +kernel
theorem dZO_openRow_40 : decode cZO_openRow 40 = .ok (.bipush 7, 2) := by decide +kernel
theorem dZO_openRow_42 : decode cZO_openRow 42 = .ok (.iadd, 1) := by decide +kernel
theorem dZO_openRow_43 : decode cZO_openRow 43 = .ok (.bipush 8, 2) := by decide +kernel
theorem dZO_openRow_45 : decode cZO_openRow 45 = .ok (.idiv, 1) := by decide +kernel
theorem dZO_openRow_46 : decode cZO_openRow 46 = .ok (.iadd, 1) := by decide +kernel
theorem dZO_openRow_47 : decode cZO_openRow 47 = .ok (.istore 7, 2) := by decide +kernel
theorem dZO_openRow_49 : decode cZO_openRow 49 = .ok (.iload 7, 2) := by decide +kernel
theorem dZO_openRow_51 : decode cZO_openRow 51 = .ok (.iload_n 2, 1) := by decide +kernel
theorem dZO_openRow_52 : decode cZO_openRow 52 = .ok (.if_icmp .le 5, 3) := by decide +kernel
theorem dZO_openRow_55 : decode cZO_openRow 55 = .ok (.iconst (-1), 1) := by decide +kernel
theorem dZO_openRow_56 : decode cZO_openRow 56 = .ok (.ireturn, 1) := by decide +kernel
theorem dZO_openRow_57 : decode cZO_openRow 57 = .ok (.bipush 8, 2) := by decide +kernel
theorem dZO_openRow_59 : decode cZO_openRow 59 = .ok (.iload_n 1, 1) := by decide +kernel
theorem dZO_openRow_60 : decode cZO_openRow 60 = .ok (.iconst 1, 1) := by decide +kernel
theorem dZO_openRow_61 : decode cZO_openRow 61 = .ok (.iadd, 1) := by decide +kernel
theorem dZO_openRow_62 : decode cZO_openRow 62 = .ok (.imul, 1) := by decide +kernel
theorem dZO_openRow_63 : decode cZO_openRow 63 = .ok (.istore 8, 2) := by decide +kernel
theorem dZO_openRow_65 : decode cZO_openRow 65 = .ok (.iconst 0, 1) := by decide +kernel
theorem dZO_openRow_66 : decode cZO_openRow 66 = .ok (.istore 9, 2) := by decide +kernel
theorem dZO_openRow_68 : decode cZO_openRow 68 = .ok (.iconst 0, 1) := by decide +kernel
theorem dZO_openRow_69 : decode cZO_openRow 69 = .ok (.istore 10, 2) := by decide +kernel
theorem dZO_openRow_71 : decode cZO_openRow 71 = .ok (.iload 10, 2) := by decide +kernel
theorem dZO_openRow_73 : decode cZO_openRow 73 = .ok (.aload_n 3, 1) := by decide +kernel
theorem dZO_openRow_74 : decode cZO_openRow 74 = .ok (.getfield 42, 3) := by decide +kernel
theorem dZO_openRow_77 : decode cZO_openRow 77 = .ok (.if_icmp .ge 71, 3) := by decide +kernel
theorem dZO_openRow_80 : decode cZO_openRow 80 = .ok (.aload_n 0, 1) := by decide +kernel
theorem dZO_openRow_81 : decode cZO_openRow 81 = .ok (.iload 8, 2) := by decide +kernel
theorem dZO_openRow_83 : decode cZO_openRow 83 = .ok (.iload 5, 2) := by decide +kernel
theorem dZO_openRow_85 : decode cZO_openRow 85 = .ok (.invokevirtual 45, 3) := by decide +kernel
theorem dZO_openRow_88 : decode cZO_openRow 88 = .ok (.istore 11, 2) := by decide +kernel
theorem dZO_openRow_90 : decode cZO_openRow 90 = .ok (.aload_n 3, 1) := by decide +kernel
theorem dZO_openRow_91 : decode cZO_openRow 91 = .ok (.iload 10, 2) := by decide +kernel
theorem dZO_openRow_93 : decode cZO_openRow 93 = .ok (.iload 4, 2) := by decide +kernel
theorem dZO_openRow_95 : decode cZO_openRow 95 = .ok (.invokevirtual 49, 3) := by decide +kernel
theorem dZO_openRow_98 : decode cZO_openRow 98 = .ok (.iload 11, 2) := by decide +kernel
theorem dZO_openRow_100 : decode cZO_openRow 100 = .ok (.invokestatic 52, 3) := by decide +kernel
theorem dZO_openRow_103 : decode cZO_openRow 103 = .ok (.iadd, 1) := by decide +kernel
theorem dZO_openRow_104 : decode cZO_openRow 104 = .ok (.istore 12, 2) := by decide +kernel
theorem dZO_openRow_106 : decode cZO_openRow 106 = .ok (.iload 12, 2) := by decide +kernel
theorem dZO_openRow_108 : decode cZO_openRow 108 = .ok (.invokestatic 55, 3) := by decide +kernel
theorem dZO_openRow_111 : decode cZO_openRow 111 = .ok (.ifCond .ne 5, 3) := by decide +kernel
theorem dZO_openRow_114 : decode cZO_openRow 114 = .ok (.iconst (-1), 1) := by decide +kernel
theorem dZO_openRow_115 : decode cZO_openRow 115 = .ok (.ireturn, 1) := by decide +kernel
theorem dZO_openRow_116 : decode cZO_openRow 116 = .ok (.aload_n 3, 1) := by decide +kernel
theorem dZO_openRow_117 : decode cZO_openRow 117 = .ok (.iload 10, 2) := by decide +kernel
theorem dZO_openRow_119 : decode cZO_openRow 119 = .ok (.iload 4, 2) := by decide +kernel
theorem dZO_openRow_121 : decode cZO_openRow 121 = .ok (.iload 12, 2) := by decide +kernel
theorem dZO_openRow_123 : decode cZO_openRow 123 = .ok (.invokevirtual 58, 3) := by decide +kernel
theorem dZO_openRow_126 : decode cZO_openRow 126 = .ok (.iload 9, 2) := by decide +kernel
theorem dZO_openRow_128 : decode cZO_openRow 128 = .ok (.iload 11, 2) := by decide +kernel
theorem dZO_openRow_130 : decode cZO_openRow 130 = .ok (.invokestatic 62, 3) := by decide +kernel
theorem dZO_openRow_133 : decode cZO_openRow 133 = .ok (.istore 9, 2) := by decide +kernel
theorem dZO_openRow_135 : decode cZO_openRow 135 = .ok (.iload 8, 2) := by decide +kernel
theorem dZO_openRow_137 : decode cZO_openRow 137 = .ok (.iload 5, 2) := by decide +kernel
theorem dZO_openRow_139 : decode cZO_openRow 139 = .ok (.iadd, 1) := by decide +kernel
theorem dZO_openRow_140 : decode cZO_openRow 140 = .ok (.istore 8, 2) := by decide +kernel
theorem dZO_openRow_142 : decode cZO_openRow 142 = .ok (.iinc 10 1, 3) := by decide +kernel
theorem dZO_openRow_145 : decode cZO_openRow 145 = .ok (.goto (-74), 3) := by decide +kernel
theorem dZO_openRow_148 : decode cZO_openRow 148 = .ok (.aload_n 0, 1) := by decide +kernel
theorem dZO_openRow_149 : decode cZO_openRow 149 = .ok (.iload 8, 2) := by decide +kernel
theorem dZO_openRow_151 : decode cZO_openRow 151 = .ok (.bipush 8, 2) := by decide +kernel
theorem dZO_openRow_153 : decode cZO_openRow 153 = .ok (.iload 7, 2) := by decide +kernel
theorem dZO_openRow_155 : decode cZO_openRow 155 = .ok (.imul, 1) := by decide +kernel
theorem dZO_openRow_156 : decode cZO_openRow 156 = .ok (.iload 8, 2) := by decide +kernel
theorem dZO_openRow_158 : decode cZO_openRow 158 = .ok (.isub, 1) := by decide +kernel
theorem dZO_openRow_159 : decode cZO_openRow 159 = .ok (.invokevirtual 45, 3) := by decide +kernel
theorem dZO_openRow_162 : decode cZO_openRow 162 = .ok (.ifCond .ne 7, 3) := by decide +kernel
theorem dZO_openRow_165 : decode cZO_openRow 165 = .ok (.iconst 1, 1) := by decide +kernel
theorem dZO_openRow_166 : decode cZO_openRow 166 = .ok (.goto 4, 3) := by decide +kernel
theorem dZO_openRow_169 : decode cZO_openRow 169 = .ok (.iconst 0, 1) := by decide +kernel
theorem dZO_openRow_170 : decode cZO_openRow 170 = .ok (.istore 10, 2) := by decide +kernel
theorem dZO_openRow_172 : decode cZO_openRow 172 = .ok (.iload 10, 2) := by decide +kernel
theorem dZO_openRow_174 : decode cZO_openRow 174 = .ok (.ifCond .eq 18, 3) := by decide +kernel
theorem dZO_openRow_177 : decode cZO_openRow 177 = .ok (.iload 9, 2) := by decide +kernel
theorem dZO_openRow_179 : decode cZO_openRow 179 = .ok (.invokestatic 67, 3) := by decide +kernel
theorem dZO_openRow_182 : decode cZO_openRow 182 = .ok (.iload 5, 2) := by decide +kernel
theorem dZO_openRow_184 : decode cZO_openRow 184 = .ok (.if_icmp .ne 8, 3) := by decide +kernel
theorem dZO_openRow_187 : decode cZO_openRow 187 = .ok (.iload 7, 2) := by decide +kernel
theorem dZO_openRow_189 : decode cZO_openRow 189 = .ok (.goto 4, 3) := by decide +kernel
theorem dZO_openRow_192 : decode cZO_openRow 192 = .ok (.iconst (-1), 1) := by decide +kernel
theorem dZO_openRow_193 : decode cZO_openRow 193 = .ok (.ireturn, 1) := by decide +kernel
abbrev wsZO_openRow : List Cond := .code yZO_openRow cZO_openRow 13 (some .int) :: tbg
def lp_ZO_openRow_71 (bl : Int32) (bf : Nat → Int32) (tw : Int32) (th : Int32) (tf : Nat → Int32) (a1 : Int32) (a2 : Int32) (a3 : Int32) (post : Int32 → (Nat → Int32) → Prop) (K71 : Int32 → Int32 → Int32 → (Nat → Int32) → Prop) (n : Nat) : Int32 → Int32 → Int32 → (Nat → Int32) → Prop := Nat.rec (motive := fun _ => Int32 → Int32 → Int32 → (Nat → Int32) → Prop) (fun (x8_71 : Int32) (x9_71 : Int32) (x10_71 : Int32) (f_71_ota : Nat → Int32) => False) (fun _ ih71 (x8_71 : Int32) (x9_71 : Int32) (x10_71 : Int32) (f_71_ota : Nat → Int32) => ((tw ≤ x10_71 → (K71 x8_71 x9_71 x10_71 f_71_ota)) ∧ (¬ tw ≤ x10_71 → (wp_ZB_bitsFrom bl bf x8_71 (bf a1.toNatClampNeg) (fun r_7 : Int32 => wp_ZT_formerSample tw th f_71_ota x10_71 a3 (fun r_8 : Int32 => wp_ZO_differenceOf r_7 (fun r_9 : Int32 => wp_ZQ_isSample (r_8 + r_9) (fun r_10 : Int32 => ((r_10 = (0 : Int32) → (post (-1 : Int32) f_71_ota)) ∧ (¬ r_10 = (0 : Int32) → (wp_ZT_setSample tw th f_71_ota x10_71 a3 (r_8 + r_9) (fun (tf_12 : Nat → Int32) => ih71 (x8_71 + (bf a1.toNatClampNeg)) (if x9_71 < r_7 then r_7 else x9_71) (x10_71 + (1 : Int32)) tf_12)))))))))))) n
def wp_ZO_openRow (bl : Int32) (bf : Nat → Int32) (tw : Int32) (th : Int32) (tf : Nat → Int32) (a1 : Int32) (a2 : Int32) (a3 : Int32) (post : Int32 → (Nat → Int32) → Prop) : Prop := ((a2 ≤ a1 → (post (-1 : Int32) tf)) ∧ (¬ a2 ≤ a1 → (vp_in a1 256 ∧ ((((bf a1.toNatClampNeg) ≤ (9 : Int32) → (vp_in a1 256 ∧ (((((a1 + (1 : Int32)) + ((((bf a1.toNatClampNeg) * tw) + (7 : Int32)) / (8 : Int32))) ≤ a2 → (∃ n : Nat, lp_ZO_openRow_71 bl bf tw th tf a1 a2 a3 post (fun (x8_71e : Int32) (x9_71e : Int32) (x10_71e : Int32) (f_71e_ota : Nat → Int32) => wp_ZB_bitsFrom bl bf x8_71e (((8 : Int32) * ((a1 + (1 : Int32)) + ((((bf a1.toNatClampNeg) * tw) + (7 : Int32)) / (8 : Int32)))) - x8_71e) (fun r_13 : Int32 => ∃ J170 : Int32 → Prop, (∀ (t0_j170 : Int32), J170 t0_j170 → ((t0_j170 = (0 : Int32) → (post (-1 : Int32) f_71e_ota)) ∧ (¬ t0_j170 = (0 : Int32) → (wp_ZQ_bitsNeeded x9_71e (fun r_15 : Int32 => ((r_15 = (bf a1.toNatClampNeg) → (post ((a1 + (1 : Int32)) + ((((bf a1.toNatClampNeg) * tw) + (7 : Int32)) / (8 : Int32))) f_71e_ota)) ∧ (¬ r_15 = (bf a1.toNatClampNeg) → (post (-1 : Int32) f_71e_ota)))))))) ∧ (((r_13 = (0 : Int32) → (J170 (1 : Int32))) ∧ (¬ r_13 = (0 : Int32) → (J170 (0 : Int32))))))) n ((8 : Int32) * (a1 + (1 : Int32))) (0 : Int32) (0 : Int32) tf)) ∧ (¬ ((a1 + (1 : Int32)) + ((((bf a1.toNatClampNeg) * tw) + (7 : Int32)) / (8 : Int32))) ≤ a2 → (post (-1 : Int32) tf)))))) ∧ (¬ (bf a1.toNatClampNeg) ≤ (9 : Int32) → (post (-1 : Int32) tf)))))))
abbrev rm_ZO_openRow : Room := { frames := 2, cells := 0, slots := 0, locals := 44 }
set_option maxHeartbeats 4000000 in
set_option maxRecDepth 100000 in
theorem kt_ZO_openRow (l : Launch) (dC : Nat → ClassId) (dI : Nat → Nat → Nat) (cI : ClassId) (ob oba ot ota : Nat) (sz : Nat) (bl : Int32) (bf : Nat → Int32) (tw : Int32) (th : Int32) (tf : Nat → Int32) (a1 : Int32) (a2 : Int32) (a3 : Int32) (post : Int32 → (Nat → Int32) → Prop) (hw : wp_ZO_openRow bl bf tw th tf a1 a2 a3 post) : Met l yZO_openRow wsZO_openRow rm_ZO_openRow (gw_Pc dC dI [(cI, .int)] [.ref ob, .int a1, .int a2, .ref ot, .int a3] [(ob, .inr (0, [.ref oba, .int bl])), (oba, .inl (cI, 256, .inl bf)), (ot, .inr (4, [.ref ota, .int tw, .int th])), (ota, .inl (cI, 64, .inl tf))] sz) (va_Qi (fun (r : Int32) (u : (Nat → Int32)) => post r u) (fun u t => gw_B dC dI [(cI, .int)] (va_A [(ob, .inr (0, [.ref oba, .int bl])), (oba, .inl (cI, 256, .inl bf)), (ot, .inr (4, [.ref ota, .int tw, .int th])), (ota, .inl (cI, 64, .inl tf))] sz) [(ob, .inr (0, [.ref oba, .int bl])), (oba, .inl (cI, 256, .inl bf)), (ot, .inr (4, [.ref ota, .int tw, .int th])), (ota, .inl (cI, 64, .inl u))] t) (va_A [(ob, .inr (0, [.ref oba, .int bl])), (oba, .inl (cI, 256, .inl bf)), (ot, .inr (4, [.ref ota, .int tw, .int th])), (ota, .inl (cI, 64, .inl tf))] sz)) 0 0 (va_A [(ob, .inr (0, [.ref oba, .int bl])), (oba, .inl (cI, 256, .inl bf)), (ot, .inr (4, [.ref ota, .int tw, .int th])), (ota, .inl (cI, 64, .inl tf))] sz) := by
  refine Met.ofW (cc := cZO_openRow) (maxL := 13) (ret := (some .int)) (by decide) rfl ?_
  intro p e s m args below meth c s₁ B hml hv
  obtain ⟨ha9, hsz, hP, hK, hE, hD0⟩ := hv
  have hx := B.exec
  have hb := B.bytes
  have hr := B.returns
  have hts0 := atoms_spec (ws := wsZO_openRow) B.pre
  have hts : ∀ w ∈ tbg, w.before args s = true := fun w h => hts0 w (List.mem_cons_of_mem _ h)
  have hown : s.vm.findClass RZO = some m.cls := findClass_of_methodNamed B.named
  have hlocks := B.notSynchronized
  subst hsz
  have hD := hD0.self (sz := s.heap.size)
  refine gx_Q (fun Q9 hQ9 => ?_)
  generalize hAe : va_A [(ob, .inr (0, [.ref oba, .int bl])), (oba, .inl (cI, 256, .inl bf)), (ot, .inr (4, [.ref ota, .int tw, .int th])), (ota, .inl (cI, 64, .inl tf))] s.heap.size = A at hD hQ9 ⊢
  have hA : ∀ q : Nat, s.heap.size ≤ q → A q := fun q h => by rw [← hAe]; exact Or.inr h
  have hS : va_S A s.heap s.heap [] := va_S.rf
  have hl := lv_entry ([.ref ob, .int a1, .int a2, .ref ot, .int a3]) (n := 13) (Nat.le_of_ble_eq_true rfl)
  have he9 : entryFrame m args 13 = F0 m 0 ((lg_sl [.ref ob, .int a1, .int a2, .ref ot, .int a3] ++ List.replicate (13 - (lg_sl ([.ref ob, .int a1, .int a2, .ref ot, .int a3] : List Value)).length) Slot.unset).toArray) [] := by rw [ha9]; exact lg_entry_eq m [.ref ob, .int a1, .int a2, .ref ot, .int a3] 13
  rw [he9]
  generalize (lg_sl ([.ref ob, .int a1, .int a2, .ref ot, .int a3] : List Value) ++ List.replicate (13 - (lg_sl ([.ref ob, .int a1, .int a2, .ref ot, .int a3] : List Value)).length) Slot.unset).toArray = ls at hl ⊢
  have hl : lv_has ls 13 [(0, .ref ob), (1, .int a1), (2, .int a2), (3, .ref ot), (4, .int a3)] := hl
  refine lv_iload_n hx hb dZO_openRow_0 rfl (lv_at hl 1 rfl) ?_
  refine lv_iload_n hx hb dZO_openRow_1 rfl (lv_at hl 2 rfl) ?_
  refine lv_icmp_ge (tgt := 16) hx hb dZO_openRow_2 (by decide) (fun c_1 => ?_) (fun c_1 => ?_)
  · have hw := hw.1 c_1
    refine lv_iconst (v := (-1 : Int32)) hx hb dZO_openRow_16 (by decide) ?_
    have hP9 := hP.sub (ws' := [(ob, .inr (0, [.ref oba, .int bl])), (oba, .inl (cI, 256, .inl bf)), (ot, .inr (4, [.ref ota, .int tw, .int th])), (ota, .inl (cI, 64, .inl tf))]) [0, 1, 2, 3] rfl
    have hD9 := hD.sub (ws' := [(ob, .inr (0, [.ref oba, .int bl])), (oba, .inl (cI, 256, .inl bf)), (ot, .inr (4, [.ref ota, .int tw, .int th])), (ota, .inl (cI, 64, .inl tf))]) [0, 1, 2, 3] (by decide) rfl
    subst hQ9
    exact W.iret (v := (-1 : Int32)) hx hb hr (fun t ht hW => ⟨⟨(-1 : Int32), tf, rfl, hw, by rw [ht]; exact hP9, va_K.moved hW.alike hK, hD9⟩, hS.F ht⟩) hS.2.2 dZO_openRow_17
  · have hw := hw.2 c_1
    refine lv_aload_n hx hb dZO_openRow_5 rfl (lv_at hl 0 rfl) ?_
    refine va_get (D := (dC, dI)) (ci := 0) (v := .ref oba) (C := RZB) (T := TZB) (N := 2) hx hb hts inZB hown hK hP 0 rfl rfl 0 (by decide) (hts _ mm_76) (fun _ h9 => h9) rfl dZO_openRow_6 ?_
    refine lv_iload_n hx hb dZO_openRow_9 rfl (lv_at hl 1 rfl) ?_
    obtain ⟨h_2, hw⟩ := hw
    refine va_iald hx hb hK hP 1 0 rfl rfl h_2 dZO_openRow_10 ?_
    refine lv_bipush (v := (9 : Int32)) hx hb dZO_openRow_11 (by decide) ?_
    refine lv_icmp_le (tgt := 18) hx hb dZO_openRow_13 (by decide) (fun c_3 => ?_) (fun c_3 => ?_)
    · have hw := hw.1 c_3
      refine lv_aload_n hx hb dZO_openRow_18 rfl (lv_at hl 0 rfl) ?_
      refine va_get (D := (dC, dI)) (ci := 0) (v := .ref oba) (C := RZB) (T := TZB) (N := 2) hx hb hts inZB hown hK hP 0 rfl rfl 0 (by decide) (hts _ mm_76) (fun _ h9 => h9) rfl dZO_openRow_19 ?_
      refine lv_iload_n hx hb dZO_openRow_22 rfl (lv_at hl 1 rfl) ?_
      obtain ⟨h_4, hw⟩ := hw
      refine va_iald hx hb hK hP 1 0 rfl rfl h_4 dZO_openRow_23 ?_
      refine lv_istore (lv' := [(5, .int (bf a1.toNatClampNeg)), (0, .ref ob), (1, .int a1), (2, .int a2), (3, .ref ot), (4, .int a3)]) hx hb dZO_openRow_24 hl (by decide) rfl (fun ls hl => ?_)
      refine lv_iload hx hb dZO_openRow_26 (lv_at hl 0 rfl) ?_
      refine lv_aload_n hx hb dZO_openRow_28 rfl (lv_at hl 4 rfl) ?_
      refine va_get (D := (dC, dI)) (ci := 4) (v := .int tw) (C := RZT) (T := TZT) (N := 3) hx hb hts inZT hown hK hP 2 rfl rfl 1 (by decide) (hts _ mm_121) (fun _ h9 => h9) rfl dZO_openRow_29 ?_
      refine lv_imul hx hb dZO_openRow_32 ?_
      refine lv_istore (lv' := [(6, .int ((bf a1.toNatClampNeg) * tw)), (5, .int (bf a1.toNatClampNeg)), (0, .ref ob), (1, .int a1), (2, .int a2), (3, .ref ot), (4, .int a3)]) hx hb dZO_openRow_33 hl (by decide) rfl (fun ls hl => ?_)
      refine lv_iload_n hx hb dZO_openRow_35 rfl (lv_at hl 3 rfl) ?_
      refine lv_iconst (v := (1 : Int32)) hx hb dZO_openRow_36 (by decide) ?_
      refine lv_iadd hx hb dZO_openRow_37 ?_
      refine lv_iload hx hb dZO_openRow_38 (lv_at hl 0 rfl) ?_
      refine lv_bipush (v := (7 : Int32)) hx hb dZO_openRow_40 (by decide) ?_
      refine lv_iadd hx hb dZO_openRow_42 ?_
      refine lv_bipush (v := (8 : Int32)) hx hb dZO_openRow_43 (by decide) ?_
      refine lv_idiv hx hb dZO_openRow_45 (by decide) ?_
      refine lv_iadd hx hb dZO_openRow_46 ?_
      refine lv_istore (lv' := [(7, .int ((a1 + (1 : Int32)) + ((((bf a1.toNatClampNeg) * tw) + (7 : Int32)) / (8 : Int32)))), (6, .int ((bf a1.toNatClampNeg) * tw)), (5, .int (bf a1.toNatClampNeg)), (0, .ref ob), (1, .int a1), (2, .int a2), (3, .ref ot), (4, .int a3)]) hx hb dZO_openRow_47 hl (by decide) rfl (fun ls hl => ?_)
      refine lv_iload hx hb dZO_openRow_49 (lv_at hl 0 rfl) ?_
      refine lv_iload_n hx hb dZO_openRow_51 rfl (lv_at hl 5 rfl) ?_
      refine lv_icmp_le (tgt := 57) hx hb dZO_openRow_52 (by decide) (fun c_5 => ?_) (fun c_5 => ?_)
      · have hw := hw.1 c_5
        refine lv_bipush (v := (8 : Int32)) hx hb dZO_openRow_57 (by decide) ?_
        refine lv_iload_n hx hb dZO_openRow_59 rfl (lv_at hl 4 rfl) ?_
        refine lv_iconst (v := (1 : Int32)) hx hb dZO_openRow_60 (by decide) ?_
        refine lv_iadd hx hb dZO_openRow_61 ?_
        refine lv_imul hx hb dZO_openRow_62 ?_
        refine lv_istore (lv' := [(8, .int ((8 : Int32) * (a1 + (1 : Int32)))), (7, .int ((a1 + (1 : Int32)) + ((((bf a1.toNatClampNeg) * tw) + (7 : Int32)) / (8 : Int32)))), (6, .int ((bf a1.toNatClampNeg) * tw)), (5, .int (bf a1.toNatClampNeg)), (0, .ref ob), (1, .int a1), (2, .int a2), (3, .ref ot), (4, .int a3)]) hx hb dZO_openRow_63 hl (by decide) rfl (fun ls hl => ?_)
        refine lv_iconst (v := (0 : Int32)) hx hb dZO_openRow_65 (by decide) ?_
        refine lv_istore (lv' := [(9, .int (0 : Int32)), (8, .int ((8 : Int32) * (a1 + (1 : Int32)))), (7, .int ((a1 + (1 : Int32)) + ((((bf a1.toNatClampNeg) * tw) + (7 : Int32)) / (8 : Int32)))), (6, .int ((bf a1.toNatClampNeg) * tw)), (5, .int (bf a1.toNatClampNeg)), (0, .ref ob), (1, .int a1), (2, .int a2), (3, .ref ot), (4, .int a3)]) hx hb dZO_openRow_66 hl (by decide) rfl (fun ls hl => ?_)
        refine lv_iconst (v := (0 : Int32)) hx hb dZO_openRow_68 (by decide) ?_
        refine lv_istore (lv' := [(10, .int (0 : Int32)), (9, .int (0 : Int32)), (8, .int ((8 : Int32) * (a1 + (1 : Int32)))), (7, .int ((a1 + (1 : Int32)) + ((((bf a1.toNatClampNeg) * tw) + (7 : Int32)) / (8 : Int32)))), (6, .int ((bf a1.toNatClampNeg) * tw)), (5, .int (bf a1.toNatClampNeg)), (0, .ref ob), (1, .int a1), (2, .int a2), (3, .ref ot), (4, .int a3)]) hx hb dZO_openRow_69 hl (by decide) rfl (fun ls hl => ?_)
        have lp71 : ∀ K71 : Int32 → Int32 → Int32 → (Nat → Int32) → Prop, (∀ (x8_71 : Int32) (x9_71 : Int32) (x10_71 : Int32) (f_71_ota : Nat → Int32), K71 x8_71 x9_71 x10_71 f_71_ota → ∀ (H : Heap) (locs : List Loc), va_P (dC, dI) vwCl [(ob, .inr (0, [.ref oba, .int bl])), (oba, .inl (cI, 256, .inl bf)), (ot, .inr (4, [.ref ota, .int tw, .int th])), (ota, .inl (cI, 64, .inl f_71_ota))] H → va_D A [(ob, .inr (0, [.ref oba, .int bl])), (oba, .inl (cI, 256, .inl bf)), (ot, .inr (4, [.ref ota, .int tw, .int th])), (ota, .inl (cI, 64, .inl f_71_ota))] → va_S A s.heap H locs → ∀ ls : Array Slot, lv_has ls 13 [(10, .int x10_71), (9, .int x9_71), (8, .int x8_71), (7, .int ((a1 + (1 : Int32)) + ((((bf a1.toNatClampNeg) * tw) + (7 : Int32)) / (8 : Int32)))), (6, .int ((bf a1.toNatClampNeg) * tw)), (5, .int (bf a1.toNatClampNeg)), (0, .ref ob), (1, .int a1), (2, .int a2), (3, .ref ot), (4, .int a3)] → W p l e (headSpec wsZO_openRow rm_ZO_openRow).room s m args below meth c H locs 0 0 Q9 (F0 m 148 ls [])) → ∀ (n : Nat) (x8_71 : Int32) (x9_71 : Int32) (x10_71 : Int32) (f_71_ota : Nat → Int32), lp_ZO_openRow_71 bl bf tw th tf a1 a2 a3 post K71 n x8_71 x9_71 x10_71 f_71_ota → ∀ (H : Heap) (locs : List Loc), va_P (dC, dI) vwCl [(ob, .inr (0, [.ref oba, .int bl])), (oba, .inl (cI, 256, .inl bf)), (ot, .inr (4, [.ref ota, .int tw, .int th])), (ota, .inl (cI, 64, .inl f_71_ota))] H → va_D A [(ob, .inr (0, [.ref oba, .int bl])), (oba, .inl (cI, 256, .inl bf)), (ot, .inr (4, [.ref ota, .int tw, .int th])), (ota, .inl (cI, 64, .inl f_71_ota))] → va_S A s.heap H locs → ∀ ls : Array Slot, lv_has ls 13 [(10, .int x10_71), (9, .int x9_71), (8, .int x8_71), (7, .int ((a1 + (1 : Int32)) + ((((bf a1.toNatClampNeg) * tw) + (7 : Int32)) / (8 : Int32)))), (6, .int ((bf a1.toNatClampNeg) * tw)), (5, .int (bf a1.toNatClampNeg)), (0, .ref ob), (1, .int a1), (2, .int a2), (3, .ref ot), (4, .int a3)] → W p l e (headSpec wsZO_openRow rm_ZO_openRow).room s m args below meth c H locs 0 0 Q9 (F0 m 71 ls []) := by
          intro K71 aft71 n
          induction n with
          | zero => intro x8_71 x9_71 x10_71 f_71_ota hw; exact False.elim hw
          | succ n ih71 =>
            intro x8_71 x9_71 x10_71 f_71_ota hw H locs hP hD hS ls hl
            refine lv_iload hx hb dZO_openRow_71 (lv_at hl 0 rfl) ?_
            refine lv_aload_n hx hb dZO_openRow_73 rfl (lv_at hl 9 rfl) ?_
            refine va_get (D := (dC, dI)) (ci := 4) (v := .int tw) (C := RZT) (T := TZT) (N := 3) hx hb hts inZT hown hK hP 2 rfl rfl 1 (by decide) (hts _ mm_121) (fun _ h9 => h9) rfl dZO_openRow_74 ?_
            refine lv_icmp_ge (tgt := 148) hx hb dZO_openRow_77 (by decide) (fun c_6 => ?_) (fun c_6 => ?_)
            · have hw := hw.1 c_6
              exact aft71 x8_71 x9_71 x10_71 f_71_ota hw _ _ (hP.sub [0, 1, 2, 3] rfl) (hD.sub [0, 1, 2, 3] (by decide) rfl) hS ls (lv_sub hl [0, 1, 2, 3, 4, 5, 6, 7, 8, 9, 10] rfl)
            · have hw := hw.2 c_6
              refine lv_aload_n hx hb dZO_openRow_80 rfl (lv_at hl 6 rfl) ?_
              refine lv_iload hx hb dZO_openRow_81 (lv_at hl 2 rfl) ?_
              refine lv_iload hx hb dZO_openRow_83 (lv_at hl 5 rfl) ?_
              have hPc := hP.sub (ws' := [(ob, .inr (0, [.ref oba, .int bl])), (oba, .inl (cI, 256, .inl bf))]) [0, 1] rfl
              refine vp_callSi (va_runV (As := [.int x8_71, .int (bf a1.toNatClampNeg)]) (rest := []) ⟨hx, hb, hml, hown, hts⟩ (kt_ZB_bitsFrom l dC dI cI ob oba bl bf x8_71 (bf a1.toNatClampNeg) _ hw) (cwV 2 hts (tb_V mm_191 mm_192 mm_193 mm_5 mm_194) rfl rfl rfl (by decide +kernel) ⟨Nat.le_of_ble_eq_true rfl, Nat.le_of_ble_eq_true rfl⟩) ⟨gr_blind, va_recv hK hPc (ci := 0) (q0 := 0) rfl rfl, fun U hU hW => gr_pre hPc hK hE hU hW⟩ rfl rfl hl.1 rfl (lv_room (Nat.le_of_ble_eq_true rfl)) dZO_openRow_85 ⟨Nat.le_of_ble_eq_true rfl, Nat.le_of_ble_eq_true rfl⟩).run (fun r_7 hw => ?_)
              refine lv_istore (lv' := [(11, .int r_7), (10, .int x10_71), (9, .int x9_71), (8, .int x8_71), (7, .int ((a1 + (1 : Int32)) + ((((bf a1.toNatClampNeg) * tw) + (7 : Int32)) / (8 : Int32)))), (6, .int ((bf a1.toNatClampNeg) * tw)), (5, .int (bf a1.toNatClampNeg)), (0, .ref ob), (1, .int a1), (2, .int a2), (3, .ref ot), (4, .int a3)]) hx hb dZO_openRow_88 hl (by decide) rfl (fun ls hl => ?_)
              refine lv_aload_n hx hb dZO_openRow_90 rfl (lv_at hl 10 rfl) ?_
              refine lv_iload hx hb dZO_openRow_91 (lv_at hl 1 rfl) ?_
              refine lv_iload hx hb dZO_openRow_93 (lv_at hl 11 rfl) ?_
              have hPc := hP.sub (ws' := [(ot, .inr (4, [.ref ota, .int tw, .int th])), (ota, .inl (cI, 64, .inl f_71_ota))]) [2, 3] rfl
              refine vp_callSi (va_runV (As := [.int x10_71, .int a3]) (rest := []) ⟨hx, hb, hml, hown, hts⟩ (kt_ZT_formerSample l dC dI cI ot ota tw th f_71_ota x10_71 a3 _ hw) (cwV 2 hts (tb_V mm_195 mm_196 mm_197 mm_7 mm_198) rfl rfl rfl (by decide +kernel) ⟨Nat.le_of_ble_eq_true rfl, Nat.le_of_ble_eq_true rfl⟩) ⟨gr_blind, va_recv hK hPc (ci := 4) (q0 := 0) rfl rfl, fun U hU hW => gr_pre hPc hK hE hU hW⟩ rfl rfl hl.1 rfl (lv_room (Nat.le_of_ble_eq_true rfl)) dZO_openRow_95 ⟨Nat.le_of_ble_eq_true rfl, Nat.le_of_ble_eq_true rfl⟩).run (fun r_8 hw => ?_)
              refine lv_iload hx hb dZO_openRow_98 (lv_at hl 0 rfl) ?_
              have hPc := hP.sub (ws' := []) [] rfl
              refine vp_callSi (va_runS (As := [.int r_7]) (rest := [.int r_8]) ⟨hx, hb, hml, hown, hts⟩ (kt_ZO_differenceOf l dC dI cI  r_7 _ hw) (va_cwS 1 hts (tb_S mm_203 mm_204 mm_16 mm_205) rfl rfl rfl (by decide +kernel) ⟨Nat.le_of_ble_eq_true rfl, Nat.le_of_ble_eq_true rfl⟩) ⟨gr_blind, fun U hU hW => gr_pre hPc hK hE hU hW⟩ rfl rfl hl.1 rfl (lv_room (Nat.le_of_ble_eq_true rfl)) dZO_openRow_100 ⟨Nat.le_of_ble_eq_true rfl, Nat.le_of_ble_eq_true rfl⟩).run (fun r_9 hw => ?_)
              refine lv_iadd hx hb dZO_openRow_103 ?_
              refine lv_istore (lv' := [(12, .int (r_8 + r_9)), (11, .int r_7), (10, .int x10_71), (9, .int x9_71), (8, .int x8_71), (7, .int ((a1 + (1 : Int32)) + ((((bf a1.toNatClampNeg) * tw) + (7 : Int32)) / (8 : Int32)))), (6, .int ((bf a1.toNatClampNeg) * tw)), (5, .int (bf a1.toNatClampNeg)), (0, .ref ob), (1, .int a1), (2, .int a2), (3, .ref ot), (4, .int a3)]) hx hb dZO_openRow_104 hl (by decide) rfl (fun ls hl => ?_)
              refine lv_iload hx hb dZO_openRow_106 (lv_at hl 0 rfl) ?_
              have hPc := hP.sub (ws' := []) [] rfl
              refine vp_callSi (va_runSN (As := [.int (r_8 + r_9)]) (rest := []) ⟨hx, hb, hml, hown, hts⟩ (kt_ZQ_isSample l dC dI cI  (r_8 + r_9) _ hw) ⟨(va_cnB 1 hts (tb_0 mm_208) rfl rfl rfl (gxE_2 hE) (hts _ mm_1) (by decide +kernel) ⟨Nat.le_of_ble_eq_true rfl, Nat.le_of_ble_eq_true rfl⟩), hts _ mm_207, trivial⟩ ⟨gr_blind, fun U hU hW => gr_pre hPc hK hE hU hW⟩ rfl rfl hl.1 rfl (lv_room (Nat.le_of_ble_eq_true rfl)) dZO_openRow_108 ⟨Nat.le_of_ble_eq_true rfl, Nat.le_of_ble_eq_true rfl⟩).run (fun r_10 hw => ?_)
              refine lv_if_ne (tgt := 116) hx hb dZO_openRow_111 (by decide) (fun c_11 => ?_) (fun c_11 => ?_)
              · have hw := hw.2 c_11
                refine lv_aload_n hx hb dZO_openRow_116 rfl (lv_at hl 11 rfl) ?_
                refine lv_iload hx hb dZO_openRow_117 (lv_at hl 2 rfl) ?_
                refine lv_iload hx hb dZO_openRow_119 (lv_at hl 12 rfl) ?_
                refine lv_iload hx hb dZO_openRow_121 (lv_at hl 0 rfl) ?_
                have hPc := hP.sub (ws' := [(ot, .inr (4, [.ref ota, .int tw, .int th])), (ota, .inl (cI, 64, .inl f_71_ota))]) [2, 3] rfl
                have hDc := hD.sub (ws' := [(ot, .inr (4, [.ref ota, .int tw, .int th])), (ota, .inl (cI, 64, .inl f_71_ota))]) [2, 3] (by decide) rfl
                have hFc := va_free (wc := [(ot, .inr (4, [.ref ota, .int tw, .int th])), (ota, .inl (cI, 64, .inl f_71_ota))]) hD hS hA [2, 3] rfl
                refine va_callv (va_runV (As := [.int x10_71, .int a3, .int (r_8 + r_9)]) (rest := []) ⟨hx, hb, hml, hown, hts⟩ (kt_ZT_setSample l dC dI cI ot ota _ tw th f_71_ota x10_71 a3 (r_8 + r_9) _ hw) (cwV 3 hts (tb_V mm_209 mm_210 mm_211 mm_7 mm_212) rfl rfl rfl (by decide +kernel) ⟨Nat.le_of_ble_eq_true rfl, Nat.le_of_ble_eq_true rfl⟩) ⟨gw_blind, va_recv hK hPc (ci := 4) (q0 := 0) rfl rfl, fun U hU hW => gw_pre hPc hDc hK hE hU hW⟩ rfl rfl hl.1 rfl (lv_room (Nat.le_of_ble_eq_true rfl)) dZO_openRow_123 ⟨Nat.le_of_ble_eq_true rfl, Nat.le_of_ble_eq_true rfl⟩) hS (fun q _ h => hFc q h) hFc (fun tf_12 t H1 locs ht hvm hw hB hz1 hk1 hS => ?_)
                obtain ⟨hP1, hK1, hD1⟩ := hB
                rw [ht] at hP1
                try dsimp only at hw
                obtain ⟨hP, hD⟩ := va_join (wr := [(ob, .inr (0, [.ref oba, .int bl])), (oba, .inl (cI, 256, .inl bf))]) (w1 := [(ot, .inr (4, [.ref ota, .int tw, .int th])), (ota, .inl (cI, 64, .inl tf_12))]) hP hD [2, 3] [0, 1] rfl rfl (by decide) (by decide) hk1 hFc hP1 hD1
                generalize H1 = H at hP hS ⊢
                have hP : va_P (dC, dI) vwCl [(ob, .inr (0, [.ref oba, .int bl])), (oba, .inl (cI, 256, .inl bf)), (ot, .inr (4, [.ref ota, .int tw, .int th])), (ota, .inl (cI, 64, .inl tf_12))] H := hP
                have hD : va_D A [(ob, .inr (0, [.ref oba, .int bl])), (oba, .inl (cI, 256, .inl bf)), (ot, .inr (4, [.ref ota, .int tw, .int th])), (ota, .inl (cI, 64, .inl tf_12))] := hD
                refine lv_iload hx hb dZO_openRow_126 (lv_at hl 3 rfl) ?_
                refine lv_iload hx hb dZO_openRow_128 (lv_at hl 1 rfl) ?_
                refine va_mmax hx hb (hml.trans hl.1.symm) hown (hts _ mm_213) (hts _ mm_29) (hts _ mm_2) (hts _ mm_30) (Nat.le_of_ble_eq_true rfl) (Nat.le_of_ble_eq_true rfl) (Nat.le_of_ble_eq_true rfl) (Nat.le_of_ble_eq_true rfl) dZO_openRow_130 ?_
                refine lv_istore (lv' := [(9, .int (if x9_71 < r_7 then r_7 else x9_71)), (12, .int (r_8 + r_9)), (11, .int r_7), (10, .int x10_71), (8, .int x8_71), (7, .int ((a1 + (1 : Int32)) + ((((bf a1.toNatClampNeg) * tw) + (7 : Int32)) / (8 : Int32)))), (6, .int ((bf a1.toNatClampNeg) * tw)), (5, .int (bf a1.toNatClampNeg)), (0, .ref ob), (1, .int a1), (2, .int a2), (3, .ref ot), (4, .int a3)]) hx hb dZO_openRow_133 hl (by decide) rfl (fun ls hl => ?_)
                refine lv_iload hx hb dZO_openRow_135 (lv_at hl 4 rfl) ?_
                refine lv_iload hx hb dZO_openRow_137 (lv_at hl 7 rfl) ?_
                refine lv_iadd hx hb dZO_openRow_139 ?_
                refine lv_istore (lv' := [(8, .int (x8_71 + (bf a1.toNatClampNeg))), (9, .int (if x9_71 < r_7 then r_7 else x9_71)), (12, .int (r_8 + r_9)), (11, .int r_7), (10, .int x10_71), (7, .int ((a1 + (1 : Int32)) + ((((bf a1.toNatClampNeg) * tw) + (7 : Int32)) / (8 : Int32)))), (6, .int ((bf a1.toNatClampNeg) * tw)), (5, .int (bf a1.toNatClampNeg)), (0, .ref ob), (1, .int a1), (2, .int a2), (3, .ref ot), (4, .int a3)]) hx hb dZO_openRow_140 hl (by decide) rfl (fun ls hl => ?_)
                refine lv_iinc (v := x10_71 + (1 : Int32)) (lv' := [(10, .int (x10_71 + (1 : Int32))), (8, .int (x8_71 + (bf a1.toNatClampNeg))), (9, .int (if x9_71 < r_7 then r_7 else x9_71)), (12, .int (r_8 + r_9)), (11, .int r_7), (7, .int ((a1 + (1 : Int32)) + ((((bf a1.toNatClampNeg) * tw) + (7 : Int32)) / (8 : Int32)))), (6, .int ((bf a1.toNatClampNeg) * tw)), (5, .int (bf a1.toNatClampNeg)), (0, .ref ob), (1, .int a1), (2, .int a2), (3, .ref ot), (4, .int a3)]) hx hb dZO_openRow_142 hl (k := 4) rfl rfl (by decide) rfl (fun ls hl => ?_)
                refine lv_goto (tgt := 71) hx hb dZO_openRow_145 (by decide) ?_
                exact ih71 (x8_71 + (bf a1.toNatClampNeg)) (if x9_71 < r_7 then r_7 else x9_71) (x10_71 + (1 : Int32)) tf_12 hw _ _ (hP.sub [0, 1, 2, 3] rfl) (hD.sub [0, 1, 2, 3] (by decide) rfl) hS ls (lv_sub hl [0, 2, 1, 5, 6, 7, 8, 9, 10, 11, 12] rfl)
              · have hw := hw.1 c_11
                refine lv_iconst (v := (-1 : Int32)) hx hb dZO_openRow_114 (by decide) ?_
                have hP9 := hP.sub (ws' := [(ob, .inr (0, [.ref oba, .int bl])), (oba, .inl (cI, 256, .inl bf)), (ot, .inr (4, [.ref ota, .int tw, .int th])), (ota, .inl (cI, 64, .inl f_71_ota))]) [0, 1, 2, 3] rfl
                have hD9 := hD.sub (ws' := [(ob, .inr (0, [.ref oba, .int bl])), (oba, .inl (cI, 256, .inl bf)), (ot, .inr (4, [.ref ota, .int tw, .int th])), (ota, .inl (cI, 64, .inl f_71_ota))]) [0, 1, 2, 3] (by decide) rfl
                subst hQ9
                exact W.iret (v := (-1 : Int32)) hx hb hr (fun t ht hW => ⟨⟨(-1 : Int32), f_71_ota, rfl, hw, by rw [ht]; exact hP9, va_K.moved hW.alike hK, hD9⟩, hS.F ht⟩) hS.2.2 dZO_openRow_115
        obtain ⟨n71, hw⟩ := hw
        refine lp71 _ (fun x8_71e x9_71e x10_71e f_71e_ota hw H locs hP hD hS ls hl => ?_) n71 ((8 : Int32) * (a1 + (1 : Int32))) (0 : Int32) (0 : Int32) tf hw _ _ (hP.sub [0, 1, 2, 3] rfl) (hD.sub [0, 1, 2, 3] (by decide) rfl) hS ls (lv_sub hl [0, 1, 2, 3, 4, 5, 6, 7, 8, 9, 10] rfl)
        refine lv_aload_n hx hb dZO_openRow_148 rfl (lv_at hl 6 rfl) ?_
        refine lv_iload hx hb dZO_openRow_149 (lv_at hl 2 rfl) ?_
        refine lv_bipush (v := (8 : Int32)) hx hb dZO_openRow_151 (by decide) ?_
        refine lv_iload hx hb dZO_openRow_153 (lv_at hl 3 rfl) ?_
        refine lv_imul hx hb dZO_openRow_155 ?_
        refine lv_iload hx hb dZO_openRow_156 (lv_at hl 2 rfl) ?_
        refine lv_isub hx hb dZO_openRow_158 ?_
        have hPc := hP.sub (ws' := [(ob, .inr (0, [.ref oba, .int bl])), (oba, .inl (cI, 256, .inl bf))]) [0, 1] rfl
        refine vp_callSi (va_runV (As := [.int x8_71e, .int (((8 : Int32) * ((a1 + (1 : Int32)) + ((((bf a1.toNatClampNeg) * tw) + (7 : Int32)) / (8 : Int32)))) - x8_71e)]) (rest := []) ⟨hx, hb, hml, hown, hts⟩ (kt_ZB_bitsFrom l dC dI cI ob oba bl bf x8_71e (((8 : Int32) * ((a1 + (1 : Int32)) + ((((bf a1.toNatClampNeg) * tw) + (7 : Int32)) / (8 : Int32)))) - x8_71e) _ hw) (cwV 2 hts (tb_V mm_191 mm_192 mm_193 mm_5 mm_194) rfl rfl rfl (by decide +kernel) ⟨Nat.le_of_ble_eq_true rfl, Nat.le_of_ble_eq_true rfl⟩) ⟨gr_blind, va_recv hK hPc (ci := 0) (q0 := 0) rfl rfl, fun U hU hW => gr_pre hPc hK hE hU hW⟩ rfl rfl hl.1 rfl (lv_room (Nat.le_of_ble_eq_true rfl)) dZO_openRow_159 ⟨Nat.le_of_ble_eq_true rfl, Nat.le_of_ble_eq_true rfl⟩).run (fun r_13 hw => ?_)
        obtain ⟨J170, hJ170, hw⟩ := hw
        have j170 : ∀ (t0_j170 : Int32), J170 t0_j170 → ∀ (H : Heap) (locs : List Loc), va_P (dC, dI) vwCl [(ob, .inr (0, [.ref oba, .int bl])), (oba, .inl (cI, 256, .inl bf)), (ot, .inr (4, [.ref ota, .int tw, .int th])), (ota, .inl (cI, 64, .inl f_71e_ota))] H → va_D A [(ob, .inr (0, [.ref oba, .int bl])), (oba, .inl (cI, 256, .inl bf)), (ot, .inr (4, [.ref ota, .int tw, .int th])), (ota, .inl (cI, 64, .inl f_71e_ota))] → va_S A s.heap H locs → ∀ ls : Array Slot, lv_has ls 13 [(10, .int x10_71e), (9, .int x9_71e), (8, .int x8_71e), (7, .int ((a1 + (1 : Int32)) + ((((bf a1.toNatClampNeg) * tw) + (7 : Int32)) / (8 : Int32)))), (6, .int ((bf a1.toNatClampNeg) * tw)), (5, .int (bf a1.toNatClampNeg)), (0, .ref ob), (1, .int a1), (2, .int a2), (3, .ref ot), (4, .int a3)] → W p l e (headSpec wsZO_openRow rm_ZO_openRow).room s m args below meth c H locs 0 0 Q9 (F0 m 170 ls [.int t0_j170]) := by
          intro t0_j170 hw H locs hP hD hS ls hl
          have hw := hJ170 t0_j170 hw
          refine lv_istore (lv' := [(10, .int t0_j170), (9, .int x9_71e), (8, .int x8_71e), (7, .int ((a1 + (1 : Int32)) + ((((bf a1.toNatClampNeg) * tw) + (7 : Int32)) / (8 : Int32)))), (6, .int ((bf a1.toNatClampNeg) * tw)), (5, .int (bf a1.toNatClampNeg)), (0, .ref ob), (1, .int a1), (2, .int a2), (3, .ref ot), (4, .int a3)]) hx hb dZO_openRow_170 hl (by decide) rfl (fun ls hl => ?_)
          refine lv_iload hx hb dZO_openRow_172 (lv_at hl 0 rfl) ?_
          refine lv_if_eq (tgt := 192) hx hb dZO_openRow_174 (by decide) (fun c_14 => ?_) (fun c_14 => ?_)
          · have hw := hw.1 c_14
            refine lv_iconst (v := (-1 : Int32)) hx hb dZO_openRow_192 (by decide) ?_
            have hP9 := hP.sub (ws' := [(ob, .inr (0, [.ref oba, .int bl])), (oba, .inl (cI, 256, .inl bf)), (ot, .inr (4, [.ref ota, .int tw, .int th])), (ota, .inl (cI, 64, .inl f_71e_ota))]) [0, 1, 2, 3] rfl
            have hD9 := hD.sub (ws' := [(ob, .inr (0, [.ref oba, .int bl])), (oba, .inl (cI, 256, .inl bf)), (ot, .inr (4, [.ref ota, .int tw, .int th])), (ota, .inl (cI, 64, .inl f_71e_ota))]) [0, 1, 2, 3] (by decide) rfl
            subst hQ9
            exact W.iret (v := (-1 : Int32)) hx hb hr (fun t ht hW => ⟨⟨(-1 : Int32), f_71e_ota, rfl, hw, by rw [ht]; exact hP9, va_K.moved hW.alike hK, hD9⟩, hS.F ht⟩) hS.2.2 dZO_openRow_193
          · have hw := hw.2 c_14
            refine lv_iload hx hb dZO_openRow_177 (lv_at hl 1 rfl) ?_
            have hPc := hP.sub (ws' := []) [] rfl
            refine vp_callSi (va_runSN (As := [.int x9_71e]) (rest := []) ⟨hx, hb, hml, hown, hts⟩ (kt_ZQ_bitsNeeded l dC dI cI  x9_71e _ hw) ⟨(va_cnB 1 hts (tb_0 mm_216) rfl rfl rfl (gxE_3 hE) (hts _ mm_1) (by decide +kernel) ⟨Nat.le_of_ble_eq_true rfl, Nat.le_of_ble_eq_true rfl⟩), hts _ mm_215, trivial⟩ ⟨gr_blind, fun U hU hW => gr_pre hPc hK hE hU hW⟩ rfl rfl hl.1 rfl (lv_room (Nat.le_of_ble_eq_true rfl)) dZO_openRow_179 ⟨Nat.le_of_ble_eq_true rfl, Nat.le_of_ble_eq_true rfl⟩).run (fun r_15 hw => ?_)
            refine lv_iload hx hb dZO_openRow_182 (lv_at hl 5 rfl) ?_
            refine lv_icmp_ne (tgt := 192) hx hb dZO_openRow_184 (by decide) (fun c_16 => ?_) (fun c_16 => ?_)
            · have hw := hw.2 c_16
              refine lv_iconst (v := (-1 : Int32)) hx hb dZO_openRow_192 (by decide) ?_
              have hP9 := hP.sub (ws' := [(ob, .inr (0, [.ref oba, .int bl])), (oba, .inl (cI, 256, .inl bf)), (ot, .inr (4, [.ref ota, .int tw, .int th])), (ota, .inl (cI, 64, .inl f_71e_ota))]) [0, 1, 2, 3] rfl
              have hD9 := hD.sub (ws' := [(ob, .inr (0, [.ref oba, .int bl])), (oba, .inl (cI, 256, .inl bf)), (ot, .inr (4, [.ref ota, .int tw, .int th])), (ota, .inl (cI, 64, .inl f_71e_ota))]) [0, 1, 2, 3] (by decide) rfl
              subst hQ9
              exact W.iret (v := (-1 : Int32)) hx hb hr (fun t ht hW => ⟨⟨(-1 : Int32), f_71e_ota, rfl, hw, by rw [ht]; exact hP9, va_K.moved hW.alike hK, hD9⟩, hS.F ht⟩) hS.2.2 dZO_openRow_193
            · have hw := hw.1 c_16
              refine lv_iload hx hb dZO_openRow_187 (lv_at hl 3 rfl) ?_
              refine lv_goto (tgt := 193) hx hb dZO_openRow_189 (by decide) ?_
              have hP9 := hP.sub (ws' := [(ob, .inr (0, [.ref oba, .int bl])), (oba, .inl (cI, 256, .inl bf)), (ot, .inr (4, [.ref ota, .int tw, .int th])), (ota, .inl (cI, 64, .inl f_71e_ota))]) [0, 1, 2, 3] rfl
              have hD9 := hD.sub (ws' := [(ob, .inr (0, [.ref oba, .int bl])), (oba, .inl (cI, 256, .inl bf)), (ot, .inr (4, [.ref ota, .int tw, .int th])), (ota, .inl (cI, 64, .inl f_71e_ota))]) [0, 1, 2, 3] (by decide) rfl
              subst hQ9
              exact W.iret (v := (a1 + (1 : Int32)) + ((((bf a1.toNatClampNeg) * tw) + (7 : Int32)) / (8 : Int32))) hx hb hr (fun t ht hW => ⟨⟨(a1 + (1 : Int32)) + ((((bf a1.toNatClampNeg) * tw) + (7 : Int32)) / (8 : Int32)), f_71e_ota, rfl, hw, by rw [ht]; exact hP9, va_K.moved hW.alike hK, hD9⟩, hS.F ht⟩) hS.2.2 dZO_openRow_193
        refine lv_if_ne (tgt := 169) hx hb dZO_openRow_162 (by decide) (fun c_17 => ?_) (fun c_17 => ?_)
        · have hw := hw.2 c_17
          refine lv_iconst (v := (0 : Int32)) hx hb dZO_openRow_169 (by decide) ?_
          exact j170 (0 : Int32) hw _ _ (hP.sub [0, 1, 2, 3] rfl) (hD.sub [0, 1, 2, 3] (by decide) rfl) hS ls (lv_sub hl [0, 1, 2, 3, 4, 5, 6, 7, 8, 9, 10] rfl)
        · have hw := hw.1 c_17
          refine lv_iconst (v := (1 : Int32)) hx hb dZO_openRow_165 (by decide) ?_
          refine lv_goto (tgt := 170) hx hb dZO_openRow_166 (by decide) ?_
          exact j170 (1 : Int32) hw _ _ (hP.sub [0, 1, 2, 3] rfl) (hD.sub [0, 1, 2, 3] (by decide) rfl) hS ls (lv_sub hl [0, 1, 2, 3, 4, 5, 6, 7, 8, 9, 10] rfl)
      · have hw := hw.2 c_5
        refine lv_iconst (v := (-1 : Int32)) hx hb dZO_openRow_55 (by decide) ?_
        have hP9 := hP.sub (ws' := [(ob, .inr (0, [.ref oba, .int bl])), (oba, .inl (cI, 256, .inl bf)), (ot, .inr (4, [.ref ota, .int tw, .int th])), (ota, .inl (cI, 64, .inl tf))]) [0, 1, 2, 3] rfl
        have hD9 := hD.sub (ws' := [(ob, .inr (0, [.ref oba, .int bl])), (oba, .inl (cI, 256, .inl bf)), (ot, .inr (4, [.ref ota, .int tw, .int th])), (ota, .inl (cI, 64, .inl tf))]) [0, 1, 2, 3] (by decide) rfl
        subst hQ9
        exact W.iret (v := (-1 : Int32)) hx hb hr (fun t ht hW => ⟨⟨(-1 : Int32), tf, rfl, hw, by rw [ht]; exact hP9, va_K.moved hW.alike hK, hD9⟩, hS.F ht⟩) hS.2.2 dZO_openRow_56
    · have hw := hw.2 c_3
      refine lv_iconst (v := (-1 : Int32)) hx hb dZO_openRow_16 (by decide) ?_
      have hP9 := hP.sub (ws' := [(ob, .inr (0, [.ref oba, .int bl])), (oba, .inl (cI, 256, .inl bf)), (ot, .inr (4, [.ref ota, .int tw, .int th])), (ota, .inl (cI, 64, .inl tf))]) [0, 1, 2, 3] rfl
      have hD9 := hD.sub (ws' := [(ob, .inr (0, [.ref oba, .int bl])), (oba, .inl (cI, 256, .inl bf)), (ot, .inr (4, [.ref ota, .int tw, .int th])), (ota, .inl (cI, 64, .inl tf))]) [0, 1, 2, 3] (by decide) rfl
      subst hQ9
      exact W.iret (v := (-1 : Int32)) hx hb hr (fun t ht hW => ⟨⟨(-1 : Int32), tf, rfl, hw, by rw [ht]; exact hP9, va_K.moved hW.alike hK, hD9⟩, hS.F ht⟩) hS.2.2 dZO_openRow_17
theorem dZO_openTile_0 : decode cZO_openTile 0 = .ok (.aload_n 0, 1) := by decide +kernel
theorem dZO_openTile_1 : decode cZO_openTile 1 = .ok (.getfield 9, 3) := by decide +kernel
theorem dZO_openTile_4 : decode cZO_openTile 4 = .ok (.iconst 2, 1) := by decide +kernel
theorem dZO_openTile_5 : decode cZO_openTile 5 = .ok (.isub, 1) := by decide +kernel
theorem dZO_openTile_6 : decode cZO_openTile 6 = .ok (.istore_n 2, 1) := by decide +kernel
theorem dZO_openTile_7 : decode cZO_openTile 7 = .ok (.iload_n 2, 1) := by decide +kernel
theorem dZO_openTile_8 : decode cZO_openTile 8 = .ok (.iconst 2, 1) := by decide +kernel
theorem dZO_openTile_9 : decode cZO_openTile 9 = .ok (.if_icmp .lt 27, 3) := by decide +kernel
theorem dZO_openTile_12 : decode cZO_openTile 12 = .ok (.aload_n 0, 1) := by decide +kernel
theorem dZO_openTile_13 : decode cZO_openTile 13 = .ok (.getfield 19, 3) := by decide +kernel
theorem dZO_openTile_16 : decode cZO_openTile 16 = .ok (.iconst 0, 1) := by decide +kernel
theorem dZO_openTile_17 : decode cZO_openTile 17 = .ok (.iaload, 1) := by decide +kernel
theorem dZO_openTile_18 : decode cZO_openTile 18 = .ok (.invokestatic 23, 3) := by decide +kernel
theorem dZO_openTile_21 : decode cZO_openTile 21 = .ok (.ifCond .eq 15, 3) := by decide +kernel
theorem dZO_openTile_24 : decode cZO_openTile 24 = .ok (.aload_n 0, 1) := by decide +kernel
theorem dZO_openTile_25 : decode cZO_openTile 25 = .ok (.getfield 19, 3) := by decide +kernel
theorem dZO_openTile_28 : decode cZO_openTile 28 = .ok (.iconst 1, 1) := by decide +kernel
theorem dZO_openTile_29 : decode cZO_openTile 29 = .ok (.iaload, 1) := by decide +kernel
theorem dZO_openTile_30 : decode cZO_openTile 30 = .ok (.invokestatic 23, 3) := by decide +kernel
theorem dZO_openTile_33 : decode cZO_openTile 33 = .ok (.ifCond .ne 5, 3) := by decide +kernel
theorem dZO_openTile_36 : decode cZO_openTile 36 = .ok (.iconst 0, 1) := by decide +kernel
theorem dZO_openTile_37 : decode cZO_openTile 37 = .ok (.ireturn, 1) := by decide +kernel
theorem dZO_openTile_38 : decode cZO_openTile 38 = .ok (.aload_n 1, 1) := by decide +kernel
theorem dZO_openTile_39 : decode cZO_openTile 39 = .ok (.aload_n 0, 1) := by decide +kernel
theorem dZO_openTile_40 : decode cZO_openTile 40 = .ok (.getfield 19, 3) := by decide +kernel
theorem dZO_openTile_43 : decode cZO_openTile 43 = .ok (.iconst 0, 1) := by decide +kernel
theorem dZO_openTile_44 : decode cZO_openTile 44 = .ok (.iaload, 1) := by decide +kernel
theorem dZO_openTile_45 : decode cZO_openTile 45 = .ok (.aload_n 0, 1) := by decide +kernel
theorem dZO_openTile_46 : decode cZO_openTile 46 = .ok (.getfield 19, 3) := by decide +kernel
theorem dZO_openTile_49 : decode cZO_openTile 49 = .ok (.iconst 1, 1) := by decide +kernel
theorem dZO_openTile_50 : decode cZO_openTile 50 = .ok (.iaload, 1) := by decide +kernel
theorem dZO_openTile_51 : decode cZO_openTile 51 = .ok (.invokevirtual 29, 3) := by decide +kernel
theorem dZO_openTile_54 : decode cZO_openTile 54 = .ok (.iconst 2, 1) := by decide +kernel
theorem dZO_openTile_55 : decode cZO_openTile 55 = .ok (.istore_n 3, 1) := by decide +kernel
theorem dZO_openTile_56 : decode cZO_openTile 56 = .ok (.iconst 0, 1) := by decide +kernel
theorem dZO_openTile_57 : decode cZO_openTile 57 = .ok (.istore 4, 2) := by decide +kernel
theorem dZO_openTile_59 : decode cZO_openTile 59 = .ok (.iload 4, 2) := by decide +kernel
theorem dZO_openTile_61 : decode cZO_openTile 61 = .ok (.aload_n 1, 1) := by decide +kernel
theorem dZO_openTile_62 : decode cZO_openTile 62 = .ok (.getfield 35, 3) := by decide +kernel
theorem dZO_openTile_65 : decode cZO_openTile 65 = .ok (.if_icmp .ge 24, 3) := by decide +kernel
theorem dZO_openTile_68 : decode cZO_openTile 68 = .ok (.iload_n 3, 1) := by decide +kernel
theorem dZO_openTile_69 : decode cZO_openTile 69 = .ok (.iconst (-1), 1) := by decide +kernel
theorem dZO_openTile_70 : decode cZO_openTile 70 = .ok (.if_icmp .eq 19, 3) := by decide +kernel
theorem dZO_openTile_73 : decode cZO_openTile 73 = .ok (.aload_n 0, 1) := by decide +kernel
theorem dZO_openTile_74 : decode cZO_openTile 74 = .ok (.iload_n 3, 1) := by decide +kernel
theorem dZO_openTile_75 : decode cZO_openTile 75 = .ok (.iload_n 2, 1) := by decide +kernel
theorem dZO_openTile_76 : decode cZO_openTile 76 = .ok (.aload_n 1, 1) := by decide +kernel
theorem dZO_openTile_77 : decode cZO_openTile 77 = .ok (.iload 4, 2) := by decide +kernel
theorem dZO_openTile_79 : decode cZO_openTile 79 = .ok (.invokestatic 38, 3) := by decide +kernel
theorem dZO_openTile_82 : decode cZO_openTile 82 = .ok (.istore_n 3, 1) := by decide +kernel
theorem dZO_openTile_83 : decode cZO_openTile 83 = .ok (.iinc 4 1, 3) := by decide +kernel
theorem dZO_openTile_86 : decode cZO_openTile 86 = .ok (.goto (-27), 3) := by decide +kernel
theorem dZO_openTile_89 : decode cZO_openTile 89 = .ok (.iload_n 3, 1) := by decide +kernel
theorem dZO_openTile_90 : decode cZO_openTile 90 = .ok (.iload_n 2, 1) := by decide +kernel
theorem dZO_openTile_91 : decode cZO_openTile 91 = .ok (.if_icmp .ne 7, 3) := by decide +kernel
theorem dZO_openTile_94 : decode cZO_openTile 94 = .ok (.iconst 1, 1) := by decide +kernel
theorem dZO_openTile_95 : decode cZO_openTile 95 = .ok (.goto 4, 3) := by decide +kernel
theorem dZO_openTile_98 : decode cZO_openTile 98 = .ok (.iconst 0, 1) := by decide +kernel
theorem dZO_openTile_99 : decode cZO_openTile 99 = .ok (.ireturn, 1) := by decide +kernel
abbrev wsZO_openTile : List Cond := .code yZO_openTile cZO_openTile 5 (some .boolean) :: tbg
def lp_ZO_openTile_59 (bl : Int32) (bf : Nat → Int32) (tw : Int32) (th : Int32) (tf : Nat → Int32) (r_3 : Int32) (r_6 : Int32) (tw_10 : Int32) (th_11 : Int32) (post : Int32 → Int32 → Int32 → (Nat → Int32) → Prop) (K59 : Int32 → Int32 → (Nat → Int32) → Prop) (n : Nat) : Int32 → Int32 → (Nat → Int32) → Prop := Nat.rec (motive := fun _ => Int32 → Int32 → (Nat → Int32) → Prop) (fun (x3_59 : Int32) (x4_59 : Int32) (f_59_ota : Nat → Int32) => False) (fun _ ih59 (x3_59 : Int32) (x4_59 : Int32) (f_59_ota : Nat → Int32) => ((th_11 ≤ x4_59 → (K59 x3_59 x4_59 f_59_ota)) ∧ (¬ th_11 ≤ x4_59 → ((x3_59 = (-1 : Int32) → (K59 x3_59 x4_59 f_59_ota)) ∧ (¬ x3_59 = (-1 : Int32) → (wp_ZO_openRow bl bf tw_10 th_11 f_59_ota x3_59 (bl - (2 : Int32)) x4_59 (fun (r_15 : Int32) (tf_14 : Nat → Int32) => ih59 r_15 (x4_59 + (1 : Int32)) tf_14))))))) n
def wp_ZO_openTile (bl : Int32) (bf : Nat → Int32) (tw : Int32) (th : Int32) (tf : Nat → Int32) (post : Int32 → Int32 → Int32 → (Nat → Int32) → Prop) : Prop := (((bl - (2 : Int32)) < (2 : Int32) → (post (0 : Int32) tw th tf)) ∧ (¬ (bl - (2 : Int32)) < (2 : Int32) → (vp_in (0 : Int32) 256 ∧ (wp_ZO_isSide (bf (0 : Int32).toNatClampNeg) (fun r_3 : Int32 => ((r_3 = (0 : Int32) → (post (0 : Int32) tw th tf)) ∧ (¬ r_3 = (0 : Int32) → (vp_in (1 : Int32) 256 ∧ (wp_ZO_isSide (bf (1 : Int32).toNatClampNeg) (fun r_6 : Int32 => ((r_6 = (0 : Int32) → (post (0 : Int32) tw th tf)) ∧ (¬ r_6 = (0 : Int32) → (vp_in (0 : Int32) 256 ∧ (vp_in (1 : Int32) 256 ∧ (wp_ZT_setSize tw th tf (bf (0 : Int32).toNatClampNeg) (bf (1 : Int32).toNatClampNeg) (fun (tw_10 : Int32) (th_11 : Int32) => ∃ n : Nat, lp_ZO_openTile_59 bl bf tw th tf r_3 r_6 tw_10 th_11 post (fun (x3_59e : Int32) (x4_59e : Int32) (f_59e_ota : Nat → Int32) => ((x3_59e = (bl - (2 : Int32)) → (post (1 : Int32) tw_10 th_11 f_59e_ota)) ∧ (¬ x3_59e = (bl - (2 : Int32)) → (post (0 : Int32) tw_10 th_11 f_59e_ota)))) n (2 : Int32) (0 : Int32) tf))))))))))))))))
abbrev rm_ZO_openTile : Room := { frames := 3, cells := 0, slots := 0, locals := 76 }
set_option maxHeartbeats 4000000 in
set_option maxRecDepth 100000 in
theorem kt_ZO_openTile (l : Launch) (dC : Nat → ClassId) (dI : Nat → Nat → Nat) (cI : ClassId) (ob oba ot ota : Nat) (sz : Nat) (bl : Int32) (bf : Nat → Int32) (tw : Int32) (th : Int32) (tf : Nat → Int32) (post : Int32 → Int32 → Int32 → (Nat → Int32) → Prop) (hw : wp_ZO_openTile bl bf tw th tf post) : Met l yZO_openTile wsZO_openTile rm_ZO_openTile (gw_Pc dC dI [(cI, .int)] [.ref ob, .ref ot] [(ob, .inr (0, [.ref oba, .int bl])), (oba, .inl (cI, 256, .inl bf)), (ot, .inr (4, [.ref ota, .int tw, .int th])), (ota, .inl (cI, 64, .inl tf))] sz) (va_Qi (fun (r : Int32) (u : Int32 × Int32 × (Nat → Int32)) => post r u.1 u.2.1 u.2.2) (fun u t => gw_B dC dI [(cI, .int)] (va_A [(ob, .inr (0, [.ref oba, .int bl])), (oba, .inl (cI, 256, .inl bf)), (ot, .inr (4, [.ref ota, .int tw, .int th])), (ota, .inl (cI, 64, .inl tf))] sz) [(ob, .inr (0, [.ref oba, .int bl])), (oba, .inl (cI, 256, .inl bf)), (ot, .inr (4, [.ref ota, .int u.1, .int u.2.1])), (ota, .inl (cI, 64, .inl u.2.2))] t) (va_A [(ob, .inr (0, [.ref oba, .int bl])), (oba, .inl (cI, 256, .inl bf)), (ot, .inr (4, [.ref ota, .int tw, .int th])), (ota, .inl (cI, 64, .inl tf))] sz)) 0 0 (va_A [(ob, .inr (0, [.ref oba, .int bl])), (oba, .inl (cI, 256, .inl bf)), (ot, .inr (4, [.ref ota, .int tw, .int th])), (ota, .inl (cI, 64, .inl tf))] sz) := by
  refine Met.ofW (cc := cZO_openTile) (maxL := 5) (ret := (some .boolean)) (by decide) rfl ?_
  intro p e s m args below meth c s₁ B hml hv
  obtain ⟨ha9, hsz, hP, hK, hE, hD0⟩ := hv
  have hx := B.exec
  have hb := B.bytes
  have hr := B.returns
  have hts0 := atoms_spec (ws := wsZO_openTile) B.pre
  have hts : ∀ w ∈ tbg, w.before args s = true := fun w h => hts0 w (List.mem_cons_of_mem _ h)
  have hown : s.vm.findClass RZO = some m.cls := findClass_of_methodNamed B.named
  have hlocks := B.notSynchronized
  subst hsz
  have hD := hD0.self (sz := s.heap.size)
  refine gx_Q (fun Q9 hQ9 => ?_)
  generalize hAe : va_A [(ob, .inr (0, [.ref oba, .int bl])), (oba, .inl (cI, 256, .inl bf)), (ot, .inr (4, [.ref ota, .int tw, .int th])), (ota, .inl (cI, 64, .inl tf))] s.heap.size = A at hD hQ9 ⊢
  have hA : ∀ q : Nat, s.heap.size ≤ q → A q := fun q h => by rw [← hAe]; exact Or.inr h
  have hS : va_S A s.heap s.heap [] := va_S.rf
  have hl := lv_entry ([.ref ob, .ref ot]) (n := 5) (Nat.le_of_ble_eq_true rfl)
  have he9 : entryFrame m args 5 = F0 m 0 ((lg_sl [.ref ob, .ref ot] ++ List.replicate (5 - (lg_sl ([.ref ob, .ref ot] : List Value)).length) Slot.unset).toArray) [] := by rw [ha9]; exact lg_entry_eq m [.ref ob, .ref ot] 5
  rw [he9]
  generalize (lg_sl ([.ref ob, .ref ot] : List Value) ++ List.replicate (5 - (lg_sl ([.ref ob, .ref ot] : List Value)).length) Slot.unset).toArray = ls at hl ⊢
  have hl : lv_has ls 5 [(0, .ref ob), (1, .ref ot)] := hl
  refine lv_aload_n hx hb dZO_openTile_0 rfl (lv_at hl 0 rfl) ?_
  refine va_get (D := (dC, dI)) (ci := 0) (v := .int bl) (C := RZB) (T := TZB) (N := 2) hx hb hts inZB hown hK hP 0 rfl rfl 1 (by decide) (hts _ mm_79) (fun _ h9 => h9) rfl dZO_openTile_1 ?_
  refine lv_iconst (v := (2 : Int32)) hx hb dZO_openTile_4 (by decide) ?_
  refine lv_isub hx hb dZO_openTile_5 ?_
  refine lv_istore_n (lv' := [(2, .int (bl - (2 : Int32))), (0, .ref ob), (1, .ref ot)]) hx hb dZO_openTile_6 rfl hl (by decide) rfl (fun ls hl => ?_)
  refine lv_iload_n hx hb dZO_openTile_7 rfl (lv_at hl 0 rfl) ?_
  refine lv_iconst (v := (2 : Int32)) hx hb dZO_openTile_8 (by decide) ?_
  refine lv_icmp_lt (tgt := 36) hx hb dZO_openTile_9 (by decide) (fun c_1 => ?_) (fun c_1 => ?_)
  · have hw := hw.1 c_1
    refine lv_iconst (v := (0 : Int32)) hx hb dZO_openTile_36 (by decide) ?_
    have hP9 := hP.sub (ws' := [(ob, .inr (0, [.ref oba, .int bl])), (oba, .inl (cI, 256, .inl bf)), (ot, .inr (4, [.ref ota, .int tw, .int th])), (ota, .inl (cI, 64, .inl tf))]) [0, 1, 2, 3] rfl
    have hD9 := hD.sub (ws' := [(ob, .inr (0, [.ref oba, .int bl])), (oba, .inl (cI, 256, .inl bf)), (ot, .inr (4, [.ref ota, .int tw, .int th])), (ota, .inl (cI, 64, .inl tf))]) [0, 1, 2, 3] (by decide) rfl
    subst hQ9
    exact W.zret (v := (0 : Int32)) (ty := .boolean) hx hb hr rfl (fun t ht hW => ⟨⟨(0 : Int32), (tw, th, tf), rfl, hw, by rw [ht]; exact hP9, va_K.moved hW.alike hK, hD9⟩, hS.F ht⟩) hS.2.2 dZO_openTile_37
  · have hw := hw.2 c_1
    refine lv_aload_n hx hb dZO_openTile_12 rfl (lv_at hl 1 rfl) ?_
    refine va_get (D := (dC, dI)) (ci := 0) (v := .ref oba) (C := RZB) (T := TZB) (N := 2) hx hb hts inZB hown hK hP 0 rfl rfl 0 (by decide) (hts _ mm_76) (fun _ h9 => h9) rfl dZO_openTile_13 ?_
    refine lv_iconst (v := (0 : Int32)) hx hb dZO_openTile_16 (by decide) ?_
    obtain ⟨h_2, hw⟩ := hw
    refine va_iald hx hb hK hP 1 0 rfl rfl h_2 dZO_openTile_17 ?_
    have hPc := hP.sub (ws' := []) [] rfl
    refine vp_callSi (va_runS (As := [.int (bf (0 : Int32).toNatClampNeg)]) (rest := []) ⟨hx, hb, hml, hown, hts⟩ (kt_ZO_isSide l dC dI cI  (bf (0 : Int32).toNatClampNeg) _ hw) (va_cwS 1 hts (tb_S mm_181 mm_182 mm_16 mm_183) rfl rfl rfl (by decide +kernel) ⟨Nat.le_of_ble_eq_true rfl, Nat.le_of_ble_eq_true rfl⟩) ⟨gr_blind, fun U hU hW => gr_pre hPc hK hE hU hW⟩ rfl rfl hl.1 rfl (lv_room (Nat.le_of_ble_eq_true rfl)) dZO_openTile_18 ⟨Nat.le_of_ble_eq_true rfl, Nat.le_of_ble_eq_true rfl⟩).run (fun r_3 hw => ?_)
    refine lv_if_eq (tgt := 36) hx hb dZO_openTile_21 (by decide) (fun c_4 => ?_) (fun c_4 => ?_)
    · have hw := hw.1 c_4
      refine lv_iconst (v := (0 : Int32)) hx hb dZO_openTile_36 (by decide) ?_
      have hP9 := hP.sub (ws' := [(ob, .inr (0, [.ref oba, .int bl])), (oba, .inl (cI, 256, .inl bf)), (ot, .inr (4, [.ref ota, .int tw, .int th])), (ota, .inl (cI, 64, .inl tf))]) [0, 1, 2, 3] rfl
      have hD9 := hD.sub (ws' := [(ob, .inr (0, [.ref oba, .int bl])), (oba, .inl (cI, 256, .inl bf)), (ot, .inr (4, [.ref ota, .int tw, .int th])), (ota, .inl (cI, 64, .inl tf))]) [0, 1, 2, 3] (by decide) rfl
      subst hQ9
      exact W.zret (v := (0 : Int32)) (ty := .boolean) hx hb hr rfl (fun t ht hW => ⟨⟨(0 : Int32), (tw, th, tf), rfl, hw, by rw [ht]; exact hP9, va_K.moved hW.alike hK, hD9⟩, hS.F ht⟩) hS.2.2 dZO_openTile_37
    · have hw := hw.2 c_4
      refine lv_aload_n hx hb dZO_openTile_24 rfl (lv_at hl 1 rfl) ?_
      refine va_get (D := (dC, dI)) (ci := 0) (v := .ref oba) (C := RZB) (T := TZB) (N := 2) hx hb hts inZB hown hK hP 0 rfl rfl 0 (by decide) (hts _ mm_76) (fun _ h9 => h9) rfl dZO_openTile_25 ?_
      refine lv_iconst (v := (1 : Int32)) hx hb dZO_openTile_28 (by decide) ?_
      obtain ⟨h_5, hw⟩ := hw
      refine va_iald hx hb hK hP 1 0 rfl rfl h_5 dZO_openTile_29 ?_
      have hPc := hP.sub (ws' := []) [] rfl
      refine vp_callSi (va_runS (As := [.int (bf (1 : Int32).toNatClampNeg)]) (rest := []) ⟨hx, hb, hml, hown, hts⟩ (kt_ZO_isSide l dC dI cI  (bf (1 : Int32).toNatClampNeg) _ hw) (va_cwS 1 hts (tb_S mm_181 mm_182 mm_16 mm_183) rfl rfl rfl (by decide +kernel) ⟨Nat.le_of_ble_eq_true rfl, Nat.le_of_ble_eq_true rfl⟩) ⟨gr_blind, fun U hU hW => gr_pre hPc hK hE hU hW⟩ rfl rfl hl.1 rfl (lv_room (Nat.le_of_ble_eq_true rfl)) dZO_openTile_30 ⟨Nat.le_of_ble_eq_true rfl, Nat.le_of_ble_eq_true rfl⟩).run (fun r_6 hw => ?_)
      refine lv_if_ne (tgt := 38) hx hb dZO_openTile_33 (by decide) (fun c_7 => ?_) (fun c_7 => ?_)
      · have hw := hw.2 c_7
        refine lv_aload_n hx hb dZO_openTile_38 rfl (lv_at hl 2 rfl) ?_
        refine lv_aload_n hx hb dZO_openTile_39 rfl (lv_at hl 1 rfl) ?_
        refine va_get (D := (dC, dI)) (ci := 0) (v := .ref oba) (C := RZB) (T := TZB) (N := 2) hx hb hts inZB hown hK hP 0 rfl rfl 0 (by decide) (hts _ mm_76) (fun _ h9 => h9) rfl dZO_openTile_40 ?_
        refine lv_iconst (v := (0 : Int32)) hx hb dZO_openTile_43 (by decide) ?_
        obtain ⟨h_8, hw⟩ := hw
        refine va_iald hx hb hK hP 1 0 rfl rfl h_8 dZO_openTile_44 ?_
        refine lv_aload_n hx hb dZO_openTile_45 rfl (lv_at hl 1 rfl) ?_
        refine va_get (D := (dC, dI)) (ci := 0) (v := .ref oba) (C := RZB) (T := TZB) (N := 2) hx hb hts inZB hown hK hP 0 rfl rfl 0 (by decide) (hts _ mm_76) (fun _ h9 => h9) rfl dZO_openTile_46 ?_
        refine lv_iconst (v := (1 : Int32)) hx hb dZO_openTile_49 (by decide) ?_
        obtain ⟨h_9, hw⟩ := hw
        refine va_iald hx hb hK hP 1 0 rfl rfl h_9 dZO_openTile_50 ?_
        have hPc := hP.sub (ws' := [(ot, .inr (4, [.ref ota, .int tw, .int th])), (ota, .inl (cI, 64, .inl tf))]) [2, 3] rfl
        have hDc := hD.sub (ws' := [(ot, .inr (4, [.ref ota, .int tw, .int th])), (ota, .inl (cI, 64, .inl tf))]) [2, 3] (by decide) rfl
        have hFc := va_free (wc := [(ot, .inr (4, [.ref ota, .int tw, .int th])), (ota, .inl (cI, 64, .inl tf))]) hD hS hA [2, 3] rfl
        refine va_callv (va_runV (As := [.int (bf (0 : Int32).toNatClampNeg), .int (bf (1 : Int32).toNatClampNeg)]) (rest := []) ⟨hx, hb, hml, hown, hts⟩ (kt_ZT_setSize l dC dI cI ot ota _ tw th tf (bf (0 : Int32).toNatClampNeg) (bf (1 : Int32).toNatClampNeg) _ hw) (cwV 2 hts (tb_V mm_184 mm_185 mm_186 mm_7 mm_187) rfl rfl rfl (by decide +kernel) ⟨Nat.le_of_ble_eq_true rfl, Nat.le_of_ble_eq_true rfl⟩) ⟨gw_blind, va_recv hK hPc (ci := 4) (q0 := 0) rfl rfl, fun U hU hW => gw_pre hPc hDc hK hE hU hW⟩ rfl rfl hl.1 rfl (lv_room (Nat.le_of_ble_eq_true rfl)) dZO_openTile_51 ⟨Nat.le_of_ble_eq_true rfl, Nat.le_of_ble_eq_true rfl⟩) hS (fun q _ h => hFc q h) hFc (fun u t H1 locs ht hvm hw hB hz1 hk1 hS => ?_)
        obtain ⟨tw_10, th_11⟩ := u
        obtain ⟨hP1, hK1, hD1⟩ := hB
        rw [ht] at hP1
        try dsimp only at hw
        obtain ⟨hP, hD⟩ := va_join (wr := [(ob, .inr (0, [.ref oba, .int bl])), (oba, .inl (cI, 256, .inl bf))]) (w1 := [(ot, .inr (4, [.ref ota, .int tw_10, .int th_11])), (ota, .inl (cI, 64, .inl tf))]) hP hD [2, 3] [0, 1] rfl rfl (by decide) (by decide) hk1 hFc hP1 hD1
        generalize H1 = H at hP hS ⊢
        have hP : va_P (dC, dI) vwCl [(ob, .inr (0, [.ref oba, .int bl])), (oba, .inl (cI, 256, .inl bf)), (ot, .inr (4, [.ref ota, .int tw_10, .int th_11])), (ota, .inl (cI, 64, .inl tf))] H := hP
        have hD : va_D A [(ob, .inr (0, [.ref oba, .int bl])), (oba, .inl (cI, 256, .inl bf)), (ot, .inr (4, [.ref ota, .int tw_10, .int th_11])), (ota, .inl (cI, 64, .inl tf))] := hD
        refine lv_iconst (v := (2 : Int32)) hx hb dZO_openTile_54 (by decide) ?_
        refine lv_istore_n (lv' := [(3, .int (2 : Int32)), (2, .int (bl - (2 : Int32))), (0, .ref ob), (1, .ref ot)]) hx hb dZO_openTile_55 rfl hl (by decide) rfl (fun ls hl => ?_)
        refine lv_iconst (v := (0 : Int32)) hx hb dZO_openTile_56 (by decide) ?_
        refine lv_istore (lv' := [(4, .int (0 : Int32)), (3, .int (2 : Int32)), (2, .int (bl - (2 : Int32))), (0, .ref ob), (1, .ref ot)]) hx hb dZO_openTile_57 hl (by decide) rfl (fun ls hl => ?_)
        have lp59 : ∀ K59 : Int32 → Int32 → (Nat → Int32) → Prop, (∀ (x3_59 : Int32) (x4_59 : Int32) (f_59_ota : Nat → Int32), K59 x3_59 x4_59 f_59_ota → ∀ (H : Heap) (locs : List Loc), va_P (dC, dI) vwCl [(ob, .inr (0, [.ref oba, .int bl])), (oba, .inl (cI, 256, .inl bf)), (ot, .inr (4, [.ref ota, .int tw_10, .int th_11])), (ota, .inl (cI, 64, .inl f_59_ota))] H → va_D A [(ob, .inr (0, [.ref oba, .int bl])), (oba, .inl (cI, 256, .inl bf)), (ot, .inr (4, [.ref ota, .int tw_10, .int th_11])), (ota, .inl (cI, 64, .inl f_59_ota))] → va_S A s.heap H locs → ∀ ls : Array Slot, lv_has ls 5 [(4, .int x4_59), (3, .int x3_59), (2, .int (bl - (2 : Int32))), (0, .ref ob), (1, .ref ot)] → W p l e (headSpec wsZO_openTile rm_ZO_openTile).room s m args below meth c H locs 0 0 Q9 (F0 m 89 ls [])) → ∀ (n : Nat) (x3_59 : Int32) (x4_59 : Int32) (f_59_ota : Nat → Int32), lp_ZO_openTile_59 bl bf tw th tf r_3 r_6 tw_10 th_11 post K59 n x3_59 x4_59 f_59_ota → ∀ (H : Heap) (locs : List Loc), va_P (dC, dI) vwCl [(ob, .inr (0, [.ref oba, .int bl])), (oba, .inl (cI, 256, .inl bf)), (ot, .inr (4, [.ref ota, .int tw_10, .int th_11])), (ota, .inl (cI, 64, .inl f_59_ota))] H → va_D A [(ob, .inr (0, [.ref oba, .int bl])), (oba, .inl (cI, 256, .inl bf)), (ot, .inr (4, [.ref ota, .int tw_10, .int th_11])), (ota, .inl (cI, 64, .inl f_59_ota))] → va_S A s.heap H locs → ∀ ls : Array Slot, lv_has ls 5 [(4, .int x4_59), (3, .int x3_59), (2, .int (bl - (2 : Int32))), (0, .ref ob), (1, .ref ot)] → W p l e (headSpec wsZO_openTile rm_ZO_openTile).room s m args below meth c H locs 0 0 Q9 (F0 m 59 ls []) := by
          intro K59 aft59 n
          induction n with
          | zero => intro x3_59 x4_59 f_59_ota hw; exact False.elim hw
          | succ n ih59 =>
            intro x3_59 x4_59 f_59_ota hw H locs hP hD hS ls hl
            refine lv_iload hx hb dZO_openTile_59 (lv_at hl 0 rfl) ?_
            refine lv_aload_n hx hb dZO_openTile_61 rfl (lv_at hl 4 rfl) ?_
            refine va_get (D := (dC, dI)) (ci := 4) (v := .int th_11) (C := RZT) (T := TZT) (N := 3) hx hb hts inZT hown hK hP 2 rfl rfl 2 (by decide) (hts _ mm_126) (fun _ h9 => h9) rfl dZO_openTile_62 ?_
            refine lv_icmp_ge (tgt := 89) hx hb dZO_openTile_65 (by decide) (fun c_12 => ?_) (fun c_12 => ?_)
            · have hw := hw.1 c_12
              exact aft59 x3_59 x4_59 f_59_ota hw _ _ (hP.sub [0, 1, 2, 3] rfl) (hD.sub [0, 1, 2, 3] (by decide) rfl) hS ls (lv_sub hl [0, 1, 2, 3, 4] rfl)
            · have hw := hw.2 c_12
              refine lv_iload_n hx hb dZO_openTile_68 rfl (lv_at hl 1 rfl) ?_
              refine lv_iconst (v := (-1 : Int32)) hx hb dZO_openTile_69 (by decide) ?_
              refine lv_icmp_eq (tgt := 89) hx hb dZO_openTile_70 (by decide) (fun c_13 => ?_) (fun c_13 => ?_)
              · have hw := hw.1 c_13
                exact aft59 x3_59 x4_59 f_59_ota hw _ _ (hP.sub [0, 1, 2, 3] rfl) (hD.sub [0, 1, 2, 3] (by decide) rfl) hS ls (lv_sub hl [0, 1, 2, 3, 4] rfl)
              · have hw := hw.2 c_13
                refine lv_aload_n hx hb dZO_openTile_73 rfl (lv_at hl 3 rfl) ?_
                refine lv_iload_n hx hb dZO_openTile_74 rfl (lv_at hl 1 rfl) ?_
                refine lv_iload_n hx hb dZO_openTile_75 rfl (lv_at hl 2 rfl) ?_
                refine lv_aload_n hx hb dZO_openTile_76 rfl (lv_at hl 4 rfl) ?_
                refine lv_iload hx hb dZO_openTile_77 (lv_at hl 0 rfl) ?_
                have hPc := hP.sub (ws' := [(ob, .inr (0, [.ref oba, .int bl])), (oba, .inl (cI, 256, .inl bf)), (ot, .inr (4, [.ref ota, .int tw_10, .int th_11])), (ota, .inl (cI, 64, .inl f_59_ota))]) [0, 1, 2, 3] rfl
                have hDc := hD.sub (ws' := [(ob, .inr (0, [.ref oba, .int bl])), (oba, .inl (cI, 256, .inl bf)), (ot, .inr (4, [.ref ota, .int tw_10, .int th_11])), (ota, .inl (cI, 64, .inl f_59_ota))]) [0, 1, 2, 3] (by decide) rfl
                have hFc := va_free (wc := [(ob, .inr (0, [.ref oba, .int bl])), (oba, .inl (cI, 256, .inl bf)), (ot, .inr (4, [.ref ota, .int tw_10, .int th_11])), (ota, .inl (cI, 64, .inl f_59_ota))]) hD hS hA [0, 1, 2, 3] rfl
                refine va_calli (va_runS (As := [.ref ob, .int x3_59, .int (bl - (2 : Int32)), .ref ot, .int x4_59]) (rest := []) ⟨hx, hb, hml, hown, hts⟩ (kt_ZO_openRow l dC dI cI ob oba ot ota _ bl bf tw_10 th_11 f_59_ota x3_59 (bl - (2 : Int32)) x4_59 _ hw) (va_cwS 5 hts (tb_S mm_188 mm_189 mm_16 mm_190) rfl rfl rfl (by decide +kernel) ⟨Nat.le_of_ble_eq_true rfl, Nat.le_of_ble_eq_true rfl⟩) ⟨gw_blind, fun U hU hW => gw_pre hPc hDc hK hE hU hW⟩ rfl rfl hl.1 rfl (lv_room (Nat.le_of_ble_eq_true rfl)) dZO_openTile_79 ⟨Nat.le_of_ble_eq_true rfl, Nat.le_of_ble_eq_true rfl⟩) hS (fun q _ h => hFc q h) hFc (fun r_15 tf_14 t H1 locs ht hvm hw hB hz1 hk1 hS => ?_)
                obtain ⟨hP1, hK1, hD1⟩ := hB
                rw [ht] at hP1
                try dsimp only at hw
                obtain ⟨hP, hD⟩ := va_join (wr := []) (w1 := [(ob, .inr (0, [.ref oba, .int bl])), (oba, .inl (cI, 256, .inl bf)), (ot, .inr (4, [.ref ota, .int tw_10, .int th_11])), (ota, .inl (cI, 64, .inl tf_14))]) hP hD [0, 1, 2, 3] [] rfl rfl (by decide) (by decide) hk1 hFc hP1 hD1
                generalize H1 = H at hP hS ⊢
                have hP : va_P (dC, dI) vwCl [(ob, .inr (0, [.ref oba, .int bl])), (oba, .inl (cI, 256, .inl bf)), (ot, .inr (4, [.ref ota, .int tw_10, .int th_11])), (ota, .inl (cI, 64, .inl tf_14))] H := hP
                have hD : va_D A [(ob, .inr (0, [.ref oba, .int bl])), (oba, .inl (cI, 256, .inl bf)), (ot, .inr (4, [.ref ota, .int tw_10, .int th_11])), (ota, .inl (cI, 64, .inl tf_14))] := hD
                refine lv_istore_n (lv' := [(3, .int r_15), (4, .int x4_59), (2, .int (bl - (2 : Int32))), (0, .ref ob), (1, .ref ot)]) hx hb dZO_openTile_82 rfl hl (by decide) rfl (fun ls hl => ?_)
                refine lv_iinc (v := x4_59 + (1 : Int32)) (lv' := [(4, .int (x4_59 + (1 : Int32))), (3, .int r_15), (2, .int (bl - (2 : Int32))), (0, .ref ob), (1, .ref ot)]) hx hb dZO_openTile_83 hl (k := 1) rfl rfl (by decide) rfl (fun ls hl => ?_)
                refine lv_goto (tgt := 59) hx hb dZO_openTile_86 (by decide) ?_
                exact ih59 r_15 (x4_59 + (1 : Int32)) tf_14 hw _ _ (hP.sub [0, 1, 2, 3] rfl) (hD.sub [0, 1, 2, 3] (by decide) rfl) hS ls (lv_sub hl [0, 1, 2, 3, 4] rfl)
        obtain ⟨n59, hw⟩ := hw
        refine lp59 _ (fun x3_59e x4_59e f_59e_ota hw H locs hP hD hS ls hl => ?_) n59 (2 : Int32) (0 : Int32) tf hw _ _ (hP.sub [0, 1, 2, 3] rfl) (hD.sub [0, 1, 2, 3] (by decide) rfl) hS ls (lv_sub hl [0, 1, 2, 3, 4] rfl)
        refine lv_iload_n hx hb dZO_openTile_89 rfl (lv_at hl 1 rfl) ?_
        refine lv_iload_n hx hb dZO_openTile_90 rfl (lv_at hl 2 rfl) ?_
        refine lv_icmp_ne (tgt := 98) hx hb dZO_openTile_91 (by decide) (fun c_16 => ?_) (fun c_16 => ?_)
        · have hw := hw.2 c_16
          refine lv_iconst (v := (0 : Int32)) hx hb dZO_openTile_98 (by decide) ?_
          have hP9 := hP.sub (ws' := [(ob, .inr (0, [.ref oba, .int bl])), (oba, .inl (cI, 256, .inl bf)), (ot, .inr (4, [.ref ota, .int tw_10, .int th_11])), (ota, .inl (cI, 64, .inl f_59e_ota))]) [0, 1, 2, 3] rfl
          have hD9 := hD.sub (ws' := [(ob, .inr (0, [.ref oba, .int bl])), (oba, .inl (cI, 256, .inl bf)), (ot, .inr (4, [.ref ota, .int tw_10, .int th_11])), (ota, .inl (cI, 64, .inl f_59e_ota))]) [0, 1, 2, 3] (by decide) rfl
          subst hQ9
          exact W.zret (v := (0 : Int32)) (ty := .boolean) hx hb hr rfl (fun t ht hW => ⟨⟨(0 : Int32), (tw_10, th_11, f_59e_ota), rfl, hw, by rw [ht]; exact hP9, va_K.moved hW.alike hK, hD9⟩, hS.F ht⟩) hS.2.2 dZO_openTile_99
        · have hw := hw.1 c_16
          refine lv_iconst (v := (1 : Int32)) hx hb dZO_openTile_94 (by decide) ?_
          refine lv_goto (tgt := 99) hx hb dZO_openTile_95 (by decide) ?_
          have hP9 := hP.sub (ws' := [(ob, .inr (0, [.ref oba, .int bl])), (oba, .inl (cI, 256, .inl bf)), (ot, .inr (4, [.ref ota, .int tw_10, .int th_11])), (ota, .inl (cI, 64, .inl f_59e_ota))]) [0, 1, 2, 3] rfl
          have hD9 := hD.sub (ws' := [(ob, .inr (0, [.ref oba, .int bl])), (oba, .inl (cI, 256, .inl bf)), (ot, .inr (4, [.ref ota, .int tw_10, .int th_11])), (ota, .inl (cI, 64, .inl f_59e_ota))]) [0, 1, 2, 3] (by decide) rfl
          subst hQ9
          exact W.zret (v := (1 : Int32)) (ty := .boolean) hx hb hr rfl (fun t ht hW => ⟨⟨(1 : Int32), (tw_10, th_11, f_59e_ota), rfl, hw, by rw [ht]; exact hP9, va_K.moved hW.alike hK, hD9⟩, hS.F ht⟩) hS.2.2 dZO_openTile_99
      · have hw := hw.1 c_7
        refine lv_iconst (v := (0 : Int32)) hx hb dZO_openTile_36 (by decide) ?_
        have hP9 := hP.sub (ws' := [(ob, .inr (0, [.ref oba, .int bl])), (oba, .inl (cI, 256, .inl bf)), (ot, .inr (4, [.ref ota, .int tw, .int th])), (ota, .inl (cI, 64, .inl tf))]) [0, 1, 2, 3] rfl
        have hD9 := hD.sub (ws' := [(ob, .inr (0, [.ref oba, .int bl])), (oba, .inl (cI, 256, .inl bf)), (ot, .inr (4, [.ref ota, .int tw, .int th])), (ota, .inl (cI, 64, .inl tf))]) [0, 1, 2, 3] (by decide) rfl
        subst hQ9
        exact W.zret (v := (0 : Int32)) (ty := .boolean) hx hb hr rfl (fun t ht hW => ⟨⟨(0 : Int32), (tw, th, tf), rfl, hw, by rw [ht]; exact hP9, va_K.moved hW.alike hK, hD9⟩, hS.F ht⟩) hS.2.2 dZO_openTile_37
end
section
theorem dZS_cheapest_0 : decode cZS_cheapest 0 = .ok (.iload_n 2, 1) := by decide +kernel
theorem dZS_cheapest_1 : decode cZS_cheapest 1 = .ok (.istore 4, 2) := by decide +kernel
theorem dZS_cheapest_3 : decode cZS_cheapest 3 = .ok (.iload_n 2, 1) := by decide +kernel
theorem dZS_cheapest_4 : decode cZS_cheapest 4 = .ok (.iconst 1, 1) := by decide +kernel
theorem dZS_cheapest_5 : decode cZS_cheapest 5 = .ok (.iadd, 1) := by decide +kernel
theorem dZS_cheapest_6 : decode cZS_cheapest 6 = .ok (.istore 5, 2) := by decide +kernel
theorem dZS_cheapest_8 : decode cZS_cheapest 8 = .ok (.iload 5, 2) := by decide +kernel
theorem dZS_cheapest_10 : decode cZS_cheapest 10 = .ok (.iload_n 3, 1) := by decide +kernel
theorem dZS_cheapest_11 : decode cZS_cheapest 11 = .ok (.if_icmp .gt 40, 3) := by decide +kernel
theorem dZS_cheapest_14 : decode cZS_cheapest 14 = .ok (.aload_n 0, 1) := by decide +kernel
theorem dZS_cheapest_15 : decode cZS_cheapest 15 = .ok (.getfield 24, 3) := by decide +kernel
theorem dZS_cheapest_18 : decode cZS_cheapest 18 = .ok (.iload_n 1, 1) := by decide +kernel
theorem dZS_cheapest_19 : decode cZS_cheapest 19 = .ok (.bipush 8, 2) := by decide +kernel
theorem dZS_cheapest_21 : decode cZS_cheapest 21 = .ok (.imul, 1) := by decide +kernel
theorem dZS_cheapest_22 : decode cZS_cheapest 22 = .ok (.iload 5, 2) := by decide +kernel
theorem dZS_cheapest_24 : decode cZS_cheapest 24 = .ok (.iadd, 1) := by decide +kernel
theorem dZS_cheapest_25 : decode cZS_cheapest 25 = .ok (.iaload, 1) := by decide +kernel
theorem dZS_cheapest_26 : decode cZS_cheapest 26 = .ok (.aload_n 0, 1) := by decide +kernel
theorem dZS_cheapest_27 : decode cZS_cheapest 27 = .ok (.getfield 24, 3) := by decide +kernel
theorem dZS_cheapest_30 : decode cZS_cheapest 30 = .ok (.iload_n 1, 1) := by decide +kernel
theorem dZS_cheapest_31 : decode cZS_cheapest 31 = .ok (.bipush 8, 2) := by decide +kernel
theorem dZS_cheapest_33 : decode cZS_cheapest 33 = .ok (.imul, 1) := by decide +kernel
theorem dZS_cheapest_34 : decode cZS_cheapest 34 = .ok (.iload 4, 2) := by decide +kernel
theorem dZS_cheapest_36 : decode cZS_cheapest 36 = .ok (.iadd, 1) := by decide +kernel
theorem dZS_cheapest_37 : decode cZS_cheapest 37 = .ok (.iaload, 1) := by decide +kernel
theorem dZS_cheapest_38 : decode cZS_cheapest 38 = .ok (.if_icmp .ge 7, 3) := by decide +kernel
theorem dZS_cheapest_41 : decode cZS_cheapest 41 = .ok (.iload 5, 2) := by decide +kernel
theorem dZS_cheapest_43 : decode cZS_cheapest 43 = .ok (.istore 4, 2) := by decide +kernel
theorem dZS_cheapest_45 : decode cZS_cheapest 45 = .ok (.iinc 5 1, 3) := by decide +kernel
theorem dZS_cheapest_48 : decode cZS_cheapest 48 = .ok (.goto (-40), 3) := by decide +kernel
theorem dZS_cheapest_51 : decode cZS_cheapest 51 = .ok (.iload 4, 2) := by decide +kernel
theorem dZS_cheapest_53 : decode cZS_cheapest 53 = .ok (.ireturn, 1) := by decide +kernel
abbrev wsZS_cheapest : List Cond := .code yZS_cheapest cZS_cheapest 6 (some .int) :: tbg
def lp_ZS_cheapest_8 (kn : Nat) (kf : Nat → Int32) (sn : Nat) (sf : Nat → Int32) (sd : Int32) (pw : Int32) (ph : Int32) (pn : Nat) (pf : Nat → Int32) (gw : Int32) (gh : Int32) (gn : Nat) (gf : Nat → Int32) (a1 : Int32) (a2 : Int32) (a3 : Int32) (post : Int32 → Prop) (K8 : Int32 → Int32 → Prop) (n : Nat) : Int32 → Int32 → Prop := Nat.rec (motive := fun _ => Int32 → Int32 → Prop) (fun (x4_8 : Int32) (x5_8 : Int32) => False) (fun _ ih8 (x4_8 : Int32) (x5_8 : Int32) => ((a3 < x5_8 → (K8 x4_8 x5_8)) ∧ (¬ a3 < x5_8 → (vp_in ((a1 * (8 : Int32)) + x5_8) kn ∧ (vp_in ((a1 * (8 : Int32)) + x4_8) kn ∧ ((((kf ((a1 * (8 : Int32)) + x4_8).toNatClampNeg) ≤ (kf ((a1 * (8 : Int32)) + x5_8).toNatClampNeg) → (ih8 x4_8 (x5_8 + (1 : Int32)))) ∧ (¬ (kf ((a1 * (8 : Int32)) + x4_8).toNatClampNeg) ≤ (kf ((a1 * (8 : Int32)) + x5_8).toNatClampNeg) → (ih8 x5_8 (x5_8 + (1 : Int32))))))))))) n
def wp_ZS_cheapest (kn : Nat) (kf : Nat → Int32) (sn : Nat) (sf : Nat → Int32) (sd : Int32) (pw : Int32) (ph : Int32) (pn : Nat) (pf : Nat → Int32) (gw : Int32) (gh : Int32) (gn : Nat) (gf : Nat → Int32) (a1 : Int32) (a2 : Int32) (a3 : Int32) (post : Int32 → Prop) : Prop := ∃ n : Nat, lp_ZS_cheapest_8 kn kf sn sf sd pw ph pn pf gw gh gn gf a1 a2 a3 post (fun (x4_8e : Int32) (x5_8e : Int32) => post x4_8e) n a2 (a2 + (1 : Int32))
abbrev rm_ZS_cheapest : Room := { frames := 0, cells := 0, slots := 0, locals := 0 }
set_option maxHeartbeats 4000000 in
set_option maxRecDepth 100000 in
theorem kt_ZS_cheapest (l : Launch) (dC : Nat → ClassId) (dI : Nat → Nat → Nat) (cI : ClassId) (os osa osb op opa og oga : Nat) (kn : Nat) (kf : Nat → Int32) (sn : Nat) (sf : Nat → Int32) (sd : Int32) (pw : Int32) (ph : Int32) (pn : Nat) (pf : Nat → Int32) (gw : Int32) (gh : Int32) (gn : Nat) (gf : Nat → Int32) (a1 : Int32) (a2 : Int32) (a3 : Int32) (post : Int32 → Prop) (hw : wp_ZS_cheapest kn kf sn sf sd pw ph pn pf gw gh gn gf a1 a2 a3 post) : Met l yZS_cheapest wsZS_cheapest rm_ZS_cheapest (gr_Pc dC dI [(cI, .int)] [.ref os, .int a1, .int a2, .int a3] [(os, .inr (3, [.ref op, .ref og, .ref osa, .ref osb, .int sd])), (osa, .inl (cI, kn, .inl kf)), (osb, .inl (cI, sn, .inl sf)), (op, .inr (1, [.int pw, .int ph, .ref opa])), (opa, .inl (cI, pn, .inl pf)), (og, .inr (1, [.int gw, .int gh, .ref oga])), (oga, .inl (cI, gn, .inl gf))]) (vp_Si post) 0 0 (fun _ => False) := by
  refine Met.ofW (cc := cZS_cheapest) (maxL := 6) (ret := (some .int)) (by decide) rfl ?_
  intro p e s m args below meth c s₁ B hml hv
  obtain ⟨ha9, hP, hK, hE⟩ := hv
  have hx := B.exec
  have hb := B.bytes
  have hr := B.returns
  have hts0 := atoms_spec (ws := wsZS_cheapest) B.pre
  have hts : ∀ w ∈ tbg, w.before args s = true := fun w h => hts0 w (List.mem_cons_of_mem _ h)
  have hown : s.vm.findClass RZS = some m.cls := findClass_of_methodNamed B.named
  have hlocks := B.notSynchronized
  refine gx_Q (fun Q9 hQ9 => ?_)
  have hl := lv_entry ([.ref os, .int a1, .int a2, .int a3]) (n := 6) (Nat.le_of_ble_eq_true rfl)
  have he9 : entryFrame m args 6 = F0 m 0 ((lg_sl [.ref os, .int a1, .int a2, .int a3] ++ List.replicate (6 - (lg_sl ([.ref os, .int a1, .int a2, .int a3] : List Value)).length) Slot.unset).toArray) [] := by rw [ha9]; exact lg_entry_eq m [.ref os, .int a1, .int a2, .int a3] 6
  rw [he9]
  generalize (lg_sl ([.ref os, .int a1, .int a2, .int a3] : List Value) ++ List.replicate (6 - (lg_sl ([.ref os, .int a1, .int a2, .int a3] : List Value)).length) Slot.unset).toArray = ls at hl ⊢
  have hl : lv_has ls 6 [(0, .ref os), (1, .int a1), (2, .int a2), (3, .int a3)] := hl
  refine lv_iload_n hx hb dZS_cheapest_0 rfl (lv_at hl 2 rfl) ?_
  refine lv_istore (lv' := [(4, .int a2), (0, .ref os), (1, .int a1), (2, .int a2), (3, .int a3)]) hx hb dZS_cheapest_1 hl (by decide) rfl (fun ls hl => ?_)
  refine lv_iload_n hx hb dZS_cheapest_3 rfl (lv_at hl 3 rfl) ?_
  refine lv_iconst (v := (1 : Int32)) hx hb dZS_cheapest_4 (by decide) ?_
  refine lv_iadd hx hb dZS_cheapest_5 ?_
  refine lv_istore (lv' := [(5, .int (a2 + (1 : Int32))), (4, .int a2), (0, .ref os), (1, .int a1), (2, .int a2), (3, .int a3)]) hx hb dZS_cheapest_6 hl (by decide) rfl (fun ls hl => ?_)
  have lp8 : ∀ K8 : Int32 → Int32 → Prop, (∀ (x4_8 : Int32) (x5_8 : Int32), K8 x4_8 x5_8 → ∀ ls : Array Slot, lv_has ls 6 [(5, .int x5_8), (4, .int x4_8), (0, .ref os), (1, .int a1), (2, .int a2), (3, .int a3)] → W p l e (headSpec wsZS_cheapest rm_ZS_cheapest).room s m args below meth c s.heap [] 0 0 Q9 (F0 m 51 ls [])) → ∀ (n : Nat) (x4_8 : Int32) (x5_8 : Int32), lp_ZS_cheapest_8 kn kf sn sf sd pw ph pn pf gw gh gn gf a1 a2 a3 post K8 n x4_8 x5_8 → ∀ ls : Array Slot, lv_has ls 6 [(5, .int x5_8), (4, .int x4_8), (0, .ref os), (1, .int a1), (2, .int a2), (3, .int a3)] → W p l e (headSpec wsZS_cheapest rm_ZS_cheapest).room s m args below meth c s.heap [] 0 0 Q9 (F0 m 8 ls []) := by
    intro K8 aft8 n
    induction n with
    | zero => intro x4_8 x5_8 hw; exact False.elim hw
    | succ n ih8 =>
      intro x4_8 x5_8 hw ls hl
      refine lv_iload hx hb dZS_cheapest_8 (lv_at hl 0 rfl) ?_
      refine lv_iload_n hx hb dZS_cheapest_10 rfl (lv_at hl 5 rfl) ?_
      refine lv_icmp_gt (tgt := 51) hx hb dZS_cheapest_11 (by decide) (fun c_1 => ?_) (fun c_1 => ?_)
      · have hw := hw.1 c_1
        exact aft8 x4_8 x5_8 hw ls (lv_sub hl [0, 1, 2, 3, 4, 5] rfl)
      · have hw := hw.2 c_1
        refine lv_aload_n hx hb dZS_cheapest_14 rfl (lv_at hl 2 rfl) ?_
        refine va_get (D := (dC, dI)) (ci := 3) (v := .ref osa) (C := RZS) (T := TZS) (N := 5) hx hb hts inZS hown hK hP 0 rfl rfl 2 (by decide) (hts _ mm_95) (fun _ h9 => h9) rfl dZS_cheapest_15 ?_
        refine lv_iload_n hx hb dZS_cheapest_18 rfl (lv_at hl 3 rfl) ?_
        refine lv_bipush (v := (8 : Int32)) hx hb dZS_cheapest_19 (by decide) ?_
        refine lv_imul hx hb dZS_cheapest_21 ?_
        refine lv_iload hx hb dZS_cheapest_22 (lv_at hl 0 rfl) ?_
        refine lv_iadd hx hb dZS_cheapest_24 ?_
        obtain ⟨h_2, hw⟩ := hw
        refine va_iald hx hb hK hP 1 0 rfl rfl h_2 dZS_cheapest_25 ?_
        refine lv_aload_n hx hb dZS_cheapest_26 rfl (lv_at hl 2 rfl) ?_
        refine va_get (D := (dC, dI)) (ci := 3) (v := .ref osa) (C := RZS) (T := TZS) (N := 5) hx hb hts inZS hown hK hP 0 rfl rfl 2 (by decide) (hts _ mm_95) (fun _ h9 => h9) rfl dZS_cheapest_27 ?_
        refine lv_iload_n hx hb dZS_cheapest_30 rfl (lv_at hl 3 rfl) ?_
        refine lv_bipush (v := (8 : Int32)) hx hb dZS_cheapest_31 (by decide) ?_
        refine lv_imul hx hb dZS_cheapest_33 ?_
        refine lv_iload hx hb dZS_cheapest_34 (lv_at hl 1 rfl) ?_
        refine lv_iadd hx hb dZS_cheapest_36 ?_
        obtain ⟨h_3, hw⟩ := hw
        refine va_iald hx hb hK hP 1 0 rfl rfl h_3 dZS_cheapest_37 ?_
        refine lv_icmp_ge (tgt := 45) hx hb dZS_cheapest_38 (by decide) (fun c_4 => ?_) (fun c_4 => ?_)
        · have hw := hw.1 c_4
          refine lv_iinc (v := x5_8 + (1 : Int32)) (lv' := [(5, .int (x5_8 + (1 : Int32))), (4, .int x4_8), (0, .ref os), (1, .int a1), (2, .int a2), (3, .int a3)]) hx hb dZS_cheapest_45 hl (k := 0) rfl rfl (by decide) rfl (fun ls hl => ?_)
          refine lv_goto (tgt := 8) hx hb dZS_cheapest_48 (by decide) ?_
          exact ih8 x4_8 (x5_8 + (1 : Int32)) hw ls (lv_sub hl [0, 1, 2, 3, 4, 5] rfl)
        · have hw := hw.2 c_4
          refine lv_iload hx hb dZS_cheapest_41 (lv_at hl 0 rfl) ?_
          refine lv_istore (lv' := [(4, .int x5_8), (5, .int x5_8), (0, .ref os), (1, .int a1), (2, .int a2), (3, .int a3)]) hx hb dZS_cheapest_43 hl (by decide) rfl (fun ls hl => ?_)
          refine lv_iinc (v := x5_8 + (1 : Int32)) (lv' := [(5, .int (x5_8 + (1 : Int32))), (4, .int x5_8), (0, .ref os), (1, .int a1), (2, .int a2), (3, .int a3)]) hx hb dZS_cheapest_45 hl (k := 1) rfl rfl (by decide) rfl (fun ls hl => ?_)
          refine lv_goto (tgt := 8) hx hb dZS_cheapest_48 (by decide) ?_
          exact ih8 x5_8 (x5_8 + (1 : Int32)) hw ls (lv_sub hl [0, 1, 2, 3, 4, 5] rfl)
  obtain ⟨n8, hw⟩ := hw
  refine lp8 _ (fun x4_8e x5_8e hw ls hl => ?_) n8 a2 (a2 + (1 : Int32)) hw ls (lv_sub hl [0, 1, 2, 3, 4, 5] rfl)
  refine lv_iload hx hb dZS_cheapest_51 (lv_at hl 1 rfl) ?_
  subst hQ9
  exact W.iret (v := x4_8e) hx hb hr (fun t ht hW => ⟨x4_8e, rfl, hw, ht⟩) (fun q h => nomatch h) dZS_cheapest_53
theorem dZS_cheapestNear_0 : decode cZS_cheapestNear 0 = .ok (.aload_n 0, 1) := by decide +kernel
theorem dZS_cheapestNear_1 : decode cZS_cheapestNear 1 = .ok (.iload_n 1, 1) := by decide +kernel
theorem dZS_cheapestNear_2 : decode cZS_cheapestNear 2 = .ok (.iconst 0, 1) := by decide +kernel
theorem dZS_cheapestNear_3 : decode cZS_cheapestNear 3 = .ok (.iload_n 2, 1) := by decide +kernel
theorem dZS_cheapestNear_4 : decode cZS_cheapestNear 4 = .ok (.iconst 1, 1) := by decide +kernel
theorem dZS_cheapestNear_5 : decode cZS_cheapestNear 5 = .ok (.isub, 1) := by decide +kernel
theorem dZS_cheapestNear_6 : decode cZS_cheapestNear 6 = .ok (.invokestatic 53, 3) := by decide +kernel
theorem dZS_cheapestNear_9 : decode cZS_cheapestNear 9 = .ok (.iload_n 3, 1) := by decide +kernel
theorem dZS_cheapestNear_10 : decode cZS_cheapestNear 10 = .ok (.iconst 1, 1) := by decide +kernel
theorem dZS_cheapestNear_11 : decode cZS_cheapestNear 11 = .ok (.isub, 1) := by decide +kernel
theorem dZS_cheapestNear_12 : decode cZS_cheapestNear 12 = .ok (.iload_n 2, 1) := by decide +kernel
theorem dZS_cheapestNear_13 : decode cZS_cheapestNear 13 = .ok (.iconst 1, 1) := by decide +kernel
theorem dZS_cheapestNear_14 : decode cZS_cheapestNear 14 = .ok (.iadd, 1) := by decide +kernel
theorem dZS_cheapestNear_15 : decode cZS_cheapestNear 15 = .ok (.invokestatic 58, 3) := by decide +kernel
theorem dZS_cheapestNear_18 : decode cZS_cheapestNear 18 = .ok (.invokevirtual 35, 3) := by decide +kernel
theorem dZS_cheapestNear_21 : decode cZS_cheapestNear 21 = .ok (.ireturn, 1) := by decide +kernel
abbrev wsZS_cheapestNear : List Cond := .code yZS_cheapestNear cZS_cheapestNear 4 (some .int) :: tbg
def wp_ZS_cheapestNear (kn : Nat) (kf : Nat → Int32) (sn : Nat) (sf : Nat → Int32) (sd : Int32) (pw : Int32) (ph : Int32) (pn : Nat) (pf : Nat → Int32) (gw : Int32) (gh : Int32) (gn : Nat) (gf : Nat → Int32) (a1 : Int32) (a2 : Int32) (a3 : Int32) (post : Int32 → Prop) : Prop := wp_ZS_cheapest kn kf sn sf sd pw ph pn pf gw gh gn gf a1 (if (0 : Int32) < (a2 - (1 : Int32)) then (a2 - (1 : Int32)) else (0 : Int32)) (if (a2 + (1 : Int32)) < (a3 - (1 : Int32)) then (a2 + (1 : Int32)) else (a3 - (1 : Int32))) (fun r_1 : Int32 => post r_1)
abbrev rm_ZS_cheapestNear : Room := { frames := 1, cells := 0, slots := 0, locals := 25 }
set_option maxHeartbeats 4000000 in
set_option maxRecDepth 100000 in
theorem kt_ZS_cheapestNear (l : Launch) (dC : Nat → ClassId) (dI : Nat → Nat → Nat) (cI : ClassId) (os osa osb op opa og oga : Nat) (kn : Nat) (kf : Nat → Int32) (sn : Nat) (sf : Nat → Int32) (sd : Int32) (pw : Int32) (ph : Int32) (pn : Nat) (pf : Nat → Int32) (gw : Int32) (gh : Int32) (gn : Nat) (gf : Nat → Int32) (a1 : Int32) (a2 : Int32) (a3 : Int32) (post : Int32 → Prop) (hw : wp_ZS_cheapestNear kn kf sn sf sd pw ph pn pf gw gh gn gf a1 a2 a3 post) : Met l yZS_cheapestNear wsZS_cheapestNear rm_ZS_cheapestNear (gr_Pc dC dI [(cI, .int)] [.ref os, .int a1, .int a2, .int a3] [(os, .inr (3, [.ref op, .ref og, .ref osa, .ref osb, .int sd])), (osa, .inl (cI, kn, .inl kf)), (osb, .inl (cI, sn, .inl sf)), (op, .inr (1, [.int pw, .int ph, .ref opa])), (opa, .inl (cI, pn, .inl pf)), (og, .inr (1, [.int gw, .int gh, .ref oga])), (oga, .inl (cI, gn, .inl gf))]) (vp_Si post) 0 0 (fun _ => False) := by
  refine Met.ofW (cc := cZS_cheapestNear) (maxL := 4) (ret := (some .int)) (by decide) rfl ?_
  intro p e s m args below meth c s₁ B hml hv
  obtain ⟨ha9, hP, hK, hE⟩ := hv
  have hx := B.exec
  have hb := B.bytes
  have hr := B.returns
  have hts0 := atoms_spec (ws := wsZS_cheapestNear) B.pre
  have hts : ∀ w ∈ tbg, w.before args s = true := fun w h => hts0 w (List.mem_cons_of_mem _ h)
  have hown : s.vm.findClass RZS = some m.cls := findClass_of_methodNamed B.named
  have hlocks := B.notSynchronized
  refine gx_Q (fun Q9 hQ9 => ?_)
  have hl := lv_entry ([.ref os, .int a1, .int a2, .int a3]) (n := 4) (Nat.le_of_ble_eq_true rfl)
  have he9 : entryFrame m args 4 = F0 m 0 ((lg_sl [.ref os, .int a1, .int a2, .int a3] ++ List.replicate (4 - (lg_sl ([.ref os, .int a1, .int a2, .int a3] : List Value)).length) Slot.unset).toArray) [] := by rw [ha9]; exact lg_entry_eq m [.ref os, .int a1, .int a2, .int a3] 4
  rw [he9]
  generalize (lg_sl ([.ref os, .int a1, .int a2, .int a3] : List Value) ++ List.replicate (4 - (lg_sl ([.ref os, .int a1, .int a2, .int a3] : List Value)).length) Slot.unset).toArray = ls at hl ⊢
  have hl : lv_has ls 4 [(0, .ref os), (1, .int a1), (2, .int a2), (3, .int a3)] := hl
  refine lv_aload_n hx hb dZS_cheapestNear_0 rfl (lv_at hl 0 rfl) ?_
  refine lv_iload_n hx hb dZS_cheapestNear_1 rfl (lv_at hl 1 rfl) ?_
  refine lv_iconst (v := (0 : Int32)) hx hb dZS_cheapestNear_2 (by decide) ?_
  refine lv_iload_n hx hb dZS_cheapestNear_3 rfl (lv_at hl 2 rfl) ?_
  refine lv_iconst (v := (1 : Int32)) hx hb dZS_cheapestNear_4 (by decide) ?_
  refine lv_isub hx hb dZS_cheapestNear_5 ?_
  refine va_mmax hx hb (hml.trans hl.1.symm) hown (hts _ mm_596) (hts _ mm_29) (hts _ mm_2) (hts _ mm_30) (Nat.le_of_ble_eq_true rfl) (Nat.le_of_ble_eq_true rfl) (Nat.le_of_ble_eq_true rfl) (Nat.le_of_ble_eq_true rfl) dZS_cheapestNear_6 ?_
  refine lv_iload_n hx hb dZS_cheapestNear_9 rfl (lv_at hl 3 rfl) ?_
  refine lv_iconst (v := (1 : Int32)) hx hb dZS_cheapestNear_10 (by decide) ?_
  refine lv_isub hx hb dZS_cheapestNear_11 ?_
  refine lv_iload_n hx hb dZS_cheapestNear_12 rfl (lv_at hl 2 rfl) ?_
  refine lv_iconst (v := (1 : Int32)) hx hb dZS_cheapestNear_13 (by decide) ?_
  refine lv_iadd hx hb dZS_cheapestNear_14 ?_
  refine va_mmin hx hb (hml.trans hl.1.symm) hown (hts _ mm_597) (hts _ mm_26) (hts _ mm_2) (hts _ mm_27) (Nat.le_of_ble_eq_true rfl) (Nat.le_of_ble_eq_true rfl) (Nat.le_of_ble_eq_true rfl) (Nat.le_of_ble_eq_true rfl) dZS_cheapestNear_15 ?_
  refine vp_callSi (va_runV (As := [.int a1, .int (if (0 : Int32) < (a2 - (1 : Int32)) then (a2 - (1 : Int32)) else (0 : Int32)), .int (if (a2 + (1 : Int32)) < (a3 - (1 : Int32)) then (a2 + (1 : Int32)) else (a3 - (1 : Int32)))]) (rest := []) ⟨hx, hb, hml, hown, hts⟩ (kt_ZS_cheapest l dC dI cI os osa osb op opa og oga kn kf sn sf sd pw ph pn pf gw gh gn gf a1 (if (0 : Int32) < (a2 - (1 : Int32)) then (a2 - (1 : Int32)) else (0 : Int32)) (if (a2 + (1 : Int32)) < (a3 - (1 : Int32)) then (a2 + (1 : Int32)) else (a3 - (1 : Int32))) _ hw) (cwV 3 hts (tb_V mm_598 mm_600 mp_3 mm_6 mm_601) rfl rfl rfl (by decide +kernel) ⟨Nat.le_of_ble_eq_true rfl, Nat.le_of_ble_eq_true rfl⟩) ⟨gr_blind, va_recv hK hP (ci := 3) (q0 := 0) rfl rfl, fun U hU hW => gr_pre hP hK hE hU hW⟩ rfl rfl hl.1 rfl (lv_room (Nat.le_of_ble_eq_true rfl)) dZS_cheapestNear_18 ⟨Nat.le_of_ble_eq_true rfl, Nat.le_of_ble_eq_true rfl⟩).run (fun r_1 hw => ?_)
  subst hQ9
  exact W.iret (v := r_1) hx hb hr (fun t ht hW => ⟨r_1, rfl, hw, ht⟩) (fun q h => nomatch h) dZS_cheapestNear_21
theorem dZS_addUpRow_0 : decode cZS_addUpRow 0 = .ok (.iconst 0, 1) := by decide +kernel
theorem dZS_addUpRow_1 : decode cZS_addUpRow 1 = .ok (.istore_n 3, 1) := by decide +kernel
theorem dZS_addUpRow_2 : decode cZS_addUpRow 2 = .ok (.iload_n 3, 1) := by decide +kernel
theorem dZS_addUpRow_3 : decode cZS_addUpRow 3 = .ok (.iload_n 2, 1) := by decide +kernel
theorem dZS_addUpRow_4 : decode cZS_addUpRow 4 = .ok (.if_icmp .ge 93, 3) := by decide +kernel
theorem dZS_addUpRow_7 : decode cZS_addUpRow 7 = .ok (.aload_n 0, 1) := by decide +kernel
theorem dZS_addUpRow_8 : decode cZS_addUpRow 8 = .ok (.getfield 15, 3) := by decide +kernel
theorem dZS_addUpRow_11 : decode cZS_addUpRow 11 = .ok (.iload_n 3, 1) := by decide +kernel
theorem dZS_addUpRow_12 : decode cZS_addUpRow 12 = .ok (.iload_n 1, 1) := by decide +kernel
theorem dZS_addUpRow_13 : decode cZS_addUpRow 13 = .ok (.invokevirtual 46, 3) := by decide +kernel
theorem dZS_addUpRow_16 : decode cZS_addUpRow 16 = .ok (.aload_n 0, 1) := by decide +kernel
theorem dZS_addUpRow_17 : decode cZS_addUpRow 17 = .ok (.getfield 9, 3) := by decide +kernel
theorem dZS_addUpRow_20 : decode cZS_addUpRow 20 = .ok (.aload_n 0, 1) := by decide +kernel
theorem dZS_addUpRow_21 : decode cZS_addUpRow 21 = .ok (.getfield 9, 3) := by decide +kernel
theorem dZS_addUpRow_24 : decode cZS_addUpRow 24 = .ok (.getfield 50, 3) := by decide +kernel
theorem dZS_addUpRow_27 : decode cZS_addUpRow 27 = .ok (.iload_n 2, 1) := by decide +kernel
theorem dZS_addUpRow_28 : decode cZS_addUpRow 28 = .ok (.isub, 1) := by decide +kernel
theorem dZS_addUpRow_29 : decode cZS_addUpRow 29 = .ok (.iload_n 3, 1) := by decide +kernel
theorem dZS_addUpRow_30 : decode cZS_addUpRow 30 = .ok (.iadd, 1) := by decide +kernel
theorem dZS_addUpRow_31 : decode cZS_addUpRow 31 = .ok (.iload_n 1, 1) := by decide +kernel
theorem dZS_addUpRow_32 : decode cZS_addUpRow 32 = .ok (.invokevirtual 46, 3) := by decide +kernel
theorem dZS_addUpRow_35 : decode cZS_addUpRow 35 = .ok (.isub, 1) := by decide +kernel
theorem dZS_addUpRow_36 : decode cZS_addUpRow 36 = .ok (.istore 4, 2) := by decide +kernel
theorem dZS_addUpRow_38 : decode cZS_addUpRow 38 = .ok (.iconst 0, 1) := by decide +kernel
theorem dZS_addUpRow_39 : decode cZS_addUpRow 39 = .ok (.istore 5, 2) := by decide +kernel
theorem dZS_addUpRow_41 : decode cZS_addUpRow 41 = .ok (.iload_n 1, 1) := by decide +kernel
theorem dZS_addUpRow_42 : decode cZS_addUpRow 42 = .ok (.ifCond .le 30, 3) := by decide +kernel
theorem dZS_addUpRow_45 : decode cZS_addUpRow 45 = .ok (.aload_n 0, 1) := by decide +kernel
theorem dZS_addUpRow_46 : decode cZS_addUpRow 46 = .ok (.iload_n 1, 1) := by decide +kernel
theorem dZS_addUpRow_47 : decode cZS_addUpRow 47 = .ok (.iconst 1, 1) := by decide +kernel
theorem dZS_addUpRow_48 : decode cZS_addUpRow 48 = .ok (.isub, 1) := by decide +kernel
theorem dZS_addUpRow_49 : decode cZS_addUpRow 49 = .ok (.iload_n 3, 1) := by decide +kernel
theorem dZS_addUpRow_50 : decode cZS_addUpRow 50 = .ok (.iload_n 2, 1) := by decide +kernel
theorem dZS_addUpRow_51 : decode cZS_addUpRow 51 = .ok (.invokevirtual 39, 3) := by decide +kernel
theorem dZS_addUpRow_54 : decode cZS_addUpRow 54 = .ok (.istore 6, 2) := by decide +kernel
theorem dZS_addUpRow_56 : decode cZS_addUpRow 56 = .ok (.aload_n 0, 1) := by decide +kernel
theorem dZS_addUpRow_57 : decode cZS_addUpRow 57 = .ok (.getfield 24, 3) := by decide +kernel
theorem dZS_addUpRow_60 : decode cZS_addUpRow 60 = .ok (.iload_n 1, 1) := by decide +kernel
theorem dZS_addUpRow_61 : decode cZS_addUpRow 61 = .ok (.iconst 1, 1) := by decide +kernel
theorem dZS_addUpRow_62 : decode cZS_addUpRow 62 = .ok (.isub, 1) := by decide +kernel
theorem dZS_addUpRow_63 : decode cZS_addUpRow 63 = .ok (.bipush 8, 2) := by decide +kernel
theorem dZS_addUpRow_65 : decode cZS_addUpRow 65 = .ok (.imul, 1) := by decide +kernel
theorem dZS_addUpRow_66 : decode cZS_addUpRow 66 = .ok (.iload 6, 2) := by decide +kernel
theorem dZS_addUpRow_68 : decode cZS_addUpRow 68 = .ok (.iadd, 1) := by decide +kernel
theorem dZS_addUpRow_69 : decode cZS_addUpRow 69 = .ok (.iaload, 1) := by decide +kernel
theorem dZS_addUpRow_70 : decode cZS_addUpRow 70 = .ok (.istore 5, 2) := by decide +kernel
theorem dZS_addUpRow_72 : decode cZS_addUpRow 72 = .ok (.aload_n 0, 1) := by decide +kernel
theorem dZS_addUpRow_73 : decode cZS_addUpRow 73 = .ok (.getfield 24, 3) := by decide +kernel
theorem dZS_addUpRow_76 : decode cZS_addUpRow 76 = .ok (.iload_n 1, 1) := by decide +kernel
theorem dZS_addUpRow_77 : decode cZS_addUpRow 77 = .ok (.bipush 8, 2) := by decide +kernel
theorem dZS_addUpRow_79 : decode cZS_addUpRow 79 = .ok (.imul, 1) := by decide +kernel
theorem dZS_addUpRow_80 : decode cZS_addUpRow 80 = .ok (.iload_n 3, 1) := by decide +kernel
theorem dZS_addUpRow_81 : decode cZS_addUpRow 81 = .ok (.iadd, 1) := by decide +kernel
theorem dZS_addUpRow_82 : decode cZS_addUpRow 82 = .ok (.iload 5, 2) := by decide +kernel
theorem dZS_addUpRow_84 : decode cZS_addUpRow 84 = .ok (.iload 4, 2) := by decide +kernel
theorem dZS_addUpRow_86 : decode cZS_addUpRow 86 = .ok (.iload 4, 2) := by decide +kernel
theorem dZS_addUpRow_88 : decode cZS_addUpRow 88 = .ok (.imul, 1) := by decide +kernel
theorem dZS_addUpRow_89 : decode cZS_addUpRow 89 = .ok (.iadd, 1) := by decide +kernel
theorem dZS_addUpRow_90 : decode cZS_addUpRow 90 = .ok (.iastore, 1) := by decide +kernel
theorem dZS_addUpRow_91 : decode cZS_addUpRow 91 = .ok (.iinc 3 1, 3) := by decide +kernel
theorem dZS_addUpRow_94 : decode cZS_addUpRow 94 = .ok (.goto (-92), 3) := by decide +kernel
theorem dZS_addUpRow_97 : decode cZS_addUpRow 97 = .ok (.return_, 1) := by decide +kernel
abbrev wsZS_addUpRow : List Cond := .code yZS_addUpRow cZS_addUpRow 7 none :: tbg
def lp_ZS_addUpRow_2 (kn : Nat) (kf : Nat → Int32) (sn : Nat) (sf : Nat → Int32) (sd : Int32) (pw : Int32) (ph : Int32) (pn : Nat) (pf : Nat → Int32) (gw : Int32) (gh : Int32) (gn : Nat) (gf : Nat → Int32) (a1 : Int32) (a2 : Int32) (post : (Nat → Int32) → Prop) (K2 : Int32 → (Nat → Int32) → Prop) (n : Nat) : Int32 → (Nat → Int32) → Prop := Nat.rec (motive := fun _ => Int32 → (Nat → Int32) → Prop) (fun (x3_2 : Int32) (f_2_osa : Nat → Int32) => False) (fun _ ih2 (x3_2 : Int32) (f_2_osa : Nat → Int32) => ((a2 ≤ x3_2 → (K2 x3_2 f_2_osa)) ∧ (¬ a2 ≤ x3_2 → (wp_ZP_sampleAt gw gh gn gf x3_2 a1 (fun r_2 : Int32 => wp_ZP_sampleAt pw ph pn pf ((pw - a2) + x3_2) a1 (fun r_3 : Int32 => ∃ J72 : Int32 → Prop, (∀ (x5_j72 : Int32), J72 x5_j72 → vp_in ((a1 * (8 : Int32)) + x3_2) kn ∧ (ih2 (x3_2 + (1 : Int32)) (upd f_2_osa ((a1 * (8 : Int32)) + x3_2).toNatClampNeg (x5_j72 + ((r_2 - r_3) * (r_2 - r_3)))))) ∧ (((a1 ≤ (0 : Int32) → (J72 (0 : Int32))) ∧ (¬ a1 ≤ (0 : Int32) → (wp_ZS_cheapestNear kn f_2_osa sn sf sd pw ph pn pf gw gh gn gf (a1 - (1 : Int32)) x3_2 a2 (fun r_6 : Int32 => vp_in (((a1 - (1 : Int32)) * (8 : Int32)) + r_6) kn ∧ (J72 (f_2_osa (((a1 - (1 : Int32)) * (8 : Int32)) + r_6).toNatClampNeg))))))))))))) n
def wp_ZS_addUpRow (kn : Nat) (kf : Nat → Int32) (sn : Nat) (sf : Nat → Int32) (sd : Int32) (pw : Int32) (ph : Int32) (pn : Nat) (pf : Nat → Int32) (gw : Int32) (gh : Int32) (gn : Nat) (gf : Nat → Int32) (a1 : Int32) (a2 : Int32) (post : (Nat → Int32) → Prop) : Prop := ∃ n : Nat, lp_ZS_addUpRow_2 kn kf sn sf sd pw ph pn pf gw gh gn gf a1 a2 post (fun (x3_2e : Int32) (f_2e_osa : Nat → Int32) => post f_2e_osa) n (0 : Int32) kf
abbrev rm_ZS_addUpRow : Room := { frames := 2, cells := 0, slots := 0, locals := 48 }
set_option maxHeartbeats 4000000 in
set_option maxRecDepth 100000 in
theorem kt_ZS_addUpRow (l : Launch) (dC : Nat → ClassId) (dI : Nat → Nat → Nat) (cI : ClassId) (os osa osb op opa og oga : Nat) (sz : Nat) (kn : Nat) (kf : Nat → Int32) (sn : Nat) (sf : Nat → Int32) (sd : Int32) (pw : Int32) (ph : Int32) (pn : Nat) (pf : Nat → Int32) (gw : Int32) (gh : Int32) (gn : Nat) (gf : Nat → Int32) (a1 : Int32) (a2 : Int32) (post : (Nat → Int32) → Prop) (hw : wp_ZS_addUpRow kn kf sn sf sd pw ph pn pf gw gh gn gf a1 a2 post) : Met l yZS_addUpRow wsZS_addUpRow rm_ZS_addUpRow (gw_Pc dC dI [(cI, .int)] [.ref os, .int a1, .int a2] [(os, .inr (3, [.ref op, .ref og, .ref osa, .ref osb, .int sd])), (osa, .inl (cI, kn, .inl kf)), (osb, .inl (cI, sn, .inl sf)), (op, .inr (1, [.int pw, .int ph, .ref opa])), (opa, .inl (cI, pn, .inl pf)), (og, .inr (1, [.int gw, .int gh, .ref oga])), (oga, .inl (cI, gn, .inl gf))] sz) (va_Qv (fun (u : (Nat → Int32)) => post u) (fun u t => gw_B dC dI [(cI, .int)] (va_A [(os, .inr (3, [.ref op, .ref og, .ref osa, .ref osb, .int sd])), (osa, .inl (cI, kn, .inl kf)), (osb, .inl (cI, sn, .inl sf)), (op, .inr (1, [.int pw, .int ph, .ref opa])), (opa, .inl (cI, pn, .inl pf)), (og, .inr (1, [.int gw, .int gh, .ref oga])), (oga, .inl (cI, gn, .inl gf))] sz) [(os, .inr (3, [.ref op, .ref og, .ref osa, .ref osb, .int sd])), (osa, .inl (cI, kn, .inl u)), (osb, .inl (cI, sn, .inl sf)), (op, .inr (1, [.int pw, .int ph, .ref opa])), (opa, .inl (cI, pn, .inl pf)), (og, .inr (1, [.int gw, .int gh, .ref oga])), (oga, .inl (cI, gn, .inl gf))] t) (va_A [(os, .inr (3, [.ref op, .ref og, .ref osa, .ref osb, .int sd])), (osa, .inl (cI, kn, .inl kf)), (osb, .inl (cI, sn, .inl sf)), (op, .inr (1, [.int pw, .int ph, .ref opa])), (opa, .inl (cI, pn, .inl pf)), (og, .inr (1, [.int gw, .int gh, .ref oga])), (oga, .inl (cI, gn, .inl gf))] sz)) 0 0 (va_A [(os, .inr (3, [.ref op, .ref og, .ref osa, .ref osb, .int sd])), (osa, .inl (cI, kn, .inl kf)), (osb, .inl (cI, sn, .inl sf)), (op, .inr (1, [.int pw, .int ph, .ref opa])), (opa, .inl (cI, pn, .inl pf)), (og, .inr (1, [.int gw, .int gh, .ref oga])), (oga, .inl (cI, gn, .inl gf))] sz) := by
  refine Met.ofW (cc := cZS_addUpRow) (maxL := 7) (ret := none) (by decide) rfl ?_
  intro p e s m args below meth c s₁ B hml hv
  obtain ⟨ha9, hsz, hP, hK, hE, hD0⟩ := hv
  have hx := B.exec
  have hb := B.bytes
  have hr := B.returns
  have hts0 := atoms_spec (ws := wsZS_addUpRow) B.pre
  have hts : ∀ w ∈ tbg, w.before args s = true := fun w h => hts0 w (List.mem_cons_of_mem _ h)
  have hown : s.vm.findClass RZS = some m.cls := findClass_of_methodNamed B.named
  have hlocks := B.notSynchronized
  subst hsz
  have hD := hD0.self (sz := s.heap.size)
  refine gx_Q (fun Q9 hQ9 => ?_)
  generalize hAe : va_A [(os, .inr (3, [.ref op, .ref og, .ref osa, .ref osb, .int sd])), (osa, .inl (cI, kn, .inl kf)), (osb, .inl (cI, sn, .inl sf)), (op, .inr (1, [.int pw, .int ph, .ref opa])), (opa, .inl (cI, pn, .inl pf)), (og, .inr (1, [.int gw, .int gh, .ref oga])), (oga, .inl (cI, gn, .inl gf))] s.heap.size = A at hD hQ9 ⊢
  have hA : ∀ q : Nat, s.heap.size ≤ q → A q := fun q h => by rw [← hAe]; exact Or.inr h
  have hS : va_S A s.heap s.heap [] := va_S.rf
  have hl := lv_entry ([.ref os, .int a1, .int a2]) (n := 7) (Nat.le_of_ble_eq_true rfl)
  have he9 : entryFrame m args 7 = F0 m 0 ((lg_sl [.ref os, .int a1, .int a2] ++ List.replicate (7 - (lg_sl ([.ref os, .int a1, .int a2] : List Value)).length) Slot.unset).toArray) [] := by rw [ha9]; exact lg_entry_eq m [.ref os, .int a1, .int a2] 7
  rw [he9]
  generalize (lg_sl ([.ref os, .int a1, .int a2] : List Value) ++ List.replicate (7 - (lg_sl ([.ref os, .int a1, .int a2] : List Value)).length) Slot.unset).toArray = ls at hl ⊢
  have hl : lv_has ls 7 [(0, .ref os), (1, .int a1), (2, .int a2)] := hl
  refine lv_iconst (v := (0 : Int32)) hx hb dZS_addUpRow_0 (by decide) ?_
  refine lv_istore_n (lv' := [(3, .int (0 : Int32)), (0, .ref os), (1, .int a1), (2, .int a2)]) hx hb dZS_addUpRow_1 rfl hl (by decide) rfl (fun ls hl => ?_)
  have lp2 : ∀ K2 : Int32 → (Nat → Int32) → Prop, (∀ (x3_2 : Int32) (f_2_osa : Nat → Int32), K2 x3_2 f_2_osa → ∀ (H : Heap) (locs : List Loc), va_P (dC, dI) vwCl [(os, .inr (3, [.ref op, .ref og, .ref osa, .ref osb, .int sd])), (osa, .inl (cI, kn, .inl f_2_osa)), (osb, .inl (cI, sn, .inl sf)), (op, .inr (1, [.int pw, .int ph, .ref opa])), (opa, .inl (cI, pn, .inl pf)), (og, .inr (1, [.int gw, .int gh, .ref oga])), (oga, .inl (cI, gn, .inl gf))] H → va_D A [(os, .inr (3, [.ref op, .ref og, .ref osa, .ref osb, .int sd])), (osa, .inl (cI, kn, .inl f_2_osa)), (osb, .inl (cI, sn, .inl sf)), (op, .inr (1, [.int pw, .int ph, .ref opa])), (opa, .inl (cI, pn, .inl pf)), (og, .inr (1, [.int gw, .int gh, .ref oga])), (oga, .inl (cI, gn, .inl gf))] → va_S A s.heap H locs → ∀ ls : Array Slot, lv_has ls 7 [(3, .int x3_2), (0, .ref os), (1, .int a1), (2, .int a2)] → W p l e (headSpec wsZS_addUpRow rm_ZS_addUpRow).room s m args below meth c H locs 0 0 Q9 (F0 m 97 ls [])) → ∀ (n : Nat) (x3_2 : Int32) (f_2_osa : Nat → Int32), lp_ZS_addUpRow_2 kn kf sn sf sd pw ph pn pf gw gh gn gf a1 a2 post K2 n x3_2 f_2_osa → ∀ (H : Heap) (locs : List Loc), va_P (dC, dI) vwCl [(os, .inr (3, [.ref op, .ref og, .ref osa, .ref osb, .int sd])), (osa, .inl (cI, kn, .inl f_2_osa)), (osb, .inl (cI, sn, .inl sf)), (op, .inr (1, [.int pw, .int ph, .ref opa])), (opa, .inl (cI, pn, .inl pf)), (og, .inr (1, [.int gw, .int gh, .ref oga])), (oga, .inl (cI, gn, .inl gf))] H → va_D A [(os, .inr (3, [.ref op, .ref og, .ref osa, .ref osb, .int sd])), (osa, .inl (cI, kn, .inl f_2_osa)), (osb, .inl (cI, sn, .inl sf)), (op, .inr (1, [.int pw, .int ph, .ref opa])), (opa, .inl (cI, pn, .inl pf)), (og, .inr (1, [.int gw, .int gh, .ref oga])), (oga, .inl (cI, gn, .inl gf))] → va_S A s.heap H locs → ∀ ls : Array Slot, lv_has ls 7 [(3, .int x3_2), (0, .ref os), (1, .int a1), (2, .int a2)] → W p l e (headSpec wsZS_addUpRow rm_ZS_addUpRow).room s m args below meth c H locs 0 0 Q9 (F0 m 2 ls []) := by
    intro K2 aft2 n
    induction n with
    | zero => intro x3_2 f_2_osa hw; exact False.elim hw
    | succ n ih2 =>
      intro x3_2 f_2_osa hw H locs hP hD hS ls hl
      refine lv_iload_n hx hb dZS_addUpRow_2 rfl (lv_at hl 0 rfl) ?_
      refine lv_iload_n hx hb dZS_addUpRow_3 rfl (lv_at hl 3 rfl) ?_
      refine lv_icmp_ge (tgt := 97) hx hb dZS_addUpRow_4 (by decide) (fun c_1 => ?_) (fun c_1 => ?_)
      · have hw := hw.1 c_1
        exact aft2 x3_2 f_2_osa hw _ _ (hP.sub [0, 1, 2, 3, 4, 5, 6] rfl) (hD.sub [0, 1, 2, 3, 4, 5, 6] (by decide) rfl) hS ls (lv_sub hl [0, 1, 2, 3] rfl)
      · have hw := hw.2 c_1
        refine lv_aload_n hx hb dZS_addUpRow_7 rfl (lv_at hl 1 rfl) ?_
        refine va_get (D := (dC, dI)) (ci := 3) (v := .ref og) (C := RZS) (T := TZS) (N := 5) hx hb hts inZS hown hK hP 0 rfl rfl 1 (by decide) (hts _ mm_94) (fun _ h9 => h9) rfl dZS_addUpRow_8 ?_
        refine lv_iload_n hx hb dZS_addUpRow_11 rfl (lv_at hl 0 rfl) ?_
        refine lv_iload_n hx hb dZS_addUpRow_12 rfl (lv_at hl 2 rfl) ?_
        have hPc := hP.sub (ws' := [(og, .inr (1, [.int gw, .int gh, .ref oga])), (oga, .inl (cI, gn, .inl gf))]) [5, 6] rfl
        refine vp_callSi (va_runV (As := [.int x3_2, .int a1]) (rest := []) ⟨hx, hb, hml, hown, hts⟩ (kt_ZP_sampleAt l dC dI cI og oga gw gh gn gf x3_2 a1 _ hw) (cwV 2 hts (tb_V mm_591 mm_331 mm_332 mm_3 mm_333) rfl rfl rfl (by decide +kernel) ⟨Nat.le_of_ble_eq_true rfl, Nat.le_of_ble_eq_true rfl⟩) ⟨gr_blind, va_recv hK hPc (ci := 1) (q0 := 0) rfl rfl, fun U hU hW => gr_pre hPc hK hE hU hW⟩ rfl rfl hl.1 rfl (lv_room (Nat.le_of_ble_eq_true rfl)) dZS_addUpRow_13 ⟨Nat.le_of_ble_eq_true rfl, Nat.le_of_ble_eq_true rfl⟩).run (fun r_2 hw => ?_)
        refine lv_aload_n hx hb dZS_addUpRow_16 rfl (lv_at hl 1 rfl) ?_
        refine va_get (D := (dC, dI)) (ci := 3) (v := .ref op) (C := RZS) (T := TZS) (N := 5) hx hb hts inZS hown hK hP 0 rfl rfl 0 (by decide) (hts _ mm_93) (fun _ h9 => h9) rfl dZS_addUpRow_17 ?_
        refine lv_aload_n hx hb dZS_addUpRow_20 rfl (lv_at hl 1 rfl) ?_
        refine va_get (D := (dC, dI)) (ci := 3) (v := .ref op) (C := RZS) (T := TZS) (N := 5) hx hb hts inZS hown hK hP 0 rfl rfl 0 (by decide) (hts _ mm_93) (fun _ h9 => h9) rfl dZS_addUpRow_21 ?_
        refine va_get (D := (dC, dI)) (ci := 1) (v := .int pw) (C := RZP) (T := TZP) (N := 3) hx hb hts inZP hown hK hP 3 rfl rfl 0 (by decide) (hts _ mm_39) (fun _ h9 => h9) rfl dZS_addUpRow_24 ?_
        refine lv_iload_n hx hb dZS_addUpRow_27 rfl (lv_at hl 3 rfl) ?_
        refine lv_isub hx hb dZS_addUpRow_28 ?_
        refine lv_iload_n hx hb dZS_addUpRow_29 rfl (lv_at hl 0 rfl) ?_
        refine lv_iadd hx hb dZS_addUpRow_30 ?_
        refine lv_iload_n hx hb dZS_addUpRow_31 rfl (lv_at hl 2 rfl) ?_
        have hPc := hP.sub (ws' := [(op, .inr (1, [.int pw, .int ph, .ref opa])), (opa, .inl (cI, pn, .inl pf))]) [3, 4] rfl
        refine vp_callSi (va_runV (As := [.int ((pw - a2) + x3_2), .int a1]) (rest := [.int r_2]) ⟨hx, hb, hml, hown, hts⟩ (kt_ZP_sampleAt l dC dI cI op opa pw ph pn pf ((pw - a2) + x3_2) a1 _ hw) (cwV 2 hts (tb_V mm_591 mm_331 mm_332 mm_3 mm_333) rfl rfl rfl (by decide +kernel) ⟨Nat.le_of_ble_eq_true rfl, Nat.le_of_ble_eq_true rfl⟩) ⟨gr_blind, va_recv hK hPc (ci := 1) (q0 := 0) rfl rfl, fun U hU hW => gr_pre hPc hK hE hU hW⟩ rfl rfl hl.1 rfl (lv_room (Nat.le_of_ble_eq_true rfl)) dZS_addUpRow_32 ⟨Nat.le_of_ble_eq_true rfl, Nat.le_of_ble_eq_true rfl⟩).run (fun r_3 hw => ?_)
        refine lv_isub hx hb dZS_addUpRow_35 ?_
        refine lv_istore (lv' := [(4, .int (r_2 - r_3)), (3, .int x3_2), (0, .ref os), (1, .int a1), (2, .int a2)]) hx hb dZS_addUpRow_36 hl (by decide) rfl (fun ls hl => ?_)
        refine lv_iconst (v := (0 : Int32)) hx hb dZS_addUpRow_38 (by decide) ?_
        refine lv_istore (lv' := [(5, .int (0 : Int32)), (4, .int (r_2 - r_3)), (3, .int x3_2), (0, .ref os), (1, .int a1), (2, .int a2)]) hx hb dZS_addUpRow_39 hl (by decide) rfl (fun ls hl => ?_)
        refine lv_iload_n hx hb dZS_addUpRow_41 rfl (lv_at hl 4 rfl) ?_
        obtain ⟨J72, hJ72, hw⟩ := hw
        have j72 : ∀ (x5_j72 : Int32), J72 x5_j72 → ∀ (H : Heap) (locs : List Loc), va_P (dC, dI) vwCl [(os, .inr (3, [.ref op, .ref og, .ref osa, .ref osb, .int sd])), (osa, .inl (cI, kn, .inl f_2_osa)), (osb, .inl (cI, sn, .inl sf)), (op, .inr (1, [.int pw, .int ph, .ref opa])), (opa, .inl (cI, pn, .inl pf)), (og, .inr (1, [.int gw, .int gh, .ref oga])), (oga, .inl (cI, gn, .inl gf))] H → va_D A [(os, .inr (3, [.ref op, .ref og, .ref osa, .ref osb, .int sd])), (osa, .inl (cI, kn, .inl f_2_osa)), (osb, .inl (cI, sn, .inl sf)), (op, .inr (1, [.int pw, .int ph, .ref opa])), (opa, .inl (cI, pn, .inl pf)), (og, .inr (1, [.int gw, .int gh, .ref oga])), (oga, .inl (cI, gn, .inl gf))] → va_S A s.heap H locs → ∀ ls : Array Slot, lv_has ls 7 [(5, .int x5_j72), (4, .int (r_2 - r_3)), (3, .int x3_2), (0, .ref os), (1, .int a1), (2, .int a2)] → W p l e (headSpec wsZS_addUpRow rm_ZS_addUpRow).room s m args below meth c H locs 0 0 Q9 (F0 m 72 ls []) := by
          intro x5_j72 hw H locs hP hD hS ls hl
          have hw := hJ72 x5_j72 hw
          refine lv_aload_n hx hb dZS_addUpRow_72 rfl (lv_at hl 3 rfl) ?_
          refine va_get (D := (dC, dI)) (ci := 3) (v := .ref osa) (C := RZS) (T := TZS) (N := 5) hx hb hts inZS hown hK hP 0 rfl rfl 2 (by decide) (hts _ mm_95) (fun _ h9 => h9) rfl dZS_addUpRow_73 ?_
          refine lv_iload_n hx hb dZS_addUpRow_76 rfl (lv_at hl 4 rfl) ?_
          refine lv_bipush (v := (8 : Int32)) hx hb dZS_addUpRow_77 (by decide) ?_
          refine lv_imul hx hb dZS_addUpRow_79 ?_
          refine lv_iload_n hx hb dZS_addUpRow_80 rfl (lv_at hl 2 rfl) ?_
          refine lv_iadd hx hb dZS_addUpRow_81 ?_
          refine lv_iload hx hb dZS_addUpRow_82 (lv_at hl 0 rfl) ?_
          refine lv_iload hx hb dZS_addUpRow_84 (lv_at hl 1 rfl) ?_
          refine lv_iload hx hb dZS_addUpRow_86 (lv_at hl 1 rfl) ?_
          refine lv_imul hx hb dZS_addUpRow_88 ?_
          refine lv_iadd hx hb dZS_addUpRow_89 ?_
          obtain ⟨h_4, hw⟩ := hw
          refine va_iast hx hb hK hP hD hS 1 0 rfl rfl h_4 dZS_addUpRow_90 (fun H locs hP hD hS => ?_)
          have hP : va_P (dC, dI) vwCl [(os, .inr (3, [.ref op, .ref og, .ref osa, .ref osb, .int sd])), (osa, .inl (cI, kn, .inl (upd f_2_osa ((a1 * (8 : Int32)) + x3_2).toNatClampNeg (x5_j72 + ((r_2 - r_3) * (r_2 - r_3)))))), (osb, .inl (cI, sn, .inl sf)), (op, .inr (1, [.int pw, .int ph, .ref opa])), (opa, .inl (cI, pn, .inl pf)), (og, .inr (1, [.int gw, .int gh, .ref oga])), (oga, .inl (cI, gn, .inl gf))] H := hP
          have hD : va_D A [(os, .inr (3, [.ref op, .ref og, .ref osa, .ref osb, .int sd])), (osa, .inl (cI, kn, .inl (upd f_2_osa ((a1 * (8 : Int32)) + x3_2).toNatClampNeg (x5_j72 + ((r_2 - r_3) * (r_2 - r_3)))))), (osb, .inl (cI, sn, .inl sf)), (op, .inr (1, [.int pw, .int ph, .ref opa])), (opa, .inl (cI, pn, .inl pf)), (og, .inr (1, [.int gw, .int gh, .ref oga])), (oga, .inl (cI, gn, .inl gf))] := hD
          refine lv_iinc (v := x3_2 + (1 : Int32)) (lv' := [(3, .int (x3_2 + (1 : Int32))), (5, .int x5_j72), (4, .int (r_2 - r_3)), (0, .ref os), (1, .int a1), (2, .int a2)]) hx hb dZS_addUpRow_91 hl (k := 2) rfl rfl (by decide) rfl (fun ls hl => ?_)
          refine lv_goto (tgt := 2) hx hb dZS_addUpRow_94 (by decide) ?_
          exact ih2 (x3_2 + (1 : Int32)) (upd f_2_osa ((a1 * (8 : Int32)) + x3_2).toNatClampNeg (x5_j72 + ((r_2 - r_3) * (r_2 - r_3)))) hw _ _ (hP.sub [0, 1, 2, 3, 4, 5, 6] rfl) (hD.sub [0, 1, 2, 3, 4, 5, 6] (by decide) rfl) hS ls (lv_sub hl [0, 3, 4, 5] rfl)
        refine lv_if_le (tgt := 72) hx hb dZS_addUpRow_42 (by decide) (fun c_5 => ?_) (fun c_5 => ?_)
        · have hw := hw.1 c_5
          exact j72 (0 : Int32) hw _ _ (hP.sub [0, 1, 2, 3, 4, 5, 6] rfl) (hD.sub [0, 1, 2, 3, 4, 5, 6] (by decide) rfl) hS ls (lv_sub hl [0, 1, 2, 3, 4, 5] rfl)
        · have hw := hw.2 c_5
          refine lv_aload_n hx hb dZS_addUpRow_45 rfl (lv_at hl 3 rfl) ?_
          refine lv_iload_n hx hb dZS_addUpRow_46 rfl (lv_at hl 4 rfl) ?_
          refine lv_iconst (v := (1 : Int32)) hx hb dZS_addUpRow_47 (by decide) ?_
          refine lv_isub hx hb dZS_addUpRow_48 ?_
          refine lv_iload_n hx hb dZS_addUpRow_49 rfl (lv_at hl 2 rfl) ?_
          refine lv_iload_n hx hb dZS_addUpRow_50 rfl (lv_at hl 5 rfl) ?_
          refine vp_callSi (va_runV (As := [.int (a1 - (1 : Int32)), .int x3_2, .int a2]) (rest := []) ⟨hx, hb, hml, hown, hts⟩ (kt_ZS_cheapestNear l dC dI cI os osa osb op opa og oga kn f_2_osa sn sf sd pw ph pn pf gw gh gn gf (a1 - (1 : Int32)) x3_2 a2 _ hw) (cwV 3 hts (tb_V mm_592 mm_594 mp_2 mm_6 mm_595) rfl rfl rfl (by decide +kernel) ⟨Nat.le_of_ble_eq_true rfl, Nat.le_of_ble_eq_true rfl⟩) ⟨gr_blind, va_recv hK hP (ci := 3) (q0 := 0) rfl rfl, fun U hU hW => gr_pre hP hK hE hU hW⟩ rfl rfl hl.1 rfl (lv_room (Nat.le_of_ble_eq_true rfl)) dZS_addUpRow_51 ⟨Nat.le_of_ble_eq_true rfl, Nat.le_of_ble_eq_true rfl⟩).run (fun r_6 hw => ?_)
          refine lv_istore (lv' := [(6, .int r_6), (5, .int (0 : Int32)), (4, .int (r_2 - r_3)), (3, .int x3_2), (0, .ref os), (1, .int a1), (2, .int a2)]) hx hb dZS_addUpRow_54 hl (by decide) rfl (fun ls hl => ?_)
          refine lv_aload_n hx hb dZS_addUpRow_56 rfl (lv_at hl 4 rfl) ?_
          refine va_get (D := (dC, dI)) (ci := 3) (v := .ref osa) (C := RZS) (T := TZS) (N := 5) hx hb hts inZS hown hK hP 0 rfl rfl 2 (by decide) (hts _ mm_95) (fun _ h9 => h9) rfl dZS_addUpRow_57 ?_
          refine lv_iload_n hx hb dZS_addUpRow_60 rfl (lv_at hl 5 rfl) ?_
          refine lv_iconst (v := (1 : Int32)) hx hb dZS_addUpRow_61 (by decide) ?_
          refine lv_isub hx hb dZS_addUpRow_62 ?_
          refine lv_bipush (v := (8 : Int32)) hx hb dZS_addUpRow_63 (by decide) ?_
          refine lv_imul hx hb dZS_addUpRow_65 ?_
          refine lv_iload hx hb dZS_addUpRow_66 (lv_at hl 0 rfl) ?_
          refine lv_iadd hx hb dZS_addUpRow_68 ?_
          obtain ⟨h_7, hw⟩ := hw
          refine va_iald hx hb hK hP 1 0 rfl rfl h_7 dZS_addUpRow_69 ?_
          refine lv_istore (lv' := [(5, .int (f_2_osa (((a1 - (1 : Int32)) * (8 : Int32)) + r_6).toNatClampNeg)), (6, .int r_6), (4, .int (r_2 - r_3)), (3, .int x3_2), (0, .ref os), (1, .int a1), (2, .int a2)]) hx hb dZS_addUpRow_70 hl (by decide) rfl (fun ls hl => ?_)
          exact j72 (f_2_osa (((a1 - (1 : Int32)) * (8 : Int32)) + r_6).toNatClampNeg) hw _ _ (hP.sub [0, 1, 2, 3, 4, 5, 6] rfl) (hD.sub [0, 1, 2, 3, 4, 5, 6] (by decide) rfl) hS ls (lv_sub hl [0, 2, 3, 4, 5, 6] rfl)
  obtain ⟨n2, hw⟩ := hw
  refine lp2 _ (fun x3_2e f_2e_osa hw H locs hP hD hS ls hl => ?_) n2 (0 : Int32) kf hw _ _ (hP.sub [0, 1, 2, 3, 4, 5, 6] rfl) (hD.sub [0, 1, 2, 3, 4, 5, 6] (by decide) rfl) hS ls (lv_sub hl [0, 1, 2, 3] rfl)
  have hP9 := hP.sub (ws' := [(os, .inr (3, [.ref op, .ref og, .ref osa, .ref osb, .int sd])), (osa, .inl (cI, kn, .inl f_2e_osa)), (osb, .inl (cI, sn, .inl sf)), (op, .inr (1, [.int pw, .int ph, .ref opa])), (opa, .inl (cI, pn, .inl pf)), (og, .inr (1, [.int gw, .int gh, .ref oga])), (oga, .inl (cI, gn, .inl gf))]) [0, 1, 2, 3, 4, 5, 6] rfl
  have hD9 := hD.sub (ws' := [(os, .inr (3, [.ref op, .ref og, .ref osa, .ref osb, .int sd])), (osa, .inl (cI, kn, .inl f_2e_osa)), (osb, .inl (cI, sn, .inl sf)), (op, .inr (1, [.int pw, .int ph, .ref opa])), (opa, .inl (cI, pn, .inl pf)), (og, .inr (1, [.int gw, .int gh, .ref oga])), (oga, .inl (cI, gn, .inl gf))]) [0, 1, 2, 3, 4, 5, 6] (by decide) rfl
  subst hQ9
  exact W.vret hx hb hr (fun t ht hW => ⟨⟨f_2e_osa, rfl, hw, by rw [ht]; exact hP9, va_K.moved hW.alike hK, hD9⟩, hS.F ht⟩) hS.2.2 dZS_addUpRow_97
theorem dZS_findLeast_0 : decode cZS_findLeast 0 = .ok (.iconst 0, 1) := by decide +kernel
theorem dZS_findLeast_1 : decode cZS_findLeast 1 = .ok (.istore_n 2, 1) := by decide +kernel
theorem dZS_findLeast_2 : decode cZS_findLeast 2 = .ok (.iload_n 2, 1) := by decide +kernel
theorem dZS_findLeast_3 : decode cZS_findLeast 3 = .ok (.aload_n 0, 1) := by decide +kernel
theorem dZS_findLeast_4 : decode cZS_findLeast 4 = .ok (.getfield 9, 3) := by decide +kernel
theorem dZS_findLeast_7 : decode cZS_findLeast 7 = .ok (.getfield 18, 3) := by decide +kernel
theorem dZS_findLeast_10 : decode cZS_findLeast 10 = .ok (.if_icmp .ge 15, 3) := by decide +kernel
theorem dZS_findLeast_13 : decode cZS_findLeast 13 = .ok (.aload_n 0, 1) := by decide +kernel
theorem dZS_findLeast_14 : decode cZS_findLeast 14 = .ok (.iload_n 2, 1) := by decide +kernel
theorem dZS_findLeast_15 : decode cZS_findLeast 15 = .ok (.iload_n 1, 1) := by decide +kernel
theorem dZS_findLeast_16 : decode cZS_findLeast 16 = .ok (.invokevirtual 31, 3) := by decide +kernel
theorem dZS_findLeast_19 : decode cZS_findLeast 19 = .ok (.iinc 2 1, 3) := by decide +kernel
theorem dZS_findLeast_22 : decode cZS_findLeast 22 = .ok (.goto (-20), 3) := by decide +kernel
theorem dZS_findLeast_25 : decode cZS_findLeast 25 = .ok (.aload_n 0, 1) := by decide +kernel
theorem dZS_findLeast_26 : decode cZS_findLeast 26 = .ok (.getfield 9, 3) := by decide +kernel
theorem dZS_findLeast_29 : decode cZS_findLeast 29 = .ok (.getfield 18, 3) := by decide +kernel
theorem dZS_findLeast_32 : decode cZS_findLeast 32 = .ok (.iconst 1, 1) := by decide +kernel
theorem dZS_findLeast_33 : decode cZS_findLeast 33 = .ok (.isub, 1) := by decide +kernel
theorem dZS_findLeast_34 : decode cZS_findLeast 34 = .ok (.istore_n 2, 1) := by decide +kernel
theorem dZS_findLeast_35 : decode cZS_findLeast 35 = .ok (.aload_n 0, 1) := by decide +kernel
theorem dZS_findLeast_36 : decode cZS_findLeast 36 = .ok (.getfield 28, 3) := by decide +kernel
theorem dZS_findLeast_39 : decode cZS_findLeast 39 = .ok (.iload_n 2, 1) := by decide +kernel
theorem dZS_findLeast_40 : decode cZS_findLeast 40 = .ok (.aload_n 0, 1) := by decide +kernel
theorem dZS_findLeast_41 : decode cZS_findLeast 41 = .ok (.iload_n 2, 1) := by decide +kernel
theorem dZS_findLeast_42 : decode cZS_findLeast 42 = .ok (.iconst 0, 1) := by decide +kernel
theorem dZS_findLeast_43 : decode cZS_findLeast 43 = .ok (.iload_n 1, 1) := by decide +kernel
theorem dZS_findLeast_44 : decode cZS_findLeast 44 = .ok (.iconst 1, 1) := by decide +kernel
theorem dZS_findLeast_45 : decode cZS_findLeast 45 = .ok (.isub, 1) := by decide +kernel
theorem dZS_findLeast_46 : decode cZS_findLeast 46 = .ok (.invokevirtual 35, 3) := by decide +kernel
theorem dZS_findLeast_49 : decode cZS_findLeast 49 = .ok (.iastore, 1) := by decide +kernel
theorem dZS_findLeast_50 : decode cZS_findLeast 50 = .ok (.iload_n 2, 1) := by decide +kernel
theorem dZS_findLeast_51 : decode cZS_findLeast 51 = .ok (.iconst 1, 1) := by decide +kernel
theorem dZS_findLeast_52 : decode cZS_findLeast 52 = .ok (.isub, 1) := by decide +kernel
theorem dZS_findLeast_53 : decode cZS_findLeast 53 = .ok (.istore_n 3, 1) := by decide +kernel
theorem dZS_findLeast_54 : decode cZS_findLeast 54 = .ok (.iload_n 3, 1) := by decide +kernel
theorem dZS_findLeast_55 : decode cZS_findLeast 55 = .ok (.ifCond .lt 29, 3) := by decide +kernel
theorem dZS_findLeast_58 : decode cZS_findLeast 58 = .ok (.aload_n 0, 1) := by decide +kernel
theorem dZS_findLeast_59 : decode cZS_findLeast 59 = .ok (.getfield 28, 3) := by decide +kernel
theorem dZS_findLeast_62 : decode cZS_findLeast 62 = .ok (.iload_n 3, 1) := by decide +kernel
theorem dZS_findLeast_63 : decode cZS_findLeast 63 = .ok (.aload_n 0, 1) := by decide +kernel
theorem dZS_findLeast_64 : decode cZS_findLeast 64 = .ok (.iload_n 3, 1) := by decide +kernel
theorem dZS_findLeast_65 : decode cZS_findLeast 65 = .ok (.aload_n 0, 1) := by decide +kernel
theorem dZS_findLeast_66 : decode cZS_findLeast 66 = .ok (.getfield 28, 3) := by decide +kernel
theorem dZS_findLeast_69 : decode cZS_findLeast 69 = .ok (.iload_n 3, 1) := by decide +kernel
theorem dZS_findLeast_70 : decode cZS_findLeast 70 = .ok (.iconst 1, 1) := by decide +kernel
theorem dZS_findLeast_71 : decode cZS_findLeast 71 = .ok (.iadd, 1) := by decide +kernel
theorem dZS_findLeast_72 : decode cZS_findLeast 72 = .ok (.iaload, 1) := by decide +kernel
theorem dZS_findLeast_73 : decode cZS_findLeast 73 = .ok (.iload_n 1, 1) := by decide +kernel
theorem dZS_findLeast_74 : decode cZS_findLeast 74 = .ok (.invokevirtual 39, 3) := by decide +kernel
theorem dZS_findLeast_77 : decode cZS_findLeast 77 = .ok (.iastore, 1) := by decide +kernel
theorem dZS_findLeast_78 : decode cZS_findLeast 78 = .ok (.iinc 3 (-1), 3) := by decide +kernel
theorem dZS_findLeast_81 : decode cZS_findLeast 81 = .ok (.goto (-27), 3) := by decide +kernel
theorem dZS_findLeast_84 : decode cZS_findLeast 84 = .ok (.aload_n 0, 1) := by decide +kernel
theorem dZS_findLeast_85 : decode cZS_findLeast 85 = .ok (.iconst 1, 1) := by decide +kernel
theorem dZS_findLeast_86 : decode cZS_findLeast 86 = .ok (.putfield 42, 3) := by decide +kernel
theorem dZS_findLeast_89 : decode cZS_findLeast 89 = .ok (.aload_n 0, 1) := by decide +kernel
theorem dZS_findLeast_90 : decode cZS_findLeast 90 = .ok (.getfield 24, 3) := by decide +kernel
theorem dZS_findLeast_93 : decode cZS_findLeast 93 = .ok (.iload_n 2, 1) := by decide +kernel
theorem dZS_findLeast_94 : decode cZS_findLeast 94 = .ok (.bipush 8, 2) := by decide +kernel
theorem dZS_findLeast_96 : decode cZS_findLeast 96 = .ok (.imul, 1) := by decide +kernel
theorem dZS_findLeast_97 : decode cZS_findLeast 97 = .ok (.aload_n 0, 1) := by decide +kernel
theorem dZS_findLeast_98 : decode cZS_findLeast 98 = .ok (.getfield 28, 3) := by decide +kernel
theorem dZS_findLeast_101 : decode cZS_findLeast 101 = .ok (.iload_n 2, 1) := by decide +kernel
theorem dZS_findLeast_102 : decode cZS_findLeast 102 = .ok (.iaload, 1) := by decide +kernel
theorem dZS_findLeast_103 : decode cZS_findLeast 103 = .ok (.iadd, 1) := by decide +kernel
theorem dZS_findLeast_104 : decode cZS_findLeast 104 = .ok (.iaload, 1) := by decide +kernel
theorem dZS_findLeast_105 : decode cZS_findLeast 105 = .ok (.ireturn, 1) := by decide +kernel
abbrev wsZS_findLeast : List Cond := .code yZS_findLeast cZS_findLeast 4 (some .int) :: tbg
def lp_ZS_findLeast_2 (kn : Nat) (kf : Nat → Int32) (sn : Nat) (sf : Nat → Int32) (sd : Int32) (pw : Int32) (ph : Int32) (pn : Nat) (pf : Nat → Int32) (gw : Int32) (gh : Int32) (gn : Nat) (gf : Nat → Int32) (a1 : Int32) (post : Int32 → (Nat → Int32) → (Nat → Int32) → Int32 → Prop) (K2 : Int32 → (Nat → Int32) → Prop) (n : Nat) : Int32 → (Nat → Int32) → Prop := Nat.rec (motive := fun _ => Int32 → (Nat → Int32) → Prop) (fun (x2_2 : Int32) (f_2_osa : Nat → Int32) => False) (fun _ ih2 (x2_2 : Int32) (f_2_osa : Nat → Int32) => ((ph ≤ x2_2 → (K2 x2_2 f_2_osa)) ∧ (¬ ph ≤ x2_2 → (wp_ZS_addUpRow kn f_2_osa sn sf sd pw ph pn pf gw gh gn gf x2_2 a1 (fun (kf_2 : Nat → Int32) => ih2 (x2_2 + (1 : Int32)) kf_2))))) n
def lp_ZS_findLeast_54 (kn : Nat) (kf : Nat → Int32) (sn : Nat) (sf : Nat → Int32) (sd : Int32) (pw : Int32) (ph : Int32) (pn : Nat) (pf : Nat → Int32) (gw : Int32) (gh : Int32) (gn : Nat) (gf : Nat → Int32) (a1 : Int32) (x2_2e : Int32) (f_2e_osa : Nat → Int32) (r_3 : Int32) (post : Int32 → (Nat → Int32) → (Nat → Int32) → Int32 → Prop) (K54 : Int32 → (Nat → Int32) → Prop) (n : Nat) : Int32 → (Nat → Int32) → Prop := Nat.rec (motive := fun _ => Int32 → (Nat → Int32) → Prop) (fun (x3_54 : Int32) (f_54_osb : Nat → Int32) => False) (fun _ ih54 (x3_54 : Int32) (f_54_osb : Nat → Int32) => ((x3_54 < (0 : Int32) → (K54 x3_54 f_54_osb)) ∧ (¬ x3_54 < (0 : Int32) → (vp_in (x3_54 + (1 : Int32)) sn ∧ (wp_ZS_cheapestNear kn f_2e_osa sn f_54_osb sd pw ph pn pf gw gh gn gf x3_54 (f_54_osb (x3_54 + (1 : Int32)).toNatClampNeg) a1 (fun r_7 : Int32 => vp_in x3_54 sn ∧ (ih54 (x3_54 + (-1 : Int32)) (upd f_54_osb x3_54.toNatClampNeg r_7)))))))) n
def wp_ZS_findLeast (kn : Nat) (kf : Nat → Int32) (sn : Nat) (sf : Nat → Int32) (sd : Int32) (pw : Int32) (ph : Int32) (pn : Nat) (pf : Nat → Int32) (gw : Int32) (gh : Int32) (gn : Nat) (gf : Nat → Int32) (a1 : Int32) (post : Int32 → (Nat → Int32) → (Nat → Int32) → Int32 → Prop) : Prop := ∃ n : Nat, lp_ZS_findLeast_2 kn kf sn sf sd pw ph pn pf gw gh gn gf a1 post (fun (x2_2e : Int32) (f_2e_osa : Nat → Int32) => wp_ZS_cheapest kn f_2e_osa sn sf sd pw ph pn pf gw gh gn gf (ph - (1 : Int32)) (0 : Int32) (a1 - (1 : Int32)) (fun r_3 : Int32 => vp_in (ph - (1 : Int32)) sn ∧ (∃ n : Nat, lp_ZS_findLeast_54 kn kf sn sf sd pw ph pn pf gw gh gn gf a1 x2_2e f_2e_osa r_3 post (fun (x3_54e : Int32) (f_54e_osb : Nat → Int32) => vp_in (ph - (1 : Int32)) sn ∧ (vp_in (((ph - (1 : Int32)) * (8 : Int32)) + (f_54e_osb (ph - (1 : Int32)).toNatClampNeg)) kn ∧ (post (f_2e_osa (((ph - (1 : Int32)) * (8 : Int32)) + (f_54e_osb (ph - (1 : Int32)).toNatClampNeg)).toNatClampNeg) f_2e_osa f_54e_osb (1 : Int32)))) n ((ph - (1 : Int32)) - (1 : Int32)) (upd sf (ph - (1 : Int32)).toNatClampNeg r_3)))) n (0 : Int32) kf
abbrev rm_ZS_findLeast : Room := { frames := 3, cells := 0, slots := 0, locals := 74 }
set_option maxHeartbeats 4000000 in
set_option maxRecDepth 100000 in
theorem kt_ZS_findLeast (l : Launch) (dC : Nat → ClassId) (dI : Nat → Nat → Nat) (cI : ClassId) (os osa osb op opa og oga : Nat) (sz : Nat) (kn : Nat) (kf : Nat → Int32) (sn : Nat) (sf : Nat → Int32) (sd : Int32) (pw : Int32) (ph : Int32) (pn : Nat) (pf : Nat → Int32) (gw : Int32) (gh : Int32) (gn : Nat) (gf : Nat → Int32) (a1 : Int32) (post : Int32 → (Nat → Int32) → (Nat → Int32) → Int32 → Prop) (hw : wp_ZS_findLeast kn kf sn sf sd pw ph pn pf gw gh gn gf a1 post) : Met l yZS_findLeast wsZS_findLeast rm_ZS_findLeast (gw_Pc dC dI [(cI, .int)] [.ref os, .int a1] [(os, .inr (3, [.ref op, .ref og, .ref osa, .ref osb, .int sd])), (osa, .inl (cI, kn, .inl kf)), (osb, .inl (cI, sn, .inl sf)), (op, .inr (1, [.int pw, .int ph, .ref opa])), (opa, .inl (cI, pn, .inl pf)), (og, .inr (1, [.int gw, .int gh, .ref oga])), (oga, .inl (cI, gn, .inl gf))] sz) (va_Qi (fun (r : Int32) (u : (Nat → Int32) × (Nat → Int32) × Int32) => post r u.1 u.2.1 u.2.2) (fun u t => gw_B dC dI [(cI, .int)] (va_A [(os, .inr (3, [.ref op, .ref og, .ref osa, .ref osb, .int sd])), (osa, .inl (cI, kn, .inl kf)), (osb, .inl (cI, sn, .inl sf)), (op, .inr (1, [.int pw, .int ph, .ref opa])), (opa, .inl (cI, pn, .inl pf)), (og, .inr (1, [.int gw, .int gh, .ref oga])), (oga, .inl (cI, gn, .inl gf))] sz) [(os, .inr (3, [.ref op, .ref og, .ref osa, .ref osb, .int u.2.2])), (osa, .inl (cI, kn, .inl u.1)), (osb, .inl (cI, sn, .inl u.2.1)), (op, .inr (1, [.int pw, .int ph, .ref opa])), (opa, .inl (cI, pn, .inl pf)), (og, .inr (1, [.int gw, .int gh, .ref oga])), (oga, .inl (cI, gn, .inl gf))] t) (va_A [(os, .inr (3, [.ref op, .ref og, .ref osa, .ref osb, .int sd])), (osa, .inl (cI, kn, .inl kf)), (osb, .inl (cI, sn, .inl sf)), (op, .inr (1, [.int pw, .int ph, .ref opa])), (opa, .inl (cI, pn, .inl pf)), (og, .inr (1, [.int gw, .int gh, .ref oga])), (oga, .inl (cI, gn, .inl gf))] sz)) 0 0 (va_A [(os, .inr (3, [.ref op, .ref og, .ref osa, .ref osb, .int sd])), (osa, .inl (cI, kn, .inl kf)), (osb, .inl (cI, sn, .inl sf)), (op, .inr (1, [.int pw, .int ph, .ref opa])), (opa, .inl (cI, pn, .inl pf)), (og, .inr (1, [.int gw, .int gh, .ref oga])), (oga, .inl (cI, gn, .inl gf))] sz) := by
  refine Met.ofW (cc := cZS_findLeast) (maxL := 4) (ret := (some .int)) (by decide) rfl ?_
  intro p e s m args below meth c s₁ B hml hv
  obtain ⟨ha9, hsz, hP, hK, hE, hD0⟩ := hv
  have hx := B.exec
  have hb := B.bytes
  have hr := B.returns
  have hts0 := atoms_spec (ws := wsZS_findLeast) B.pre
  have hts : ∀ w ∈ tbg, w.before args s = true := fun w h => hts0 w (List.mem_cons_of_mem _ h)
  have hown : s.vm.findClass RZS = some m.cls := findClass_of_methodNamed B.named
  have hlocks := B.notSynchronized
  subst hsz
  have hD := hD0.self (sz := s.heap.size)
  refine gx_Q (fun Q9 hQ9 => ?_)
  generalize hAe : va_A [(os, .inr (3, [.ref op, .ref og, .ref osa, .ref osb, .int sd])), (osa, .inl (cI, kn, .inl kf)), (osb, .inl (cI, sn, .inl sf)), (op, .inr (1, [.int pw, .int ph, .ref opa])), (opa, .inl (cI, pn, .inl pf)), (og, .inr (1, [.int gw, .int gh, .ref oga])), (oga, .inl (cI, gn, .inl gf))] s.heap.size = A at hD hQ9 ⊢
  have hA : ∀ q : Nat, s.heap.size ≤ q → A q := fun q h => by rw [← hAe]; exact Or.inr h
  have hS : va_S A s.heap s.heap [] := va_S.rf
  have hl := lv_entry ([.ref os, .int a1]) (n := 4) (Nat.le_of_ble_eq_true rfl)
  have he9 : entryFrame m args 4 = F0 m 0 ((lg_sl [.ref os, .int a1] ++ List.replicate (4 - (lg_sl ([.ref os, .int a1] : List Value)).length) Slot.unset).toArray) [] := by rw [ha9]; exact lg_entry_eq m [.ref os, .int a1] 4
  rw [he9]
  generalize (lg_sl ([.ref os, .int a1] : List Value) ++ List.replicate (4 - (lg_sl ([.ref os, .int a1] : List Value)).length) Slot.unset).toArray = ls at hl ⊢
  have hl : lv_has ls 4 [(0, .ref os), (1, .int a1)] := hl
  refine lv_iconst (v := (0 : Int32)) hx hb dZS_findLeast_0 (by decide) ?_
  refine lv_istore_n (lv' := [(2, .int (0 : Int32)), (0, .ref os), (1, .int a1)]) hx hb dZS_findLeast_1 rfl hl (by decide) rfl (fun ls hl => ?_)
  have lp2 : ∀ K2 : Int32 → (Nat → Int32) → Prop, (∀ (x2_2 : Int32) (f_2_osa : Nat → Int32), K2 x2_2 f_2_osa → ∀ (H : Heap) (locs : List Loc), va_P (dC, dI) vwCl [(os, .inr (3, [.ref op, .ref og, .ref osa, .ref osb, .int sd])), (osa, .inl (cI, kn, .inl f_2_osa)), (osb, .inl (cI, sn, .inl sf)), (op, .inr (1, [.int pw, .int ph, .ref opa])), (opa, .inl (cI, pn, .inl pf)), (og, .inr (1, [.int gw, .int gh, .ref oga])), (oga, .inl (cI, gn, .inl gf))] H → va_D A [(os, .inr (3, [.ref op, .ref og, .ref osa, .ref osb, .int sd])), (osa, .inl (cI, kn, .inl f_2_osa)), (osb, .inl (cI, sn, .inl sf)), (op, .inr (1, [.int pw, .int ph, .ref opa])), (opa, .inl (cI, pn, .inl pf)), (og, .inr (1, [.int gw, .int gh, .ref oga])), (oga, .inl (cI, gn, .inl gf))] → va_S A s.heap H locs → ∀ ls : Array Slot, lv_has ls 4 [(2, .int x2_2), (0, .ref os), (1, .int a1)] → W p l e (headSpec wsZS_findLeast rm_ZS_findLeast).room s m args below meth c H locs 0 0 Q9 (F0 m 25 ls [])) → ∀ (n : Nat) (x2_2 : Int32) (f_2_osa : Nat → Int32), lp_ZS_findLeast_2 kn kf sn sf sd pw ph pn pf gw gh gn gf a1 post K2 n x2_2 f_2_osa → ∀ (H : Heap) (locs : List Loc), va_P (dC, dI) vwCl [(os, .inr (3, [.ref op, .ref og, .ref osa, .ref osb, .int sd])), (osa, .inl (cI, kn, .inl f_2_osa)), (osb, .inl (cI, sn, .inl sf)), (op, .inr (1, [.int pw, .int ph, .ref opa])), (opa, .inl (cI, pn, .inl pf)), (og, .inr (1, [.int gw, .int gh, .ref oga])), (oga, .inl (cI, gn, .inl gf))] H → va_D A [(os, .inr (3, [.ref op, .ref og, .ref osa, .ref osb, .int sd])), (osa, .inl (cI, kn, .inl f_2_osa)), (osb, .inl (cI, sn, .inl sf)), (op, .inr (1, [.int pw, .int ph, .ref opa])), (opa, .inl (cI, pn, .inl pf)), (og, .inr (1, [.int gw, .int gh, .ref oga])), (oga, .inl (cI, gn, .inl gf))] → va_S A s.heap H locs → ∀ ls : Array Slot, lv_has ls 4 [(2, .int x2_2), (0, .ref os), (1, .int a1)] → W p l e (headSpec wsZS_findLeast rm_ZS_findLeast).room s m args below meth c H locs 0 0 Q9 (F0 m 2 ls []) := by
    intro K2 aft2 n
    induction n with
    | zero => intro x2_2 f_2_osa hw; exact False.elim hw
    | succ n ih2 =>
      intro x2_2 f_2_osa hw H locs hP hD hS ls hl
      refine lv_iload_n hx hb dZS_findLeast_2 rfl (lv_at hl 0 rfl) ?_
      refine lv_aload_n hx hb dZS_findLeast_3 rfl (lv_at hl 1 rfl) ?_
      refine va_get (D := (dC, dI)) (ci := 3) (v := .ref op) (C := RZS) (T := TZS) (N := 5) hx hb hts inZS hown hK hP 0 rfl rfl 0 (by decide) (hts _ mm_93) (fun _ h9 => h9) rfl dZS_findLeast_4 ?_
      refine va_get (D := (dC, dI)) (ci := 1) (v := .int ph) (C := RZP) (T := TZP) (N := 3) hx hb hts inZP hown hK hP 3 rfl rfl 1 (by decide) (hts _ mm_43) (fun _ h9 => h9) rfl dZS_findLeast_7 ?_
      refine lv_icmp_ge (tgt := 25) hx hb dZS_findLeast_10 (by decide) (fun c_1 => ?_) (fun c_1 => ?_)
      · have hw := hw.1 c_1
        exact aft2 x2_2 f_2_osa hw _ _ (hP.sub [0, 1, 2, 3, 4, 5, 6] rfl) (hD.sub [0, 1, 2, 3, 4, 5, 6] (by decide) rfl) hS ls (lv_sub hl [0, 1, 2] rfl)
      · have hw := hw.2 c_1
        refine lv_aload_n hx hb dZS_findLeast_13 rfl (lv_at hl 1 rfl) ?_
        refine lv_iload_n hx hb dZS_findLeast_14 rfl (lv_at hl 0 rfl) ?_
        refine lv_iload_n hx hb dZS_findLeast_15 rfl (lv_at hl 2 rfl) ?_
        have hPc := hP.sub (ws' := [(os, .inr (3, [.ref op, .ref og, .ref osa, .ref osb, .int sd])), (osa, .inl (cI, kn, .inl f_2_osa)), (osb, .inl (cI, sn, .inl sf)), (op, .inr (1, [.int pw, .int ph, .ref opa])), (opa, .inl (cI, pn, .inl pf)), (og, .inr (1, [.int gw, .int gh, .ref oga])), (oga, .inl (cI, gn, .inl gf))]) [0, 1, 2, 3, 4, 5, 6] rfl
        have hDc := hD.sub (ws' := [(os, .inr (3, [.ref op, .ref og, .ref osa, .ref osb, .int sd])), (osa, .inl (cI, kn, .inl f_2_osa)), (osb, .inl (cI, sn, .inl sf)), (op, .inr (1, [.int pw, .int ph, .ref opa])), (opa, .inl (cI, pn, .inl pf)), (og, .inr (1, [.int gw, .int gh, .ref oga])), (oga, .inl (cI, gn, .inl gf))]) [0, 1, 2, 3, 4, 5, 6] (by decide) rfl
        have hFc := va_free (wc := [(os, .inr (3, [.ref op, .ref og, .ref osa, .ref osb, .int sd])), (osa, .inl (cI, kn, .inl f_2_osa)), (osb, .inl (cI, sn, .inl sf)), (op, .inr (1, [.int pw, .int ph, .ref opa])), (opa, .inl (cI, pn, .inl pf)), (og, .inr (1, [.int gw, .int gh, .ref oga])), (oga, .inl (cI, gn, .inl gf))]) hD hS hA [0, 1, 2, 3, 4, 5, 6] rfl
        refine va_callv (va_runV (As := [.int x2_2, .int a1]) (rest := []) ⟨hx, hb, hml, hown, hts⟩ (kt_ZS_addUpRow l dC dI cI os osa osb op opa og oga _ kn f_2_osa sn sf sd pw ph pn pf gw gh gn gf x2_2 a1 _ hw) (cwV 2 hts (tb_V mm_587 mm_589 mp_1 mm_6 mm_590) rfl rfl rfl (by decide +kernel) ⟨Nat.le_of_ble_eq_true rfl, Nat.le_of_ble_eq_true rfl⟩) ⟨gw_blind, va_recv hK hPc (ci := 3) (q0 := 0) rfl rfl, fun U hU hW => gw_pre hPc hDc hK hE hU hW⟩ rfl rfl hl.1 rfl (lv_room (Nat.le_of_ble_eq_true rfl)) dZS_findLeast_16 ⟨Nat.le_of_ble_eq_true rfl, Nat.le_of_ble_eq_true rfl⟩) hS (fun q _ h => hFc q h) hFc (fun kf_2 t H1 locs ht hvm hw hB hz1 hk1 hS => ?_)
        obtain ⟨hP1, hK1, hD1⟩ := hB
        rw [ht] at hP1
        try dsimp only at hw
        obtain ⟨hP, hD⟩ := va_join (wr := []) (w1 := [(os, .inr (3, [.ref op, .ref og, .ref osa, .ref osb, .int sd])), (osa, .inl (cI, kn, .inl kf_2)), (osb, .inl (cI, sn, .inl sf)), (op, .inr (1, [.int pw, .int ph, .ref opa])), (opa, .inl (cI, pn, .inl pf)), (og, .inr (1, [.int gw, .int gh, .ref oga])), (oga, .inl (cI, gn, .inl gf))]) hP hD [0, 1, 2, 3, 4, 5, 6] [] rfl rfl (by decide) (by decide) hk1 hFc hP1 hD1
        generalize H1 = H at hP hS ⊢
        have hP : va_P (dC, dI) vwCl [(os, .inr (3, [.ref op, .ref og, .ref osa, .ref osb, .int sd])), (osa, .inl (cI, kn, .inl kf_2)), (osb, .inl (cI, sn, .inl sf)), (op, .inr (1, [.int pw, .int ph, .ref opa])), (opa, .inl (cI, pn, .inl pf)), (og, .inr (1, [.int gw, .int gh, .ref oga])), (oga, .inl (cI, gn, .inl gf))] H := hP
        have hD : va_D A [(os, .inr (3, [.ref op, .ref og, .ref osa, .ref osb, .int sd])), (osa, .inl (cI, kn, .inl kf_2)), (osb, .inl (cI, sn, .inl sf)), (op, .inr (1, [.int pw, .int ph, .ref opa])), (opa, .inl (cI, pn, .inl pf)), (og, .inr (1, [.int gw, .int gh, .ref oga])), (oga, .inl (cI, gn, .inl gf))] := hD
        refine lv_iinc (v := x2_2 + (1 : Int32)) (lv' := [(2, .int (x2_2 + (1 : Int32))), (0, .ref os), (1, .int a1)]) hx hb dZS_findLeast_19 hl (k := 0) rfl rfl (by decide) rfl (fun ls hl => ?_)
        refine lv_goto (tgt := 2) hx hb dZS_findLeast_22 (by decide) ?_
        exact ih2 (x2_2 + (1 : Int32)) kf_2 hw _ _ (hP.sub [0, 1, 2, 3, 4, 5, 6] rfl) (hD.sub [0, 1, 2, 3, 4, 5, 6] (by decide) rfl) hS ls (lv_sub hl [0, 1, 2] rfl)
  obtain ⟨n2, hw⟩ := hw
  refine lp2 _ (fun x2_2e f_2e_osa hw H locs hP hD hS ls hl => ?_) n2 (0 : Int32) kf hw _ _ (hP.sub [0, 1, 2, 3, 4, 5, 6] rfl) (hD.sub [0, 1, 2, 3, 4, 5, 6] (by decide) rfl) hS ls (lv_sub hl [0, 1, 2] rfl)
  refine lv_aload_n hx hb dZS_findLeast_25 rfl (lv_at hl 1 rfl) ?_
  refine va_get (D := (dC, dI)) (ci := 3) (v := .ref op) (C := RZS) (T := TZS) (N := 5) hx hb hts inZS hown hK hP 0 rfl rfl 0 (by decide) (hts _ mm_93) (fun _ h9 => h9) rfl dZS_findLeast_26 ?_
  refine va_get (D := (dC, dI)) (ci := 1) (v := .int ph) (C := RZP) (T := TZP) (N := 3) hx hb hts inZP hown hK hP 3 rfl rfl 1 (by decide) (hts _ mm_43) (fun _ h9 => h9) rfl dZS_findLeast_29 ?_
  refine lv_iconst (v := (1 : Int32)) hx hb dZS_findLeast_32 (by decide) ?_
  refine lv_isub hx hb dZS_findLeast_33 ?_
  refine lv_istore_n (lv' := [(2, .int (ph - (1 : Int32))), (0, .ref os), (1, .int a1)]) hx hb dZS_findLeast_34 rfl hl (by decide) rfl (fun ls hl => ?_)
  refine lv_aload_n hx hb dZS_findLeast_35 rfl (lv_at hl 1 rfl) ?_
  refine va_get (D := (dC, dI)) (ci := 3) (v := .ref osb) (C := RZS) (T := TZS) (N := 5) hx hb hts inZS hown hK hP 0 rfl rfl 3 (by decide) (hts _ mm_96) (fun _ h9 => h9) rfl dZS_findLeast_36 ?_
  refine lv_iload_n hx hb dZS_findLeast_39 rfl (lv_at hl 0 rfl) ?_
  refine lv_aload_n hx hb dZS_findLeast_40 rfl (lv_at hl 1 rfl) ?_
  refine lv_iload_n hx hb dZS_findLeast_41 rfl (lv_at hl 0 rfl) ?_
  refine lv_iconst (v := (0 : Int32)) hx hb dZS_findLeast_42 (by decide) ?_
  refine lv_iload_n hx hb dZS_findLeast_43 rfl (lv_at hl 2 rfl) ?_
  refine lv_iconst (v := (1 : Int32)) hx hb dZS_findLeast_44 (by decide) ?_
  refine lv_isub hx hb dZS_findLeast_45 ?_
  refine vp_callSi (va_runV (As := [.int (ph - (1 : Int32)), .int (0 : Int32), .int (a1 - (1 : Int32))]) (rest := [.int (ph - (1 : Int32)), .ref osb]) ⟨hx, hb, hml, hown, hts⟩ (kt_ZS_cheapest l dC dI cI os osa osb op opa og oga kn f_2e_osa sn sf sd pw ph pn pf gw gh gn gf (ph - (1 : Int32)) (0 : Int32) (a1 - (1 : Int32)) _ hw) (cwV 3 hts (tb_V mm_598 mm_600 mp_3 mm_6 mm_601) rfl rfl rfl (by decide +kernel) ⟨Nat.le_of_ble_eq_true rfl, Nat.le_of_ble_eq_true rfl⟩) ⟨gr_blind, va_recv hK hP (ci := 3) (q0 := 0) rfl rfl, fun U hU hW => gr_pre hP hK hE hU hW⟩ rfl rfl hl.1 rfl (lv_room (Nat.le_of_ble_eq_true rfl)) dZS_findLeast_46 ⟨Nat.le_of_ble_eq_true rfl, Nat.le_of_ble_eq_true rfl⟩).run (fun r_3 hw => ?_)
  obtain ⟨h_4, hw⟩ := hw
  refine va_iast hx hb hK hP hD hS 2 0 rfl rfl h_4 dZS_findLeast_49 (fun H locs hP hD hS => ?_)
  have hP : va_P (dC, dI) vwCl [(os, .inr (3, [.ref op, .ref og, .ref osa, .ref osb, .int sd])), (osa, .inl (cI, kn, .inl f_2e_osa)), (osb, .inl (cI, sn, .inl (upd sf (ph - (1 : Int32)).toNatClampNeg r_3))), (op, .inr (1, [.int pw, .int ph, .ref opa])), (opa, .inl (cI, pn, .inl pf)), (og, .inr (1, [.int gw, .int gh, .ref oga])), (oga, .inl (cI, gn, .inl gf))] H := hP
  have hD : va_D A [(os, .inr (3, [.ref op, .ref og, .ref osa, .ref osb, .int sd])), (osa, .inl (cI, kn, .inl f_2e_osa)), (osb, .inl (cI, sn, .inl (upd sf (ph - (1 : Int32)).toNatClampNeg r_3))), (op, .inr (1, [.int pw, .int ph, .ref opa])), (opa, .inl (cI, pn, .inl pf)), (og, .inr (1, [.int gw, .int gh, .ref oga])), (oga, .inl (cI, gn, .inl gf))] := hD
  refine lv_iload_n hx hb dZS_findLeast_50 rfl (lv_at hl 0 rfl) ?_
  refine lv_iconst (v := (1 : Int32)) hx hb dZS_findLeast_51 (by decide) ?_
  refine lv_isub hx hb dZS_findLeast_52 ?_
  refine lv_istore_n (lv' := [(3, .int ((ph - (1 : Int32)) - (1 : Int32))), (2, .int (ph - (1 : Int32))), (0, .ref os), (1, .int a1)]) hx hb dZS_findLeast_53 rfl hl (by decide) rfl (fun ls hl => ?_)
  have lp54 : ∀ K54 : Int32 → (Nat → Int32) → Prop, (∀ (x3_54 : Int32) (f_54_osb : Nat → Int32), K54 x3_54 f_54_osb → ∀ (H : Heap) (locs : List Loc), va_P (dC, dI) vwCl [(os, .inr (3, [.ref op, .ref og, .ref osa, .ref osb, .int sd])), (osa, .inl (cI, kn, .inl f_2e_osa)), (osb, .inl (cI, sn, .inl f_54_osb)), (op, .inr (1, [.int pw, .int ph, .ref opa])), (opa, .inl (cI, pn, .inl pf)), (og, .inr (1, [.int gw, .int gh, .ref oga])), (oga, .inl (cI, gn, .inl gf))] H → va_D A [(os, .inr (3, [.ref op, .ref og, .ref osa, .ref osb, .int sd])), (osa, .inl (cI, kn, .inl f_2e_osa)), (osb, .inl (cI, sn, .inl f_54_osb)), (op, .inr (1, [.int pw, .int ph, .ref opa])), (opa, .inl (cI, pn, .inl pf)), (og, .inr (1, [.int gw, .int gh, .ref oga])), (oga, .inl (cI, gn, .inl gf))] → va_S A s.heap H locs → ∀ ls : Array Slot, lv_has ls 4 [(3, .int x3_54), (2, .int (ph - (1 : Int32))), (0, .ref os), (1, .int a1)] → W p l e (headSpec wsZS_findLeast rm_ZS_findLeast).room s m args below meth c H locs 0 0 Q9 (F0 m 84 ls [])) → ∀ (n : Nat) (x3_54 : Int32) (f_54_osb : Nat → Int32), lp_ZS_findLeast_54 kn kf sn sf sd pw ph pn pf gw gh gn gf a1 x2_2e f_2e_osa r_3 post K54 n x3_54 f_54_osb → ∀ (H : Heap) (locs : List Loc), va_P (dC, dI) vwCl [(os, .inr (3, [.ref op, .ref og, .ref osa, .ref osb, .int sd])), (osa, .inl (cI, kn, .inl f_2e_osa)), (osb, .inl (cI, sn, .inl f_54_osb)), (op, .inr (1, [.int pw, .int ph, .ref opa])), (opa, .inl (cI, pn, .inl pf)), (og, .inr (1, [.int gw, .int gh, .ref oga])), (oga, .inl (cI, gn, .inl gf))] H → va_D A [(os, .inr (3, [.ref op, .ref og, .ref osa, .ref osb, .int sd])), (osa, .inl (cI, kn, .inl f_2e_osa)), (osb, .inl (cI, sn, .inl f_54_osb)), (op, .inr (1, [.int pw, .int ph, .ref opa])), (opa, .inl (cI, pn, .inl pf)), (og, .inr (1, [.int gw, .int gh, .ref oga])), (oga, .inl (cI, gn, .inl gf))] → va_S A s.heap H locs → ∀ ls : Array Slot, lv_has ls 4 [(3, .int x3_54), (2, .int (ph - (1 : Int32))), (0, .ref os), (1, .int a1)] → W p l e (headSpec wsZS_findLeast rm_ZS_findLeast).room s m args below meth c H locs 0 0 Q9 (F0 m 54 ls []) := by
    intro K54 aft54 n
    induction n with
    | zero => intro x3_54 f_54_osb hw; exact False.elim hw
    | succ n ih54 =>
      intro x3_54 f_54_osb hw H locs hP hD hS ls hl
      refine lv_iload_n hx hb dZS_findLeast_54 rfl (lv_at hl 0 rfl) ?_
      refine lv_if_lt (tgt := 84) hx hb dZS_findLeast_55 (by decide) (fun c_5 => ?_) (fun c_5 => ?_)
      · have hw := hw.1 c_5
        exact aft54 x3_54 f_54_osb hw _ _ (hP.sub [0, 1, 2, 3, 4, 5, 6] rfl) (hD.sub [0, 1, 2, 3, 4, 5, 6] (by decide) rfl) hS ls (lv_sub hl [0, 1, 2, 3] rfl)
      · have hw := hw.2 c_5
        refine lv_aload_n hx hb dZS_findLeast_58 rfl (lv_at hl 2 rfl) ?_
        refine va_get (D := (dC, dI)) (ci := 3) (v := .ref osb) (C := RZS) (T := TZS) (N := 5) hx hb hts inZS hown hK hP 0 rfl rfl 3 (by decide) (hts _ mm_96) (fun _ h9 => h9) rfl dZS_findLeast_59 ?_
        refine lv_iload_n hx hb dZS_findLeast_62 rfl (lv_at hl 0 rfl) ?_
        refine lv_aload_n hx hb dZS_findLeast_63 rfl (lv_at hl 2 rfl) ?_
        refine lv_iload_n hx hb dZS_findLeast_64 rfl (lv_at hl 0 rfl) ?_
        refine lv_aload_n hx hb dZS_findLeast_65 rfl (lv_at hl 2 rfl) ?_
        refine va_get (D := (dC, dI)) (ci := 3) (v := .ref osb) (C := RZS) (T := TZS) (N := 5) hx hb hts inZS hown hK hP 0 rfl rfl 3 (by decide) (hts _ mm_96) (fun _ h9 => h9) rfl dZS_findLeast_66 ?_
        refine lv_iload_n hx hb dZS_findLeast_69 rfl (lv_at hl 0 rfl) ?_
        refine lv_iconst (v := (1 : Int32)) hx hb dZS_findLeast_70 (by decide) ?_
        refine lv_iadd hx hb dZS_findLeast_71 ?_
        obtain ⟨h_6, hw⟩ := hw
        refine va_iald hx hb hK hP 2 0 rfl rfl h_6 dZS_findLeast_72 ?_
        refine lv_iload_n hx hb dZS_findLeast_73 rfl (lv_at hl 3 rfl) ?_
        refine vp_callSi (va_runV (As := [.int x3_54, .int (f_54_osb (x3_54 + (1 : Int32)).toNatClampNeg), .int a1]) (rest := [.int x3_54, .ref osb]) ⟨hx, hb, hml, hown, hts⟩ (kt_ZS_cheapestNear l dC dI cI os osa osb op opa og oga kn f_2e_osa sn f_54_osb sd pw ph pn pf gw gh gn gf x3_54 (f_54_osb (x3_54 + (1 : Int32)).toNatClampNeg) a1 _ hw) (cwV 3 hts (tb_V mm_592 mm_594 mp_2 mm_6 mm_595) rfl rfl rfl (by decide +kernel) ⟨Nat.le_of_ble_eq_true rfl, Nat.le_of_ble_eq_true rfl⟩) ⟨gr_blind, va_recv hK hP (ci := 3) (q0 := 0) rfl rfl, fun U hU hW => gr_pre hP hK hE hU hW⟩ rfl rfl hl.1 rfl (lv_room (Nat.le_of_ble_eq_true rfl)) dZS_findLeast_74 ⟨Nat.le_of_ble_eq_true rfl, Nat.le_of_ble_eq_true rfl⟩).run (fun r_7 hw => ?_)
        obtain ⟨h_8, hw⟩ := hw
        refine va_iast hx hb hK hP hD hS 2 0 rfl rfl h_8 dZS_findLeast_77 (fun H locs hP hD hS => ?_)
        have hP : va_P (dC, dI) vwCl [(os, .inr (3, [.ref op, .ref og, .ref osa, .ref osb, .int sd])), (osa, .inl (cI, kn, .inl f_2e_osa)), (osb, .inl (cI, sn, .inl (upd f_54_osb x3_54.toNatClampNeg r_7))), (op, .inr (1, [.int pw, .int ph, .ref opa])), (opa, .inl (cI, pn, .inl pf)), (og, .inr (1, [.int gw, .int gh, .ref oga])), (oga, .inl (cI, gn, .inl gf))] H := hP
        have hD : va_D A [(os, .inr (3, [.ref op, .ref og, .ref osa, .ref osb, .int sd])), (osa, .inl (cI, kn, .inl f_2e_osa)), (osb, .inl (cI, sn, .inl (upd f_54_osb x3_54.toNatClampNeg r_7))), (op, .inr (1, [.int pw, .int ph, .ref opa])), (opa, .inl (cI, pn, .inl pf)), (og, .inr (1, [.int gw, .int gh, .ref oga])), (oga, .inl (cI, gn, .inl gf))] := hD
        refine lv_iinc (v := x3_54 + (-1 : Int32)) (lv' := [(3, .int (x3_54 + (-1 : Int32))), (2, .int (ph - (1 : Int32))), (0, .ref os), (1, .int a1)]) hx hb dZS_findLeast_78 hl (k := 0) rfl rfl (by decide) rfl (fun ls hl => ?_)
        refine lv_goto (tgt := 54) hx hb dZS_findLeast_81 (by decide) ?_
        exact ih54 (x3_54 + (-1 : Int32)) (upd f_54_osb x3_54.toNatClampNeg r_7) hw _ _ (hP.sub [0, 1, 2, 3, 4, 5, 6] rfl) (hD.sub [0, 1, 2, 3, 4, 5, 6] (by decide) rfl) hS ls (lv_sub hl [0, 1, 2, 3] rfl)
  obtain ⟨n54, hw⟩ := hw
  refine lp54 _ (fun x3_54e f_54e_osb hw H locs hP hD hS ls hl => ?_) n54 ((ph - (1 : Int32)) - (1 : Int32)) (upd sf (ph - (1 : Int32)).toNatClampNeg r_3) hw _ _ (hP.sub [0, 1, 2, 3, 4, 5, 6] rfl) (hD.sub [0, 1, 2, 3, 4, 5, 6] (by decide) rfl) hS ls (lv_sub hl [0, 1, 2, 3] rfl)
  refine lv_aload_n hx hb dZS_findLeast_84 rfl (lv_at hl 2 rfl) ?_
  refine lv_iconst (v := (1 : Int32)) hx hb dZS_findLeast_85 (by decide) ?_
  refine va_put (D := (dC, dI)) (ci := 3) (v := .int (1 : Int32)) (ty := .boolean) (C := RZS) (T := TZS) (N := 5) hx hb hts inZS tyZS tyZS_ok nmZS hown hK hP hD hS 0 rfl rfl 4 (by decide) (hts _ mm_98) (fun _ h9 => h9) rfl (by decide +kernel) rfl rfl (Nat.le_of_ble_eq_true rfl) dZS_findLeast_86 (fun H locs hP hD hS => ?_)
  have hP : va_P (dC, dI) vwCl [(os, .inr (3, [.ref op, .ref og, .ref osa, .ref osb, .int (1 : Int32)])), (osa, .inl (cI, kn, .inl f_2e_osa)), (osb, .inl (cI, sn, .inl f_54e_osb)), (op, .inr (1, [.int pw, .int ph, .ref opa])), (opa, .inl (cI, pn, .inl pf)), (og, .inr (1, [.int gw, .int gh, .ref oga])), (oga, .inl (cI, gn, .inl gf))] H := hP
  have hD : va_D A [(os, .inr (3, [.ref op, .ref og, .ref osa, .ref osb, .int (1 : Int32)])), (osa, .inl (cI, kn, .inl f_2e_osa)), (osb, .inl (cI, sn, .inl f_54e_osb)), (op, .inr (1, [.int pw, .int ph, .ref opa])), (opa, .inl (cI, pn, .inl pf)), (og, .inr (1, [.int gw, .int gh, .ref oga])), (oga, .inl (cI, gn, .inl gf))] := hD
  refine lv_aload_n hx hb dZS_findLeast_89 rfl (lv_at hl 2 rfl) ?_
  refine va_get (D := (dC, dI)) (ci := 3) (v := .ref osa) (C := RZS) (T := TZS) (N := 5) hx hb hts inZS hown hK hP 0 rfl rfl 2 (by decide) (hts _ mm_95) (fun _ h9 => h9) rfl dZS_findLeast_90 ?_
  refine lv_iload_n hx hb dZS_findLeast_93 rfl (lv_at hl 1 rfl) ?_
  refine lv_bipush (v := (8 : Int32)) hx hb dZS_findLeast_94 (by decide) ?_
  refine lv_imul hx hb dZS_findLeast_96 ?_
  refine lv_aload_n hx hb dZS_findLeast_97 rfl (lv_at hl 2 rfl) ?_
  refine va_get (D := (dC, dI)) (ci := 3) (v := .ref osb) (C := RZS) (T := TZS) (N := 5) hx hb hts inZS hown hK hP 0 rfl rfl 3 (by decide) (hts _ mm_96) (fun _ h9 => h9) rfl dZS_findLeast_98 ?_
  refine lv_iload_n hx hb dZS_findLeast_101 rfl (lv_at hl 1 rfl) ?_
  obtain ⟨h_9, hw⟩ := hw
  refine va_iald hx hb hK hP 2 0 rfl rfl h_9 dZS_findLeast_102 ?_
  refine lv_iadd hx hb dZS_findLeast_103 ?_
  obtain ⟨h_10, hw⟩ := hw
  refine va_iald hx hb hK hP 1 0 rfl rfl h_10 dZS_findLeast_104 ?_
  have hP9 := hP.sub (ws' := [(os, .inr (3, [.ref op, .ref og, .ref osa, .ref osb, .int (1 : Int32)])), (osa, .inl (cI, kn, .inl f_2e_osa)), (osb, .inl (cI, sn, .inl f_54e_osb)), (op, .inr (1, [.int pw, .int ph, .ref opa])), (opa, .inl (cI, pn, .inl pf)), (og, .inr (1, [.int gw, .int gh, .ref oga])), (oga, .inl (cI, gn, .inl gf))]) [0, 1, 2, 3, 4, 5, 6] rfl
  have hD9 := hD.sub (ws' := [(os, .inr (3, [.ref op, .ref og, .ref osa, .ref osb, .int (1 : Int32)])), (osa, .inl (cI, kn, .inl f_2e_osa)), (osb, .inl (cI, sn, .inl f_54e_osb)), (op, .inr (1, [.int pw, .int ph, .ref opa])), (opa, .inl (cI, pn, .inl pf)), (og, .inr (1, [.int gw, .int gh, .ref oga])), (oga, .inl (cI, gn, .inl gf))]) [0, 1, 2, 3, 4, 5, 6] (by decide) rfl
  subst hQ9
  exact W.iret (v := f_2e_osa (((ph - (1 : Int32)) * (8 : Int32)) + (f_54e_osb (ph - (1 : Int32)).toNatClampNeg)).toNatClampNeg) hx hb hr (fun t ht hW => ⟨⟨f_2e_osa (((ph - (1 : Int32)) * (8 : Int32)) + (f_54e_osb (ph - (1 : Int32)).toNatClampNeg)).toNatClampNeg, (f_2e_osa, f_54e_osb, (1 : Int32)), rfl, hw, by rw [ht]; exact hP9, va_K.moved hW.alike hK, hD9⟩, hS.F ht⟩) hS.2.2 dZS_findLeast_105
theorem dZS_init_0 : decode cZS_init 0 = .ok (.aload_n 0, 1) := by decide +kernel
theorem dZS_init_1 : decode cZS_init 1 = .ok (.invokespecial 3, 3) := by decide +kernel
theorem dZS_init_4 : decode cZS_init 4 = .ok (.aload_n 0, 1) := by decide +kernel
theorem dZS_init_5 : decode cZS_init 5 = .ok (.aload_n 1, 1) := by decide +kernel
theorem dZS_init_6 : decode cZS_init 6 = .ok (.putfield 9, 3) := by decide +kernel
theorem dZS_init_9 : decode cZS_init 9 = .ok (.aload_n 0, 1) := by decide +kernel
theorem dZS_init_10 : decode cZS_init 10 = .ok (.aload_n 2, 1) := by decide +kernel
theorem dZS_init_11 : decode cZS_init 11 = .ok (.putfield 15, 3) := by decide +kernel
theorem dZS_init_14 : decode cZS_init 14 = .ok (.aload_n 0, 1) := by decide +kernel
theorem dZS_init_15 : decode cZS_init 15 = .ok (.bipush 8, 2) := by decide +kernel
theorem dZS_init_17 : decode cZS_init 17 = .ok (.aload_n 1, 1) := by decide +kernel
theorem dZS_init_18 : decode cZS_init 18 = .ok (.getfield 18, 3) := by decide +kernel
theorem dZS_init_21 : decode cZS_init 21 = .ok (.imul, 1) := by decide +kernel
theorem dZS_init_22 : decode cZS_init 22 = .ok (.newarray .int, 2) := by decide +kernel
theorem dZS_init_24 : decode cZS_init 24 = .ok (.putfield 24, 3) := by decide +kernel
theorem dZS_init_27 : decode cZS_init 27 = .ok (.aload_n 0, 1) := by decide +kernel
theorem dZS_init_28 : decode cZS_init 28 = .ok (.aload_n 1, 1) := by decide +kernel
theorem dZS_init_29 : decode cZS_init 29 = .ok (.getfield 18, 3) := by decide +kernel
theorem dZS_init_32 : decode cZS_init 32 = .ok (.newarray .int, 2) := by decide +kernel
theorem dZS_init_34 : decode cZS_init 34 = .ok (.putfield 28, 3) := by decide +kernel
theorem dZS_init_37 : decode cZS_init 37 = .ok (.return_, 1) := by decide +kernel
abbrev wsZS_init : List Cond := .code yZS_init cZS_init 3 none :: tbg
def wp_ZS_init (sd : Int32) (pw : Int32) (ph : Int32) (pn : Nat) (pf : Nat → Int32) (gw : Int32) (gh : Int32) (gn : Nat) (gf : Nat → Int32) (post : Nat → (Nat → Int32) → Nat → (Nat → Int32) → Prop) : Prop := ¬ ((8 : Int32) * ph) < 0 ∧ ((8 : Int32) * ph).toNatClampNeg ≤ 320 ∧ (¬ ph < 0 ∧ ph.toNatClampNeg ≤ 40 ∧ (post (((8 : Int32) * ph).toNatClampNeg) (fun _ => 0) ph.toNatClampNeg (fun _ => 0)))
abbrev rm_ZS_init : Room := { frames := 1, cells := 2, slots := 360, locals := 20 }
set_option maxHeartbeats 4000000 in
set_option maxRecDepth 100000 in
theorem kt_ZS_init (l : Launch) (dC : Nat → ClassId) (dI : Nat → Nat → Nat) (cI : ClassId) (os op opa og oga : Nat) (sz : Nat) (sd : Int32) (pw : Int32) (ph : Int32) (pn : Nat) (pf : Nat → Int32) (gw : Int32) (gh : Int32) (gn : Nat) (gf : Nat → Int32) (post : Nat → (Nat → Int32) → Nat → (Nat → Int32) → Prop) (hw : wp_ZS_init sd pw ph pn pf gw gh gn gf post) : Met l yZS_init wsZS_init rm_ZS_init (gw_Pc dC dI [(cI, .int)] [.ref os, .ref op, .ref og] [(os, .inr (3, [.null, .null, .null, .null, .int sd])), (op, .inr (1, [.int pw, .int ph, .ref opa])), (opa, .inl (cI, pn, .inl pf)), (og, .inr (1, [.int gw, .int gh, .ref oga])), (oga, .inl (cI, gn, .inl gf))] sz) (va_Qv (fun (u : Nat × (Nat → Int32) × Nat × (Nat → Int32)) => post u.1 u.2.1 u.2.2.1 u.2.2.2) (fun u t => ∃ osa osb : Nat, gw_B dC dI [(cI, .int)] (va_A [(os, .inr (3, [.null, .null, .null, .null, .int sd])), (op, .inr (1, [.int pw, .int ph, .ref opa])), (opa, .inl (cI, pn, .inl pf)), (og, .inr (1, [.int gw, .int gh, .ref oga])), (oga, .inl (cI, gn, .inl gf))] sz) [(os, .inr (3, [.ref op, .ref og, .ref osa, .ref osb, .int sd])), (osa, .inl (cI, u.1, .inl u.2.1)), (osb, .inl (cI, u.2.2.1, .inl u.2.2.2)), (op, .inr (1, [.int pw, .int ph, .ref opa])), (opa, .inl (cI, pn, .inl pf)), (og, .inr (1, [.int gw, .int gh, .ref oga])), (oga, .inl (cI, gn, .inl gf))] t) (va_A [(os, .inr (3, [.null, .null, .null, .null, .int sd])), (op, .inr (1, [.int pw, .int ph, .ref opa])), (opa, .inl (cI, pn, .inl pf)), (og, .inr (1, [.int gw, .int gh, .ref oga])), (oga, .inl (cI, gn, .inl gf))] sz)) 2 360 (va_A [(os, .inr (3, [.null, .null, .null, .null, .int sd])), (op, .inr (1, [.int pw, .int ph, .ref opa])), (opa, .inl (cI, pn, .inl pf)), (og, .inr (1, [.int gw, .int gh, .ref oga])), (oga, .inl (cI, gn, .inl gf))] sz) := by
  refine Met.ofW (cc := cZS_init) (maxL := 3) (ret := none) (by decide) rfl ?_
  intro p e s m args below meth c s₁ B hml hv
  obtain ⟨ha9, hsz, hP, hK, hE, hD0⟩ := hv
  have hx := B.exec
  have hb := B.bytes
  have hr := B.returns
  have hts0 := atoms_spec (ws := wsZS_init) B.pre
  have hts : ∀ w ∈ tbg, w.before args s = true := fun w h => hts0 w (List.mem_cons_of_mem _ h)
  have hown : s.vm.findClass RZS = some m.cls := findClass_of_methodNamed B.named
  have hlocks := B.notSynchronized
  have hin : meth.name = "<init>" := (name_of_methodNamed B.named B.method).1
  subst hsz
  have hD := hD0.self (sz := s.heap.size)
  refine gx_Q (fun Q9 hQ9 => ?_)
  generalize hAe : va_A [(os, .inr (3, [.null, .null, .null, .null, .int sd])), (op, .inr (1, [.int pw, .int ph, .ref opa])), (opa, .inl (cI, pn, .inl pf)), (og, .inr (1, [.int gw, .int gh, .ref oga])), (oga, .inl (cI, gn, .inl gf))] s.heap.size = A at hD hQ9 ⊢
  have hA : ∀ q : Nat, s.heap.size ≤ q → A q := fun q h => by rw [← hAe]; exact Or.inr h
  have hS : va_S A s.heap s.heap [] := va_S.rf
  have hl := lv_entry ([.ref os, .ref op, .ref og]) (n := 3) (Nat.le_of_ble_eq_true rfl)
  have he9 : entryFrame m args 3 = F0 m 0 ((lg_sl [.ref os, .ref op, .ref og] ++ List.replicate (3 - (lg_sl ([.ref os, .ref op, .ref og] : List Value)).length) Slot.unset).toArray) [] := by rw [ha9]; exact lg_entry_eq m [.ref os, .ref op, .ref og] 3
  rw [he9]
  generalize (lg_sl ([.ref os, .ref op, .ref og] : List Value) ++ List.replicate (3 - (lg_sl ([.ref os, .ref op, .ref og] : List Value)).length) Slot.unset).toArray = ls at hl ⊢
  have hl : lv_has ls 3 [(0, .ref os), (1, .ref op), (2, .ref og)] := hl
  refine lv_aload_n hx hb dZS_init_0 rfl (lv_at hl 0 rfl) ?_
  refine W.objInit hx hb hown (hts _ mm_92) (hts _ mm_23) (hts _ mm_24) rfl (by rw [hml]; exact hl.1) rfl dZS_init_1 (Nat.le_of_ble_eq_true rfl) (Nat.le_of_ble_eq_true rfl) ?_
  refine W.eq (g2 := F0 m 4 ls []) rfl ?_
  refine lv_aload_n hx hb dZS_init_4 rfl (lv_at hl 0 rfl) ?_
  refine lv_aload_n hx hb dZS_init_5 rfl (lv_at hl 1 rfl) ?_
  refine va_putF (D := (dC, dI)) (ci := 3) (v := .ref op) (ty := (.object "TilePyramid$Picture")) (C := RZS) (T := TZS) (N := 5) hx hb hts inZS tyZS tyZS_ok nmZS hown hK hP hD hS 0 rfl rfl 0 (by decide) (hts _ mm_93) (fun _ h9 => h9) rfl hin rfl (by decide +kernel) rfl rfl (Nat.le_of_ble_eq_true rfl) dZS_init_6 (fun H locs hP hD hS => ?_)
  have hP : va_P (dC, dI) vwCl [(os, .inr (3, [.ref op, .null, .null, .null, .int sd])), (op, .inr (1, [.int pw, .int ph, .ref opa])), (opa, .inl (cI, pn, .inl pf)), (og, .inr (1, [.int gw, .int gh, .ref oga])), (oga, .inl (cI, gn, .inl gf))] H := hP
  have hD : va_D A [(os, .inr (3, [.ref op, .null, .null, .null, .int sd])), (op, .inr (1, [.int pw, .int ph, .ref opa])), (opa, .inl (cI, pn, .inl pf)), (og, .inr (1, [.int gw, .int gh, .ref oga])), (oga, .inl (cI, gn, .inl gf))] := hD
  refine lv_aload_n hx hb dZS_init_9 rfl (lv_at hl 0 rfl) ?_
  refine lv_aload_n hx hb dZS_init_10 rfl (lv_at hl 2 rfl) ?_
  refine va_putF (D := (dC, dI)) (ci := 3) (v := .ref og) (ty := (.object "TilePyramid$Picture")) (C := RZS) (T := TZS) (N := 5) hx hb hts inZS tyZS tyZS_ok nmZS hown hK hP hD hS 0 rfl rfl 1 (by decide) (hts _ mm_94) (fun _ h9 => h9) rfl hin rfl (by decide +kernel) rfl rfl (Nat.le_of_ble_eq_true rfl) dZS_init_11 (fun H locs hP hD hS => ?_)
  have hP : va_P (dC, dI) vwCl [(os, .inr (3, [.ref op, .ref og, .null, .null, .int sd])), (op, .inr (1, [.int pw, .int ph, .ref opa])), (opa, .inl (cI, pn, .inl pf)), (og, .inr (1, [.int gw, .int gh, .ref oga])), (oga, .inl (cI, gn, .inl gf))] H := hP
  have hD : va_D A [(os, .inr (3, [.ref op, .ref og, .null, .null, .int sd])), (op, .inr (1, [.int pw, .int ph, .ref opa])), (opa, .inl (cI, pn, .inl pf)), (og, .inr (1, [.int gw, .int gh, .ref oga])), (oga, .inl (cI, gn, .inl gf))] := hD
  refine lv_aload_n hx hb dZS_init_14 rfl (lv_at hl 0 rfl) ?_
  refine lv_bipush (v := (8 : Int32)) hx hb dZS_init_15 (by decide) ?_
  refine lv_aload_n hx hb dZS_init_17 rfl (lv_at hl 1 rfl) ?_
  refine va_get (D := (dC, dI)) (ci := 1) (v := .int ph) (C := RZP) (T := TZP) (N := 3) hx hb hts inZP hown hK hP 1 rfl rfl 1 (by decide) (hts _ mm_43) (fun _ h9 => h9) rfl dZS_init_18 ?_
  refine lv_imul hx hb dZS_init_21 ?_
  obtain ⟨h_2a, h_2b, hw⟩ := hw
  have h_2c : 0 + (((8 : Int32) * ph).toNatClampNeg) ≤ 360 := by omega
  have h_2d : (((8 : Int32) * ph).toNatClampNeg) * 4 ≤ 536870912 := by omega
  refine va_newa (atype := .int) (N' := ((8 : Int32) * ph).toNatClampNeg) (a0 := (((8 : Int32) * ph).toNatClampNeg, .inl (fun _ => 0))) (ty := .int) hx hb (hts _ mm_53) rfl hK hP hD hS hA (fun _ => rfl) h_2a rfl h_2d (Nat.le_of_ble_eq_true rfl) h_2c dZS_init_22 (fun q_1 cAq_1 H hK2 hP hD hS => ?_)
  have hc_q_1 : cAq_1 = cI := Option.some.inj ((va_nm_int (hK2.2 1 _ rfl).2).symm.trans (va_nm_int (hK.2 0 _ rfl).2))
  rw [hc_q_1] at hP hD
  refine W.widen (k := 1) (n := 320) (by omega) (by omega) ?_
  have hP : va_P (dC, dI) vwCl [(os, .inr (3, [.ref op, .ref og, .null, .null, .int sd])), (op, .inr (1, [.int pw, .int ph, .ref opa])), (opa, .inl (cI, pn, .inl pf)), (og, .inr (1, [.int gw, .int gh, .ref oga])), (oga, .inl (cI, gn, .inl gf)), (q_1, .inl (cI, (((8 : Int32) * ph).toNatClampNeg), .inl (fun _ => 0)))] H := hP
  have hD : va_D A [(os, .inr (3, [.ref op, .ref og, .null, .null, .int sd])), (op, .inr (1, [.int pw, .int ph, .ref opa])), (opa, .inl (cI, pn, .inl pf)), (og, .inr (1, [.int gw, .int gh, .ref oga])), (oga, .inl (cI, gn, .inl gf)), (q_1, .inl (cI, (((8 : Int32) * ph).toNatClampNeg), .inl (fun _ => 0)))] := hD
  refine va_putF (D := (dC, dI)) (ci := 3) (v := .ref q_1) (ty := (.array .int)) (C := RZS) (T := TZS) (N := 5) hx hb hts inZS tyZS tyZS_ok nmZS hown hK hP hD hS 0 rfl rfl 2 (by decide) (hts _ mm_95) (fun _ h9 => h9) rfl hin rfl (by decide +kernel) rfl rfl (Nat.le_of_ble_eq_true rfl) dZS_init_24 (fun H locs hP hD hS => ?_)
  have hP : va_P (dC, dI) vwCl [(os, .inr (3, [.ref op, .ref og, .ref q_1, .null, .int sd])), (op, .inr (1, [.int pw, .int ph, .ref opa])), (opa, .inl (cI, pn, .inl pf)), (og, .inr (1, [.int gw, .int gh, .ref oga])), (oga, .inl (cI, gn, .inl gf)), (q_1, .inl (cI, (((8 : Int32) * ph).toNatClampNeg), .inl (fun _ => 0)))] H := hP
  have hD : va_D A [(os, .inr (3, [.ref op, .ref og, .ref q_1, .null, .int sd])), (op, .inr (1, [.int pw, .int ph, .ref opa])), (opa, .inl (cI, pn, .inl pf)), (og, .inr (1, [.int gw, .int gh, .ref oga])), (oga, .inl (cI, gn, .inl gf)), (q_1, .inl (cI, (((8 : Int32) * ph).toNatClampNeg), .inl (fun _ => 0)))] := hD
  refine lv_aload_n hx hb dZS_init_27 rfl (lv_at hl 0 rfl) ?_
  refine lv_aload_n hx hb dZS_init_28 rfl (lv_at hl 1 rfl) ?_
  refine va_get (D := (dC, dI)) (ci := 1) (v := .int ph) (C := RZP) (T := TZP) (N := 3) hx hb hts inZP hown hK hP 1 rfl rfl 1 (by decide) (hts _ mm_43) (fun _ h9 => h9) rfl dZS_init_29 ?_
  obtain ⟨h_4a, h_4b, hw⟩ := hw
  have h_4c : 320 + ph.toNatClampNeg ≤ 360 := by omega
  have h_4d : ph.toNatClampNeg * 4 ≤ 536870912 := by omega
  refine va_newa (atype := .int) (N' := ph.toNatClampNeg) (a0 := (ph.toNatClampNeg, .inl (fun _ => 0))) (ty := .int) hx hb (hts _ mm_53) rfl hK hP hD hS hA (fun _ => rfl) h_4a rfl h_4d (Nat.le_of_ble_eq_true rfl) h_4c dZS_init_32 (fun q_3 cAq_3 H hK2 hP hD hS => ?_)
  have hc_q_3 : cAq_3 = cI := Option.some.inj ((va_nm_int (hK2.2 1 _ rfl).2).symm.trans (va_nm_int (hK.2 0 _ rfl).2))
  rw [hc_q_3] at hP hD
  refine W.widen (k := 2) (n := 360) (by omega) (by omega) ?_
  have hP : va_P (dC, dI) vwCl [(os, .inr (3, [.ref op, .ref og, .ref q_1, .null, .int sd])), (op, .inr (1, [.int pw, .int ph, .ref opa])), (opa, .inl (cI, pn, .inl pf)), (og, .inr (1, [.int gw, .int gh, .ref oga])), (oga, .inl (cI, gn, .inl gf)), (q_1, .inl (cI, (((8 : Int32) * ph).toNatClampNeg), .inl (fun _ => 0))), (q_3, .inl (cI, ph.toNatClampNeg, .inl (fun _ => 0)))] H := hP
  have hD : va_D A [(os, .inr (3, [.ref op, .ref og, .ref q_1, .null, .int sd])), (op, .inr (1, [.int pw, .int ph, .ref opa])), (opa, .inl (cI, pn, .inl pf)), (og, .inr (1, [.int gw, .int gh, .ref oga])), (oga, .inl (cI, gn, .inl gf)), (q_1, .inl (cI, (((8 : Int32) * ph).toNatClampNeg), .inl (fun _ => 0))), (q_3, .inl (cI, ph.toNatClampNeg, .inl (fun _ => 0)))] := hD
  refine va_putF (D := (dC, dI)) (ci := 3) (v := .ref q_3) (ty := (.array .int)) (C := RZS) (T := TZS) (N := 5) hx hb hts inZS tyZS tyZS_ok nmZS hown hK hP hD hS 0 rfl rfl 3 (by decide) (hts _ mm_96) (fun _ h9 => h9) rfl hin rfl (by decide +kernel) rfl rfl (Nat.le_of_ble_eq_true rfl) dZS_init_34 (fun H locs hP hD hS => ?_)
  have hP : va_P (dC, dI) vwCl [(os, .inr (3, [.ref op, .ref og, .ref q_1, .ref q_3, .int sd])), (op, .inr (1, [.int pw, .int ph, .ref opa])), (opa, .inl (cI, pn, .inl pf)), (og, .inr (1, [.int gw, .int gh, .ref oga])), (oga, .inl (cI, gn, .inl gf)), (q_1, .inl (cI, (((8 : Int32) * ph).toNatClampNeg), .inl (fun _ => 0))), (q_3, .inl (cI, ph.toNatClampNeg, .inl (fun _ => 0)))] H := hP
  have hD : va_D A [(os, .inr (3, [.ref op, .ref og, .ref q_1, .ref q_3, .int sd])), (op, .inr (1, [.int pw, .int ph, .ref opa])), (opa, .inl (cI, pn, .inl pf)), (og, .inr (1, [.int gw, .int gh, .ref oga])), (oga, .inl (cI, gn, .inl gf)), (q_1, .inl (cI, (((8 : Int32) * ph).toNatClampNeg), .inl (fun _ => 0))), (q_3, .inl (cI, ph.toNatClampNeg, .inl (fun _ => 0)))] := hD
  have hP9 := hP.sub (ws' := [(os, .inr (3, [.ref op, .ref og, .ref q_1, .ref q_3, .int sd])), (q_1, .inl (cI, (((8 : Int32) * ph).toNatClampNeg), .inl (fun _ => 0))), (q_3, .inl (cI, ph.toNatClampNeg, .inl (fun _ => 0))), (op, .inr (1, [.int pw, .int ph, .ref opa])), (opa, .inl (cI, pn, .inl pf)), (og, .inr (1, [.int gw, .int gh, .ref oga])), (oga, .inl (cI, gn, .inl gf))]) [0, 5, 6, 1, 2, 3, 4] rfl
  have hD9 := hD.sub (ws' := [(os, .inr (3, [.ref op, .ref og, .ref q_1, .ref q_3, .int sd])), (q_1, .inl (cI, (((8 : Int32) * ph).toNatClampNeg), .inl (fun _ => 0))), (q_3, .inl (cI, ph.toNatClampNeg, .inl (fun _ => 0))), (op, .inr (1, [.int pw, .int ph, .ref opa])), (opa, .inl (cI, pn, .inl pf)), (og, .inr (1, [.int gw, .int gh, .ref oga])), (oga, .inl (cI, gn, .inl gf))]) [0, 5, 6, 1, 2, 3, 4] (by decide) rfl
  subst hQ9
  exact W.vret hx hb hr (fun t ht hW => ⟨⟨((((8 : Int32) * ph).toNatClampNeg), (fun _ => 0), ph.toNatClampNeg, (fun _ => 0)), rfl, hw, q_1, q_3, by rw [ht]; exact hP9, va_K.moved hW.alike hK, hD9⟩, hS.F ht⟩) hS.2.2 dZS_init_37
end
