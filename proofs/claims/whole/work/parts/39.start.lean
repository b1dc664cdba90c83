/-! THE CLAIM OUT OF ONE WALK OF THE LAW'S BODY. Your part is whole_start (and what it stands on); all else here is the same for every law, but numbers. -/
def R_law : String := "TilePyramidLaw"
def lw_P (b : Addr) (xs : List Int32) (args : Array Value) (s : State) : Prop := args = #[.ref b] ∧ s.IntsAt b xs ∧ xs.length ≤ 3074 ∧ (Jvm.Cond.and given_1 narrow_1).before args s = true
def lw_Q (_ : Array Value) (s : State) (o : Outcome) (t : State) : Prop := o = .returned (some (.int 1)) ∧ Framed s o t [] 601024 7293000
def lw_Z (below : List Frame) (a : Array Value) (s : State) : State → Prop := fun t => ∃ o, t.status = .running ∧ Ended t below o ∧ lw_Q a s o t
/-- the law's own end, with 1 on the stack, nothing written that was there before, its room as the claim has it -/
theorem lw_ret {p : Program} {l : Launch} {e : Env} {s : State} {m : MethodId} {below : List Frame} {meth : Method} {c : Code} {b : Nat} (hx : p.tables.exec = Jvm.exec) (hb : c.code = code) (hr : meth.sig.returnType = ret) (hlocks : meth.locks = false) {pc : Nat} {H : Heap} {ls : Array Slot} (hdg : decode code pc = .ok (.ireturn, 1)) : W p l e room_1 s m #[Value.ref b] below meth c H [] 601024 7293000 (lw_Z below #[Value.ref b] s) (F0 m pc ls [.int 1]) := by
  intro T hT X
  obtain ⟨fs, hret, hrun, hended, hW, hframe⟩ := X.leave (v := some (.int 1)) (hlocks := hlocks) (fun h => by rw [hr] at h; cases h)
  have hmeth' : T.vm.method? m = some meth := X.method'
  refine ⟨T.setFrames fs, ?_, .returned (some (.int 1)), hrun, hended, rfl, ⟨_, rfl⟩, hW, hframe⟩
  jvm_step X.here [X.here.top, hx, hb, hdg, hmeth', hr, ret, narrow_b1]
  (try refine ⟨rfl, ?_⟩); (try refine ⟨rfl, ?_⟩)
  first | (intro acts; rw [hret _ acts rfl rfl rfl]) | rw [hret _ _ rfl rfl rfl]
  exact Steps.refl _
/-- what holds at the law's entry: the machine, the code, the tables' words (any of lw_tbl by 'hts w (by decide +kernel)'), the script of L ints xs at the cell b, what the Statement gives of the start (any of its parts by flat_of_before) -/
def lw_At (p : Program) (s : State) (m : MethodId) (meth : Method) (c : Code) (b L : Nat) (xs : Nat → Int32) : Prop :=
  p.tables.exec = Jvm.exec ∧ c.code = code ∧ meth.sig.returnType = ret ∧ c.maxLocals = 7 ∧ s.vm.findClass R_law = some m.cls ∧ (∀ w ∈ lw_tbl, w.before #[Value.ref b] s = true) ∧ va_X b L xs s s.heap ∧ b < s.heap.size ∧ meth.locks = false ∧ (Jvm.Cond.and given_1 narrow_1).before #[Value.ref b] s = true
theorem lwi_tables_1_1 {w : Cond} (h : w ∈ tables_1_1) : w ∈ lw_tbl := by
  show w ∈ k2_sels lw_privs ++ (tables_1_1 ++ (tables_1_2 ++ (tables_1_3 ++ (tables_1_4))))
  exact List.mem_append_right _ (List.mem_append_left _ h)
theorem lwi_tables_1_2 {w : Cond} (h : w ∈ tables_1_2) : w ∈ lw_tbl := by
  show w ∈ k2_sels lw_privs ++ (tables_1_1 ++ (tables_1_2 ++ (tables_1_3 ++ (tables_1_4))))
  exact List.mem_append_right _ (List.mem_append_right _ (List.mem_append_left _ h))
theorem lwi_tables_1_3 {w : Cond} (h : w ∈ tables_1_3) : w ∈ lw_tbl := by
  show w ∈ k2_sels lw_privs ++ (tables_1_1 ++ (tables_1_2 ++ (tables_1_3 ++ (tables_1_4))))
  exact List.mem_append_right _ (List.mem_append_right _ (List.mem_append_right _ (List.mem_append_left _ h)))
theorem lwi_tables_1_4 {w : Cond} (h : w ∈ tables_1_4) : w ∈ lw_tbl := by
  show w ∈ k2_sels lw_privs ++ (tables_1_1 ++ (tables_1_2 ++ (tables_1_3 ++ (tables_1_4))))
  exact List.mem_append_right _ (List.mem_append_right _ (List.mem_append_right _ (List.mem_append_right _ (h))))
theorem sx_Old.of {A : Nat → Prop} {H0 H : Heap} {locs : List Loc} (hS : va_S A H0 H locs) (hA : ∀ q : Nat, q < H0.size → ¬ A q) : sx_Old H0 H := fun q cell h => by
  have hq : q < H0.size := (Array.getElem?_eq_some_iff.mp h).1
  rw [hS.2.1 q hq (hA q hq)]; exact h
theorem lx_str {args : Array Value} {s : State} {own tx : String} {k : Nat} (hc : ∃ cc, s.vm.findClass own = some cc) (h : (Cond.stringRef own k tx).before args s = true) : ∃ sa : Nat, vk_R own k tx sa s := by
  obtain ⟨cc, hc⟩ := hc
  obtain ⟨k1, cf, i, a, -, -, -, -, -, he⟩ := Cond.stringRef_spec hc h
  exact ⟨a, vk_R.of h he⟩
set_option maxRecDepth 100000 in
theorem law_env {p : Program} {s : State} {m : MethodId} {meth : Method} {c : Code} {b L : Nat} {xs : Nat → Int32} (C0 : lw_At p s m meth c b L xs) : gx_E s ∧ sx_T s.heap s ∧ ∃ (dC : Nat → ClassId) (dI : Nat → Nat → Nat) (cI cJ : ClassId), va_K (dC, dI) vwCl [(cI, .int), (cJ, .long)] s := by
  obtain ⟨hx, hb, hr, hml, hown, hts1, hX, hbl, hlocks, hgv⟩ := C0
  have hts : ∀ w ∈ tbg, w.before #[Value.ref b] s = true := fun w h => hts1 w (tb_lw h)
  obtain ⟨c0, i0, hk0⟩ := u_known (C := RZB) (T := TZB) (N := 2) (n := 2) hts inZB (hts _ mm_70)
  obtain ⟨c1, i1, hk1⟩ := u_known (C := RZP) (T := TZP) (N := 3) (n := 3) hts inZP (hts _ mm_32)
  obtain ⟨c2, i2, hk2⟩ := u_known (C := RZY) (T := TZY) (N := 2) (n := 2) hts inZY (hts _ mm_55)
  obtain ⟨c3, i3, hk3⟩ := u_known (C := RZS) (T := TZS) (N := 5) (n := 5) hts inZS (hts _ mm_88)
  obtain ⟨c4, i4, hk4⟩ := u_known (C := RZT) (T := TZT) (N := 3) (n := 3) hts inZT (hts _ mm_112)
  obtain ⟨c5, i5, hk5⟩ := u_known (C := RZQ) (T := TZQ) (N := 7) (n := 7) hts inZQ (hts _ mm_18)
  obtain ⟨c6, i6, hk6⟩ := u_known (C := RZM) (T := TZM) (N := 19) (n := 19) hts inZM (hts _ mm_610)
  have hQ : ∃ cc, s.vm.findClass RZQ = some cc := ⟨c5, hk5.2.1⟩
  obtain ⟨cI, hI1, hI2⟩ := ax_arr (hts _ mm_53)
  obtain ⟨cJ, hJ1, hJ2⟩ := ax_arr (hts _ mm_865)
  refine ⟨⟨va_Nw.of (w := Cond.methodLinkNest RZQ 41 yZB_init "TilePyramid") rfl (hts1 _ (lwi_tables_1_1 (List.mem_of_getElem? (i := 71) (by decide +kernel)))), va_Nw.of (w := Cond.methodLinkNest RZQ 57 yZT_init "TilePyramid") rfl (hts1 _ (lwi_tables_1_1 (List.mem_of_getElem? (i := 113) (by decide +kernel)))), va_Nw.of (w := Cond.methodLinkNest RZO 55 yZQ_isSample "TilePyramid") rfl (hts1 _ (lwi_tables_1_1 (List.mem_of_getElem? (i := 206) (by decide +kernel)))), va_Nw.of (w := Cond.methodLinkNest RZO 67 yZQ_bitsNeeded "TilePyramid") rfl (hts1 _ (lwi_tables_1_1 (List.mem_of_getElem? (i := 214) (by decide +kernel)))), va_Nw.of (w := Cond.castable "java/lang/IndexOutOfBoundsException" "java/lang/IndexOutOfBoundsException") rfl (hts1 _ (lwi_tables_1_2 (List.mem_of_getElem? (i := 4) (by decide +kernel)))), va_Nw.of (w := Cond.declares ⟨"java/lang/RuntimeException", "<init>", "()V"⟩) rfl (hts1 _ (lwi_tables_1_2 (List.mem_of_getElem? (i := 5) (by decide +kernel)))), va_Nw.of (w := Cond.declares ⟨"java/lang/RuntimeException", "<init>", "(Ljava/lang/String;)V"⟩) rfl (hts1 _ (lwi_tables_1_2 (List.mem_of_getElem? (i := 6) (by decide +kernel)))), va_Nw.of (w := Cond.declares ⟨"java/lang/Exception", "<init>", "()V"⟩) rfl (hts1 _ (lwi_tables_1_2 (List.mem_of_getElem? (i := 7) (by decide +kernel)))), va_Nw.of (w := Cond.declares ⟨"java/lang/Exception", "<init>", "(Ljava/lang/String;)V"⟩) rfl (hts1 _ (lwi_tables_1_2 (List.mem_of_getElem? (i := 8) (by decide +kernel)))), va_Nw.of (w := Cond.declares ⟨"java/lang/Throwable", "<init>", "()V"⟩) rfl (hts1 _ (lwi_tables_1_2 (List.mem_of_getElem? (i := 9) (by decide +kernel)))), va_Nw.of (w := Cond.declares ⟨"java/lang/Throwable", "<init>", "(Ljava/lang/String;)V"⟩) rfl (hts1 _ (lwi_tables_1_2 (List.mem_of_getElem? (i := 10) (by decide +kernel)))), lx_str (own := RZQ) (k := 227) (tx := "no such place") hQ (hts1 _ (lwi_tables_1_2 (List.mem_of_getElem? (i := 43) (by decide +kernel)))), va_Nw.of (w := Cond.castable "java/lang/IllegalArgumentException" "java/lang/IllegalArgumentException") rfl (hts1 _ (lwi_tables_1_2 (List.mem_of_getElem? (i := 76) (by decide +kernel)))), lx_str (own := RZQ) (k := 233) (tx := "no sample") hQ (hts1 _ (lwi_tables_1_2 (List.mem_of_getElem? (i := 83) (by decide +kernel)))), va_Nw.of (w := Cond.methodLinkNest RZY 33 yZQ_isWithin "TilePyramid") rfl (hts1 _ (lwi_tables_1_2 (List.mem_of_getElem? (i := 117) (by decide +kernel)))), va_Nw.of (w := Cond.methodLinkNest RZK 41 yZQ_bitsNeeded "TilePyramid") rfl (hts1 _ (lwi_tables_1_3 (List.mem_of_getElem? (i := 21) (by decide +kernel)))), va_Nw.of (w := Cond.castable "java/lang/IllegalStateException" "java/lang/IllegalStateException") rfl (hts1 _ (lwi_tables_1_3 (List.mem_of_getElem? (i := 34) (by decide +kernel)))), lx_str (own := RZQ) (k := 159) (tx := "the buffer is full") hQ (hts1 _ (lwi_tables_1_3 (List.mem_of_getElem? (i := 41) (by decide +kernel)))), lx_str (own := RZQ) (k := 166) (tx := "no byte") hQ (hts1 _ (lwi_tables_1_3 (List.mem_of_getElem? (i := 48) (by decide +kernel)))), lx_str (own := RZQ) (k := 176) (tx := "no mask") hQ (hts1 _ (lwi_tables_1_3 (List.mem_of_getElem? (i := 64) (by decide +kernel)))), lx_str (own := RZQ) (k := 195) (tx := "no tile was opened") hQ (hts1 _ (lwi_tables_1_3 (List.mem_of_getElem? (i := 79) (by decide +kernel)))), lx_str (own := RZQ) (k := 209) (tx := "no such overlap") hQ (hts1 _ (lwi_tables_1_3 (List.mem_of_getElem? (i := 102) (by decide +kernel)))), va_Nc.of (flat_of_before _ hgv (Cond.not (.castable "java/lang/IllegalArgumentException" "java/lang/IndexOutOfBoundsException")) (by decide +kernel)), va_Nc.of (flat_of_before _ hgv (Cond.not (.castable "java/lang/IllegalArgumentException" "java/lang/IllegalStateException")) (by decide +kernel)), va_Nc.of (flat_of_before _ hgv (Cond.not (.castable "java/lang/IllegalStateException" "java/lang/IndexOutOfBoundsException")) (by decide +kernel))⟩, ⟨fun _ _ h => h, sx_1.of (hts1 _ (lwi_tables_1_2 (List.mem_of_getElem? (i := 29) (by decide +kernel)))) (flat_of_before _ hgv (Cond.isRef (.static Bundle.tN "UNASSIGNED_STACK" Bundle.steD)) (by decide +kernel)), sx_1.of (hts1 _ (lwi_tables_1_2 (List.mem_of_getElem? (i := 31) (by decide +kernel)))) (flat_of_before _ hgv (Cond.isRef (.static Bundle.tN "SUPPRESSED_SENTINEL" Bundle.listD)) (by decide +kernel))⟩, ?_⟩
  refine ⟨fun k => if k = 0 then c0 else if k = 1 then c1 else if k = 2 then c2 else if k = 3 then c3 else if k = 4 then c4 else if k = 5 then c5 else c6, fun k => if k = 0 then i0 else if k = 1 then i1 else if k = 2 then i2 else if k = 3 then i3 else if k = 4 then i4 else if k = 5 then i5 else i6, cI, cJ, ?_, ?_⟩
  · intro k q hq
    match k, hq with
    | 0, hq => cases hq; exact hk0
    | 1, hq => cases hq; exact hk1
    | 2, hq => cases hq; exact hk2
    | 3, hq => cases hq; exact hk3
    | 4, hq => cases hq; exact hk4
    | 5, hq => cases hq; exact hk5
    | 6, hq => cases hq; exact hk6
    | k + 7, hq => simp [vwCl] at hq
  · intro k q hq
    match k, hq with
    | 0, hq => cases hq; exact ⟨hI1, hI2⟩
    | 1, hq => cases hq; exact ⟨hJ1, hJ2⟩
    | k + 2, hq => simp at hq
