/-! Methods that always throw where their word holds: nothing old is changed, one object is new. -/
/-- one of Throwable's two statics: it lies in the old heap H0, and holds null or a reference -/
def sx_1 (n d : String) (H0 : Heap) (U : State) : Prop := ∃ (c : ClassId) (k : Class) (i : Nat) (f : Field) (a : Addr) (cell : Cell) (v : Value), U.vm.findClass Bundle.tN = some c ∧ U.fieldFound? Bundle.tN n d = some (c, k, i, f) ∧ f.isStatic = true ∧ k.statics = some a ∧ H0[a]? = some cell ∧ cell.vm.isStatics = true ∧ cell.cls = c ∧ k.staticTypes[f.slot]? = some f.type ∧ cell.slots[f.slot]? = some v ∧ v.isRef = true
theorem sx_1.warm {n d : String} {H0 : Heap} {u U : State} (hvm : u.vm.Alike U.vm) (h : sx_1 n d H0 u) : sx_1 n d H0 U := by
  obtain ⟨c, k, i, f, a, cell, v, h1, h2, h3, h4, h5, h6, h7, h8, h9, h10⟩ := h
  obtain ⟨k', hi, he⟩ := State.fieldFound?_setVm hvm h2
  exact ⟨c, k', i, f, a, cell, v, by rw [hvm.findClass]; exact h1, hi, h3, by rw [he]; exact h4, h5, h6, h7, by rw [he]; exact h8, h9, h10⟩
theorem sx_1.of {args : Array Value} {s : State} {n d : String} (hl : (Cond.laysStatic Bundle.tN n d).before args s = true) (hr : (Cond.isRef (.static Bundle.tN n d)).before args s = true) : sx_1 n d s.heap s := by
  obtain ⟨c, k, i, f, a, cell, h1, h2, h3, h4, h5, h6, h7, h8, h9⟩ := Cond.laysStatic_spec hl
  cases hv : (Term.static Bundle.tN n d).eval args s none [] s with
  | none => simp [Cond.before, Cond.holds, Cond.value, hv] at hr
  | some v =>
    obtain ⟨-, a', cell', ha', hcell', -, hslot⟩ := Term.static_spec h2 hv
    cases h4.symm.trans ha'
    cases h5.symm.trans hcell'
    refine ⟨c, k, i, f, a, cell, v, h1, h2, h3, h4, h5, h6, h7, h9, hslot, ?_⟩
    simp only [Cond.before, Cond.holds, Cond.value, hv] at hr
    cases v <;> simp_all [Value.isRef]
def sx_Old (H0 H : Heap) : Prop := ∀ (q : Addr) (cell : Cell), H0[q]? = some cell → H[q]? = some cell
theorem sx_1.lays {n d : String} {H0 : Heap} {U : State} {args : Array Value} (h : sx_1 n d H0 U) (ho : sx_Old H0 U.heap) : (Cond.laysStatic Bundle.tN n d).before args U = true := by
  obtain ⟨c, k, i, f, a, cell, v, h1, h2, h3, h4, h5, h6, h7, h8, h9, h10⟩ := h
  exact Cond.laysStatic_of h1 h2 h3 h4 (ho a cell h5) h6 h7 (Array.getElem?_eq_some_iff.mp h9).1 h8
theorem sx_1.ref {n d : String} {H0 : Heap} {U : State} {args : Array Value} (h : sx_1 n d H0 U) (ho : sx_Old H0 U.heap) : (Cond.isRef (.static Bundle.tN n d)).before args U = true := by
  obtain ⟨c, k, i, f, a, cell, v, h1, h2, h3, h4, h5, h6, h7, h8, h9, h10⟩ := h
  have h5 := ho a cell h5
  have he : (Term.static Bundle.tN n d).eval args U none [] U = some v := by
    simp [Term.eval, State.fieldNamed?, h2, h3, h4, h5, h6, h9]
  simp only [Cond.before, Cond.holds, Cond.value, he]
  cases v <;> simp_all [Value.isRef]
def sx_T (H0 : Heap) (U : State) : Prop := sx_Old H0 U.heap ∧ sx_1 "UNASSIGNED_STACK" Bundle.steD H0 U ∧ sx_1 "SUPPRESSED_SENTINEL" Bundle.listD H0 U
theorem sx_T.warm {H0 : Heap} {s U : State} {H : Heap} (h : sx_T H0 s) (ho : sx_Old H0 H) (hU : U.heap = H) (hvm : s.vm.Alike U.vm) : sx_T H0 U := ⟨by rw [hU]; exact ho, h.2.1.warm hvm, h.2.2.warm hvm⟩
theorem sx_split {args : Array Value} {s : State} {L B : List Cond} (hts : ∀ w ∈ tbg, w.before args s = true) (h1 : ∀ w ∈ L.filter goodWord, w ∈ tbg) (h2 : ∀ w ∈ L.filter (fun w => !goodWord w), w ∈ B) (hB : ∀ w ∈ B, w.before args s = true) : ∀ w ∈ L, w.before args s = true := by
  intro w hw
  cases hg : goodWord w with
  | true => exact hts w (h1 w (List.mem_filter.mpr ⟨hw, hg⟩))
  | false => exact hB w (h2 w (List.mem_filter.mpr ⟨hw, by simp [hg]⟩))
theorem sx_cons {args : Array Value} {s : State} {w : Cond} {B : List Cond} (h : w.before args s = true) (t : ∀ x ∈ B, x.before args s = true) : ∀ x ∈ w :: B, x.before args s = true := fun x hx => (List.mem_cons.mp hx).elim (fun e => by rw [e]; exact h) (t x)
theorem sx_nil {args : Array Value} {s : State} : ∀ x ∈ ([] : List Cond), x.before args s = true := fun _ h => nomatch h
/-- the end of a method that throws an E -/
def tx_Q (E : String) : Array Value → State → Outcome → State → Prop := fun _ st o t => ∃ (q : Addr) (ce : Cell), o = .threw q ∧ t.heap[q]? = some ce ∧ ce.vm = .none ∧ st.vm.findClass E = some ce.cls ∧ st.WarmedH t.vm ∧ st.sameButNew ({ t with vm := st.vm } : State) [] 1 6
def tx_Met (l : Launch) (y : MethodName) (ws : List Cond) (rm : Room) (Pc : Array Value → State → Prop) (E : String) : Prop := MetFree l y (headSpec ws rm) Pc (fun _ _ _ _ _ => True) (tx_Q E)
def tx_Z (below : List Frame) (E : String) (a : Array Value) (s : State) : State → Prop := fun t => ∃ o, t.status = .running ∧ Ended t below o ∧ tx_Q E a s o t
theorem tx_ofW {l : Launch} {y : MethodName} {ws ws' : List Cond} {rm : Room} {Pc : Array Value → State → Prop} {E : String} {cc : ByteArray} {maxL : Nat} {ret : Option FieldType} (hy : plainName y.cls = true) (hw : ws = Cond.code y cc maxL ret :: ws')
    (body : ∀ p e s m args below meth c s₁, BodyLoose p l y (headSpec ws rm) cc maxL ret e s m args below meth c s₁ → c.maxLocals = maxL → (∀ x ∈ c.exceptionTable.toList, False) → Pc args s →
      W p l e (headSpec ws rm).room s m args below meth c s.heap [] 0 0 (tx_Z below E args s) (entryFrame m args maxL)) : tx_Met l y ws rm Pc E := by
  refine MetFree.of_bodyS (code := cc) (maxLocals := maxL) (ret := ret) hy ?_ ?_
  · intro args s m h hn
    obtain ⟨meth, c, h1, h2, h3, h4, h5, h6, -, -⟩ := Cond.code_spec hn (atoms_spec (ws := ws) h _ (by rw [hw]; exact List.mem_cons_self))
    exact ⟨meth, c, h1, h2, h3, h4, h5, h6⟩
  · intro p e s m args below meth c s₁ B hml hP _
    have hno : c.exceptionTable.isEmpty = true := B.noHandlers (atoms_spec (ws := ws) B.pre _ (by rw [hw]; exact List.mem_cons_self))
    have hno' : ∀ x ∈ c.exceptionTable.toList, False := by
      intro x hx
      rw [Array.isEmpty_iff.mp hno] at hx
      simp at hx
    have hh0 : s₁.heap = s.heap := by rw [B.state]; rfl
    obtain ⟨t, a1, o, b1, b2, b3⟩ := body p e s m args below meth c s₁ B hml hno' hP s₁ hh0 (Stand.of_body B)
    exact ⟨t, o, a1, b1, b2, b3⟩
section TXR
variable {p : Program} {l : Launch} {e : Env} {R : Room} {s : State} {m : MethodId} {args : Array Value} {below : List Frame} {meth : Method} {c : Code} {ls : Array Slot} {rest : List Value}
/-- throw new E("text") -/
theorem tx_throw {cc : ByteArray} {pc : Nat} (hexec : p.tables.exec = Jvm.exec) (hb : c.code = cc) (hl : l.stackTraces = false) {own cls text : String} {names : List String} {ik is ic sa : Nat}
    (hown : s.vm.findClass own = some m.cls) (hcls : Bundle.fit cls = true) (hnames : ∀ n ∈ names, Bundle.fit n = true)
    (hk : (Cond.classLink own ik cls).before args s = true) (hini : (Cond.initialized cls).before args s = true) (hins : (Cond.instantiable cls 6).before args s = true) (hstr : vk_R own is text sa s)
    (hat : ∀ w ∈ Bundle.ownAtoms own ic cls names, w.before args s = true) (hsize : ls.size = c.maxLocals)
    (d0 : decode cc pc = .ok (.new ik, 3)) (d3 : decode cc (pc + 3) = .ok (.dup, 1)) (d4 : decode cc (pc + 4) = .ok (.ldc is, 2)) (d6 : decode cc (pc + 6) = .ok (.invokespecial ic, 3)) (d9 : decode cc (pc + 9) = .ok (.athrow, 1))
    (hno : ∀ x ∈ c.exceptionTable.toList, False) (hRf : names.length + 3 < R.frames) (hRl : (rest.map fun v => v.category).sum + (13 * (names.length + 1) + 43) ≤ R.locals) (hRc : 1 ≤ R.cells) (hRs : 6 ≤ R.slots) (hlocks : meth.locks = false) :
    W p l e R s m args below meth c s.heap [] 0 0 (tx_Z below cls args s) (F0 m pc ls rest) := by
  intro T hT X
  have htr : e.platform.stackTraces = false := by
    have h1 : e.platform.stackTraces = l.stackTraces := by rw [X.admits.platform]
    rw [h1]; exact hl
  obtain ⟨vm₁, cX, kX, hfX, hkX, -, -, X1, st1⟩ := X.newCold hexec hown hk hins hini (g := F0 m pc ls rest) rfl (by rw [hb]; exact d0) (by omega) (by omega)
  have hcA : ((T.setVm vm₁).pushCell { cls := cX, slots := kX.instanceTypes.map defaultValue, vm := .none }).heap[T.heap.size]? = some (freshCell cX kX) := State.heap_pushCell_size _ _
  obtain ⟨T1, hT1⟩ : ∃ z, z = (T.setVm vm₁).pushCell { cls := cX, slots := kX.instanceTypes.map defaultValue, vm := .none } := ⟨_, rfl⟩
  rw [← hT1] at X1 st1 hcA
  have hcat : (Value.ref T.heap.size).category = 1 := rfl
  obtain ⟨U, hst, hrun, hend, hW, hsame, ce, hce, hO⟩ := X1.ctorThrowS hexec htr hown hcls hnames hat (fun x hx => nomatch hx) hfX hkX hcA (by rw [hT]; exact Nat.le_refl _) (msg := .ref sa) rfl
    (g := F0 m (pc + 6) ls (.ref sa :: .ref T.heap.size :: .ref T.heap.size :: rest)) rfl hsize rfl rfl (rest := rest) rfl (by rw [hb]; exact d6) (by rw [hb]; exact d9) (fun x hx => (hno x hx).elim) hRf
    (by simp only [List.map_cons, List.sum_cons, hcat]; show 2 * 0 + _ + _ ≤ _; omega) hlocks
  refine ⟨U, st1 _ ?_, .threw T.heap.size, hrun, hend, T.heap.size, ce, rfl, hce, hO.vm, hO.cls, hW, hsame⟩
  have d3' : decode c.code (pc + 3) = .ok (.dup, 1) := by rw [hb]; exact d3
  have d4' : decode c.code (pc + 4) = .ok (.ldc is, 2) := by rw [hb]; exact d4
  show Steps p.tables e below (T1.setTop (F0 m (pc + 3) ls (.ref T.heap.size :: rest))) U
  jvm_step X1.here [X1.here.top, hexec, d3', Value.category]
  exact X1.ldcString hexec hown hstr.1 hstr.2 (g := F0 m (pc + 4) ls (.ref T.heap.size :: .ref T.heap.size :: rest)) rfl d4' _ hst
end TXR
