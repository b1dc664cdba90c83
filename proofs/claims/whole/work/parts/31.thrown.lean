section TXF
variable {e : Env} {f : JFrame} {q : Addr} {ce : Cell} {d : Bool} {acts : List Action} {Q : Handler → Pre} {E : CtlPost}
/-- one row of a table that lies over the place: its class is looked up (that is noted), and the row takes the object or passes it on -/
theorem tx_row {U : State} {y : ExceptionTableEntry} {t : List ExceptionTableEntry} {k : ClassId} (hy : covers y f.pc = true) (h0 : y.catchType ≠ 0) (hl : U.vm.ClassLinks e.platform f.method.cls y.catchType k) (hce : U.heap[q]? = some ce) (hcv : ce.vm = .none) (hk : ∃ z, U.vm.classes[ce.cls]? = some z) :
    wp (findHandler.go f q (y :: t)) Q E e d acts U ↔ (if U.vm.assignable ce.cls k = true then Q (.found y.handlerPc) d acts (U.setVm (U.vm.noted f.method.cls y.catchType (.cls k))) else wp (findHandler.go f q t) Q E e d acts (U.setVm (U.vm.noted f.method.cls y.catchType (.cls k)))) := by
  have al : U.vm.Alike (U.vm.noted f.method.cls y.catchType (.cls k)) := Vm.Alike.noted (Vm.Alike.refl _) _ _ _
  obtain ⟨g1, g2⟩ := (resolveClass_links e.toSetting hl).op (op := VmOp.resolveClass f.method.cls y.catchType) rfl
  obtain ⟨z1, e1⟩ := hk
  obtain ⟨-, -, -, z2, -, -, -, -, -, e2, -, -⟩ := hl.here
  obtain ⟨w1, f1, -⟩ := al.2.2 _ _ e1
  obtain ⟨w2, f2, -⟩ := al.2.2 _ _ e2
  have ea := al.assignable ce.cls k
  simp only [covers] at hy
  cases hq : U.vm.assignable ce.cls k
  · rw [hq] at ea
    simp [findHandler.go, hy, h0, g1, g2, hce, hcv, f1, f2, ea, VmOp.dirties, VmOp.acts]
  · rw [hq] at ea
    simp [findHandler.go, hy, h0, g1, g2, hce, hcv, f1, f2, ea, VmOp.dirties, VmOp.acts]
/-- what a row with a class of its own says of a thrown object: its class, and whether it takes the object -/
def tx_R (e : Env) (s : State) (f : JFrame) (cl : ClassId) (b : Bool) (y : ExceptionTableEntry) : Prop := y.catchType ≠ 0 ∧ ∃ k, s.vm.ClassLinks e.platform f.method.cls y.catchType k ∧ s.vm.assignable cl k = b
/-- the same row, in tables that have been noted since -/
theorem tx_Row {s U : State} {t : List ExceptionTableEntry} {y : ExceptionTableEntry} {b : Bool} (hW : s.WarmedH U.vm) (hR : tx_R e s f ce.cls b y) (hy : covers y f.pc = true) (hce : U.heap[q]? = some ce) (hcv : ce.vm = .none) (hk : ∃ z, s.vm.classes[ce.cls]? = some z) :
    ∃ v, s.WarmedH v ∧ ∀ (Q : Handler → Pre) (E : CtlPost) (d : Bool) (acts : List Action), wp (findHandler.go f q (y :: t)) Q E e d acts U ↔ (if b = true then Q (.found y.handlerPc) d acts (U.setVm v) else wp (findHandler.go f q t) Q E e d acts (U.setVm v)) := by
  obtain ⟨h0, k, hl, rfl⟩ := hR
  obtain ⟨z, hz⟩ := hk
  obtain ⟨z', hz', -⟩ := hW.alike.2.2 _ _ hz
  obtain ⟨_, _, _, _, hd, _, _, _, _, _, _, ho⟩ := hl.here
  refine ⟨_, hW.noted hd ho (State.rightAt_cls hl), fun Q E d acts => ?_⟩
  rw [tx_row hy h0 (hW.classLinks hl) hce hcv ⟨z', hz'⟩, hW.alike.assignable]
/-- the search through a table: rows that pass the object on, then one that takes it -/
theorem tx_find {s : State} (hcv : ce.vm = .none) (hk : ∃ z, s.vm.classes[ce.cls]? = some z) {x : ExceptionTableEntry} {suf : List ExceptionTableEntry} (hcov : covers x f.pc = true) (hx : tx_R e s f ce.cls true x) (pre : List ExceptionTableEntry) :
    ∀ U : State, s.WarmedH U.vm → U.heap[q]? = some ce → (∀ y ∈ pre, tx_R e s f ce.cls false y) → ∃ v, s.WarmedH v ∧ ∀ (Q : Handler → Pre) (E : CtlPost) (d : Bool) (acts : List Action), wp (findHandler.go f q (pre ++ x :: suf)) Q E e d acts U ↔ Q (.found x.handlerPc) d acts (U.setVm v) := by
  induction pre with
  | nil =>
    intro U hW hce _
    obtain ⟨v, hv, hs⟩ := tx_Row (t := suf) hW hx hcov hce hcv hk
    exact ⟨v, hv, fun Q E d acts => (hs Q E d acts).trans (by rw [if_pos rfl])⟩
  | cons y ys ih =>
    intro U hW hce hp
    have hp' : ∀ z ∈ ys, tx_R e s f ce.cls false z := fun z hz => hp z (List.mem_cons_of_mem _ hz)
    cases hy : covers y f.pc with
    | false =>
      obtain ⟨v, hv, hs⟩ := ih U hW hce hp'
      exact ⟨v, hv, fun Q E d acts => (W.findHandler_go_skip hy).trans (hs Q E d acts)⟩
    | true =>
      obtain ⟨u, hu, hs1⟩ := tx_Row (t := ys ++ x :: suf) hW (hp y (List.mem_cons_self ..)) hy hce hcv hk
      obtain ⟨v, hv, hs⟩ := ih (U.setVm u) hu hce hp'
      exact ⟨v, hv, fun Q E d acts => ((hs1 Q E d acts).trans (by rw [if_neg Bool.false_ne_true])).trans (hs Q E d acts)⟩
/-- an exception over a frame whose method's table takes it: the frame goes on at the handler -/
theorem tx_caught {p : Program} {l : Launch} {R : Room} {s : State} {m : MethodId} {args : Array Value} {below : List Frame} {meth : Method} {c : Code} {locs : List Loc} {cells slots : Nat} {V : State} (X : Stand p l e R s m args below meth c V locs cells slots) (hg : f.method = m) (hce : V.heap[q]? = some ce) (hcv : ce.vm = .none) (hk : ∃ z, s.vm.classes[ce.cls]? = some z)
    (pre : List ExceptionTableEntry) (x : ExceptionTableEntry) (suf : List ExceptionTableEntry) (hsplit : c.exceptionTable.toList = pre ++ x :: suf) (hpass : ∀ y ∈ pre, tx_R e s f ce.cls false y) (hcov : covers x f.pc = true) (hx : tx_R e s f ce.cls true x) :
    ∃ v, Stand p l e R s m args below meth c (V.setVm v) locs cells slots ∧ Steps p.tables e below ((V.setTop f).pushFrame (.throwing q)) ((V.setVm v).setTop { f with pc := x.handlerPc, stack := [.ref q] }) := by
  have h : At V f.method c below := by rw [hg]; exact X.here
  have hvm := Stand.throwing_vm V f q
  obtain ⟨v, hv, hs⟩ := tx_find hcv hk (suf := suf) hcov hx pre ((V.setTop f).pushFrame (.throwing q)) (by rw [hvm]; exact X.warmed) (by rw [Stand.throwing_heap]; exact hce) hpass
  refine ⟨v, X.noted hv, ?_⟩
  obtain ⟨hgo, hw⟩ := h.throwing q
  obtain ⟨g0, hg0⟩ := Option.isSome_iff_exists.mp h.top
  obtain ⟨r, hr⟩ := State.topJava?_eq_some.mp hg0
  have hfind : ∀ (Q : Handler → Pre) (E : CtlPost) (d : Bool) (acts : List Action), wp (findHandler f q) Q E e d acts ((V.setTop f).pushFrame (.throwing q)) ↔ Q (.found x.handlerPc) d acts (((V.setTop f).pushFrame (.throwing q)).setVm v) := by
    intro Q E d acts
    rw [W.findHandler_eq (meth := meth) (code := c) (by rw [hvm, hg]; exact X.method') X.code, hsplit]
    exact hs Q E d acts
  have hstep : (stepThrowing e ((V.setTop f).pushFrame (.throwing q)) q (.java f :: r)).1 = (((V.setTop f).pushFrame (.throwing q)).setVm v).setFrames (.java { f with pc := x.handlerPc, stack := [.ref q] } :: r) := by
    simp only [stepThrowing, searchFrame, vmDo]
    generalize hres : Sem.go _ e false [] _ = res
    obtain ⟨-, rfl, -⟩ := Sem.eq_ok_of hres (a := Handler.found x.handlerPc) (s' := ((V.setTop f).pushFrame (.throwing q)).setVm v) (acts' := []) (by simp [hfind])
    rfl
  refine Steps.head hgo hw ?_
  rw [stepThread_throwing (frames_entered h.top _), hr]
  show Steps p.tables e below (stepThrowing e ((V.setTop f).pushFrame (.throwing q)) q (.java f :: r)).1 _
  rw [hstep, State.pushFrame, State.setTop_of_frames _ hr, State.setTop_of_frames (s := V.setVm v) _ hr, State.setFrames_setFrames, State.setFrames_setVm, State.setFrames_setFrames]
  exact Steps.refl _
end TXF
section TXC
variable {p : Program} {l : Launch} {e : Env} {R : Room} {s : State} {m : MethodId} {args : Array Value} {below : List Frame} {meth : Method} {c : Code} {locs : List Loc} {cells slots : Nat}
variable {y : MethodName} {bytes cc : ByteArray} {maxL nL n index : Nat} {ret : Option FieldType} {ws : List Cond} {rm : Room} {Pc : Array Value → State → Prop} {E own C : String} {Ts : List Cond} {As rest : List Value} {ls : Array Slot} {pc : Nat}
/-- what a call of a method that throws comes to: the exception over the caller's frame, old cells as they were -/
theorem tx_come {U : State} {g : JFrame} {ig : Instr} {mk : MethodId} {a : Array Value} (X : Stand p l e R s m args below meth c U locs cells slots) (hg : g.method = m) (hsize : g.locals.size = c.maxLocals) (hdg : decode c.code g.pc = .ok (ig, 3))
    (hW8 : 2 * g.monitorRoom + (g.stack.map fun v => v.category).sum ≤ 8) (hn : U.methodNamed? y = some mk) (hM : tx_Met l y ws rm Pc E) (cb : CallB R s args own index y bytes maxL ret ws rm 1 6 n) (hPc : Pc a (U.calling g mk a)) (hf : cells + 1 ≤ R.cells ∧ slots + 6 ≤ R.slots) :
    ∃ (q : Addr) (ce : Cell) (V : State), Stand p l e R s m args below meth c V locs (cells + 1) (slots + 6) ∧ U.heap.size ≤ V.heap.size ∧ (∀ x : Nat, x < U.heap.size → V.heap[x]? = U.heap[x]?) ∧ V.heap[q]? = some ce ∧ ce.vm = .none ∧ s.vm.findClass E = some ce.cls ∧
      Steps p.tables e below (doInvoke e (U.setTop g) [] mk a).1 ((V.setTop g).pushFrame (.throwing q)) := by
  obtain ⟨hrc, hrs, hfr, hlo, hws, hcw, -, hini, -⟩ := cb
  have hini' : (Cond.initialized y.cls).before a U = true := word_at X.warmed (Or.inl (by first | rfl | simp [Cond.onTables, Cond.keeps, Cond.steady])) hini
  have hpre : (headSpec ws rm).pre.before a U = true := atoms_intro fun w hw => hws w hw _ _ X.warmed
  obtain ⟨methY, cY, hmY, hcY, -, hlY, -, -, -, -⟩ := Cond.code_spec hn (hws _ hcw a U X.warmed)
  obtain ⟨kY, hkY, -⟩ := className_of_methodNamed hn
  have h : At U g.method c below := by rw [hg]; exact X.here
  have hroom : (U.calling g mk a).hasRoom e.platform (headSpec ws rm).room = true :=
    X.room_calling (R' := (headSpec ws rm).room) hsize hmY hcY hfr (by rw [hlY]; show _ + _ + rm.locals ≤ _; omega) (by show cells + rm.cells ≤ _; omega) (by show slots + rm.slots ≤ _; omega)
  have happ : (headSpec ws rm).appliesLoose y e.platform (U.calling g mk a) = true :=
    Spec.appliesLoose_calling (g := g) h hdg hn hkY (Cond.initialized_spec (findClass_of_methodNamed hn) hkY hini') hroom hpre
  obtain ⟨mid, hmid⟩ := h.above
  have hfrm : (U.setTop g).frames = (.java g :: mid) ++ below := by rw [State.frames_setTop' g h.top, hmid]; rfl
  obtain ⟨o, t, hst, -, hend, hq⟩ := Steps.callFree hM p X.admits X.cas X.clock (acts := []) hfrm happ hPc trivial
  have hq : tx_Q E a (U.calling g mk a) o t := hq
  obtain ⟨q, ce, rfl, hce, hcv, hcl, hW, hsm⟩ := hq
  rw [State.frames_setTop' g h.top] at hend
  have hend : t.frames = .throwing q :: .java g :: U.frames.tail := hend
  have hWU : U.WarmedH t.vm := hW
  obtain ⟨g0, hg0⟩ := Option.isSome_iff_exists.mp h.top
  obtain ⟨r, hr⟩ := State.topJava?_eq_some.mp hg0
  obtain ⟨V, hV⟩ : ∃ z : State, z = ({ U with heap := t.heap, slotsUsed := t.slotsUsed } : State).setVm t.vm := ⟨_, rfl⟩
  have hVf : V.frames = .java g0 :: r := by rw [hV]; exact hr
  have hVh : V.heap = t.heap := by rw [hV]; rfl
  have hback : t = (V.setTop g).pushFrame (.throwing q) := by
    have k1 : t = ({ t with vm := (U.calling g mk a).vm } : State).setVm t.vm := rfl
    rw [hsm.1] at k1
    have k2 : t = ({ (U.calling g mk a).setFrames t.frames with heap := t.heap, slotsUsed := t.slotsUsed } : State).setVm t.vm := k1
    rw [k2.trans (by rw [hend, State.calling_eq h.top, State.setFrames_setFrames]), State.pushFrame, State.frames_setTop _ hVf, State.setTop_of_frames _ hVf, State.setFrames_setFrames, hV, hr]
    rfl
  have hsame : U.sameButNew ({ U with heap := t.heap, slotsUsed := t.slotsUsed } : State) [] 1 6 := by
    obtain ⟨-, q2, q3, q4, q5, q6⟩ := hsm
    obtain ⟨th, hth, -⟩ := State.frames_cons hr
    refine ⟨?_, q2, q3, q4, q5, q6⟩
    show ({ U with heap := t.heap, slotsUsed := t.slotsUsed } : State) = { U.setFrames U.frames with heap := t.heap, slotsUsed := t.slotsUsed }
    rw [State.setFrames_self hth]
  have hst2 : s.sameButNew (V.setVm s.vm) locs (cells + 1) (slots + 6) := by
    have k := X.same.trans (hsame.setVm s.vm)
    rw [List.append_nil] at k
    rw [hV]; exact k
  have XV : Stand p l e R s m args below meth c V locs (cells + 1) (slots + 6) := by
    rw [hV] at hst2 ⊢
    rw [hg] at h
    exact ⟨X.admits, X.cas, X.clock, X.frames, X.room, X.hears, X.method, X.code, (X.here.setHeapUsed t.heap t.slotsUsed).setVm hWU.alike, X.tail, State.WarmedH.trans X.warmed hWU, X.limits, X.bytes, hst2⟩
  refine ⟨q, ce, V, XV, ?_, ?_, by rw [hVh]; exact hce, hcv, ?_, ?_⟩
  · rw [hVh]; exact hsm.2.1
  · intro x hx
    rw [hVh]
    have k := hsm.old_cell (a := x) (c := U.heap[x]) (Array.getElem?_eq_getElem hx)
    have k : t.heap[x]? = some U.heap[x] := k
    rw [k, Array.getElem?_eq_getElem hx]
  · have k : U.vm.findClass E = some ce.cls := hcl
    rw [X.warmed.alike.findClass] at k
    exact k
  · rw [← hback]; exact hst
/-- a static call that throws, not caught here -/
theorem tx_callS (S : CallFix p m c cc nL s args Ts own) (hM : tx_Met l y ws rm Pc E) (cw : CallB R s args own index y bytes maxL ret ws rm 1 6 n ∧ (Cond.static y).before args s = true) (hp : PreS s s.heap Pc As) (hn : As.length = n) (hsize : ls.size = nL)
    {st0 : List Value} (hst : st0 = As.reverse ++ rest) (hW8 : (rest.map fun v => v.category).sum ≤ 8) (hdg : decode cc pc = .ok (.invokestatic index, 3)) (hno : ∀ x ∈ c.exceptionTable.toList, False) (hlocks : meth.locks = false) (hR : 1 ≤ R.cells ∧ 6 ≤ R.slots) :
    W p l e R s m args below meth c s.heap [] 0 0 (tx_Z below E args s) (F0 m pc ls st0) := by
  intro T hT X
  obtain ⟨hx, hb, hml, ho, -⟩ := S
  obtain ⟨cb, hstat⟩ := id cw
  obtain ⟨-, -, -, -, -, -, hcode, hini, hy, hlen, hl⟩ := cb
  obtain ⟨mk, hnamed⟩ := Cond.code_named hcode
  obtain ⟨methM, cM, hmM, -, -, -, -, -, -, hsigM⟩ := Cond.code_spec hnamed hcode
  obtain ⟨kP, hkP, -⟩ := className_of_methodNamed hnamed
  obtain ⟨vm₁, X1, hs1⟩ := X.invokestatic hx ho hl hnamed hmM (Cond.static_spec hnamed hmM hstat) hkP (Cond.initialized_spec (findClass_of_methodNamed hnamed) hkP hini) hy (g := F0 m pc ls st0) rfl (argsL := As) (rest := rest) (by rw [hn]; exact hlen _ hsigM) hst (by rw [hb]; exact hdg)
  obtain ⟨q, ce, V, XV, -, -, hce, hcv, hcl, hst2⟩ := tx_come X1 (g := F0 m pc ls rest) rfl (by rw [hml]; exact hsize) (by rw [hb]; exact hdg) (lv_room hW8) (X1.named hnamed) hM cw.1 (hp.1 _ _ _ _ (hp.2 (T.setVm vm₁) hT X1.warmed)) (by omega)
  obtain ⟨hs2, hrun, hend, hWs, hsm⟩ := XV.leaveThrown q (g := F0 m pc ls rest) rfl rfl rfl (fun x hx => (hno x hx).elim) hlocks
  refine ⟨V.setFrames (.throwing q :: below), ?_, .threw q, hrun, hend, q, ce, rfl, hce, hcv, hcl, hWs, hsm⟩
  refine hs1 _ fun acts => ?_
  rw [doInvoke_state]
  exact hst2.trans hs2
/-- a call of an object's method that throws, caught here -/
theorem tx_catchV {b : Addr} {H : Heap} {Q : State → Prop} {name : String} (S : CallFix p m c cc nL s args Ts own) (hM : tx_Met l y ws rm Pc E) (cw : CallW R s args own C index y bytes maxL ret ws rm 1 6 n) (hp : PreV s H C b Pc As) (hn : As.length = n) (hsize : ls.size = nL)
    {st0 : List Value} (hst : st0 = As.reverse ++ .ref b :: rest) (hW8 : (rest.map fun v => v.category).sum ≤ 8) (hdg : decode cc pc = .ok (.invokevirtual index, 3)) (hR : cells + 1 ≤ R.cells ∧ slots + 6 ≤ R.slots)
    (pre : List ExceptionTableEntry) (x : ExceptionTableEntry) (suf : List ExceptionTableEntry) (hsplit : c.exceptionTable.toList = pre ++ x :: suf)
    (hpass : ∀ z ∈ pre, z.catchType ≠ 0 ∧ ∃ nm : String, (Cond.classLink own z.catchType nm).before args s = true ∧ va_Nc E nm s) (hcov : covers x pc = true) (h0 : x.catchType ≠ 0)
    (hlink : (Cond.classLink own x.catchType name).before args s = true) (hcast : (Cond.castable E name).before args s = true)
    (kk : ∀ (q : Addr) (H1 : Heap), H.size ≤ H1.size → (∀ z : Nat, z < H.size → H1[z]? = H[z]?) → W p l e R s m args below meth c H1 locs (cells + 1) (slots + 6) Q (F0 m x.handlerPc ls [.ref q])) :
    W p l e R s m args below meth c H locs cells slots Q (F0 m pc ls st0) := by
  intro T hT X
  obtain ⟨hx, hb, hml, ho, -⟩ := S
  obtain ⟨cb, hin, hse⟩ := id cw
  obtain ⟨-, -, -, -, -, -, hcode, hini, hy, hlen, hl⟩ := cb
  obtain ⟨hbl, ⟨cellB, hcB, hoB, hclB⟩, hPc⟩ := hp
  obtain ⟨mk, methM, hnamed, hmM, hstM, habM⟩ := Cond.instanceMethod_spec hin
  obtain ⟨methM', cM, hmM', -, -, -, -, -, -, hsigM⟩ := Cond.code_spec hnamed hcode
  cases hmM.symm.trans hmM'
  obtain ⟨c2, r2, m2, q1, q2, q3, q4, kP, hkP, hkPi⟩ := Cond.selects_spec hse
  cases hclB.symm.trans q1
  cases (State.methodFound?_of_named hnamed hy).symm.trans q2
  cases hnamed.symm.trans q3
  have hsel : selectMethod e.platform s.vm cellB.cls mk = .method mk := by rw [Launch.admits_selectMethod X.admits]; exact q4
  obtain ⟨vm₁, X1, hs1⟩ := X.invokevirtual hx ho hl hnamed hmM hstM hkP hkPi hy (a := b) (cell := cellB) (by rw [hT]; exact hcB) (fun z h => by rw [h] at hoB; cases hoB) hsel hmM habM hkP hkPi (g := F0 m pc ls st0) rfl (argsL := As) (rest := rest) (by rw [hn]; exact hlen _ hsigM) hst (by rw [hb]; exact hdg)
  obtain ⟨q, ce, V, XV, hz, hk, hce, hcv, hcl, hst2⟩ := tx_come X1 (g := F0 m pc ls rest) rfl (by rw [hml]; exact hsize) (by rw [hb]; exact hdg) (lv_room hW8) (X1.named hnamed) hM cw.1 (hbl _ _ _ _ (hPc (T.setVm vm₁) hT X1.warmed)) hR
  have hpl : e.platform.magicAccessors = ({} : Platform).magicAccessors := by rw [X.admits.platform]
  obtain ⟨c3, c4, hc3, hc4, hasg⟩ := Cond.castable_spec hcast
  cases Option.some.inj (hc3.symm.trans hcl)
  obtain ⟨c5, hc5, hcl5⟩ := Cond.classLink_spec ho hlink e.platform hpl
  cases Option.some.inj (hc4.symm.trans hc5)
  obtain ⟨k9, hk9, -⟩ := Vm.findClass_spec hcl
  obtain ⟨vm2, X2, hs2⟩ := tx_caught (f := F0 m pc ls rest) XV rfl hce hcv ⟨k9, hk9⟩ pre x suf hsplit
    (fun z hz => by
      obtain ⟨hz0, nm, hl1, a8, b8, h1, h2, h3⟩ := hpass z hz
      obtain ⟨c6, hc6, hcl6⟩ := Cond.classLink_spec ho hl1 e.platform hpl
      cases Option.some.inj (h1.symm.trans hcl)
      cases Option.some.inj (h2.symm.trans hc6)
      exact ⟨hz0, _, hcl6, h3⟩) hcov ⟨h0, _, hcl5, hasg⟩
  have hT1 : (T.setVm vm₁).heap = H := hT
  rw [hT1] at hz hk
  obtain ⟨t, a1, b1⟩ := kk q V.heap hz hk (V.setVm vm2) rfl X2
  refine ⟨t, hs1 _ fun acts => ?_, b1⟩
  rw [doInvoke_state]
  exact (hst2.trans hs2).trans a1
end TXC
