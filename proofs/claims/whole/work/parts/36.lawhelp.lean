theorem tx_table {p : Program} {l : Launch} {y : MethodName} {S : Spec} {cc bytes : ByteArray} {maxL maxL' : Nat} {ret ret' : Option FieldType} {e : Env} {s s₁ : State} {m : MethodId} {args : Array Value} {below : List Frame} {meth : Method} {c : Code} {hh : List (Nat × Nat × Nat × Nat)}
    (B : BodyLoose p l y S cc maxL ret e s m args below meth c s₁) (h : (Cond.codeWith y bytes maxL' ret' hh).before args s = true) : c.exceptionTable.toList = tableOf hh := by
  obtain ⟨m9, meth9, c9, hn9, h1, h2, -, -, h6, -⟩ := Cond.codeWith_spec h
  cases Option.some.inj (B.named.symm.trans hn9)
  cases Option.some.inj (B.method.symm.trans h1)
  cases Option.some.inj ((Stand.of_body B).code.symm.trans h2)
  rw [← h6, table_eq]
/-- a static call of a method with a handler table that returns -/
theorem tx_runSW {p : Program} {l : Launch} {e : Env} {R : Room} {s : State} {m : MethodId} {args : Array Value} {below : List Frame} {meth : Method} {c : Code} {H : Heap} {locs : List Loc} {cells slots : Nat}
    {y : MethodName} {bytes cc : ByteArray} {maxL nL mc ms n index : Nat} {ret : Option FieldType} {hh : List (Nat × Nat × Nat × Nat)} {ws' : List Cond} {rm : Room} {Pc : Array Value → State → Prop} {Qc : Array Value → State → Outcome → State → Prop} {free : Addr → Prop} {own : String} {As rest : List Value} {g : JFrame}
    (S : CallFix p m c cc nL s args tbg own) (hM : Met l y (Cond.codeWith y bytes maxL ret hh :: ws') rm Pc Qc mc ms free) (hG : GoodIn tbg (Cond.codeWith y bytes maxL ret hh :: ws')) (hrc : rm.cells = mc) (hrs : rm.slots = ms) (hfr : rm.frames + 1 ≤ R.frames ∧ 8 + (maxL + 11) + rm.locals ≤ R.locals)
    (hini : (Cond.initialized y.cls).before args s = true) (hd : y.cls ≠ "java/lang/invoke/MethodHandle" ∧ y.cls ≠ "java/lang/invoke/VarHandle" ∧ (parseMethodDescriptor y.desc).map (fun d => d.parameters.length) = some n) (hl : (Cond.methodLink own index y).before args s = true) (hstat : (Cond.static y).before args s = true) (hp : PreS s H Pc As)
    (hg : g.method = m) (hn : As.length = n) (hsize : g.locals.size = nL) (hstack : g.stack = As.reverse ++ rest) (hW : 2 * g.monitorRoom + (rest.map fun v => v.category).sum ≤ 8) (hdg : decode cc g.pc = .ok (.invokestatic index, 3)) (hf : cells + mc ≤ R.cells ∧ slots + ms ≤ R.slots) :
    va_Run p l e R s m args below meth c H locs cells slots mc ms g rest (Qc As.toArray) free := by
  obtain ⟨hx, hb, hml, ho, hts⟩ := S
  have hws := pay_in hts hG
  have hK : Back l R p e below s args y 3 8 (PreOf R mc ms Pc) (PostOf Qc mc ms free) := va_backW (hh := hh) (bytes := bytes) (maxL := maxL) (ret := ret) hM hp.1 hrc hrs hfr.1 hfr.2 hws List.mem_cons_self (fun a' U hW => word_at hW (Or.inl (by first | rfl | simp [Cond.onTables, Cond.keeps, Cond.steady])) hini)
  intro T hT X
  obtain ⟨mk, methM, cM, hnamed, hmM, -, -, -, -, -, -, hsig⟩ := Cond.codeWith_spec (hws _ List.mem_cons_self args s (State.WarmedH.refl s))
  obtain ⟨kP, hkP, -⟩ := className_of_methodNamed hnamed
  have hlen : As.length = methM.sig.parameters.length := by
    have h9 := hd.2.2
    rw [hsig] at h9
    rw [hn]; exact (Option.some.inj h9).symm
  obtain ⟨vm₁, X1, hs1⟩ := X.invokestatic hx ho hl hnamed hmM (Cond.static_spec hnamed hmM hstat) hkP (Cond.initialized_spec (findClass_of_methodNamed hnamed) hkP hini) ⟨hd.1, hd.2.1⟩ hg (argsL := As) (rest := rest) hlen hstack (by rw [hb]; exact hdg)
  obtain ⟨v, ⟨U', l2, c2, s2⟩, X', ⟨g', mk', t, L, e1, e2, hq, h1, hL, h2, h3⟩, hst⟩ := hK m meth c ⟨T.setVm vm₁, locs, cells, slots⟩ { g with stack := rest } (.invokestatic index) mk As.toArray X1 hg (hsize.trans hml.symm) (by rw [hb]; exact hdg) hW (X1.named hnamed) ⟨hf.1, hf.2, hp.2 (T.setVm vm₁) hT X1.warmed⟩
  dsimp only [Pt.U, Pt.locs, Pt.cells, Pt.slots] at X' e1 e2 h1 h2 h3 hst
  subst h1; subst h2; subst h3
  exact ⟨v, (T.setVm vm₁).calling g' mk' As.toArray, t, U', L, hT, X', hL, e1, e2, hq, fun target h => hs1 _ fun acts => by rw [doInvoke_state]; exact hst.trans h⟩
def gl_Pc (H0 : Heap) (dC : Nat → ClassId) (dI : Nat → Nat → Nat) (tys : List (ClassId × FieldType)) (av : List Value) (ws : va_W) (sz : Nat) : Array Value → State → Prop := va_Pc av (fun U => U.heap.size = sz ∧ va_P (dC, dI) vwCl ws U.heap ∧ va_K (dC, dI) vwCl tys U ∧ gx_E U ∧ sx_T H0 U ∧ va_D (fun _ => True) ws)
def gc_Pc (b L : Nat) (xs : Nat → Int32) (av : List Value) : Array Value → State → Prop := va_Pc av (fun U => va_X b L xs U U.heap ∧ b < U.heap.size)
section GlRows
variable {H0 : Heap} {dC : Nat → ClassId} {dI : Nat → Nat → Nat} {tys : List (ClassId × FieldType)} {av : List Value} {ws : va_W} {sz : Nat} {H : Heap} {s U : State} {A : Nat → Prop} {b L : Nat} {xs : Nat → Int32}
theorem gl_blind : FrameBlind (gl_Pc H0 dC dI tys av ws sz) := fun a U g mk q => ⟨q.1, q.2.1, q.2.2.1, va_K.moved (u := U) (U := U.calling g mk a) (Vm.Alike.refl U.vm) q.2.2.2.1, gx_E.warm (s := U) (U := U.calling g mk a) (State.WarmedH.refl U) q.2.2.2.2.1, q.2.2.2.2.2.1.warm (U := U.calling g mk a) q.2.2.2.2.2.1.1 rfl (Vm.Alike.refl U.vm), q.2.2.2.2.2.2⟩
theorem gl_pre (hP : va_P (dC, dI) vwCl ws H) (hD : va_D A ws) (hK : va_K (dC, dI) vwCl tys s) (hE : gx_E s) (hT : sx_T H0 s) (ho : sx_Old H0 H) (hU : U.heap = H) (hW : s.WarmedH U.vm) : gl_Pc H0 dC dI tys av ws H.size av.toArray U := ⟨rfl, by rw [hU], by rw [hU]; exact hP, va_K.moved hW.alike hK, gx_E.warm hW hE, hT.warm ho hU hW.alike, hD.weaken (fun _ _ _ _ => trivial)⟩
theorem gc_blind : FrameBlind (gc_Pc b L xs av) := fun a U g mk q => ⟨q.1, va_X.moved (u := U) (U := U.calling g mk a) (Vm.Alike.refl U.vm) q.2.1, q.2.2⟩
theorem gc_pre (hX : va_X b L xs s H) (hb : b < H.size) (hU : U.heap = H) (hW : s.WarmedH U.vm) : gc_Pc b L xs av av.toArray U := ⟨rfl, by rw [hU]; exact va_X.moved hW.alike hX, by rw [hU]; exact hb⟩
end GlRows
theorem ax_arr {args : Array Value} {s : State} {ty : FieldType} (h : (Cond.arrayClass ty).before args s = true) : ∃ cA : ClassId, ArrOfT s cA ty ∧ s.vm.findClass ("[" ++ ty.toString) = some cA := by
  obtain ⟨cA, k, comp, h1, h2, h3⟩ := Cond.arrayClass_spec h
  exact ⟨cA, fun n z => ⟨fun k h => (by cases h), k, h2, comp, h3⟩, h1⟩
