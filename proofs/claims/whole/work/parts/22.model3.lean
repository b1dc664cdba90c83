theorem dZM_write_0 : decode cZM_write 0 = .ok (.aload_n 0, 1) := by decide +kernel
theorem dZM_write_1 : decode cZM_write 1 = .ok (.getfield 16, 3) := by decide +kernel
theorem dZM_write_4 : decode cZM_write 4 = .ok (.aload_n 0, 1) := by decide +kernel
theorem dZM_write_5 : decode cZM_write 5 = .ok (.getfield 101, 3) := by decide +kernel
theorem dZM_write_8 : decode cZM_write 8 = .ok (.iload_n 1, 1) := by decide +kernel
theorem dZM_write_9 : decode cZM_write 9 = .ok (.iastore, 1) := by decide +kernel
theorem dZM_write_10 : decode cZM_write 10 = .ok (.aload_n 0, 1) := by decide +kernel
theorem dZM_write_11 : decode cZM_write 11 = .ok (.dup, 1) := by decide +kernel
theorem dZM_write_12 : decode cZM_write 12 = .ok (.getfield 101, 3) := by decide +kernel
theorem dZM_write_15 : decode cZM_write 15 = .ok (.iconst 1, 1) := by decide +kernel
theorem dZM_write_16 : decode cZM_write 16 = .ok (.iadd, 1) := by decide +kernel
theorem dZM_write_17 : decode cZM_write 17 = .ok (.putfield 101, 3) := by decide +kernel
theorem dZM_write_20 : decode cZM_write 20 = .ok (.return_, 1) := by decide +kernel
abbrev wsZM_write : List Cond := .code yZM_write cZM_write 2 none :: tbg
def wp_ZM_write (zt : Int32) (zw : Int32) (zh : Int32) (zp : Nat → Int32) (zs : Nat → Int32) (zb : Nat → Int32) (zz : Int32) (zl : Nat → Int32) (zo : Nat → Int32) (zc : Int32) (zr : Int32) (zu : Int32) (zv : Int32) (zq : Int32) (zi : Int32) (zk : Nat → Int32) (zm : Nat → Int32) (zd : Int32) (zg : Nat → Int32) (a1 : Int32) (post : (Nat → Int32) → Int32 → Prop) : Prop := vp_in zz 256 ∧ (post (upd zb zz.toNatClampNeg a1) (zz + (1 : Int32)))
abbrev rm_ZM_write : Room := { frames := 0, cells := 0, slots := 0, locals := 0 }
set_option maxHeartbeats 4000000 in
set_option maxRecDepth 100000 in
theorem kt_ZM_write (l : Launch) (dC : Nat → ClassId) (dI : Nat → Nat → Nat) (cI : ClassId) (om ozp ozs ozb ozl ozo ozk ozm ozg : Nat) (sz : Nat) (zt : Int32) (zw : Int32) (zh : Int32) (zp : Nat → Int32) (zs : Nat → Int32) (zb : Nat → Int32) (zz : Int32) (zl : Nat → Int32) (zo : Nat → Int32) (zc : Int32) (zr : Int32) (zu : Int32) (zv : Int32) (zq : Int32) (zi : Int32) (zk : Nat → Int32) (zm : Nat → Int32) (zd : Int32) (zg : Nat → Int32) (a1 : Int32) (post : (Nat → Int32) → Int32 → Prop) (hw : wp_ZM_write zt zw zh zp zs zb zz zl zo zc zr zu zv zq zi zk zm zd zg a1 post) : Met l yZM_write wsZM_write rm_ZM_write (gw_Pc dC dI [(cI, .int)] [.ref om, .int a1] [(om, .inr (6, [.int zt, .int zw, .int zh, .ref ozp, .ref ozs, .ref ozb, .int zz, .ref ozl, .ref ozo, .int zc, .int zr, .int zu, .int zv, .int zq, .int zi, .ref ozk, .ref ozm, .int zd, .ref ozg])), (ozp, .inl (cI, 1600, .inl zp)), (ozs, .inl (cI, 320, .inl zs)), (ozb, .inl (cI, 256, .inl zb)), (ozl, .inl (cI, 64, .inl zl)), (ozo, .inl (cI, 64, .inl zo)), (ozk, .inl (cI, 320, .inl zk)), (ozm, .inl (cI, 40, .inl zm)), (ozg, .inl (cI, 64, .inl zg))] sz) (va_Qv (fun (u : (Nat → Int32) × Int32) => post u.1 u.2) (fun u t => gw_B dC dI [(cI, .int)] (va_A [(om, .inr (6, [.int zt, .int zw, .int zh, .ref ozp, .ref ozs, .ref ozb, .int zz, .ref ozl, .ref ozo, .int zc, .int zr, .int zu, .int zv, .int zq, .int zi, .ref ozk, .ref ozm, .int zd, .ref ozg])), (ozp, .inl (cI, 1600, .inl zp)), (ozs, .inl (cI, 320, .inl zs)), (ozb, .inl (cI, 256, .inl zb)), (ozl, .inl (cI, 64, .inl zl)), (ozo, .inl (cI, 64, .inl zo)), (ozk, .inl (cI, 320, .inl zk)), (ozm, .inl (cI, 40, .inl zm)), (ozg, .inl (cI, 64, .inl zg))] sz) [(om, .inr (6, [.int zt, .int zw, .int zh, .ref ozp, .ref ozs, .ref ozb, .int u.2, .ref ozl, .ref ozo, .int zc, .int zr, .int zu, .int zv, .int zq, .int zi, .ref ozk, .ref ozm, .int zd, .ref ozg])), (ozp, .inl (cI, 1600, .inl zp)), (ozs, .inl (cI, 320, .inl zs)), (ozb, .inl (cI, 256, .inl u.1)), (ozl, .inl (cI, 64, .inl zl)), (ozo, .inl (cI, 64, .inl zo)), (ozk, .inl (cI, 320, .inl zk)), (ozm, .inl (cI, 40, .inl zm)), (ozg, .inl (cI, 64, .inl zg))] t) (va_A [(om, .inr (6, [.int zt, .int zw, .int zh, .ref ozp, .ref ozs, .ref ozb, .int zz, .ref ozl, .ref ozo, .int zc, .int zr, .int zu, .int zv, .int zq, .int zi, .ref ozk, .ref ozm, .int zd, .ref ozg])), (ozp, .inl (cI, 1600, .inl zp)), (ozs, .inl (cI, 320, .inl zs)), (ozb, .inl (cI, 256, .inl zb)), (ozl, .inl (cI, 64, .inl zl)), (ozo, .inl (cI, 64, .inl zo)), (ozk, .inl (cI, 320, .inl zk)), (ozm, .inl (cI, 40, .inl zm)), (ozg, .inl (cI, 64, .inl zg))] sz)) 0 0 (va_A [(om, .inr (6, [.int zt, .int zw, .int zh, .ref ozp, .ref ozs, .ref ozb, .int zz, .ref ozl, .ref ozo, .int zc, .int zr, .int zu, .int zv, .int zq, .int zi, .ref ozk, .ref ozm, .int zd, .ref ozg])), (ozp, .inl (cI, 1600, .inl zp)), (ozs, .inl (cI, 320, .inl zs)), (ozb, .inl (cI, 256, .inl zb)), (ozl, .inl (cI, 64, .inl zl)), (ozo, .inl (cI, 64, .inl zo)), (ozk, .inl (cI, 320, .inl zk)), (ozm, .inl (cI, 40, .inl zm)), (ozg, .inl (cI, 64, .inl zg))] sz) := by
  refine Met.ofW (cc := cZM_write) (maxL := 2) (ret := none) (by decide) rfl ?_
  intro p e s m args below meth c s₁ B hml hv
  obtain ⟨ha9, hsz, hP, hK, hE, hD0⟩ := hv
  have hx := B.exec
  have hb := B.bytes
  have hr := B.returns
  have hts0 := atoms_spec (ws := wsZM_write) B.pre
  have hts : ∀ w ∈ tbg, w.before args s = true := fun w h => hts0 w (List.mem_cons_of_mem _ h)
  have hown : s.vm.findClass RZM = some m.cls := findClass_of_methodNamed B.named
  have hlocks := B.notSynchronized
  subst hsz
  have hD := hD0.self (sz := s.heap.size)
  refine gx_Q (fun Q9 hQ9 => ?_)
  generalize hAe : va_A [(om, .inr (6, [.int zt, .int zw, .int zh, .ref ozp, .ref ozs, .ref ozb, .int zz, .ref ozl, .ref ozo, .int zc, .int zr, .int zu, .int zv, .int zq, .int zi, .ref ozk, .ref ozm, .int zd, .ref ozg])), (ozp, .inl (cI, 1600, .inl zp)), (ozs, .inl (cI, 320, .inl zs)), (ozb, .inl (cI, 256, .inl zb)), (ozl, .inl (cI, 64, .inl zl)), (ozo, .inl (cI, 64, .inl zo)), (ozk, .inl (cI, 320, .inl zk)), (ozm, .inl (cI, 40, .inl zm)), (ozg, .inl (cI, 64, .inl zg))] s.heap.size = A at hD hQ9 ⊢
  have hA : ∀ q : Nat, s.heap.size ≤ q → A q := fun q h => by rw [← hAe]; exact Or.inr h
  have hS : va_S A s.heap s.heap [] := va_S.rf
  have hl := lv_entry ([.ref om, .int a1]) (n := 2) (Nat.le_of_ble_eq_true rfl)
  have he9 : entryFrame m args 2 = F0 m 0 ((lg_sl [.ref om, .int a1] ++ List.replicate (2 - (lg_sl ([.ref om, .int a1] : List Value)).length) Slot.unset).toArray) [] := by rw [ha9]; exact lg_entry_eq m [.ref om, .int a1] 2
  rw [he9]
  generalize (lg_sl ([.ref om, .int a1] : List Value) ++ List.replicate (2 - (lg_sl ([.ref om, .int a1] : List Value)).length) Slot.unset).toArray = ls at hl ⊢
  have hl : lv_has ls 2 [(0, .ref om), (1, .int a1)] := hl
  refine lv_aload_n hx hb dZM_write_0 rfl (lv_at hl 0 rfl) ?_
  refine va_get (D := (dC, dI)) (ci := 6) (v := .ref ozb) (C := RZM) (T := TZM) (N := 19) hx hb hts inZM hown hK hP 0 rfl rfl 5 (by decide) (hts _ mm_623) (fun _ h9 => h9) rfl dZM_write_1 ?_
  refine lv_aload_n hx hb dZM_write_4 rfl (lv_at hl 0 rfl) ?_
  refine va_get (D := (dC, dI)) (ci := 6) (v := .int zz) (C := RZM) (T := TZM) (N := 19) hx hb hts inZM hown hK hP 0 rfl rfl 6 (by decide) (hts _ mm_624) (fun _ h9 => h9) rfl dZM_write_5 ?_
  refine lv_iload_n hx hb dZM_write_8 rfl (lv_at hl 1 rfl) ?_
  obtain ⟨h_1, hw⟩ := hw
  refine va_iast hx hb hK hP hD hS 3 0 rfl rfl h_1 dZM_write_9 (fun H locs hP hD hS => ?_)
  have hP : va_P (dC, dI) vwCl [(om, .inr (6, [.int zt, .int zw, .int zh, .ref ozp, .ref ozs, .ref ozb, .int zz, .ref ozl, .ref ozo, .int zc, .int zr, .int zu, .int zv, .int zq, .int zi, .ref ozk, .ref ozm, .int zd, .ref ozg])), (ozp, .inl (cI, 1600, .inl zp)), (ozs, .inl (cI, 320, .inl zs)), (ozb, .inl (cI, 256, .inl (upd zb zz.toNatClampNeg a1))), (ozl, .inl (cI, 64, .inl zl)), (ozo, .inl (cI, 64, .inl zo)), (ozk, .inl (cI, 320, .inl zk)), (ozm, .inl (cI, 40, .inl zm)), (ozg, .inl (cI, 64, .inl zg))] H := hP
  have hD : va_D A [(om, .inr (6, [.int zt, .int zw, .int zh, .ref ozp, .ref ozs, .ref ozb, .int zz, .ref ozl, .ref ozo, .int zc, .int zr, .int zu, .int zv, .int zq, .int zi, .ref ozk, .ref ozm, .int zd, .ref ozg])), (ozp, .inl (cI, 1600, .inl zp)), (ozs, .inl (cI, 320, .inl zs)), (ozb, .inl (cI, 256, .inl (upd zb zz.toNatClampNeg a1))), (ozl, .inl (cI, 64, .inl zl)), (ozo, .inl (cI, 64, .inl zo)), (ozk, .inl (cI, 320, .inl zk)), (ozm, .inl (cI, 40, .inl zm)), (ozg, .inl (cI, 64, .inl zg))] := hD
  refine lv_aload_n hx hb dZM_write_10 rfl (lv_at hl 0 rfl) ?_
  refine lv_dup hx hb dZM_write_11 rfl ?_
  refine va_get (D := (dC, dI)) (ci := 6) (v := .int zz) (C := RZM) (T := TZM) (N := 19) hx hb hts inZM hown hK hP 0 rfl rfl 6 (by decide) (hts _ mm_624) (fun _ h9 => h9) rfl dZM_write_12 ?_
  refine lv_iconst (v := (1 : Int32)) hx hb dZM_write_15 (by decide) ?_
  refine lv_iadd hx hb dZM_write_16 ?_
  refine va_put (D := (dC, dI)) (ci := 6) (v := .int (zz + (1 : Int32))) (ty := .int) (C := RZM) (T := TZM) (N := 19) hx hb hts inZM tyZM tyZM_ok nmZM hown hK hP hD hS 0 rfl rfl 6 (by decide) (hts _ mm_624) (fun _ h9 => h9) rfl (by decide +kernel) rfl rfl (Nat.le_of_ble_eq_true rfl) dZM_write_17 (fun H locs hP hD hS => ?_)
  have hP : va_P (dC, dI) vwCl [(om, .inr (6, [.int zt, .int zw, .int zh, .ref ozp, .ref ozs, .ref ozb, .int (zz + (1 : Int32)), .ref ozl, .ref ozo, .int zc, .int zr, .int zu, .int zv, .int zq, .int zi, .ref ozk, .ref ozm, .int zd, .ref ozg])), (ozp, .inl (cI, 1600, .inl zp)), (ozs, .inl (cI, 320, .inl zs)), (ozb, .inl (cI, 256, .inl (upd zb zz.toNatClampNeg a1))), (ozl, .inl (cI, 64, .inl zl)), (ozo, .inl (cI, 64, .inl zo)), (ozk, .inl (cI, 320, .inl zk)), (ozm, .inl (cI, 40, .inl zm)), (ozg, .inl (cI, 64, .inl zg))] H := hP
  have hD : va_D A [(om, .inr (6, [.int zt, .int zw, .int zh, .ref ozp, .ref ozs, .ref ozb, .int (zz + (1 : Int32)), .ref ozl, .ref ozo, .int zc, .int zr, .int zu, .int zv, .int zq, .int zi, .ref ozk, .ref ozm, .int zd, .ref ozg])), (ozp, .inl (cI, 1600, .inl zp)), (ozs, .inl (cI, 320, .inl zs)), (ozb, .inl (cI, 256, .inl (upd zb zz.toNatClampNeg a1))), (ozl, .inl (cI, 64, .inl zl)), (ozo, .inl (cI, 64, .inl zo)), (ozk, .inl (cI, 320, .inl zk)), (ozm, .inl (cI, 40, .inl zm)), (ozg, .inl (cI, 64, .inl zg))] := hD
  have hP9 := hP.sub (ws' := [(om, .inr (6, [.int zt, .int zw, .int zh, .ref ozp, .ref ozs, .ref ozb, .int (zz + (1 : Int32)), .ref ozl, .ref ozo, .int zc, .int zr, .int zu, .int zv, .int zq, .int zi, .ref ozk, .ref ozm, .int zd, .ref ozg])), (ozp, .inl (cI, 1600, .inl zp)), (ozs, .inl (cI, 320, .inl zs)), (ozb, .inl (cI, 256, .inl (upd zb zz.toNatClampNeg a1))), (ozl, .inl (cI, 64, .inl zl)), (ozo, .inl (cI, 64, .inl zo)), (ozk, .inl (cI, 320, .inl zk)), (ozm, .inl (cI, 40, .inl zm)), (ozg, .inl (cI, 64, .inl zg))]) [0, 1, 2, 3, 4, 5, 6, 7, 8] rfl
  have hD9 := hD.sub (ws' := [(om, .inr (6, [.int zt, .int zw, .int zh, .ref ozp, .ref ozs, .ref ozb, .int (zz + (1 : Int32)), .ref ozl, .ref ozo, .int zc, .int zr, .int zu, .int zv, .int zq, .int zi, .ref ozk, .ref ozm, .int zd, .ref ozg])), (ozp, .inl (cI, 1600, .inl zp)), (ozs, .inl (cI, 320, .inl zs)), (ozb, .inl (cI, 256, .inl (upd zb zz.toNatClampNeg a1))), (ozl, .inl (cI, 64, .inl zl)), (ozo, .inl (cI, 64, .inl zo)), (ozk, .inl (cI, 320, .inl zk)), (ozm, .inl (cI, 40, .inl zm)), (ozg, .inl (cI, 64, .inl zg))]) [0, 1, 2, 3, 4, 5, 6, 7, 8] (by decide) rfl
  subst hQ9
  exact W.vret hx hb hr (fun t ht hW => ⟨⟨(upd zb zz.toNatClampNeg a1, zz + (1 : Int32)), rfl, hw, by rw [ht]; exact hP9, va_K.moved hW.alike hK, hD9⟩, hS.F ht⟩) hS.2.2 dZM_write_20
theorem dZM_writeRow_0 : decode cZM_writeRow 0 = .ok (.aload_n 0, 1) := by decide +kernel
theorem dZM_writeRow_1 : decode cZM_writeRow 1 = .ok (.getfield 31, 3) := by decide +kernel
theorem dZM_writeRow_4 : decode cZM_writeRow 4 = .ok (.iload_n 1, 1) := by decide +kernel
theorem dZM_writeRow_5 : decode cZM_writeRow 5 = .ok (.iload_n 2, 1) := by decide +kernel
theorem dZM_writeRow_6 : decode cZM_writeRow 6 = .ok (.invokestatic 129, 3) := by decide +kernel
theorem dZM_writeRow_9 : decode cZM_writeRow 9 = .ok (.istore_n 3, 1) := by decide +kernel
theorem dZM_writeRow_10 : decode cZM_writeRow 10 = .ok (.aload_n 0, 1) := by decide +kernel
theorem dZM_writeRow_11 : decode cZM_writeRow 11 = .ok (.iload_n 3, 1) := by decide +kernel
theorem dZM_writeRow_12 : decode cZM_writeRow 12 = .ok (.invokevirtual 118, 3) := by decide +kernel
theorem dZM_writeRow_15 : decode cZM_writeRow 15 = .ok (.aload_n 0, 1) := by decide +kernel
theorem dZM_writeRow_16 : decode cZM_writeRow 16 = .ok (.getfield 101, 3) := by decide +kernel
theorem dZM_writeRow_19 : decode cZM_writeRow 19 = .ok (.istore 4, 2) := by decide +kernel
theorem dZM_writeRow_21 : decode cZM_writeRow 21 = .ok (.iconst 0, 1) := by decide +kernel
theorem dZM_writeRow_22 : decode cZM_writeRow 22 = .ok (.istore 5, 2) := by decide +kernel
theorem dZM_writeRow_24 : decode cZM_writeRow 24 = .ok (.iload 5, 2) := by decide +kernel
theorem dZM_writeRow_26 : decode cZM_writeRow 26 = .ok (.iload_n 3, 1) := by decide +kernel
theorem dZM_writeRow_27 : decode cZM_writeRow 27 = .ok (.iload_n 2, 1) := by decide +kernel
theorem dZM_writeRow_28 : decode cZM_writeRow 28 = .ok (.imul, 1) := by decide +kernel
theorem dZM_writeRow_29 : decode cZM_writeRow 29 = .ok (.if_icmp .ge 71, 3) := by decide +kernel
theorem dZM_writeRow_32 : decode cZM_writeRow 32 = .ok (.iload 5, 2) := by decide +kernel
theorem dZM_writeRow_34 : decode cZM_writeRow 34 = .ok (.bipush 8, 2) := by decide +kernel
theorem dZM_writeRow_36 : decode cZM_writeRow 36 = .ok (.irem, 1) := by decide +kernel
theorem dZM_writeRow_37 : decode cZM_writeRow 37 = .ok (.ifCond .ne 8, 3) := by decide +kernel
theorem dZM_writeRow_40 : decode cZM_writeRow 40 = .ok (.aload_n 0, 1) := by decide +kernel
theorem dZM_writeRow_41 : decode cZM_writeRow 41 = .ok (.iconst 0, 1) := by decide +kernel
theorem dZM_writeRow_42 : decode cZM_writeRow 42 = .ok (.invokevirtual 118, 3) := by decide +kernel
theorem dZM_writeRow_45 : decode cZM_writeRow 45 = .ok (.aload_n 0, 1) := by decide +kernel
theorem dZM_writeRow_46 : decode cZM_writeRow 46 = .ok (.getfield 31, 3) := by decide +kernel
theorem dZM_writeRow_49 : decode cZM_writeRow 49 = .ok (.iload_n 1, 1) := by decide +kernel
theorem dZM_writeRow_50 : decode cZM_writeRow 50 = .ok (.iload_n 2, 1) := by decide +kernel
theorem dZM_writeRow_51 : decode cZM_writeRow 51 = .ok (.imul, 1) := by decide +kernel
theorem dZM_writeRow_52 : decode cZM_writeRow 52 = .ok (.iload 5, 2) := by decide +kernel
theorem dZM_writeRow_54 : decode cZM_writeRow 54 = .ok (.iload_n 3, 1) := by decide +kernel
theorem dZM_writeRow_55 : decode cZM_writeRow 55 = .ok (.idiv, 1) := by decide +kernel
theorem dZM_writeRow_56 : decode cZM_writeRow 56 = .ok (.iadd, 1) := by decide +kernel
theorem dZM_writeRow_57 : decode cZM_writeRow 57 = .ok (.iload_n 2, 1) := by decide +kernel
theorem dZM_writeRow_58 : decode cZM_writeRow 58 = .ok (.invokestatic 105, 3) := by decide +kernel
theorem dZM_writeRow_61 : decode cZM_writeRow 61 = .ok (.istore 6, 2) := by decide +kernel
theorem dZM_writeRow_63 : decode cZM_writeRow 63 = .ok (.aload_n 0, 1) := by decide +kernel
theorem dZM_writeRow_64 : decode cZM_writeRow 64 = .ok (.getfield 16, 3) := by decide +kernel
theorem dZM_writeRow_67 : decode cZM_writeRow 67 = .ok (.iload 4, 2) := by decide +kernel
theorem dZM_writeRow_69 : decode cZM_writeRow 69 = .ok (.iload 5, 2) := by decide +kernel
theorem dZM_writeRow_71 : decode cZM_writeRow 71 = .ok (.bipush 8, 2) := by decide +kernel
theorem dZM_writeRow_73 : decode cZM_writeRow 73 = .ok (.idiv, 1) := by decide +kernel
theorem dZM_writeRow_74 : decode cZM_writeRow 74 = .ok (.iadd, 1) := by decide +kernel
theorem dZM_writeRow_75 : decode cZM_writeRow 75 = .ok (.dup2, 1) := by decide +kernel
theorem dZM_writeRow_76 : decode cZM_writeRow 76 = .ok (.iaload, 1) := by decide +kernel
theorem dZM_writeRow_77 : decode cZM_writeRow 77 = .ok (.iload 6, 2) := by decide +kernel
theorem dZM_writeRow_79 : decode cZM_writeRow 79 = .ok (.iload 5, 2) := by decide +kernel
theorem dZM_writeRow_81 : decode cZM_writeRow 81 = .ok (.iload_n 3, 1) := by decide +kernel
theorem dZM_writeRow_82 : decode cZM_writeRow 82 = .ok (.irem, 1) := by decide +kernel
theorem dZM_writeRow_83 : decode cZM_writeRow 83 = .ok (.ishr, 1) := by decide +kernel
theorem dZM_writeRow_84 : decode cZM_writeRow 84 = .ok (.iconst 1, 1) := by decide +kernel
theorem dZM_writeRow_85 : decode cZM_writeRow 85 = .ok (.iand, 1) := by decide +kernel
theorem dZM_writeRow_86 : decode cZM_writeRow 86 = .ok (.iload 5, 2) := by decide +kernel
theorem dZM_writeRow_88 : decode cZM_writeRow 88 = .ok (.bipush 8, 2) := by decide +kernel
theorem dZM_writeRow_90 : decode cZM_writeRow 90 = .ok (.irem, 1) := by decide +kernel
theorem dZM_writeRow_91 : decode cZM_writeRow 91 = .ok (.ishl, 1) := by decide +kernel
theorem dZM_writeRow_92 : decode cZM_writeRow 92 = .ok (.ior, 1) := by decide +kernel
theorem dZM_writeRow_93 : decode cZM_writeRow 93 = .ok (.iastore, 1) := by decide +kernel
theorem dZM_writeRow_94 : decode cZM_writeRow 94 = .ok (.iinc 5 1, 3) := by decide +kernel
theorem dZM_writeRow_97 : decode cZM_writeRow 97 = .ok (.goto (-73), 3) := by decide +kernel
theorem dZM_writeRow_100 : decode cZM_writeRow 100 = .ok (.return_, 1) := by decide +kernel
abbrev wsZM_writeRow : List Cond := .code yZM_writeRow cZM_writeRow 7 none :: tbg
def lp_ZM_writeRow_24 (zt : Int32) (zw : Int32) (zh : Int32) (zp : Nat → Int32) (zs : Nat → Int32) (zb : Nat → Int32) (zz : Int32) (zl : Nat → Int32) (zo : Nat → Int32) (zc : Int32) (zr : Int32) (zu : Int32) (zv : Int32) (zq : Int32) (zi : Int32) (zk : Nat → Int32) (zm : Nat → Int32) (zd : Int32) (zg : Nat → Int32) (a1 : Int32) (a2 : Int32) (r_1 : Int32) (zb_2 : Nat → Int32) (zz_3 : Int32) (post : (Nat → Int32) → Int32 → Prop) (K24 : Int32 → Int32 → (Nat → Int32) → Prop) (n : Nat) : Int32 → Int32 → (Nat → Int32) → Prop := Nat.rec (motive := fun _ => Int32 → Int32 → (Nat → Int32) → Prop) (fun (x5_24 : Int32) (v6_24_om : Int32) (f_24_ozb : Nat → Int32) => False) (fun _ ih24 (x5_24 : Int32) (v6_24_om : Int32) (f_24_ozb : Nat → Int32) => (((r_1 * a2) ≤ x5_24 → (K24 x5_24 v6_24_om f_24_ozb)) ∧ (¬ (r_1 * a2) ≤ x5_24 → (∃ J45 : Int32 → (Nat → Int32) → Prop, (∀ (v6_j45_om : Int32) (f_j45_ozb : Nat → Int32), J45 v6_j45_om f_j45_ozb → ¬ r_1 = 0 ∧ (wp_ZM_told 64 zg ((a1 * a2) + (x5_24 / r_1)) a2 (fun r_6 : Int32 => vp_in (zz_3 + (x5_24 / (8 : Int32))) 256 ∧ (¬ r_1 = 0 ∧ (vp_in (zz_3 + (x5_24 / (8 : Int32))) 256 ∧ (ih24 (x5_24 + (1 : Int32)) v6_j45_om (upd f_j45_ozb (zz_3 + (x5_24 / (8 : Int32))).toNatClampNeg ((f_j45_ozb (zz_3 + (x5_24 / (8 : Int32))).toNatClampNeg) ||| (((r_6 >>> ((x5_24 - x5_24 / r_1 * r_1) &&& 31)) &&& (1 : Int32)) <<< ((x5_24 - x5_24 / (8 : Int32) * (8 : Int32)) &&& 31)))))))))) ∧ ((((x5_24 - x5_24 / (8 : Int32) * (8 : Int32)) = (0 : Int32) → (wp_ZM_write zt zw zh zp zs f_24_ozb v6_24_om zl zo zc zr zu zv zq zi zk zm zd zg (0 : Int32) (fun (zb_11 : Nat → Int32) (zz_12 : Int32) => J45 zz_12 zb_11))) ∧ (¬ (x5_24 - x5_24 / (8 : Int32) * (8 : Int32)) = (0 : Int32) → (J45 v6_24_om f_24_ozb)))))))) n
def wp_ZM_writeRow (zt : Int32) (zw : Int32) (zh : Int32) (zp : Nat → Int32) (zs : Nat → Int32) (zb : Nat → Int32) (zz : Int32) (zl : Nat → Int32) (zo : Nat → Int32) (zc : Int32) (zr : Int32) (zu : Int32) (zv : Int32) (zq : Int32) (zi : Int32) (zk : Nat → Int32) (zm : Nat → Int32) (zd : Int32) (zg : Nat → Int32) (a1 : Int32) (a2 : Int32) (post : (Nat → Int32) → Int32 → Prop) : Prop := wp_ZM_rowBits 64 zg a1 a2 (fun r_1 : Int32 => wp_ZM_write zt zw zh zp zs zb zz zl zo zc zr zu zv zq zi zk zm zd zg r_1 (fun (zb_2 : Nat → Int32) (zz_3 : Int32) => ∃ n : Nat, lp_ZM_writeRow_24 zt zw zh zp zs zb zz zl zo zc zr zu zv zq zi zk zm zd zg a1 a2 r_1 zb_2 zz_3 post (fun (x5_24e : Int32) (v6_24e_om : Int32) (f_24e_ozb : Nat → Int32) => post f_24e_ozb v6_24e_om) n (0 : Int32) zz_3 zb_2))
abbrev rm_ZM_writeRow : Room := { frames := 2, cells := 0, slots := 0, locals := 49 }
set_option maxHeartbeats 4000000 in
set_option maxRecDepth 100000 in
theorem kt_ZM_writeRow (l : Launch) (dC : Nat → ClassId) (dI : Nat → Nat → Nat) (cI : ClassId) (om ozp ozs ozb ozl ozo ozk ozm ozg : Nat) (sz : Nat) (zt : Int32) (zw : Int32) (zh : Int32) (zp : Nat → Int32) (zs : Nat → Int32) (zb : Nat → Int32) (zz : Int32) (zl : Nat → Int32) (zo : Nat → Int32) (zc : Int32) (zr : Int32) (zu : Int32) (zv : Int32) (zq : Int32) (zi : Int32) (zk : Nat → Int32) (zm : Nat → Int32) (zd : Int32) (zg : Nat → Int32) (a1 : Int32) (a2 : Int32) (post : (Nat → Int32) → Int32 → Prop) (hw : wp_ZM_writeRow zt zw zh zp zs zb zz zl zo zc zr zu zv zq zi zk zm zd zg a1 a2 post) : Met l yZM_writeRow wsZM_writeRow rm_ZM_writeRow (gw_Pc dC dI [(cI, .int)] [.ref om, .int a1, .int a2] [(om, .inr (6, [.int zt, .int zw, .int zh, .ref ozp, .ref ozs, .ref ozb, .int zz, .ref ozl, .ref ozo, .int zc, .int zr, .int zu, .int zv, .int zq, .int zi, .ref ozk, .ref ozm, .int zd, .ref ozg])), (ozp, .inl (cI, 1600, .inl zp)), (ozs, .inl (cI, 320, .inl zs)), (ozb, .inl (cI, 256, .inl zb)), (ozl, .inl (cI, 64, .inl zl)), (ozo, .inl (cI, 64, .inl zo)), (ozk, .inl (cI, 320, .inl zk)), (ozm, .inl (cI, 40, .inl zm)), (ozg, .inl (cI, 64, .inl zg))] sz) (va_Qv (fun (u : (Nat → Int32) × Int32) => post u.1 u.2) (fun u t => gw_B dC dI [(cI, .int)] (va_A [(om, .inr (6, [.int zt, .int zw, .int zh, .ref ozp, .ref ozs, .ref ozb, .int zz, .ref ozl, .ref ozo, .int zc, .int zr, .int zu, .int zv, .int zq, .int zi, .ref ozk, .ref ozm, .int zd, .ref ozg])), (ozp, .inl (cI, 1600, .inl zp)), (ozs, .inl (cI, 320, .inl zs)), (ozb, .inl (cI, 256, .inl zb)), (ozl, .inl (cI, 64, .inl zl)), (ozo, .inl (cI, 64, .inl zo)), (ozk, .inl (cI, 320, .inl zk)), (ozm, .inl (cI, 40, .inl zm)), (ozg, .inl (cI, 64, .inl zg))] sz) [(om, .inr (6, [.int zt, .int zw, .int zh, .ref ozp, .ref ozs, .ref ozb, .int u.2, .ref ozl, .ref ozo, .int zc, .int zr, .int zu, .int zv, .int zq, .int zi, .ref ozk, .ref ozm, .int zd, .ref ozg])), (ozp, .inl (cI, 1600, .inl zp)), (ozs, .inl (cI, 320, .inl zs)), (ozb, .inl (cI, 256, .inl u.1)), (ozl, .inl (cI, 64, .inl zl)), (ozo, .inl (cI, 64, .inl zo)), (ozk, .inl (cI, 320, .inl zk)), (ozm, .inl (cI, 40, .inl zm)), (ozg, .inl (cI, 64, .inl zg))] t) (va_A [(om, .inr (6, [.int zt, .int zw, .int zh, .ref ozp, .ref ozs, .ref ozb, .int zz, .ref ozl, .ref ozo, .int zc, .int zr, .int zu, .int zv, .int zq, .int zi, .ref ozk, .ref ozm, .int zd, .ref ozg])), (ozp, .inl (cI, 1600, .inl zp)), (ozs, .inl (cI, 320, .inl zs)), (ozb, .inl (cI, 256, .inl zb)), (ozl, .inl (cI, 64, .inl zl)), (ozo, .inl (cI, 64, .inl zo)), (ozk, .inl (cI, 320, .inl zk)), (ozm, .inl (cI, 40, .inl zm)), (ozg, .inl (cI, 64, .inl zg))] sz)) 0 0 (va_A [(om, .inr (6, [.int zt, .int zw, .int zh, .ref ozp, .ref ozs, .ref ozb, .int zz, .ref ozl, .ref ozo, .int zc, .int zr, .int zu, .int zv, .int zq, .int zi, .ref ozk, .ref ozm, .int zd, .ref ozg])), (ozp, .inl (cI, 1600, .inl zp)), (ozs, .inl (cI, 320, .inl zs)), (ozb, .inl (cI, 256, .inl zb)), (ozl, .inl (cI, 64, .inl zl)), (ozo, .inl (cI, 64, .inl zo)), (ozk, .inl (cI, 320, .inl zk)), (ozm, .inl (cI, 40, .inl zm)), (ozg, .inl (cI, 64, .inl zg))] sz) := by
  refine Met.ofW (cc := cZM_writeRow) (maxL := 7) (ret := none) (by decide) rfl ?_
  intro p e s m args below meth c s₁ B hml hv
  obtain ⟨ha9, hsz, hP, hK, hE, hD0⟩ := hv
  have hx := B.exec
  have hb := B.bytes
  have hr := B.returns
  have hts0 := atoms_spec (ws := wsZM_writeRow) B.pre
  have hts : ∀ w ∈ tbg, w.before args s = true := fun w h => hts0 w (List.mem_cons_of_mem _ h)
  have hown : s.vm.findClass RZM = some m.cls := findClass_of_methodNamed B.named
  have hlocks := B.notSynchronized
  subst hsz
  have hD := hD0.self (sz := s.heap.size)
  refine gx_Q (fun Q9 hQ9 => ?_)
  generalize hAe : va_A [(om, .inr (6, [.int zt, .int zw, .int zh, .ref ozp, .ref ozs, .ref ozb, .int zz, .ref ozl, .ref ozo, .int zc, .int zr, .int zu, .int zv, .int zq, .int zi, .ref ozk, .ref ozm, .int zd, .ref ozg])), (ozp, .inl (cI, 1600, .inl zp)), (ozs, .inl (cI, 320, .inl zs)), (ozb, .inl (cI, 256, .inl zb)), (ozl, .inl (cI, 64, .inl zl)), (ozo, .inl (cI, 64, .inl zo)), (ozk, .inl (cI, 320, .inl zk)), (ozm, .inl (cI, 40, .inl zm)), (ozg, .inl (cI, 64, .inl zg))] s.heap.size = A at hD hQ9 ⊢
  have hA : ∀ q : Nat, s.heap.size ≤ q → A q := fun q h => by rw [← hAe]; exact Or.inr h
  have hS : va_S A s.heap s.heap [] := va_S.rf
  have hl := lv_entry ([.ref om, .int a1, .int a2]) (n := 7) (Nat.le_of_ble_eq_true rfl)
  have he9 : entryFrame m args 7 = F0 m 0 ((lg_sl [.ref om, .int a1, .int a2] ++ List.replicate (7 - (lg_sl ([.ref om, .int a1, .int a2] : List Value)).length) Slot.unset).toArray) [] := by rw [ha9]; exact lg_entry_eq m [.ref om, .int a1, .int a2] 7
  rw [he9]
  generalize (lg_sl ([.ref om, .int a1, .int a2] : List Value) ++ List.replicate (7 - (lg_sl ([.ref om, .int a1, .int a2] : List Value)).length) Slot.unset).toArray = ls at hl ⊢
  have hl : lv_has ls 7 [(0, .ref om), (1, .int a1), (2, .int a2)] := hl
  refine lv_aload_n hx hb dZM_writeRow_0 rfl (lv_at hl 0 rfl) ?_
  refine va_get (D := (dC, dI)) (ci := 6) (v := .ref ozg) (C := RZM) (T := TZM) (N := 19) hx hb hts inZM hown hK hP 0 rfl rfl 18 (by decide) (hts _ mm_635) (fun _ h9 => h9) rfl dZM_writeRow_1 ?_
  refine lv_iload_n hx hb dZM_writeRow_4 rfl (lv_at hl 1 rfl) ?_
  refine lv_iload_n hx hb dZM_writeRow_5 rfl (lv_at hl 2 rfl) ?_
  have hPc := hP.sub (ws' := [(ozg, .inl (cI, 64, .inl zg))]) [8] rfl
  refine vp_callSi (va_runS (As := [.ref ozg, .int a1, .int a2]) (rest := []) ⟨hx, hb, hml, hown, hts⟩ (kt_ZM_rowBits l dC dI cI ozg 64 zg a1 a2 _ hw) (va_cwS 3 hts (tb_S mm_786 mm_787 mm_8 mm_788) rfl rfl rfl (by decide +kernel) ⟨Nat.le_of_ble_eq_true rfl, Nat.le_of_ble_eq_true rfl⟩) ⟨gr_blind, fun U hU hW => gr_pre hPc hK hE hU hW⟩ rfl rfl hl.1 rfl (lv_room (Nat.le_of_ble_eq_true rfl)) dZM_writeRow_6 ⟨Nat.le_of_ble_eq_true rfl, Nat.le_of_ble_eq_true rfl⟩).run (fun r_1 hw => ?_)
  refine lv_istore_n (lv' := [(3, .int r_1), (0, .ref om), (1, .int a1), (2, .int a2)]) hx hb dZM_writeRow_9 rfl hl (by decide) rfl (fun ls hl => ?_)
  refine lv_aload_n hx hb dZM_writeRow_10 rfl (lv_at hl 1 rfl) ?_
  refine lv_iload_n hx hb dZM_writeRow_11 rfl (lv_at hl 0 rfl) ?_
  have hPc := hP.sub (ws' := [(om, .inr (6, [.int zt, .int zw, .int zh, .ref ozp, .ref ozs, .ref ozb, .int zz, .ref ozl, .ref ozo, .int zc, .int zr, .int zu, .int zv, .int zq, .int zi, .ref ozk, .ref ozm, .int zd, .ref ozg])), (ozp, .inl (cI, 1600, .inl zp)), (ozs, .inl (cI, 320, .inl zs)), (ozb, .inl (cI, 256, .inl zb)), (ozl, .inl (cI, 64, .inl zl)), (ozo, .inl (cI, 64, .inl zo)), (ozk, .inl (cI, 320, .inl zk)), (ozm, .inl (cI, 40, .inl zm)), (ozg, .inl (cI, 64, .inl zg))]) [0, 1, 2, 3, 4, 5, 6, 7, 8] rfl
  have hDc := hD.sub (ws' := [(om, .inr (6, [.int zt, .int zw, .int zh, .ref ozp, .ref ozs, .ref ozb, .int zz, .ref ozl, .ref ozo, .int zc, .int zr, .int zu, .int zv, .int zq, .int zi, .ref ozk, .ref ozm, .int zd, .ref ozg])), (ozp, .inl (cI, 1600, .inl zp)), (ozs, .inl (cI, 320, .inl zs)), (ozb, .inl (cI, 256, .inl zb)), (ozl, .inl (cI, 64, .inl zl)), (ozo, .inl (cI, 64, .inl zo)), (ozk, .inl (cI, 320, .inl zk)), (ozm, .inl (cI, 40, .inl zm)), (ozg, .inl (cI, 64, .inl zg))]) [0, 1, 2, 3, 4, 5, 6, 7, 8] (by decide) rfl
  have hFc := va_free (wc := [(om, .inr (6, [.int zt, .int zw, .int zh, .ref ozp, .ref ozs, .ref ozb, .int zz, .ref ozl, .ref ozo, .int zc, .int zr, .int zu, .int zv, .int zq, .int zi, .ref ozk, .ref ozm, .int zd, .ref ozg])), (ozp, .inl (cI, 1600, .inl zp)), (ozs, .inl (cI, 320, .inl zs)), (ozb, .inl (cI, 256, .inl zb)), (ozl, .inl (cI, 64, .inl zl)), (ozo, .inl (cI, 64, .inl zo)), (ozk, .inl (cI, 320, .inl zk)), (ozm, .inl (cI, 40, .inl zm)), (ozg, .inl (cI, 64, .inl zg))]) hD hS hA [0, 1, 2, 3, 4, 5, 6, 7, 8] rfl
  refine va_callv (va_runV (As := [.int r_1]) (rest := []) ⟨hx, hb, hml, hown, hts⟩ (kt_ZM_write l dC dI cI om ozp ozs ozb ozl ozo ozk ozm ozg _ zt zw zh zp zs zb zz zl zo zc zr zu zv zq zi zk zm zd zg r_1 _ hw) (cwV 1 hts (tb_V mm_778 mm_780 mp_16 mm_8 mm_781) rfl rfl rfl (by decide +kernel) ⟨Nat.le_of_ble_eq_true rfl, Nat.le_of_ble_eq_true rfl⟩) ⟨gw_blind, va_recv hK hPc (ci := 6) (q0 := 0) rfl rfl, fun U hU hW => gw_pre hPc hDc hK hE hU hW⟩ rfl rfl hl.1 rfl (lv_room (Nat.le_of_ble_eq_true rfl)) dZM_writeRow_12 ⟨Nat.le_of_ble_eq_true rfl, Nat.le_of_ble_eq_true rfl⟩) hS (fun q _ h => hFc q h) hFc (fun u t H1 locs ht hvm hw hB hz1 hk1 hS => ?_)
  obtain ⟨zb_2, zz_3⟩ := u
  obtain ⟨hP1, hK1, hD1⟩ := hB
  rw [ht] at hP1
  try dsimp only at hw
  obtain ⟨hP, hD⟩ := va_join (wr := []) (w1 := [(om, .inr (6, [.int zt, .int zw, .int zh, .ref ozp, .ref ozs, .ref ozb, .int zz_3, .ref ozl, .ref ozo, .int zc, .int zr, .int zu, .int zv, .int zq, .int zi, .ref ozk, .ref ozm, .int zd, .ref ozg])), (ozp, .inl (cI, 1600, .inl zp)), (ozs, .inl (cI, 320, .inl zs)), (ozb, .inl (cI, 256, .inl zb_2)), (ozl, .inl (cI, 64, .inl zl)), (ozo, .inl (cI, 64, .inl zo)), (ozk, .inl (cI, 320, .inl zk)), (ozm, .inl (cI, 40, .inl zm)), (ozg, .inl (cI, 64, .inl zg))]) hP hD [0, 1, 2, 3, 4, 5, 6, 7, 8] [] rfl rfl (by decide) (by decide) hk1 hFc hP1 hD1
  generalize H1 = H at hP hS ⊢
  have hP : va_P (dC, dI) vwCl [(om, .inr (6, [.int zt, .int zw, .int zh, .ref ozp, .ref ozs, .ref ozb, .int zz_3, .ref ozl, .ref ozo, .int zc, .int zr, .int zu, .int zv, .int zq, .int zi, .ref ozk, .ref ozm, .int zd, .ref ozg])), (ozp, .inl (cI, 1600, .inl zp)), (ozs, .inl (cI, 320, .inl zs)), (ozb, .inl (cI, 256, .inl zb_2)), (ozl, .inl (cI, 64, .inl zl)), (ozo, .inl (cI, 64, .inl zo)), (ozk, .inl (cI, 320, .inl zk)), (ozm, .inl (cI, 40, .inl zm)), (ozg, .inl (cI, 64, .inl zg))] H := hP
  have hD : va_D A [(om, .inr (6, [.int zt, .int zw, .int zh, .ref ozp, .ref ozs, .ref ozb, .int zz_3, .ref ozl, .ref ozo, .int zc, .int zr, .int zu, .int zv, .int zq, .int zi, .ref ozk, .ref ozm, .int zd, .ref ozg])), (ozp, .inl (cI, 1600, .inl zp)), (ozs, .inl (cI, 320, .inl zs)), (ozb, .inl (cI, 256, .inl zb_2)), (ozl, .inl (cI, 64, .inl zl)), (ozo, .inl (cI, 64, .inl zo)), (ozk, .inl (cI, 320, .inl zk)), (ozm, .inl (cI, 40, .inl zm)), (ozg, .inl (cI, 64, .inl zg))] := hD
  refine lv_aload_n hx hb dZM_writeRow_15 rfl (lv_at hl 1 rfl) ?_
  refine va_get (D := (dC, dI)) (ci := 6) (v := .int zz_3) (C := RZM) (T := TZM) (N := 19) hx hb hts inZM hown hK hP 0 rfl rfl 6 (by decide) (hts _ mm_624) (fun _ h9 => h9) rfl dZM_writeRow_16 ?_
  refine lv_istore (lv' := [(4, .int zz_3), (3, .int r_1), (0, .ref om), (1, .int a1), (2, .int a2)]) hx hb dZM_writeRow_19 hl (by decide) rfl (fun ls hl => ?_)
  refine lv_iconst (v := (0 : Int32)) hx hb dZM_writeRow_21 (by decide) ?_
  refine lv_istore (lv' := [(5, .int (0 : Int32)), (4, .int zz_3), (3, .int r_1), (0, .ref om), (1, .int a1), (2, .int a2)]) hx hb dZM_writeRow_22 hl (by decide) rfl (fun ls hl => ?_)
  have lp24 : ∀ K24 : Int32 → Int32 → (Nat → Int32) → Prop, (∀ (x5_24 : Int32) (v6_24_om : Int32) (f_24_ozb : Nat → Int32), K24 x5_24 v6_24_om f_24_ozb → ∀ (H : Heap) (locs : List Loc), va_P (dC, dI) vwCl [(om, .inr (6, [.int zt, .int zw, .int zh, .ref ozp, .ref ozs, .ref ozb, .int v6_24_om, .ref ozl, .ref ozo, .int zc, .int zr, .int zu, .int zv, .int zq, .int zi, .ref ozk, .ref ozm, .int zd, .ref ozg])), (ozp, .inl (cI, 1600, .inl zp)), (ozs, .inl (cI, 320, .inl zs)), (ozb, .inl (cI, 256, .inl f_24_ozb)), (ozl, .inl (cI, 64, .inl zl)), (ozo, .inl (cI, 64, .inl zo)), (ozk, .inl (cI, 320, .inl zk)), (ozm, .inl (cI, 40, .inl zm)), (ozg, .inl (cI, 64, .inl zg))] H → va_D A [(om, .inr (6, [.int zt, .int zw, .int zh, .ref ozp, .ref ozs, .ref ozb, .int v6_24_om, .ref ozl, .ref ozo, .int zc, .int zr, .int zu, .int zv, .int zq, .int zi, .ref ozk, .ref ozm, .int zd, .ref ozg])), (ozp, .inl (cI, 1600, .inl zp)), (ozs, .inl (cI, 320, .inl zs)), (ozb, .inl (cI, 256, .inl f_24_ozb)), (ozl, .inl (cI, 64, .inl zl)), (ozo, .inl (cI, 64, .inl zo)), (ozk, .inl (cI, 320, .inl zk)), (ozm, .inl (cI, 40, .inl zm)), (ozg, .inl (cI, 64, .inl zg))] → va_S A s.heap H locs → ∀ ls : Array Slot, lv_has ls 7 [(5, .int x5_24), (4, .int zz_3), (3, .int r_1), (0, .ref om), (1, .int a1), (2, .int a2)] → W p l e (headSpec wsZM_writeRow rm_ZM_writeRow).room s m args below meth c H locs 0 0 Q9 (F0 m 100 ls [])) → ∀ (n : Nat) (x5_24 : Int32) (v6_24_om : Int32) (f_24_ozb : Nat → Int32), lp_ZM_writeRow_24 zt zw zh zp zs zb zz zl zo zc zr zu zv zq zi zk zm zd zg a1 a2 r_1 zb_2 zz_3 post K24 n x5_24 v6_24_om f_24_ozb → ∀ (H : Heap) (locs : List Loc), va_P (dC, dI) vwCl [(om, .inr (6, [.int zt, .int zw, .int zh, .ref ozp, .ref ozs, .ref ozb, .int v6_24_om, .ref ozl, .ref ozo, .int zc, .int zr, .int zu, .int zv, .int zq, .int zi, .ref ozk, .ref ozm, .int zd, .ref ozg])), (ozp, .inl (cI, 1600, .inl zp)), (ozs, .inl (cI, 320, .inl zs)), (ozb, .inl (cI, 256, .inl f_24_ozb)), (ozl, .inl (cI, 64, .inl zl)), (ozo, .inl (cI, 64, .inl zo)), (ozk, .inl (cI, 320, .inl zk)), (ozm, .inl (cI, 40, .inl zm)), (ozg, .inl (cI, 64, .inl zg))] H → va_D A [(om, .inr (6, [.int zt, .int zw, .int zh, .ref ozp, .ref ozs, .ref ozb, .int v6_24_om, .ref ozl, .ref ozo, .int zc, .int zr, .int zu, .int zv, .int zq, .int zi, .ref ozk, .ref ozm, .int zd, .ref ozg])), (ozp, .inl (cI, 1600, .inl zp)), (ozs, .inl (cI, 320, .inl zs)), (ozb, .inl (cI, 256, .inl f_24_ozb)), (ozl, .inl (cI, 64, .inl zl)), (ozo, .inl (cI, 64, .inl zo)), (ozk, .inl (cI, 320, .inl zk)), (ozm, .inl (cI, 40, .inl zm)), (ozg, .inl (cI, 64, .inl zg))] → va_S A s.heap H locs → ∀ ls : Array Slot, lv_has ls 7 [(5, .int x5_24), (4, .int zz_3), (3, .int r_1), (0, .ref om), (1, .int a1), (2, .int a2)] → W p l e (headSpec wsZM_writeRow rm_ZM_writeRow).room s m args below meth c H locs 0 0 Q9 (F0 m 24 ls []) := by
    intro K24 aft24 n
    induction n with
    | zero => intro x5_24 v6_24_om f_24_ozb hw; exact False.elim hw
    | succ n ih24 =>
      intro x5_24 v6_24_om f_24_ozb hw H locs hP hD hS ls hl
      refine lv_iload hx hb dZM_writeRow_24 (lv_at hl 0 rfl) ?_
      refine lv_iload_n hx hb dZM_writeRow_26 rfl (lv_at hl 2 rfl) ?_
      refine lv_iload_n hx hb dZM_writeRow_27 rfl (lv_at hl 5 rfl) ?_
      refine lv_imul hx hb dZM_writeRow_28 ?_
      refine lv_icmp_ge (tgt := 100) hx hb dZM_writeRow_29 (by decide) (fun c_4 => ?_) (fun c_4 => ?_)
      · have hw := hw.1 c_4
        exact aft24 x5_24 v6_24_om f_24_ozb hw _ _ (hP.sub [0, 1, 2, 3, 4, 5, 6, 7, 8] rfl) (hD.sub [0, 1, 2, 3, 4, 5, 6, 7, 8] (by decide) rfl) hS ls (lv_sub hl [0, 1, 2, 3, 4, 5] rfl)
      · have hw := hw.2 c_4
        refine lv_iload hx hb dZM_writeRow_32 (lv_at hl 0 rfl) ?_
        refine lv_bipush (v := (8 : Int32)) hx hb dZM_writeRow_34 (by decide) ?_
        refine lv_irem hx hb dZM_writeRow_36 (by decide) ?_
        obtain ⟨J45, hJ45, hw⟩ := hw
        have j45 : ∀ (v6_j45_om : Int32) (f_j45_ozb : Nat → Int32), J45 v6_j45_om f_j45_ozb → ∀ (H : Heap) (locs : List Loc), va_P (dC, dI) vwCl [(om, .inr (6, [.int zt, .int zw, .int zh, .ref ozp, .ref ozs, .ref ozb, .int v6_j45_om, .ref ozl, .ref ozo, .int zc, .int zr, .int zu, .int zv, .int zq, .int zi, .ref ozk, .ref ozm, .int zd, .ref ozg])), (ozp, .inl (cI, 1600, .inl zp)), (ozs, .inl (cI, 320, .inl zs)), (ozb, .inl (cI, 256, .inl f_j45_ozb)), (ozl, .inl (cI, 64, .inl zl)), (ozo, .inl (cI, 64, .inl zo)), (ozk, .inl (cI, 320, .inl zk)), (ozm, .inl (cI, 40, .inl zm)), (ozg, .inl (cI, 64, .inl zg))] H → va_D A [(om, .inr (6, [.int zt, .int zw, .int zh, .ref ozp, .ref ozs, .ref ozb, .int v6_j45_om, .ref ozl, .ref ozo, .int zc, .int zr, .int zu, .int zv, .int zq, .int zi, .ref ozk, .ref ozm, .int zd, .ref ozg])), (ozp, .inl (cI, 1600, .inl zp)), (ozs, .inl (cI, 320, .inl zs)), (ozb, .inl (cI, 256, .inl f_j45_ozb)), (ozl, .inl (cI, 64, .inl zl)), (ozo, .inl (cI, 64, .inl zo)), (ozk, .inl (cI, 320, .inl zk)), (ozm, .inl (cI, 40, .inl zm)), (ozg, .inl (cI, 64, .inl zg))] → va_S A s.heap H locs → ∀ ls : Array Slot, lv_has ls 7 [(5, .int x5_24), (4, .int zz_3), (3, .int r_1), (0, .ref om), (1, .int a1), (2, .int a2)] → W p l e (headSpec wsZM_writeRow rm_ZM_writeRow).room s m args below meth c H locs 0 0 Q9 (F0 m 45 ls []) := by
          intro v6_j45_om f_j45_ozb hw H locs hP hD hS ls hl
          have hw := hJ45 v6_j45_om f_j45_ozb hw
          refine lv_aload_n hx hb dZM_writeRow_45 rfl (lv_at hl 3 rfl) ?_
          refine va_get (D := (dC, dI)) (ci := 6) (v := .ref ozg) (C := RZM) (T := TZM) (N := 19) hx hb hts inZM hown hK hP 0 rfl rfl 18 (by decide) (hts _ mm_635) (fun _ h9 => h9) rfl dZM_writeRow_46 ?_
          refine lv_iload_n hx hb dZM_writeRow_49 rfl (lv_at hl 4 rfl) ?_
          refine lv_iload_n hx hb dZM_writeRow_50 rfl (lv_at hl 5 rfl) ?_
          refine lv_imul hx hb dZM_writeRow_51 ?_
          refine lv_iload hx hb dZM_writeRow_52 (lv_at hl 0 rfl) ?_
          refine lv_iload_n hx hb dZM_writeRow_54 rfl (lv_at hl 2 rfl) ?_
          obtain ⟨h_5, hw⟩ := hw
          refine lv_idiv hx hb dZM_writeRow_55 h_5 ?_
          refine lv_iadd hx hb dZM_writeRow_56 ?_
          refine lv_iload_n hx hb dZM_writeRow_57 rfl (lv_at hl 5 rfl) ?_
          have hPc := hP.sub (ws' := [(ozg, .inl (cI, 64, .inl zg))]) [8] rfl
          refine vp_callSi (va_runS (As := [.ref ozg, .int ((a1 * a2) + (x5_24 / r_1)), .int a2]) (rest := []) ⟨hx, hb, hml, hown, hts⟩ (kt_ZM_told l dC dI cI ozg 64 zg ((a1 * a2) + (x5_24 / r_1)) a2 _ hw) (va_cwS 3 hts (tb_S mm_789 mm_790 mm_8 mm_791) rfl rfl rfl (by decide +kernel) ⟨Nat.le_of_ble_eq_true rfl, Nat.le_of_ble_eq_true rfl⟩) ⟨gr_blind, fun U hU hW => gr_pre hPc hK hE hU hW⟩ rfl rfl hl.1 rfl (lv_room (Nat.le_of_ble_eq_true rfl)) dZM_writeRow_58 ⟨Nat.le_of_ble_eq_true rfl, Nat.le_of_ble_eq_true rfl⟩).run (fun r_6 hw => ?_)
          refine lv_istore (lv' := [(6, .int r_6), (5, .int x5_24), (4, .int zz_3), (3, .int r_1), (0, .ref om), (1, .int a1), (2, .int a2)]) hx hb dZM_writeRow_61 hl (by decide) rfl (fun ls hl => ?_)
          refine lv_aload_n hx hb dZM_writeRow_63 rfl (lv_at hl 4 rfl) ?_
          refine va_get (D := (dC, dI)) (ci := 6) (v := .ref ozb) (C := RZM) (T := TZM) (N := 19) hx hb hts inZM hown hK hP 0 rfl rfl 5 (by decide) (hts _ mm_623) (fun _ h9 => h9) rfl dZM_writeRow_64 ?_
          refine lv_iload hx hb dZM_writeRow_67 (lv_at hl 2 rfl) ?_
          refine lv_iload hx hb dZM_writeRow_69 (lv_at hl 1 rfl) ?_
          refine lv_bipush (v := (8 : Int32)) hx hb dZM_writeRow_71 (by decide) ?_
          refine lv_idiv hx hb dZM_writeRow_73 (by decide) ?_
          refine lv_iadd hx hb dZM_writeRow_74 ?_
          refine lv_dup2_11 hx hb dZM_writeRow_75 rfl rfl ?_
          obtain ⟨h_7, hw⟩ := hw
          refine va_iald hx hb hK hP 3 0 rfl rfl h_7 dZM_writeRow_76 ?_
          refine lv_iload hx hb dZM_writeRow_77 (lv_at hl 0 rfl) ?_
          refine lv_iload hx hb dZM_writeRow_79 (lv_at hl 1 rfl) ?_
          refine lv_iload_n hx hb dZM_writeRow_81 rfl (lv_at hl 3 rfl) ?_
          obtain ⟨h_8, hw⟩ := hw
          refine lv_irem hx hb dZM_writeRow_82 h_8 ?_
          refine lv_ishr hx hb dZM_writeRow_83 ?_
          refine lv_iconst (v := (1 : Int32)) hx hb dZM_writeRow_84 (by decide) ?_
          refine lv_iand hx hb dZM_writeRow_85 ?_
          refine lv_iload hx hb dZM_writeRow_86 (lv_at hl 1 rfl) ?_
          refine lv_bipush (v := (8 : Int32)) hx hb dZM_writeRow_88 (by decide) ?_
          refine lv_irem hx hb dZM_writeRow_90 (by decide) ?_
          refine lv_ishl hx hb dZM_writeRow_91 ?_
          refine lv_ior hx hb dZM_writeRow_92 ?_
          obtain ⟨h_9, hw⟩ := hw
          refine va_iast hx hb hK hP hD hS 3 0 rfl rfl h_9 dZM_writeRow_93 (fun H locs hP hD hS => ?_)
          have hP : va_P (dC, dI) vwCl [(om, .inr (6, [.int zt, .int zw, .int zh, .ref ozp, .ref ozs, .ref ozb, .int v6_j45_om, .ref ozl, .ref ozo, .int zc, .int zr, .int zu, .int zv, .int zq, .int zi, .ref ozk, .ref ozm, .int zd, .ref ozg])), (ozp, .inl (cI, 1600, .inl zp)), (ozs, .inl (cI, 320, .inl zs)), (ozb, .inl (cI, 256, .inl (upd f_j45_ozb (zz_3 + (x5_24 / (8 : Int32))).toNatClampNeg ((f_j45_ozb (zz_3 + (x5_24 / (8 : Int32))).toNatClampNeg) ||| (((r_6 >>> ((x5_24 - x5_24 / r_1 * r_1) &&& 31)) &&& (1 : Int32)) <<< ((x5_24 - x5_24 / (8 : Int32) * (8 : Int32)) &&& 31)))))), (ozl, .inl (cI, 64, .inl zl)), (ozo, .inl (cI, 64, .inl zo)), (ozk, .inl (cI, 320, .inl zk)), (ozm, .inl (cI, 40, .inl zm)), (ozg, .inl (cI, 64, .inl zg))] H := hP
          have hD : va_D A [(om, .inr (6, [.int zt, .int zw, .int zh, .ref ozp, .ref ozs, .ref ozb, .int v6_j45_om, .ref ozl, .ref ozo, .int zc, .int zr, .int zu, .int zv, .int zq, .int zi, .ref ozk, .ref ozm, .int zd, .ref ozg])), (ozp, .inl (cI, 1600, .inl zp)), (ozs, .inl (cI, 320, .inl zs)), (ozb, .inl (cI, 256, .inl (upd f_j45_ozb (zz_3 + (x5_24 / (8 : Int32))).toNatClampNeg ((f_j45_ozb (zz_3 + (x5_24 / (8 : Int32))).toNatClampNeg) ||| (((r_6 >>> ((x5_24 - x5_24 / r_1 * r_1) &&& 31)) &&& (1 : Int32)) <<< ((x5_24 - x5_24 / (8 : Int32) * (8 : Int32)) &&& 31)))))), (ozl, .inl (cI, 64, .inl zl)), (ozo, .inl (cI, 64, .inl zo)), (ozk, .inl (cI, 320, .inl zk)), (ozm, .inl (cI, 40, .inl zm)), (ozg, .inl (cI, 64, .inl zg))] := hD
          refine lv_iinc (v := x5_24 + (1 : Int32)) (lv' := [(5, .int (x5_24 + (1 : Int32))), (6, .int r_6), (4, .int zz_3), (3, .int r_1), (0, .ref om), (1, .int a1), (2, .int a2)]) hx hb dZM_writeRow_94 hl (k := 1) rfl rfl (by decide) rfl (fun ls hl => ?_)
          refine lv_goto (tgt := 24) hx hb dZM_writeRow_97 (by decide) ?_
          exact ih24 (x5_24 + (1 : Int32)) v6_j45_om (upd f_j45_ozb (zz_3 + (x5_24 / (8 : Int32))).toNatClampNeg ((f_j45_ozb (zz_3 + (x5_24 / (8 : Int32))).toNatClampNeg) ||| (((r_6 >>> ((x5_24 - x5_24 / r_1 * r_1) &&& 31)) &&& (1 : Int32)) <<< ((x5_24 - x5_24 / (8 : Int32) * (8 : Int32)) &&& 31)))) hw _ _ (hP.sub [0, 1, 2, 3, 4, 5, 6, 7, 8] rfl) (hD.sub [0, 1, 2, 3, 4, 5, 6, 7, 8] (by decide) rfl) hS ls (lv_sub hl [0, 2, 3, 4, 5, 6] rfl)
        refine lv_if_ne (tgt := 45) hx hb dZM_writeRow_37 (by decide) (fun c_10 => ?_) (fun c_10 => ?_)
        · have hw := hw.2 c_10
          exact j45 v6_24_om f_24_ozb hw _ _ (hP.sub [0, 1, 2, 3, 4, 5, 6, 7, 8] rfl) (hD.sub [0, 1, 2, 3, 4, 5, 6, 7, 8] (by decide) rfl) hS ls (lv_sub hl [0, 1, 2, 3, 4, 5] rfl)
        · have hw := hw.1 c_10
          refine lv_aload_n hx hb dZM_writeRow_40 rfl (lv_at hl 3 rfl) ?_
          refine lv_iconst (v := (0 : Int32)) hx hb dZM_writeRow_41 (by decide) ?_
          have hPc := hP.sub (ws' := [(om, .inr (6, [.int zt, .int zw, .int zh, .ref ozp, .ref ozs, .ref ozb, .int v6_24_om, .ref ozl, .ref ozo, .int zc, .int zr, .int zu, .int zv, .int zq, .int zi, .ref ozk, .ref ozm, .int zd, .ref ozg])), (ozp, .inl (cI, 1600, .inl zp)), (ozs, .inl (cI, 320, .inl zs)), (ozb, .inl (cI, 256, .inl f_24_ozb)), (ozl, .inl (cI, 64, .inl zl)), (ozo, .inl (cI, 64, .inl zo)), (ozk, .inl (cI, 320, .inl zk)), (ozm, .inl (cI, 40, .inl zm)), (ozg, .inl (cI, 64, .inl zg))]) [0, 1, 2, 3, 4, 5, 6, 7, 8] rfl
          have hDc := hD.sub (ws' := [(om, .inr (6, [.int zt, .int zw, .int zh, .ref ozp, .ref ozs, .ref ozb, .int v6_24_om, .ref ozl, .ref ozo, .int zc, .int zr, .int zu, .int zv, .int zq, .int zi, .ref ozk, .ref ozm, .int zd, .ref ozg])), (ozp, .inl (cI, 1600, .inl zp)), (ozs, .inl (cI, 320, .inl zs)), (ozb, .inl (cI, 256, .inl f_24_ozb)), (ozl, .inl (cI, 64, .inl zl)), (ozo, .inl (cI, 64, .inl zo)), (ozk, .inl (cI, 320, .inl zk)), (ozm, .inl (cI, 40, .inl zm)), (ozg, .inl (cI, 64, .inl zg))]) [0, 1, 2, 3, 4, 5, 6, 7, 8] (by decide) rfl
          have hFc := va_free (wc := [(om, .inr (6, [.int zt, .int zw, .int zh, .ref ozp, .ref ozs, .ref ozb, .int v6_24_om, .ref ozl, .ref ozo, .int zc, .int zr, .int zu, .int zv, .int zq, .int zi, .ref ozk, .ref ozm, .int zd, .ref ozg])), (ozp, .inl (cI, 1600, .inl zp)), (ozs, .inl (cI, 320, .inl zs)), (ozb, .inl (cI, 256, .inl f_24_ozb)), (ozl, .inl (cI, 64, .inl zl)), (ozo, .inl (cI, 64, .inl zo)), (ozk, .inl (cI, 320, .inl zk)), (ozm, .inl (cI, 40, .inl zm)), (ozg, .inl (cI, 64, .inl zg))]) hD hS hA [0, 1, 2, 3, 4, 5, 6, 7, 8] rfl
          refine va_callv (va_runV (As := [.int (0 : Int32)]) (rest := []) ⟨hx, hb, hml, hown, hts⟩ (kt_ZM_write l dC dI cI om ozp ozs ozb ozl ozo ozk ozm ozg _ zt zw zh zp zs f_24_ozb v6_24_om zl zo zc zr zu zv zq zi zk zm zd zg (0 : Int32) _ hw) (cwV 1 hts (tb_V mm_778 mm_780 mp_16 mm_8 mm_781) rfl rfl rfl (by decide +kernel) ⟨Nat.le_of_ble_eq_true rfl, Nat.le_of_ble_eq_true rfl⟩) ⟨gw_blind, va_recv hK hPc (ci := 6) (q0 := 0) rfl rfl, fun U hU hW => gw_pre hPc hDc hK hE hU hW⟩ rfl rfl hl.1 rfl (lv_room (Nat.le_of_ble_eq_true rfl)) dZM_writeRow_42 ⟨Nat.le_of_ble_eq_true rfl, Nat.le_of_ble_eq_true rfl⟩) hS (fun q _ h => hFc q h) hFc (fun u t H1 locs ht hvm hw hB hz1 hk1 hS => ?_)
          obtain ⟨zb_11, zz_12⟩ := u
          obtain ⟨hP1, hK1, hD1⟩ := hB
          rw [ht] at hP1
          try dsimp only at hw
          obtain ⟨hP, hD⟩ := va_join (wr := []) (w1 := [(om, .inr (6, [.int zt, .int zw, .int zh, .ref ozp, .ref ozs, .ref ozb, .int zz_12, .ref ozl, .ref ozo, .int zc, .int zr, .int zu, .int zv, .int zq, .int zi, .ref ozk, .ref ozm, .int zd, .ref ozg])), (ozp, .inl (cI, 1600, .inl zp)), (ozs, .inl (cI, 320, .inl zs)), (ozb, .inl (cI, 256, .inl zb_11)), (ozl, .inl (cI, 64, .inl zl)), (ozo, .inl (cI, 64, .inl zo)), (ozk, .inl (cI, 320, .inl zk)), (ozm, .inl (cI, 40, .inl zm)), (ozg, .inl (cI, 64, .inl zg))]) hP hD [0, 1, 2, 3, 4, 5, 6, 7, 8] [] rfl rfl (by decide) (by decide) hk1 hFc hP1 hD1
          generalize H1 = H at hP hS ⊢
          have hP : va_P (dC, dI) vwCl [(om, .inr (6, [.int zt, .int zw, .int zh, .ref ozp, .ref ozs, .ref ozb, .int zz_12, .ref ozl, .ref ozo, .int zc, .int zr, .int zu, .int zv, .int zq, .int zi, .ref ozk, .ref ozm, .int zd, .ref ozg])), (ozp, .inl (cI, 1600, .inl zp)), (ozs, .inl (cI, 320, .inl zs)), (ozb, .inl (cI, 256, .inl zb_11)), (ozl, .inl (cI, 64, .inl zl)), (ozo, .inl (cI, 64, .inl zo)), (ozk, .inl (cI, 320, .inl zk)), (ozm, .inl (cI, 40, .inl zm)), (ozg, .inl (cI, 64, .inl zg))] H := hP
          have hD : va_D A [(om, .inr (6, [.int zt, .int zw, .int zh, .ref ozp, .ref ozs, .ref ozb, .int zz_12, .ref ozl, .ref ozo, .int zc, .int zr, .int zu, .int zv, .int zq, .int zi, .ref ozk, .ref ozm, .int zd, .ref ozg])), (ozp, .inl (cI, 1600, .inl zp)), (ozs, .inl (cI, 320, .inl zs)), (ozb, .inl (cI, 256, .inl zb_11)), (ozl, .inl (cI, 64, .inl zl)), (ozo, .inl (cI, 64, .inl zo)), (ozk, .inl (cI, 320, .inl zk)), (ozm, .inl (cI, 40, .inl zm)), (ozg, .inl (cI, 64, .inl zg))] := hD
          exact j45 zz_12 zb_11 hw _ _ (hP.sub [0, 1, 2, 3, 4, 5, 6, 7, 8] rfl) (hD.sub [0, 1, 2, 3, 4, 5, 6, 7, 8] (by decide) rfl) hS ls (lv_sub hl [0, 1, 2, 3, 4, 5] rfl)
  obtain ⟨n24, hw⟩ := hw
  refine lp24 _ (fun x5_24e v6_24e_om f_24e_ozb hw H locs hP hD hS ls hl => ?_) n24 (0 : Int32) zz_3 zb_2 hw _ _ (hP.sub [0, 1, 2, 3, 4, 5, 6, 7, 8] rfl) (hD.sub [0, 1, 2, 3, 4, 5, 6, 7, 8] (by decide) rfl) hS ls (lv_sub hl [0, 1, 2, 3, 4, 5] rfl)
  have hP9 := hP.sub (ws' := [(om, .inr (6, [.int zt, .int zw, .int zh, .ref ozp, .ref ozs, .ref ozb, .int v6_24e_om, .ref ozl, .ref ozo, .int zc, .int zr, .int zu, .int zv, .int zq, .int zi, .ref ozk, .ref ozm, .int zd, .ref ozg])), (ozp, .inl (cI, 1600, .inl zp)), (ozs, .inl (cI, 320, .inl zs)), (ozb, .inl (cI, 256, .inl f_24e_ozb)), (ozl, .inl (cI, 64, .inl zl)), (ozo, .inl (cI, 64, .inl zo)), (ozk, .inl (cI, 320, .inl zk)), (ozm, .inl (cI, 40, .inl zm)), (ozg, .inl (cI, 64, .inl zg))]) [0, 1, 2, 3, 4, 5, 6, 7, 8] rfl
  have hD9 := hD.sub (ws' := [(om, .inr (6, [.int zt, .int zw, .int zh, .ref ozp, .ref ozs, .ref ozb, .int v6_24e_om, .ref ozl, .ref ozo, .int zc, .int zr, .int zu, .int zv, .int zq, .int zi, .ref ozk, .ref ozm, .int zd, .ref ozg])), (ozp, .inl (cI, 1600, .inl zp)), (ozs, .inl (cI, 320, .inl zs)), (ozb, .inl (cI, 256, .inl f_24e_ozb)), (ozl, .inl (cI, 64, .inl zl)), (ozo, .inl (cI, 64, .inl zo)), (ozk, .inl (cI, 320, .inl zk)), (ozm, .inl (cI, 40, .inl zm)), (ozg, .inl (cI, 64, .inl zg))]) [0, 1, 2, 3, 4, 5, 6, 7, 8] (by decide) rfl
  subst hQ9
  exact W.vret hx hb hr (fun t ht hW => ⟨⟨(f_24e_ozb, v6_24e_om), rfl, hw, by rw [ht]; exact hP9, va_K.moved hW.alike hK, hD9⟩, hS.F ht⟩) hS.2.2 dZM_writeRow_100
theorem dZM_pack_0 : decode cZM_pack 0 = .ok (.aload_n 0, 1) := by decide +kernel
theorem dZM_pack_1 : decode cZM_pack 1 = .ok (.aload_n 0, 1) := by decide +kernel
theorem dZM_pack_2 : decode cZM_pack 2 = .ok (.iload_n 1, 1) := by decide +kernel
theorem dZM_pack_3 : decode cZM_pack 3 = .ok (.iload_n 2, 1) := by decide +kernel
theorem dZM_pack_4 : decode cZM_pack 4 = .ok (.iload_n 3, 1) := by decide +kernel
theorem dZM_pack_5 : decode cZM_pack 5 = .ok (.invokevirtual 112, 3) := by decide +kernel
theorem dZM_pack_8 : decode cZM_pack 8 = .ok (.ifCond .ne 7, 3) := by decide +kernel
theorem dZM_pack_11 : decode cZM_pack 11 = .ok (.iconst 1, 1) := by decide +kernel
theorem dZM_pack_12 : decode cZM_pack 12 = .ok (.goto 4, 3) := by decide +kernel
theorem dZM_pack_15 : decode cZM_pack 15 = .ok (.iconst 0, 1) := by decide +kernel
theorem dZM_pack_16 : decode cZM_pack 16 = .ok (.iconst 0, 1) := by decide +kernel
theorem dZM_pack_17 : decode cZM_pack 17 = .ok (.invokevirtual 60, 3) := by decide +kernel
theorem dZM_pack_20 : decode cZM_pack 20 = .ok (.ifCond .eq 5, 3) := by decide +kernel
theorem dZM_pack_23 : decode cZM_pack 23 = .ok (.iconst 0, 1) := by decide +kernel
theorem dZM_pack_24 : decode cZM_pack 24 = .ok (.ireturn, 1) := by decide +kernel
theorem dZM_pack_25 : decode cZM_pack 25 = .ok (.bipush 8, 2) := by decide +kernel
theorem dZM_pack_27 : decode cZM_pack 27 = .ok (.iload_n 2, 1) := by decide +kernel
theorem dZM_pack_28 : decode cZM_pack 28 = .ok (.imul, 1) := by decide +kernel
theorem dZM_pack_29 : decode cZM_pack 29 = .ok (.aload_n 0, 1) := by decide +kernel
theorem dZM_pack_30 : decode cZM_pack 30 = .ok (.iload_n 1, 1) := by decide +kernel
theorem dZM_pack_31 : decode cZM_pack 31 = .ok (.invokevirtual 79, 3) := by decide +kernel
theorem dZM_pack_34 : decode cZM_pack 34 = .ok (.invokestatic 115, 3) := by decide +kernel
theorem dZM_pack_37 : decode cZM_pack 37 = .ok (.istore 4, 2) := by decide +kernel
theorem dZM_pack_39 : decode cZM_pack 39 = .ok (.bipush 8, 2) := by decide +kernel
theorem dZM_pack_41 : decode cZM_pack 41 = .ok (.iload_n 3, 1) := by decide +kernel
theorem dZM_pack_42 : decode cZM_pack 42 = .ok (.imul, 1) := by decide +kernel
theorem dZM_pack_43 : decode cZM_pack 43 = .ok (.aload_n 0, 1) := by decide +kernel
theorem dZM_pack_44 : decode cZM_pack 44 = .ok (.iload_n 1, 1) := by decide +kernel
theorem dZM_pack_45 : decode cZM_pack 45 = .ok (.invokevirtual 82, 3) := by decide +kernel
theorem dZM_pack_48 : decode cZM_pack 48 = .ok (.invokestatic 115, 3) := by decide +kernel
theorem dZM_pack_51 : decode cZM_pack 51 = .ok (.istore 5, 2) := by decide +kernel
theorem dZM_pack_53 : decode cZM_pack 53 = .ok (.iconst 0, 1) := by decide +kernel
theorem dZM_pack_54 : decode cZM_pack 54 = .ok (.istore 6, 2) := by decide +kernel
theorem dZM_pack_56 : decode cZM_pack 56 = .ok (.iload 6, 2) := by decide +kernel
theorem dZM_pack_58 : decode cZM_pack 58 = .ok (.iload 4, 2) := by decide +kernel
theorem dZM_pack_60 : decode cZM_pack 60 = .ok (.iload 5, 2) := by decide +kernel
theorem dZM_pack_62 : decode cZM_pack 62 = .ok (.imul, 1) := by decide +kernel
theorem dZM_pack_63 : decode cZM_pack 63 = .ok (.if_icmp .ge 41, 3) := by decide +kernel
theorem dZM_pack_66 : decode cZM_pack 66 = .ok (.aload_n 0, 1) := by decide +kernel
theorem dZM_pack_67 : decode cZM_pack 67 = .ok (.getfield 31, 3) := by decide +kernel
theorem dZM_pack_70 : decode cZM_pack 70 = .ok (.iload 6, 2) := by decide +kernel
theorem dZM_pack_72 : decode cZM_pack 72 = .ok (.aload_n 0, 1) := by decide +kernel
theorem dZM_pack_73 : decode cZM_pack 73 = .ok (.iload_n 1, 1) := by decide +kernel
theorem dZM_pack_74 : decode cZM_pack 74 = .ok (.bipush 8, 2) := by decide +kernel
theorem dZM_pack_76 : decode cZM_pack 76 = .ok (.iload_n 2, 1) := by decide +kernel
theorem dZM_pack_77 : decode cZM_pack 77 = .ok (.imul, 1) := by decide +kernel
theorem dZM_pack_78 : decode cZM_pack 78 = .ok (.iload 6, 2) := by decide +kernel
theorem dZM_pack_80 : decode cZM_pack 80 = .ok (.iload 4, 2) := by decide +kernel
theorem dZM_pack_82 : decode cZM_pack 82 = .ok (.irem, 1) := by decide +kernel
theorem dZM_pack_83 : decode cZM_pack 83 = .ok (.iadd, 1) := by decide +kernel
theorem dZM_pack_84 : decode cZM_pack 84 = .ok (.bipush 8, 2) := by decide +kernel
theorem dZM_pack_86 : decode cZM_pack 86 = .ok (.iload_n 3, 1) := by decide +kernel
theorem dZM_pack_87 : decode cZM_pack 87 = .ok (.imul, 1) := by decide +kernel
theorem dZM_pack_88 : decode cZM_pack 88 = .ok (.iload 6, 2) := by decide +kernel
theorem dZM_pack_90 : decode cZM_pack 90 = .ok (.iload 4, 2) := by decide +kernel
theorem dZM_pack_92 : decode cZM_pack 92 = .ok (.idiv, 1) := by decide +kernel
theorem dZM_pack_93 : decode cZM_pack 93 = .ok (.iadd, 1) := by decide +kernel
theorem dZM_pack_94 : decode cZM_pack 94 = .ok (.invokevirtual 98, 3) := by decide +kernel
theorem dZM_pack_97 : decode cZM_pack 97 = .ok (.iastore, 1) := by decide +kernel
theorem dZM_pack_98 : decode cZM_pack 98 = .ok (.iinc 6 1, 3) := by decide +kernel
theorem dZM_pack_101 : decode cZM_pack 101 = .ok (.goto (-45), 3) := by decide +kernel
theorem dZM_pack_104 : decode cZM_pack 104 = .ok (.aload_n 0, 1) := by decide +kernel
theorem dZM_pack_105 : decode cZM_pack 105 = .ok (.iconst 0, 1) := by decide +kernel
theorem dZM_pack_106 : decode cZM_pack 106 = .ok (.putfield 101, 3) := by decide +kernel
theorem dZM_pack_109 : decode cZM_pack 109 = .ok (.aload_n 0, 1) := by decide +kernel
theorem dZM_pack_110 : decode cZM_pack 110 = .ok (.iload 4, 2) := by decide +kernel
theorem dZM_pack_112 : decode cZM_pack 112 = .ok (.invokevirtual 118, 3) := by decide +kernel
theorem dZM_pack_115 : decode cZM_pack 115 = .ok (.aload_n 0, 1) := by decide +kernel
theorem dZM_pack_116 : decode cZM_pack 116 = .ok (.iload 5, 2) := by decide +kernel
theorem dZM_pack_118 : decode cZM_pack 118 = .ok (.invokevirtual 118, 3) := by decide +kernel
theorem dZM_pack_121 : decode cZM_pack 121 = .ok (.iconst 0, 1) := by decide +kernel
theorem dZM_pack_122 : decode cZM_pack 122 = .ok (.istore 6, 2) := by decide +kernel
theorem dZM_pack_124 : decode cZM_pack 124 = .ok (.iload 6, 2) := by decide +kernel
theorem dZM_pack_126 : decode cZM_pack 126 = .ok (.iload 5, 2) := by decide +kernel
theorem dZM_pack_128 : decode cZM_pack 128 = .ok (.if_icmp .ge 17, 3) := by decide +kernel
theorem dZM_pack_131 : decode cZM_pack 131 = .ok (.aload_n 0, 1) := by decide +kernel
theorem dZM_pack_132 : decode cZM_pack 132 = .ok (.iload 6, 2) := by decide +kernel
theorem dZM_pack_134 : decode cZM_pack 134 = .ok (.iload 4, 2) := by decide +kernel
theorem dZM_pack_136 : decode cZM_pack 136 = .ok (.invokevirtual 122, 3) := by decide +kernel
theorem dZM_pack_139 : decode cZM_pack 139 = .ok (.iinc 6 1, 3) := by decide +kernel
theorem dZM_pack_142 : decode cZM_pack 142 = .ok (.goto (-18), 3) := by decide +kernel
theorem dZM_pack_145 : decode cZM_pack 145 = .ok (.aload_n 0, 1) := by decide +kernel
theorem dZM_pack_146 : decode cZM_pack 146 = .ok (.aload_n 0, 1) := by decide +kernel
theorem dZM_pack_147 : decode cZM_pack 147 = .ok (.getfield 101, 3) := by decide +kernel
theorem dZM_pack_150 : decode cZM_pack 150 = .ok (.invokevirtual 126, 3) := by decide +kernel
theorem dZM_pack_153 : decode cZM_pack 153 = .ok (.istore 6, 2) := by decide +kernel
theorem dZM_pack_155 : decode cZM_pack 155 = .ok (.aload_n 0, 1) := by decide +kernel
theorem dZM_pack_156 : decode cZM_pack 156 = .ok (.iload 6, 2) := by decide +kernel
theorem dZM_pack_158 : decode cZM_pack 158 = .ok (.sipush 255, 3) := by decide +kernel
theorem dZM_pack_161 : decode cZM_pack 161 = .ok (.iand, 1) := by decide +kernel
theorem dZM_pack_162 : decode cZM_pack 162 = .ok (.invokevirtual 118, 3) := by decide +kernel
theorem dZM_pack_165 : decode cZM_pack 165 = .ok (.aload_n 0, 1) := by decide +kernel
theorem dZM_pack_166 : decode cZM_pack 166 = .ok (.iload 6, 2) := by decide +kernel
theorem dZM_pack_168 : decode cZM_pack 168 = .ok (.bipush 8, 2) := by decide +kernel
theorem dZM_pack_170 : decode cZM_pack 170 = .ok (.ishr, 1) := by decide +kernel
theorem dZM_pack_171 : decode cZM_pack 171 = .ok (.invokevirtual 118, 3) := by decide +kernel
theorem dZM_pack_174 : decode cZM_pack 174 = .ok (.aload_n 0, 1) := by decide +kernel
theorem dZM_pack_175 : decode cZM_pack 175 = .ok (.getfield 101, 3) := by decide +kernel
theorem dZM_pack_178 : decode cZM_pack 178 = .ok (.ireturn, 1) := by decide +kernel
abbrev wsZM_pack : List Cond := .code yZM_pack cZM_pack 7 (some .int) :: tbg
def lp_ZM_pack_56 (zt : Int32) (zw : Int32) (zh : Int32) (zp : Nat → Int32) (zs : Nat → Int32) (zb : Nat → Int32) (zz : Int32) (zl : Nat → Int32) (zo : Nat → Int32) (zc : Int32) (zr : Int32) (zu : Int32) (zv : Int32) (zq : Int32) (zi : Int32) (zk : Nat → Int32) (zm : Nat → Int32) (zd : Int32) (zg : Nat → Int32) (a1 : Int32) (a2 : Int32) (a3 : Int32) (r_1 : Int32) (t0_j16 : Int32) (r_3 : Int32) (zt_2 : Int32) (r_5 : Int32) (r_6 : Int32) (r_7 : Int32) (r_8 : Int32) (post : Int32 → Int32 → (Nat → Int32) → Int32 → (Nat → Int32) → Prop) (K56 : Int32 → (Nat → Int32) → Prop) (n : Nat) : Int32 → (Nat → Int32) → Prop := Nat.rec (motive := fun _ => Int32 → (Nat → Int32) → Prop) (fun (x6_56 : Int32) (f_56_ozg : Nat → Int32) => False) (fun _ ih56 (x6_56 : Int32) (f_56_ozg : Nat → Int32) => (((r_6 * r_8) ≤ x6_56 → (K56 x6_56 f_56_ozg)) ∧ (¬ (r_6 * r_8) ≤ x6_56 → (¬ r_6 = 0 ∧ (¬ r_6 = 0 ∧ (wp_ZM_sample zt_2 zw zh zp zs zb zz zl zo zc zr zu zv zq zi zk zm zd f_56_ozg a1 (((8 : Int32) * a2) + (x6_56 - x6_56 / r_6 * r_6)) (((8 : Int32) * a3) + (x6_56 / r_6)) (fun r_12 : Int32 => vp_in x6_56 64 ∧ (ih56 (x6_56 + (1 : Int32)) (upd f_56_ozg x6_56.toNatClampNeg r_12))))))))) n
def lp_ZM_pack_124 (zt : Int32) (zw : Int32) (zh : Int32) (zp : Nat → Int32) (zs : Nat → Int32) (zb : Nat → Int32) (zz : Int32) (zl : Nat → Int32) (zo : Nat → Int32) (zc : Int32) (zr : Int32) (zu : Int32) (zv : Int32) (zq : Int32) (zi : Int32) (zk : Nat → Int32) (zm : Nat → Int32) (zd : Int32) (zg : Nat → Int32) (a1 : Int32) (a2 : Int32) (a3 : Int32) (r_1 : Int32) (t0_j16 : Int32) (r_3 : Int32) (zt_2 : Int32) (r_5 : Int32) (r_6 : Int32) (r_7 : Int32) (r_8 : Int32) (x6_56e : Int32) (f_56e_ozg : Nat → Int32) (zb_14 : Nat → Int32) (zz_15 : Int32) (zb_16 : Nat → Int32) (zz_17 : Int32) (post : Int32 → Int32 → (Nat → Int32) → Int32 → (Nat → Int32) → Prop) (K124 : Int32 → Int32 → (Nat → Int32) → Prop) (n : Nat) : Int32 → Int32 → (Nat → Int32) → Prop := Nat.rec (motive := fun _ => Int32 → Int32 → (Nat → Int32) → Prop) (fun (x6_124 : Int32) (v6_124_om : Int32) (f_124_ozb : Nat → Int32) => False) (fun _ ih124 (x6_124 : Int32) (v6_124_om : Int32) (f_124_ozb : Nat → Int32) => ((r_8 ≤ x6_124 → (K124 x6_124 v6_124_om f_124_ozb)) ∧ (¬ r_8 ≤ x6_124 → (wp_ZM_writeRow zt_2 zw zh zp zs f_124_ozb v6_124_om zl zo zc zr zu zv zq zi zk zm zd f_56e_ozg x6_124 r_6 (fun (zb_19 : Nat → Int32) (zz_20 : Int32) => ih124 (x6_124 + (1 : Int32)) zz_20 zb_19))))) n
def wp_ZM_pack (zt : Int32) (zw : Int32) (zh : Int32) (zp : Nat → Int32) (zs : Nat → Int32) (zb : Nat → Int32) (zz : Int32) (zl : Nat → Int32) (zo : Nat → Int32) (zc : Int32) (zr : Int32) (zu : Int32) (zv : Int32) (zq : Int32) (zi : Int32) (zk : Nat → Int32) (zm : Nat → Int32) (zd : Int32) (zg : Nat → Int32) (a1 : Int32) (a2 : Int32) (a3 : Int32) (post : Int32 → Int32 → (Nat → Int32) → Int32 → (Nat → Int32) → Prop) : Prop := wp_ZM_isTile zt zw zh zp zs zb zz zl zo zc zr zu zv zq zi zk zm zd zg a1 a2 a3 (fun r_1 : Int32 => ∃ J16 : Int32 → Prop, (∀ (t0_j16 : Int32), J16 t0_j16 → wp_ZM_throwing zt zw zh zp zs zb zz zl zo zc zr zu zv zq zi zk zm zd zg t0_j16 (0 : Int32) (fun (r_3 : Int32) (zt_2 : Int32) => ((r_3 = (0 : Int32) → (wp_ZM_across zt_2 zw zh zp zs zb zz zl zo zc zr zu zv zq zi zk zm zd zg a1 (fun r_5 : Int32 => wp_ZM_part ((8 : Int32) * a2) r_5 (fun r_6 : Int32 => wp_ZM_down zt_2 zw zh zp zs zb zz zl zo zc zr zu zv zq zi zk zm zd zg a1 (fun r_7 : Int32 => wp_ZM_part ((8 : Int32) * a3) r_7 (fun r_8 : Int32 => ∃ n : Nat, lp_ZM_pack_56 zt zw zh zp zs zb zz zl zo zc zr zu zv zq zi zk zm zd zg a1 a2 a3 r_1 t0_j16 r_3 zt_2 r_5 r_6 r_7 r_8 post (fun (x6_56e : Int32) (f_56e_ozg : Nat → Int32) => wp_ZM_write zt_2 zw zh zp zs zb (0 : Int32) zl zo zc zr zu zv zq zi zk zm zd f_56e_ozg r_6 (fun (zb_14 : Nat → Int32) (zz_15 : Int32) => wp_ZM_write zt_2 zw zh zp zs zb_14 zz_15 zl zo zc zr zu zv zq zi zk zm zd f_56e_ozg r_8 (fun (zb_16 : Nat → Int32) (zz_17 : Int32) => ∃ n : Nat, lp_ZM_pack_124 zt zw zh zp zs zb zz zl zo zc zr zu zv zq zi zk zm zd zg a1 a2 a3 r_1 t0_j16 r_3 zt_2 r_5 r_6 r_7 r_8 x6_56e f_56e_ozg zb_14 zz_15 zb_16 zz_17 post (fun (x6_124e : Int32) (v6_124e_om : Int32) (f_124e_ozb : Nat → Int32) => wp_ZM_sum zt_2 zw zh zp zs f_124e_ozb v6_124e_om zl zo zc zr zu zv zq zi zk zm zd f_56e_ozg v6_124e_om (fun r_21 : Int32 => wp_ZM_write zt_2 zw zh zp zs f_124e_ozb v6_124e_om zl zo zc zr zu zv zq zi zk zm zd f_56e_ozg (r_21 &&& (255 : Int32)) (fun (zb_22 : Nat → Int32) (zz_23 : Int32) => wp_ZM_write zt_2 zw zh zp zs zb_22 zz_23 zl zo zc zr zu zv zq zi zk zm zd f_56e_ozg (r_21 >>> ((8 : Int32) &&& 31)) (fun (zb_24 : Nat → Int32) (zz_25 : Int32) => post zz_25 zt_2 zb_24 zz_25 f_56e_ozg)))) n (0 : Int32) zz_17 zb_16))) n (0 : Int32) zg)))))) ∧ (¬ r_3 = (0 : Int32) → (post (0 : Int32) zt_2 zb zz zg))))) ∧ (((r_1 = (0 : Int32) → (J16 (1 : Int32))) ∧ (¬ r_1 = (0 : Int32) → (J16 (0 : Int32))))))
abbrev rm_ZM_pack : Room := { frames := 4, cells := 0, slots := 0, locals := 88 }
set_option maxHeartbeats 4000000 in
set_option maxRecDepth 100000 in
theorem kt_ZM_pack (l : Launch) (dC : Nat → ClassId) (dI : Nat → Nat → Nat) (cI : ClassId) (om ozp ozs ozb ozl ozo ozk ozm ozg : Nat) (sz : Nat) (zt : Int32) (zw : Int32) (zh : Int32) (zp : Nat → Int32) (zs : Nat → Int32) (zb : Nat → Int32) (zz : Int32) (zl : Nat → Int32) (zo : Nat → Int32) (zc : Int32) (zr : Int32) (zu : Int32) (zv : Int32) (zq : Int32) (zi : Int32) (zk : Nat → Int32) (zm : Nat → Int32) (zd : Int32) (zg : Nat → Int32) (a1 : Int32) (a2 : Int32) (a3 : Int32) (post : Int32 → Int32 → (Nat → Int32) → Int32 → (Nat → Int32) → Prop) (hw : wp_ZM_pack zt zw zh zp zs zb zz zl zo zc zr zu zv zq zi zk zm zd zg a1 a2 a3 post) : Met l yZM_pack wsZM_pack rm_ZM_pack (gw_Pc dC dI [(cI, .int)] [.ref om, .int a1, .int a2, .int a3] [(om, .inr (6, [.int zt, .int zw, .int zh, .ref ozp, .ref ozs, .ref ozb, .int zz, .ref ozl, .ref ozo, .int zc, .int zr, .int zu, .int zv, .int zq, .int zi, .ref ozk, .ref ozm, .int zd, .ref ozg])), (ozp, .inl (cI, 1600, .inl zp)), (ozs, .inl (cI, 320, .inl zs)), (ozb, .inl (cI, 256, .inl zb)), (ozl, .inl (cI, 64, .inl zl)), (ozo, .inl (cI, 64, .inl zo)), (ozk, .inl (cI, 320, .inl zk)), (ozm, .inl (cI, 40, .inl zm)), (ozg, .inl (cI, 64, .inl zg))] sz) (va_Qi (fun (r : Int32) (u : Int32 × (Nat → Int32) × Int32 × (Nat → Int32)) => post r u.1 u.2.1 u.2.2.1 u.2.2.2) (fun u t => gw_B dC dI [(cI, .int)] (va_A [(om, .inr (6, [.int zt, .int zw, .int zh, .ref ozp, .ref ozs, .ref ozb, .int zz, .ref ozl, .ref ozo, .int zc, .int zr, .int zu, .int zv, .int zq, .int zi, .ref ozk, .ref ozm, .int zd, .ref ozg])), (ozp, .inl (cI, 1600, .inl zp)), (ozs, .inl (cI, 320, .inl zs)), (ozb, .inl (cI, 256, .inl zb)), (ozl, .inl (cI, 64, .inl zl)), (ozo, .inl (cI, 64, .inl zo)), (ozk, .inl (cI, 320, .inl zk)), (ozm, .inl (cI, 40, .inl zm)), (ozg, .inl (cI, 64, .inl zg))] sz) [(om, .inr (6, [.int u.1, .int zw, .int zh, .ref ozp, .ref ozs, .ref ozb, .int u.2.2.1, .ref ozl, .ref ozo, .int zc, .int zr, .int zu, .int zv, .int zq, .int zi, .ref ozk, .ref ozm, .int zd, .ref ozg])), (ozp, .inl (cI, 1600, .inl zp)), (ozs, .inl (cI, 320, .inl zs)), (ozb, .inl (cI, 256, .inl u.2.1)), (ozl, .inl (cI, 64, .inl zl)), (ozo, .inl (cI, 64, .inl zo)), (ozk, .inl (cI, 320, .inl zk)), (ozm, .inl (cI, 40, .inl zm)), (ozg, .inl (cI, 64, .inl u.2.2.2))] t) (va_A [(om, .inr (6, [.int zt, .int zw, .int zh, .ref ozp, .ref ozs, .ref ozb, .int zz, .ref ozl, .ref ozo, .int zc, .int zr, .int zu, .int zv, .int zq, .int zi, .ref ozk, .ref ozm, .int zd, .ref ozg])), (ozp, .inl (cI, 1600, .inl zp)), (ozs, .inl (cI, 320, .inl zs)), (ozb, .inl (cI, 256, .inl zb)), (ozl, .inl (cI, 64, .inl zl)), (ozo, .inl (cI, 64, .inl zo)), (ozk, .inl (cI, 320, .inl zk)), (ozm, .inl (cI, 40, .inl zm)), (ozg, .inl (cI, 64, .inl zg))] sz)) 0 0 (va_A [(om, .inr (6, [.int zt, .int zw, .int zh, .ref ozp, .ref ozs, .ref ozb, .int zz, .ref ozl, .ref ozo, .int zc, .int zr, .int zu, .int zv, .int zq, .int zi, .ref ozk, .ref ozm, .int zd, .ref ozg])), (ozp, .inl (cI, 1600, .inl zp)), (ozs, .inl (cI, 320, .inl zs)), (ozb, .inl (cI, 256, .inl zb)), (ozl, .inl (cI, 64, .inl zl)), (ozo, .inl (cI, 64, .inl zo)), (ozk, .inl (cI, 320, .inl zk)), (ozm, .inl (cI, 40, .inl zm)), (ozg, .inl (cI, 64, .inl zg))] sz) := by
  refine Met.ofW (cc := cZM_pack) (maxL := 7) (ret := (some .int)) (by decide) rfl ?_
  intro p e s m args below meth c s₁ B hml hv
  obtain ⟨ha9, hsz, hP, hK, hE, hD0⟩ := hv
  have hx := B.exec
  have hb := B.bytes
  have hr := B.returns
  have hts0 := atoms_spec (ws := wsZM_pack) B.pre
  have hts : ∀ w ∈ tbg, w.before args s = true := fun w h => hts0 w (List.mem_cons_of_mem _ h)
  have hown : s.vm.findClass RZM = some m.cls := findClass_of_methodNamed B.named
  have hlocks := B.notSynchronized
  subst hsz
  have hD := hD0.self (sz := s.heap.size)
  refine gx_Q (fun Q9 hQ9 => ?_)
  generalize hAe : va_A [(om, .inr (6, [.int zt, .int zw, .int zh, .ref ozp, .ref ozs, .ref ozb, .int zz, .ref ozl, .ref ozo, .int zc, .int zr, .int zu, .int zv, .int zq, .int zi, .ref ozk, .ref ozm, .int zd, .ref ozg])), (ozp, .inl (cI, 1600, .inl zp)), (ozs, .inl (cI, 320, .inl zs)), (ozb, .inl (cI, 256, .inl zb)), (ozl, .inl (cI, 64, .inl zl)), (ozo, .inl (cI, 64, .inl zo)), (ozk, .inl (cI, 320, .inl zk)), (ozm, .inl (cI, 40, .inl zm)), (ozg, .inl (cI, 64, .inl zg))] s.heap.size = A at hD hQ9 ⊢
  have hA : ∀ q : Nat, s.heap.size ≤ q → A q := fun q h => by rw [← hAe]; exact Or.inr h
  have hS : va_S A s.heap s.heap [] := va_S.rf
  have hl := lv_entry ([.ref om, .int a1, .int a2, .int a3]) (n := 7) (Nat.le_of_ble_eq_true rfl)
  have he9 : entryFrame m args 7 = F0 m 0 ((lg_sl [.ref om, .int a1, .int a2, .int a3] ++ List.replicate (7 - (lg_sl ([.ref om, .int a1, .int a2, .int a3] : List Value)).length) Slot.unset).toArray) [] := by rw [ha9]; exact lg_entry_eq m [.ref om, .int a1, .int a2, .int a3] 7
  rw [he9]
  generalize (lg_sl ([.ref om, .int a1, .int a2, .int a3] : List Value) ++ List.replicate (7 - (lg_sl ([.ref om, .int a1, .int a2, .int a3] : List Value)).length) Slot.unset).toArray = ls at hl ⊢
  have hl : lv_has ls 7 [(0, .ref om), (1, .int a1), (2, .int a2), (3, .int a3)] := hl
  refine lv_aload_n hx hb dZM_pack_0 rfl (lv_at hl 0 rfl) ?_
  refine lv_aload_n hx hb dZM_pack_1 rfl (lv_at hl 0 rfl) ?_
  refine lv_iload_n hx hb dZM_pack_2 rfl (lv_at hl 1 rfl) ?_
  refine lv_iload_n hx hb dZM_pack_3 rfl (lv_at hl 2 rfl) ?_
  refine lv_iload_n hx hb dZM_pack_4 rfl (lv_at hl 3 rfl) ?_
  refine vp_callSi (va_runV (As := [.int a1, .int a2, .int a3]) (rest := [.ref om]) ⟨hx, hb, hml, hown, hts⟩ (kt_ZM_isTile l dC dI cI om ozp ozs ozb ozl ozo ozk ozm ozg zt zw zh zp zs zb zz zl zo zc zr zu zv zq zi zk zm zd zg a1 a2 a3 _ hw) (cwV 3 hts (tb_V mm_771 mm_773 mp_15 mm_8 mm_774) rfl rfl rfl (by decide +kernel) ⟨Nat.le_of_ble_eq_true rfl, Nat.le_of_ble_eq_true rfl⟩) ⟨gr_blind, va_recv hK hP (ci := 6) (q0 := 0) rfl rfl, fun U hU hW => gr_pre hP hK hE hU hW⟩ rfl rfl hl.1 rfl (lv_room (Nat.le_of_ble_eq_true rfl)) dZM_pack_5 ⟨Nat.le_of_ble_eq_true rfl, Nat.le_of_ble_eq_true rfl⟩).run (fun r_1 hw => ?_)
  obtain ⟨J16, hJ16, hw⟩ := hw
  have j16 : ∀ (t0_j16 : Int32), J16 t0_j16 → ∀ (H : Heap) (locs : List Loc), va_P (dC, dI) vwCl [(om, .inr (6, [.int zt, .int zw, .int zh, .ref ozp, .ref ozs, .ref ozb, .int zz, .ref ozl, .ref ozo, .int zc, .int zr, .int zu, .int zv, .int zq, .int zi, .ref ozk, .ref ozm, .int zd, .ref ozg])), (ozp, .inl (cI, 1600, .inl zp)), (ozs, .inl (cI, 320, .inl zs)), (ozb, .inl (cI, 256, .inl zb)), (ozl, .inl (cI, 64, .inl zl)), (ozo, .inl (cI, 64, .inl zo)), (ozk, .inl (cI, 320, .inl zk)), (ozm, .inl (cI, 40, .inl zm)), (ozg, .inl (cI, 64, .inl zg))] H → va_D A [(om, .inr (6, [.int zt, .int zw, .int zh, .ref ozp, .ref ozs, .ref ozb, .int zz, .ref ozl, .ref ozo, .int zc, .int zr, .int zu, .int zv, .int zq, .int zi, .ref ozk, .ref ozm, .int zd, .ref ozg])), (ozp, .inl (cI, 1600, .inl zp)), (ozs, .inl (cI, 320, .inl zs)), (ozb, .inl (cI, 256, .inl zb)), (ozl, .inl (cI, 64, .inl zl)), (ozo, .inl (cI, 64, .inl zo)), (ozk, .inl (cI, 320, .inl zk)), (ozm, .inl (cI, 40, .inl zm)), (ozg, .inl (cI, 64, .inl zg))] → va_S A s.heap H locs → ∀ ls : Array Slot, lv_has ls 7 [(0, .ref om), (1, .int a1), (2, .int a2), (3, .int a3)] → W p l e (headSpec wsZM_pack rm_ZM_pack).room s m args below meth c H locs 0 0 Q9 (F0 m 16 ls [.int t0_j16, .ref om]) := by
    intro t0_j16 hw H locs hP hD hS ls hl
    have hw := hJ16 t0_j16 hw
    refine lv_iconst (v := (0 : Int32)) hx hb dZM_pack_16 (by decide) ?_
    have hPc := hP.sub (ws' := [(om, .inr (6, [.int zt, .int zw, .int zh, .ref ozp, .ref ozs, .ref ozb, .int zz, .ref ozl, .ref ozo, .int zc, .int zr, .int zu, .int zv, .int zq, .int zi, .ref ozk, .ref ozm, .int zd, .ref ozg])), (ozp, .inl (cI, 1600, .inl zp)), (ozs, .inl (cI, 320, .inl zs)), (ozb, .inl (cI, 256, .inl zb)), (ozl, .inl (cI, 64, .inl zl)), (ozo, .inl (cI, 64, .inl zo)), (ozk, .inl (cI, 320, .inl zk)), (ozm, .inl (cI, 40, .inl zm)), (ozg, .inl (cI, 64, .inl zg))]) [0, 1, 2, 3, 4, 5, 6, 7, 8] rfl
    have hDc := hD.sub (ws' := [(om, .inr (6, [.int zt, .int zw, .int zh, .ref ozp, .ref ozs, .ref ozb, .int zz, .ref ozl, .ref ozo, .int zc, .int zr, .int zu, .int zv, .int zq, .int zi, .ref ozk, .ref ozm, .int zd, .ref ozg])), (ozp, .inl (cI, 1600, .inl zp)), (ozs, .inl (cI, 320, .inl zs)), (ozb, .inl (cI, 256, .inl zb)), (ozl, .inl (cI, 64, .inl zl)), (ozo, .inl (cI, 64, .inl zo)), (ozk, .inl (cI, 320, .inl zk)), (ozm, .inl (cI, 40, .inl zm)), (ozg, .inl (cI, 64, .inl zg))]) [0, 1, 2, 3, 4, 5, 6, 7, 8] (by decide) rfl
    have hFc := va_free (wc := [(om, .inr (6, [.int zt, .int zw, .int zh, .ref ozp, .ref ozs, .ref ozb, .int zz, .ref ozl, .ref ozo, .int zc, .int zr, .int zu, .int zv, .int zq, .int zi, .ref ozk, .ref ozm, .int zd, .ref ozg])), (ozp, .inl (cI, 1600, .inl zp)), (ozs, .inl (cI, 320, .inl zs)), (ozb, .inl (cI, 256, .inl zb)), (ozl, .inl (cI, 64, .inl zl)), (ozo, .inl (cI, 64, .inl zo)), (ozk, .inl (cI, 320, .inl zk)), (ozm, .inl (cI, 40, .inl zm)), (ozg, .inl (cI, 64, .inl zg))]) hD hS hA [0, 1, 2, 3, 4, 5, 6, 7, 8] rfl
    refine va_calli (va_runV (As := [.int t0_j16, .int (0 : Int32)]) (rest := []) ⟨hx, hb, hml, hown, hts⟩ (kt_ZM_throwing l dC dI cI om ozp ozs ozb ozl ozo ozk ozm ozg _ zt zw zh zp zs zb zz zl zo zc zr zu zv zq zi zk zm zd zg t0_j16 (0 : Int32) _ hw) (cwV 2 hts (tb_V mm_693 mm_695 mp_5 mm_8 mm_696) rfl rfl rfl (by decide +kernel) ⟨Nat.le_of_ble_eq_true rfl, Nat.le_of_ble_eq_true rfl⟩) ⟨gw_blind, va_recv hK hPc (ci := 6) (q0 := 0) rfl rfl, fun U hU hW => gw_pre hPc hDc hK hE hU hW⟩ rfl rfl hl.1 rfl (lv_room (Nat.le_of_ble_eq_true rfl)) dZM_pack_17 ⟨Nat.le_of_ble_eq_true rfl, Nat.le_of_ble_eq_true rfl⟩) hS (fun q _ h => hFc q h) hFc (fun r_3 zt_2 t H1 locs ht hvm hw hB hz1 hk1 hS => ?_)
    obtain ⟨hP1, hK1, hD1⟩ := hB
    rw [ht] at hP1
    try dsimp only at hw
    obtain ⟨hP, hD⟩ := va_join (wr := []) (w1 := [(om, .inr (6, [.int zt_2, .int zw, .int zh, .ref ozp, .ref ozs, .ref ozb, .int zz, .ref ozl, .ref ozo, .int zc, .int zr, .int zu, .int zv, .int zq, .int zi, .ref ozk, .ref ozm, .int zd, .ref ozg])), (ozp, .inl (cI, 1600, .inl zp)), (ozs, .inl (cI, 320, .inl zs)), (ozb, .inl (cI, 256, .inl zb)), (ozl, .inl (cI, 64, .inl zl)), (ozo, .inl (cI, 64, .inl zo)), (ozk, .inl (cI, 320, .inl zk)), (ozm, .inl (cI, 40, .inl zm)), (ozg, .inl (cI, 64, .inl zg))]) hP hD [0, 1, 2, 3, 4, 5, 6, 7, 8] [] rfl rfl (by decide) (by decide) hk1 hFc hP1 hD1
    generalize H1 = H at hP hS ⊢
    have hP : va_P (dC, dI) vwCl [(om, .inr (6, [.int zt_2, .int zw, .int zh, .ref ozp, .ref ozs, .ref ozb, .int zz, .ref ozl, .ref ozo, .int zc, .int zr, .int zu, .int zv, .int zq, .int zi, .ref ozk, .ref ozm, .int zd, .ref ozg])), (ozp, .inl (cI, 1600, .inl zp)), (ozs, .inl (cI, 320, .inl zs)), (ozb, .inl (cI, 256, .inl zb)), (ozl, .inl (cI, 64, .inl zl)), (ozo, .inl (cI, 64, .inl zo)), (ozk, .inl (cI, 320, .inl zk)), (ozm, .inl (cI, 40, .inl zm)), (ozg, .inl (cI, 64, .inl zg))] H := hP
    have hD : va_D A [(om, .inr (6, [.int zt_2, .int zw, .int zh, .ref ozp, .ref ozs, .ref ozb, .int zz, .ref ozl, .ref ozo, .int zc, .int zr, .int zu, .int zv, .int zq, .int zi, .ref ozk, .ref ozm, .int zd, .ref ozg])), (ozp, .inl (cI, 1600, .inl zp)), (ozs, .inl (cI, 320, .inl zs)), (ozb, .inl (cI, 256, .inl zb)), (ozl, .inl (cI, 64, .inl zl)), (ozo, .inl (cI, 64, .inl zo)), (ozk, .inl (cI, 320, .inl zk)), (ozm, .inl (cI, 40, .inl zm)), (ozg, .inl (cI, 64, .inl zg))] := hD
    refine lv_if_eq (tgt := 25) hx hb dZM_pack_20 (by decide) (fun c_4 => ?_) (fun c_4 => ?_)
    · have hw := hw.1 c_4
      refine lv_bipush (v := (8 : Int32)) hx hb dZM_pack_25 (by decide) ?_
      refine lv_iload_n hx hb dZM_pack_27 rfl (lv_at hl 2 rfl) ?_
      refine lv_imul hx hb dZM_pack_28 ?_
      refine lv_aload_n hx hb dZM_pack_29 rfl (lv_at hl 0 rfl) ?_
      refine lv_iload_n hx hb dZM_pack_30 rfl (lv_at hl 1 rfl) ?_
      refine vp_callSi (va_runV (As := [.int a1]) (rest := [.int ((8 : Int32) * a2)]) ⟨hx, hb, hml, hown, hts⟩ (kt_ZM_across l dC dI cI om ozp ozs ozb ozl ozo ozk ozm ozg zt_2 zw zh zp zs zb zz zl zo zc zr zu zv zq zi zk zm zd zg a1 _ hw) (cwV 1 hts (tb_V mm_723 mm_725 mp_8 mm_8 mm_726) rfl rfl rfl (by decide +kernel) ⟨Nat.le_of_ble_eq_true rfl, Nat.le_of_ble_eq_true rfl⟩) ⟨gr_blind, va_recv hK hP (ci := 6) (q0 := 0) rfl rfl, fun U hU hW => gr_pre hP hK hE hU hW⟩ rfl rfl hl.1 rfl (lv_room (Nat.le_of_ble_eq_true rfl)) dZM_pack_31 ⟨Nat.le_of_ble_eq_true rfl, Nat.le_of_ble_eq_true rfl⟩).run (fun r_5 hw => ?_)
      have hPc := hP.sub (ws' := []) [] rfl
      refine vp_callSi (va_runS (As := [.int ((8 : Int32) * a2), .int r_5]) (rest := []) ⟨hx, hb, hml, hown, hts⟩ (kt_ZM_part l dC dI cI  ((8 : Int32) * a2) r_5 _ hw) (va_cwS 2 hts (tb_S mm_775 mm_776 mm_8 mm_777) rfl rfl rfl (by decide +kernel) ⟨Nat.le_of_ble_eq_true rfl, Nat.le_of_ble_eq_true rfl⟩) ⟨gr_blind, fun U hU hW => gr_pre hPc hK hE hU hW⟩ rfl rfl hl.1 rfl (lv_room (Nat.le_of_ble_eq_true rfl)) dZM_pack_34 ⟨Nat.le_of_ble_eq_true rfl, Nat.le_of_ble_eq_true rfl⟩).run (fun r_6 hw => ?_)
      refine lv_istore (lv' := [(4, .int r_6), (0, .ref om), (1, .int a1), (2, .int a2), (3, .int a3)]) hx hb dZM_pack_37 hl (by decide) rfl (fun ls hl => ?_)
      refine lv_bipush (v := (8 : Int32)) hx hb dZM_pack_39 (by decide) ?_
      refine lv_iload_n hx hb dZM_pack_41 rfl (lv_at hl 4 rfl) ?_
      refine lv_imul hx hb dZM_pack_42 ?_
      refine lv_aload_n hx hb dZM_pack_43 rfl (lv_at hl 1 rfl) ?_
      refine lv_iload_n hx hb dZM_pack_44 rfl (lv_at hl 2 rfl) ?_
      refine vp_callSi (va_runV (As := [.int a1]) (rest := [.int ((8 : Int32) * a3)]) ⟨hx, hb, hml, hown, hts⟩ (kt_ZM_down l dC dI cI om ozp ozs ozb ozl ozo ozk ozm ozg zt_2 zw zh zp zs zb zz zl zo zc zr zu zv zq zi zk zm zd zg a1 _ hw) (cwV 1 hts (tb_V mm_727 mm_729 mp_9 mm_8 mm_730) rfl rfl rfl (by decide +kernel) ⟨Nat.le_of_ble_eq_true rfl, Nat.le_of_ble_eq_true rfl⟩) ⟨gr_blind, va_recv hK hP (ci := 6) (q0 := 0) rfl rfl, fun U hU hW => gr_pre hP hK hE hU hW⟩ rfl rfl hl.1 rfl (lv_room (Nat.le_of_ble_eq_true rfl)) dZM_pack_45 ⟨Nat.le_of_ble_eq_true rfl, Nat.le_of_ble_eq_true rfl⟩).run (fun r_7 hw => ?_)
      have hPc := hP.sub (ws' := []) [] rfl
      refine vp_callSi (va_runS (As := [.int ((8 : Int32) * a3), .int r_7]) (rest := []) ⟨hx, hb, hml, hown, hts⟩ (kt_ZM_part l dC dI cI  ((8 : Int32) * a3) r_7 _ hw) (va_cwS 2 hts (tb_S mm_775 mm_776 mm_8 mm_777) rfl rfl rfl (by decide +kernel) ⟨Nat.le_of_ble_eq_true rfl, Nat.le_of_ble_eq_true rfl⟩) ⟨gr_blind, fun U hU hW => gr_pre hPc hK hE hU hW⟩ rfl rfl hl.1 rfl (lv_room (Nat.le_of_ble_eq_true rfl)) dZM_pack_48 ⟨Nat.le_of_ble_eq_true rfl, Nat.le_of_ble_eq_true rfl⟩).run (fun r_8 hw => ?_)
      refine lv_istore (lv' := [(5, .int r_8), (4, .int r_6), (0, .ref om), (1, .int a1), (2, .int a2), (3, .int a3)]) hx hb dZM_pack_51 hl (by decide) rfl (fun ls hl => ?_)
      refine lv_iconst (v := (0 : Int32)) hx hb dZM_pack_53 (by decide) ?_
      refine lv_istore (lv' := [(6, .int (0 : Int32)), (5, .int r_8), (4, .int r_6), (0, .ref om), (1, .int a1), (2, .int a2), (3, .int a3)]) hx hb dZM_pack_54 hl (by decide) rfl (fun ls hl => ?_)
      have lp56 : ∀ K56 : Int32 → (Nat → Int32) → Prop, (∀ (x6_56 : Int32) (f_56_ozg : Nat → Int32), K56 x6_56 f_56_ozg → ∀ (H : Heap) (locs : List Loc), va_P (dC, dI) vwCl [(om, .inr (6, [.int zt_2, .int zw, .int zh, .ref ozp, .ref ozs, .ref ozb, .int zz, .ref ozl, .ref ozo, .int zc, .int zr, .int zu, .int zv, .int zq, .int zi, .ref ozk, .ref ozm, .int zd, .ref ozg])), (ozp, .inl (cI, 1600, .inl zp)), (ozs, .inl (cI, 320, .inl zs)), (ozb, .inl (cI, 256, .inl zb)), (ozl, .inl (cI, 64, .inl zl)), (ozo, .inl (cI, 64, .inl zo)), (ozk, .inl (cI, 320, .inl zk)), (ozm, .inl (cI, 40, .inl zm)), (ozg, .inl (cI, 64, .inl f_56_ozg))] H → va_D A [(om, .inr (6, [.int zt_2, .int zw, .int zh, .ref ozp, .ref ozs, .ref ozb, .int zz, .ref ozl, .ref ozo, .int zc, .int zr, .int zu, .int zv, .int zq, .int zi, .ref ozk, .ref ozm, .int zd, .ref ozg])), (ozp, .inl (cI, 1600, .inl zp)), (ozs, .inl (cI, 320, .inl zs)), (ozb, .inl (cI, 256, .inl zb)), (ozl, .inl (cI, 64, .inl zl)), (ozo, .inl (cI, 64, .inl zo)), (ozk, .inl (cI, 320, .inl zk)), (ozm, .inl (cI, 40, .inl zm)), (ozg, .inl (cI, 64, .inl f_56_ozg))] → va_S A s.heap H locs → ∀ ls : Array Slot, lv_has ls 7 [(6, .int x6_56), (5, .int r_8), (4, .int r_6), (0, .ref om), (1, .int a1), (2, .int a2), (3, .int a3)] → W p l e (headSpec wsZM_pack rm_ZM_pack).room s m args below meth c H locs 0 0 Q9 (F0 m 104 ls [])) → ∀ (n : Nat) (x6_56 : Int32) (f_56_ozg : Nat → Int32), lp_ZM_pack_56 zt zw zh zp zs zb zz zl zo zc zr zu zv zq zi zk zm zd zg a1 a2 a3 r_1 t0_j16 r_3 zt_2 r_5 r_6 r_7 r_8 post K56 n x6_56 f_56_ozg → ∀ (H : Heap) (locs : List Loc), va_P (dC, dI) vwCl [(om, .inr (6, [.int zt_2, .int zw, .int zh, .ref ozp, .ref ozs, .ref ozb, .int zz, .ref ozl, .ref ozo, .int zc, .int zr, .int zu, .int zv, .int zq, .int zi, .ref ozk, .ref ozm, .int zd, .ref ozg])), (ozp, .inl (cI, 1600, .inl zp)), (ozs, .inl (cI, 320, .inl zs)), (ozb, .inl (cI, 256, .inl zb)), (ozl, .inl (cI, 64, .inl zl)), (ozo, .inl (cI, 64, .inl zo)), (ozk, .inl (cI, 320, .inl zk)), (ozm, .inl (cI, 40, .inl zm)), (ozg, .inl (cI, 64, .inl f_56_ozg))] H → va_D A [(om, .inr (6, [.int zt_2, .int zw, .int zh, .ref ozp, .ref ozs, .ref ozb, .int zz, .ref ozl, .ref ozo, .int zc, .int zr, .int zu, .int zv, .int zq, .int zi, .ref ozk, .ref ozm, .int zd, .ref ozg])), (ozp, .inl (cI, 1600, .inl zp)), (ozs, .inl (cI, 320, .inl zs)), (ozb, .inl (cI, 256, .inl zb)), (ozl, .inl (cI, 64, .inl zl)), (ozo, .inl (cI, 64, .inl zo)), (ozk, .inl (cI, 320, .inl zk)), (ozm, .inl (cI, 40, .inl zm)), (ozg, .inl (cI, 64, .inl f_56_ozg))] → va_S A s.heap H locs → ∀ ls : Array Slot, lv_has ls 7 [(6, .int x6_56), (5, .int r_8), (4, .int r_6), (0, .ref om), (1, .int a1), (2, .int a2), (3, .int a3)] → W p l e (headSpec wsZM_pack rm_ZM_pack).room s m args below meth c H locs 0 0 Q9 (F0 m 56 ls []) := by
        intro K56 aft56 n
        induction n with
        | zero => intro x6_56 f_56_ozg hw; exact False.elim hw
        | succ n ih56 =>
          intro x6_56 f_56_ozg hw H locs hP hD hS ls hl
          refine lv_iload hx hb dZM_pack_56 (lv_at hl 0 rfl) ?_
          refine lv_iload hx hb dZM_pack_58 (lv_at hl 2 rfl) ?_
          refine lv_iload hx hb dZM_pack_60 (lv_at hl 1 rfl) ?_
          refine lv_imul hx hb dZM_pack_62 ?_
          refine lv_icmp_ge (tgt := 104) hx hb dZM_pack_63 (by decide) (fun c_9 => ?_) (fun c_9 => ?_)
          · have hw := hw.1 c_9
            exact aft56 x6_56 f_56_ozg hw _ _ (hP.sub [0, 1, 2, 3, 4, 5, 6, 7, 8] rfl) (hD.sub [0, 1, 2, 3, 4, 5, 6, 7, 8] (by decide) rfl) hS ls (lv_sub hl [0, 1, 2, 3, 4, 5, 6] rfl)
          · have hw := hw.2 c_9
            refine lv_aload_n hx hb dZM_pack_66 rfl (lv_at hl 3 rfl) ?_
            refine va_get (D := (dC, dI)) (ci := 6) (v := .ref ozg) (C := RZM) (T := TZM) (N := 19) hx hb hts inZM hown hK hP 0 rfl rfl 18 (by decide) (hts _ mm_635) (fun _ h9 => h9) rfl dZM_pack_67 ?_
            refine lv_iload hx hb dZM_pack_70 (lv_at hl 0 rfl) ?_
            refine lv_aload_n hx hb dZM_pack_72 rfl (lv_at hl 3 rfl) ?_
            refine lv_iload_n hx hb dZM_pack_73 rfl (lv_at hl 4 rfl) ?_
            refine lv_bipush (v := (8 : Int32)) hx hb dZM_pack_74 (by decide) ?_
            refine lv_iload_n hx hb dZM_pack_76 rfl (lv_at hl 5 rfl) ?_
            refine lv_imul hx hb dZM_pack_77 ?_
            refine lv_iload hx hb dZM_pack_78 (lv_at hl 0 rfl) ?_
            refine lv_iload hx hb dZM_pack_80 (lv_at hl 2 rfl) ?_
            obtain ⟨h_10, hw⟩ := hw
            refine lv_irem hx hb dZM_pack_82 h_10 ?_
            refine lv_iadd hx hb dZM_pack_83 ?_
            refine lv_bipush (v := (8 : Int32)) hx hb dZM_pack_84 (by decide) ?_
            refine lv_iload_n hx hb dZM_pack_86 rfl (lv_at hl 6 rfl) ?_
            refine lv_imul hx hb dZM_pack_87 ?_
            refine lv_iload hx hb dZM_pack_88 (lv_at hl 0 rfl) ?_
            refine lv_iload hx hb dZM_pack_90 (lv_at hl 2 rfl) ?_
            obtain ⟨h_11, hw⟩ := hw
            refine lv_idiv hx hb dZM_pack_92 h_11 ?_
            refine lv_iadd hx hb dZM_pack_93 ?_
            refine vp_callSi (va_runV (As := [.int a1, .int (((8 : Int32) * a2) + (x6_56 - x6_56 / r_6 * r_6)), .int (((8 : Int32) * a3) + (x6_56 / r_6))]) (rest := [.int x6_56, .ref ozg]) ⟨hx, hb, hml, hown, hts⟩ (kt_ZM_sample l dC dI cI om ozp ozs ozb ozl ozo ozk ozm ozg zt_2 zw zh zp zs zb zz zl zo zc zr zu zv zq zi zk zm zd f_56_ozg a1 (((8 : Int32) * a2) + (x6_56 - x6_56 / r_6 * r_6)) (((8 : Int32) * a3) + (x6_56 / r_6)) _ hw) (cwV 3 hts (tb_V mm_739 mm_741 mp_11 mm_8 mm_742) rfl rfl rfl (by decide +kernel) ⟨Nat.le_of_ble_eq_true rfl, Nat.le_of_ble_eq_true rfl⟩) ⟨gr_blind, va_recv hK hP (ci := 6) (q0 := 0) rfl rfl, fun U hU hW => gr_pre hP hK hE hU hW⟩ rfl rfl hl.1 rfl (lv_room (Nat.le_of_ble_eq_true rfl)) dZM_pack_94 ⟨Nat.le_of_ble_eq_true rfl, Nat.le_of_ble_eq_true rfl⟩).run (fun r_12 hw => ?_)
            obtain ⟨h_13, hw⟩ := hw
            refine va_iast hx hb hK hP hD hS 8 0 rfl rfl h_13 dZM_pack_97 (fun H locs hP hD hS => ?_)
            have hP : va_P (dC, dI) vwCl [(om, .inr (6, [.int zt_2, .int zw, .int zh, .ref ozp, .ref ozs, .ref ozb, .int zz, .ref ozl, .ref ozo, .int zc, .int zr, .int zu, .int zv, .int zq, .int zi, .ref ozk, .ref ozm, .int zd, .ref ozg])), (ozp, .inl (cI, 1600, .inl zp)), (ozs, .inl (cI, 320, .inl zs)), (ozb, .inl (cI, 256, .inl zb)), (ozl, .inl (cI, 64, .inl zl)), (ozo, .inl (cI, 64, .inl zo)), (ozk, .inl (cI, 320, .inl zk)), (ozm, .inl (cI, 40, .inl zm)), (ozg, .inl (cI, 64, .inl (upd f_56_ozg x6_56.toNatClampNeg r_12)))] H := hP
            have hD : va_D A [(om, .inr (6, [.int zt_2, .int zw, .int zh, .ref ozp, .ref ozs, .ref ozb, .int zz, .ref ozl, .ref ozo, .int zc, .int zr, .int zu, .int zv, .int zq, .int zi, .ref ozk, .ref ozm, .int zd, .ref ozg])), (ozp, .inl (cI, 1600, .inl zp)), (ozs, .inl (cI, 320, .inl zs)), (ozb, .inl (cI, 256, .inl zb)), (ozl, .inl (cI, 64, .inl zl)), (ozo, .inl (cI, 64, .inl zo)), (ozk, .inl (cI, 320, .inl zk)), (ozm, .inl (cI, 40, .inl zm)), (ozg, .inl (cI, 64, .inl (upd f_56_ozg x6_56.toNatClampNeg r_12)))] := hD
            refine lv_iinc (v := x6_56 + (1 : Int32)) (lv' := [(6, .int (x6_56 + (1 : Int32))), (5, .int r_8), (4, .int r_6), (0, .ref om), (1, .int a1), (2, .int a2), (3, .int a3)]) hx hb dZM_pack_98 hl (k := 0) rfl rfl (by decide) rfl (fun ls hl => ?_)
            refine lv_goto (tgt := 56) hx hb dZM_pack_101 (by decide) ?_
            exact ih56 (x6_56 + (1 : Int32)) (upd f_56_ozg x6_56.toNatClampNeg r_12) hw _ _ (hP.sub [0, 1, 2, 3, 4, 5, 6, 7, 8] rfl) (hD.sub [0, 1, 2, 3, 4, 5, 6, 7, 8] (by decide) rfl) hS ls (lv_sub hl [0, 1, 2, 3, 4, 5, 6] rfl)
      obtain ⟨n56, hw⟩ := hw
      refine lp56 _ (fun x6_56e f_56e_ozg hw H locs hP hD hS ls hl => ?_) n56 (0 : Int32) zg hw _ _ (hP.sub [0, 1, 2, 3, 4, 5, 6, 7, 8] rfl) (hD.sub [0, 1, 2, 3, 4, 5, 6, 7, 8] (by decide) rfl) hS ls (lv_sub hl [0, 1, 2, 3, 4, 5, 6] rfl)
      refine lv_aload_n hx hb dZM_pack_104 rfl (lv_at hl 3 rfl) ?_
      refine lv_iconst (v := (0 : Int32)) hx hb dZM_pack_105 (by decide) ?_
      refine va_put (D := (dC, dI)) (ci := 6) (v := .int (0 : Int32)) (ty := .int) (C := RZM) (T := TZM) (N := 19) hx hb hts inZM tyZM tyZM_ok nmZM hown hK hP hD hS 0 rfl rfl 6 (by decide) (hts _ mm_624) (fun _ h9 => h9) rfl (by decide +kernel) rfl rfl (Nat.le_of_ble_eq_true rfl) dZM_pack_106 (fun H locs hP hD hS => ?_)
      have hP : va_P (dC, dI) vwCl [(om, .inr (6, [.int zt_2, .int zw, .int zh, .ref ozp, .ref ozs, .ref ozb, .int (0 : Int32), .ref ozl, .ref ozo, .int zc, .int zr, .int zu, .int zv, .int zq, .int zi, .ref ozk, .ref ozm, .int zd, .ref ozg])), (ozp, .inl (cI, 1600, .inl zp)), (ozs, .inl (cI, 320, .inl zs)), (ozb, .inl (cI, 256, .inl zb)), (ozl, .inl (cI, 64, .inl zl)), (ozo, .inl (cI, 64, .inl zo)), (ozk, .inl (cI, 320, .inl zk)), (ozm, .inl (cI, 40, .inl zm)), (ozg, .inl (cI, 64, .inl f_56e_ozg))] H := hP
      have hD : va_D A [(om, .inr (6, [.int zt_2, .int zw, .int zh, .ref ozp, .ref ozs, .ref ozb, .int (0 : Int32), .ref ozl, .ref ozo, .int zc, .int zr, .int zu, .int zv, .int zq, .int zi, .ref ozk, .ref ozm, .int zd, .ref ozg])), (ozp, .inl (cI, 1600, .inl zp)), (ozs, .inl (cI, 320, .inl zs)), (ozb, .inl (cI, 256, .inl zb)), (ozl, .inl (cI, 64, .inl zl)), (ozo, .inl (cI, 64, .inl zo)), (ozk, .inl (cI, 320, .inl zk)), (ozm, .inl (cI, 40, .inl zm)), (ozg, .inl (cI, 64, .inl f_56e_ozg))] := hD
      refine lv_aload_n hx hb dZM_pack_109 rfl (lv_at hl 3 rfl) ?_
      refine lv_iload hx hb dZM_pack_110 (lv_at hl 2 rfl) ?_
      have hPc := hP.sub (ws' := [(om, .inr (6, [.int zt_2, .int zw, .int zh, .ref ozp, .ref ozs, .ref ozb, .int (0 : Int32), .ref ozl, .ref ozo, .int zc, .int zr, .int zu, .int zv, .int zq, .int zi, .ref ozk, .ref ozm, .int zd, .ref ozg])), (ozp, .inl (cI, 1600, .inl zp)), (ozs, .inl (cI, 320, .inl zs)), (ozb, .inl (cI, 256, .inl zb)), (ozl, .inl (cI, 64, .inl zl)), (ozo, .inl (cI, 64, .inl zo)), (ozk, .inl (cI, 320, .inl zk)), (ozm, .inl (cI, 40, .inl zm)), (ozg, .inl (cI, 64, .inl f_56e_ozg))]) [0, 1, 2, 3, 4, 5, 6, 7, 8] rfl
      have hDc := hD.sub (ws' := [(om, .inr (6, [.int zt_2, .int zw, .int zh, .ref ozp, .ref ozs, .ref ozb, .int (0 : Int32), .ref ozl, .ref ozo, .int zc, .int zr, .int zu, .int zv, .int zq, .int zi, .ref ozk, .ref ozm, .int zd, .ref ozg])), (ozp, .inl (cI, 1600, .inl zp)), (ozs, .inl (cI, 320, .inl zs)), (ozb, .inl (cI, 256, .inl zb)), (ozl, .inl (cI, 64, .inl zl)), (ozo, .inl (cI, 64, .inl zo)), (ozk, .inl (cI, 320, .inl zk)), (ozm, .inl (cI, 40, .inl zm)), (ozg, .inl (cI, 64, .inl f_56e_ozg))]) [0, 1, 2, 3, 4, 5, 6, 7, 8] (by decide) rfl
      have hFc := va_free (wc := [(om, .inr (6, [.int zt_2, .int zw, .int zh, .ref ozp, .ref ozs, .ref ozb, .int (0 : Int32), .ref ozl, .ref ozo, .int zc, .int zr, .int zu, .int zv, .int zq, .int zi, .ref ozk, .ref ozm, .int zd, .ref ozg])), (ozp, .inl (cI, 1600, .inl zp)), (ozs, .inl (cI, 320, .inl zs)), (ozb, .inl (cI, 256, .inl zb)), (ozl, .inl (cI, 64, .inl zl)), (ozo, .inl (cI, 64, .inl zo)), (ozk, .inl (cI, 320, .inl zk)), (ozm, .inl (cI, 40, .inl zm)), (ozg, .inl (cI, 64, .inl f_56e_ozg))]) hD hS hA [0, 1, 2, 3, 4, 5, 6, 7, 8] rfl
      refine va_callv (va_runV (As := [.int r_6]) (rest := []) ⟨hx, hb, hml, hown, hts⟩ (kt_ZM_write l dC dI cI om ozp ozs ozb ozl ozo ozk ozm ozg _ zt_2 zw zh zp zs zb (0 : Int32) zl zo zc zr zu zv zq zi zk zm zd f_56e_ozg r_6 _ hw) (cwV 1 hts (tb_V mm_778 mm_780 mp_16 mm_8 mm_781) rfl rfl rfl (by decide +kernel) ⟨Nat.le_of_ble_eq_true rfl, Nat.le_of_ble_eq_true rfl⟩) ⟨gw_blind, va_recv hK hPc (ci := 6) (q0 := 0) rfl rfl, fun U hU hW => gw_pre hPc hDc hK hE hU hW⟩ rfl rfl hl.1 rfl (lv_room (Nat.le_of_ble_eq_true rfl)) dZM_pack_112 ⟨Nat.le_of_ble_eq_true rfl, Nat.le_of_ble_eq_true rfl⟩) hS (fun q _ h => hFc q h) hFc (fun u t H1 locs ht hvm hw hB hz1 hk1 hS => ?_)
      obtain ⟨zb_14, zz_15⟩ := u
      obtain ⟨hP1, hK1, hD1⟩ := hB
      rw [ht] at hP1
      try dsimp only at hw
      obtain ⟨hP, hD⟩ := va_join (wr := []) (w1 := [(om, .inr (6, [.int zt_2, .int zw, .int zh, .ref ozp, .ref ozs, .ref ozb, .int zz_15, .ref ozl, .ref ozo, .int zc, .int zr, .int zu, .int zv, .int zq, .int zi, .ref ozk, .ref ozm, .int zd, .ref ozg])), (ozp, .inl (cI, 1600, .inl zp)), (ozs, .inl (cI, 320, .inl zs)), (ozb, .inl (cI, 256, .inl zb_14)), (ozl, .inl (cI, 64, .inl zl)), (ozo, .inl (cI, 64, .inl zo)), (ozk, .inl (cI, 320, .inl zk)), (ozm, .inl (cI, 40, .inl zm)), (ozg, .inl (cI, 64, .inl f_56e_ozg))]) hP hD [0, 1, 2, 3, 4, 5, 6, 7, 8] [] rfl rfl (by decide) (by decide) hk1 hFc hP1 hD1
      generalize H1 = H at hP hS ⊢
      have hP : va_P (dC, dI) vwCl [(om, .inr (6, [.int zt_2, .int zw, .int zh, .ref ozp, .ref ozs, .ref ozb, .int zz_15, .ref ozl, .ref ozo, .int zc, .int zr, .int zu, .int zv, .int zq, .int zi, .ref ozk, .ref ozm, .int zd, .ref ozg])), (ozp, .inl (cI, 1600, .inl zp)), (ozs, .inl (cI, 320, .inl zs)), (ozb, .inl (cI, 256, .inl zb_14)), (ozl, .inl (cI, 64, .inl zl)), (ozo, .inl (cI, 64, .inl zo)), (ozk, .inl (cI, 320, .inl zk)), (ozm, .inl (cI, 40, .inl zm)), (ozg, .inl (cI, 64, .inl f_56e_ozg))] H := hP
      have hD : va_D A [(om, .inr (6, [.int zt_2, .int zw, .int zh, .ref ozp, .ref ozs, .ref ozb, .int zz_15, .ref ozl, .ref ozo, .int zc, .int zr, .int zu, .int zv, .int zq, .int zi, .ref ozk, .ref ozm, .int zd, .ref ozg])), (ozp, .inl (cI, 1600, .inl zp)), (ozs, .inl (cI, 320, .inl zs)), (ozb, .inl (cI, 256, .inl zb_14)), (ozl, .inl (cI, 64, .inl zl)), (ozo, .inl (cI, 64, .inl zo)), (ozk, .inl (cI, 320, .inl zk)), (ozm, .inl (cI, 40, .inl zm)), (ozg, .inl (cI, 64, .inl f_56e_ozg))] := hD
      refine lv_aload_n hx hb dZM_pack_115 rfl (lv_at hl 3 rfl) ?_
      refine lv_iload hx hb dZM_pack_116 (lv_at hl 1 rfl) ?_
      have hPc := hP.sub (ws' := [(om, .inr (6, [.int zt_2, .int zw, .int zh, .ref ozp, .ref ozs, .ref ozb, .int zz_15, .ref ozl, .ref ozo, .int zc, .int zr, .int zu, .int zv, .int zq, .int zi, .ref ozk, .ref ozm, .int zd, .ref ozg])), (ozp, .inl (cI, 1600, .inl zp)), (ozs, .inl (cI, 320, .inl zs)), (ozb, .inl (cI, 256, .inl zb_14)), (ozl, .inl (cI, 64, .inl zl)), (ozo, .inl (cI, 64, .inl zo)), (ozk, .inl (cI, 320, .inl zk)), (ozm, .inl (cI, 40, .inl zm)), (ozg, .inl (cI, 64, .inl f_56e_ozg))]) [0, 1, 2, 3, 4, 5, 6, 7, 8] rfl
      have hDc := hD.sub (ws' := [(om, .inr (6, [.int zt_2, .int zw, .int zh, .ref ozp, .ref ozs, .ref ozb, .int zz_15, .ref ozl, .ref ozo, .int zc, .int zr, .int zu, .int zv, .int zq, .int zi, .ref ozk, .ref ozm, .int zd, .ref ozg])), (ozp, .inl (cI, 1600, .inl zp)), (ozs, .inl (cI, 320, .inl zs)), (ozb, .inl (cI, 256, .inl zb_14)), (ozl, .inl (cI, 64, .inl zl)), (ozo, .inl (cI, 64, .inl zo)), (ozk, .inl (cI, 320, .inl zk)), (ozm, .inl (cI, 40, .inl zm)), (ozg, .inl (cI, 64, .inl f_56e_ozg))]) [0, 1, 2, 3, 4, 5, 6, 7, 8] (by decide) rfl
      have hFc := va_free (wc := [(om, .inr (6, [.int zt_2, .int zw, .int zh, .ref ozp, .ref ozs, .ref ozb, .int zz_15, .ref ozl, .ref ozo, .int zc, .int zr, .int zu, .int zv, .int zq, .int zi, .ref ozk, .ref ozm, .int zd, .ref ozg])), (ozp, .inl (cI, 1600, .inl zp)), (ozs, .inl (cI, 320, .inl zs)), (ozb, .inl (cI, 256, .inl zb_14)), (ozl, .inl (cI, 64, .inl zl)), (ozo, .inl (cI, 64, .inl zo)), (ozk, .inl (cI, 320, .inl zk)), (ozm, .inl (cI, 40, .inl zm)), (ozg, .inl (cI, 64, .inl f_56e_ozg))]) hD hS hA [0, 1, 2, 3, 4, 5, 6, 7, 8] rfl
      refine va_callv (va_runV (As := [.int r_8]) (rest := []) ⟨hx, hb, hml, hown, hts⟩ (kt_ZM_write l dC dI cI om ozp ozs ozb ozl ozo ozk ozm ozg _ zt_2 zw zh zp zs zb_14 zz_15 zl zo zc zr zu zv zq zi zk zm zd f_56e_ozg r_8 _ hw) (cwV 1 hts (tb_V mm_778 mm_780 mp_16 mm_8 mm_781) rfl rfl rfl (by decide +kernel) ⟨Nat.le_of_ble_eq_true rfl, Nat.le_of_ble_eq_true rfl⟩) ⟨gw_blind, va_recv hK hPc (ci := 6) (q0 := 0) rfl rfl, fun U hU hW => gw_pre hPc hDc hK hE hU hW⟩ rfl rfl hl.1 rfl (lv_room (Nat.le_of_ble_eq_true rfl)) dZM_pack_118 ⟨Nat.le_of_ble_eq_true rfl, Nat.le_of_ble_eq_true rfl⟩) hS (fun q _ h => hFc q h) hFc (fun u t H1 locs ht hvm hw hB hz1 hk1 hS => ?_)
      obtain ⟨zb_16, zz_17⟩ := u
      obtain ⟨hP1, hK1, hD1⟩ := hB
      rw [ht] at hP1
      try dsimp only at hw
      obtain ⟨hP, hD⟩ := va_join (wr := []) (w1 := [(om, .inr (6, [.int zt_2, .int zw, .int zh, .ref ozp, .ref ozs, .ref ozb, .int zz_17, .ref ozl, .ref ozo, .int zc, .int zr, .int zu, .int zv, .int zq, .int zi, .ref ozk, .ref ozm, .int zd, .ref ozg])), (ozp, .inl (cI, 1600, .inl zp)), (ozs, .inl (cI, 320, .inl zs)), (ozb, .inl (cI, 256, .inl zb_16)), (ozl, .inl (cI, 64, .inl zl)), (ozo, .inl (cI, 64, .inl zo)), (ozk, .inl (cI, 320, .inl zk)), (ozm, .inl (cI, 40, .inl zm)), (ozg, .inl (cI, 64, .inl f_56e_ozg))]) hP hD [0, 1, 2, 3, 4, 5, 6, 7, 8] [] rfl rfl (by decide) (by decide) hk1 hFc hP1 hD1
      generalize H1 = H at hP hS ⊢
      have hP : va_P (dC, dI) vwCl [(om, .inr (6, [.int zt_2, .int zw, .int zh, .ref ozp, .ref ozs, .ref ozb, .int zz_17, .ref ozl, .ref ozo, .int zc, .int zr, .int zu, .int zv, .int zq, .int zi, .ref ozk, .ref ozm, .int zd, .ref ozg])), (ozp, .inl (cI, 1600, .inl zp)), (ozs, .inl (cI, 320, .inl zs)), (ozb, .inl (cI, 256, .inl zb_16)), (ozl, .inl (cI, 64, .inl zl)), (ozo, .inl (cI, 64, .inl zo)), (ozk, .inl (cI, 320, .inl zk)), (ozm, .inl (cI, 40, .inl zm)), (ozg, .inl (cI, 64, .inl f_56e_ozg))] H := hP
      have hD : va_D A [(om, .inr (6, [.int zt_2, .int zw, .int zh, .ref ozp, .ref ozs, .ref ozb, .int zz_17, .ref ozl, .ref ozo, .int zc, .int zr, .int zu, .int zv, .int zq, .int zi, .ref ozk, .ref ozm, .int zd, .ref ozg])), (ozp, .inl (cI, 1600, .inl zp)), (ozs, .inl (cI, 320, .inl zs)), (ozb, .inl (cI, 256, .inl zb_16)), (ozl, .inl (cI, 64, .inl zl)), (ozo, .inl (cI, 64, .inl zo)), (ozk, .inl (cI, 320, .inl zk)), (ozm, .inl (cI, 40, .inl zm)), (ozg, .inl (cI, 64, .inl f_56e_ozg))] := hD
      refine lv_iconst (v := (0 : Int32)) hx hb dZM_pack_121 (by decide) ?_
      refine lv_istore (lv' := [(6, .int (0 : Int32)), (5, .int r_8), (4, .int r_6), (0, .ref om), (1, .int a1), (2, .int a2), (3, .int a3)]) hx hb dZM_pack_122 hl (by decide) rfl (fun ls hl => ?_)
      have lp124 : ∀ K124 : Int32 → Int32 → (Nat → Int32) → Prop, (∀ (x6_124 : Int32) (v6_124_om : Int32) (f_124_ozb : Nat → Int32), K124 x6_124 v6_124_om f_124_ozb → ∀ (H : Heap) (locs : List Loc), va_P (dC, dI) vwCl [(om, .inr (6, [.int zt_2, .int zw, .int zh, .ref ozp, .ref ozs, .ref ozb, .int v6_124_om, .ref ozl, .ref ozo, .int zc, .int zr, .int zu, .int zv, .int zq, .int zi, .ref ozk, .ref ozm, .int zd, .ref ozg])), (ozp, .inl (cI, 1600, .inl zp)), (ozs, .inl (cI, 320, .inl zs)), (ozb, .inl (cI, 256, .inl f_124_ozb)), (ozl, .inl (cI, 64, .inl zl)), (ozo, .inl (cI, 64, .inl zo)), (ozk, .inl (cI, 320, .inl zk)), (ozm, .inl (cI, 40, .inl zm)), (ozg, .inl (cI, 64, .inl f_56e_ozg))] H → va_D A [(om, .inr (6, [.int zt_2, .int zw, .int zh, .ref ozp, .ref ozs, .ref ozb, .int v6_124_om, .ref ozl, .ref ozo, .int zc, .int zr, .int zu, .int zv, .int zq, .int zi, .ref ozk, .ref ozm, .int zd, .ref ozg])), (ozp, .inl (cI, 1600, .inl zp)), (ozs, .inl (cI, 320, .inl zs)), (ozb, .inl (cI, 256, .inl f_124_ozb)), (ozl, .inl (cI, 64, .inl zl)), (ozo, .inl (cI, 64, .inl zo)), (ozk, .inl (cI, 320, .inl zk)), (ozm, .inl (cI, 40, .inl zm)), (ozg, .inl (cI, 64, .inl f_56e_ozg))] → va_S A s.heap H locs → ∀ ls : Array Slot, lv_has ls 7 [(6, .int x6_124), (5, .int r_8), (4, .int r_6), (0, .ref om), (1, .int a1), (2, .int a2), (3, .int a3)] → W p l e (headSpec wsZM_pack rm_ZM_pack).room s m args below meth c H locs 0 0 Q9 (F0 m 145 ls [])) → ∀ (n : Nat) (x6_124 : Int32) (v6_124_om : Int32) (f_124_ozb : Nat → Int32), lp_ZM_pack_124 zt zw zh zp zs zb zz zl zo zc zr zu zv zq zi zk zm zd zg a1 a2 a3 r_1 t0_j16 r_3 zt_2 r_5 r_6 r_7 r_8 x6_56e f_56e_ozg zb_14 zz_15 zb_16 zz_17 post K124 n x6_124 v6_124_om f_124_ozb → ∀ (H : Heap) (locs : List Loc), va_P (dC, dI) vwCl [(om, .inr (6, [.int zt_2, .int zw, .int zh, .ref ozp, .ref ozs, .ref ozb, .int v6_124_om, .ref ozl, .ref ozo, .int zc, .int zr, .int zu, .int zv, .int zq, .int zi, .ref ozk, .ref ozm, .int zd, .ref ozg])), (ozp, .inl (cI, 1600, .inl zp)), (ozs, .inl (cI, 320, .inl zs)), (ozb, .inl (cI, 256, .inl f_124_ozb)), (ozl, .inl (cI, 64, .inl zl)), (ozo, .inl (cI, 64, .inl zo)), (ozk, .inl (cI, 320, .inl zk)), (ozm, .inl (cI, 40, .inl zm)), (ozg, .inl (cI, 64, .inl f_56e_ozg))] H → va_D A [(om, .inr (6, [.int zt_2, .int zw, .int zh, .ref ozp, .ref ozs, .ref ozb, .int v6_124_om, .ref ozl, .ref ozo, .int zc, .int zr, .int zu, .int zv, .int zq, .int zi, .ref ozk, .ref ozm, .int zd, .ref ozg])), (ozp, .inl (cI, 1600, .inl zp)), (ozs, .inl (cI, 320, .inl zs)), (ozb, .inl (cI, 256, .inl f_124_ozb)), (ozl, .inl (cI, 64, .inl zl)), (ozo, .inl (cI, 64, .inl zo)), (ozk, .inl (cI, 320, .inl zk)), (ozm, .inl (cI, 40, .inl zm)), (ozg, .inl (cI, 64, .inl f_56e_ozg))] → va_S A s.heap H locs → ∀ ls : Array Slot, lv_has ls 7 [(6, .int x6_124), (5, .int r_8), (4, .int r_6), (0, .ref om), (1, .int a1), (2, .int a2), (3, .int a3)] → W p l e (headSpec wsZM_pack rm_ZM_pack).room s m args below meth c H locs 0 0 Q9 (F0 m 124 ls []) := by
        intro K124 aft124 n
        induction n with
        | zero => intro x6_124 v6_124_om f_124_ozb hw; exact False.elim hw
        | succ n ih124 =>
          intro x6_124 v6_124_om f_124_ozb hw H locs hP hD hS ls hl
          refine lv_iload hx hb dZM_pack_124 (lv_at hl 0 rfl) ?_
          refine lv_iload hx hb dZM_pack_126 (lv_at hl 1 rfl) ?_
          refine lv_icmp_ge (tgt := 145) hx hb dZM_pack_128 (by decide) (fun c_18 => ?_) (fun c_18 => ?_)
          · have hw := hw.1 c_18
            exact aft124 x6_124 v6_124_om f_124_ozb hw _ _ (hP.sub [0, 1, 2, 3, 4, 5, 6, 7, 8] rfl) (hD.sub [0, 1, 2, 3, 4, 5, 6, 7, 8] (by decide) rfl) hS ls (lv_sub hl [0, 1, 2, 3, 4, 5, 6] rfl)
          · have hw := hw.2 c_18
            refine lv_aload_n hx hb dZM_pack_131 rfl (lv_at hl 3 rfl) ?_
            refine lv_iload hx hb dZM_pack_132 (lv_at hl 0 rfl) ?_
            refine lv_iload hx hb dZM_pack_134 (lv_at hl 2 rfl) ?_
            have hPc := hP.sub (ws' := [(om, .inr (6, [.int zt_2, .int zw, .int zh, .ref ozp, .ref ozs, .ref ozb, .int v6_124_om, .ref ozl, .ref ozo, .int zc, .int zr, .int zu, .int zv, .int zq, .int zi, .ref ozk, .ref ozm, .int zd, .ref ozg])), (ozp, .inl (cI, 1600, .inl zp)), (ozs, .inl (cI, 320, .inl zs)), (ozb, .inl (cI, 256, .inl f_124_ozb)), (ozl, .inl (cI, 64, .inl zl)), (ozo, .inl (cI, 64, .inl zo)), (ozk, .inl (cI, 320, .inl zk)), (ozm, .inl (cI, 40, .inl zm)), (ozg, .inl (cI, 64, .inl f_56e_ozg))]) [0, 1, 2, 3, 4, 5, 6, 7, 8] rfl
            have hDc := hD.sub (ws' := [(om, .inr (6, [.int zt_2, .int zw, .int zh, .ref ozp, .ref ozs, .ref ozb, .int v6_124_om, .ref ozl, .ref ozo, .int zc, .int zr, .int zu, .int zv, .int zq, .int zi, .ref ozk, .ref ozm, .int zd, .ref ozg])), (ozp, .inl (cI, 1600, .inl zp)), (ozs, .inl (cI, 320, .inl zs)), (ozb, .inl (cI, 256, .inl f_124_ozb)), (ozl, .inl (cI, 64, .inl zl)), (ozo, .inl (cI, 64, .inl zo)), (ozk, .inl (cI, 320, .inl zk)), (ozm, .inl (cI, 40, .inl zm)), (ozg, .inl (cI, 64, .inl f_56e_ozg))]) [0, 1, 2, 3, 4, 5, 6, 7, 8] (by decide) rfl
            have hFc := va_free (wc := [(om, .inr (6, [.int zt_2, .int zw, .int zh, .ref ozp, .ref ozs, .ref ozb, .int v6_124_om, .ref ozl, .ref ozo, .int zc, .int zr, .int zu, .int zv, .int zq, .int zi, .ref ozk, .ref ozm, .int zd, .ref ozg])), (ozp, .inl (cI, 1600, .inl zp)), (ozs, .inl (cI, 320, .inl zs)), (ozb, .inl (cI, 256, .inl f_124_ozb)), (ozl, .inl (cI, 64, .inl zl)), (ozo, .inl (cI, 64, .inl zo)), (ozk, .inl (cI, 320, .inl zk)), (ozm, .inl (cI, 40, .inl zm)), (ozg, .inl (cI, 64, .inl f_56e_ozg))]) hD hS hA [0, 1, 2, 3, 4, 5, 6, 7, 8] rfl
            refine va_callv (va_runV (As := [.int x6_124, .int r_6]) (rest := []) ⟨hx, hb, hml, hown, hts⟩ (kt_ZM_writeRow l dC dI cI om ozp ozs ozb ozl ozo ozk ozm ozg _ zt_2 zw zh zp zs f_124_ozb v6_124_om zl zo zc zr zu zv zq zi zk zm zd f_56e_ozg x6_124 r_6 _ hw) (cwV 2 hts (tb_V mm_782 mm_784 mp_17 mm_8 mm_785) rfl rfl rfl (by decide +kernel) ⟨Nat.le_of_ble_eq_true rfl, Nat.le_of_ble_eq_true rfl⟩) ⟨gw_blind, va_recv hK hPc (ci := 6) (q0 := 0) rfl rfl, fun U hU hW => gw_pre hPc hDc hK hE hU hW⟩ rfl rfl hl.1 rfl (lv_room (Nat.le_of_ble_eq_true rfl)) dZM_pack_136 ⟨Nat.le_of_ble_eq_true rfl, Nat.le_of_ble_eq_true rfl⟩) hS (fun q _ h => hFc q h) hFc (fun u t H1 locs ht hvm hw hB hz1 hk1 hS => ?_)
            obtain ⟨zb_19, zz_20⟩ := u
            obtain ⟨hP1, hK1, hD1⟩ := hB
            rw [ht] at hP1
            try dsimp only at hw
            obtain ⟨hP, hD⟩ := va_join (wr := []) (w1 := [(om, .inr (6, [.int zt_2, .int zw, .int zh, .ref ozp, .ref ozs, .ref ozb, .int zz_20, .ref ozl, .ref ozo, .int zc, .int zr, .int zu, .int zv, .int zq, .int zi, .ref ozk, .ref ozm, .int zd, .ref ozg])), (ozp, .inl (cI, 1600, .inl zp)), (ozs, .inl (cI, 320, .inl zs)), (ozb, .inl (cI, 256, .inl zb_19)), (ozl, .inl (cI, 64, .inl zl)), (ozo, .inl (cI, 64, .inl zo)), (ozk, .inl (cI, 320, .inl zk)), (ozm, .inl (cI, 40, .inl zm)), (ozg, .inl (cI, 64, .inl f_56e_ozg))]) hP hD [0, 1, 2, 3, 4, 5, 6, 7, 8] [] rfl rfl (by decide) (by decide) hk1 hFc hP1 hD1
            generalize H1 = H at hP hS ⊢
            have hP : va_P (dC, dI) vwCl [(om, .inr (6, [.int zt_2, .int zw, .int zh, .ref ozp, .ref ozs, .ref ozb, .int zz_20, .ref ozl, .ref ozo, .int zc, .int zr, .int zu, .int zv, .int zq, .int zi, .ref ozk, .ref ozm, .int zd, .ref ozg])), (ozp, .inl (cI, 1600, .inl zp)), (ozs, .inl (cI, 320, .inl zs)), (ozb, .inl (cI, 256, .inl zb_19)), (ozl, .inl (cI, 64, .inl zl)), (ozo, .inl (cI, 64, .inl zo)), (ozk, .inl (cI, 320, .inl zk)), (ozm, .inl (cI, 40, .inl zm)), (ozg, .inl (cI, 64, .inl f_56e_ozg))] H := hP
            have hD : va_D A [(om, .inr (6, [.int zt_2, .int zw, .int zh, .ref ozp, .ref ozs, .ref ozb, .int zz_20, .ref ozl, .ref ozo, .int zc, .int zr, .int zu, .int zv, .int zq, .int zi, .ref ozk, .ref ozm, .int zd, .ref ozg])), (ozp, .inl (cI, 1600, .inl zp)), (ozs, .inl (cI, 320, .inl zs)), (ozb, .inl (cI, 256, .inl zb_19)), (ozl, .inl (cI, 64, .inl zl)), (ozo, .inl (cI, 64, .inl zo)), (ozk, .inl (cI, 320, .inl zk)), (ozm, .inl (cI, 40, .inl zm)), (ozg, .inl (cI, 64, .inl f_56e_ozg))] := hD
            refine lv_iinc (v := x6_124 + (1 : Int32)) (lv' := [(6, .int (x6_124 + (1 : Int32))), (5, .int r_8), (4, .int r_6), (0, .ref om), (1, .int a1), (2, .int a2), (3, .int a3)]) hx hb dZM_pack_139 hl (k := 0) rfl rfl (by decide) rfl (fun ls hl => ?_)
            refine lv_goto (tgt := 124) hx hb dZM_pack_142 (by decide) ?_
            exact ih124 (x6_124 + (1 : Int32)) zz_20 zb_19 hw _ _ (hP.sub [0, 1, 2, 3, 4, 5, 6, 7, 8] rfl) (hD.sub [0, 1, 2, 3, 4, 5, 6, 7, 8] (by decide) rfl) hS ls (lv_sub hl [0, 1, 2, 3, 4, 5, 6] rfl)
      obtain ⟨n124, hw⟩ := hw
      refine lp124 _ (fun x6_124e v6_124e_om f_124e_ozb hw H locs hP hD hS ls hl => ?_) n124 (0 : Int32) zz_17 zb_16 hw _ _ (hP.sub [0, 1, 2, 3, 4, 5, 6, 7, 8] rfl) (hD.sub [0, 1, 2, 3, 4, 5, 6, 7, 8] (by decide) rfl) hS ls (lv_sub hl [0, 1, 2, 3, 4, 5, 6] rfl)
      refine lv_aload_n hx hb dZM_pack_145 rfl (lv_at hl 3 rfl) ?_
      refine lv_aload_n hx hb dZM_pack_146 rfl (lv_at hl 3 rfl) ?_
      refine va_get (D := (dC, dI)) (ci := 6) (v := .int v6_124e_om) (C := RZM) (T := TZM) (N := 19) hx hb hts inZM hown hK hP 0 rfl rfl 6 (by decide) (hts _ mm_624) (fun _ h9 => h9) rfl dZM_pack_147 ?_
      refine vp_callSi (va_runV (As := [.int v6_124e_om]) (rest := []) ⟨hx, hb, hml, hown, hts⟩ (kt_ZM_sum l dC dI cI om ozp ozs ozb ozl ozo ozk ozm ozg zt_2 zw zh zp zs f_124e_ozb v6_124e_om zl zo zc zr zu zv zq zi zk zm zd f_56e_ozg v6_124e_om _ hw) (cwV 1 hts (tb_V mm_795 mm_797 mp_18 mm_8 mm_798) rfl rfl rfl (by decide +kernel) ⟨Nat.le_of_ble_eq_true rfl, Nat.le_of_ble_eq_true rfl⟩) ⟨gr_blind, va_recv hK hP (ci := 6) (q0 := 0) rfl rfl, fun U hU hW => gr_pre hP hK hE hU hW⟩ rfl rfl hl.1 rfl (lv_room (Nat.le_of_ble_eq_true rfl)) dZM_pack_150 ⟨Nat.le_of_ble_eq_true rfl, Nat.le_of_ble_eq_true rfl⟩).run (fun r_21 hw => ?_)
      refine lv_istore (lv' := [(6, .int r_21), (5, .int r_8), (4, .int r_6), (0, .ref om), (1, .int a1), (2, .int a2), (3, .int a3)]) hx hb dZM_pack_153 hl (by decide) rfl (fun ls hl => ?_)
      refine lv_aload_n hx hb dZM_pack_155 rfl (lv_at hl 3 rfl) ?_
      refine lv_iload hx hb dZM_pack_156 (lv_at hl 0 rfl) ?_
      refine lv_sipush (v := (255 : Int32)) hx hb dZM_pack_158 (by decide) ?_
      refine lv_iand hx hb dZM_pack_161 ?_
      have hPc := hP.sub (ws' := [(om, .inr (6, [.int zt_2, .int zw, .int zh, .ref ozp, .ref ozs, .ref ozb, .int v6_124e_om, .ref ozl, .ref ozo, .int zc, .int zr, .int zu, .int zv, .int zq, .int zi, .ref ozk, .ref ozm, .int zd, .ref ozg])), (ozp, .inl (cI, 1600, .inl zp)), (ozs, .inl (cI, 320, .inl zs)), (ozb, .inl (cI, 256, .inl f_124e_ozb)), (ozl, .inl (cI, 64, .inl zl)), (ozo, .inl (cI, 64, .inl zo)), (ozk, .inl (cI, 320, .inl zk)), (ozm, .inl (cI, 40, .inl zm)), (ozg, .inl (cI, 64, .inl f_56e_ozg))]) [0, 1, 2, 3, 4, 5, 6, 7, 8] rfl
      have hDc := hD.sub (ws' := [(om, .inr (6, [.int zt_2, .int zw, .int zh, .ref ozp, .ref ozs, .ref ozb, .int v6_124e_om, .ref ozl, .ref ozo, .int zc, .int zr, .int zu, .int zv, .int zq, .int zi, .ref ozk, .ref ozm, .int zd, .ref ozg])), (ozp, .inl (cI, 1600, .inl zp)), (ozs, .inl (cI, 320, .inl zs)), (ozb, .inl (cI, 256, .inl f_124e_ozb)), (ozl, .inl (cI, 64, .inl zl)), (ozo, .inl (cI, 64, .inl zo)), (ozk, .inl (cI, 320, .inl zk)), (ozm, .inl (cI, 40, .inl zm)), (ozg, .inl (cI, 64, .inl f_56e_ozg))]) [0, 1, 2, 3, 4, 5, 6, 7, 8] (by decide) rfl
      have hFc := va_free (wc := [(om, .inr (6, [.int zt_2, .int zw, .int zh, .ref ozp, .ref ozs, .ref ozb, .int v6_124e_om, .ref ozl, .ref ozo, .int zc, .int zr, .int zu, .int zv, .int zq, .int zi, .ref ozk, .ref ozm, .int zd, .ref ozg])), (ozp, .inl (cI, 1600, .inl zp)), (ozs, .inl (cI, 320, .inl zs)), (ozb, .inl (cI, 256, .inl f_124e_ozb)), (ozl, .inl (cI, 64, .inl zl)), (ozo, .inl (cI, 64, .inl zo)), (ozk, .inl (cI, 320, .inl zk)), (ozm, .inl (cI, 40, .inl zm)), (ozg, .inl (cI, 64, .inl f_56e_ozg))]) hD hS hA [0, 1, 2, 3, 4, 5, 6, 7, 8] rfl
      refine va_callv (va_runV (As := [.int (r_21 &&& (255 : Int32))]) (rest := []) ⟨hx, hb, hml, hown, hts⟩ (kt_ZM_write l dC dI cI om ozp ozs ozb ozl ozo ozk ozm ozg _ zt_2 zw zh zp zs f_124e_ozb v6_124e_om zl zo zc zr zu zv zq zi zk zm zd f_56e_ozg (r_21 &&& (255 : Int32)) _ hw) (cwV 1 hts (tb_V mm_778 mm_780 mp_16 mm_8 mm_781) rfl rfl rfl (by decide +kernel) ⟨Nat.le_of_ble_eq_true rfl, Nat.le_of_ble_eq_true rfl⟩) ⟨gw_blind, va_recv hK hPc (ci := 6) (q0 := 0) rfl rfl, fun U hU hW => gw_pre hPc hDc hK hE hU hW⟩ rfl rfl hl.1 rfl (lv_room (Nat.le_of_ble_eq_true rfl)) dZM_pack_162 ⟨Nat.le_of_ble_eq_true rfl, Nat.le_of_ble_eq_true rfl⟩) hS (fun q _ h => hFc q h) hFc (fun u t H1 locs ht hvm hw hB hz1 hk1 hS => ?_)
      obtain ⟨zb_22, zz_23⟩ := u
      obtain ⟨hP1, hK1, hD1⟩ := hB
      rw [ht] at hP1
      try dsimp only at hw
      obtain ⟨hP, hD⟩ := va_join (wr := []) (w1 := [(om, .inr (6, [.int zt_2, .int zw, .int zh, .ref ozp, .ref ozs, .ref ozb, .int zz_23, .ref ozl, .ref ozo, .int zc, .int zr, .int zu, .int zv, .int zq, .int zi, .ref ozk, .ref ozm, .int zd, .ref ozg])), (ozp, .inl (cI, 1600, .inl zp)), (ozs, .inl (cI, 320, .inl zs)), (ozb, .inl (cI, 256, .inl zb_22)), (ozl, .inl (cI, 64, .inl zl)), (ozo, .inl (cI, 64, .inl zo)), (ozk, .inl (cI, 320, .inl zk)), (ozm, .inl (cI, 40, .inl zm)), (ozg, .inl (cI, 64, .inl f_56e_ozg))]) hP hD [0, 1, 2, 3, 4, 5, 6, 7, 8] [] rfl rfl (by decide) (by decide) hk1 hFc hP1 hD1
      generalize H1 = H at hP hS ⊢
      have hP : va_P (dC, dI) vwCl [(om, .inr (6, [.int zt_2, .int zw, .int zh, .ref ozp, .ref ozs, .ref ozb, .int zz_23, .ref ozl, .ref ozo, .int zc, .int zr, .int zu, .int zv, .int zq, .int zi, .ref ozk, .ref ozm, .int zd, .ref ozg])), (ozp, .inl (cI, 1600, .inl zp)), (ozs, .inl (cI, 320, .inl zs)), (ozb, .inl (cI, 256, .inl zb_22)), (ozl, .inl (cI, 64, .inl zl)), (ozo, .inl (cI, 64, .inl zo)), (ozk, .inl (cI, 320, .inl zk)), (ozm, .inl (cI, 40, .inl zm)), (ozg, .inl (cI, 64, .inl f_56e_ozg))] H := hP
      have hD : va_D A [(om, .inr (6, [.int zt_2, .int zw, .int zh, .ref ozp, .ref ozs, .ref ozb, .int zz_23, .ref ozl, .ref ozo, .int zc, .int zr, .int zu, .int zv, .int zq, .int zi, .ref ozk, .ref ozm, .int zd, .ref ozg])), (ozp, .inl (cI, 1600, .inl zp)), (ozs, .inl (cI, 320, .inl zs)), (ozb, .inl (cI, 256, .inl zb_22)), (ozl, .inl (cI, 64, .inl zl)), (ozo, .inl (cI, 64, .inl zo)), (ozk, .inl (cI, 320, .inl zk)), (ozm, .inl (cI, 40, .inl zm)), (ozg, .inl (cI, 64, .inl f_56e_ozg))] := hD
      refine lv_aload_n hx hb dZM_pack_165 rfl (lv_at hl 3 rfl) ?_
      refine lv_iload hx hb dZM_pack_166 (lv_at hl 0 rfl) ?_
      refine lv_bipush (v := (8 : Int32)) hx hb dZM_pack_168 (by decide) ?_
      refine lv_ishr hx hb dZM_pack_170 ?_
      have hPc := hP.sub (ws' := [(om, .inr (6, [.int zt_2, .int zw, .int zh, .ref ozp, .ref ozs, .ref ozb, .int zz_23, .ref ozl, .ref ozo, .int zc, .int zr, .int zu, .int zv, .int zq, .int zi, .ref ozk, .ref ozm, .int zd, .ref ozg])), (ozp, .inl (cI, 1600, .inl zp)), (ozs, .inl (cI, 320, .inl zs)), (ozb, .inl (cI, 256, .inl zb_22)), (ozl, .inl (cI, 64, .inl zl)), (ozo, .inl (cI, 64, .inl zo)), (ozk, .inl (cI, 320, .inl zk)), (ozm, .inl (cI, 40, .inl zm)), (ozg, .inl (cI, 64, .inl f_56e_ozg))]) [0, 1, 2, 3, 4, 5, 6, 7, 8] rfl
      have hDc := hD.sub (ws' := [(om, .inr (6, [.int zt_2, .int zw, .int zh, .ref ozp, .ref ozs, .ref ozb, .int zz_23, .ref ozl, .ref ozo, .int zc, .int zr, .int zu, .int zv, .int zq, .int zi, .ref ozk, .ref ozm, .int zd, .ref ozg])), (ozp, .inl (cI, 1600, .inl zp)), (ozs, .inl (cI, 320, .inl zs)), (ozb, .inl (cI, 256, .inl zb_22)), (ozl, .inl (cI, 64, .inl zl)), (ozo, .inl (cI, 64, .inl zo)), (ozk, .inl (cI, 320, .inl zk)), (ozm, .inl (cI, 40, .inl zm)), (ozg, .inl (cI, 64, .inl f_56e_ozg))]) [0, 1, 2, 3, 4, 5, 6, 7, 8] (by decide) rfl
      have hFc := va_free (wc := [(om, .inr (6, [.int zt_2, .int zw, .int zh, .ref ozp, .ref ozs, .ref ozb, .int zz_23, .ref ozl, .ref ozo, .int zc, .int zr, .int zu, .int zv, .int zq, .int zi, .ref ozk, .ref ozm, .int zd, .ref ozg])), (ozp, .inl (cI, 1600, .inl zp)), (ozs, .inl (cI, 320, .inl zs)), (ozb, .inl (cI, 256, .inl zb_22)), (ozl, .inl (cI, 64, .inl zl)), (ozo, .inl (cI, 64, .inl zo)), (ozk, .inl (cI, 320, .inl zk)), (ozm, .inl (cI, 40, .inl zm)), (ozg, .inl (cI, 64, .inl f_56e_ozg))]) hD hS hA [0, 1, 2, 3, 4, 5, 6, 7, 8] rfl
      refine va_callv (va_runV (As := [.int (r_21 >>> ((8 : Int32) &&& 31))]) (rest := []) ⟨hx, hb, hml, hown, hts⟩ (kt_ZM_write l dC dI cI om ozp ozs ozb ozl ozo ozk ozm ozg _ zt_2 zw zh zp zs zb_22 zz_23 zl zo zc zr zu zv zq zi zk zm zd f_56e_ozg (r_21 >>> ((8 : Int32) &&& 31)) _ hw) (cwV 1 hts (tb_V mm_778 mm_780 mp_16 mm_8 mm_781) rfl rfl rfl (by decide +kernel) ⟨Nat.le_of_ble_eq_true rfl, Nat.le_of_ble_eq_true rfl⟩) ⟨gw_blind, va_recv hK hPc (ci := 6) (q0 := 0) rfl rfl, fun U hU hW => gw_pre hPc hDc hK hE hU hW⟩ rfl rfl hl.1 rfl (lv_room (Nat.le_of_ble_eq_true rfl)) dZM_pack_171 ⟨Nat.le_of_ble_eq_true rfl, Nat.le_of_ble_eq_true rfl⟩) hS (fun q _ h => hFc q h) hFc (fun u t H1 locs ht hvm hw hB hz1 hk1 hS => ?_)
      obtain ⟨zb_24, zz_25⟩ := u
      obtain ⟨hP1, hK1, hD1⟩ := hB
      rw [ht] at hP1
      try dsimp only at hw
      obtain ⟨hP, hD⟩ := va_join (wr := []) (w1 := [(om, .inr (6, [.int zt_2, .int zw, .int zh, .ref ozp, .ref ozs, .ref ozb, .int zz_25, .ref ozl, .ref ozo, .int zc, .int zr, .int zu, .int zv, .int zq, .int zi, .ref ozk, .ref ozm, .int zd, .ref ozg])), (ozp, .inl (cI, 1600, .inl zp)), (ozs, .inl (cI, 320, .inl zs)), (ozb, .inl (cI, 256, .inl zb_24)), (ozl, .inl (cI, 64, .inl zl)), (ozo, .inl (cI, 64, .inl zo)), (ozk, .inl (cI, 320, .inl zk)), (ozm, .inl (cI, 40, .inl zm)), (ozg, .inl (cI, 64, .inl f_56e_ozg))]) hP hD [0, 1, 2, 3, 4, 5, 6, 7, 8] [] rfl rfl (by decide) (by decide) hk1 hFc hP1 hD1
      generalize H1 = H at hP hS ⊢
      have hP : va_P (dC, dI) vwCl [(om, .inr (6, [.int zt_2, .int zw, .int zh, .ref ozp, .ref ozs, .ref ozb, .int zz_25, .ref ozl, .ref ozo, .int zc, .int zr, .int zu, .int zv, .int zq, .int zi, .ref ozk, .ref ozm, .int zd, .ref ozg])), (ozp, .inl (cI, 1600, .inl zp)), (ozs, .inl (cI, 320, .inl zs)), (ozb, .inl (cI, 256, .inl zb_24)), (ozl, .inl (cI, 64, .inl zl)), (ozo, .inl (cI, 64, .inl zo)), (ozk, .inl (cI, 320, .inl zk)), (ozm, .inl (cI, 40, .inl zm)), (ozg, .inl (cI, 64, .inl f_56e_ozg))] H := hP
      have hD : va_D A [(om, .inr (6, [.int zt_2, .int zw, .int zh, .ref ozp, .ref ozs, .ref ozb, .int zz_25, .ref ozl, .ref ozo, .int zc, .int zr, .int zu, .int zv, .int zq, .int zi, .ref ozk, .ref ozm, .int zd, .ref ozg])), (ozp, .inl (cI, 1600, .inl zp)), (ozs, .inl (cI, 320, .inl zs)), (ozb, .inl (cI, 256, .inl zb_24)), (ozl, .inl (cI, 64, .inl zl)), (ozo, .inl (cI, 64, .inl zo)), (ozk, .inl (cI, 320, .inl zk)), (ozm, .inl (cI, 40, .inl zm)), (ozg, .inl (cI, 64, .inl f_56e_ozg))] := hD
      refine lv_aload_n hx hb dZM_pack_174 rfl (lv_at hl 3 rfl) ?_
      refine va_get (D := (dC, dI)) (ci := 6) (v := .int zz_25) (C := RZM) (T := TZM) (N := 19) hx hb hts inZM hown hK hP 0 rfl rfl 6 (by decide) (hts _ mm_624) (fun _ h9 => h9) rfl dZM_pack_175 ?_
      have hP9 := hP.sub (ws' := [(om, .inr (6, [.int zt_2, .int zw, .int zh, .ref ozp, .ref ozs, .ref ozb, .int zz_25, .ref ozl, .ref ozo, .int zc, .int zr, .int zu, .int zv, .int zq, .int zi, .ref ozk, .ref ozm, .int zd, .ref ozg])), (ozp, .inl (cI, 1600, .inl zp)), (ozs, .inl (cI, 320, .inl zs)), (ozb, .inl (cI, 256, .inl zb_24)), (ozl, .inl (cI, 64, .inl zl)), (ozo, .inl (cI, 64, .inl zo)), (ozk, .inl (cI, 320, .inl zk)), (ozm, .inl (cI, 40, .inl zm)), (ozg, .inl (cI, 64, .inl f_56e_ozg))]) [0, 1, 2, 3, 4, 5, 6, 7, 8] rfl
      have hD9 := hD.sub (ws' := [(om, .inr (6, [.int zt_2, .int zw, .int zh, .ref ozp, .ref ozs, .ref ozb, .int zz_25, .ref ozl, .ref ozo, .int zc, .int zr, .int zu, .int zv, .int zq, .int zi, .ref ozk, .ref ozm, .int zd, .ref ozg])), (ozp, .inl (cI, 1600, .inl zp)), (ozs, .inl (cI, 320, .inl zs)), (ozb, .inl (cI, 256, .inl zb_24)), (ozl, .inl (cI, 64, .inl zl)), (ozo, .inl (cI, 64, .inl zo)), (ozk, .inl (cI, 320, .inl zk)), (ozm, .inl (cI, 40, .inl zm)), (ozg, .inl (cI, 64, .inl f_56e_ozg))]) [0, 1, 2, 3, 4, 5, 6, 7, 8] (by decide) rfl
      subst hQ9
      exact W.iret (v := zz_25) hx hb hr (fun t ht hW => ⟨⟨zz_25, (zt_2, zb_24, zz_25, f_56e_ozg), rfl, hw, by rw [ht]; exact hP9, va_K.moved hW.alike hK, hD9⟩, hS.F ht⟩) hS.2.2 dZM_pack_178
    · have hw := hw.2 c_4
      refine lv_iconst (v := (0 : Int32)) hx hb dZM_pack_23 (by decide) ?_
      have hP9 := hP.sub (ws' := [(om, .inr (6, [.int zt_2, .int zw, .int zh, .ref ozp, .ref ozs, .ref ozb, .int zz, .ref ozl, .ref ozo, .int zc, .int zr, .int zu, .int zv, .int zq, .int zi, .ref ozk, .ref ozm, .int zd, .ref ozg])), (ozp, .inl (cI, 1600, .inl zp)), (ozs, .inl (cI, 320, .inl zs)), (ozb, .inl (cI, 256, .inl zb)), (ozl, .inl (cI, 64, .inl zl)), (ozo, .inl (cI, 64, .inl zo)), (ozk, .inl (cI, 320, .inl zk)), (ozm, .inl (cI, 40, .inl zm)), (ozg, .inl (cI, 64, .inl zg))]) [0, 1, 2, 3, 4, 5, 6, 7, 8] rfl
      have hD9 := hD.sub (ws' := [(om, .inr (6, [.int zt_2, .int zw, .int zh, .ref ozp, .ref ozs, .ref ozb, .int zz, .ref ozl, .ref ozo, .int zc, .int zr, .int zu, .int zv, .int zq, .int zi, .ref ozk, .ref ozm, .int zd, .ref ozg])), (ozp, .inl (cI, 1600, .inl zp)), (ozs, .inl (cI, 320, .inl zs)), (ozb, .inl (cI, 256, .inl zb)), (ozl, .inl (cI, 64, .inl zl)), (ozo, .inl (cI, 64, .inl zo)), (ozk, .inl (cI, 320, .inl zk)), (ozm, .inl (cI, 40, .inl zm)), (ozg, .inl (cI, 64, .inl zg))]) [0, 1, 2, 3, 4, 5, 6, 7, 8] (by decide) rfl
      subst hQ9
      exact W.iret (v := (0 : Int32)) hx hb hr (fun t ht hW => ⟨⟨(0 : Int32), (zt_2, zb, zz, zg), rfl, hw, by rw [ht]; exact hP9, va_K.moved hW.alike hK, hD9⟩, hS.F ht⟩) hS.2.2 dZM_pack_24
  refine lv_if_ne (tgt := 15) hx hb dZM_pack_8 (by decide) (fun c_26 => ?_) (fun c_26 => ?_)
  · have hw := hw.2 c_26
    refine lv_iconst (v := (0 : Int32)) hx hb dZM_pack_15 (by decide) ?_
    exact j16 (0 : Int32) hw _ _ (hP.sub [0, 1, 2, 3, 4, 5, 6, 7, 8] rfl) (hD.sub [0, 1, 2, 3, 4, 5, 6, 7, 8] (by decide) rfl) hS ls (lv_sub hl [0, 1, 2, 3] rfl)
  · have hw := hw.1 c_26
    refine lv_iconst (v := (1 : Int32)) hx hb dZM_pack_11 (by decide) ?_
    refine lv_goto (tgt := 16) hx hb dZM_pack_12 (by decide) ?_
    exact j16 (1 : Int32) hw _ _ (hP.sub [0, 1, 2, 3, 4, 5, 6, 7, 8] rfl) (hD.sub [0, 1, 2, 3, 4, 5, 6, 7, 8] (by decide) rfl) hS ls (lv_sub hl [0, 1, 2, 3] rfl)
theorem dZM_load_0 : decode cZM_load 0 = .ok (.aload_n 0, 1) := by decide +kernel
theorem dZM_load_1 : decode cZM_load 1 = .ok (.aload_n 0, 1) := by decide +kernel
theorem dZM_load_2 : decode cZM_load 2 = .ok (.getfield 101, 3) := by decide +kernel
theorem dZM_load_5 : decode cZM_load 5 = .ok (.sipush 256, 3) := by decide +kernel
theorem dZM_load_8 : decode cZM_load 8 = .ok (.if_icmp .ne 7, 3) := by decide +kernel
theorem dZM_load_11 : decode cZM_load 11 = .ok (.iconst 1, 1) := by decide +kernel
theorem dZM_load_12 : decode cZM_load 12 = .ok (.goto 4, 3) := by decide +kernel
theorem dZM_load_15 : decode cZM_load 15 = .ok (.iconst 0, 1) := by decide +kernel
theorem dZM_load_16 : decode cZM_load 16 = .ok (.iload_n 1, 1) := by decide +kernel
theorem dZM_load_17 : decode cZM_load 17 = .ok (.invokestatic 56, 3) := by decide +kernel
theorem dZM_load_20 : decode cZM_load 20 = .ok (.ifCond .ne 7, 3) := by decide +kernel
theorem dZM_load_23 : decode cZM_load 23 = .ok (.iconst 1, 1) := by decide +kernel
theorem dZM_load_24 : decode cZM_load 24 = .ok (.goto 4, 3) := by decide +kernel
theorem dZM_load_27 : decode cZM_load 27 = .ok (.iconst 0, 1) := by decide +kernel
theorem dZM_load_28 : decode cZM_load 28 = .ok (.invokevirtual 60, 3) := by decide +kernel
theorem dZM_load_31 : decode cZM_load 31 = .ok (.ifCond .eq 5, 3) := by decide +kernel
theorem dZM_load_34 : decode cZM_load 34 = .ok (.iconst 0, 1) := by decide +kernel
theorem dZM_load_35 : decode cZM_load 35 = .ok (.ireturn, 1) := by decide +kernel
theorem dZM_load_36 : decode cZM_load 36 = .ok (.aload_n 0, 1) := by decide +kernel
theorem dZM_load_37 : decode cZM_load 37 = .ok (.iload_n 1, 1) := by decide +kernel
theorem dZM_load_38 : decode cZM_load 38 = .ok (.invokevirtual 118, 3) := by decide +kernel
theorem dZM_load_41 : decode cZM_load 41 = .ok (.aload_n 0, 1) := by decide +kernel
theorem dZM_load_42 : decode cZM_load 42 = .ok (.getfield 101, 3) := by decide +kernel
theorem dZM_load_45 : decode cZM_load 45 = .ok (.ireturn, 1) := by decide +kernel
abbrev wsZM_load : List Cond := .code yZM_load cZM_load 2 (some .int) :: tbg
def wp_ZM_load (zt : Int32) (zw : Int32) (zh : Int32) (zp : Nat → Int32) (zs : Nat → Int32) (zb : Nat → Int32) (zz : Int32) (zl : Nat → Int32) (zo : Nat → Int32) (zc : Int32) (zr : Int32) (zu : Int32) (zv : Int32) (zq : Int32) (zi : Int32) (zk : Nat → Int32) (zm : Nat → Int32) (zd : Int32) (zg : Nat → Int32) (a1 : Int32) (post : Int32 → Int32 → (Nat → Int32) → Int32 → Prop) : Prop := ∃ J16 : Int32 → Prop, (∀ (t0_j16 : Int32), J16 t0_j16 → wp_ZM_isByte a1 (fun r_1 : Int32 => ∃ J28 : Int32 → Prop, (∀ (t0_j28 : Int32), J28 t0_j28 → wp_ZM_throwing zt zw zh zp zs zb zz zl zo zc zr zu zv zq zi zk zm zd zg t0_j16 t0_j28 (fun (r_3 : Int32) (zt_2 : Int32) => ((r_3 = (0 : Int32) → (wp_ZM_write zt_2 zw zh zp zs zb zz zl zo zc zr zu zv zq zi zk zm zd zg a1 (fun (zb_5 : Nat → Int32) (zz_6 : Int32) => post zz_6 zt_2 zb_5 zz_6))) ∧ (¬ r_3 = (0 : Int32) → (post (0 : Int32) zt_2 zb zz))))) ∧ (((r_1 = (0 : Int32) → (J28 (1 : Int32))) ∧ (¬ r_1 = (0 : Int32) → (J28 (0 : Int32))))))) ∧ (((zz = (256 : Int32) → (J16 (1 : Int32))) ∧ (¬ zz = (256 : Int32) → (J16 (0 : Int32)))))
abbrev rm_ZM_load : Room := { frames := 2, cells := 0, slots := 0, locals := 42 }
set_option maxHeartbeats 4000000 in
set_option maxRecDepth 100000 in
theorem kt_ZM_load (l : Launch) (dC : Nat → ClassId) (dI : Nat → Nat → Nat) (cI : ClassId) (om ozp ozs ozb ozl ozo ozk ozm ozg : Nat) (sz : Nat) (zt : Int32) (zw : Int32) (zh : Int32) (zp : Nat → Int32) (zs : Nat → Int32) (zb : Nat → Int32) (zz : Int32) (zl : Nat → Int32) (zo : Nat → Int32) (zc : Int32) (zr : Int32) (zu : Int32) (zv : Int32) (zq : Int32) (zi : Int32) (zk : Nat → Int32) (zm : Nat → Int32) (zd : Int32) (zg : Nat → Int32) (a1 : Int32) (post : Int32 → Int32 → (Nat → Int32) → Int32 → Prop) (hw : wp_ZM_load zt zw zh zp zs zb zz zl zo zc zr zu zv zq zi zk zm zd zg a1 post) : Met l yZM_load wsZM_load rm_ZM_load (gw_Pc dC dI [(cI, .int)] [.ref om, .int a1] [(om, .inr (6, [.int zt, .int zw, .int zh, .ref ozp, .ref ozs, .ref ozb, .int zz, .ref ozl, .ref ozo, .int zc, .int zr, .int zu, .int zv, .int zq, .int zi, .ref ozk, .ref ozm, .int zd, .ref ozg])), (ozp, .inl (cI, 1600, .inl zp)), (ozs, .inl (cI, 320, .inl zs)), (ozb, .inl (cI, 256, .inl zb)), (ozl, .inl (cI, 64, .inl zl)), (ozo, .inl (cI, 64, .inl zo)), (ozk, .inl (cI, 320, .inl zk)), (ozm, .inl (cI, 40, .inl zm)), (ozg, .inl (cI, 64, .inl zg))] sz) (va_Qi (fun (r : Int32) (u : Int32 × (Nat → Int32) × Int32) => post r u.1 u.2.1 u.2.2) (fun u t => gw_B dC dI [(cI, .int)] (va_A [(om, .inr (6, [.int zt, .int zw, .int zh, .ref ozp, .ref ozs, .ref ozb, .int zz, .ref ozl, .ref ozo, .int zc, .int zr, .int zu, .int zv, .int zq, .int zi, .ref ozk, .ref ozm, .int zd, .ref ozg])), (ozp, .inl (cI, 1600, .inl zp)), (ozs, .inl (cI, 320, .inl zs)), (ozb, .inl (cI, 256, .inl zb)), (ozl, .inl (cI, 64, .inl zl)), (ozo, .inl (cI, 64, .inl zo)), (ozk, .inl (cI, 320, .inl zk)), (ozm, .inl (cI, 40, .inl zm)), (ozg, .inl (cI, 64, .inl zg))] sz) [(om, .inr (6, [.int u.1, .int zw, .int zh, .ref ozp, .ref ozs, .ref ozb, .int u.2.2, .ref ozl, .ref ozo, .int zc, .int zr, .int zu, .int zv, .int zq, .int zi, .ref ozk, .ref ozm, .int zd, .ref ozg])), (ozp, .inl (cI, 1600, .inl zp)), (ozs, .inl (cI, 320, .inl zs)), (ozb, .inl (cI, 256, .inl u.2.1)), (ozl, .inl (cI, 64, .inl zl)), (ozo, .inl (cI, 64, .inl zo)), (ozk, .inl (cI, 320, .inl zk)), (ozm, .inl (cI, 40, .inl zm)), (ozg, .inl (cI, 64, .inl zg))] t) (va_A [(om, .inr (6, [.int zt, .int zw, .int zh, .ref ozp, .ref ozs, .ref ozb, .int zz, .ref ozl, .ref ozo, .int zc, .int zr, .int zu, .int zv, .int zq, .int zi, .ref ozk, .ref ozm, .int zd, .ref ozg])), (ozp, .inl (cI, 1600, .inl zp)), (ozs, .inl (cI, 320, .inl zs)), (ozb, .inl (cI, 256, .inl zb)), (ozl, .inl (cI, 64, .inl zl)), (ozo, .inl (cI, 64, .inl zo)), (ozk, .inl (cI, 320, .inl zk)), (ozm, .inl (cI, 40, .inl zm)), (ozg, .inl (cI, 64, .inl zg))] sz)) 0 0 (va_A [(om, .inr (6, [.int zt, .int zw, .int zh, .ref ozp, .ref ozs, .ref ozb, .int zz, .ref ozl, .ref ozo, .int zc, .int zr, .int zu, .int zv, .int zq, .int zi, .ref ozk, .ref ozm, .int zd, .ref ozg])), (ozp, .inl (cI, 1600, .inl zp)), (ozs, .inl (cI, 320, .inl zs)), (ozb, .inl (cI, 256, .inl zb)), (ozl, .inl (cI, 64, .inl zl)), (ozo, .inl (cI, 64, .inl zo)), (ozk, .inl (cI, 320, .inl zk)), (ozm, .inl (cI, 40, .inl zm)), (ozg, .inl (cI, 64, .inl zg))] sz) := by
  refine Met.ofW (cc := cZM_load) (maxL := 2) (ret := (some .int)) (by decide) rfl ?_
  intro p e s m args below meth c s₁ B hml hv
  obtain ⟨ha9, hsz, hP, hK, hE, hD0⟩ := hv
  have hx := B.exec
  have hb := B.bytes
  have hr := B.returns
  have hts0 := atoms_spec (ws := wsZM_load) B.pre
  have hts : ∀ w ∈ tbg, w.before args s = true := fun w h => hts0 w (List.mem_cons_of_mem _ h)
  have hown : s.vm.findClass RZM = some m.cls := findClass_of_methodNamed B.named
  have hlocks := B.notSynchronized
  subst hsz
  have hD := hD0.self (sz := s.heap.size)
  refine gx_Q (fun Q9 hQ9 => ?_)
  generalize hAe : va_A [(om, .inr (6, [.int zt, .int zw, .int zh, .ref ozp, .ref ozs, .ref ozb, .int zz, .ref ozl, .ref ozo, .int zc, .int zr, .int zu, .int zv, .int zq, .int zi, .ref ozk, .ref ozm, .int zd, .ref ozg])), (ozp, .inl (cI, 1600, .inl zp)), (ozs, .inl (cI, 320, .inl zs)), (ozb, .inl (cI, 256, .inl zb)), (ozl, .inl (cI, 64, .inl zl)), (ozo, .inl (cI, 64, .inl zo)), (ozk, .inl (cI, 320, .inl zk)), (ozm, .inl (cI, 40, .inl zm)), (ozg, .inl (cI, 64, .inl zg))] s.heap.size = A at hD hQ9 ⊢
  have hA : ∀ q : Nat, s.heap.size ≤ q → A q := fun q h => by rw [← hAe]; exact Or.inr h
  have hS : va_S A s.heap s.heap [] := va_S.rf
  have hl := lv_entry ([.ref om, .int a1]) (n := 2) (Nat.le_of_ble_eq_true rfl)
  have he9 : entryFrame m args 2 = F0 m 0 ((lg_sl [.ref om, .int a1] ++ List.replicate (2 - (lg_sl ([.ref om, .int a1] : List Value)).length) Slot.unset).toArray) [] := by rw [ha9]; exact lg_entry_eq m [.ref om, .int a1] 2
  rw [he9]
  generalize (lg_sl ([.ref om, .int a1] : List Value) ++ List.replicate (2 - (lg_sl ([.ref om, .int a1] : List Value)).length) Slot.unset).toArray = ls at hl ⊢
  have hl : lv_has ls 2 [(0, .ref om), (1, .int a1)] := hl
  refine lv_aload_n hx hb dZM_load_0 rfl (lv_at hl 0 rfl) ?_
  refine lv_aload_n hx hb dZM_load_1 rfl (lv_at hl 0 rfl) ?_
  refine va_get (D := (dC, dI)) (ci := 6) (v := .int zz) (C := RZM) (T := TZM) (N := 19) hx hb hts inZM hown hK hP 0 rfl rfl 6 (by decide) (hts _ mm_624) (fun _ h9 => h9) rfl dZM_load_2 ?_
  refine lv_sipush (v := (256 : Int32)) hx hb dZM_load_5 (by decide) ?_
  obtain ⟨J16, hJ16, hw⟩ := hw
  have j16 : ∀ (t0_j16 : Int32), J16 t0_j16 → ∀ (H : Heap) (locs : List Loc), va_P (dC, dI) vwCl [(om, .inr (6, [.int zt, .int zw, .int zh, .ref ozp, .ref ozs, .ref ozb, .int zz, .ref ozl, .ref ozo, .int zc, .int zr, .int zu, .int zv, .int zq, .int zi, .ref ozk, .ref ozm, .int zd, .ref ozg])), (ozp, .inl (cI, 1600, .inl zp)), (ozs, .inl (cI, 320, .inl zs)), (ozb, .inl (cI, 256, .inl zb)), (ozl, .inl (cI, 64, .inl zl)), (ozo, .inl (cI, 64, .inl zo)), (ozk, .inl (cI, 320, .inl zk)), (ozm, .inl (cI, 40, .inl zm)), (ozg, .inl (cI, 64, .inl zg))] H → va_D A [(om, .inr (6, [.int zt, .int zw, .int zh, .ref ozp, .ref ozs, .ref ozb, .int zz, .ref ozl, .ref ozo, .int zc, .int zr, .int zu, .int zv, .int zq, .int zi, .ref ozk, .ref ozm, .int zd, .ref ozg])), (ozp, .inl (cI, 1600, .inl zp)), (ozs, .inl (cI, 320, .inl zs)), (ozb, .inl (cI, 256, .inl zb)), (ozl, .inl (cI, 64, .inl zl)), (ozo, .inl (cI, 64, .inl zo)), (ozk, .inl (cI, 320, .inl zk)), (ozm, .inl (cI, 40, .inl zm)), (ozg, .inl (cI, 64, .inl zg))] → va_S A s.heap H locs → ∀ ls : Array Slot, lv_has ls 2 [(0, .ref om), (1, .int a1)] → W p l e (headSpec wsZM_load rm_ZM_load).room s m args below meth c H locs 0 0 Q9 (F0 m 16 ls [.int t0_j16, .ref om]) := by
    intro t0_j16 hw H locs hP hD hS ls hl
    have hw := hJ16 t0_j16 hw
    refine lv_iload_n hx hb dZM_load_16 rfl (lv_at hl 1 rfl) ?_
    have hPc := hP.sub (ws' := []) [] rfl
    refine vp_callSi (va_runS (As := [.int a1]) (rest := [.int t0_j16, .ref om]) ⟨hx, hb, hml, hown, hts⟩ (kt_ZM_isByte l dC dI cI  a1 _ hw) (va_cwS 1 hts (tb_S mm_690 mm_691 mm_8 mm_692) rfl rfl rfl (by decide +kernel) ⟨Nat.le_of_ble_eq_true rfl, Nat.le_of_ble_eq_true rfl⟩) ⟨gr_blind, fun U hU hW => gr_pre hPc hK hE hU hW⟩ rfl rfl hl.1 rfl (lv_room (Nat.le_of_ble_eq_true rfl)) dZM_load_17 ⟨Nat.le_of_ble_eq_true rfl, Nat.le_of_ble_eq_true rfl⟩).run (fun r_1 hw => ?_)
    obtain ⟨J28, hJ28, hw⟩ := hw
    have j28 : ∀ (t0_j28 : Int32), J28 t0_j28 → ∀ (H : Heap) (locs : List Loc), va_P (dC, dI) vwCl [(om, .inr (6, [.int zt, .int zw, .int zh, .ref ozp, .ref ozs, .ref ozb, .int zz, .ref ozl, .ref ozo, .int zc, .int zr, .int zu, .int zv, .int zq, .int zi, .ref ozk, .ref ozm, .int zd, .ref ozg])), (ozp, .inl (cI, 1600, .inl zp)), (ozs, .inl (cI, 320, .inl zs)), (ozb, .inl (cI, 256, .inl zb)), (ozl, .inl (cI, 64, .inl zl)), (ozo, .inl (cI, 64, .inl zo)), (ozk, .inl (cI, 320, .inl zk)), (ozm, .inl (cI, 40, .inl zm)), (ozg, .inl (cI, 64, .inl zg))] H → va_D A [(om, .inr (6, [.int zt, .int zw, .int zh, .ref ozp, .ref ozs, .ref ozb, .int zz, .ref ozl, .ref ozo, .int zc, .int zr, .int zu, .int zv, .int zq, .int zi, .ref ozk, .ref ozm, .int zd, .ref ozg])), (ozp, .inl (cI, 1600, .inl zp)), (ozs, .inl (cI, 320, .inl zs)), (ozb, .inl (cI, 256, .inl zb)), (ozl, .inl (cI, 64, .inl zl)), (ozo, .inl (cI, 64, .inl zo)), (ozk, .inl (cI, 320, .inl zk)), (ozm, .inl (cI, 40, .inl zm)), (ozg, .inl (cI, 64, .inl zg))] → va_S A s.heap H locs → ∀ ls : Array Slot, lv_has ls 2 [(0, .ref om), (1, .int a1)] → W p l e (headSpec wsZM_load rm_ZM_load).room s m args below meth c H locs 0 0 Q9 (F0 m 28 ls [.int t0_j28, .int t0_j16, .ref om]) := by
      intro t0_j28 hw H locs hP hD hS ls hl
      have hw := hJ28 t0_j28 hw
      have hPc := hP.sub (ws' := [(om, .inr (6, [.int zt, .int zw, .int zh, .ref ozp, .ref ozs, .ref ozb, .int zz, .ref ozl, .ref ozo, .int zc, .int zr, .int zu, .int zv, .int zq, .int zi, .ref ozk, .ref ozm, .int zd, .ref ozg])), (ozp, .inl (cI, 1600, .inl zp)), (ozs, .inl (cI, 320, .inl zs)), (ozb, .inl (cI, 256, .inl zb)), (ozl, .inl (cI, 64, .inl zl)), (ozo, .inl (cI, 64, .inl zo)), (ozk, .inl (cI, 320, .inl zk)), (ozm, .inl (cI, 40, .inl zm)), (ozg, .inl (cI, 64, .inl zg))]) [0, 1, 2, 3, 4, 5, 6, 7, 8] rfl
      have hDc := hD.sub (ws' := [(om, .inr (6, [.int zt, .int zw, .int zh, .ref ozp, .ref ozs, .ref ozb, .int zz, .ref ozl, .ref ozo, .int zc, .int zr, .int zu, .int zv, .int zq, .int zi, .ref ozk, .ref ozm, .int zd, .ref ozg])), (ozp, .inl (cI, 1600, .inl zp)), (ozs, .inl (cI, 320, .inl zs)), (ozb, .inl (cI, 256, .inl zb)), (ozl, .inl (cI, 64, .inl zl)), (ozo, .inl (cI, 64, .inl zo)), (ozk, .inl (cI, 320, .inl zk)), (ozm, .inl (cI, 40, .inl zm)), (ozg, .inl (cI, 64, .inl zg))]) [0, 1, 2, 3, 4, 5, 6, 7, 8] (by decide) rfl
      have hFc := va_free (wc := [(om, .inr (6, [.int zt, .int zw, .int zh, .ref ozp, .ref ozs, .ref ozb, .int zz, .ref ozl, .ref ozo, .int zc, .int zr, .int zu, .int zv, .int zq, .int zi, .ref ozk, .ref ozm, .int zd, .ref ozg])), (ozp, .inl (cI, 1600, .inl zp)), (ozs, .inl (cI, 320, .inl zs)), (ozb, .inl (cI, 256, .inl zb)), (ozl, .inl (cI, 64, .inl zl)), (ozo, .inl (cI, 64, .inl zo)), (ozk, .inl (cI, 320, .inl zk)), (ozm, .inl (cI, 40, .inl zm)), (ozg, .inl (cI, 64, .inl zg))]) hD hS hA [0, 1, 2, 3, 4, 5, 6, 7, 8] rfl
      refine va_calli (va_runV (As := [.int t0_j16, .int t0_j28]) (rest := []) ⟨hx, hb, hml, hown, hts⟩ (kt_ZM_throwing l dC dI cI om ozp ozs ozb ozl ozo ozk ozm ozg _ zt zw zh zp zs zb zz zl zo zc zr zu zv zq zi zk zm zd zg t0_j16 t0_j28 _ hw) (cwV 2 hts (tb_V mm_693 mm_695 mp_5 mm_8 mm_696) rfl rfl rfl (by decide +kernel) ⟨Nat.le_of_ble_eq_true rfl, Nat.le_of_ble_eq_true rfl⟩) ⟨gw_blind, va_recv hK hPc (ci := 6) (q0 := 0) rfl rfl, fun U hU hW => gw_pre hPc hDc hK hE hU hW⟩ rfl rfl hl.1 rfl (lv_room (Nat.le_of_ble_eq_true rfl)) dZM_load_28 ⟨Nat.le_of_ble_eq_true rfl, Nat.le_of_ble_eq_true rfl⟩) hS (fun q _ h => hFc q h) hFc (fun r_3 zt_2 t H1 locs ht hvm hw hB hz1 hk1 hS => ?_)
      obtain ⟨hP1, hK1, hD1⟩ := hB
      rw [ht] at hP1
      try dsimp only at hw
      obtain ⟨hP, hD⟩ := va_join (wr := []) (w1 := [(om, .inr (6, [.int zt_2, .int zw, .int zh, .ref ozp, .ref ozs, .ref ozb, .int zz, .ref ozl, .ref ozo, .int zc, .int zr, .int zu, .int zv, .int zq, .int zi, .ref ozk, .ref ozm, .int zd, .ref ozg])), (ozp, .inl (cI, 1600, .inl zp)), (ozs, .inl (cI, 320, .inl zs)), (ozb, .inl (cI, 256, .inl zb)), (ozl, .inl (cI, 64, .inl zl)), (ozo, .inl (cI, 64, .inl zo)), (ozk, .inl (cI, 320, .inl zk)), (ozm, .inl (cI, 40, .inl zm)), (ozg, .inl (cI, 64, .inl zg))]) hP hD [0, 1, 2, 3, 4, 5, 6, 7, 8] [] rfl rfl (by decide) (by decide) hk1 hFc hP1 hD1
      generalize H1 = H at hP hS ⊢
      have hP : va_P (dC, dI) vwCl [(om, .inr (6, [.int zt_2, .int zw, .int zh, .ref ozp, .ref ozs, .ref ozb, .int zz, .ref ozl, .ref ozo, .int zc, .int zr, .int zu, .int zv, .int zq, .int zi, .ref ozk, .ref ozm, .int zd, .ref ozg])), (ozp, .inl (cI, 1600, .inl zp)), (ozs, .inl (cI, 320, .inl zs)), (ozb, .inl (cI, 256, .inl zb)), (ozl, .inl (cI, 64, .inl zl)), (ozo, .inl (cI, 64, .inl zo)), (ozk, .inl (cI, 320, .inl zk)), (ozm, .inl (cI, 40, .inl zm)), (ozg, .inl (cI, 64, .inl zg))] H := hP
      have hD : va_D A [(om, .inr (6, [.int zt_2, .int zw, .int zh, .ref ozp, .ref ozs, .ref ozb, .int zz, .ref ozl, .ref ozo, .int zc, .int zr, .int zu, .int zv, .int zq, .int zi, .ref ozk, .ref ozm, .int zd, .ref ozg])), (ozp, .inl (cI, 1600, .inl zp)), (ozs, .inl (cI, 320, .inl zs)), (ozb, .inl (cI, 256, .inl zb)), (ozl, .inl (cI, 64, .inl zl)), (ozo, .inl (cI, 64, .inl zo)), (ozk, .inl (cI, 320, .inl zk)), (ozm, .inl (cI, 40, .inl zm)), (ozg, .inl (cI, 64, .inl zg))] := hD
      refine lv_if_eq (tgt := 36) hx hb dZM_load_31 (by decide) (fun c_4 => ?_) (fun c_4 => ?_)
      · have hw := hw.1 c_4
        refine lv_aload_n hx hb dZM_load_36 rfl (lv_at hl 0 rfl) ?_
        refine lv_iload_n hx hb dZM_load_37 rfl (lv_at hl 1 rfl) ?_
        have hPc := hP.sub (ws' := [(om, .inr (6, [.int zt_2, .int zw, .int zh, .ref ozp, .ref ozs, .ref ozb, .int zz, .ref ozl, .ref ozo, .int zc, .int zr, .int zu, .int zv, .int zq, .int zi, .ref ozk, .ref ozm, .int zd, .ref ozg])), (ozp, .inl (cI, 1600, .inl zp)), (ozs, .inl (cI, 320, .inl zs)), (ozb, .inl (cI, 256, .inl zb)), (ozl, .inl (cI, 64, .inl zl)), (ozo, .inl (cI, 64, .inl zo)), (ozk, .inl (cI, 320, .inl zk)), (ozm, .inl (cI, 40, .inl zm)), (ozg, .inl (cI, 64, .inl zg))]) [0, 1, 2, 3, 4, 5, 6, 7, 8] rfl
        have hDc := hD.sub (ws' := [(om, .inr (6, [.int zt_2, .int zw, .int zh, .ref ozp, .ref ozs, .ref ozb, .int zz, .ref ozl, .ref ozo, .int zc, .int zr, .int zu, .int zv, .int zq, .int zi, .ref ozk, .ref ozm, .int zd, .ref ozg])), (ozp, .inl (cI, 1600, .inl zp)), (ozs, .inl (cI, 320, .inl zs)), (ozb, .inl (cI, 256, .inl zb)), (ozl, .inl (cI, 64, .inl zl)), (ozo, .inl (cI, 64, .inl zo)), (ozk, .inl (cI, 320, .inl zk)), (ozm, .inl (cI, 40, .inl zm)), (ozg, .inl (cI, 64, .inl zg))]) [0, 1, 2, 3, 4, 5, 6, 7, 8] (by decide) rfl
        have hFc := va_free (wc := [(om, .inr (6, [.int zt_2, .int zw, .int zh, .ref ozp, .ref ozs, .ref ozb, .int zz, .ref ozl, .ref ozo, .int zc, .int zr, .int zu, .int zv, .int zq, .int zi, .ref ozk, .ref ozm, .int zd, .ref ozg])), (ozp, .inl (cI, 1600, .inl zp)), (ozs, .inl (cI, 320, .inl zs)), (ozb, .inl (cI, 256, .inl zb)), (ozl, .inl (cI, 64, .inl zl)), (ozo, .inl (cI, 64, .inl zo)), (ozk, .inl (cI, 320, .inl zk)), (ozm, .inl (cI, 40, .inl zm)), (ozg, .inl (cI, 64, .inl zg))]) hD hS hA [0, 1, 2, 3, 4, 5, 6, 7, 8] rfl
        refine va_callv (va_runV (As := [.int a1]) (rest := []) ⟨hx, hb, hml, hown, hts⟩ (kt_ZM_write l dC dI cI om ozp ozs ozb ozl ozo ozk ozm ozg _ zt_2 zw zh zp zs zb zz zl zo zc zr zu zv zq zi zk zm zd zg a1 _ hw) (cwV 1 hts (tb_V mm_778 mm_780 mp_16 mm_8 mm_781) rfl rfl rfl (by decide +kernel) ⟨Nat.le_of_ble_eq_true rfl, Nat.le_of_ble_eq_true rfl⟩) ⟨gw_blind, va_recv hK hPc (ci := 6) (q0 := 0) rfl rfl, fun U hU hW => gw_pre hPc hDc hK hE hU hW⟩ rfl rfl hl.1 rfl (lv_room (Nat.le_of_ble_eq_true rfl)) dZM_load_38 ⟨Nat.le_of_ble_eq_true rfl, Nat.le_of_ble_eq_true rfl⟩) hS (fun q _ h => hFc q h) hFc (fun u t H1 locs ht hvm hw hB hz1 hk1 hS => ?_)
        obtain ⟨zb_5, zz_6⟩ := u
        obtain ⟨hP1, hK1, hD1⟩ := hB
        rw [ht] at hP1
        try dsimp only at hw
        obtain ⟨hP, hD⟩ := va_join (wr := []) (w1 := [(om, .inr (6, [.int zt_2, .int zw, .int zh, .ref ozp, .ref ozs, .ref ozb, .int zz_6, .ref ozl, .ref ozo, .int zc, .int zr, .int zu, .int zv, .int zq, .int zi, .ref ozk, .ref ozm, .int zd, .ref ozg])), (ozp, .inl (cI, 1600, .inl zp)), (ozs, .inl (cI, 320, .inl zs)), (ozb, .inl (cI, 256, .inl zb_5)), (ozl, .inl (cI, 64, .inl zl)), (ozo, .inl (cI, 64, .inl zo)), (ozk, .inl (cI, 320, .inl zk)), (ozm, .inl (cI, 40, .inl zm)), (ozg, .inl (cI, 64, .inl zg))]) hP hD [0, 1, 2, 3, 4, 5, 6, 7, 8] [] rfl rfl (by decide) (by decide) hk1 hFc hP1 hD1
        generalize H1 = H at hP hS ⊢
        have hP : va_P (dC, dI) vwCl [(om, .inr (6, [.int zt_2, .int zw, .int zh, .ref ozp, .ref ozs, .ref ozb, .int zz_6, .ref ozl, .ref ozo, .int zc, .int zr, .int zu, .int zv, .int zq, .int zi, .ref ozk, .ref ozm, .int zd, .ref ozg])), (ozp, .inl (cI, 1600, .inl zp)), (ozs, .inl (cI, 320, .inl zs)), (ozb, .inl (cI, 256, .inl zb_5)), (ozl, .inl (cI, 64, .inl zl)), (ozo, .inl (cI, 64, .inl zo)), (ozk, .inl (cI, 320, .inl zk)), (ozm, .inl (cI, 40, .inl zm)), (ozg, .inl (cI, 64, .inl zg))] H := hP
        have hD : va_D A [(om, .inr (6, [.int zt_2, .int zw, .int zh, .ref ozp, .ref ozs, .ref ozb, .int zz_6, .ref ozl, .ref ozo, .int zc, .int zr, .int zu, .int zv, .int zq, .int zi, .ref ozk, .ref ozm, .int zd, .ref ozg])), (ozp, .inl (cI, 1600, .inl zp)), (ozs, .inl (cI, 320, .inl zs)), (ozb, .inl (cI, 256, .inl zb_5)), (ozl, .inl (cI, 64, .inl zl)), (ozo, .inl (cI, 64, .inl zo)), (ozk, .inl (cI, 320, .inl zk)), (ozm, .inl (cI, 40, .inl zm)), (ozg, .inl (cI, 64, .inl zg))] := hD
        refine lv_aload_n hx hb dZM_load_41 rfl (lv_at hl 0 rfl) ?_
        refine va_get (D := (dC, dI)) (ci := 6) (v := .int zz_6) (C := RZM) (T := TZM) (N := 19) hx hb hts inZM hown hK hP 0 rfl rfl 6 (by decide) (hts _ mm_624) (fun _ h9 => h9) rfl dZM_load_42 ?_
        have hP9 := hP.sub (ws' := [(om, .inr (6, [.int zt_2, .int zw, .int zh, .ref ozp, .ref ozs, .ref ozb, .int zz_6, .ref ozl, .ref ozo, .int zc, .int zr, .int zu, .int zv, .int zq, .int zi, .ref ozk, .ref ozm, .int zd, .ref ozg])), (ozp, .inl (cI, 1600, .inl zp)), (ozs, .inl (cI, 320, .inl zs)), (ozb, .inl (cI, 256, .inl zb_5)), (ozl, .inl (cI, 64, .inl zl)), (ozo, .inl (cI, 64, .inl zo)), (ozk, .inl (cI, 320, .inl zk)), (ozm, .inl (cI, 40, .inl zm)), (ozg, .inl (cI, 64, .inl zg))]) [0, 1, 2, 3, 4, 5, 6, 7, 8] rfl
        have hD9 := hD.sub (ws' := [(om, .inr (6, [.int zt_2, .int zw, .int zh, .ref ozp, .ref ozs, .ref ozb, .int zz_6, .ref ozl, .ref ozo, .int zc, .int zr, .int zu, .int zv, .int zq, .int zi, .ref ozk, .ref ozm, .int zd, .ref ozg])), (ozp, .inl (cI, 1600, .inl zp)), (ozs, .inl (cI, 320, .inl zs)), (ozb, .inl (cI, 256, .inl zb_5)), (ozl, .inl (cI, 64, .inl zl)), (ozo, .inl (cI, 64, .inl zo)), (ozk, .inl (cI, 320, .inl zk)), (ozm, .inl (cI, 40, .inl zm)), (ozg, .inl (cI, 64, .inl zg))]) [0, 1, 2, 3, 4, 5, 6, 7, 8] (by decide) rfl
        subst hQ9
        exact W.iret (v := zz_6) hx hb hr (fun t ht hW => ⟨⟨zz_6, (zt_2, zb_5, zz_6), rfl, hw, by rw [ht]; exact hP9, va_K.moved hW.alike hK, hD9⟩, hS.F ht⟩) hS.2.2 dZM_load_45
      · have hw := hw.2 c_4
        refine lv_iconst (v := (0 : Int32)) hx hb dZM_load_34 (by decide) ?_
        have hP9 := hP.sub (ws' := [(om, .inr (6, [.int zt_2, .int zw, .int zh, .ref ozp, .ref ozs, .ref ozb, .int zz, .ref ozl, .ref ozo, .int zc, .int zr, .int zu, .int zv, .int zq, .int zi, .ref ozk, .ref ozm, .int zd, .ref ozg])), (ozp, .inl (cI, 1600, .inl zp)), (ozs, .inl (cI, 320, .inl zs)), (ozb, .inl (cI, 256, .inl zb)), (ozl, .inl (cI, 64, .inl zl)), (ozo, .inl (cI, 64, .inl zo)), (ozk, .inl (cI, 320, .inl zk)), (ozm, .inl (cI, 40, .inl zm)), (ozg, .inl (cI, 64, .inl zg))]) [0, 1, 2, 3, 4, 5, 6, 7, 8] rfl
        have hD9 := hD.sub (ws' := [(om, .inr (6, [.int zt_2, .int zw, .int zh, .ref ozp, .ref ozs, .ref ozb, .int zz, .ref ozl, .ref ozo, .int zc, .int zr, .int zu, .int zv, .int zq, .int zi, .ref ozk, .ref ozm, .int zd, .ref ozg])), (ozp, .inl (cI, 1600, .inl zp)), (ozs, .inl (cI, 320, .inl zs)), (ozb, .inl (cI, 256, .inl zb)), (ozl, .inl (cI, 64, .inl zl)), (ozo, .inl (cI, 64, .inl zo)), (ozk, .inl (cI, 320, .inl zk)), (ozm, .inl (cI, 40, .inl zm)), (ozg, .inl (cI, 64, .inl zg))]) [0, 1, 2, 3, 4, 5, 6, 7, 8] (by decide) rfl
        subst hQ9
        exact W.iret (v := (0 : Int32)) hx hb hr (fun t ht hW => ⟨⟨(0 : Int32), (zt_2, zb, zz), rfl, hw, by rw [ht]; exact hP9, va_K.moved hW.alike hK, hD9⟩, hS.F ht⟩) hS.2.2 dZM_load_35
    refine lv_if_ne (tgt := 27) hx hb dZM_load_20 (by decide) (fun c_7 => ?_) (fun c_7 => ?_)
    · have hw := hw.2 c_7
      refine lv_iconst (v := (0 : Int32)) hx hb dZM_load_27 (by decide) ?_
      exact j28 (0 : Int32) hw _ _ (hP.sub [0, 1, 2, 3, 4, 5, 6, 7, 8] rfl) (hD.sub [0, 1, 2, 3, 4, 5, 6, 7, 8] (by decide) rfl) hS ls (lv_sub hl [0, 1] rfl)
    · have hw := hw.1 c_7
      refine lv_iconst (v := (1 : Int32)) hx hb dZM_load_23 (by decide) ?_
      refine lv_goto (tgt := 28) hx hb dZM_load_24 (by decide) ?_
      exact j28 (1 : Int32) hw _ _ (hP.sub [0, 1, 2, 3, 4, 5, 6, 7, 8] rfl) (hD.sub [0, 1, 2, 3, 4, 5, 6, 7, 8] (by decide) rfl) hS ls (lv_sub hl [0, 1] rfl)
  refine lv_icmp_ne (tgt := 15) hx hb dZM_load_8 (by decide) (fun c_8 => ?_) (fun c_8 => ?_)
  · have hw := hw.2 c_8
    refine lv_iconst (v := (0 : Int32)) hx hb dZM_load_15 (by decide) ?_
    exact j16 (0 : Int32) hw _ _ (hP.sub [0, 1, 2, 3, 4, 5, 6, 7, 8] rfl) (hD.sub [0, 1, 2, 3, 4, 5, 6, 7, 8] (by decide) rfl) hS ls (lv_sub hl [0, 1] rfl)
  · have hw := hw.1 c_8
    refine lv_iconst (v := (1 : Int32)) hx hb dZM_load_11 (by decide) ?_
    refine lv_goto (tgt := 16) hx hb dZM_load_12 (by decide) ?_
    exact j16 (1 : Int32) hw _ _ (hP.sub [0, 1, 2, 3, 4, 5, 6, 7, 8] rfl) (hD.sub [0, 1, 2, 3, 4, 5, 6, 7, 8] (by decide) rfl) hS ls (lv_sub hl [0, 1] rfl)
theorem dZM_clear_0 : decode cZM_clear 0 = .ok (.aload_n 0, 1) := by decide +kernel
theorem dZM_clear_1 : decode cZM_clear 1 = .ok (.iconst 0, 1) := by decide +kernel
theorem dZM_clear_2 : decode cZM_clear 2 = .ok (.putfield 45, 3) := by decide +kernel
theorem dZM_clear_5 : decode cZM_clear 5 = .ok (.aload_n 0, 1) := by decide +kernel
theorem dZM_clear_6 : decode cZM_clear 6 = .ok (.getfield 101, 3) := by decide +kernel
theorem dZM_clear_9 : decode cZM_clear 9 = .ok (.istore_n 1, 1) := by decide +kernel
theorem dZM_clear_10 : decode cZM_clear 10 = .ok (.aload_n 0, 1) := by decide +kernel
theorem dZM_clear_11 : decode cZM_clear 11 = .ok (.iconst 0, 1) := by decide +kernel
theorem dZM_clear_12 : decode cZM_clear 12 = .ok (.putfield 101, 3) := by decide +kernel
theorem dZM_clear_15 : decode cZM_clear 15 = .ok (.iload_n 1, 1) := by decide +kernel
theorem dZM_clear_16 : decode cZM_clear 16 = .ok (.ireturn, 1) := by decide +kernel
abbrev wsZM_clear : List Cond := .code yZM_clear cZM_clear 2 (some .int) :: tbg
def wp_ZM_clear (zt : Int32) (zw : Int32) (zh : Int32) (zp : Nat → Int32) (zs : Nat → Int32) (zb : Nat → Int32) (zz : Int32) (zl : Nat → Int32) (zo : Nat → Int32) (zc : Int32) (zr : Int32) (zu : Int32) (zv : Int32) (zq : Int32) (zi : Int32) (zk : Nat → Int32) (zm : Nat → Int32) (zd : Int32) (zg : Nat → Int32) (post : Int32 → Int32 → Int32 → Prop) : Prop := post zz (0 : Int32) (0 : Int32)
abbrev rm_ZM_clear : Room := { frames := 0, cells := 0, slots := 0, locals := 0 }
set_option maxHeartbeats 4000000 in
set_option maxRecDepth 100000 in
theorem kt_ZM_clear (l : Launch) (dC : Nat → ClassId) (dI : Nat → Nat → Nat) (cI : ClassId) (om ozp ozs ozb ozl ozo ozk ozm ozg : Nat) (sz : Nat) (zt : Int32) (zw : Int32) (zh : Int32) (zp : Nat → Int32) (zs : Nat → Int32) (zb : Nat → Int32) (zz : Int32) (zl : Nat → Int32) (zo : Nat → Int32) (zc : Int32) (zr : Int32) (zu : Int32) (zv : Int32) (zq : Int32) (zi : Int32) (zk : Nat → Int32) (zm : Nat → Int32) (zd : Int32) (zg : Nat → Int32) (post : Int32 → Int32 → Int32 → Prop) (hw : wp_ZM_clear zt zw zh zp zs zb zz zl zo zc zr zu zv zq zi zk zm zd zg post) : Met l yZM_clear wsZM_clear rm_ZM_clear (gw_Pc dC dI [(cI, .int)] [.ref om] [(om, .inr (6, [.int zt, .int zw, .int zh, .ref ozp, .ref ozs, .ref ozb, .int zz, .ref ozl, .ref ozo, .int zc, .int zr, .int zu, .int zv, .int zq, .int zi, .ref ozk, .ref ozm, .int zd, .ref ozg])), (ozp, .inl (cI, 1600, .inl zp)), (ozs, .inl (cI, 320, .inl zs)), (ozb, .inl (cI, 256, .inl zb)), (ozl, .inl (cI, 64, .inl zl)), (ozo, .inl (cI, 64, .inl zo)), (ozk, .inl (cI, 320, .inl zk)), (ozm, .inl (cI, 40, .inl zm)), (ozg, .inl (cI, 64, .inl zg))] sz) (va_Qi (fun (r : Int32) (u : Int32 × Int32) => post r u.1 u.2) (fun u t => gw_B dC dI [(cI, .int)] (va_A [(om, .inr (6, [.int zt, .int zw, .int zh, .ref ozp, .ref ozs, .ref ozb, .int zz, .ref ozl, .ref ozo, .int zc, .int zr, .int zu, .int zv, .int zq, .int zi, .ref ozk, .ref ozm, .int zd, .ref ozg])), (ozp, .inl (cI, 1600, .inl zp)), (ozs, .inl (cI, 320, .inl zs)), (ozb, .inl (cI, 256, .inl zb)), (ozl, .inl (cI, 64, .inl zl)), (ozo, .inl (cI, 64, .inl zo)), (ozk, .inl (cI, 320, .inl zk)), (ozm, .inl (cI, 40, .inl zm)), (ozg, .inl (cI, 64, .inl zg))] sz) [(om, .inr (6, [.int u.1, .int zw, .int zh, .ref ozp, .ref ozs, .ref ozb, .int u.2, .ref ozl, .ref ozo, .int zc, .int zr, .int zu, .int zv, .int zq, .int zi, .ref ozk, .ref ozm, .int zd, .ref ozg])), (ozp, .inl (cI, 1600, .inl zp)), (ozs, .inl (cI, 320, .inl zs)), (ozb, .inl (cI, 256, .inl zb)), (ozl, .inl (cI, 64, .inl zl)), (ozo, .inl (cI, 64, .inl zo)), (ozk, .inl (cI, 320, .inl zk)), (ozm, .inl (cI, 40, .inl zm)), (ozg, .inl (cI, 64, .inl zg))] t) (va_A [(om, .inr (6, [.int zt, .int zw, .int zh, .ref ozp, .ref ozs, .ref ozb, .int zz, .ref ozl, .ref ozo, .int zc, .int zr, .int zu, .int zv, .int zq, .int zi, .ref ozk, .ref ozm, .int zd, .ref ozg])), (ozp, .inl (cI, 1600, .inl zp)), (ozs, .inl (cI, 320, .inl zs)), (ozb, .inl (cI, 256, .inl zb)), (ozl, .inl (cI, 64, .inl zl)), (ozo, .inl (cI, 64, .inl zo)), (ozk, .inl (cI, 320, .inl zk)), (ozm, .inl (cI, 40, .inl zm)), (ozg, .inl (cI, 64, .inl zg))] sz)) 0 0 (va_A [(om, .inr (6, [.int zt, .int zw, .int zh, .ref ozp, .ref ozs, .ref ozb, .int zz, .ref ozl, .ref ozo, .int zc, .int zr, .int zu, .int zv, .int zq, .int zi, .ref ozk, .ref ozm, .int zd, .ref ozg])), (ozp, .inl (cI, 1600, .inl zp)), (ozs, .inl (cI, 320, .inl zs)), (ozb, .inl (cI, 256, .inl zb)), (ozl, .inl (cI, 64, .inl zl)), (ozo, .inl (cI, 64, .inl zo)), (ozk, .inl (cI, 320, .inl zk)), (ozm, .inl (cI, 40, .inl zm)), (ozg, .inl (cI, 64, .inl zg))] sz) := by
  refine Met.ofW (cc := cZM_clear) (maxL := 2) (ret := (some .int)) (by decide) rfl ?_
  intro p e s m args below meth c s₁ B hml hv
  obtain ⟨ha9, hsz, hP, hK, hE, hD0⟩ := hv
  have hx := B.exec
  have hb := B.bytes
  have hr := B.returns
  have hts0 := atoms_spec (ws := wsZM_clear) B.pre
  have hts : ∀ w ∈ tbg, w.before args s = true := fun w h => hts0 w (List.mem_cons_of_mem _ h)
  have hown : s.vm.findClass RZM = some m.cls := findClass_of_methodNamed B.named
  have hlocks := B.notSynchronized
  subst hsz
  have hD := hD0.self (sz := s.heap.size)
  refine gx_Q (fun Q9 hQ9 => ?_)
  generalize hAe : va_A [(om, .inr (6, [.int zt, .int zw, .int zh, .ref ozp, .ref ozs, .ref ozb, .int zz, .ref ozl, .ref ozo, .int zc, .int zr, .int zu, .int zv, .int zq, .int zi, .ref ozk, .ref ozm, .int zd, .ref ozg])), (ozp, .inl (cI, 1600, .inl zp)), (ozs, .inl (cI, 320, .inl zs)), (ozb, .inl (cI, 256, .inl zb)), (ozl, .inl (cI, 64, .inl zl)), (ozo, .inl (cI, 64, .inl zo)), (ozk, .inl (cI, 320, .inl zk)), (ozm, .inl (cI, 40, .inl zm)), (ozg, .inl (cI, 64, .inl zg))] s.heap.size = A at hD hQ9 ⊢
  have hA : ∀ q : Nat, s.heap.size ≤ q → A q := fun q h => by rw [← hAe]; exact Or.inr h
  have hS : va_S A s.heap s.heap [] := va_S.rf
  have hl := lv_entry ([.ref om]) (n := 2) (Nat.le_of_ble_eq_true rfl)
  have he9 : entryFrame m args 2 = F0 m 0 ((lg_sl [.ref om] ++ List.replicate (2 - (lg_sl ([.ref om] : List Value)).length) Slot.unset).toArray) [] := by rw [ha9]; exact lg_entry_eq m [.ref om] 2
  rw [he9]
  generalize (lg_sl ([.ref om] : List Value) ++ List.replicate (2 - (lg_sl ([.ref om] : List Value)).length) Slot.unset).toArray = ls at hl ⊢
  have hl : lv_has ls 2 [(0, .ref om)] := hl
  refine lv_aload_n hx hb dZM_clear_0 rfl (lv_at hl 0 rfl) ?_
  refine lv_iconst (v := (0 : Int32)) hx hb dZM_clear_1 (by decide) ?_
  refine va_put (D := (dC, dI)) (ci := 6) (v := .int (0 : Int32)) (ty := .int) (C := RZM) (T := TZM) (N := 19) hx hb hts inZM tyZM tyZM_ok nmZM hown hK hP hD hS 0 rfl rfl 0 (by decide) (hts _ mm_618) (fun _ h9 => h9) rfl (by decide +kernel) rfl rfl (Nat.le_of_ble_eq_true rfl) dZM_clear_2 (fun H locs hP hD hS => ?_)
  have hP : va_P (dC, dI) vwCl [(om, .inr (6, [.int (0 : Int32), .int zw, .int zh, .ref ozp, .ref ozs, .ref ozb, .int zz, .ref ozl, .ref ozo, .int zc, .int zr, .int zu, .int zv, .int zq, .int zi, .ref ozk, .ref ozm, .int zd, .ref ozg])), (ozp, .inl (cI, 1600, .inl zp)), (ozs, .inl (cI, 320, .inl zs)), (ozb, .inl (cI, 256, .inl zb)), (ozl, .inl (cI, 64, .inl zl)), (ozo, .inl (cI, 64, .inl zo)), (ozk, .inl (cI, 320, .inl zk)), (ozm, .inl (cI, 40, .inl zm)), (ozg, .inl (cI, 64, .inl zg))] H := hP
  have hD : va_D A [(om, .inr (6, [.int (0 : Int32), .int zw, .int zh, .ref ozp, .ref ozs, .ref ozb, .int zz, .ref ozl, .ref ozo, .int zc, .int zr, .int zu, .int zv, .int zq, .int zi, .ref ozk, .ref ozm, .int zd, .ref ozg])), (ozp, .inl (cI, 1600, .inl zp)), (ozs, .inl (cI, 320, .inl zs)), (ozb, .inl (cI, 256, .inl zb)), (ozl, .inl (cI, 64, .inl zl)), (ozo, .inl (cI, 64, .inl zo)), (ozk, .inl (cI, 320, .inl zk)), (ozm, .inl (cI, 40, .inl zm)), (ozg, .inl (cI, 64, .inl zg))] := hD
  refine lv_aload_n hx hb dZM_clear_5 rfl (lv_at hl 0 rfl) ?_
  refine va_get (D := (dC, dI)) (ci := 6) (v := .int zz) (C := RZM) (T := TZM) (N := 19) hx hb hts inZM hown hK hP 0 rfl rfl 6 (by decide) (hts _ mm_624) (fun _ h9 => h9) rfl dZM_clear_6 ?_
  refine lv_istore_n (lv' := [(1, .int zz), (0, .ref om)]) hx hb dZM_clear_9 rfl hl (by decide) rfl (fun ls hl => ?_)
  refine lv_aload_n hx hb dZM_clear_10 rfl (lv_at hl 1 rfl) ?_
  refine lv_iconst (v := (0 : Int32)) hx hb dZM_clear_11 (by decide) ?_
  refine va_put (D := (dC, dI)) (ci := 6) (v := .int (0 : Int32)) (ty := .int) (C := RZM) (T := TZM) (N := 19) hx hb hts inZM tyZM tyZM_ok nmZM hown hK hP hD hS 0 rfl rfl 6 (by decide) (hts _ mm_624) (fun _ h9 => h9) rfl (by decide +kernel) rfl rfl (Nat.le_of_ble_eq_true rfl) dZM_clear_12 (fun H locs hP hD hS => ?_)
  have hP : va_P (dC, dI) vwCl [(om, .inr (6, [.int (0 : Int32), .int zw, .int zh, .ref ozp, .ref ozs, .ref ozb, .int (0 : Int32), .ref ozl, .ref ozo, .int zc, .int zr, .int zu, .int zv, .int zq, .int zi, .ref ozk, .ref ozm, .int zd, .ref ozg])), (ozp, .inl (cI, 1600, .inl zp)), (ozs, .inl (cI, 320, .inl zs)), (ozb, .inl (cI, 256, .inl zb)), (ozl, .inl (cI, 64, .inl zl)), (ozo, .inl (cI, 64, .inl zo)), (ozk, .inl (cI, 320, .inl zk)), (ozm, .inl (cI, 40, .inl zm)), (ozg, .inl (cI, 64, .inl zg))] H := hP
  have hD : va_D A [(om, .inr (6, [.int (0 : Int32), .int zw, .int zh, .ref ozp, .ref ozs, .ref ozb, .int (0 : Int32), .ref ozl, .ref ozo, .int zc, .int zr, .int zu, .int zv, .int zq, .int zi, .ref ozk, .ref ozm, .int zd, .ref ozg])), (ozp, .inl (cI, 1600, .inl zp)), (ozs, .inl (cI, 320, .inl zs)), (ozb, .inl (cI, 256, .inl zb)), (ozl, .inl (cI, 64, .inl zl)), (ozo, .inl (cI, 64, .inl zo)), (ozk, .inl (cI, 320, .inl zk)), (ozm, .inl (cI, 40, .inl zm)), (ozg, .inl (cI, 64, .inl zg))] := hD
  refine lv_iload_n hx hb dZM_clear_15 rfl (lv_at hl 0 rfl) ?_
  have hP9 := hP.sub (ws' := [(om, .inr (6, [.int (0 : Int32), .int zw, .int zh, .ref ozp, .ref ozs, .ref ozb, .int (0 : Int32), .ref ozl, .ref ozo, .int zc, .int zr, .int zu, .int zv, .int zq, .int zi, .ref ozk, .ref ozm, .int zd, .ref ozg])), (ozp, .inl (cI, 1600, .inl zp)), (ozs, .inl (cI, 320, .inl zs)), (ozb, .inl (cI, 256, .inl zb)), (ozl, .inl (cI, 64, .inl zl)), (ozo, .inl (cI, 64, .inl zo)), (ozk, .inl (cI, 320, .inl zk)), (ozm, .inl (cI, 40, .inl zm)), (ozg, .inl (cI, 64, .inl zg))]) [0, 1, 2, 3, 4, 5, 6, 7, 8] rfl
  have hD9 := hD.sub (ws' := [(om, .inr (6, [.int (0 : Int32), .int zw, .int zh, .ref ozp, .ref ozs, .ref ozb, .int (0 : Int32), .ref ozl, .ref ozo, .int zc, .int zr, .int zu, .int zv, .int zq, .int zi, .ref ozk, .ref ozm, .int zd, .ref ozg])), (ozp, .inl (cI, 1600, .inl zp)), (ozs, .inl (cI, 320, .inl zs)), (ozb, .inl (cI, 256, .inl zb)), (ozl, .inl (cI, 64, .inl zl)), (ozo, .inl (cI, 64, .inl zo)), (ozk, .inl (cI, 320, .inl zk)), (ozm, .inl (cI, 40, .inl zm)), (ozg, .inl (cI, 64, .inl zg))]) [0, 1, 2, 3, 4, 5, 6, 7, 8] (by decide) rfl
  subst hQ9
  exact W.iret (v := zz) hx hb hr (fun t ht hW => ⟨⟨zz, ((0 : Int32), (0 : Int32)), rfl, hw, by rw [ht]; exact hP9, va_K.moved hW.alike hK, hD9⟩, hS.F ht⟩) hS.2.2 dZM_clear_16
theorem dZM_byteAt_0 : decode cZM_byteAt 0 = .ok (.aload_n 0, 1) := by decide +kernel
theorem dZM_byteAt_1 : decode cZM_byteAt 1 = .ok (.aload_n 0, 1) := by decide +kernel
theorem dZM_byteAt_2 : decode cZM_byteAt 2 = .ok (.iload_n 1, 1) := by decide +kernel
theorem dZM_byteAt_3 : decode cZM_byteAt 3 = .ok (.invokevirtual 132, 3) := by decide +kernel
theorem dZM_byteAt_6 : decode cZM_byteAt 6 = .ok (.ifCond .ne 7, 3) := by decide +kernel
theorem dZM_byteAt_9 : decode cZM_byteAt 9 = .ok (.iconst 1, 1) := by decide +kernel
theorem dZM_byteAt_10 : decode cZM_byteAt 10 = .ok (.goto 4, 3) := by decide +kernel
theorem dZM_byteAt_13 : decode cZM_byteAt 13 = .ok (.iconst 0, 1) := by decide +kernel
theorem dZM_byteAt_14 : decode cZM_byteAt 14 = .ok (.iconst 0, 1) := by decide +kernel
theorem dZM_byteAt_15 : decode cZM_byteAt 15 = .ok (.invokevirtual 60, 3) := by decide +kernel
theorem dZM_byteAt_18 : decode cZM_byteAt 18 = .ok (.ifCond .eq 7, 3) := by decide +kernel
theorem dZM_byteAt_21 : decode cZM_byteAt 21 = .ok (.iconst 0, 1) := by decide +kernel
theorem dZM_byteAt_22 : decode cZM_byteAt 22 = .ok (.goto 9, 3) := by decide +kernel
theorem dZM_byteAt_25 : decode cZM_byteAt 25 = .ok (.aload_n 0, 1) := by decide +kernel
theorem dZM_byteAt_26 : decode cZM_byteAt 26 = .ok (.getfield 16, 3) := by decide +kernel
theorem dZM_byteAt_29 : decode cZM_byteAt 29 = .ok (.iload_n 1, 1) := by decide +kernel
theorem dZM_byteAt_30 : decode cZM_byteAt 30 = .ok (.iaload, 1) := by decide +kernel
theorem dZM_byteAt_31 : decode cZM_byteAt 31 = .ok (.ireturn, 1) := by decide +kernel
abbrev wsZM_byteAt : List Cond := .code yZM_byteAt cZM_byteAt 2 (some .int) :: tbg
def wp_ZM_byteAt (zt : Int32) (zw : Int32) (zh : Int32) (zp : Nat → Int32) (zs : Nat → Int32) (zb : Nat → Int32) (zz : Int32) (zl : Nat → Int32) (zo : Nat → Int32) (zc : Int32) (zr : Int32) (zu : Int32) (zv : Int32) (zq : Int32) (zi : Int32) (zk : Nat → Int32) (zm : Nat → Int32) (zd : Int32) (zg : Nat → Int32) (a1 : Int32) (post : Int32 → Int32 → Prop) : Prop := wp_ZM_hasByte zt zw zh zp zs zb zz zl zo zc zr zu zv zq zi zk zm zd zg a1 (fun r_1 : Int32 => ∃ J14 : Int32 → Prop, (∀ (t0_j14 : Int32), J14 t0_j14 → wp_ZM_throwing zt zw zh zp zs zb zz zl zo zc zr zu zv zq zi zk zm zd zg t0_j14 (0 : Int32) (fun (r_3 : Int32) (zt_2 : Int32) => ((r_3 = (0 : Int32) → (vp_in a1 256 ∧ (post (zb a1.toNatClampNeg) zt_2))) ∧ (¬ r_3 = (0 : Int32) → (post (0 : Int32) zt_2))))) ∧ (((r_1 = (0 : Int32) → (J14 (1 : Int32))) ∧ (¬ r_1 = (0 : Int32) → (J14 (0 : Int32))))))
abbrev rm_ZM_byteAt : Room := { frames := 2, cells := 0, slots := 0, locals := 43 }
set_option maxHeartbeats 4000000 in
set_option maxRecDepth 100000 in
theorem kt_ZM_byteAt (l : Launch) (dC : Nat → ClassId) (dI : Nat → Nat → Nat) (cI : ClassId) (om ozp ozs ozb ozl ozo ozk ozm ozg : Nat) (sz : Nat) (zt : Int32) (zw : Int32) (zh : Int32) (zp : Nat → Int32) (zs : Nat → Int32) (zb : Nat → Int32) (zz : Int32) (zl : Nat → Int32) (zo : Nat → Int32) (zc : Int32) (zr : Int32) (zu : Int32) (zv : Int32) (zq : Int32) (zi : Int32) (zk : Nat → Int32) (zm : Nat → Int32) (zd : Int32) (zg : Nat → Int32) (a1 : Int32) (post : Int32 → Int32 → Prop) (hw : wp_ZM_byteAt zt zw zh zp zs zb zz zl zo zc zr zu zv zq zi zk zm zd zg a1 post) : Met l yZM_byteAt wsZM_byteAt rm_ZM_byteAt (gw_Pc dC dI [(cI, .int)] [.ref om, .int a1] [(om, .inr (6, [.int zt, .int zw, .int zh, .ref ozp, .ref ozs, .ref ozb, .int zz, .ref ozl, .ref ozo, .int zc, .int zr, .int zu, .int zv, .int zq, .int zi, .ref ozk, .ref ozm, .int zd, .ref ozg])), (ozp, .inl (cI, 1600, .inl zp)), (ozs, .inl (cI, 320, .inl zs)), (ozb, .inl (cI, 256, .inl zb)), (ozl, .inl (cI, 64, .inl zl)), (ozo, .inl (cI, 64, .inl zo)), (ozk, .inl (cI, 320, .inl zk)), (ozm, .inl (cI, 40, .inl zm)), (ozg, .inl (cI, 64, .inl zg))] sz) (va_Qi (fun (r : Int32) (u : Int32) => post r u) (fun u t => gw_B dC dI [(cI, .int)] (va_A [(om, .inr (6, [.int zt, .int zw, .int zh, .ref ozp, .ref ozs, .ref ozb, .int zz, .ref ozl, .ref ozo, .int zc, .int zr, .int zu, .int zv, .int zq, .int zi, .ref ozk, .ref ozm, .int zd, .ref ozg])), (ozp, .inl (cI, 1600, .inl zp)), (ozs, .inl (cI, 320, .inl zs)), (ozb, .inl (cI, 256, .inl zb)), (ozl, .inl (cI, 64, .inl zl)), (ozo, .inl (cI, 64, .inl zo)), (ozk, .inl (cI, 320, .inl zk)), (ozm, .inl (cI, 40, .inl zm)), (ozg, .inl (cI, 64, .inl zg))] sz) [(om, .inr (6, [.int u, .int zw, .int zh, .ref ozp, .ref ozs, .ref ozb, .int zz, .ref ozl, .ref ozo, .int zc, .int zr, .int zu, .int zv, .int zq, .int zi, .ref ozk, .ref ozm, .int zd, .ref ozg])), (ozp, .inl (cI, 1600, .inl zp)), (ozs, .inl (cI, 320, .inl zs)), (ozb, .inl (cI, 256, .inl zb)), (ozl, .inl (cI, 64, .inl zl)), (ozo, .inl (cI, 64, .inl zo)), (ozk, .inl (cI, 320, .inl zk)), (ozm, .inl (cI, 40, .inl zm)), (ozg, .inl (cI, 64, .inl zg))] t) (va_A [(om, .inr (6, [.int zt, .int zw, .int zh, .ref ozp, .ref ozs, .ref ozb, .int zz, .ref ozl, .ref ozo, .int zc, .int zr, .int zu, .int zv, .int zq, .int zi, .ref ozk, .ref ozm, .int zd, .ref ozg])), (ozp, .inl (cI, 1600, .inl zp)), (ozs, .inl (cI, 320, .inl zs)), (ozb, .inl (cI, 256, .inl zb)), (ozl, .inl (cI, 64, .inl zl)), (ozo, .inl (cI, 64, .inl zo)), (ozk, .inl (cI, 320, .inl zk)), (ozm, .inl (cI, 40, .inl zm)), (ozg, .inl (cI, 64, .inl zg))] sz)) 0 0 (va_A [(om, .inr (6, [.int zt, .int zw, .int zh, .ref ozp, .ref ozs, .ref ozb, .int zz, .ref ozl, .ref ozo, .int zc, .int zr, .int zu, .int zv, .int zq, .int zi, .ref ozk, .ref ozm, .int zd, .ref ozg])), (ozp, .inl (cI, 1600, .inl zp)), (ozs, .inl (cI, 320, .inl zs)), (ozb, .inl (cI, 256, .inl zb)), (ozl, .inl (cI, 64, .inl zl)), (ozo, .inl (cI, 64, .inl zo)), (ozk, .inl (cI, 320, .inl zk)), (ozm, .inl (cI, 40, .inl zm)), (ozg, .inl (cI, 64, .inl zg))] sz) := by
  refine Met.ofW (cc := cZM_byteAt) (maxL := 2) (ret := (some .int)) (by decide) rfl ?_
  intro p e s m args below meth c s₁ B hml hv
  obtain ⟨ha9, hsz, hP, hK, hE, hD0⟩ := hv
  have hx := B.exec
  have hb := B.bytes
  have hr := B.returns
  have hts0 := atoms_spec (ws := wsZM_byteAt) B.pre
  have hts : ∀ w ∈ tbg, w.before args s = true := fun w h => hts0 w (List.mem_cons_of_mem _ h)
  have hown : s.vm.findClass RZM = some m.cls := findClass_of_methodNamed B.named
  have hlocks := B.notSynchronized
  subst hsz
  have hD := hD0.self (sz := s.heap.size)
  refine gx_Q (fun Q9 hQ9 => ?_)
  generalize hAe : va_A [(om, .inr (6, [.int zt, .int zw, .int zh, .ref ozp, .ref ozs, .ref ozb, .int zz, .ref ozl, .ref ozo, .int zc, .int zr, .int zu, .int zv, .int zq, .int zi, .ref ozk, .ref ozm, .int zd, .ref ozg])), (ozp, .inl (cI, 1600, .inl zp)), (ozs, .inl (cI, 320, .inl zs)), (ozb, .inl (cI, 256, .inl zb)), (ozl, .inl (cI, 64, .inl zl)), (ozo, .inl (cI, 64, .inl zo)), (ozk, .inl (cI, 320, .inl zk)), (ozm, .inl (cI, 40, .inl zm)), (ozg, .inl (cI, 64, .inl zg))] s.heap.size = A at hD hQ9 ⊢
  have hA : ∀ q : Nat, s.heap.size ≤ q → A q := fun q h => by rw [← hAe]; exact Or.inr h
  have hS : va_S A s.heap s.heap [] := va_S.rf
  have hl := lv_entry ([.ref om, .int a1]) (n := 2) (Nat.le_of_ble_eq_true rfl)
  have he9 : entryFrame m args 2 = F0 m 0 ((lg_sl [.ref om, .int a1] ++ List.replicate (2 - (lg_sl ([.ref om, .int a1] : List Value)).length) Slot.unset).toArray) [] := by rw [ha9]; exact lg_entry_eq m [.ref om, .int a1] 2
  rw [he9]
  generalize (lg_sl ([.ref om, .int a1] : List Value) ++ List.replicate (2 - (lg_sl ([.ref om, .int a1] : List Value)).length) Slot.unset).toArray = ls at hl ⊢
  have hl : lv_has ls 2 [(0, .ref om), (1, .int a1)] := hl
  refine lv_aload_n hx hb dZM_byteAt_0 rfl (lv_at hl 0 rfl) ?_
  refine lv_aload_n hx hb dZM_byteAt_1 rfl (lv_at hl 0 rfl) ?_
  refine lv_iload_n hx hb dZM_byteAt_2 rfl (lv_at hl 1 rfl) ?_
  refine vp_callSi (va_runV (As := [.int a1]) (rest := [.ref om]) ⟨hx, hb, hml, hown, hts⟩ (kt_ZM_hasByte l dC dI cI om ozp ozs ozb ozl ozo ozk ozm ozg zt zw zh zp zs zb zz zl zo zc zr zu zv zq zi zk zm zd zg a1 _ hw) (cwV 1 hts (tb_V mm_812 mm_814 mp_19 mm_8 mm_815) rfl rfl rfl (by decide +kernel) ⟨Nat.le_of_ble_eq_true rfl, Nat.le_of_ble_eq_true rfl⟩) ⟨gr_blind, va_recv hK hP (ci := 6) (q0 := 0) rfl rfl, fun U hU hW => gr_pre hP hK hE hU hW⟩ rfl rfl hl.1 rfl (lv_room (Nat.le_of_ble_eq_true rfl)) dZM_byteAt_3 ⟨Nat.le_of_ble_eq_true rfl, Nat.le_of_ble_eq_true rfl⟩).run (fun r_1 hw => ?_)
  obtain ⟨J14, hJ14, hw⟩ := hw
  have j14 : ∀ (t0_j14 : Int32), J14 t0_j14 → ∀ (H : Heap) (locs : List Loc), va_P (dC, dI) vwCl [(om, .inr (6, [.int zt, .int zw, .int zh, .ref ozp, .ref ozs, .ref ozb, .int zz, .ref ozl, .ref ozo, .int zc, .int zr, .int zu, .int zv, .int zq, .int zi, .ref ozk, .ref ozm, .int zd, .ref ozg])), (ozp, .inl (cI, 1600, .inl zp)), (ozs, .inl (cI, 320, .inl zs)), (ozb, .inl (cI, 256, .inl zb)), (ozl, .inl (cI, 64, .inl zl)), (ozo, .inl (cI, 64, .inl zo)), (ozk, .inl (cI, 320, .inl zk)), (ozm, .inl (cI, 40, .inl zm)), (ozg, .inl (cI, 64, .inl zg))] H → va_D A [(om, .inr (6, [.int zt, .int zw, .int zh, .ref ozp, .ref ozs, .ref ozb, .int zz, .ref ozl, .ref ozo, .int zc, .int zr, .int zu, .int zv, .int zq, .int zi, .ref ozk, .ref ozm, .int zd, .ref ozg])), (ozp, .inl (cI, 1600, .inl zp)), (ozs, .inl (cI, 320, .inl zs)), (ozb, .inl (cI, 256, .inl zb)), (ozl, .inl (cI, 64, .inl zl)), (ozo, .inl (cI, 64, .inl zo)), (ozk, .inl (cI, 320, .inl zk)), (ozm, .inl (cI, 40, .inl zm)), (ozg, .inl (cI, 64, .inl zg))] → va_S A s.heap H locs → ∀ ls : Array Slot, lv_has ls 2 [(0, .ref om), (1, .int a1)] → W p l e (headSpec wsZM_byteAt rm_ZM_byteAt).room s m args below meth c H locs 0 0 Q9 (F0 m 14 ls [.int t0_j14, .ref om]) := by
    intro t0_j14 hw H locs hP hD hS ls hl
    have hw := hJ14 t0_j14 hw
    refine lv_iconst (v := (0 : Int32)) hx hb dZM_byteAt_14 (by decide) ?_
    have hPc := hP.sub (ws' := [(om, .inr (6, [.int zt, .int zw, .int zh, .ref ozp, .ref ozs, .ref ozb, .int zz, .ref ozl, .ref ozo, .int zc, .int zr, .int zu, .int zv, .int zq, .int zi, .ref ozk, .ref ozm, .int zd, .ref ozg])), (ozp, .inl (cI, 1600, .inl zp)), (ozs, .inl (cI, 320, .inl zs)), (ozb, .inl (cI, 256, .inl zb)), (ozl, .inl (cI, 64, .inl zl)), (ozo, .inl (cI, 64, .inl zo)), (ozk, .inl (cI, 320, .inl zk)), (ozm, .inl (cI, 40, .inl zm)), (ozg, .inl (cI, 64, .inl zg))]) [0, 1, 2, 3, 4, 5, 6, 7, 8] rfl
    have hDc := hD.sub (ws' := [(om, .inr (6, [.int zt, .int zw, .int zh, .ref ozp, .ref ozs, .ref ozb, .int zz, .ref ozl, .ref ozo, .int zc, .int zr, .int zu, .int zv, .int zq, .int zi, .ref ozk, .ref ozm, .int zd, .ref ozg])), (ozp, .inl (cI, 1600, .inl zp)), (ozs, .inl (cI, 320, .inl zs)), (ozb, .inl (cI, 256, .inl zb)), (ozl, .inl (cI, 64, .inl zl)), (ozo, .inl (cI, 64, .inl zo)), (ozk, .inl (cI, 320, .inl zk)), (ozm, .inl (cI, 40, .inl zm)), (ozg, .inl (cI, 64, .inl zg))]) [0, 1, 2, 3, 4, 5, 6, 7, 8] (by decide) rfl
    have hFc := va_free (wc := [(om, .inr (6, [.int zt, .int zw, .int zh, .ref ozp, .ref ozs, .ref ozb, .int zz, .ref ozl, .ref ozo, .int zc, .int zr, .int zu, .int zv, .int zq, .int zi, .ref ozk, .ref ozm, .int zd, .ref ozg])), (ozp, .inl (cI, 1600, .inl zp)), (ozs, .inl (cI, 320, .inl zs)), (ozb, .inl (cI, 256, .inl zb)), (ozl, .inl (cI, 64, .inl zl)), (ozo, .inl (cI, 64, .inl zo)), (ozk, .inl (cI, 320, .inl zk)), (ozm, .inl (cI, 40, .inl zm)), (ozg, .inl (cI, 64, .inl zg))]) hD hS hA [0, 1, 2, 3, 4, 5, 6, 7, 8] rfl
    refine va_calli (va_runV (As := [.int t0_j14, .int (0 : Int32)]) (rest := []) ⟨hx, hb, hml, hown, hts⟩ (kt_ZM_throwing l dC dI cI om ozp ozs ozb ozl ozo ozk ozm ozg _ zt zw zh zp zs zb zz zl zo zc zr zu zv zq zi zk zm zd zg t0_j14 (0 : Int32) _ hw) (cwV 2 hts (tb_V mm_693 mm_695 mp_5 mm_8 mm_696) rfl rfl rfl (by decide +kernel) ⟨Nat.le_of_ble_eq_true rfl, Nat.le_of_ble_eq_true rfl⟩) ⟨gw_blind, va_recv hK hPc (ci := 6) (q0 := 0) rfl rfl, fun U hU hW => gw_pre hPc hDc hK hE hU hW⟩ rfl rfl hl.1 rfl (lv_room (Nat.le_of_ble_eq_true rfl)) dZM_byteAt_15 ⟨Nat.le_of_ble_eq_true rfl, Nat.le_of_ble_eq_true rfl⟩) hS (fun q _ h => hFc q h) hFc (fun r_3 zt_2 t H1 locs ht hvm hw hB hz1 hk1 hS => ?_)
    obtain ⟨hP1, hK1, hD1⟩ := hB
    rw [ht] at hP1
    try dsimp only at hw
    obtain ⟨hP, hD⟩ := va_join (wr := []) (w1 := [(om, .inr (6, [.int zt_2, .int zw, .int zh, .ref ozp, .ref ozs, .ref ozb, .int zz, .ref ozl, .ref ozo, .int zc, .int zr, .int zu, .int zv, .int zq, .int zi, .ref ozk, .ref ozm, .int zd, .ref ozg])), (ozp, .inl (cI, 1600, .inl zp)), (ozs, .inl (cI, 320, .inl zs)), (ozb, .inl (cI, 256, .inl zb)), (ozl, .inl (cI, 64, .inl zl)), (ozo, .inl (cI, 64, .inl zo)), (ozk, .inl (cI, 320, .inl zk)), (ozm, .inl (cI, 40, .inl zm)), (ozg, .inl (cI, 64, .inl zg))]) hP hD [0, 1, 2, 3, 4, 5, 6, 7, 8] [] rfl rfl (by decide) (by decide) hk1 hFc hP1 hD1
    generalize H1 = H at hP hS ⊢
    have hP : va_P (dC, dI) vwCl [(om, .inr (6, [.int zt_2, .int zw, .int zh, .ref ozp, .ref ozs, .ref ozb, .int zz, .ref ozl, .ref ozo, .int zc, .int zr, .int zu, .int zv, .int zq, .int zi, .ref ozk, .ref ozm, .int zd, .ref ozg])), (ozp, .inl (cI, 1600, .inl zp)), (ozs, .inl (cI, 320, .inl zs)), (ozb, .inl (cI, 256, .inl zb)), (ozl, .inl (cI, 64, .inl zl)), (ozo, .inl (cI, 64, .inl zo)), (ozk, .inl (cI, 320, .inl zk)), (ozm, .inl (cI, 40, .inl zm)), (ozg, .inl (cI, 64, .inl zg))] H := hP
    have hD : va_D A [(om, .inr (6, [.int zt_2, .int zw, .int zh, .ref ozp, .ref ozs, .ref ozb, .int zz, .ref ozl, .ref ozo, .int zc, .int zr, .int zu, .int zv, .int zq, .int zi, .ref ozk, .ref ozm, .int zd, .ref ozg])), (ozp, .inl (cI, 1600, .inl zp)), (ozs, .inl (cI, 320, .inl zs)), (ozb, .inl (cI, 256, .inl zb)), (ozl, .inl (cI, 64, .inl zl)), (ozo, .inl (cI, 64, .inl zo)), (ozk, .inl (cI, 320, .inl zk)), (ozm, .inl (cI, 40, .inl zm)), (ozg, .inl (cI, 64, .inl zg))] := hD
    refine lv_if_eq (tgt := 25) hx hb dZM_byteAt_18 (by decide) (fun c_4 => ?_) (fun c_4 => ?_)
    · have hw := hw.1 c_4
      refine lv_aload_n hx hb dZM_byteAt_25 rfl (lv_at hl 0 rfl) ?_
      refine va_get (D := (dC, dI)) (ci := 6) (v := .ref ozb) (C := RZM) (T := TZM) (N := 19) hx hb hts inZM hown hK hP 0 rfl rfl 5 (by decide) (hts _ mm_623) (fun _ h9 => h9) rfl dZM_byteAt_26 ?_
      refine lv_iload_n hx hb dZM_byteAt_29 rfl (lv_at hl 1 rfl) ?_
      obtain ⟨h_5, hw⟩ := hw
      refine va_iald hx hb hK hP 3 0 rfl rfl h_5 dZM_byteAt_30 ?_
      have hP9 := hP.sub (ws' := [(om, .inr (6, [.int zt_2, .int zw, .int zh, .ref ozp, .ref ozs, .ref ozb, .int zz, .ref ozl, .ref ozo, .int zc, .int zr, .int zu, .int zv, .int zq, .int zi, .ref ozk, .ref ozm, .int zd, .ref ozg])), (ozp, .inl (cI, 1600, .inl zp)), (ozs, .inl (cI, 320, .inl zs)), (ozb, .inl (cI, 256, .inl zb)), (ozl, .inl (cI, 64, .inl zl)), (ozo, .inl (cI, 64, .inl zo)), (ozk, .inl (cI, 320, .inl zk)), (ozm, .inl (cI, 40, .inl zm)), (ozg, .inl (cI, 64, .inl zg))]) [0, 1, 2, 3, 4, 5, 6, 7, 8] rfl
      have hD9 := hD.sub (ws' := [(om, .inr (6, [.int zt_2, .int zw, .int zh, .ref ozp, .ref ozs, .ref ozb, .int zz, .ref ozl, .ref ozo, .int zc, .int zr, .int zu, .int zv, .int zq, .int zi, .ref ozk, .ref ozm, .int zd, .ref ozg])), (ozp, .inl (cI, 1600, .inl zp)), (ozs, .inl (cI, 320, .inl zs)), (ozb, .inl (cI, 256, .inl zb)), (ozl, .inl (cI, 64, .inl zl)), (ozo, .inl (cI, 64, .inl zo)), (ozk, .inl (cI, 320, .inl zk)), (ozm, .inl (cI, 40, .inl zm)), (ozg, .inl (cI, 64, .inl zg))]) [0, 1, 2, 3, 4, 5, 6, 7, 8] (by decide) rfl
      subst hQ9
      exact W.iret (v := zb a1.toNatClampNeg) hx hb hr (fun t ht hW => ⟨⟨zb a1.toNatClampNeg, zt_2, rfl, hw, by rw [ht]; exact hP9, va_K.moved hW.alike hK, hD9⟩, hS.F ht⟩) hS.2.2 dZM_byteAt_31
    · have hw := hw.2 c_4
      refine lv_iconst (v := (0 : Int32)) hx hb dZM_byteAt_21 (by decide) ?_
      refine lv_goto (tgt := 31) hx hb dZM_byteAt_22 (by decide) ?_
      have hP9 := hP.sub (ws' := [(om, .inr (6, [.int zt_2, .int zw, .int zh, .ref ozp, .ref ozs, .ref ozb, .int zz, .ref ozl, .ref ozo, .int zc, .int zr, .int zu, .int zv, .int zq, .int zi, .ref ozk, .ref ozm, .int zd, .ref ozg])), (ozp, .inl (cI, 1600, .inl zp)), (ozs, .inl (cI, 320, .inl zs)), (ozb, .inl (cI, 256, .inl zb)), (ozl, .inl (cI, 64, .inl zl)), (ozo, .inl (cI, 64, .inl zo)), (ozk, .inl (cI, 320, .inl zk)), (ozm, .inl (cI, 40, .inl zm)), (ozg, .inl (cI, 64, .inl zg))]) [0, 1, 2, 3, 4, 5, 6, 7, 8] rfl
      have hD9 := hD.sub (ws' := [(om, .inr (6, [.int zt_2, .int zw, .int zh, .ref ozp, .ref ozs, .ref ozb, .int zz, .ref ozl, .ref ozo, .int zc, .int zr, .int zu, .int zv, .int zq, .int zi, .ref ozk, .ref ozm, .int zd, .ref ozg])), (ozp, .inl (cI, 1600, .inl zp)), (ozs, .inl (cI, 320, .inl zs)), (ozb, .inl (cI, 256, .inl zb)), (ozl, .inl (cI, 64, .inl zl)), (ozo, .inl (cI, 64, .inl zo)), (ozk, .inl (cI, 320, .inl zk)), (ozm, .inl (cI, 40, .inl zm)), (ozg, .inl (cI, 64, .inl zg))]) [0, 1, 2, 3, 4, 5, 6, 7, 8] (by decide) rfl
      subst hQ9
      exact W.iret (v := (0 : Int32)) hx hb hr (fun t ht hW => ⟨⟨(0 : Int32), zt_2, rfl, hw, by rw [ht]; exact hP9, va_K.moved hW.alike hK, hD9⟩, hS.F ht⟩) hS.2.2 dZM_byteAt_31
  refine lv_if_ne (tgt := 13) hx hb dZM_byteAt_6 (by decide) (fun c_6 => ?_) (fun c_6 => ?_)
  · have hw := hw.2 c_6
    refine lv_iconst (v := (0 : Int32)) hx hb dZM_byteAt_13 (by decide) ?_
    exact j14 (0 : Int32) hw _ _ (hP.sub [0, 1, 2, 3, 4, 5, 6, 7, 8] rfl) (hD.sub [0, 1, 2, 3, 4, 5, 6, 7, 8] (by decide) rfl) hS ls (lv_sub hl [0, 1] rfl)
  · have hw := hw.1 c_6
    refine lv_iconst (v := (1 : Int32)) hx hb dZM_byteAt_9 (by decide) ?_
    refine lv_goto (tgt := 14) hx hb dZM_byteAt_10 (by decide) ?_
    exact j14 (1 : Int32) hw _ _ (hP.sub [0, 1, 2, 3, 4, 5, 6, 7, 8] rfl) (hD.sub [0, 1, 2, 3, 4, 5, 6, 7, 8] (by decide) rfl) hS ls (lv_sub hl [0, 1] rfl)
theorem dZM_poke_0 : decode cZM_poke 0 = .ok (.aload_n 0, 1) := by decide +kernel
theorem dZM_poke_1 : decode cZM_poke 1 = .ok (.aload_n 0, 1) := by decide +kernel
theorem dZM_poke_2 : decode cZM_poke 2 = .ok (.iload_n 1, 1) := by decide +kernel
theorem dZM_poke_3 : decode cZM_poke 3 = .ok (.invokevirtual 132, 3) := by decide +kernel
theorem dZM_poke_6 : decode cZM_poke 6 = .ok (.ifCond .ne 7, 3) := by decide +kernel
theorem dZM_poke_9 : decode cZM_poke 9 = .ok (.iconst 1, 1) := by decide +kernel
theorem dZM_poke_10 : decode cZM_poke 10 = .ok (.goto 4, 3) := by decide +kernel
theorem dZM_poke_13 : decode cZM_poke 13 = .ok (.iconst 0, 1) := by decide +kernel
theorem dZM_poke_14 : decode cZM_poke 14 = .ok (.iload_n 2, 1) := by decide +kernel
theorem dZM_poke_15 : decode cZM_poke 15 = .ok (.iconst 1, 1) := by decide +kernel
theorem dZM_poke_16 : decode cZM_poke 16 = .ok (.sipush 255, 3) := by decide +kernel
theorem dZM_poke_19 : decode cZM_poke 19 = .ok (.invokestatic 48, 3) := by decide +kernel
theorem dZM_poke_22 : decode cZM_poke 22 = .ok (.ifCond .ne 7, 3) := by decide +kernel
theorem dZM_poke_25 : decode cZM_poke 25 = .ok (.iconst 1, 1) := by decide +kernel
theorem dZM_poke_26 : decode cZM_poke 26 = .ok (.goto 4, 3) := by decide +kernel
theorem dZM_poke_29 : decode cZM_poke 29 = .ok (.iconst 0, 1) := by decide +kernel
theorem dZM_poke_30 : decode cZM_poke 30 = .ok (.invokevirtual 60, 3) := by decide +kernel
theorem dZM_poke_33 : decode cZM_poke 33 = .ok (.ifCond .eq 5, 3) := by decide +kernel
theorem dZM_poke_36 : decode cZM_poke 36 = .ok (.iconst 0, 1) := by decide +kernel
theorem dZM_poke_37 : decode cZM_poke 37 = .ok (.ireturn, 1) := by decide +kernel
theorem dZM_poke_38 : decode cZM_poke 38 = .ok (.aload_n 0, 1) := by decide +kernel
theorem dZM_poke_39 : decode cZM_poke 39 = .ok (.getfield 16, 3) := by decide +kernel
theorem dZM_poke_42 : decode cZM_poke 42 = .ok (.iload_n 1, 1) := by decide +kernel
theorem dZM_poke_43 : decode cZM_poke 43 = .ok (.aload_n 0, 1) := by decide +kernel
theorem dZM_poke_44 : decode cZM_poke 44 = .ok (.getfield 16, 3) := by decide +kernel
theorem dZM_poke_47 : decode cZM_poke 47 = .ok (.iload_n 1, 1) := by decide +kernel
theorem dZM_poke_48 : decode cZM_poke 48 = .ok (.iaload, 1) := by decide +kernel
theorem dZM_poke_49 : decode cZM_poke 49 = .ok (.iload_n 2, 1) := by decide +kernel
theorem dZM_poke_50 : decode cZM_poke 50 = .ok (.ixor, 1) := by decide +kernel
theorem dZM_poke_51 : decode cZM_poke 51 = .ok (.iastore, 1) := by decide +kernel
theorem dZM_poke_52 : decode cZM_poke 52 = .ok (.aload_n 0, 1) := by decide +kernel
theorem dZM_poke_53 : decode cZM_poke 53 = .ok (.getfield 16, 3) := by decide +kernel
theorem dZM_poke_56 : decode cZM_poke 56 = .ok (.iload_n 1, 1) := by decide +kernel
theorem dZM_poke_57 : decode cZM_poke 57 = .ok (.iaload, 1) := by decide +kernel
theorem dZM_poke_58 : decode cZM_poke 58 = .ok (.ireturn, 1) := by decide +kernel
abbrev wsZM_poke : List Cond := .code yZM_poke cZM_poke 3 (some .int) :: tbg
def wp_ZM_poke (zt : Int32) (zw : Int32) (zh : Int32) (zp : Nat → Int32) (zs : Nat → Int32) (zb : Nat → Int32) (zz : Int32) (zl : Nat → Int32) (zo : Nat → Int32) (zc : Int32) (zr : Int32) (zu : Int32) (zv : Int32) (zq : Int32) (zi : Int32) (zk : Nat → Int32) (zm : Nat → Int32) (zd : Int32) (zg : Nat → Int32) (a1 : Int32) (a2 : Int32) (post : Int32 → Int32 → (Nat → Int32) → Prop) : Prop := wp_ZM_hasByte zt zw zh zp zs zb zz zl zo zc zr zu zv zq zi zk zm zd zg a1 (fun r_1 : Int32 => ∃ J14 : Int32 → Prop, (∀ (t0_j14 : Int32), J14 t0_j14 → wp_ZM_in a2 (1 : Int32) (255 : Int32) (fun r_2 : Int32 => ∃ J30 : Int32 → Prop, (∀ (t0_j30 : Int32), J30 t0_j30 → wp_ZM_throwing zt zw zh zp zs zb zz zl zo zc zr zu zv zq zi zk zm zd zg t0_j14 t0_j30 (fun (r_4 : Int32) (zt_3 : Int32) => ((r_4 = (0 : Int32) → (vp_in a1 256 ∧ (vp_in a1 256 ∧ (vp_in a1 256 ∧ (post ((upd zb a1.toNatClampNeg ((zb a1.toNatClampNeg) ^^^ a2)) a1.toNatClampNeg) zt_3 (upd zb a1.toNatClampNeg ((zb a1.toNatClampNeg) ^^^ a2))))))) ∧ (¬ r_4 = (0 : Int32) → (post (0 : Int32) zt_3 zb))))) ∧ (((r_2 = (0 : Int32) → (J30 (1 : Int32))) ∧ (¬ r_2 = (0 : Int32) → (J30 (0 : Int32))))))) ∧ (((r_1 = (0 : Int32) → (J14 (1 : Int32))) ∧ (¬ r_1 = (0 : Int32) → (J14 (0 : Int32))))))
abbrev rm_ZM_poke : Room := { frames := 2, cells := 0, slots := 0, locals := 43 }
set_option maxHeartbeats 4000000 in
set_option maxRecDepth 100000 in
theorem kt_ZM_poke (l : Launch) (dC : Nat → ClassId) (dI : Nat → Nat → Nat) (cI : ClassId) (om ozp ozs ozb ozl ozo ozk ozm ozg : Nat) (sz : Nat) (zt : Int32) (zw : Int32) (zh : Int32) (zp : Nat → Int32) (zs : Nat → Int32) (zb : Nat → Int32) (zz : Int32) (zl : Nat → Int32) (zo : Nat → Int32) (zc : Int32) (zr : Int32) (zu : Int32) (zv : Int32) (zq : Int32) (zi : Int32) (zk : Nat → Int32) (zm : Nat → Int32) (zd : Int32) (zg : Nat → Int32) (a1 : Int32) (a2 : Int32) (post : Int32 → Int32 → (Nat → Int32) → Prop) (hw : wp_ZM_poke zt zw zh zp zs zb zz zl zo zc zr zu zv zq zi zk zm zd zg a1 a2 post) : Met l yZM_poke wsZM_poke rm_ZM_poke (gw_Pc dC dI [(cI, .int)] [.ref om, .int a1, .int a2] [(om, .inr (6, [.int zt, .int zw, .int zh, .ref ozp, .ref ozs, .ref ozb, .int zz, .ref ozl, .ref ozo, .int zc, .int zr, .int zu, .int zv, .int zq, .int zi, .ref ozk, .ref ozm, .int zd, .ref ozg])), (ozp, .inl (cI, 1600, .inl zp)), (ozs, .inl (cI, 320, .inl zs)), (ozb, .inl (cI, 256, .inl zb)), (ozl, .inl (cI, 64, .inl zl)), (ozo, .inl (cI, 64, .inl zo)), (ozk, .inl (cI, 320, .inl zk)), (ozm, .inl (cI, 40, .inl zm)), (ozg, .inl (cI, 64, .inl zg))] sz) (va_Qi (fun (r : Int32) (u : Int32 × (Nat → Int32)) => post r u.1 u.2) (fun u t => gw_B dC dI [(cI, .int)] (va_A [(om, .inr (6, [.int zt, .int zw, .int zh, .ref ozp, .ref ozs, .ref ozb, .int zz, .ref ozl, .ref ozo, .int zc, .int zr, .int zu, .int zv, .int zq, .int zi, .ref ozk, .ref ozm, .int zd, .ref ozg])), (ozp, .inl (cI, 1600, .inl zp)), (ozs, .inl (cI, 320, .inl zs)), (ozb, .inl (cI, 256, .inl zb)), (ozl, .inl (cI, 64, .inl zl)), (ozo, .inl (cI, 64, .inl zo)), (ozk, .inl (cI, 320, .inl zk)), (ozm, .inl (cI, 40, .inl zm)), (ozg, .inl (cI, 64, .inl zg))] sz) [(om, .inr (6, [.int u.1, .int zw, .int zh, .ref ozp, .ref ozs, .ref ozb, .int zz, .ref ozl, .ref ozo, .int zc, .int zr, .int zu, .int zv, .int zq, .int zi, .ref ozk, .ref ozm, .int zd, .ref ozg])), (ozp, .inl (cI, 1600, .inl zp)), (ozs, .inl (cI, 320, .inl zs)), (ozb, .inl (cI, 256, .inl u.2)), (ozl, .inl (cI, 64, .inl zl)), (ozo, .inl (cI, 64, .inl zo)), (ozk, .inl (cI, 320, .inl zk)), (ozm, .inl (cI, 40, .inl zm)), (ozg, .inl (cI, 64, .inl zg))] t) (va_A [(om, .inr (6, [.int zt, .int zw, .int zh, .ref ozp, .ref ozs, .ref ozb, .int zz, .ref ozl, .ref ozo, .int zc, .int zr, .int zu, .int zv, .int zq, .int zi, .ref ozk, .ref ozm, .int zd, .ref ozg])), (ozp, .inl (cI, 1600, .inl zp)), (ozs, .inl (cI, 320, .inl zs)), (ozb, .inl (cI, 256, .inl zb)), (ozl, .inl (cI, 64, .inl zl)), (ozo, .inl (cI, 64, .inl zo)), (ozk, .inl (cI, 320, .inl zk)), (ozm, .inl (cI, 40, .inl zm)), (ozg, .inl (cI, 64, .inl zg))] sz)) 0 0 (va_A [(om, .inr (6, [.int zt, .int zw, .int zh, .ref ozp, .ref ozs, .ref ozb, .int zz, .ref ozl, .ref ozo, .int zc, .int zr, .int zu, .int zv, .int zq, .int zi, .ref ozk, .ref ozm, .int zd, .ref ozg])), (ozp, .inl (cI, 1600, .inl zp)), (ozs, .inl (cI, 320, .inl zs)), (ozb, .inl (cI, 256, .inl zb)), (ozl, .inl (cI, 64, .inl zl)), (ozo, .inl (cI, 64, .inl zo)), (ozk, .inl (cI, 320, .inl zk)), (ozm, .inl (cI, 40, .inl zm)), (ozg, .inl (cI, 64, .inl zg))] sz) := by
  refine Met.ofW (cc := cZM_poke) (maxL := 3) (ret := (some .int)) (by decide) rfl ?_
  intro p e s m args below meth c s₁ B hml hv
  obtain ⟨ha9, hsz, hP, hK, hE, hD0⟩ := hv
  have hx := B.exec
  have hb := B.bytes
  have hr := B.returns
  have hts0 := atoms_spec (ws := wsZM_poke) B.pre
  have hts : ∀ w ∈ tbg, w.before args s = true := fun w h => hts0 w (List.mem_cons_of_mem _ h)
  have hown : s.vm.findClass RZM = some m.cls := findClass_of_methodNamed B.named
  have hlocks := B.notSynchronized
  subst hsz
  have hD := hD0.self (sz := s.heap.size)
  refine gx_Q (fun Q9 hQ9 => ?_)
  generalize hAe : va_A [(om, .inr (6, [.int zt, .int zw, .int zh, .ref ozp, .ref ozs, .ref ozb, .int zz, .ref ozl, .ref ozo, .int zc, .int zr, .int zu, .int zv, .int zq, .int zi, .ref ozk, .ref ozm, .int zd, .ref ozg])), (ozp, .inl (cI, 1600, .inl zp)), (ozs, .inl (cI, 320, .inl zs)), (ozb, .inl (cI, 256, .inl zb)), (ozl, .inl (cI, 64, .inl zl)), (ozo, .inl (cI, 64, .inl zo)), (ozk, .inl (cI, 320, .inl zk)), (ozm, .inl (cI, 40, .inl zm)), (ozg, .inl (cI, 64, .inl zg))] s.heap.size = A at hD hQ9 ⊢
  have hA : ∀ q : Nat, s.heap.size ≤ q → A q := fun q h => by rw [← hAe]; exact Or.inr h
  have hS : va_S A s.heap s.heap [] := va_S.rf
  have hl := lv_entry ([.ref om, .int a1, .int a2]) (n := 3) (Nat.le_of_ble_eq_true rfl)
  have he9 : entryFrame m args 3 = F0 m 0 ((lg_sl [.ref om, .int a1, .int a2] ++ List.replicate (3 - (lg_sl ([.ref om, .int a1, .int a2] : List Value)).length) Slot.unset).toArray) [] := by rw [ha9]; exact lg_entry_eq m [.ref om, .int a1, .int a2] 3
  rw [he9]
  generalize (lg_sl ([.ref om, .int a1, .int a2] : List Value) ++ List.replicate (3 - (lg_sl ([.ref om, .int a1, .int a2] : List Value)).length) Slot.unset).toArray = ls at hl ⊢
  have hl : lv_has ls 3 [(0, .ref om), (1, .int a1), (2, .int a2)] := hl
  refine lv_aload_n hx hb dZM_poke_0 rfl (lv_at hl 0 rfl) ?_
  refine lv_aload_n hx hb dZM_poke_1 rfl (lv_at hl 0 rfl) ?_
  refine lv_iload_n hx hb dZM_poke_2 rfl (lv_at hl 1 rfl) ?_
  refine vp_callSi (va_runV (As := [.int a1]) (rest := [.ref om]) ⟨hx, hb, hml, hown, hts⟩ (kt_ZM_hasByte l dC dI cI om ozp ozs ozb ozl ozo ozk ozm ozg zt zw zh zp zs zb zz zl zo zc zr zu zv zq zi zk zm zd zg a1 _ hw) (cwV 1 hts (tb_V mm_812 mm_814 mp_19 mm_8 mm_815) rfl rfl rfl (by decide +kernel) ⟨Nat.le_of_ble_eq_true rfl, Nat.le_of_ble_eq_true rfl⟩) ⟨gr_blind, va_recv hK hP (ci := 6) (q0 := 0) rfl rfl, fun U hU hW => gr_pre hP hK hE hU hW⟩ rfl rfl hl.1 rfl (lv_room (Nat.le_of_ble_eq_true rfl)) dZM_poke_3 ⟨Nat.le_of_ble_eq_true rfl, Nat.le_of_ble_eq_true rfl⟩).run (fun r_1 hw => ?_)
  obtain ⟨J14, hJ14, hw⟩ := hw
  have j14 : ∀ (t0_j14 : Int32), J14 t0_j14 → ∀ (H : Heap) (locs : List Loc), va_P (dC, dI) vwCl [(om, .inr (6, [.int zt, .int zw, .int zh, .ref ozp, .ref ozs, .ref ozb, .int zz, .ref ozl, .ref ozo, .int zc, .int zr, .int zu, .int zv, .int zq, .int zi, .ref ozk, .ref ozm, .int zd, .ref ozg])), (ozp, .inl (cI, 1600, .inl zp)), (ozs, .inl (cI, 320, .inl zs)), (ozb, .inl (cI, 256, .inl zb)), (ozl, .inl (cI, 64, .inl zl)), (ozo, .inl (cI, 64, .inl zo)), (ozk, .inl (cI, 320, .inl zk)), (ozm, .inl (cI, 40, .inl zm)), (ozg, .inl (cI, 64, .inl zg))] H → va_D A [(om, .inr (6, [.int zt, .int zw, .int zh, .ref ozp, .ref ozs, .ref ozb, .int zz, .ref ozl, .ref ozo, .int zc, .int zr, .int zu, .int zv, .int zq, .int zi, .ref ozk, .ref ozm, .int zd, .ref ozg])), (ozp, .inl (cI, 1600, .inl zp)), (ozs, .inl (cI, 320, .inl zs)), (ozb, .inl (cI, 256, .inl zb)), (ozl, .inl (cI, 64, .inl zl)), (ozo, .inl (cI, 64, .inl zo)), (ozk, .inl (cI, 320, .inl zk)), (ozm, .inl (cI, 40, .inl zm)), (ozg, .inl (cI, 64, .inl zg))] → va_S A s.heap H locs → ∀ ls : Array Slot, lv_has ls 3 [(0, .ref om), (1, .int a1), (2, .int a2)] → W p l e (headSpec wsZM_poke rm_ZM_poke).room s m args below meth c H locs 0 0 Q9 (F0 m 14 ls [.int t0_j14, .ref om]) := by
    intro t0_j14 hw H locs hP hD hS ls hl
    have hw := hJ14 t0_j14 hw
    refine lv_iload_n hx hb dZM_poke_14 rfl (lv_at hl 2 rfl) ?_
    refine lv_iconst (v := (1 : Int32)) hx hb dZM_poke_15 (by decide) ?_
    refine lv_sipush (v := (255 : Int32)) hx hb dZM_poke_16 (by decide) ?_
    have hPc := hP.sub (ws' := []) [] rfl
    refine vp_callSi (va_runS (As := [.int a2, .int (1 : Int32), .int (255 : Int32)]) (rest := [.int t0_j14, .ref om]) ⟨hx, hb, hml, hown, hts⟩ (kt_ZM_in l dC dI cI  a2 (1 : Int32) (255 : Int32) _ hw) (va_cwS 3 hts (tb_S mm_687 mm_688 mm_8 mm_689) rfl rfl rfl (by decide +kernel) ⟨Nat.le_of_ble_eq_true rfl, Nat.le_of_ble_eq_true rfl⟩) ⟨gr_blind, fun U hU hW => gr_pre hPc hK hE hU hW⟩ rfl rfl hl.1 rfl (lv_room (Nat.le_of_ble_eq_true rfl)) dZM_poke_19 ⟨Nat.le_of_ble_eq_true rfl, Nat.le_of_ble_eq_true rfl⟩).run (fun r_2 hw => ?_)
    obtain ⟨J30, hJ30, hw⟩ := hw
    have j30 : ∀ (t0_j30 : Int32), J30 t0_j30 → ∀ (H : Heap) (locs : List Loc), va_P (dC, dI) vwCl [(om, .inr (6, [.int zt, .int zw, .int zh, .ref ozp, .ref ozs, .ref ozb, .int zz, .ref ozl, .ref ozo, .int zc, .int zr, .int zu, .int zv, .int zq, .int zi, .ref ozk, .ref ozm, .int zd, .ref ozg])), (ozp, .inl (cI, 1600, .inl zp)), (ozs, .inl (cI, 320, .inl zs)), (ozb, .inl (cI, 256, .inl zb)), (ozl, .inl (cI, 64, .inl zl)), (ozo, .inl (cI, 64, .inl zo)), (ozk, .inl (cI, 320, .inl zk)), (ozm, .inl (cI, 40, .inl zm)), (ozg, .inl (cI, 64, .inl zg))] H → va_D A [(om, .inr (6, [.int zt, .int zw, .int zh, .ref ozp, .ref ozs, .ref ozb, .int zz, .ref ozl, .ref ozo, .int zc, .int zr, .int zu, .int zv, .int zq, .int zi, .ref ozk, .ref ozm, .int zd, .ref ozg])), (ozp, .inl (cI, 1600, .inl zp)), (ozs, .inl (cI, 320, .inl zs)), (ozb, .inl (cI, 256, .inl zb)), (ozl, .inl (cI, 64, .inl zl)), (ozo, .inl (cI, 64, .inl zo)), (ozk, .inl (cI, 320, .inl zk)), (ozm, .inl (cI, 40, .inl zm)), (ozg, .inl (cI, 64, .inl zg))] → va_S A s.heap H locs → ∀ ls : Array Slot, lv_has ls 3 [(0, .ref om), (1, .int a1), (2, .int a2)] → W p l e (headSpec wsZM_poke rm_ZM_poke).room s m args below meth c H locs 0 0 Q9 (F0 m 30 ls [.int t0_j30, .int t0_j14, .ref om]) := by
      intro t0_j30 hw H locs hP hD hS ls hl
      have hw := hJ30 t0_j30 hw
      have hPc := hP.sub (ws' := [(om, .inr (6, [.int zt, .int zw, .int zh, .ref ozp, .ref ozs, .ref ozb, .int zz, .ref ozl, .ref ozo, .int zc, .int zr, .int zu, .int zv, .int zq, .int zi, .ref ozk, .ref ozm, .int zd, .ref ozg])), (ozp, .inl (cI, 1600, .inl zp)), (ozs, .inl (cI, 320, .inl zs)), (ozb, .inl (cI, 256, .inl zb)), (ozl, .inl (cI, 64, .inl zl)), (ozo, .inl (cI, 64, .inl zo)), (ozk, .inl (cI, 320, .inl zk)), (ozm, .inl (cI, 40, .inl zm)), (ozg, .inl (cI, 64, .inl zg))]) [0, 1, 2, 3, 4, 5, 6, 7, 8] rfl
      have hDc := hD.sub (ws' := [(om, .inr (6, [.int zt, .int zw, .int zh, .ref ozp, .ref ozs, .ref ozb, .int zz, .ref ozl, .ref ozo, .int zc, .int zr, .int zu, .int zv, .int zq, .int zi, .ref ozk, .ref ozm, .int zd, .ref ozg])), (ozp, .inl (cI, 1600, .inl zp)), (ozs, .inl (cI, 320, .inl zs)), (ozb, .inl (cI, 256, .inl zb)), (ozl, .inl (cI, 64, .inl zl)), (ozo, .inl (cI, 64, .inl zo)), (ozk, .inl (cI, 320, .inl zk)), (ozm, .inl (cI, 40, .inl zm)), (ozg, .inl (cI, 64, .inl zg))]) [0, 1, 2, 3, 4, 5, 6, 7, 8] (by decide) rfl
      have hFc := va_free (wc := [(om, .inr (6, [.int zt, .int zw, .int zh, .ref ozp, .ref ozs, .ref ozb, .int zz, .ref ozl, .ref ozo, .int zc, .int zr, .int zu, .int zv, .int zq, .int zi, .ref ozk, .ref ozm, .int zd, .ref ozg])), (ozp, .inl (cI, 1600, .inl zp)), (ozs, .inl (cI, 320, .inl zs)), (ozb, .inl (cI, 256, .inl zb)), (ozl, .inl (cI, 64, .inl zl)), (ozo, .inl (cI, 64, .inl zo)), (ozk, .inl (cI, 320, .inl zk)), (ozm, .inl (cI, 40, .inl zm)), (ozg, .inl (cI, 64, .inl zg))]) hD hS hA [0, 1, 2, 3, 4, 5, 6, 7, 8] rfl
      refine va_calli (va_runV (As := [.int t0_j14, .int t0_j30]) (rest := []) ⟨hx, hb, hml, hown, hts⟩ (kt_ZM_throwing l dC dI cI om ozp ozs ozb ozl ozo ozk ozm ozg _ zt zw zh zp zs zb zz zl zo zc zr zu zv zq zi zk zm zd zg t0_j14 t0_j30 _ hw) (cwV 2 hts (tb_V mm_693 mm_695 mp_5 mm_8 mm_696) rfl rfl rfl (by decide +kernel) ⟨Nat.le_of_ble_eq_true rfl, Nat.le_of_ble_eq_true rfl⟩) ⟨gw_blind, va_recv hK hPc (ci := 6) (q0 := 0) rfl rfl, fun U hU hW => gw_pre hPc hDc hK hE hU hW⟩ rfl rfl hl.1 rfl (lv_room (Nat.le_of_ble_eq_true rfl)) dZM_poke_30 ⟨Nat.le_of_ble_eq_true rfl, Nat.le_of_ble_eq_true rfl⟩) hS (fun q _ h => hFc q h) hFc (fun r_4 zt_3 t H1 locs ht hvm hw hB hz1 hk1 hS => ?_)
      obtain ⟨hP1, hK1, hD1⟩ := hB
      rw [ht] at hP1
      try dsimp only at hw
      obtain ⟨hP, hD⟩ := va_join (wr := []) (w1 := [(om, .inr (6, [.int zt_3, .int zw, .int zh, .ref ozp, .ref ozs, .ref ozb, .int zz, .ref ozl, .ref ozo, .int zc, .int zr, .int zu, .int zv, .int zq, .int zi, .ref ozk, .ref ozm, .int zd, .ref ozg])), (ozp, .inl (cI, 1600, .inl zp)), (ozs, .inl (cI, 320, .inl zs)), (ozb, .inl (cI, 256, .inl zb)), (ozl, .inl (cI, 64, .inl zl)), (ozo, .inl (cI, 64, .inl zo)), (ozk, .inl (cI, 320, .inl zk)), (ozm, .inl (cI, 40, .inl zm)), (ozg, .inl (cI, 64, .inl zg))]) hP hD [0, 1, 2, 3, 4, 5, 6, 7, 8] [] rfl rfl (by decide) (by decide) hk1 hFc hP1 hD1
      generalize H1 = H at hP hS ⊢
      have hP : va_P (dC, dI) vwCl [(om, .inr (6, [.int zt_3, .int zw, .int zh, .ref ozp, .ref ozs, .ref ozb, .int zz, .ref ozl, .ref ozo, .int zc, .int zr, .int zu, .int zv, .int zq, .int zi, .ref ozk, .ref ozm, .int zd, .ref ozg])), (ozp, .inl (cI, 1600, .inl zp)), (ozs, .inl (cI, 320, .inl zs)), (ozb, .inl (cI, 256, .inl zb)), (ozl, .inl (cI, 64, .inl zl)), (ozo, .inl (cI, 64, .inl zo)), (ozk, .inl (cI, 320, .inl zk)), (ozm, .inl (cI, 40, .inl zm)), (ozg, .inl (cI, 64, .inl zg))] H := hP
      have hD : va_D A [(om, .inr (6, [.int zt_3, .int zw, .int zh, .ref ozp, .ref ozs, .ref ozb, .int zz, .ref ozl, .ref ozo, .int zc, .int zr, .int zu, .int zv, .int zq, .int zi, .ref ozk, .ref ozm, .int zd, .ref ozg])), (ozp, .inl (cI, 1600, .inl zp)), (ozs, .inl (cI, 320, .inl zs)), (ozb, .inl (cI, 256, .inl zb)), (ozl, .inl (cI, 64, .inl zl)), (ozo, .inl (cI, 64, .inl zo)), (ozk, .inl (cI, 320, .inl zk)), (ozm, .inl (cI, 40, .inl zm)), (ozg, .inl (cI, 64, .inl zg))] := hD
      refine lv_if_eq (tgt := 38) hx hb dZM_poke_33 (by decide) (fun c_5 => ?_) (fun c_5 => ?_)
      · have hw := hw.1 c_5
        refine lv_aload_n hx hb dZM_poke_38 rfl (lv_at hl 0 rfl) ?_
        refine va_get (D := (dC, dI)) (ci := 6) (v := .ref ozb) (C := RZM) (T := TZM) (N := 19) hx hb hts inZM hown hK hP 0 rfl rfl 5 (by decide) (hts _ mm_623) (fun _ h9 => h9) rfl dZM_poke_39 ?_
        refine lv_iload_n hx hb dZM_poke_42 rfl (lv_at hl 1 rfl) ?_
        refine lv_aload_n hx hb dZM_poke_43 rfl (lv_at hl 0 rfl) ?_
        refine va_get (D := (dC, dI)) (ci := 6) (v := .ref ozb) (C := RZM) (T := TZM) (N := 19) hx hb hts inZM hown hK hP 0 rfl rfl 5 (by decide) (hts _ mm_623) (fun _ h9 => h9) rfl dZM_poke_44 ?_
        refine lv_iload_n hx hb dZM_poke_47 rfl (lv_at hl 1 rfl) ?_
        obtain ⟨h_6, hw⟩ := hw
        refine va_iald hx hb hK hP 3 0 rfl rfl h_6 dZM_poke_48 ?_
        refine lv_iload_n hx hb dZM_poke_49 rfl (lv_at hl 2 rfl) ?_
        refine lv_ixor hx hb dZM_poke_50 ?_
        obtain ⟨h_7, hw⟩ := hw
        refine va_iast hx hb hK hP hD hS 3 0 rfl rfl h_7 dZM_poke_51 (fun H locs hP hD hS => ?_)
        have hP : va_P (dC, dI) vwCl [(om, .inr (6, [.int zt_3, .int zw, .int zh, .ref ozp, .ref ozs, .ref ozb, .int zz, .ref ozl, .ref ozo, .int zc, .int zr, .int zu, .int zv, .int zq, .int zi, .ref ozk, .ref ozm, .int zd, .ref ozg])), (ozp, .inl (cI, 1600, .inl zp)), (ozs, .inl (cI, 320, .inl zs)), (ozb, .inl (cI, 256, .inl (upd zb a1.toNatClampNeg ((zb a1.toNatClampNeg) ^^^ a2)))), (ozl, .inl (cI, 64, .inl zl)), (ozo, .inl (cI, 64, .inl zo)), (ozk, .inl (cI, 320, .inl zk)), (ozm, .inl (cI, 40, .inl zm)), (ozg, .inl (cI, 64, .inl zg))] H := hP
        have hD : va_D A [(om, .inr (6, [.int zt_3, .int zw, .int zh, .ref ozp, .ref ozs, .ref ozb, .int zz, .ref ozl, .ref ozo, .int zc, .int zr, .int zu, .int zv, .int zq, .int zi, .ref ozk, .ref ozm, .int zd, .ref ozg])), (ozp, .inl (cI, 1600, .inl zp)), (ozs, .inl (cI, 320, .inl zs)), (ozb, .inl (cI, 256, .inl (upd zb a1.toNatClampNeg ((zb a1.toNatClampNeg) ^^^ a2)))), (ozl, .inl (cI, 64, .inl zl)), (ozo, .inl (cI, 64, .inl zo)), (ozk, .inl (cI, 320, .inl zk)), (ozm, .inl (cI, 40, .inl zm)), (ozg, .inl (cI, 64, .inl zg))] := hD
        refine lv_aload_n hx hb dZM_poke_52 rfl (lv_at hl 0 rfl) ?_
        refine va_get (D := (dC, dI)) (ci := 6) (v := .ref ozb) (C := RZM) (T := TZM) (N := 19) hx hb hts inZM hown hK hP 0 rfl rfl 5 (by decide) (hts _ mm_623) (fun _ h9 => h9) rfl dZM_poke_53 ?_
        refine lv_iload_n hx hb dZM_poke_56 rfl (lv_at hl 1 rfl) ?_
        obtain ⟨h_8, hw⟩ := hw
        refine va_iald hx hb hK hP 3 0 rfl rfl h_8 dZM_poke_57 ?_
        have hP9 := hP.sub (ws' := [(om, .inr (6, [.int zt_3, .int zw, .int zh, .ref ozp, .ref ozs, .ref ozb, .int zz, .ref ozl, .ref ozo, .int zc, .int zr, .int zu, .int zv, .int zq, .int zi, .ref ozk, .ref ozm, .int zd, .ref ozg])), (ozp, .inl (cI, 1600, .inl zp)), (ozs, .inl (cI, 320, .inl zs)), (ozb, .inl (cI, 256, .inl (upd zb a1.toNatClampNeg ((zb a1.toNatClampNeg) ^^^ a2)))), (ozl, .inl (cI, 64, .inl zl)), (ozo, .inl (cI, 64, .inl zo)), (ozk, .inl (cI, 320, .inl zk)), (ozm, .inl (cI, 40, .inl zm)), (ozg, .inl (cI, 64, .inl zg))]) [0, 1, 2, 3, 4, 5, 6, 7, 8] rfl
        have hD9 := hD.sub (ws' := [(om, .inr (6, [.int zt_3, .int zw, .int zh, .ref ozp, .ref ozs, .ref ozb, .int zz, .ref ozl, .ref ozo, .int zc, .int zr, .int zu, .int zv, .int zq, .int zi, .ref ozk, .ref ozm, .int zd, .ref ozg])), (ozp, .inl (cI, 1600, .inl zp)), (ozs, .inl (cI, 320, .inl zs)), (ozb, .inl (cI, 256, .inl (upd zb a1.toNatClampNeg ((zb a1.toNatClampNeg) ^^^ a2)))), (ozl, .inl (cI, 64, .inl zl)), (ozo, .inl (cI, 64, .inl zo)), (ozk, .inl (cI, 320, .inl zk)), (ozm, .inl (cI, 40, .inl zm)), (ozg, .inl (cI, 64, .inl zg))]) [0, 1, 2, 3, 4, 5, 6, 7, 8] (by decide) rfl
        subst hQ9
        exact W.iret (v := (upd zb a1.toNatClampNeg ((zb a1.toNatClampNeg) ^^^ a2)) a1.toNatClampNeg) hx hb hr (fun t ht hW => ⟨⟨(upd zb a1.toNatClampNeg ((zb a1.toNatClampNeg) ^^^ a2)) a1.toNatClampNeg, (zt_3, upd zb a1.toNatClampNeg ((zb a1.toNatClampNeg) ^^^ a2)), rfl, hw, by rw [ht]; exact hP9, va_K.moved hW.alike hK, hD9⟩, hS.F ht⟩) hS.2.2 dZM_poke_58
      · have hw := hw.2 c_5
        refine lv_iconst (v := (0 : Int32)) hx hb dZM_poke_36 (by decide) ?_
        have hP9 := hP.sub (ws' := [(om, .inr (6, [.int zt_3, .int zw, .int zh, .ref ozp, .ref ozs, .ref ozb, .int zz, .ref ozl, .ref ozo, .int zc, .int zr, .int zu, .int zv, .int zq, .int zi, .ref ozk, .ref ozm, .int zd, .ref ozg])), (ozp, .inl (cI, 1600, .inl zp)), (ozs, .inl (cI, 320, .inl zs)), (ozb, .inl (cI, 256, .inl zb)), (ozl, .inl (cI, 64, .inl zl)), (ozo, .inl (cI, 64, .inl zo)), (ozk, .inl (cI, 320, .inl zk)), (ozm, .inl (cI, 40, .inl zm)), (ozg, .inl (cI, 64, .inl zg))]) [0, 1, 2, 3, 4, 5, 6, 7, 8] rfl
        have hD9 := hD.sub (ws' := [(om, .inr (6, [.int zt_3, .int zw, .int zh, .ref ozp, .ref ozs, .ref ozb, .int zz, .ref ozl, .ref ozo, .int zc, .int zr, .int zu, .int zv, .int zq, .int zi, .ref ozk, .ref ozm, .int zd, .ref ozg])), (ozp, .inl (cI, 1600, .inl zp)), (ozs, .inl (cI, 320, .inl zs)), (ozb, .inl (cI, 256, .inl zb)), (ozl, .inl (cI, 64, .inl zl)), (ozo, .inl (cI, 64, .inl zo)), (ozk, .inl (cI, 320, .inl zk)), (ozm, .inl (cI, 40, .inl zm)), (ozg, .inl (cI, 64, .inl zg))]) [0, 1, 2, 3, 4, 5, 6, 7, 8] (by decide) rfl
        subst hQ9
        exact W.iret (v := (0 : Int32)) hx hb hr (fun t ht hW => ⟨⟨(0 : Int32), (zt_3, zb), rfl, hw, by rw [ht]; exact hP9, va_K.moved hW.alike hK, hD9⟩, hS.F ht⟩) hS.2.2 dZM_poke_37
    refine lv_if_ne (tgt := 29) hx hb dZM_poke_22 (by decide) (fun c_9 => ?_) (fun c_9 => ?_)
    · have hw := hw.2 c_9
      refine lv_iconst (v := (0 : Int32)) hx hb dZM_poke_29 (by decide) ?_
      exact j30 (0 : Int32) hw _ _ (hP.sub [0, 1, 2, 3, 4, 5, 6, 7, 8] rfl) (hD.sub [0, 1, 2, 3, 4, 5, 6, 7, 8] (by decide) rfl) hS ls (lv_sub hl [0, 1, 2] rfl)
    · have hw := hw.1 c_9
      refine lv_iconst (v := (1 : Int32)) hx hb dZM_poke_25 (by decide) ?_
      refine lv_goto (tgt := 30) hx hb dZM_poke_26 (by decide) ?_
      exact j30 (1 : Int32) hw _ _ (hP.sub [0, 1, 2, 3, 4, 5, 6, 7, 8] rfl) (hD.sub [0, 1, 2, 3, 4, 5, 6, 7, 8] (by decide) rfl) hS ls (lv_sub hl [0, 1, 2] rfl)
  refine lv_if_ne (tgt := 13) hx hb dZM_poke_6 (by decide) (fun c_10 => ?_) (fun c_10 => ?_)
  · have hw := hw.2 c_10
    refine lv_iconst (v := (0 : Int32)) hx hb dZM_poke_13 (by decide) ?_
    exact j14 (0 : Int32) hw _ _ (hP.sub [0, 1, 2, 3, 4, 5, 6, 7, 8] rfl) (hD.sub [0, 1, 2, 3, 4, 5, 6, 7, 8] (by decide) rfl) hS ls (lv_sub hl [0, 1, 2] rfl)
  · have hw := hw.1 c_10
    refine lv_iconst (v := (1 : Int32)) hx hb dZM_poke_9 (by decide) ?_
    refine lv_goto (tgt := 14) hx hb dZM_poke_10 (by decide) ?_
    exact j14 (1 : Int32) hw _ _ (hP.sub [0, 1, 2, 3, 4, 5, 6, 7, 8] rfl) (hD.sub [0, 1, 2, 3, 4, 5, 6, 7, 8] (by decide) rfl) hS ls (lv_sub hl [0, 1, 2] rfl)
