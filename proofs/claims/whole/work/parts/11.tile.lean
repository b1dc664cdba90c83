theorem dZT_setSize_0 : decode cZT_setSize 0 = .ok (.aload_n 0, 1) := by decide +kernel
theorem dZT_setSize_1 : decode cZT_setSize 1 = .ok (.iload_n 1, 1) := by decide +kernel
theorem dZT_setSize_2 : decode cZT_setSize 2 = .ok (.putfield 15, 3) := by decide +kernel
theorem dZT_setSize_5 : decode cZT_setSize 5 = .ok (.aload_n 0, 1) := by decide +kernel
theorem dZT_setSize_6 : decode cZT_setSize 6 = .ok (.iload_n 2, 1) := by decide +kernel
theorem dZT_setSize_7 : decode cZT_setSize 7 = .ok (.putfield 19, 3) := by decide +kernel
theorem dZT_setSize_10 : decode cZT_setSize 10 = .ok (.return_, 1) := by decide +kernel
abbrev wsZT_setSize : List Cond := .code yZT_setSize cZT_setSize 3 none :: tbg
def wp_ZT_setSize (tw : Int32) (th : Int32) (tf : Nat → Int32) (a1 : Int32) (a2 : Int32) (post : Int32 → Int32 → Prop) : Prop := post a1 a2
abbrev rm_ZT_setSize : Room := { frames := 0, cells := 0, slots := 0, locals := 0 }
set_option maxHeartbeats 4000000 in
set_option maxRecDepth 100000 in
theorem kt_ZT_setSize (l : Launch) (dC : Nat → ClassId) (dI : Nat → Nat → Nat) (cI : ClassId) (ot ota : Nat) (sz : Nat) (tw : Int32) (th : Int32) (tf : Nat → Int32) (a1 : Int32) (a2 : Int32) (post : Int32 → Int32 → Prop) (hw : wp_ZT_setSize tw th tf a1 a2 post) : Met l yZT_setSize wsZT_setSize rm_ZT_setSize (gw_Pc dC dI [(cI, .int)] [.ref ot, .int a1, .int a2] [(ot, .inr (4, [.ref ota, .int tw, .int th])), (ota, .inl (cI, 64, .inl tf))] sz) (va_Qv (fun (u : Int32 × Int32) => post u.1 u.2) (fun u t => gw_B dC dI [(cI, .int)] (va_A [(ot, .inr (4, [.ref ota, .int tw, .int th])), (ota, .inl (cI, 64, .inl tf))] sz) [(ot, .inr (4, [.ref ota, .int u.1, .int u.2])), (ota, .inl (cI, 64, .inl tf))] t) (va_A [(ot, .inr (4, [.ref ota, .int tw, .int th])), (ota, .inl (cI, 64, .inl tf))] sz)) 0 0 (va_A [(ot, .inr (4, [.ref ota, .int tw, .int th])), (ota, .inl (cI, 64, .inl tf))] sz) := by
  refine Met.ofW (cc := cZT_setSize) (maxL := 3) (ret := none) (by decide) rfl ?_
  intro p e s m args below meth c s₁ B hml hv
  obtain ⟨ha9, hsz, hP, hK, hE, hD0⟩ := hv
  have hx := B.exec
  have hb := B.bytes
  have hr := B.returns
  have hts0 := atoms_spec (ws := wsZT_setSize) B.pre
  have hts : ∀ w ∈ tbg, w.before args s = true := fun w h => hts0 w (List.mem_cons_of_mem _ h)
  have hown : s.vm.findClass RZT = some m.cls := findClass_of_methodNamed B.named
  have hlocks := B.notSynchronized
  subst hsz
  have hD := hD0.self (sz := s.heap.size)
  refine gx_Q (fun Q9 hQ9 => ?_)
  generalize hAe : va_A [(ot, .inr (4, [.ref ota, .int tw, .int th])), (ota, .inl (cI, 64, .inl tf))] s.heap.size = A at hD hQ9 ⊢
  have hA : ∀ q : Nat, s.heap.size ≤ q → A q := fun q h => by rw [← hAe]; exact Or.inr h
  have hS : va_S A s.heap s.heap [] := va_S.rf
  have hl := lv_entry ([.ref ot, .int a1, .int a2]) (n := 3) (Nat.le_of_ble_eq_true rfl)
  have he9 : entryFrame m args 3 = F0 m 0 ((lg_sl [.ref ot, .int a1, .int a2] ++ List.replicate (3 - (lg_sl ([.ref ot, .int a1, .int a2] : List Value)).length) Slot.unset).toArray) [] := by rw [ha9]; exact lg_entry_eq m [.ref ot, .int a1, .int a2] 3
  rw [he9]
  generalize (lg_sl ([.ref ot, .int a1, .int a2] : List Value) ++ List.replicate (3 - (lg_sl ([.ref ot, .int a1, .int a2] : List Value)).length) Slot.unset).toArray = ls at hl ⊢
  have hl : lv_has ls 3 [(0, .ref ot), (1, .int a1), (2, .int a2)] := hl
  refine lv_aload_n hx hb dZT_setSize_0 rfl (lv_at hl 0 rfl) ?_
  refine lv_iload_n hx hb dZT_setSize_1 rfl (lv_at hl 1 rfl) ?_
  refine va_put (D := (dC, dI)) (ci := 4) (v := .int a1) (ty := .int) (C := RZT) (T := TZT) (N := 3) hx hb hts inZT tyZT tyZT_ok nmZT hown hK hP hD hS 0 rfl rfl 1 (by decide) (hts _ mm_119) (fun _ h9 => h9) rfl (by decide +kernel) rfl rfl (Nat.le_of_ble_eq_true rfl) dZT_setSize_2 (fun H locs hP hD hS => ?_)
  have hP : va_P (dC, dI) vwCl [(ot, .inr (4, [.ref ota, .int a1, .int th])), (ota, .inl (cI, 64, .inl tf))] H := hP
  have hD : va_D A [(ot, .inr (4, [.ref ota, .int a1, .int th])), (ota, .inl (cI, 64, .inl tf))] := hD
  refine lv_aload_n hx hb dZT_setSize_5 rfl (lv_at hl 0 rfl) ?_
  refine lv_iload_n hx hb dZT_setSize_6 rfl (lv_at hl 2 rfl) ?_
  refine va_put (D := (dC, dI)) (ci := 4) (v := .int a2) (ty := .int) (C := RZT) (T := TZT) (N := 3) hx hb hts inZT tyZT tyZT_ok nmZT hown hK hP hD hS 0 rfl rfl 2 (by decide) (hts _ mm_124) (fun _ h9 => h9) rfl (by decide +kernel) rfl rfl (Nat.le_of_ble_eq_true rfl) dZT_setSize_7 (fun H locs hP hD hS => ?_)
  have hP : va_P (dC, dI) vwCl [(ot, .inr (4, [.ref ota, .int a1, .int a2])), (ota, .inl (cI, 64, .inl tf))] H := hP
  have hD : va_D A [(ot, .inr (4, [.ref ota, .int a1, .int a2])), (ota, .inl (cI, 64, .inl tf))] := hD
  have hP9 := hP.sub (ws' := [(ot, .inr (4, [.ref ota, .int a1, .int a2])), (ota, .inl (cI, 64, .inl tf))]) [0, 1] rfl
  have hD9 := hD.sub (ws' := [(ot, .inr (4, [.ref ota, .int a1, .int a2])), (ota, .inl (cI, 64, .inl tf))]) [0, 1] (by decide) rfl
  subst hQ9
  exact W.vret hx hb hr (fun t ht hW => ⟨⟨(a1, a2), rfl, hw, by rw [ht]; exact hP9, va_K.moved hW.alike hK, hD9⟩, hS.F ht⟩) hS.2.2 dZT_setSize_10
theorem dZT_sampleCount_0 : decode cZT_sampleCount 0 = .ok (.aload_n 0, 1) := by decide +kernel
theorem dZT_sampleCount_1 : decode cZT_sampleCount 1 = .ok (.getfield 15, 3) := by decide +kernel
theorem dZT_sampleCount_4 : decode cZT_sampleCount 4 = .ok (.aload_n 0, 1) := by decide +kernel
theorem dZT_sampleCount_5 : decode cZT_sampleCount 5 = .ok (.getfield 19, 3) := by decide +kernel
theorem dZT_sampleCount_8 : decode cZT_sampleCount 8 = .ok (.imul, 1) := by decide +kernel
theorem dZT_sampleCount_9 : decode cZT_sampleCount 9 = .ok (.ireturn, 1) := by decide +kernel
abbrev wsZT_sampleCount : List Cond := .code yZT_sampleCount cZT_sampleCount 1 (some .int) :: tbg
def wp_ZT_sampleCount (tw : Int32) (th : Int32) (tf : Nat → Int32) (post : Int32 → Prop) : Prop := post (tw * th)
abbrev rm_ZT_sampleCount : Room := { frames := 0, cells := 0, slots := 0, locals := 0 }
set_option maxHeartbeats 4000000 in
set_option maxRecDepth 100000 in
theorem kt_ZT_sampleCount (l : Launch) (dC : Nat → ClassId) (dI : Nat → Nat → Nat) (cI : ClassId) (ot ota : Nat) (tw : Int32) (th : Int32) (tf : Nat → Int32) (post : Int32 → Prop) (hw : wp_ZT_sampleCount tw th tf post) : Met l yZT_sampleCount wsZT_sampleCount rm_ZT_sampleCount (gr_Pc dC dI [(cI, .int)] [.ref ot] [(ot, .inr (4, [.ref ota, .int tw, .int th])), (ota, .inl (cI, 64, .inl tf))]) (vp_Si post) 0 0 (fun _ => False) := by
  refine Met.ofW (cc := cZT_sampleCount) (maxL := 1) (ret := (some .int)) (by decide) rfl ?_
  intro p e s m args below meth c s₁ B hml hv
  obtain ⟨ha9, hP, hK, hE⟩ := hv
  have hx := B.exec
  have hb := B.bytes
  have hr := B.returns
  have hts0 := atoms_spec (ws := wsZT_sampleCount) B.pre
  have hts : ∀ w ∈ tbg, w.before args s = true := fun w h => hts0 w (List.mem_cons_of_mem _ h)
  have hown : s.vm.findClass RZT = some m.cls := findClass_of_methodNamed B.named
  have hlocks := B.notSynchronized
  refine gx_Q (fun Q9 hQ9 => ?_)
  have hl := lv_entry ([.ref ot]) (n := 1) (Nat.le_of_ble_eq_true rfl)
  have he9 : entryFrame m args 1 = F0 m 0 ((lg_sl [.ref ot] ++ List.replicate (1 - (lg_sl ([.ref ot] : List Value)).length) Slot.unset).toArray) [] := by rw [ha9]; exact lg_entry_eq m [.ref ot] 1
  rw [he9]
  generalize (lg_sl ([.ref ot] : List Value) ++ List.replicate (1 - (lg_sl ([.ref ot] : List Value)).length) Slot.unset).toArray = ls at hl ⊢
  have hl : lv_has ls 1 [(0, .ref ot)] := hl
  refine lv_aload_n hx hb dZT_sampleCount_0 rfl (lv_at hl 0 rfl) ?_
  refine va_get (D := (dC, dI)) (ci := 4) (v := .int tw) (C := RZT) (T := TZT) (N := 3) hx hb hts inZT hown hK hP 0 rfl rfl 1 (by decide) (hts _ mm_119) (fun _ h9 => h9) rfl dZT_sampleCount_1 ?_
  refine lv_aload_n hx hb dZT_sampleCount_4 rfl (lv_at hl 0 rfl) ?_
  refine va_get (D := (dC, dI)) (ci := 4) (v := .int th) (C := RZT) (T := TZT) (N := 3) hx hb hts inZT hown hK hP 0 rfl rfl 2 (by decide) (hts _ mm_124) (fun _ h9 => h9) rfl dZT_sampleCount_5 ?_
  refine lv_imul hx hb dZT_sampleCount_8 ?_
  subst hQ9
  exact W.iret (v := tw * th) hx hb hr (fun t ht hW => ⟨tw * th, rfl, hw, ht⟩) (fun q h => nomatch h) dZT_sampleCount_9
theorem dZT_sampleAt_0 : decode cZT_sampleAt 0 = .ok (.aload_n 0, 1) := by decide +kernel
theorem dZT_sampleAt_1 : decode cZT_sampleAt 1 = .ok (.getfield 9, 3) := by decide +kernel
theorem dZT_sampleAt_4 : decode cZT_sampleAt 4 = .ok (.iload_n 2, 1) := by decide +kernel
theorem dZT_sampleAt_5 : decode cZT_sampleAt 5 = .ok (.aload_n 0, 1) := by decide +kernel
theorem dZT_sampleAt_6 : decode cZT_sampleAt 6 = .ok (.getfield 15, 3) := by decide +kernel
theorem dZT_sampleAt_9 : decode cZT_sampleAt 9 = .ok (.imul, 1) := by decide +kernel
theorem dZT_sampleAt_10 : decode cZT_sampleAt 10 = .ok (.iload_n 1, 1) := by decide +kernel
theorem dZT_sampleAt_11 : decode cZT_sampleAt 11 = .ok (.iadd, 1) := by decide +kernel
theorem dZT_sampleAt_12 : decode cZT_sampleAt 12 = .ok (.iaload, 1) := by decide +kernel
theorem dZT_sampleAt_13 : decode cZT_sampleAt 13 = .ok (.ireturn, 1) := by decide +kernel
abbrev wsZT_sampleAt : List Cond := .code yZT_sampleAt cZT_sampleAt 3 (some .int) :: tbg
def wp_ZT_sampleAt (tw : Int32) (th : Int32) (tf : Nat → Int32) (a1 : Int32) (a2 : Int32) (post : Int32 → Prop) : Prop := vp_in ((a2 * tw) + a1) 64 ∧ (post (tf ((a2 * tw) + a1).toNatClampNeg))
abbrev rm_ZT_sampleAt : Room := { frames := 0, cells := 0, slots := 0, locals := 0 }
set_option maxHeartbeats 4000000 in
set_option maxRecDepth 100000 in
theorem kt_ZT_sampleAt (l : Launch) (dC : Nat → ClassId) (dI : Nat → Nat → Nat) (cI : ClassId) (ot ota : Nat) (tw : Int32) (th : Int32) (tf : Nat → Int32) (a1 : Int32) (a2 : Int32) (post : Int32 → Prop) (hw : wp_ZT_sampleAt tw th tf a1 a2 post) : Met l yZT_sampleAt wsZT_sampleAt rm_ZT_sampleAt (gr_Pc dC dI [(cI, .int)] [.ref ot, .int a1, .int a2] [(ot, .inr (4, [.ref ota, .int tw, .int th])), (ota, .inl (cI, 64, .inl tf))]) (vp_Si post) 0 0 (fun _ => False) := by
  refine Met.ofW (cc := cZT_sampleAt) (maxL := 3) (ret := (some .int)) (by decide) rfl ?_
  intro p e s m args below meth c s₁ B hml hv
  obtain ⟨ha9, hP, hK, hE⟩ := hv
  have hx := B.exec
  have hb := B.bytes
  have hr := B.returns
  have hts0 := atoms_spec (ws := wsZT_sampleAt) B.pre
  have hts : ∀ w ∈ tbg, w.before args s = true := fun w h => hts0 w (List.mem_cons_of_mem _ h)
  have hown : s.vm.findClass RZT = some m.cls := findClass_of_methodNamed B.named
  have hlocks := B.notSynchronized
  refine gx_Q (fun Q9 hQ9 => ?_)
  have hl := lv_entry ([.ref ot, .int a1, .int a2]) (n := 3) (Nat.le_of_ble_eq_true rfl)
  have he9 : entryFrame m args 3 = F0 m 0 ((lg_sl [.ref ot, .int a1, .int a2] ++ List.replicate (3 - (lg_sl ([.ref ot, .int a1, .int a2] : List Value)).length) Slot.unset).toArray) [] := by rw [ha9]; exact lg_entry_eq m [.ref ot, .int a1, .int a2] 3
  rw [he9]
  generalize (lg_sl ([.ref ot, .int a1, .int a2] : List Value) ++ List.replicate (3 - (lg_sl ([.ref ot, .int a1, .int a2] : List Value)).length) Slot.unset).toArray = ls at hl ⊢
  have hl : lv_has ls 3 [(0, .ref ot), (1, .int a1), (2, .int a2)] := hl
  refine lv_aload_n hx hb dZT_sampleAt_0 rfl (lv_at hl 0 rfl) ?_
  refine va_get (D := (dC, dI)) (ci := 4) (v := .ref ota) (C := RZT) (T := TZT) (N := 3) hx hb hts inZT hown hK hP 0 rfl rfl 0 (by decide) (hts _ mm_117) (fun _ h9 => h9) rfl dZT_sampleAt_1 ?_
  refine lv_iload_n hx hb dZT_sampleAt_4 rfl (lv_at hl 2 rfl) ?_
  refine lv_aload_n hx hb dZT_sampleAt_5 rfl (lv_at hl 0 rfl) ?_
  refine va_get (D := (dC, dI)) (ci := 4) (v := .int tw) (C := RZT) (T := TZT) (N := 3) hx hb hts inZT hown hK hP 0 rfl rfl 1 (by decide) (hts _ mm_119) (fun _ h9 => h9) rfl dZT_sampleAt_6 ?_
  refine lv_imul hx hb dZT_sampleAt_9 ?_
  refine lv_iload_n hx hb dZT_sampleAt_10 rfl (lv_at hl 1 rfl) ?_
  refine lv_iadd hx hb dZT_sampleAt_11 ?_
  obtain ⟨h_1, hw⟩ := hw
  refine va_iald hx hb hK hP 1 0 rfl rfl h_1 dZT_sampleAt_12 ?_
  subst hQ9
  exact W.iret (v := tf ((a2 * tw) + a1).toNatClampNeg) hx hb hr (fun t ht hW => ⟨tf ((a2 * tw) + a1).toNatClampNeg, rfl, hw, ht⟩) (fun q h => nomatch h) dZT_sampleAt_13
theorem dZT_formerSample_0 : decode cZT_formerSample 0 = .ok (.iload_n 1, 1) := by decide +kernel
theorem dZT_formerSample_1 : decode cZT_formerSample 1 = .ok (.ifCond .le 12, 3) := by decide +kernel
theorem dZT_formerSample_4 : decode cZT_formerSample 4 = .ok (.aload_n 0, 1) := by decide +kernel
theorem dZT_formerSample_5 : decode cZT_formerSample 5 = .ok (.iload_n 1, 1) := by decide +kernel
theorem dZT_formerSample_6 : decode cZT_formerSample 6 = .ok (.iconst 1, 1) := by decide +kernel
theorem dZT_formerSample_7 : decode cZT_formerSample 7 = .ok (.isub, 1) := by decide +kernel
theorem dZT_formerSample_8 : decode cZT_formerSample 8 = .ok (.iload_n 2, 1) := by decide +kernel
theorem dZT_formerSample_9 : decode cZT_formerSample 9 = .ok (.invokevirtual 22, 3) := by decide +kernel
theorem dZT_formerSample_12 : decode cZT_formerSample 12 = .ok (.ireturn, 1) := by decide +kernel
theorem dZT_formerSample_13 : decode cZT_formerSample 13 = .ok (.iload_n 2, 1) := by decide +kernel
theorem dZT_formerSample_14 : decode cZT_formerSample 14 = .ok (.ifCond .le 14, 3) := by decide +kernel
theorem dZT_formerSample_17 : decode cZT_formerSample 17 = .ok (.aload_n 0, 1) := by decide +kernel
theorem dZT_formerSample_18 : decode cZT_formerSample 18 = .ok (.iconst 0, 1) := by decide +kernel
theorem dZT_formerSample_19 : decode cZT_formerSample 19 = .ok (.iload_n 2, 1) := by decide +kernel
theorem dZT_formerSample_20 : decode cZT_formerSample 20 = .ok (.iconst 1, 1) := by decide +kernel
theorem dZT_formerSample_21 : decode cZT_formerSample 21 = .ok (.isub, 1) := by decide +kernel
theorem dZT_formerSample_22 : decode cZT_formerSample 22 = .ok (.invokevirtual 22, 3) := by decide +kernel
theorem dZT_formerSample_25 : decode cZT_formerSample 25 = .ok (.goto 4, 3) := by decide +kernel
theorem dZT_formerSample_28 : decode cZT_formerSample 28 = .ok (.iconst 0, 1) := by decide +kernel
theorem dZT_formerSample_29 : decode cZT_formerSample 29 = .ok (.ireturn, 1) := by decide +kernel
abbrev wsZT_formerSample : List Cond := .code yZT_formerSample cZT_formerSample 3 (some .int) :: tbg
def wp_ZT_formerSample (tw : Int32) (th : Int32) (tf : Nat → Int32) (a1 : Int32) (a2 : Int32) (post : Int32 → Prop) : Prop := ((a1 ≤ (0 : Int32) → ((a2 ≤ (0 : Int32) → (post (0 : Int32))) ∧ (¬ a2 ≤ (0 : Int32) → (wp_ZT_sampleAt tw th tf (0 : Int32) (a2 - (1 : Int32)) (fun r_3 : Int32 => post r_3))))) ∧ (¬ a1 ≤ (0 : Int32) → (wp_ZT_sampleAt tw th tf (a1 - (1 : Int32)) a2 (fun r_4 : Int32 => post r_4))))
abbrev rm_ZT_formerSample : Room := { frames := 1, cells := 0, slots := 0, locals := 22 }
set_option maxHeartbeats 4000000 in
set_option maxRecDepth 100000 in
theorem kt_ZT_formerSample (l : Launch) (dC : Nat → ClassId) (dI : Nat → Nat → Nat) (cI : ClassId) (ot ota : Nat) (tw : Int32) (th : Int32) (tf : Nat → Int32) (a1 : Int32) (a2 : Int32) (post : Int32 → Prop) (hw : wp_ZT_formerSample tw th tf a1 a2 post) : Met l yZT_formerSample wsZT_formerSample rm_ZT_formerSample (gr_Pc dC dI [(cI, .int)] [.ref ot, .int a1, .int a2] [(ot, .inr (4, [.ref ota, .int tw, .int th])), (ota, .inl (cI, 64, .inl tf))]) (vp_Si post) 0 0 (fun _ => False) := by
  refine Met.ofW (cc := cZT_formerSample) (maxL := 3) (ret := (some .int)) (by decide) rfl ?_
  intro p e s m args below meth c s₁ B hml hv
  obtain ⟨ha9, hP, hK, hE⟩ := hv
  have hx := B.exec
  have hb := B.bytes
  have hr := B.returns
  have hts0 := atoms_spec (ws := wsZT_formerSample) B.pre
  have hts : ∀ w ∈ tbg, w.before args s = true := fun w h => hts0 w (List.mem_cons_of_mem _ h)
  have hown : s.vm.findClass RZT = some m.cls := findClass_of_methodNamed B.named
  have hlocks := B.notSynchronized
  refine gx_Q (fun Q9 hQ9 => ?_)
  have hl := lv_entry ([.ref ot, .int a1, .int a2]) (n := 3) (Nat.le_of_ble_eq_true rfl)
  have he9 : entryFrame m args 3 = F0 m 0 ((lg_sl [.ref ot, .int a1, .int a2] ++ List.replicate (3 - (lg_sl ([.ref ot, .int a1, .int a2] : List Value)).length) Slot.unset).toArray) [] := by rw [ha9]; exact lg_entry_eq m [.ref ot, .int a1, .int a2] 3
  rw [he9]
  generalize (lg_sl ([.ref ot, .int a1, .int a2] : List Value) ++ List.replicate (3 - (lg_sl ([.ref ot, .int a1, .int a2] : List Value)).length) Slot.unset).toArray = ls at hl ⊢
  have hl : lv_has ls 3 [(0, .ref ot), (1, .int a1), (2, .int a2)] := hl
  refine lv_iload_n hx hb dZT_formerSample_0 rfl (lv_at hl 1 rfl) ?_
  refine lv_if_le (tgt := 13) hx hb dZT_formerSample_1 (by decide) (fun c_1 => ?_) (fun c_1 => ?_)
  · have hw := hw.1 c_1
    refine lv_iload_n hx hb dZT_formerSample_13 rfl (lv_at hl 2 rfl) ?_
    refine lv_if_le (tgt := 28) hx hb dZT_formerSample_14 (by decide) (fun c_2 => ?_) (fun c_2 => ?_)
    · have hw := hw.1 c_2
      refine lv_iconst (v := (0 : Int32)) hx hb dZT_formerSample_28 (by decide) ?_
      subst hQ9
      exact W.iret (v := (0 : Int32)) hx hb hr (fun t ht hW => ⟨(0 : Int32), rfl, hw, ht⟩) (fun q h => nomatch h) dZT_formerSample_29
    · have hw := hw.2 c_2
      refine lv_aload_n hx hb dZT_formerSample_17 rfl (lv_at hl 0 rfl) ?_
      refine lv_iconst (v := (0 : Int32)) hx hb dZT_formerSample_18 (by decide) ?_
      refine lv_iload_n hx hb dZT_formerSample_19 rfl (lv_at hl 2 rfl) ?_
      refine lv_iconst (v := (1 : Int32)) hx hb dZT_formerSample_20 (by decide) ?_
      refine lv_isub hx hb dZT_formerSample_21 ?_
      refine vp_callSi (va_runV (As := [.int (0 : Int32), .int (a2 - (1 : Int32))]) (rest := []) ⟨hx, hb, hml, hown, hts⟩ (kt_ZT_sampleAt l dC dI cI ot ota tw th tf (0 : Int32) (a2 - (1 : Int32)) _ hw) (cwV 2 hts (tb_V mm_199 mm_200 mm_201 mm_7 mm_202) rfl rfl rfl (by decide +kernel) ⟨Nat.le_of_ble_eq_true rfl, Nat.le_of_ble_eq_true rfl⟩) ⟨gr_blind, va_recv hK hP (ci := 4) (q0 := 0) rfl rfl, fun U hU hW => gr_pre hP hK hE hU hW⟩ rfl rfl hl.1 rfl (lv_room (Nat.le_of_ble_eq_true rfl)) dZT_formerSample_22 ⟨Nat.le_of_ble_eq_true rfl, Nat.le_of_ble_eq_true rfl⟩).run (fun r_3 hw => ?_)
      refine lv_goto (tgt := 29) hx hb dZT_formerSample_25 (by decide) ?_
      subst hQ9
      exact W.iret (v := r_3) hx hb hr (fun t ht hW => ⟨r_3, rfl, hw, ht⟩) (fun q h => nomatch h) dZT_formerSample_29
  · have hw := hw.2 c_1
    refine lv_aload_n hx hb dZT_formerSample_4 rfl (lv_at hl 0 rfl) ?_
    refine lv_iload_n hx hb dZT_formerSample_5 rfl (lv_at hl 1 rfl) ?_
    refine lv_iconst (v := (1 : Int32)) hx hb dZT_formerSample_6 (by decide) ?_
    refine lv_isub hx hb dZT_formerSample_7 ?_
    refine lv_iload_n hx hb dZT_formerSample_8 rfl (lv_at hl 2 rfl) ?_
    refine vp_callSi (va_runV (As := [.int (a1 - (1 : Int32)), .int a2]) (rest := []) ⟨hx, hb, hml, hown, hts⟩ (kt_ZT_sampleAt l dC dI cI ot ota tw th tf (a1 - (1 : Int32)) a2 _ hw) (cwV 2 hts (tb_V mm_199 mm_200 mm_201 mm_7 mm_202) rfl rfl rfl (by decide +kernel) ⟨Nat.le_of_ble_eq_true rfl, Nat.le_of_ble_eq_true rfl⟩) ⟨gr_blind, va_recv hK hP (ci := 4) (q0 := 0) rfl rfl, fun U hU hW => gr_pre hP hK hE hU hW⟩ rfl rfl hl.1 rfl (lv_room (Nat.le_of_ble_eq_true rfl)) dZT_formerSample_9 ⟨Nat.le_of_ble_eq_true rfl, Nat.le_of_ble_eq_true rfl⟩).run (fun r_4 hw => ?_)
    subst hQ9
    exact W.iret (v := r_4) hx hb hr (fun t ht hW => ⟨r_4, rfl, hw, ht⟩) (fun q h => nomatch h) dZT_formerSample_12
theorem dZT_setSample_0 : decode cZT_setSample 0 = .ok (.aload_n 0, 1) := by decide +kernel
theorem dZT_setSample_1 : decode cZT_setSample 1 = .ok (.getfield 9, 3) := by decide +kernel
theorem dZT_setSample_4 : decode cZT_setSample 4 = .ok (.iload_n 2, 1) := by decide +kernel
theorem dZT_setSample_5 : decode cZT_setSample 5 = .ok (.aload_n 0, 1) := by decide +kernel
theorem dZT_setSample_6 : decode cZT_setSample 6 = .ok (.getfield 15, 3) := by decide +kernel
theorem dZT_setSample_9 : decode cZT_setSample 9 = .ok (.imul, 1) := by decide +kernel
theorem dZT_setSample_10 : decode cZT_setSample 10 = .ok (.iload_n 1, 1) := by decide +kernel
theorem dZT_setSample_11 : decode cZT_setSample 11 = .ok (.iadd, 1) := by decide +kernel
theorem dZT_setSample_12 : decode cZT_setSample 12 = .ok (.iload_n 3, 1) := by decide +kernel
theorem dZT_setSample_13 : decode cZT_setSample 13 = .ok (.iastore, 1) := by decide +kernel
theorem dZT_setSample_14 : decode cZT_setSample 14 = .ok (.return_, 1) := by decide +kernel
abbrev wsZT_setSample : List Cond := .code yZT_setSample cZT_setSample 4 none :: tbg
def wp_ZT_setSample (tw : Int32) (th : Int32) (tf : Nat → Int32) (a1 : Int32) (a2 : Int32) (a3 : Int32) (post : (Nat → Int32) → Prop) : Prop := vp_in ((a2 * tw) + a1) 64 ∧ (post (upd tf ((a2 * tw) + a1).toNatClampNeg a3))
abbrev rm_ZT_setSample : Room := { frames := 0, cells := 0, slots := 0, locals := 0 }
set_option maxHeartbeats 4000000 in
set_option maxRecDepth 100000 in
theorem kt_ZT_setSample (l : Launch) (dC : Nat → ClassId) (dI : Nat → Nat → Nat) (cI : ClassId) (ot ota : Nat) (sz : Nat) (tw : Int32) (th : Int32) (tf : Nat → Int32) (a1 : Int32) (a2 : Int32) (a3 : Int32) (post : (Nat → Int32) → Prop) (hw : wp_ZT_setSample tw th tf a1 a2 a3 post) : Met l yZT_setSample wsZT_setSample rm_ZT_setSample (gw_Pc dC dI [(cI, .int)] [.ref ot, .int a1, .int a2, .int a3] [(ot, .inr (4, [.ref ota, .int tw, .int th])), (ota, .inl (cI, 64, .inl tf))] sz) (va_Qv (fun (u : (Nat → Int32)) => post u) (fun u t => gw_B dC dI [(cI, .int)] (va_A [(ot, .inr (4, [.ref ota, .int tw, .int th])), (ota, .inl (cI, 64, .inl tf))] sz) [(ot, .inr (4, [.ref ota, .int tw, .int th])), (ota, .inl (cI, 64, .inl u))] t) (va_A [(ot, .inr (4, [.ref ota, .int tw, .int th])), (ota, .inl (cI, 64, .inl tf))] sz)) 0 0 (va_A [(ot, .inr (4, [.ref ota, .int tw, .int th])), (ota, .inl (cI, 64, .inl tf))] sz) := by
  refine Met.ofW (cc := cZT_setSample) (maxL := 4) (ret := none) (by decide) rfl ?_
  intro p e s m args below meth c s₁ B hml hv
  obtain ⟨ha9, hsz, hP, hK, hE, hD0⟩ := hv
  have hx := B.exec
  have hb := B.bytes
  have hr := B.returns
  have hts0 := atoms_spec (ws := wsZT_setSample) B.pre
  have hts : ∀ w ∈ tbg, w.before args s = true := fun w h => hts0 w (List.mem_cons_of_mem _ h)
  have hown : s.vm.findClass RZT = some m.cls := findClass_of_methodNamed B.named
  have hlocks := B.notSynchronized
  subst hsz
  have hD := hD0.self (sz := s.heap.size)
  refine gx_Q (fun Q9 hQ9 => ?_)
  generalize hAe : va_A [(ot, .inr (4, [.ref ota, .int tw, .int th])), (ota, .inl (cI, 64, .inl tf))] s.heap.size = A at hD hQ9 ⊢
  have hA : ∀ q : Nat, s.heap.size ≤ q → A q := fun q h => by rw [← hAe]; exact Or.inr h
  have hS : va_S A s.heap s.heap [] := va_S.rf
  have hl := lv_entry ([.ref ot, .int a1, .int a2, .int a3]) (n := 4) (Nat.le_of_ble_eq_true rfl)
  have he9 : entryFrame m args 4 = F0 m 0 ((lg_sl [.ref ot, .int a1, .int a2, .int a3] ++ List.replicate (4 - (lg_sl ([.ref ot, .int a1, .int a2, .int a3] : List Value)).length) Slot.unset).toArray) [] := by rw [ha9]; exact lg_entry_eq m [.ref ot, .int a1, .int a2, .int a3] 4
  rw [he9]
  generalize (lg_sl ([.ref ot, .int a1, .int a2, .int a3] : List Value) ++ List.replicate (4 - (lg_sl ([.ref ot, .int a1, .int a2, .int a3] : List Value)).length) Slot.unset).toArray = ls at hl ⊢
  have hl : lv_has ls 4 [(0, .ref ot), (1, .int a1), (2, .int a2), (3, .int a3)] := hl
  refine lv_aload_n hx hb dZT_setSample_0 rfl (lv_at hl 0 rfl) ?_
  refine va_get (D := (dC, dI)) (ci := 4) (v := .ref ota) (C := RZT) (T := TZT) (N := 3) hx hb hts inZT hown hK hP 0 rfl rfl 0 (by decide) (hts _ mm_117) (fun _ h9 => h9) rfl dZT_setSample_1 ?_
  refine lv_iload_n hx hb dZT_setSample_4 rfl (lv_at hl 2 rfl) ?_
  refine lv_aload_n hx hb dZT_setSample_5 rfl (lv_at hl 0 rfl) ?_
  refine va_get (D := (dC, dI)) (ci := 4) (v := .int tw) (C := RZT) (T := TZT) (N := 3) hx hb hts inZT hown hK hP 0 rfl rfl 1 (by decide) (hts _ mm_119) (fun _ h9 => h9) rfl dZT_setSample_6 ?_
  refine lv_imul hx hb dZT_setSample_9 ?_
  refine lv_iload_n hx hb dZT_setSample_10 rfl (lv_at hl 1 rfl) ?_
  refine lv_iadd hx hb dZT_setSample_11 ?_
  refine lv_iload_n hx hb dZT_setSample_12 rfl (lv_at hl 3 rfl) ?_
  obtain ⟨h_1, hw⟩ := hw
  refine va_iast hx hb hK hP hD hS 1 0 rfl rfl h_1 dZT_setSample_13 (fun H locs hP hD hS => ?_)
  have hP : va_P (dC, dI) vwCl [(ot, .inr (4, [.ref ota, .int tw, .int th])), (ota, .inl (cI, 64, .inl (upd tf ((a2 * tw) + a1).toNatClampNeg a3)))] H := hP
  have hD : va_D A [(ot, .inr (4, [.ref ota, .int tw, .int th])), (ota, .inl (cI, 64, .inl (upd tf ((a2 * tw) + a1).toNatClampNeg a3)))] := hD
  have hP9 := hP.sub (ws' := [(ot, .inr (4, [.ref ota, .int tw, .int th])), (ota, .inl (cI, 64, .inl (upd tf ((a2 * tw) + a1).toNatClampNeg a3)))]) [0, 1] rfl
  have hD9 := hD.sub (ws' := [(ot, .inr (4, [.ref ota, .int tw, .int th])), (ota, .inl (cI, 64, .inl (upd tf ((a2 * tw) + a1).toNatClampNeg a3)))]) [0, 1] (by decide) rfl
  subst hQ9
  exact W.vret hx hb hr (fun t ht hW => ⟨⟨upd tf ((a2 * tw) + a1).toNatClampNeg a3, rfl, hw, by rw [ht]; exact hP9, va_K.moved hW.alike hK, hD9⟩, hS.F ht⟩) hS.2.2 dZT_setSample_14
theorem dZT_init_0 : decode cZT_init 0 = .ok (.aload_n 0, 1) := by decide +kernel
theorem dZT_init_1 : decode cZT_init 1 = .ok (.invokespecial 3, 3) := by decide +kernel
theorem dZT_init_4 : decode cZT_init 4 = .ok (.aload_n 0, 1) := by decide +kernel
theorem dZT_init_5 : decode cZT_init 5 = .ok (.bipush 64, 2) := by decide +kernel
theorem dZT_init_7 : decode cZT_init 7 = .ok (.newarray .int, 2) := by decide +kernel
theorem dZT_init_9 : decode cZT_init 9 = .ok (.putfield 9, 3) := by decide +kernel
theorem dZT_init_12 : decode cZT_init 12 = .ok (.return_, 1) := by decide +kernel
abbrev wsZT_init : List Cond := .code yZT_init cZT_init 1 none :: tbg
def wp_ZT_init (tw : Int32) (th : Int32) (post : (Nat → Int32) → Prop) : Prop := post (fun _ => 0)
abbrev rm_ZT_init : Room := { frames := 1, cells := 1, slots := 64, locals := 20 }
set_option maxHeartbeats 4000000 in
set_option maxRecDepth 100000 in
theorem kt_ZT_init (l : Launch) (dC : Nat → ClassId) (dI : Nat → Nat → Nat) (cI : ClassId) (ot : Nat) (sz : Nat) (tw : Int32) (th : Int32) (post : (Nat → Int32) → Prop) (hw : wp_ZT_init tw th post) : Met l yZT_init wsZT_init rm_ZT_init (gw_Pc dC dI [(cI, .int)] [.ref ot] [(ot, .inr (4, [.null, .int tw, .int th]))] sz) (va_Qv (fun (u : (Nat → Int32)) => post u) (fun u t => ∃ ota : Nat, gw_B dC dI [(cI, .int)] (va_A [(ot, .inr (4, [.null, .int tw, .int th]))] sz) [(ot, .inr (4, [.ref ota, .int tw, .int th])), (ota, .inl (cI, 64, .inl u))] t) (va_A [(ot, .inr (4, [.null, .int tw, .int th]))] sz)) 1 64 (va_A [(ot, .inr (4, [.null, .int tw, .int th]))] sz) := by
  refine Met.ofW (cc := cZT_init) (maxL := 1) (ret := none) (by decide) rfl ?_
  intro p e s m args below meth c s₁ B hml hv
  obtain ⟨ha9, hsz, hP, hK, hE, hD0⟩ := hv
  have hx := B.exec
  have hb := B.bytes
  have hr := B.returns
  have hts0 := atoms_spec (ws := wsZT_init) B.pre
  have hts : ∀ w ∈ tbg, w.before args s = true := fun w h => hts0 w (List.mem_cons_of_mem _ h)
  have hown : s.vm.findClass RZT = some m.cls := findClass_of_methodNamed B.named
  have hlocks := B.notSynchronized
  have hin : meth.name = "<init>" := (name_of_methodNamed B.named B.method).1
  subst hsz
  have hD := hD0.self (sz := s.heap.size)
  refine gx_Q (fun Q9 hQ9 => ?_)
  generalize hAe : va_A [(ot, .inr (4, [.null, .int tw, .int th]))] s.heap.size = A at hD hQ9 ⊢
  have hA : ∀ q : Nat, s.heap.size ≤ q → A q := fun q h => by rw [← hAe]; exact Or.inr h
  have hS : va_S A s.heap s.heap [] := va_S.rf
  have hl := lv_entry ([.ref ot]) (n := 1) (Nat.le_of_ble_eq_true rfl)
  have he9 : entryFrame m args 1 = F0 m 0 ((lg_sl [.ref ot] ++ List.replicate (1 - (lg_sl ([.ref ot] : List Value)).length) Slot.unset).toArray) [] := by rw [ha9]; exact lg_entry_eq m [.ref ot] 1
  rw [he9]
  generalize (lg_sl ([.ref ot] : List Value) ++ List.replicate (1 - (lg_sl ([.ref ot] : List Value)).length) Slot.unset).toArray = ls at hl ⊢
  have hl : lv_has ls 1 [(0, .ref ot)] := hl
  refine lv_aload_n hx hb dZT_init_0 rfl (lv_at hl 0 rfl) ?_
  refine W.objInit hx hb hown (hts _ mm_116) (hts _ mm_23) (hts _ mm_24) rfl (by rw [hml]; exact hl.1) rfl dZT_init_1 (Nat.le_of_ble_eq_true rfl) (Nat.le_of_ble_eq_true rfl) ?_
  refine W.eq (g2 := F0 m 4 ls []) rfl ?_
  refine lv_aload_n hx hb dZT_init_4 rfl (lv_at hl 0 rfl) ?_
  refine lv_bipush (v := (64 : Int32)) hx hb dZT_init_5 (by decide) ?_
  refine va_newa (atype := .int) (N' := 64) (a0 := (64, .inl (fun _ => 0))) (ty := .int) hx hb (hts _ mm_53) rfl hK hP hD hS hA (fun _ => rfl) (by decide) (by decide) (Nat.le_of_ble_eq_true rfl) (Nat.le_of_ble_eq_true rfl) (Nat.le_of_ble_eq_true rfl) dZT_init_7 (fun q_1 cAq_1 H hK2 hP hD hS => ?_)
  have hc_q_1 : cAq_1 = cI := Option.some.inj ((va_nm_int (hK2.2 1 _ rfl).2).symm.trans (va_nm_int (hK.2 0 _ rfl).2))
  rw [hc_q_1] at hP hD
  refine W.widen (k := 1) (n := 64) (by omega) (by omega) ?_
  have hP : va_P (dC, dI) vwCl [(ot, .inr (4, [.null, .int tw, .int th])), (q_1, .inl (cI, 64, .inl (fun _ => 0)))] H := hP
  have hD : va_D A [(ot, .inr (4, [.null, .int tw, .int th])), (q_1, .inl (cI, 64, .inl (fun _ => 0)))] := hD
  refine va_putF (D := (dC, dI)) (ci := 4) (v := .ref q_1) (ty := (.array .int)) (C := RZT) (T := TZT) (N := 3) hx hb hts inZT tyZT tyZT_ok nmZT hown hK hP hD hS 0 rfl rfl 0 (by decide) (hts _ mm_117) (fun _ h9 => h9) rfl hin rfl (by decide +kernel) rfl rfl (Nat.le_of_ble_eq_true rfl) dZT_init_9 (fun H locs hP hD hS => ?_)
  have hP : va_P (dC, dI) vwCl [(ot, .inr (4, [.ref q_1, .int tw, .int th])), (q_1, .inl (cI, 64, .inl (fun _ => 0)))] H := hP
  have hD : va_D A [(ot, .inr (4, [.ref q_1, .int tw, .int th])), (q_1, .inl (cI, 64, .inl (fun _ => 0)))] := hD
  have hP9 := hP.sub (ws' := [(ot, .inr (4, [.ref q_1, .int tw, .int th])), (q_1, .inl (cI, 64, .inl (fun _ => 0)))]) [0, 1] rfl
  have hD9 := hD.sub (ws' := [(ot, .inr (4, [.ref q_1, .int tw, .int th])), (q_1, .inl (cI, 64, .inl (fun _ => 0)))]) [0, 1] (by decide) rfl
  subst hQ9
  exact W.vret hx hb hr (fun t ht hW => ⟨⟨(fun _ => 0), rfl, hw, q_1, by rw [ht]; exact hP9, va_K.moved hW.alike hK, hD9⟩, hS.F ht⟩) hS.2.2 dZT_init_12
