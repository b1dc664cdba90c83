theorem dZJ_floorMod_0 : decode cZJ_floorMod 0 = .ok (.iload_n 0, 1) := by decide +kernel
theorem dZJ_floorMod_1 : decode cZJ_floorMod 1 = .ok (.iload_n 1, 1) := by decide +kernel
theorem dZJ_floorMod_2 : decode cZJ_floorMod 2 = .ok (.irem, 1) := by decide +kernel
theorem dZJ_floorMod_3 : decode cZJ_floorMod 3 = .ok (.istore_n 2, 1) := by decide +kernel
theorem dZJ_floorMod_4 : decode cZJ_floorMod 4 = .ok (.iload_n 0, 1) := by decide +kernel
theorem dZJ_floorMod_5 : decode cZJ_floorMod 5 = .ok (.iload_n 1, 1) := by decide +kernel
theorem dZJ_floorMod_6 : decode cZJ_floorMod 6 = .ok (.ixor, 1) := by decide +kernel
theorem dZJ_floorMod_7 : decode cZJ_floorMod 7 = .ok (.ifCond .ge 11, 3) := by decide +kernel
theorem dZJ_floorMod_10 : decode cZJ_floorMod 10 = .ok (.iload_n 2, 1) := by decide +kernel
theorem dZJ_floorMod_11 : decode cZJ_floorMod 11 = .ok (.ifCond .eq 7, 3) := by decide +kernel
theorem dZJ_floorMod_14 : decode cZJ_floorMod 14 = .ok (.iload_n 2, 1) := by decide +kernel
theorem dZJ_floorMod_15 : decode cZJ_floorMod 15 = .ok (.iload_n 1, 1) := by decide +kernel
theorem dZJ_floorMod_16 : decode cZJ_floorMod 16 = .ok (.iadd, 1) := by decide +kernel
theorem dZJ_floorMod_17 : decode cZJ_floorMod 17 = .ok (.ireturn, 1) := by decide +kernel
theorem dZJ_floorMod_18 : decode cZJ_floorMod 18 = .ok (.iload_n 2, 1) := by decide +kernel
theorem dZJ_floorMod_19 : decode cZJ_floorMod 19 = .ok (.ireturn, 1) := by decide +kernel
abbrev wsZJ_floorMod : List Cond := .code yZJ_floorMod cZJ_floorMod 3 (some .int) :: tbg
def wp_ZJ_floorMod (a1 : Int32) (a2 : Int32) (post : Int32 → Prop) : Prop := ¬ a2 = 0 ∧ ((((0 : Int32) ≤ (a1 ^^^ a2) → (post (a1 - a1 / a2 * a2))) ∧ (¬ (0 : Int32) ≤ (a1 ^^^ a2) → (((a1 - a1 / a2 * a2) = (0 : Int32) → (post (a1 - a1 / a2 * a2))) ∧ (¬ (a1 - a1 / a2 * a2) = (0 : Int32) → (post ((a1 - a1 / a2 * a2) + a2)))))))
abbrev rm_ZJ_floorMod : Room := { frames := 0, cells := 0, slots := 0, locals := 0 }
set_option maxHeartbeats 4000000 in
set_option maxRecDepth 100000 in
theorem kt_ZJ_floorMod (l : Launch) (dC : Nat → ClassId) (dI : Nat → Nat → Nat) (cI : ClassId) (a1 : Int32) (a2 : Int32) (post : Int32 → Prop) (hw : wp_ZJ_floorMod a1 a2 post) : Met l yZJ_floorMod wsZJ_floorMod rm_ZJ_floorMod (gr_Pc dC dI [(cI, .int)] [.int a1, .int a2] []) (vp_Si post) 0 0 (fun _ => False) := by
  refine va_MetF (cc := cZJ_floorMod) (maxL := 3) (ret := (some .int)) (by decide +kernel) rfl ?_
  intro p e s m args below meth c s₁ B hml hv
  obtain ⟨ha9, hP, hK, hE⟩ := hv
  have hx := B.exec
  have hb := B.bytes
  have hr := B.returns
  have hts0 := atoms_spec (ws := wsZJ_floorMod) B.pre
  have hts : ∀ w ∈ tbg, w.before args s = true := fun w h => hts0 w (List.mem_cons_of_mem _ h)
  have hown : s.vm.findClass "java/lang/Math" = some m.cls := findClass_of_methodNamed B.named
  have hlocks := B.notSynchronized
  refine gx_Q (fun Q9 hQ9 => ?_)
  have hl := lv_entry ([.int a1, .int a2]) (n := 3) (Nat.le_of_ble_eq_true rfl)
  have he9 : entryFrame m args 3 = F0 m 0 ((lg_sl [.int a1, .int a2] ++ List.replicate (3 - (lg_sl ([.int a1, .int a2] : List Value)).length) Slot.unset).toArray) [] := by rw [ha9]; exact lg_entry_eq m [.int a1, .int a2] 3
  rw [he9]
  generalize (lg_sl ([.int a1, .int a2] : List Value) ++ List.replicate (3 - (lg_sl ([.int a1, .int a2] : List Value)).length) Slot.unset).toArray = ls at hl ⊢
  have hl : lv_has ls 3 [(0, .int a1), (1, .int a2)] := hl
  refine lv_iload_n hx hb dZJ_floorMod_0 rfl (lv_at hl 0 rfl) ?_
  refine lv_iload_n hx hb dZJ_floorMod_1 rfl (lv_at hl 1 rfl) ?_
  obtain ⟨h_1, hw⟩ := hw
  refine lv_irem hx hb dZJ_floorMod_2 h_1 ?_
  refine lv_istore_n (lv' := [(2, .int (a1 - a1 / a2 * a2)), (0, .int a1), (1, .int a2)]) hx hb dZJ_floorMod_3 rfl hl (by decide) rfl (fun ls hl => ?_)
  refine lv_iload_n hx hb dZJ_floorMod_4 rfl (lv_at hl 1 rfl) ?_
  refine lv_iload_n hx hb dZJ_floorMod_5 rfl (lv_at hl 2 rfl) ?_
  refine lv_ixor hx hb dZJ_floorMod_6 ?_
  refine lv_if_ge (tgt := 18) hx hb dZJ_floorMod_7 (by decide) (fun c_2 => ?_) (fun c_2 => ?_)
  · have hw := hw.1 c_2
    refine lv_iload_n hx hb dZJ_floorMod_18 rfl (lv_at hl 0 rfl) ?_
    subst hQ9
    exact W.iret (v := a1 - a1 / a2 * a2) hx hb hr (fun t ht hW => ⟨a1 - a1 / a2 * a2, rfl, hw, ht⟩) (fun q h => nomatch h) dZJ_floorMod_19
  · have hw := hw.2 c_2
    refine lv_iload_n hx hb dZJ_floorMod_10 rfl (lv_at hl 0 rfl) ?_
    refine lv_if_eq (tgt := 18) hx hb dZJ_floorMod_11 (by decide) (fun c_3 => ?_) (fun c_3 => ?_)
    · have hw := hw.1 c_3
      refine lv_iload_n hx hb dZJ_floorMod_18 rfl (lv_at hl 0 rfl) ?_
      subst hQ9
      exact W.iret (v := a1 - a1 / a2 * a2) hx hb hr (fun t ht hW => ⟨a1 - a1 / a2 * a2, rfl, hw, ht⟩) (fun q h => nomatch h) dZJ_floorMod_19
    · have hw := hw.2 c_3
      refine lv_iload_n hx hb dZJ_floorMod_14 rfl (lv_at hl 0 rfl) ?_
      refine lv_iload_n hx hb dZJ_floorMod_15 rfl (lv_at hl 2 rfl) ?_
      refine lv_iadd hx hb dZJ_floorMod_16 ?_
      subst hQ9
      exact W.iret (v := (a1 - a1 / a2 * a2) + a2) hx hb hr (fun t ht hW => ⟨(a1 - a1 / a2 * a2) + a2, rfl, hw, ht⟩) (fun q h => nomatch h) dZJ_floorMod_17
theorem dZQ_requirePlace_0 : decode cZQ_requirePlace 0 = .ok (.iload_n 0, 1) := by decide +kernel
theorem dZQ_requirePlace_1 : decode cZQ_requirePlace 1 = .ok (.ifCond .ne 13, 3) := by decide +kernel
theorem dZQ_requirePlace_4 : decode cZQ_requirePlace 4 = .ok (.new 225, 3) := by decide +kernel
theorem dZQ_requirePlace_7 : decode cZQ_requirePlace 7 = .ok (.dup, 1) := by decide +kernel
theorem dZQ_requirePlace_8 : decode cZQ_requirePlace 8 = .ok (.ldc 227, 2) := by decide +kernel
theorem dZQ_requirePlace_10 : decode cZQ_requirePlace 10 = .ok (.invokespecial 229, 3) := by decide +kernel
theorem dZQ_requirePlace_13 : decode cZQ_requirePlace 13 = .ok (.athrow, 1) := by decide +kernel
theorem dZQ_requirePlace_14 : decode cZQ_requirePlace 14 = .ok (.return_, 1) := by decide +kernel
abbrev wsZQ_requirePlace : List Cond := .code yZQ_requirePlace cZQ_requirePlace 1 none :: tbg
def wp_ZQ_requirePlace (a1 : Int32) (post : Prop) : Prop := ((a1 = (0 : Int32) → False) ∧ (¬ a1 = (0 : Int32) → post))
abbrev rm_ZQ_requirePlace : Room := { frames := 0, cells := 0, slots := 0, locals := 0 }
set_option maxHeartbeats 4000000 in
set_option maxRecDepth 100000 in
theorem kt_ZQ_requirePlace (l : Launch) (dC : Nat → ClassId) (dI : Nat → Nat → Nat) (cI : ClassId) (a1 : Int32) (post : Prop) (hw : wp_ZQ_requirePlace a1 post) : Met l yZQ_requirePlace wsZQ_requirePlace rm_ZQ_requirePlace (gr_Pc dC dI [(cI, .int)] [.int a1] []) (va_Sv (fun _ => post)) 0 0 (fun _ => False) := by
  refine Met.ofW (cc := cZQ_requirePlace) (maxL := 1) (ret := none) (by decide) rfl ?_
  intro p e s m args below meth c s₁ B hml hv
  obtain ⟨ha9, hP, hK, hE⟩ := hv
  have hx := B.exec
  have hb := B.bytes
  have hr := B.returns
  have hts0 := atoms_spec (ws := wsZQ_requirePlace) B.pre
  have hts : ∀ w ∈ tbg, w.before args s = true := fun w h => hts0 w (List.mem_cons_of_mem _ h)
  have hown : s.vm.findClass RZQ = some m.cls := findClass_of_methodNamed B.named
  have hlocks := B.notSynchronized
  refine gx_Q (fun Q9 hQ9 => ?_)
  have hl := lv_entry ([.int a1]) (n := 1) (Nat.le_of_ble_eq_true rfl)
  have he9 : entryFrame m args 1 = F0 m 0 ((lg_sl [.int a1] ++ List.replicate (1 - (lg_sl ([.int a1] : List Value)).length) Slot.unset).toArray) [] := by rw [ha9]; exact lg_entry_eq m [.int a1] 1
  rw [he9]
  generalize (lg_sl ([.int a1] : List Value) ++ List.replicate (1 - (lg_sl ([.int a1] : List Value)).length) Slot.unset).toArray = ls at hl ⊢
  have hl : lv_has ls 1 [(0, .int a1)] := hl
  refine lv_iload_n hx hb dZQ_requirePlace_0 rfl (lv_at hl 0 rfl) ?_
  refine lv_if_ne (tgt := 14) hx hb dZQ_requirePlace_1 (by decide) (fun c_1 => ?_) (fun c_1 => ?_)
  · have hw := hw.2 c_1
    subst hQ9
    exact W.vret hx hb hr (fun t ht hW => ⟨rfl, hw, ht⟩) (fun q h => nomatch h) dZQ_requirePlace_14
  · have hw := hw.1 c_1
    exact False.elim hw
def xp_ZQ_requirePlace_I (a1 : Int32) : Prop := ((a1 = (0 : Int32) → True) ∧ (¬ a1 = (0 : Int32) → False))
abbrev rm_ZQ_requirePlace_I : Room := { frames := 6, cells := 1, slots := 6, locals := 91 }
set_option maxHeartbeats 4000000 in
set_option maxRecDepth 100000 in
theorem kx_ZQ_requirePlace_I (l : Launch) (hl9 : l.stackTraces = false) (dC : Nat → ClassId) (dI : Nat → Nat → Nat) (cI : ClassId) (H0 : Heap) (a1 : Int32) (hw : xp_ZQ_requirePlace_I a1) : tx_Met l yZQ_requirePlace wsZQ_requirePlace rm_ZQ_requirePlace_I (tr_Pc H0 dC dI [(cI, .int)] [.int a1] []) "java/lang/IndexOutOfBoundsException" := by
  refine tx_ofW (cc := cZQ_requirePlace) (maxL := 1) (ret := none) (by decide) rfl ?_
  intro p e s m args below meth c s₁ B hml hnX hv
  obtain ⟨ha9, hP, hK, hE, hT⟩ := hv
  have hx := B.exec
  have hb := B.bytes
  have hr := B.returns
  have hts0 := atoms_spec (ws := wsZQ_requirePlace) B.pre
  have hts : ∀ w ∈ tbg, w.before args s = true := fun w h => hts0 w (List.mem_cons_of_mem _ h)
  have hown : s.vm.findClass RZQ = some m.cls := findClass_of_methodNamed B.named
  have hlocks := B.notSynchronized
  refine gx_Q (fun Q9 hQ9 => ?_)
  have hl := lv_entry ([.int a1]) (n := 1) (Nat.le_of_ble_eq_true rfl)
  have he9 : entryFrame m args 1 = F0 m 0 ((lg_sl [.int a1] ++ List.replicate (1 - (lg_sl ([.int a1] : List Value)).length) Slot.unset).toArray) [] := by rw [ha9]; exact lg_entry_eq m [.int a1] 1
  rw [he9]
  generalize (lg_sl ([.int a1] : List Value) ++ List.replicate (1 - (lg_sl ([.int a1] : List Value)).length) Slot.unset).toArray = ls at hl ⊢
  have hl : lv_has ls 1 [(0, .int a1)] := hl
  refine lv_iload_n hx hb dZQ_requirePlace_0 rfl (lv_at hl 0 rfl) ?_
  refine lv_if_ne (tgt := 14) hx hb dZQ_requirePlace_1 (by decide) (fun c_1 => ?_) (fun c_1 => ?_)
  · have hw := hw.2 c_1
    exact False.elim hw
  · have hw := hw.1 c_1
    obtain ⟨sa9, hst9⟩ := gxE_11 hE
    subst hQ9
    exact tx_throw (own := RZQ) (cls := "java/lang/IndexOutOfBoundsException") (names := ["java/lang/RuntimeException", "java/lang/Exception"]) hx hb hl9 hown (by decide +kernel) (by decide +kernel) (hts _ mm_242) (hts _ mm_12) (hts _ mm_243) hst9 (ax_0 hts hE hT) (hl.1.trans hml.symm) dZQ_requirePlace_4 dZQ_requirePlace_7 dZQ_requirePlace_8 dZQ_requirePlace_10 dZQ_requirePlace_13 hnX (Nat.le_of_ble_eq_true rfl) (Nat.le_of_ble_eq_true rfl) (Nat.le_of_ble_eq_true rfl) (Nat.le_of_ble_eq_true rfl) hlocks
theorem dZQ_requireSample_0 : decode cZQ_requireSample 0 = .ok (.iload_n 0, 1) := by decide +kernel
theorem dZQ_requireSample_1 : decode cZQ_requireSample 1 = .ok (.invokestatic 230, 3) := by decide +kernel
theorem dZQ_requireSample_4 : decode cZQ_requireSample 4 = .ok (.ifCond .ne 13, 3) := by decide +kernel
theorem dZQ_requireSample_7 : decode cZQ_requireSample 7 = .ok (.new 164, 3) := by decide +kernel
theorem dZQ_requireSample_10 : decode cZQ_requireSample 10 = .ok (.dup, 1) := by decide +kernel
theorem dZQ_requireSample_11 : decode cZQ_requireSample 11 = .ok (.ldc 233, 2) := by decide +kernel
theorem dZQ_requireSample_13 : decode cZQ_requireSample 13 = .ok (.invokespecial 168, 3) := by decide +kernel
theorem dZQ_requireSample_16 : decode cZQ_requireSample 16 = .ok (.athrow, 1) := by decide +kernel
theorem dZQ_requireSample_17 : decode cZQ_requireSample 17 = .ok (.return_, 1) := by decide +kernel
abbrev wsZQ_requireSample : List Cond := .code yZQ_requireSample cZQ_requireSample 1 none :: tbg
def wp_ZQ_requireSample (a1 : Int32) (post : Prop) : Prop := wp_ZQ_isSample a1 (fun r_1 : Int32 => ((r_1 = (0 : Int32) → False) ∧ (¬ r_1 = (0 : Int32) → post)))
abbrev rm_ZQ_requireSample : Room := { frames := 1, cells := 0, slots := 0, locals := 20 }
set_option maxHeartbeats 4000000 in
set_option maxRecDepth 100000 in
theorem kt_ZQ_requireSample (l : Launch) (dC : Nat → ClassId) (dI : Nat → Nat → Nat) (cI : ClassId) (a1 : Int32) (post : Prop) (hw : wp_ZQ_requireSample a1 post) : Met l yZQ_requireSample wsZQ_requireSample rm_ZQ_requireSample (gr_Pc dC dI [(cI, .int)] [.int a1] []) (va_Sv (fun _ => post)) 0 0 (fun _ => False) := by
  refine Met.ofW (cc := cZQ_requireSample) (maxL := 1) (ret := none) (by decide) rfl ?_
  intro p e s m args below meth c s₁ B hml hv
  obtain ⟨ha9, hP, hK, hE⟩ := hv
  have hx := B.exec
  have hb := B.bytes
  have hr := B.returns
  have hts0 := atoms_spec (ws := wsZQ_requireSample) B.pre
  have hts : ∀ w ∈ tbg, w.before args s = true := fun w h => hts0 w (List.mem_cons_of_mem _ h)
  have hown : s.vm.findClass RZQ = some m.cls := findClass_of_methodNamed B.named
  have hlocks := B.notSynchronized
  refine gx_Q (fun Q9 hQ9 => ?_)
  have hl := lv_entry ([.int a1]) (n := 1) (Nat.le_of_ble_eq_true rfl)
  have he9 : entryFrame m args 1 = F0 m 0 ((lg_sl [.int a1] ++ List.replicate (1 - (lg_sl ([.int a1] : List Value)).length) Slot.unset).toArray) [] := by rw [ha9]; exact lg_entry_eq m [.int a1] 1
  rw [he9]
  generalize (lg_sl ([.int a1] : List Value) ++ List.replicate (1 - (lg_sl ([.int a1] : List Value)).length) Slot.unset).toArray = ls at hl ⊢
  have hl : lv_has ls 1 [(0, .int a1)] := hl
  refine lv_iload_n hx hb dZQ_requireSample_0 rfl (lv_at hl 0 rfl) ?_
  refine vp_callSi (va_runS (As := [.int a1]) (rest := []) ⟨hx, hb, hml, hown, hts⟩ (kt_ZQ_isSample l dC dI cI  a1 _ hw) (va_cwS 1 hts (tb_S mm_313 mm_207 mm_1 mm_208) rfl rfl rfl (by decide +kernel) ⟨Nat.le_of_ble_eq_true rfl, Nat.le_of_ble_eq_true rfl⟩) ⟨gr_blind, fun U hU hW => gr_pre hP hK hE hU hW⟩ rfl rfl hl.1 rfl (lv_room (Nat.le_of_ble_eq_true rfl)) dZQ_requireSample_1 ⟨Nat.le_of_ble_eq_true rfl, Nat.le_of_ble_eq_true rfl⟩).run (fun r_1 hw => ?_)
  refine lv_if_ne (tgt := 17) hx hb dZQ_requireSample_4 (by decide) (fun c_2 => ?_) (fun c_2 => ?_)
  · have hw := hw.2 c_2
    subst hQ9
    exact W.vret hx hb hr (fun t ht hW => ⟨rfl, hw, ht⟩) (fun q h => nomatch h) dZQ_requireSample_17
  · have hw := hw.1 c_2
    exact False.elim hw
def xp_ZQ_requireSample_A (a1 : Int32) : Prop := wp_ZQ_isSample a1 (fun r_1 : Int32 => ((r_1 = (0 : Int32) → True) ∧ (¬ r_1 = (0 : Int32) → False)))
abbrev rm_ZQ_requireSample_A : Room := { frames := 6, cells := 1, slots := 6, locals := 91 }
set_option maxHeartbeats 4000000 in
set_option maxRecDepth 100000 in
theorem kx_ZQ_requireSample_A (l : Launch) (hl9 : l.stackTraces = false) (dC : Nat → ClassId) (dI : Nat → Nat → Nat) (cI : ClassId) (H0 : Heap) (a1 : Int32) (hw : xp_ZQ_requireSample_A a1) : tx_Met l yZQ_requireSample wsZQ_requireSample rm_ZQ_requireSample_A (tr_Pc H0 dC dI [(cI, .int)] [.int a1] []) "java/lang/IllegalArgumentException" := by
  refine tx_ofW (cc := cZQ_requireSample) (maxL := 1) (ret := none) (by decide) rfl ?_
  intro p e s m args below meth c s₁ B hml hnX hv
  obtain ⟨ha9, hP, hK, hE, hT⟩ := hv
  have hx := B.exec
  have hb := B.bytes
  have hr := B.returns
  have hts0 := atoms_spec (ws := wsZQ_requireSample) B.pre
  have hts : ∀ w ∈ tbg, w.before args s = true := fun w h => hts0 w (List.mem_cons_of_mem _ h)
  have hown : s.vm.findClass RZQ = some m.cls := findClass_of_methodNamed B.named
  have hlocks := B.notSynchronized
  refine gx_Q (fun Q9 hQ9 => ?_)
  have hl := lv_entry ([.int a1]) (n := 1) (Nat.le_of_ble_eq_true rfl)
  have he9 : entryFrame m args 1 = F0 m 0 ((lg_sl [.int a1] ++ List.replicate (1 - (lg_sl ([.int a1] : List Value)).length) Slot.unset).toArray) [] := by rw [ha9]; exact lg_entry_eq m [.int a1] 1
  rw [he9]
  generalize (lg_sl ([.int a1] : List Value) ++ List.replicate (1 - (lg_sl ([.int a1] : List Value)).length) Slot.unset).toArray = ls at hl ⊢
  have hl : lv_has ls 1 [(0, .int a1)] := hl
  refine lv_iload_n hx hb dZQ_requireSample_0 rfl (lv_at hl 0 rfl) ?_
  refine vp_callSi (va_runS (As := [.int a1]) (rest := []) ⟨hx, hb, hml, hown, hts⟩ (kt_ZQ_isSample l dC dI cI  a1 _ hw) (va_cwS 1 hts (tb_S mm_313 mm_207 mm_1 mm_208) rfl rfl rfl (by decide +kernel) ⟨Nat.le_of_ble_eq_true rfl, Nat.le_of_ble_eq_true rfl⟩) ⟨gr_blind, fun U hU hW => gr_pre hP hK hE hU hW⟩ rfl rfl hl.1 rfl (lv_room (Nat.le_of_ble_eq_true rfl)) dZQ_requireSample_1 ⟨Nat.le_of_ble_eq_true rfl, Nat.le_of_ble_eq_true rfl⟩).run (fun r_1 hw => ?_)
  refine lv_if_ne (tgt := 17) hx hb dZQ_requireSample_4 (by decide) (fun c_2 => ?_) (fun c_2 => ?_)
  · have hw := hw.2 c_2
    exact False.elim hw
  · have hw := hw.1 c_2
    obtain ⟨sa9, hst9⟩ := gxE_13 hE
    subst hQ9
    exact tx_throw (own := RZQ) (cls := "java/lang/IllegalArgumentException") (names := ["java/lang/RuntimeException", "java/lang/Exception"]) hx hb hl9 hown (by decide +kernel) (by decide +kernel) (hts _ mm_314) (hts _ mm_13) (hts _ mm_315) hst9 (ax_1 hts hE hT) (hl.1.trans hml.symm) dZQ_requireSample_7 dZQ_requireSample_10 dZQ_requireSample_11 dZQ_requireSample_13 dZQ_requireSample_16 hnX (Nat.le_of_ble_eq_true rfl) (Nat.le_of_ble_eq_true rfl) (Nat.le_of_ble_eq_true rfl) (Nat.le_of_ble_eq_true rfl) hlocks
theorem dZQ_replaceSample_0 : decode cZQ_replaceSample 0 = .ok (.iload_n 1, 1) := by decide +kernel
theorem dZQ_replaceSample_1 : decode cZQ_replaceSample 1 = .ok (.aload_n 0, 1) := by decide +kernel
theorem dZQ_replaceSample_2 : decode cZQ_replaceSample 2 = .ok (.getfield 131, 3) := by decide +kernel
theorem dZQ_replaceSample_5 : decode cZQ_replaceSample 5 = .ok (.invokestatic 97, 3) := by decide +kernel
theorem dZQ_replaceSample_8 : decode cZQ_replaceSample 8 = .ok (.ifCond .eq 18, 3) := by decide +kernel
theorem dZQ_replaceSample_11 : decode cZQ_replaceSample 11 = .ok (.iload_n 2, 1) := by decide +kernel
theorem dZQ_replaceSample_12 : decode cZQ_replaceSample 12 = .ok (.aload_n 0, 1) := by decide +kernel
theorem dZQ_replaceSample_13 : decode cZQ_replaceSample 13 = .ok (.getfield 128, 3) := by decide +kernel
theorem dZQ_replaceSample_16 : decode cZQ_replaceSample 16 = .ok (.invokestatic 97, 3) := by decide +kernel
theorem dZQ_replaceSample_19 : decode cZQ_replaceSample 19 = .ok (.ifCond .eq 7, 3) := by decide +kernel
theorem dZQ_replaceSample_22 : decode cZQ_replaceSample 22 = .ok (.iconst 1, 1) := by decide +kernel
theorem dZQ_replaceSample_23 : decode cZQ_replaceSample 23 = .ok (.goto 4, 3) := by decide +kernel
theorem dZQ_replaceSample_26 : decode cZQ_replaceSample 26 = .ok (.iconst 0, 1) := by decide +kernel
theorem dZQ_replaceSample_27 : decode cZQ_replaceSample 27 = .ok (.invokestatic 73, 3) := by decide +kernel
theorem dZQ_replaceSample_30 : decode cZQ_replaceSample 30 = .ok (.iload_n 3, 1) := by decide +kernel
theorem dZQ_replaceSample_31 : decode cZQ_replaceSample 31 = .ok (.invokestatic 77, 3) := by decide +kernel
theorem dZQ_replaceSample_34 : decode cZQ_replaceSample 34 = .ok (.aload_n 0, 1) := by decide +kernel
theorem dZQ_replaceSample_35 : decode cZQ_replaceSample 35 = .ok (.iload_n 1, 1) := by decide +kernel
theorem dZQ_replaceSample_36 : decode cZQ_replaceSample 36 = .ok (.iload_n 2, 1) := by decide +kernel
theorem dZQ_replaceSample_37 : decode cZQ_replaceSample 37 = .ok (.invokevirtual 134, 3) := by decide +kernel
theorem dZQ_replaceSample_40 : decode cZQ_replaceSample 40 = .ok (.istore 4, 2) := by decide +kernel
theorem dZQ_replaceSample_42 : decode cZQ_replaceSample 42 = .ok (.aload_n 0, 1) := by decide +kernel
theorem dZQ_replaceSample_43 : decode cZQ_replaceSample 43 = .ok (.iload_n 1, 1) := by decide +kernel
theorem dZQ_replaceSample_44 : decode cZQ_replaceSample 44 = .ok (.iload_n 2, 1) := by decide +kernel
theorem dZQ_replaceSample_45 : decode cZQ_replaceSample 45 = .ok (.iload_n 3, 1) := by decide +kernel
theorem dZQ_replaceSample_46 : decode cZQ_replaceSample 46 = .ok (.invokevirtual 221, 3) := by decide +kernel
theorem dZQ_replaceSample_49 : decode cZQ_replaceSample 49 = .ok (.iload 4, 2) := by decide +kernel
theorem dZQ_replaceSample_51 : decode cZQ_replaceSample 51 = .ok (.ireturn, 1) := by decide +kernel
abbrev wsZQ_replaceSample : List Cond := .code yZQ_replaceSample cZQ_replaceSample 5 (some .int) :: tbg
def wp_ZQ_replaceSample (pw : Int32) (ph : Int32) (pn : Nat) (pf : Nat → Int32) (a1 : Int32) (a2 : Int32) (a3 : Int32) (post : Int32 → (Nat → Int32) → Prop) : Prop := wp_ZQ_isWithin a1 pw (fun r_1 : Int32 => ∃ J27 : Int32 → Prop, (∀ (t0_j27 : Int32), J27 t0_j27 → wp_ZQ_requirePlace t0_j27 (wp_ZQ_requireSample a3 (wp_ZP_sampleAt pw ph pn pf a1 a2 (fun r_4 : Int32 => wp_ZP_setSample pw ph pn pf a1 a2 a3 (fun (pf_5 : Nat → Int32) => post r_4 pf_5))))) ∧ (((r_1 = (0 : Int32) → (J27 (0 : Int32))) ∧ (¬ r_1 = (0 : Int32) → (wp_ZQ_isWithin a2 ph (fun r_7 : Int32 => ((r_7 = (0 : Int32) → (J27 (0 : Int32))) ∧ (¬ r_7 = (0 : Int32) → (J27 (1 : Int32))))))))))
abbrev rm_ZQ_replaceSample : Room := { frames := 2, cells := 0, slots := 0, locals := 40 }
set_option maxHeartbeats 4000000 in
set_option maxRecDepth 100000 in
theorem kt_ZQ_replaceSample (l : Launch) (dC : Nat → ClassId) (dI : Nat → Nat → Nat) (cI : ClassId) (op opa : Nat) (sz : Nat) (pw : Int32) (ph : Int32) (pn : Nat) (pf : Nat → Int32) (a1 : Int32) (a2 : Int32) (a3 : Int32) (post : Int32 → (Nat → Int32) → Prop) (hw : wp_ZQ_replaceSample pw ph pn pf a1 a2 a3 post) : Met l yZQ_replaceSample wsZQ_replaceSample rm_ZQ_replaceSample (gw_Pc dC dI [(cI, .int)] [.ref op, .int a1, .int a2, .int a3] [(op, .inr (1, [.int pw, .int ph, .ref opa])), (opa, .inl (cI, pn, .inl pf))] sz) (va_Qi (fun (r : Int32) (u : (Nat → Int32)) => post r u) (fun u t => gw_B dC dI [(cI, .int)] (va_A [(op, .inr (1, [.int pw, .int ph, .ref opa])), (opa, .inl (cI, pn, .inl pf))] sz) [(op, .inr (1, [.int pw, .int ph, .ref opa])), (opa, .inl (cI, pn, .inl u))] t) (va_A [(op, .inr (1, [.int pw, .int ph, .ref opa])), (opa, .inl (cI, pn, .inl pf))] sz)) 0 0 (va_A [(op, .inr (1, [.int pw, .int ph, .ref opa])), (opa, .inl (cI, pn, .inl pf))] sz) := by
  refine Met.ofW (cc := cZQ_replaceSample) (maxL := 5) (ret := (some .int)) (by decide) rfl ?_
  intro p e s m args below meth c s₁ B hml hv
  obtain ⟨ha9, hsz, hP, hK, hE, hD0⟩ := hv
  have hx := B.exec
  have hb := B.bytes
  have hr := B.returns
  have hts0 := atoms_spec (ws := wsZQ_replaceSample) B.pre
  have hts : ∀ w ∈ tbg, w.before args s = true := fun w h => hts0 w (List.mem_cons_of_mem _ h)
  have hown : s.vm.findClass RZQ = some m.cls := findClass_of_methodNamed B.named
  have hlocks := B.notSynchronized
  subst hsz
  have hD := hD0.self (sz := s.heap.size)
  refine gx_Q (fun Q9 hQ9 => ?_)
  generalize hAe : va_A [(op, .inr (1, [.int pw, .int ph, .ref opa])), (opa, .inl (cI, pn, .inl pf))] s.heap.size = A at hD hQ9 ⊢
  have hA : ∀ q : Nat, s.heap.size ≤ q → A q := fun q h => by rw [← hAe]; exact Or.inr h
  have hS : va_S A s.heap s.heap [] := va_S.rf
  have hl := lv_entry ([.ref op, .int a1, .int a2, .int a3]) (n := 5) (Nat.le_of_ble_eq_true rfl)
  have he9 : entryFrame m args 5 = F0 m 0 ((lg_sl [.ref op, .int a1, .int a2, .int a3] ++ List.replicate (5 - (lg_sl ([.ref op, .int a1, .int a2, .int a3] : List Value)).length) Slot.unset).toArray) [] := by rw [ha9]; exact lg_entry_eq m [.ref op, .int a1, .int a2, .int a3] 5
  rw [he9]
  generalize (lg_sl ([.ref op, .int a1, .int a2, .int a3] : List Value) ++ List.replicate (5 - (lg_sl ([.ref op, .int a1, .int a2, .int a3] : List Value)).length) Slot.unset).toArray = ls at hl ⊢
  have hl : lv_has ls 5 [(0, .ref op), (1, .int a1), (2, .int a2), (3, .int a3)] := hl
  refine lv_iload_n hx hb dZQ_replaceSample_0 rfl (lv_at hl 1 rfl) ?_
  refine lv_aload_n hx hb dZQ_replaceSample_1 rfl (lv_at hl 0 rfl) ?_
  refine va_get (D := (dC, dI)) (ci := 1) (v := .int pw) (C := RZP) (T := TZP) (N := 3) hx hb hts inZP hown hK hP 0 rfl rfl 0 (by decide) (hts _ mm_40) (fun _ h9 => h9) rfl dZQ_replaceSample_2 ?_
  have hPc := hP.sub (ws' := []) [] rfl
  refine vp_callSi (va_runS (As := [.int a1, .int pw]) (rest := []) ⟨hx, hb, hml, hown, hts⟩ (kt_ZQ_isWithin l dC dI cI  a1 pw _ hw) (va_cwS 2 hts (tb_S mm_236 mm_237 mm_1 mm_238) rfl rfl rfl (by decide +kernel) ⟨Nat.le_of_ble_eq_true rfl, Nat.le_of_ble_eq_true rfl⟩) ⟨gr_blind, fun U hU hW => gr_pre hPc hK hE hU hW⟩ rfl rfl hl.1 rfl (lv_room (Nat.le_of_ble_eq_true rfl)) dZQ_replaceSample_5 ⟨Nat.le_of_ble_eq_true rfl, Nat.le_of_ble_eq_true rfl⟩).run (fun r_1 hw => ?_)
  obtain ⟨J27, hJ27, hw⟩ := hw
  have j27 : ∀ (t0_j27 : Int32), J27 t0_j27 → ∀ (H : Heap) (locs : List Loc), va_P (dC, dI) vwCl [(op, .inr (1, [.int pw, .int ph, .ref opa])), (opa, .inl (cI, pn, .inl pf))] H → va_D A [(op, .inr (1, [.int pw, .int ph, .ref opa])), (opa, .inl (cI, pn, .inl pf))] → va_S A s.heap H locs → ∀ ls : Array Slot, lv_has ls 5 [(0, .ref op), (1, .int a1), (2, .int a2), (3, .int a3)] → W p l e (headSpec wsZQ_replaceSample rm_ZQ_replaceSample).room s m args below meth c H locs 0 0 Q9 (F0 m 27 ls [.int t0_j27]) := by
    intro t0_j27 hw H locs hP hD hS ls hl
    have hw := hJ27 t0_j27 hw
    have hPc := hP.sub (ws' := []) [] rfl
    refine va_csv (va_runS (As := [.int t0_j27]) (rest := []) ⟨hx, hb, hml, hown, hts⟩ (kt_ZQ_requirePlace l dC dI cI  t0_j27 _ hw) (va_cwS 1 hts (tb_S mm_239 mm_240 mm_1 mm_241) rfl rfl rfl (by decide +kernel) ⟨Nat.le_of_ble_eq_true rfl, Nat.le_of_ble_eq_true rfl⟩) ⟨gr_blind, fun U hU hW => gr_pre hPc hK hE hU hW⟩ rfl rfl hl.1 rfl (lv_room (Nat.le_of_ble_eq_true rfl)) dZQ_replaceSample_27 ⟨Nat.le_of_ble_eq_true rfl, Nat.le_of_ble_eq_true rfl⟩).run (fun hw => ?_)
    refine lv_iload_n hx hb dZQ_replaceSample_30 rfl (lv_at hl 3 rfl) ?_
    have hPc := hP.sub (ws' := []) [] rfl
    refine va_csv (va_runS (As := [.int a3]) (rest := []) ⟨hx, hb, hml, hown, hts⟩ (kt_ZQ_requireSample l dC dI cI  a3 _ hw) (va_cwS 1 hts (tb_S mm_310 mm_311 mm_1 mm_312) rfl rfl rfl (by decide +kernel) ⟨Nat.le_of_ble_eq_true rfl, Nat.le_of_ble_eq_true rfl⟩) ⟨gr_blind, fun U hU hW => gr_pre hPc hK hE hU hW⟩ rfl rfl hl.1 rfl (lv_room (Nat.le_of_ble_eq_true rfl)) dZQ_replaceSample_31 ⟨Nat.le_of_ble_eq_true rfl, Nat.le_of_ble_eq_true rfl⟩).run (fun hw => ?_)
    refine lv_aload_n hx hb dZQ_replaceSample_34 rfl (lv_at hl 0 rfl) ?_
    refine lv_iload_n hx hb dZQ_replaceSample_35 rfl (lv_at hl 1 rfl) ?_
    refine lv_iload_n hx hb dZQ_replaceSample_36 rfl (lv_at hl 2 rfl) ?_
    refine vp_callSi (va_runV (As := [.int a1, .int a2]) (rest := []) ⟨hx, hb, hml, hown, hts⟩ (kt_ZP_sampleAt l dC dI cI op opa pw ph pn pf a1 a2 _ hw) (cwV 2 hts (tb_V mm_330 mm_331 mm_332 mm_3 mm_333) rfl rfl rfl (by decide +kernel) ⟨Nat.le_of_ble_eq_true rfl, Nat.le_of_ble_eq_true rfl⟩) ⟨gr_blind, va_recv hK hP (ci := 1) (q0 := 0) rfl rfl, fun U hU hW => gr_pre hP hK hE hU hW⟩ rfl rfl hl.1 rfl (lv_room (Nat.le_of_ble_eq_true rfl)) dZQ_replaceSample_37 ⟨Nat.le_of_ble_eq_true rfl, Nat.le_of_ble_eq_true rfl⟩).run (fun r_4 hw => ?_)
    refine lv_istore (lv' := [(4, .int r_4), (0, .ref op), (1, .int a1), (2, .int a2), (3, .int a3)]) hx hb dZQ_replaceSample_40 hl (by decide) rfl (fun ls hl => ?_)
    refine lv_aload_n hx hb dZQ_replaceSample_42 rfl (lv_at hl 1 rfl) ?_
    refine lv_iload_n hx hb dZQ_replaceSample_43 rfl (lv_at hl 2 rfl) ?_
    refine lv_iload_n hx hb dZQ_replaceSample_44 rfl (lv_at hl 3 rfl) ?_
    refine lv_iload_n hx hb dZQ_replaceSample_45 rfl (lv_at hl 4 rfl) ?_
    have hPc := hP.sub (ws' := [(op, .inr (1, [.int pw, .int ph, .ref opa])), (opa, .inl (cI, pn, .inl pf))]) [0, 1] rfl
    have hDc := hD.sub (ws' := [(op, .inr (1, [.int pw, .int ph, .ref opa])), (opa, .inl (cI, pn, .inl pf))]) [0, 1] (by decide) rfl
    have hFc := va_free (wc := [(op, .inr (1, [.int pw, .int ph, .ref opa])), (opa, .inl (cI, pn, .inl pf))]) hD hS hA [0, 1] rfl
    refine va_callv (va_runV (As := [.int a1, .int a2, .int a3]) (rest := []) ⟨hx, hb, hml, hown, hts⟩ (kt_ZP_setSample l dC dI cI op opa _ pw ph pn pf a1 a2 a3 _ hw) (cwV 3 hts (tb_V mm_334 mm_335 mm_336 mm_3 mm_337) rfl rfl rfl (by decide +kernel) ⟨Nat.le_of_ble_eq_true rfl, Nat.le_of_ble_eq_true rfl⟩) ⟨gw_blind, va_recv hK hPc (ci := 1) (q0 := 0) rfl rfl, fun U hU hW => gw_pre hPc hDc hK hE hU hW⟩ rfl rfl hl.1 rfl (lv_room (Nat.le_of_ble_eq_true rfl)) dZQ_replaceSample_46 ⟨Nat.le_of_ble_eq_true rfl, Nat.le_of_ble_eq_true rfl⟩) hS (fun q _ h => hFc q h) hFc (fun pf_5 t H1 locs ht hvm hw hB hz1 hk1 hS => ?_)
    obtain ⟨hP1, hK1, hD1⟩ := hB
    rw [ht] at hP1
    try dsimp only at hw
    obtain ⟨hP, hD⟩ := va_join (wr := []) (w1 := [(op, .inr (1, [.int pw, .int ph, .ref opa])), (opa, .inl (cI, pn, .inl pf_5))]) hP hD [0, 1] [] rfl rfl (by decide) (by decide) hk1 hFc hP1 hD1
    generalize H1 = H at hP hS ⊢
    have hP : va_P (dC, dI) vwCl [(op, .inr (1, [.int pw, .int ph, .ref opa])), (opa, .inl (cI, pn, .inl pf_5))] H := hP
    have hD : va_D A [(op, .inr (1, [.int pw, .int ph, .ref opa])), (opa, .inl (cI, pn, .inl pf_5))] := hD
    refine lv_iload hx hb dZQ_replaceSample_49 (lv_at hl 0 rfl) ?_
    have hP9 := hP.sub (ws' := [(op, .inr (1, [.int pw, .int ph, .ref opa])), (opa, .inl (cI, pn, .inl pf_5))]) [0, 1] rfl
    have hD9 := hD.sub (ws' := [(op, .inr (1, [.int pw, .int ph, .ref opa])), (opa, .inl (cI, pn, .inl pf_5))]) [0, 1] (by decide) rfl
    subst hQ9
    exact W.iret (v := r_4) hx hb hr (fun t ht hW => ⟨⟨r_4, pf_5, rfl, hw, by rw [ht]; exact hP9, va_K.moved hW.alike hK, hD9⟩, hS.F ht⟩) hS.2.2 dZQ_replaceSample_51
  refine lv_if_eq (tgt := 26) hx hb dZQ_replaceSample_8 (by decide) (fun c_6 => ?_) (fun c_6 => ?_)
  · have hw := hw.1 c_6
    refine lv_iconst (v := (0 : Int32)) hx hb dZQ_replaceSample_26 (by decide) ?_
    exact j27 (0 : Int32) hw _ _ (hP.sub [0, 1] rfl) (hD.sub [0, 1] (by decide) rfl) hS ls (lv_sub hl [0, 1, 2, 3] rfl)
  · have hw := hw.2 c_6
    refine lv_iload_n hx hb dZQ_replaceSample_11 rfl (lv_at hl 2 rfl) ?_
    refine lv_aload_n hx hb dZQ_replaceSample_12 rfl (lv_at hl 0 rfl) ?_
    refine va_get (D := (dC, dI)) (ci := 1) (v := .int ph) (C := RZP) (T := TZP) (N := 3) hx hb hts inZP hown hK hP 0 rfl rfl 1 (by decide) (hts _ mm_44) (fun _ h9 => h9) rfl dZQ_replaceSample_13 ?_
    have hPc := hP.sub (ws' := []) [] rfl
    refine vp_callSi (va_runS (As := [.int a2, .int ph]) (rest := []) ⟨hx, hb, hml, hown, hts⟩ (kt_ZQ_isWithin l dC dI cI  a2 ph _ hw) (va_cwS 2 hts (tb_S mm_236 mm_237 mm_1 mm_238) rfl rfl rfl (by decide +kernel) ⟨Nat.le_of_ble_eq_true rfl, Nat.le_of_ble_eq_true rfl⟩) ⟨gr_blind, fun U hU hW => gr_pre hPc hK hE hU hW⟩ rfl rfl hl.1 rfl (lv_room (Nat.le_of_ble_eq_true rfl)) dZQ_replaceSample_16 ⟨Nat.le_of_ble_eq_true rfl, Nat.le_of_ble_eq_true rfl⟩).run (fun r_7 hw => ?_)
    refine lv_if_eq (tgt := 26) hx hb dZQ_replaceSample_19 (by decide) (fun c_8 => ?_) (fun c_8 => ?_)
    · have hw := hw.1 c_8
      refine lv_iconst (v := (0 : Int32)) hx hb dZQ_replaceSample_26 (by decide) ?_
      exact j27 (0 : Int32) hw _ _ (hP.sub [0, 1] rfl) (hD.sub [0, 1] (by decide) rfl) hS ls (lv_sub hl [0, 1, 2, 3] rfl)
    · have hw := hw.2 c_8
      refine lv_iconst (v := (1 : Int32)) hx hb dZQ_replaceSample_22 (by decide) ?_
      refine lv_goto (tgt := 27) hx hb dZQ_replaceSample_23 (by decide) ?_
      exact j27 (1 : Int32) hw _ _ (hP.sub [0, 1] rfl) (hD.sub [0, 1] (by decide) rfl) hS ls (lv_sub hl [0, 1, 2, 3] rfl)
def xp_ZQ_replaceSample_I (pw : Int32) (ph : Int32) (pn : Nat) (pf : Nat → Int32) (a1 : Int32) (a2 : Int32) (a3 : Int32) : Prop := wp_ZQ_isWithin a1 pw (fun r_1 : Int32 => ∃ J27 : Int32 → Prop, (∀ (t0_j27 : Int32), J27 t0_j27 → (xp_ZQ_requirePlace_I t0_j27) ∨ (wp_ZQ_requirePlace t0_j27 (wp_ZQ_requireSample a3 (wp_ZP_sampleAt pw ph pn pf a1 a2 (fun r_4 : Int32 => False))))) ∧ (((r_1 = (0 : Int32) → (J27 (0 : Int32))) ∧ (¬ r_1 = (0 : Int32) → (wp_ZQ_isWithin a2 ph (fun r_6 : Int32 => ((r_6 = (0 : Int32) → (J27 (0 : Int32))) ∧ (¬ r_6 = (0 : Int32) → (J27 (1 : Int32))))))))))
abbrev rm_ZQ_replaceSample_I : Room := { frames := 7, cells := 1, slots := 6, locals := 111 }
set_option maxHeartbeats 4000000 in
set_option maxRecDepth 100000 in
theorem kx_ZQ_replaceSample_I (l : Launch) (hl9 : l.stackTraces = false) (dC : Nat → ClassId) (dI : Nat → Nat → Nat) (cI : ClassId) (op opa : Nat) (H0 : Heap) (pw : Int32) (ph : Int32) (pn : Nat) (pf : Nat → Int32) (a1 : Int32) (a2 : Int32) (a3 : Int32) (hw : xp_ZQ_replaceSample_I pw ph pn pf a1 a2 a3) : tx_Met l yZQ_replaceSample wsZQ_replaceSample rm_ZQ_replaceSample_I (tr_Pc H0 dC dI [(cI, .int)] [.ref op, .int a1, .int a2, .int a3] [(op, .inr (1, [.int pw, .int ph, .ref opa])), (opa, .inl (cI, pn, .inl pf))]) "java/lang/IndexOutOfBoundsException" := by
  refine tx_ofW (cc := cZQ_replaceSample) (maxL := 5) (ret := (some .int)) (by decide) rfl ?_
  intro p e s m args below meth c s₁ B hml hnX hv
  obtain ⟨ha9, hP, hK, hE, hT⟩ := hv
  have hx := B.exec
  have hb := B.bytes
  have hr := B.returns
  have hts0 := atoms_spec (ws := wsZQ_replaceSample) B.pre
  have hts : ∀ w ∈ tbg, w.before args s = true := fun w h => hts0 w (List.mem_cons_of_mem _ h)
  have hown : s.vm.findClass RZQ = some m.cls := findClass_of_methodNamed B.named
  have hlocks := B.notSynchronized
  refine gx_Q (fun Q9 hQ9 => ?_)
  have hl := lv_entry ([.ref op, .int a1, .int a2, .int a3]) (n := 5) (Nat.le_of_ble_eq_true rfl)
  have he9 : entryFrame m args 5 = F0 m 0 ((lg_sl [.ref op, .int a1, .int a2, .int a3] ++ List.replicate (5 - (lg_sl ([.ref op, .int a1, .int a2, .int a3] : List Value)).length) Slot.unset).toArray) [] := by rw [ha9]; exact lg_entry_eq m [.ref op, .int a1, .int a2, .int a3] 5
  rw [he9]
  generalize (lg_sl ([.ref op, .int a1, .int a2, .int a3] : List Value) ++ List.replicate (5 - (lg_sl ([.ref op, .int a1, .int a2, .int a3] : List Value)).length) Slot.unset).toArray = ls at hl ⊢
  have hl : lv_has ls 5 [(0, .ref op), (1, .int a1), (2, .int a2), (3, .int a3)] := hl
  refine lv_iload_n hx hb dZQ_replaceSample_0 rfl (lv_at hl 1 rfl) ?_
  refine lv_aload_n hx hb dZQ_replaceSample_1 rfl (lv_at hl 0 rfl) ?_
  refine va_get (D := (dC, dI)) (ci := 1) (v := .int pw) (C := RZP) (T := TZP) (N := 3) hx hb hts inZP hown hK hP 0 rfl rfl 0 (by decide) (hts _ mm_40) (fun _ h9 => h9) rfl dZQ_replaceSample_2 ?_
  have hPc := hP.sub (ws' := []) [] rfl
  refine vp_callSi (va_runS (As := [.int a1, .int pw]) (rest := []) ⟨hx, hb, hml, hown, hts⟩ (kt_ZQ_isWithin l dC dI cI  a1 pw _ hw) (va_cwS 2 hts (tb_S mm_236 mm_237 mm_1 mm_238) rfl rfl rfl (by decide +kernel) ⟨Nat.le_of_ble_eq_true rfl, Nat.le_of_ble_eq_true rfl⟩) ⟨gr_blind, fun U hU hW => gr_pre hPc hK hE hU hW⟩ rfl rfl hl.1 rfl (lv_room (Nat.le_of_ble_eq_true rfl)) dZQ_replaceSample_5 ⟨Nat.le_of_ble_eq_true rfl, Nat.le_of_ble_eq_true rfl⟩).run (fun r_1 hw => ?_)
  obtain ⟨J27, hJ27, hw⟩ := hw
  have j27 : ∀ (t0_j27 : Int32), J27 t0_j27 → ∀ ls : Array Slot, lv_has ls 5 [(0, .ref op), (1, .int a1), (2, .int a2), (3, .int a3)] → W p l e (headSpec wsZQ_replaceSample rm_ZQ_replaceSample_I).room s m args below meth c s.heap [] 0 0 Q9 (F0 m 27 ls [.int t0_j27]) := by
    intro t0_j27 hw ls hl
    have hw := hJ27 t0_j27 hw
    rcases hw with hw | hw
    · subst hQ9
      have hPx := hP.sub (ws' := []) [] rfl
      exact tx_callS (As := [.int t0_j27]) (rest := []) ⟨hx, hb, hml, hown, hts⟩ (kx_ZQ_requirePlace_I l hl9 dC dI cI  H0 t0_j27 hw) (va_cwS 1 hts (tb_S mm_239 mm_240 mm_1 mm_241) rfl rfl rfl (by decide +kernel) ⟨Nat.le_of_ble_eq_true rfl, Nat.le_of_ble_eq_true rfl⟩) ⟨tr_blind, fun U hU hW => tr_pre hPx hK hE hT hT.1 hU hW⟩ rfl hl.1 rfl (Nat.le_of_ble_eq_true rfl) dZQ_replaceSample_27 hnX hlocks ⟨Nat.le_of_ble_eq_true rfl, Nat.le_of_ble_eq_true rfl⟩
    have hPc := hP.sub (ws' := []) [] rfl
    refine va_csv (va_runS (As := [.int t0_j27]) (rest := []) ⟨hx, hb, hml, hown, hts⟩ (kt_ZQ_requirePlace l dC dI cI  t0_j27 _ hw) (va_cwS 1 hts (tb_S mm_239 mm_240 mm_1 mm_241) rfl rfl rfl (by decide +kernel) ⟨Nat.le_of_ble_eq_true rfl, Nat.le_of_ble_eq_true rfl⟩) ⟨gr_blind, fun U hU hW => gr_pre hPc hK hE hU hW⟩ rfl rfl hl.1 rfl (lv_room (Nat.le_of_ble_eq_true rfl)) dZQ_replaceSample_27 ⟨Nat.le_of_ble_eq_true rfl, Nat.le_of_ble_eq_true rfl⟩).run (fun hw => ?_)
    refine lv_iload_n hx hb dZQ_replaceSample_30 rfl (lv_at hl 3 rfl) ?_
    have hPc := hP.sub (ws' := []) [] rfl
    refine va_csv (va_runS (As := [.int a3]) (rest := []) ⟨hx, hb, hml, hown, hts⟩ (kt_ZQ_requireSample l dC dI cI  a3 _ hw) (va_cwS 1 hts (tb_S mm_310 mm_311 mm_1 mm_312) rfl rfl rfl (by decide +kernel) ⟨Nat.le_of_ble_eq_true rfl, Nat.le_of_ble_eq_true rfl⟩) ⟨gr_blind, fun U hU hW => gr_pre hPc hK hE hU hW⟩ rfl rfl hl.1 rfl (lv_room (Nat.le_of_ble_eq_true rfl)) dZQ_replaceSample_31 ⟨Nat.le_of_ble_eq_true rfl, Nat.le_of_ble_eq_true rfl⟩).run (fun hw => ?_)
    refine lv_aload_n hx hb dZQ_replaceSample_34 rfl (lv_at hl 0 rfl) ?_
    refine lv_iload_n hx hb dZQ_replaceSample_35 rfl (lv_at hl 1 rfl) ?_
    refine lv_iload_n hx hb dZQ_replaceSample_36 rfl (lv_at hl 2 rfl) ?_
    refine vp_callSi (va_runV (As := [.int a1, .int a2]) (rest := []) ⟨hx, hb, hml, hown, hts⟩ (kt_ZP_sampleAt l dC dI cI op opa pw ph pn pf a1 a2 _ hw) (cwV 2 hts (tb_V mm_330 mm_331 mm_332 mm_3 mm_333) rfl rfl rfl (by decide +kernel) ⟨Nat.le_of_ble_eq_true rfl, Nat.le_of_ble_eq_true rfl⟩) ⟨gr_blind, va_recv hK hP (ci := 1) (q0 := 0) rfl rfl, fun U hU hW => gr_pre hP hK hE hU hW⟩ rfl rfl hl.1 rfl (lv_room (Nat.le_of_ble_eq_true rfl)) dZQ_replaceSample_37 ⟨Nat.le_of_ble_eq_true rfl, Nat.le_of_ble_eq_true rfl⟩).run (fun r_4 hw => ?_)
    refine lv_istore (lv' := [(4, .int r_4), (0, .ref op), (1, .int a1), (2, .int a2), (3, .int a3)]) hx hb dZQ_replaceSample_40 hl (by decide) rfl (fun ls hl => ?_)
    refine lv_aload_n hx hb dZQ_replaceSample_42 rfl (lv_at hl 1 rfl) ?_
    refine lv_iload_n hx hb dZQ_replaceSample_43 rfl (lv_at hl 2 rfl) ?_
    refine lv_iload_n hx hb dZQ_replaceSample_44 rfl (lv_at hl 3 rfl) ?_
    refine lv_iload_n hx hb dZQ_replaceSample_45 rfl (lv_at hl 4 rfl) ?_
    exact False.elim hw
  refine lv_if_eq (tgt := 26) hx hb dZQ_replaceSample_8 (by decide) (fun c_5 => ?_) (fun c_5 => ?_)
  · have hw := hw.1 c_5
    refine lv_iconst (v := (0 : Int32)) hx hb dZQ_replaceSample_26 (by decide) ?_
    exact j27 (0 : Int32) hw ls (lv_sub hl [0, 1, 2, 3] rfl)
  · have hw := hw.2 c_5
    refine lv_iload_n hx hb dZQ_replaceSample_11 rfl (lv_at hl 2 rfl) ?_
    refine lv_aload_n hx hb dZQ_replaceSample_12 rfl (lv_at hl 0 rfl) ?_
    refine va_get (D := (dC, dI)) (ci := 1) (v := .int ph) (C := RZP) (T := TZP) (N := 3) hx hb hts inZP hown hK hP 0 rfl rfl 1 (by decide) (hts _ mm_44) (fun _ h9 => h9) rfl dZQ_replaceSample_13 ?_
    have hPc := hP.sub (ws' := []) [] rfl
    refine vp_callSi (va_runS (As := [.int a2, .int ph]) (rest := []) ⟨hx, hb, hml, hown, hts⟩ (kt_ZQ_isWithin l dC dI cI  a2 ph _ hw) (va_cwS 2 hts (tb_S mm_236 mm_237 mm_1 mm_238) rfl rfl rfl (by decide +kernel) ⟨Nat.le_of_ble_eq_true rfl, Nat.le_of_ble_eq_true rfl⟩) ⟨gr_blind, fun U hU hW => gr_pre hPc hK hE hU hW⟩ rfl rfl hl.1 rfl (lv_room (Nat.le_of_ble_eq_true rfl)) dZQ_replaceSample_16 ⟨Nat.le_of_ble_eq_true rfl, Nat.le_of_ble_eq_true rfl⟩).run (fun r_6 hw => ?_)
    refine lv_if_eq (tgt := 26) hx hb dZQ_replaceSample_19 (by decide) (fun c_7 => ?_) (fun c_7 => ?_)
    · have hw := hw.1 c_7
      refine lv_iconst (v := (0 : Int32)) hx hb dZQ_replaceSample_26 (by decide) ?_
      exact j27 (0 : Int32) hw ls (lv_sub hl [0, 1, 2, 3] rfl)
    · have hw := hw.2 c_7
      refine lv_iconst (v := (1 : Int32)) hx hb dZQ_replaceSample_22 (by decide) ?_
      refine lv_goto (tgt := 27) hx hb dZQ_replaceSample_23 (by decide) ?_
      exact j27 (1 : Int32) hw ls (lv_sub hl [0, 1, 2, 3] rfl)
def xp_ZQ_replaceSample_A (pw : Int32) (ph : Int32) (pn : Nat) (pf : Nat → Int32) (a1 : Int32) (a2 : Int32) (a3 : Int32) : Prop := wp_ZQ_isWithin a1 pw (fun r_1 : Int32 => ∃ J27 : Int32 → Prop, (∀ (t0_j27 : Int32), J27 t0_j27 → wp_ZQ_requirePlace t0_j27 ((xp_ZQ_requireSample_A a3) ∨ (wp_ZQ_requireSample a3 (wp_ZP_sampleAt pw ph pn pf a1 a2 (fun r_4 : Int32 => False))))) ∧ (((r_1 = (0 : Int32) → (J27 (0 : Int32))) ∧ (¬ r_1 = (0 : Int32) → (wp_ZQ_isWithin a2 ph (fun r_6 : Int32 => ((r_6 = (0 : Int32) → (J27 (0 : Int32))) ∧ (¬ r_6 = (0 : Int32) → (J27 (1 : Int32))))))))))
abbrev rm_ZQ_replaceSample_A : Room := { frames := 7, cells := 1, slots := 6, locals := 111 }
set_option maxHeartbeats 4000000 in
set_option maxRecDepth 100000 in
theorem kx_ZQ_replaceSample_A (l : Launch) (hl9 : l.stackTraces = false) (dC : Nat → ClassId) (dI : Nat → Nat → Nat) (cI : ClassId) (op opa : Nat) (H0 : Heap) (pw : Int32) (ph : Int32) (pn : Nat) (pf : Nat → Int32) (a1 : Int32) (a2 : Int32) (a3 : Int32) (hw : xp_ZQ_replaceSample_A pw ph pn pf a1 a2 a3) : tx_Met l yZQ_replaceSample wsZQ_replaceSample rm_ZQ_replaceSample_A (tr_Pc H0 dC dI [(cI, .int)] [.ref op, .int a1, .int a2, .int a3] [(op, .inr (1, [.int pw, .int ph, .ref opa])), (opa, .inl (cI, pn, .inl pf))]) "java/lang/IllegalArgumentException" := by
  refine tx_ofW (cc := cZQ_replaceSample) (maxL := 5) (ret := (some .int)) (by decide) rfl ?_
  intro p e s m args below meth c s₁ B hml hnX hv
  obtain ⟨ha9, hP, hK, hE, hT⟩ := hv
  have hx := B.exec
  have hb := B.bytes
  have hr := B.returns
  have hts0 := atoms_spec (ws := wsZQ_replaceSample) B.pre
  have hts : ∀ w ∈ tbg, w.before args s = true := fun w h => hts0 w (List.mem_cons_of_mem _ h)
  have hown : s.vm.findClass RZQ = some m.cls := findClass_of_methodNamed B.named
  have hlocks := B.notSynchronized
  refine gx_Q (fun Q9 hQ9 => ?_)
  have hl := lv_entry ([.ref op, .int a1, .int a2, .int a3]) (n := 5) (Nat.le_of_ble_eq_true rfl)
  have he9 : entryFrame m args 5 = F0 m 0 ((lg_sl [.ref op, .int a1, .int a2, .int a3] ++ List.replicate (5 - (lg_sl ([.ref op, .int a1, .int a2, .int a3] : List Value)).length) Slot.unset).toArray) [] := by rw [ha9]; exact lg_entry_eq m [.ref op, .int a1, .int a2, .int a3] 5
  rw [he9]
  generalize (lg_sl ([.ref op, .int a1, .int a2, .int a3] : List Value) ++ List.replicate (5 - (lg_sl ([.ref op, .int a1, .int a2, .int a3] : List Value)).length) Slot.unset).toArray = ls at hl ⊢
  have hl : lv_has ls 5 [(0, .ref op), (1, .int a1), (2, .int a2), (3, .int a3)] := hl
  refine lv_iload_n hx hb dZQ_replaceSample_0 rfl (lv_at hl 1 rfl) ?_
  refine lv_aload_n hx hb dZQ_replaceSample_1 rfl (lv_at hl 0 rfl) ?_
  refine va_get (D := (dC, dI)) (ci := 1) (v := .int pw) (C := RZP) (T := TZP) (N := 3) hx hb hts inZP hown hK hP 0 rfl rfl 0 (by decide) (hts _ mm_40) (fun _ h9 => h9) rfl dZQ_replaceSample_2 ?_
  have hPc := hP.sub (ws' := []) [] rfl
  refine vp_callSi (va_runS (As := [.int a1, .int pw]) (rest := []) ⟨hx, hb, hml, hown, hts⟩ (kt_ZQ_isWithin l dC dI cI  a1 pw _ hw) (va_cwS 2 hts (tb_S mm_236 mm_237 mm_1 mm_238) rfl rfl rfl (by decide +kernel) ⟨Nat.le_of_ble_eq_true rfl, Nat.le_of_ble_eq_true rfl⟩) ⟨gr_blind, fun U hU hW => gr_pre hPc hK hE hU hW⟩ rfl rfl hl.1 rfl (lv_room (Nat.le_of_ble_eq_true rfl)) dZQ_replaceSample_5 ⟨Nat.le_of_ble_eq_true rfl, Nat.le_of_ble_eq_true rfl⟩).run (fun r_1 hw => ?_)
  obtain ⟨J27, hJ27, hw⟩ := hw
  have j27 : ∀ (t0_j27 : Int32), J27 t0_j27 → ∀ ls : Array Slot, lv_has ls 5 [(0, .ref op), (1, .int a1), (2, .int a2), (3, .int a3)] → W p l e (headSpec wsZQ_replaceSample rm_ZQ_replaceSample_A).room s m args below meth c s.heap [] 0 0 Q9 (F0 m 27 ls [.int t0_j27]) := by
    intro t0_j27 hw ls hl
    have hw := hJ27 t0_j27 hw
    have hPc := hP.sub (ws' := []) [] rfl
    refine va_csv (va_runS (As := [.int t0_j27]) (rest := []) ⟨hx, hb, hml, hown, hts⟩ (kt_ZQ_requirePlace l dC dI cI  t0_j27 _ hw) (va_cwS 1 hts (tb_S mm_239 mm_240 mm_1 mm_241) rfl rfl rfl (by decide +kernel) ⟨Nat.le_of_ble_eq_true rfl, Nat.le_of_ble_eq_true rfl⟩) ⟨gr_blind, fun U hU hW => gr_pre hPc hK hE hU hW⟩ rfl rfl hl.1 rfl (lv_room (Nat.le_of_ble_eq_true rfl)) dZQ_replaceSample_27 ⟨Nat.le_of_ble_eq_true rfl, Nat.le_of_ble_eq_true rfl⟩).run (fun hw => ?_)
    refine lv_iload_n hx hb dZQ_replaceSample_30 rfl (lv_at hl 3 rfl) ?_
    rcases hw with hw | hw
    · subst hQ9
      have hPx := hP.sub (ws' := []) [] rfl
      exact tx_callS (As := [.int a3]) (rest := []) ⟨hx, hb, hml, hown, hts⟩ (kx_ZQ_requireSample_A l hl9 dC dI cI  H0 a3 hw) (va_cwS 1 hts (tb_S mm_310 mm_311 mm_1 mm_312) rfl rfl rfl (by decide +kernel) ⟨Nat.le_of_ble_eq_true rfl, Nat.le_of_ble_eq_true rfl⟩) ⟨tr_blind, fun U hU hW => tr_pre hPx hK hE hT hT.1 hU hW⟩ rfl hl.1 rfl (Nat.le_of_ble_eq_true rfl) dZQ_replaceSample_31 hnX hlocks ⟨Nat.le_of_ble_eq_true rfl, Nat.le_of_ble_eq_true rfl⟩
    have hPc := hP.sub (ws' := []) [] rfl
    refine va_csv (va_runS (As := [.int a3]) (rest := []) ⟨hx, hb, hml, hown, hts⟩ (kt_ZQ_requireSample l dC dI cI  a3 _ hw) (va_cwS 1 hts (tb_S mm_310 mm_311 mm_1 mm_312) rfl rfl rfl (by decide +kernel) ⟨Nat.le_of_ble_eq_true rfl, Nat.le_of_ble_eq_true rfl⟩) ⟨gr_blind, fun U hU hW => gr_pre hPc hK hE hU hW⟩ rfl rfl hl.1 rfl (lv_room (Nat.le_of_ble_eq_true rfl)) dZQ_replaceSample_31 ⟨Nat.le_of_ble_eq_true rfl, Nat.le_of_ble_eq_true rfl⟩).run (fun hw => ?_)
    refine lv_aload_n hx hb dZQ_replaceSample_34 rfl (lv_at hl 0 rfl) ?_
    refine lv_iload_n hx hb dZQ_replaceSample_35 rfl (lv_at hl 1 rfl) ?_
    refine lv_iload_n hx hb dZQ_replaceSample_36 rfl (lv_at hl 2 rfl) ?_
    refine vp_callSi (va_runV (As := [.int a1, .int a2]) (rest := []) ⟨hx, hb, hml, hown, hts⟩ (kt_ZP_sampleAt l dC dI cI op opa pw ph pn pf a1 a2 _ hw) (cwV 2 hts (tb_V mm_330 mm_331 mm_332 mm_3 mm_333) rfl rfl rfl (by decide +kernel) ⟨Nat.le_of_ble_eq_true rfl, Nat.le_of_ble_eq_true rfl⟩) ⟨gr_blind, va_recv hK hP (ci := 1) (q0 := 0) rfl rfl, fun U hU hW => gr_pre hP hK hE hU hW⟩ rfl rfl hl.1 rfl (lv_room (Nat.le_of_ble_eq_true rfl)) dZQ_replaceSample_37 ⟨Nat.le_of_ble_eq_true rfl, Nat.le_of_ble_eq_true rfl⟩).run (fun r_4 hw => ?_)
    refine lv_istore (lv' := [(4, .int r_4), (0, .ref op), (1, .int a1), (2, .int a2), (3, .int a3)]) hx hb dZQ_replaceSample_40 hl (by decide) rfl (fun ls hl => ?_)
    refine lv_aload_n hx hb dZQ_replaceSample_42 rfl (lv_at hl 1 rfl) ?_
    refine lv_iload_n hx hb dZQ_replaceSample_43 rfl (lv_at hl 2 rfl) ?_
    refine lv_iload_n hx hb dZQ_replaceSample_44 rfl (lv_at hl 3 rfl) ?_
    refine lv_iload_n hx hb dZQ_replaceSample_45 rfl (lv_at hl 4 rfl) ?_
    exact False.elim hw
  refine lv_if_eq (tgt := 26) hx hb dZQ_replaceSample_8 (by decide) (fun c_5 => ?_) (fun c_5 => ?_)
  · have hw := hw.1 c_5
    refine lv_iconst (v := (0 : Int32)) hx hb dZQ_replaceSample_26 (by decide) ?_
    exact j27 (0 : Int32) hw ls (lv_sub hl [0, 1, 2, 3] rfl)
  · have hw := hw.2 c_5
    refine lv_iload_n hx hb dZQ_replaceSample_11 rfl (lv_at hl 2 rfl) ?_
    refine lv_aload_n hx hb dZQ_replaceSample_12 rfl (lv_at hl 0 rfl) ?_
    refine va_get (D := (dC, dI)) (ci := 1) (v := .int ph) (C := RZP) (T := TZP) (N := 3) hx hb hts inZP hown hK hP 0 rfl rfl 1 (by decide) (hts _ mm_44) (fun _ h9 => h9) rfl dZQ_replaceSample_13 ?_
    have hPc := hP.sub (ws' := []) [] rfl
    refine vp_callSi (va_runS (As := [.int a2, .int ph]) (rest := []) ⟨hx, hb, hml, hown, hts⟩ (kt_ZQ_isWithin l dC dI cI  a2 ph _ hw) (va_cwS 2 hts (tb_S mm_236 mm_237 mm_1 mm_238) rfl rfl rfl (by decide +kernel) ⟨Nat.le_of_ble_eq_true rfl, Nat.le_of_ble_eq_true rfl⟩) ⟨gr_blind, fun U hU hW => gr_pre hPc hK hE hU hW⟩ rfl rfl hl.1 rfl (lv_room (Nat.le_of_ble_eq_true rfl)) dZQ_replaceSample_16 ⟨Nat.le_of_ble_eq_true rfl, Nat.le_of_ble_eq_true rfl⟩).run (fun r_6 hw => ?_)
    refine lv_if_eq (tgt := 26) hx hb dZQ_replaceSample_19 (by decide) (fun c_7 => ?_) (fun c_7 => ?_)
    · have hw := hw.1 c_7
      refine lv_iconst (v := (0 : Int32)) hx hb dZQ_replaceSample_26 (by decide) ?_
      exact j27 (0 : Int32) hw ls (lv_sub hl [0, 1, 2, 3] rfl)
    · have hw := hw.2 c_7
      refine lv_iconst (v := (1 : Int32)) hx hb dZQ_replaceSample_22 (by decide) ?_
      refine lv_goto (tgt := 27) hx hb dZQ_replaceSample_23 (by decide) ?_
      exact j27 (1 : Int32) hw ls (lv_sub hl [0, 1, 2, 3] rfl)
theorem dZQ_put_0 : decode cZQ_put 0 = .ok (.aload_n 0, 1) := by decide +kernel
theorem dZQ_put_1 : decode cZQ_put 1 = .ok (.getfield 23, 3) := by decide +kernel
theorem dZQ_put_4 : decode cZQ_put 4 = .ok (.iload_n 1, 1) := by decide +kernel
theorem dZQ_put_5 : decode cZQ_put 5 = .ok (.iload_n 2, 1) := by decide +kernel
theorem dZQ_put_6 : decode cZQ_put 6 = .ok (.iload_n 3, 1) := by decide +kernel
theorem dZQ_put_7 : decode cZQ_put 7 = .ok (.invokestatic 65, 3) := by decide +kernel
theorem dZQ_put_10 : decode cZQ_put 10 = .ok (.ireturn, 1) := by decide +kernel
abbrev wsZQ_put : List Cond := .code yZQ_put cZQ_put 4 (some .int) :: tbg
def wp_ZQ_put (pw : Int32) (ph : Int32) (pn : Nat) (pf : Nat → Int32) (gw : Int32) (gh : Int32) (gn : Nat) (gf : Nat → Int32) (yk : Int32) (bl : Int32) (bf : Nat → Int32) (kn : Nat) (kf : Nat → Int32) (sn : Nat) (sf : Nat → Int32) (sd : Int32) (tw : Int32) (th : Int32) (tf : Nat → Int32) (uw : Int32) (uh : Int32) (uf : Nat → Int32) (a1 : Int32) (a2 : Int32) (a3 : Int32) (post : Int32 → (Nat → Int32) → Prop) : Prop := wp_ZQ_replaceSample pw ph pn pf a1 a2 a3 (fun (r_2 : Int32) (pf_1 : Nat → Int32) => post r_2 pf_1)
abbrev rm_ZQ_put : Room := { frames := 3, cells := 0, slots := 0, locals := 64 }
set_option maxHeartbeats 4000000 in
set_option maxRecDepth 100000 in
theorem kt_ZQ_put (l : Launch) (dC : Nat → ClassId) (dI : Nat → Nat → Nat) (cI : ClassId) (o0 op opa og oga oy ob oba os osa osb ot ota ou oua : Nat) (sz : Nat) (pw : Int32) (ph : Int32) (pn : Nat) (pf : Nat → Int32) (gw : Int32) (gh : Int32) (gn : Nat) (gf : Nat → Int32) (yk : Int32) (bl : Int32) (bf : Nat → Int32) (kn : Nat) (kf : Nat → Int32) (sn : Nat) (sf : Nat → Int32) (sd : Int32) (tw : Int32) (th : Int32) (tf : Nat → Int32) (uw : Int32) (uh : Int32) (uf : Nat → Int32) (a1 : Int32) (a2 : Int32) (a3 : Int32) (post : Int32 → (Nat → Int32) → Prop) (hw : wp_ZQ_put pw ph pn pf gw gh gn gf yk bl bf kn kf sn sf sd tw th tf uw uh uf a1 a2 a3 post) : Met l yZQ_put wsZQ_put rm_ZQ_put (gw_Pc dC dI [(cI, .int)] [.ref o0, .int a1, .int a2, .int a3] [(o0, .inr (5, [.ref op, .ref og, .ref oy, .ref ob, .ref os, .ref ot, .ref ou])), (op, .inr (1, [.int pw, .int ph, .ref opa])), (opa, .inl (cI, pn, .inl pf)), (og, .inr (1, [.int gw, .int gh, .ref oga])), (oga, .inl (cI, gn, .inl gf)), (oy, .inr (2, [.ref op, .int yk])), (ob, .inr (0, [.ref oba, .int bl])), (oba, .inl (cI, 256, .inl bf)), (os, .inr (3, [.ref op, .ref og, .ref osa, .ref osb, .int sd])), (osa, .inl (cI, kn, .inl kf)), (osb, .inl (cI, sn, .inl sf)), (ot, .inr (4, [.ref ota, .int tw, .int th])), (ota, .inl (cI, 64, .inl tf)), (ou, .inr (4, [.ref oua, .int uw, .int uh])), (oua, .inl (cI, 64, .inl uf))] sz) (va_Qi (fun (r : Int32) (u : (Nat → Int32)) => post r u) (fun u t => gw_B dC dI [(cI, .int)] (va_A [(o0, .inr (5, [.ref op, .ref og, .ref oy, .ref ob, .ref os, .ref ot, .ref ou])), (op, .inr (1, [.int pw, .int ph, .ref opa])), (opa, .inl (cI, pn, .inl pf)), (og, .inr (1, [.int gw, .int gh, .ref oga])), (oga, .inl (cI, gn, .inl gf)), (oy, .inr (2, [.ref op, .int yk])), (ob, .inr (0, [.ref oba, .int bl])), (oba, .inl (cI, 256, .inl bf)), (os, .inr (3, [.ref op, .ref og, .ref osa, .ref osb, .int sd])), (osa, .inl (cI, kn, .inl kf)), (osb, .inl (cI, sn, .inl sf)), (ot, .inr (4, [.ref ota, .int tw, .int th])), (ota, .inl (cI, 64, .inl tf)), (ou, .inr (4, [.ref oua, .int uw, .int uh])), (oua, .inl (cI, 64, .inl uf))] sz) [(o0, .inr (5, [.ref op, .ref og, .ref oy, .ref ob, .ref os, .ref ot, .ref ou])), (op, .inr (1, [.int pw, .int ph, .ref opa])), (opa, .inl (cI, pn, .inl u)), (og, .inr (1, [.int gw, .int gh, .ref oga])), (oga, .inl (cI, gn, .inl gf)), (oy, .inr (2, [.ref op, .int yk])), (ob, .inr (0, [.ref oba, .int bl])), (oba, .inl (cI, 256, .inl bf)), (os, .inr (3, [.ref op, .ref og, .ref osa, .ref osb, .int sd])), (osa, .inl (cI, kn, .inl kf)), (osb, .inl (cI, sn, .inl sf)), (ot, .inr (4, [.ref ota, .int tw, .int th])), (ota, .inl (cI, 64, .inl tf)), (ou, .inr (4, [.ref oua, .int uw, .int uh])), (oua, .inl (cI, 64, .inl uf))] t) (va_A [(o0, .inr (5, [.ref op, .ref og, .ref oy, .ref ob, .ref os, .ref ot, .ref ou])), (op, .inr (1, [.int pw, .int ph, .ref opa])), (opa, .inl (cI, pn, .inl pf)), (og, .inr (1, [.int gw, .int gh, .ref oga])), (oga, .inl (cI, gn, .inl gf)), (oy, .inr (2, [.ref op, .int yk])), (ob, .inr (0, [.ref oba, .int bl])), (oba, .inl (cI, 256, .inl bf)), (os, .inr (3, [.ref op, .ref og, .ref osa, .ref osb, .int sd])), (osa, .inl (cI, kn, .inl kf)), (osb, .inl (cI, sn, .inl sf)), (ot, .inr (4, [.ref ota, .int tw, .int th])), (ota, .inl (cI, 64, .inl tf)), (ou, .inr (4, [.ref oua, .int uw, .int uh])), (oua, .inl (cI, 64, .inl uf))] sz)) 0 0 (va_A [(o0, .inr (5, [.ref op, .ref og, .ref oy, .ref ob, .ref os, .ref ot, .ref ou])), (op, .inr (1, [.int pw, .int ph, .ref opa])), (opa, .inl (cI, pn, .inl pf)), (og, .inr (1, [.int gw, .int gh, .ref oga])), (oga, .inl (cI, gn, .inl gf)), (oy, .inr (2, [.ref op, .int yk])), (ob, .inr (0, [.ref oba, .int bl])), (oba, .inl (cI, 256, .inl bf)), (os, .inr (3, [.ref op, .ref og, .ref osa, .ref osb, .int sd])), (osa, .inl (cI, kn, .inl kf)), (osb, .inl (cI, sn, .inl sf)), (ot, .inr (4, [.ref ota, .int tw, .int th])), (ota, .inl (cI, 64, .inl tf)), (ou, .inr (4, [.ref oua, .int uw, .int uh])), (oua, .inl (cI, 64, .inl uf))] sz) := by
  refine Met.ofW (cc := cZQ_put) (maxL := 4) (ret := (some .int)) (by decide) rfl ?_
  intro p e s m args below meth c s₁ B hml hv
  obtain ⟨ha9, hsz, hP, hK, hE, hD0⟩ := hv
  have hx := B.exec
  have hb := B.bytes
  have hr := B.returns
  have hts0 := atoms_spec (ws := wsZQ_put) B.pre
  have hts : ∀ w ∈ tbg, w.before args s = true := fun w h => hts0 w (List.mem_cons_of_mem _ h)
  have hown : s.vm.findClass RZQ = some m.cls := findClass_of_methodNamed B.named
  have hlocks := B.notSynchronized
  subst hsz
  have hD := hD0.self (sz := s.heap.size)
  refine gx_Q (fun Q9 hQ9 => ?_)
  generalize hAe : va_A [(o0, .inr (5, [.ref op, .ref og, .ref oy, .ref ob, .ref os, .ref ot, .ref ou])), (op, .inr (1, [.int pw, .int ph, .ref opa])), (opa, .inl (cI, pn, .inl pf)), (og, .inr (1, [.int gw, .int gh, .ref oga])), (oga, .inl (cI, gn, .inl gf)), (oy, .inr (2, [.ref op, .int yk])), (ob, .inr (0, [.ref oba, .int bl])), (oba, .inl (cI, 256, .inl bf)), (os, .inr (3, [.ref op, .ref og, .ref osa, .ref osb, .int sd])), (osa, .inl (cI, kn, .inl kf)), (osb, .inl (cI, sn, .inl sf)), (ot, .inr (4, [.ref ota, .int tw, .int th])), (ota, .inl (cI, 64, .inl tf)), (ou, .inr (4, [.ref oua, .int uw, .int uh])), (oua, .inl (cI, 64, .inl uf))] s.heap.size = A at hD hQ9 ⊢
  have hA : ∀ q : Nat, s.heap.size ≤ q → A q := fun q h => by rw [← hAe]; exact Or.inr h
  have hS : va_S A s.heap s.heap [] := va_S.rf
  have hl := lv_entry ([.ref o0, .int a1, .int a2, .int a3]) (n := 4) (Nat.le_of_ble_eq_true rfl)
  have he9 : entryFrame m args 4 = F0 m 0 ((lg_sl [.ref o0, .int a1, .int a2, .int a3] ++ List.replicate (4 - (lg_sl ([.ref o0, .int a1, .int a2, .int a3] : List Value)).length) Slot.unset).toArray) [] := by rw [ha9]; exact lg_entry_eq m [.ref o0, .int a1, .int a2, .int a3] 4
  rw [he9]
  generalize (lg_sl ([.ref o0, .int a1, .int a2, .int a3] : List Value) ++ List.replicate (4 - (lg_sl ([.ref o0, .int a1, .int a2, .int a3] : List Value)).length) Slot.unset).toArray = ls at hl ⊢
  have hl : lv_has ls 4 [(0, .ref o0), (1, .int a1), (2, .int a2), (3, .int a3)] := hl
  refine lv_aload_n hx hb dZQ_put_0 rfl (lv_at hl 0 rfl) ?_
  refine va_get (D := (dC, dI)) (ci := 5) (v := .ref op) (C := RZQ) (T := TZQ) (N := 7) hx hb hts inZQ hown hK hP 0 rfl rfl 0 (by decide) (hts _ mm_136) (fun _ h9 => h9) rfl dZQ_put_1 ?_
  refine lv_iload_n hx hb dZQ_put_4 rfl (lv_at hl 1 rfl) ?_
  refine lv_iload_n hx hb dZQ_put_5 rfl (lv_at hl 2 rfl) ?_
  refine lv_iload_n hx hb dZQ_put_6 rfl (lv_at hl 3 rfl) ?_
  have hPc := hP.sub (ws' := [(op, .inr (1, [.int pw, .int ph, .ref opa])), (opa, .inl (cI, pn, .inl pf))]) [1, 2] rfl
  have hDc := hD.sub (ws' := [(op, .inr (1, [.int pw, .int ph, .ref opa])), (opa, .inl (cI, pn, .inl pf))]) [1, 2] (by decide) rfl
  have hFc := va_free (wc := [(op, .inr (1, [.int pw, .int ph, .ref opa])), (opa, .inl (cI, pn, .inl pf))]) hD hS hA [1, 2] rfl
  refine va_calli (va_runS (As := [.ref op, .int a1, .int a2, .int a3]) (rest := []) ⟨hx, hb, hml, hown, hts⟩ (kt_ZQ_replaceSample l dC dI cI op opa _ pw ph pn pf a1 a2 a3 _ hw) (va_cwS 4 hts (tb_S mm_233 mm_234 mm_1 mm_235) rfl rfl rfl (by decide +kernel) ⟨Nat.le_of_ble_eq_true rfl, Nat.le_of_ble_eq_true rfl⟩) ⟨gw_blind, fun U hU hW => gw_pre hPc hDc hK hE hU hW⟩ rfl rfl hl.1 rfl (lv_room (Nat.le_of_ble_eq_true rfl)) dZQ_put_7 ⟨Nat.le_of_ble_eq_true rfl, Nat.le_of_ble_eq_true rfl⟩) hS (fun q _ h => hFc q h) hFc (fun r_2 pf_1 t H1 locs ht hvm hw hB hz1 hk1 hS => ?_)
  obtain ⟨hP1, hK1, hD1⟩ := hB
  rw [ht] at hP1
  try dsimp only at hw
  obtain ⟨hP, hD⟩ := va_join (wr := [(o0, .inr (5, [.ref op, .ref og, .ref oy, .ref ob, .ref os, .ref ot, .ref ou])), (og, .inr (1, [.int gw, .int gh, .ref oga])), (oga, .inl (cI, gn, .inl gf)), (oy, .inr (2, [.ref op, .int yk])), (ob, .inr (0, [.ref oba, .int bl])), (oba, .inl (cI, 256, .inl bf)), (os, .inr (3, [.ref op, .ref og, .ref osa, .ref osb, .int sd])), (osa, .inl (cI, kn, .inl kf)), (osb, .inl (cI, sn, .inl sf)), (ot, .inr (4, [.ref ota, .int tw, .int th])), (ota, .inl (cI, 64, .inl tf)), (ou, .inr (4, [.ref oua, .int uw, .int uh])), (oua, .inl (cI, 64, .inl uf))]) (w1 := [(op, .inr (1, [.int pw, .int ph, .ref opa])), (opa, .inl (cI, pn, .inl pf_1))]) hP hD [1, 2] [0, 3, 4, 5, 6, 7, 8, 9, 10, 11, 12, 13, 14] rfl rfl (by decide) (by decide) hk1 hFc hP1 hD1
  generalize H1 = H at hP hS ⊢
  have hP : va_P (dC, dI) vwCl [(o0, .inr (5, [.ref op, .ref og, .ref oy, .ref ob, .ref os, .ref ot, .ref ou])), (og, .inr (1, [.int gw, .int gh, .ref oga])), (oga, .inl (cI, gn, .inl gf)), (oy, .inr (2, [.ref op, .int yk])), (ob, .inr (0, [.ref oba, .int bl])), (oba, .inl (cI, 256, .inl bf)), (os, .inr (3, [.ref op, .ref og, .ref osa, .ref osb, .int sd])), (osa, .inl (cI, kn, .inl kf)), (osb, .inl (cI, sn, .inl sf)), (ot, .inr (4, [.ref ota, .int tw, .int th])), (ota, .inl (cI, 64, .inl tf)), (ou, .inr (4, [.ref oua, .int uw, .int uh])), (oua, .inl (cI, 64, .inl uf)), (op, .inr (1, [.int pw, .int ph, .ref opa])), (opa, .inl (cI, pn, .inl pf_1))] H := hP
  have hD : va_D A [(o0, .inr (5, [.ref op, .ref og, .ref oy, .ref ob, .ref os, .ref ot, .ref ou])), (og, .inr (1, [.int gw, .int gh, .ref oga])), (oga, .inl (cI, gn, .inl gf)), (oy, .inr (2, [.ref op, .int yk])), (ob, .inr (0, [.ref oba, .int bl])), (oba, .inl (cI, 256, .inl bf)), (os, .inr (3, [.ref op, .ref og, .ref osa, .ref osb, .int sd])), (osa, .inl (cI, kn, .inl kf)), (osb, .inl (cI, sn, .inl sf)), (ot, .inr (4, [.ref ota, .int tw, .int th])), (ota, .inl (cI, 64, .inl tf)), (ou, .inr (4, [.ref oua, .int uw, .int uh])), (oua, .inl (cI, 64, .inl uf)), (op, .inr (1, [.int pw, .int ph, .ref opa])), (opa, .inl (cI, pn, .inl pf_1))] := hD
  have hP9 := hP.sub (ws' := [(o0, .inr (5, [.ref op, .ref og, .ref oy, .ref ob, .ref os, .ref ot, .ref ou])), (op, .inr (1, [.int pw, .int ph, .ref opa])), (opa, .inl (cI, pn, .inl pf_1)), (og, .inr (1, [.int gw, .int gh, .ref oga])), (oga, .inl (cI, gn, .inl gf)), (oy, .inr (2, [.ref op, .int yk])), (ob, .inr (0, [.ref oba, .int bl])), (oba, .inl (cI, 256, .inl bf)), (os, .inr (3, [.ref op, .ref og, .ref osa, .ref osb, .int sd])), (osa, .inl (cI, kn, .inl kf)), (osb, .inl (cI, sn, .inl sf)), (ot, .inr (4, [.ref ota, .int tw, .int th])), (ota, .inl (cI, 64, .inl tf)), (ou, .inr (4, [.ref oua, .int uw, .int uh])), (oua, .inl (cI, 64, .inl uf))]) [0, 13, 14, 1, 2, 3, 4, 5, 6, 7, 8, 9, 10, 11, 12] rfl
  have hD9 := hD.sub (ws' := [(o0, .inr (5, [.ref op, .ref og, .ref oy, .ref ob, .ref os, .ref ot, .ref ou])), (op, .inr (1, [.int pw, .int ph, .ref opa])), (opa, .inl (cI, pn, .inl pf_1)), (og, .inr (1, [.int gw, .int gh, .ref oga])), (oga, .inl (cI, gn, .inl gf)), (oy, .inr (2, [.ref op, .int yk])), (ob, .inr (0, [.ref oba, .int bl])), (oba, .inl (cI, 256, .inl bf)), (os, .inr (3, [.ref op, .ref og, .ref osa, .ref osb, .int sd])), (osa, .inl (cI, kn, .inl kf)), (osb, .inl (cI, sn, .inl sf)), (ot, .inr (4, [.ref ota, .int tw, .int th])), (ota, .inl (cI, 64, .inl tf)), (ou, .inr (4, [.ref oua, .int uw, .int uh])), (oua, .inl (cI, 64, .inl uf))]) [0, 13, 14, 1, 2, 3, 4, 5, 6, 7, 8, 9, 10, 11, 12] (by decide) rfl
  subst hQ9
  exact W.iret (v := r_2) hx hb hr (fun t ht hW => ⟨⟨r_2, pf_1, rfl, hw, by rw [ht]; exact hP9, va_K.moved hW.alike hK, hD9⟩, hS.F ht⟩) hS.2.2 dZQ_put_10
def xp_ZQ_put_I (pw : Int32) (ph : Int32) (pn : Nat) (pf : Nat → Int32) (gw : Int32) (gh : Int32) (gn : Nat) (gf : Nat → Int32) (yk : Int32) (bl : Int32) (bf : Nat → Int32) (kn : Nat) (kf : Nat → Int32) (sn : Nat) (sf : Nat → Int32) (sd : Int32) (tw : Int32) (th : Int32) (tf : Nat → Int32) (uw : Int32) (uh : Int32) (uf : Nat → Int32) (a1 : Int32) (a2 : Int32) (a3 : Int32) : Prop := xp_ZQ_replaceSample_I pw ph pn pf a1 a2 a3
abbrev rm_ZQ_put_I : Room := { frames := 8, cells := 1, slots := 6, locals := 135 }
set_option maxHeartbeats 4000000 in
set_option maxRecDepth 100000 in
theorem kx_ZQ_put_I (l : Launch) (hl9 : l.stackTraces = false) (dC : Nat → ClassId) (dI : Nat → Nat → Nat) (cI : ClassId) (o0 op opa og oga oy ob oba os osa osb ot ota ou oua : Nat) (H0 : Heap) (pw : Int32) (ph : Int32) (pn : Nat) (pf : Nat → Int32) (gw : Int32) (gh : Int32) (gn : Nat) (gf : Nat → Int32) (yk : Int32) (bl : Int32) (bf : Nat → Int32) (kn : Nat) (kf : Nat → Int32) (sn : Nat) (sf : Nat → Int32) (sd : Int32) (tw : Int32) (th : Int32) (tf : Nat → Int32) (uw : Int32) (uh : Int32) (uf : Nat → Int32) (a1 : Int32) (a2 : Int32) (a3 : Int32) (hw : xp_ZQ_put_I pw ph pn pf gw gh gn gf yk bl bf kn kf sn sf sd tw th tf uw uh uf a1 a2 a3) : tx_Met l yZQ_put wsZQ_put rm_ZQ_put_I (tr_Pc H0 dC dI [(cI, .int)] [.ref o0, .int a1, .int a2, .int a3] [(o0, .inr (5, [.ref op, .ref og, .ref oy, .ref ob, .ref os, .ref ot, .ref ou])), (op, .inr (1, [.int pw, .int ph, .ref opa])), (opa, .inl (cI, pn, .inl pf)), (og, .inr (1, [.int gw, .int gh, .ref oga])), (oga, .inl (cI, gn, .inl gf)), (oy, .inr (2, [.ref op, .int yk])), (ob, .inr (0, [.ref oba, .int bl])), (oba, .inl (cI, 256, .inl bf)), (os, .inr (3, [.ref op, .ref og, .ref osa, .ref osb, .int sd])), (osa, .inl (cI, kn, .inl kf)), (osb, .inl (cI, sn, .inl sf)), (ot, .inr (4, [.ref ota, .int tw, .int th])), (ota, .inl (cI, 64, .inl tf)), (ou, .inr (4, [.ref oua, .int uw, .int uh])), (oua, .inl (cI, 64, .inl uf))]) "java/lang/IndexOutOfBoundsException" := by
  refine tx_ofW (cc := cZQ_put) (maxL := 4) (ret := (some .int)) (by decide) rfl ?_
  intro p e s m args below meth c s₁ B hml hnX hv
  obtain ⟨ha9, hP, hK, hE, hT⟩ := hv
  have hx := B.exec
  have hb := B.bytes
  have hr := B.returns
  have hts0 := atoms_spec (ws := wsZQ_put) B.pre
  have hts : ∀ w ∈ tbg, w.before args s = true := fun w h => hts0 w (List.mem_cons_of_mem _ h)
  have hown : s.vm.findClass RZQ = some m.cls := findClass_of_methodNamed B.named
  have hlocks := B.notSynchronized
  refine gx_Q (fun Q9 hQ9 => ?_)
  have hl := lv_entry ([.ref o0, .int a1, .int a2, .int a3]) (n := 4) (Nat.le_of_ble_eq_true rfl)
  have he9 : entryFrame m args 4 = F0 m 0 ((lg_sl [.ref o0, .int a1, .int a2, .int a3] ++ List.replicate (4 - (lg_sl ([.ref o0, .int a1, .int a2, .int a3] : List Value)).length) Slot.unset).toArray) [] := by rw [ha9]; exact lg_entry_eq m [.ref o0, .int a1, .int a2, .int a3] 4
  rw [he9]
  generalize (lg_sl ([.ref o0, .int a1, .int a2, .int a3] : List Value) ++ List.replicate (4 - (lg_sl ([.ref o0, .int a1, .int a2, .int a3] : List Value)).length) Slot.unset).toArray = ls at hl ⊢
  have hl : lv_has ls 4 [(0, .ref o0), (1, .int a1), (2, .int a2), (3, .int a3)] := hl
  refine lv_aload_n hx hb dZQ_put_0 rfl (lv_at hl 0 rfl) ?_
  refine va_get (D := (dC, dI)) (ci := 5) (v := .ref op) (C := RZQ) (T := TZQ) (N := 7) hx hb hts inZQ hown hK hP 0 rfl rfl 0 (by decide) (hts _ mm_136) (fun _ h9 => h9) rfl dZQ_put_1 ?_
  refine lv_iload_n hx hb dZQ_put_4 rfl (lv_at hl 1 rfl) ?_
  refine lv_iload_n hx hb dZQ_put_5 rfl (lv_at hl 2 rfl) ?_
  refine lv_iload_n hx hb dZQ_put_6 rfl (lv_at hl 3 rfl) ?_
  subst hQ9
  have hPx := hP.sub (ws' := [(op, .inr (1, [.int pw, .int ph, .ref opa])), (opa, .inl (cI, pn, .inl pf))]) [1, 2] rfl
  exact tx_callS (As := [.ref op, .int a1, .int a2, .int a3]) (rest := []) ⟨hx, hb, hml, hown, hts⟩ (kx_ZQ_replaceSample_I l hl9 dC dI cI op opa H0 pw ph pn pf a1 a2 a3 hw) (va_cwS 4 hts (tb_S mm_233 mm_234 mm_1 mm_235) rfl rfl rfl (by decide +kernel) ⟨Nat.le_of_ble_eq_true rfl, Nat.le_of_ble_eq_true rfl⟩) ⟨tr_blind, fun U hU hW => tr_pre hPx hK hE hT hT.1 hU hW⟩ rfl hl.1 rfl (Nat.le_of_ble_eq_true rfl) dZQ_put_7 hnX hlocks ⟨Nat.le_of_ble_eq_true rfl, Nat.le_of_ble_eq_true rfl⟩
def xp_ZQ_put_A (pw : Int32) (ph : Int32) (pn : Nat) (pf : Nat → Int32) (gw : Int32) (gh : Int32) (gn : Nat) (gf : Nat → Int32) (yk : Int32) (bl : Int32) (bf : Nat → Int32) (kn : Nat) (kf : Nat → Int32) (sn : Nat) (sf : Nat → Int32) (sd : Int32) (tw : Int32) (th : Int32) (tf : Nat → Int32) (uw : Int32) (uh : Int32) (uf : Nat → Int32) (a1 : Int32) (a2 : Int32) (a3 : Int32) : Prop := xp_ZQ_replaceSample_A pw ph pn pf a1 a2 a3
abbrev rm_ZQ_put_A : Room := { frames := 8, cells := 1, slots := 6, locals := 135 }
set_option maxHeartbeats 4000000 in
set_option maxRecDepth 100000 in
theorem kx_ZQ_put_A (l : Launch) (hl9 : l.stackTraces = false) (dC : Nat → ClassId) (dI : Nat → Nat → Nat) (cI : ClassId) (o0 op opa og oga oy ob oba os osa osb ot ota ou oua : Nat) (H0 : Heap) (pw : Int32) (ph : Int32) (pn : Nat) (pf : Nat → Int32) (gw : Int32) (gh : Int32) (gn : Nat) (gf : Nat → Int32) (yk : Int32) (bl : Int32) (bf : Nat → Int32) (kn : Nat) (kf : Nat → Int32) (sn : Nat) (sf : Nat → Int32) (sd : Int32) (tw : Int32) (th : Int32) (tf : Nat → Int32) (uw : Int32) (uh : Int32) (uf : Nat → Int32) (a1 : Int32) (a2 : Int32) (a3 : Int32) (hw : xp_ZQ_put_A pw ph pn pf gw gh gn gf yk bl bf kn kf sn sf sd tw th tf uw uh uf a1 a2 a3) : tx_Met l yZQ_put wsZQ_put rm_ZQ_put_A (tr_Pc H0 dC dI [(cI, .int)] [.ref o0, .int a1, .int a2, .int a3] [(o0, .inr (5, [.ref op, .ref og, .ref oy, .ref ob, .ref os, .ref ot, .ref ou])), (op, .inr (1, [.int pw, .int ph, .ref opa])), (opa, .inl (cI, pn, .inl pf)), (og, .inr (1, [.int gw, .int gh, .ref oga])), (oga, .inl (cI, gn, .inl gf)), (oy, .inr (2, [.ref op, .int yk])), (ob, .inr (0, [.ref oba, .int bl])), (oba, .inl (cI, 256, .inl bf)), (os, .inr (3, [.ref op, .ref og, .ref osa, .ref osb, .int sd])), (osa, .inl (cI, kn, .inl kf)), (osb, .inl (cI, sn, .inl sf)), (ot, .inr (4, [.ref ota, .int tw, .int th])), (ota, .inl (cI, 64, .inl tf)), (ou, .inr (4, [.ref oua, .int uw, .int uh])), (oua, .inl (cI, 64, .inl uf))]) "java/lang/IllegalArgumentException" := by
  refine tx_ofW (cc := cZQ_put) (maxL := 4) (ret := (some .int)) (by decide) rfl ?_
  intro p e s m args below meth c s₁ B hml hnX hv
  obtain ⟨ha9, hP, hK, hE, hT⟩ := hv
  have hx := B.exec
  have hb := B.bytes
  have hr := B.returns
  have hts0 := atoms_spec (ws := wsZQ_put) B.pre
  have hts : ∀ w ∈ tbg, w.before args s = true := fun w h => hts0 w (List.mem_cons_of_mem _ h)
  have hown : s.vm.findClass RZQ = some m.cls := findClass_of_methodNamed B.named
  have hlocks := B.notSynchronized
  refine gx_Q (fun Q9 hQ9 => ?_)
  have hl := lv_entry ([.ref o0, .int a1, .int a2, .int a3]) (n := 4) (Nat.le_of_ble_eq_true rfl)
  have he9 : entryFrame m args 4 = F0 m 0 ((lg_sl [.ref o0, .int a1, .int a2, .int a3] ++ List.replicate (4 - (lg_sl ([.ref o0, .int a1, .int a2, .int a3] : List Value)).length) Slot.unset).toArray) [] := by rw [ha9]; exact lg_entry_eq m [.ref o0, .int a1, .int a2, .int a3] 4
  rw [he9]
  generalize (lg_sl ([.ref o0, .int a1, .int a2, .int a3] : List Value) ++ List.replicate (4 - (lg_sl ([.ref o0, .int a1, .int a2, .int a3] : List Value)).length) Slot.unset).toArray = ls at hl ⊢
  have hl : lv_has ls 4 [(0, .ref o0), (1, .int a1), (2, .int a2), (3, .int a3)] := hl
  refine lv_aload_n hx hb dZQ_put_0 rfl (lv_at hl 0 rfl) ?_
  refine va_get (D := (dC, dI)) (ci := 5) (v := .ref op) (C := RZQ) (T := TZQ) (N := 7) hx hb hts inZQ hown hK hP 0 rfl rfl 0 (by decide) (hts _ mm_136) (fun _ h9 => h9) rfl dZQ_put_1 ?_
  refine lv_iload_n hx hb dZQ_put_4 rfl (lv_at hl 1 rfl) ?_
  refine lv_iload_n hx hb dZQ_put_5 rfl (lv_at hl 2 rfl) ?_
  refine lv_iload_n hx hb dZQ_put_6 rfl (lv_at hl 3 rfl) ?_
  subst hQ9
  have hPx := hP.sub (ws' := [(op, .inr (1, [.int pw, .int ph, .ref opa])), (opa, .inl (cI, pn, .inl pf))]) [1, 2] rfl
  exact tx_callS (As := [.ref op, .int a1, .int a2, .int a3]) (rest := []) ⟨hx, hb, hml, hown, hts⟩ (kx_ZQ_replaceSample_A l hl9 dC dI cI op opa H0 pw ph pn pf a1 a2 a3 hw) (va_cwS 4 hts (tb_S mm_233 mm_234 mm_1 mm_235) rfl rfl rfl (by decide +kernel) ⟨Nat.le_of_ble_eq_true rfl, Nat.le_of_ble_eq_true rfl⟩) ⟨tr_blind, fun U hU hW => tr_pre hPx hK hE hT hT.1 hU hW⟩ rfl hl.1 rfl (Nat.le_of_ble_eq_true rfl) dZQ_put_7 hnX hlocks ⟨Nat.le_of_ble_eq_true rfl, Nat.le_of_ble_eq_true rfl⟩
theorem dZQ_change_0 : decode cZQ_change 0 = .ok (.aload_n 0, 1) := by decide +kernel
theorem dZQ_change_1 : decode cZQ_change 1 = .ok (.getfield 35, 3) := by decide +kernel
theorem dZQ_change_4 : decode cZQ_change 4 = .ok (.iconst 0, 1) := by decide +kernel
theorem dZQ_change_5 : decode cZQ_change 5 = .ok (.iload_n 1, 1) := by decide +kernel
theorem dZQ_change_6 : decode cZQ_change 6 = .ok (.iload_n 2, 1) := by decide +kernel
theorem dZQ_change_7 : decode cZQ_change 7 = .ok (.iload_n 3, 1) := by decide +kernel
theorem dZQ_change_8 : decode cZQ_change 8 = .ok (.iload 4, 2) := by decide +kernel
theorem dZQ_change_10 : decode cZQ_change 10 = .ok (.invokevirtual 69, 3) := by decide +kernel
theorem dZQ_change_13 : decode cZQ_change 13 = .ok (.invokestatic 73, 3) := by decide +kernel
theorem dZQ_change_16 : decode cZQ_change 16 = .ok (.iload 5, 2) := by decide +kernel
theorem dZQ_change_18 : decode cZQ_change 18 = .ok (.invokestatic 77, 3) := by decide +kernel
theorem dZQ_change_21 : decode cZQ_change 21 = .ok (.aload_n 0, 1) := by decide +kernel
theorem dZQ_change_22 : decode cZQ_change 22 = .ok (.getfield 23, 3) := by decide +kernel
theorem dZQ_change_25 : decode cZQ_change 25 = .ok (.iload_n 1, 1) := by decide +kernel
theorem dZQ_change_26 : decode cZQ_change 26 = .ok (.iload_n 2, 1) := by decide +kernel
theorem dZQ_change_27 : decode cZQ_change 27 = .ok (.iload_n 3, 1) := by decide +kernel
theorem dZQ_change_28 : decode cZQ_change 28 = .ok (.iload 4, 2) := by decide +kernel
theorem dZQ_change_30 : decode cZQ_change 30 = .ok (.iload 5, 2) := by decide +kernel
theorem dZQ_change_32 : decode cZQ_change 32 = .ok (.invokevirtual 81, 3) := by decide +kernel
theorem dZQ_change_35 : decode cZQ_change 35 = .ok (.aload_n 0, 1) := by decide +kernel
theorem dZQ_change_36 : decode cZQ_change 36 = .ok (.getfield 35, 3) := by decide +kernel
theorem dZQ_change_39 : decode cZQ_change 39 = .ok (.iload_n 1, 1) := by decide +kernel
theorem dZQ_change_40 : decode cZQ_change 40 = .ok (.iload_n 2, 1) := by decide +kernel
theorem dZQ_change_41 : decode cZQ_change 41 = .ok (.iload_n 3, 1) := by decide +kernel
theorem dZQ_change_42 : decode cZQ_change 42 = .ok (.iload 4, 2) := by decide +kernel
theorem dZQ_change_44 : decode cZQ_change 44 = .ok (.invokevirtual 85, 3) := by decide +kernel
theorem dZQ_change_47 : decode cZQ_change 47 = .ok (.ireturn, 1) := by decide +kernel
abbrev wsZQ_change : List Cond := .code yZQ_change cZQ_change 6 (some .int) :: tbg
def wp_ZQ_change (pw : Int32) (ph : Int32) (pn : Nat) (pf : Nat → Int32) (gw : Int32) (gh : Int32) (gn : Nat) (gf : Nat → Int32) (yk : Int32) (bl : Int32) (bf : Nat → Int32) (kn : Nat) (kf : Nat → Int32) (sn : Nat) (sf : Nat → Int32) (sd : Int32) (tw : Int32) (th : Int32) (tf : Nat → Int32) (uw : Int32) (uh : Int32) (uf : Nat → Int32) (a1 : Int32) (a2 : Int32) (a3 : Int32) (a4 : Int32) (a5 : Int32) (post : Int32 → (Nat → Int32) → Prop) : Prop := wp_ZY_hasPart yk pw ph pn pf (0 : Int32) a1 a2 a3 a4 (fun r_1 : Int32 => wp_ZQ_requirePlace r_1 (wp_ZQ_requireSample a5 (wp_ZP_fillPart pw ph pn pf a1 a2 a3 a4 a5 (fun (pf_4 : Nat → Int32) => wp_ZY_tilesOver yk pw ph pn pf_4 a1 a2 a3 a4 (fun r_5 : Int32 => post r_5 pf_4)))))
abbrev rm_ZQ_change : Room := { frames := 4, cells := 0, slots := 0, locals := 90 }
set_option maxHeartbeats 4000000 in
set_option maxRecDepth 100000 in
theorem kt_ZQ_change (l : Launch) (dC : Nat → ClassId) (dI : Nat → Nat → Nat) (cI : ClassId) (o0 op opa og oga oy ob oba os osa osb ot ota ou oua : Nat) (sz : Nat) (pw : Int32) (ph : Int32) (pn : Nat) (pf : Nat → Int32) (gw : Int32) (gh : Int32) (gn : Nat) (gf : Nat → Int32) (yk : Int32) (bl : Int32) (bf : Nat → Int32) (kn : Nat) (kf : Nat → Int32) (sn : Nat) (sf : Nat → Int32) (sd : Int32) (tw : Int32) (th : Int32) (tf : Nat → Int32) (uw : Int32) (uh : Int32) (uf : Nat → Int32) (a1 : Int32) (a2 : Int32) (a3 : Int32) (a4 : Int32) (a5 : Int32) (post : Int32 → (Nat → Int32) → Prop) (hw : wp_ZQ_change pw ph pn pf gw gh gn gf yk bl bf kn kf sn sf sd tw th tf uw uh uf a1 a2 a3 a4 a5 post) : Met l yZQ_change wsZQ_change rm_ZQ_change (gw_Pc dC dI [(cI, .int)] [.ref o0, .int a1, .int a2, .int a3, .int a4, .int a5] [(o0, .inr (5, [.ref op, .ref og, .ref oy, .ref ob, .ref os, .ref ot, .ref ou])), (op, .inr (1, [.int pw, .int ph, .ref opa])), (opa, .inl (cI, pn, .inl pf)), (og, .inr (1, [.int gw, .int gh, .ref oga])), (oga, .inl (cI, gn, .inl gf)), (oy, .inr (2, [.ref op, .int yk])), (ob, .inr (0, [.ref oba, .int bl])), (oba, .inl (cI, 256, .inl bf)), (os, .inr (3, [.ref op, .ref og, .ref osa, .ref osb, .int sd])), (osa, .inl (cI, kn, .inl kf)), (osb, .inl (cI, sn, .inl sf)), (ot, .inr (4, [.ref ota, .int tw, .int th])), (ota, .inl (cI, 64, .inl tf)), (ou, .inr (4, [.ref oua, .int uw, .int uh])), (oua, .inl (cI, 64, .inl uf))] sz) (va_Qi (fun (r : Int32) (u : (Nat → Int32)) => post r u) (fun u t => gw_B dC dI [(cI, .int)] (va_A [(o0, .inr (5, [.ref op, .ref og, .ref oy, .ref ob, .ref os, .ref ot, .ref ou])), (op, .inr (1, [.int pw, .int ph, .ref opa])), (opa, .inl (cI, pn, .inl pf)), (og, .inr (1, [.int gw, .int gh, .ref oga])), (oga, .inl (cI, gn, .inl gf)), (oy, .inr (2, [.ref op, .int yk])), (ob, .inr (0, [.ref oba, .int bl])), (oba, .inl (cI, 256, .inl bf)), (os, .inr (3, [.ref op, .ref og, .ref osa, .ref osb, .int sd])), (osa, .inl (cI, kn, .inl kf)), (osb, .inl (cI, sn, .inl sf)), (ot, .inr (4, [.ref ota, .int tw, .int th])), (ota, .inl (cI, 64, .inl tf)), (ou, .inr (4, [.ref oua, .int uw, .int uh])), (oua, .inl (cI, 64, .inl uf))] sz) [(o0, .inr (5, [.ref op, .ref og, .ref oy, .ref ob, .ref os, .ref ot, .ref ou])), (op, .inr (1, [.int pw, .int ph, .ref opa])), (opa, .inl (cI, pn, .inl u)), (og, .inr (1, [.int gw, .int gh, .ref oga])), (oga, .inl (cI, gn, .inl gf)), (oy, .inr (2, [.ref op, .int yk])), (ob, .inr (0, [.ref oba, .int bl])), (oba, .inl (cI, 256, .inl bf)), (os, .inr (3, [.ref op, .ref og, .ref osa, .ref osb, .int sd])), (osa, .inl (cI, kn, .inl kf)), (osb, .inl (cI, sn, .inl sf)), (ot, .inr (4, [.ref ota, .int tw, .int th])), (ota, .inl (cI, 64, .inl tf)), (ou, .inr (4, [.ref oua, .int uw, .int uh])), (oua, .inl (cI, 64, .inl uf))] t) (va_A [(o0, .inr (5, [.ref op, .ref og, .ref oy, .ref ob, .ref os, .ref ot, .ref ou])), (op, .inr (1, [.int pw, .int ph, .ref opa])), (opa, .inl (cI, pn, .inl pf)), (og, .inr (1, [.int gw, .int gh, .ref oga])), (oga, .inl (cI, gn, .inl gf)), (oy, .inr (2, [.ref op, .int yk])), (ob, .inr (0, [.ref oba, .int bl])), (oba, .inl (cI, 256, .inl bf)), (os, .inr (3, [.ref op, .ref og, .ref osa, .ref osb, .int sd])), (osa, .inl (cI, kn, .inl kf)), (osb, .inl (cI, sn, .inl sf)), (ot, .inr (4, [.ref ota, .int tw, .int th])), (ota, .inl (cI, 64, .inl tf)), (ou, .inr (4, [.ref oua, .int uw, .int uh])), (oua, .inl (cI, 64, .inl uf))] sz)) 0 0 (va_A [(o0, .inr (5, [.ref op, .ref og, .ref oy, .ref ob, .ref os, .ref ot, .ref ou])), (op, .inr (1, [.int pw, .int ph, .ref opa])), (opa, .inl (cI, pn, .inl pf)), (og, .inr (1, [.int gw, .int gh, .ref oga])), (oga, .inl (cI, gn, .inl gf)), (oy, .inr (2, [.ref op, .int yk])), (ob, .inr (0, [.ref oba, .int bl])), (oba, .inl (cI, 256, .inl bf)), (os, .inr (3, [.ref op, .ref og, .ref osa, .ref osb, .int sd])), (osa, .inl (cI, kn, .inl kf)), (osb, .inl (cI, sn, .inl sf)), (ot, .inr (4, [.ref ota, .int tw, .int th])), (ota, .inl (cI, 64, .inl tf)), (ou, .inr (4, [.ref oua, .int uw, .int uh])), (oua, .inl (cI, 64, .inl uf))] sz) := by
  refine Met.ofW (cc := cZQ_change) (maxL := 6) (ret := (some .int)) (by decide) rfl ?_
  intro p e s m args below meth c s₁ B hml hv
  obtain ⟨ha9, hsz, hP, hK, hE, hD0⟩ := hv
  have hx := B.exec
  have hb := B.bytes
  have hr := B.returns
  have hts0 := atoms_spec (ws := wsZQ_change) B.pre
  have hts : ∀ w ∈ tbg, w.before args s = true := fun w h => hts0 w (List.mem_cons_of_mem _ h)
  have hown : s.vm.findClass RZQ = some m.cls := findClass_of_methodNamed B.named
  have hlocks := B.notSynchronized
  subst hsz
  have hD := hD0.self (sz := s.heap.size)
  refine gx_Q (fun Q9 hQ9 => ?_)
  generalize hAe : va_A [(o0, .inr (5, [.ref op, .ref og, .ref oy, .ref ob, .ref os, .ref ot, .ref ou])), (op, .inr (1, [.int pw, .int ph, .ref opa])), (opa, .inl (cI, pn, .inl pf)), (og, .inr (1, [.int gw, .int gh, .ref oga])), (oga, .inl (cI, gn, .inl gf)), (oy, .inr (2, [.ref op, .int yk])), (ob, .inr (0, [.ref oba, .int bl])), (oba, .inl (cI, 256, .inl bf)), (os, .inr (3, [.ref op, .ref og, .ref osa, .ref osb, .int sd])), (osa, .inl (cI, kn, .inl kf)), (osb, .inl (cI, sn, .inl sf)), (ot, .inr (4, [.ref ota, .int tw, .int th])), (ota, .inl (cI, 64, .inl tf)), (ou, .inr (4, [.ref oua, .int uw, .int uh])), (oua, .inl (cI, 64, .inl uf))] s.heap.size = A at hD hQ9 ⊢
  have hA : ∀ q : Nat, s.heap.size ≤ q → A q := fun q h => by rw [← hAe]; exact Or.inr h
  have hS : va_S A s.heap s.heap [] := va_S.rf
  have hl := lv_entry ([.ref o0, .int a1, .int a2, .int a3, .int a4, .int a5]) (n := 6) (Nat.le_of_ble_eq_true rfl)
  have he9 : entryFrame m args 6 = F0 m 0 ((lg_sl [.ref o0, .int a1, .int a2, .int a3, .int a4, .int a5] ++ List.replicate (6 - (lg_sl ([.ref o0, .int a1, .int a2, .int a3, .int a4, .int a5] : List Value)).length) Slot.unset).toArray) [] := by rw [ha9]; exact lg_entry_eq m [.ref o0, .int a1, .int a2, .int a3, .int a4, .int a5] 6
  rw [he9]
  generalize (lg_sl ([.ref o0, .int a1, .int a2, .int a3, .int a4, .int a5] : List Value) ++ List.replicate (6 - (lg_sl ([.ref o0, .int a1, .int a2, .int a3, .int a4, .int a5] : List Value)).length) Slot.unset).toArray = ls at hl ⊢
  have hl : lv_has ls 6 [(0, .ref o0), (1, .int a1), (2, .int a2), (3, .int a3), (4, .int a4), (5, .int a5)] := hl
  refine lv_aload_n hx hb dZQ_change_0 rfl (lv_at hl 0 rfl) ?_
  refine va_get (D := (dC, dI)) (ci := 5) (v := .ref oy) (C := RZQ) (T := TZQ) (N := 7) hx hb hts inZQ hown hK hP 0 rfl rfl 2 (by decide) (hts _ mm_138) (fun _ h9 => h9) rfl dZQ_change_1 ?_
  refine lv_iconst (v := (0 : Int32)) hx hb dZQ_change_4 (by decide) ?_
  refine lv_iload_n hx hb dZQ_change_5 rfl (lv_at hl 1 rfl) ?_
  refine lv_iload_n hx hb dZQ_change_6 rfl (lv_at hl 2 rfl) ?_
  refine lv_iload_n hx hb dZQ_change_7 rfl (lv_at hl 3 rfl) ?_
  refine lv_iload hx hb dZQ_change_8 (lv_at hl 4 rfl) ?_
  have hPc := hP.sub (ws' := [(oy, .inr (2, [.ref op, .int yk])), (op, .inr (1, [.int pw, .int ph, .ref opa])), (opa, .inl (cI, pn, .inl pf))]) [5, 1, 2] rfl
  refine vp_callSi (va_runV (As := [.int (0 : Int32), .int a1, .int a2, .int a3, .int a4]) (rest := []) ⟨hx, hb, hml, hown, hts⟩ (kt_ZY_hasPart l dC dI cI oy op opa yk pw ph pn pf (0 : Int32) a1 a2 a3 a4 _ hw) (cwV 5 hts (tb_V mm_345 mm_346 mm_347 mm_4 mm_348) rfl rfl rfl (by decide +kernel) ⟨Nat.le_of_ble_eq_true rfl, Nat.le_of_ble_eq_true rfl⟩) ⟨gr_blind, va_recv hK hPc (ci := 2) (q0 := 0) rfl rfl, fun U hU hW => gr_pre hPc hK hE hU hW⟩ rfl rfl hl.1 rfl (lv_room (Nat.le_of_ble_eq_true rfl)) dZQ_change_10 ⟨Nat.le_of_ble_eq_true rfl, Nat.le_of_ble_eq_true rfl⟩).run (fun r_1 hw => ?_)
  have hPc := hP.sub (ws' := []) [] rfl
  refine va_csv (va_runS (As := [.int r_1]) (rest := []) ⟨hx, hb, hml, hown, hts⟩ (kt_ZQ_requirePlace l dC dI cI  r_1 _ hw) (va_cwS 1 hts (tb_S mm_239 mm_240 mm_1 mm_241) rfl rfl rfl (by decide +kernel) ⟨Nat.le_of_ble_eq_true rfl, Nat.le_of_ble_eq_true rfl⟩) ⟨gr_blind, fun U hU hW => gr_pre hPc hK hE hU hW⟩ rfl rfl hl.1 rfl (lv_room (Nat.le_of_ble_eq_true rfl)) dZQ_change_13 ⟨Nat.le_of_ble_eq_true rfl, Nat.le_of_ble_eq_true rfl⟩).run (fun hw => ?_)
  refine lv_iload hx hb dZQ_change_16 (lv_at hl 5 rfl) ?_
  have hPc := hP.sub (ws' := []) [] rfl
  refine va_csv (va_runS (As := [.int a5]) (rest := []) ⟨hx, hb, hml, hown, hts⟩ (kt_ZQ_requireSample l dC dI cI  a5 _ hw) (va_cwS 1 hts (tb_S mm_310 mm_311 mm_1 mm_312) rfl rfl rfl (by decide +kernel) ⟨Nat.le_of_ble_eq_true rfl, Nat.le_of_ble_eq_true rfl⟩) ⟨gr_blind, fun U hU hW => gr_pre hPc hK hE hU hW⟩ rfl rfl hl.1 rfl (lv_room (Nat.le_of_ble_eq_true rfl)) dZQ_change_18 ⟨Nat.le_of_ble_eq_true rfl, Nat.le_of_ble_eq_true rfl⟩).run (fun hw => ?_)
  refine lv_aload_n hx hb dZQ_change_21 rfl (lv_at hl 0 rfl) ?_
  refine va_get (D := (dC, dI)) (ci := 5) (v := .ref op) (C := RZQ) (T := TZQ) (N := 7) hx hb hts inZQ hown hK hP 0 rfl rfl 0 (by decide) (hts _ mm_136) (fun _ h9 => h9) rfl dZQ_change_22 ?_
  refine lv_iload_n hx hb dZQ_change_25 rfl (lv_at hl 1 rfl) ?_
  refine lv_iload_n hx hb dZQ_change_26 rfl (lv_at hl 2 rfl) ?_
  refine lv_iload_n hx hb dZQ_change_27 rfl (lv_at hl 3 rfl) ?_
  refine lv_iload hx hb dZQ_change_28 (lv_at hl 4 rfl) ?_
  refine lv_iload hx hb dZQ_change_30 (lv_at hl 5 rfl) ?_
  have hPc := hP.sub (ws' := [(op, .inr (1, [.int pw, .int ph, .ref opa])), (opa, .inl (cI, pn, .inl pf))]) [1, 2] rfl
  have hDc := hD.sub (ws' := [(op, .inr (1, [.int pw, .int ph, .ref opa])), (opa, .inl (cI, pn, .inl pf))]) [1, 2] (by decide) rfl
  have hFc := va_free (wc := [(op, .inr (1, [.int pw, .int ph, .ref opa])), (opa, .inl (cI, pn, .inl pf))]) hD hS hA [1, 2] rfl
  refine va_callv (va_runV (As := [.int a1, .int a2, .int a3, .int a4, .int a5]) (rest := []) ⟨hx, hb, hml, hown, hts⟩ (kt_ZP_fillPart l dC dI cI op opa _ pw ph pn pf a1 a2 a3 a4 a5 _ hw) (cwV 5 hts (tb_V mm_369 mm_370 mm_371 mm_3 mm_372) rfl rfl rfl (by decide +kernel) ⟨Nat.le_of_ble_eq_true rfl, Nat.le_of_ble_eq_true rfl⟩) ⟨gw_blind, va_recv hK hPc (ci := 1) (q0 := 0) rfl rfl, fun U hU hW => gw_pre hPc hDc hK hE hU hW⟩ rfl rfl hl.1 rfl (lv_room (Nat.le_of_ble_eq_true rfl)) dZQ_change_32 ⟨Nat.le_of_ble_eq_true rfl, Nat.le_of_ble_eq_true rfl⟩) hS (fun q _ h => hFc q h) hFc (fun pf_4 t H1 locs ht hvm hw hB hz1 hk1 hS => ?_)
  obtain ⟨hP1, hK1, hD1⟩ := hB
  rw [ht] at hP1
  try dsimp only at hw
  obtain ⟨hP, hD⟩ := va_join (wr := [(o0, .inr (5, [.ref op, .ref og, .ref oy, .ref ob, .ref os, .ref ot, .ref ou])), (og, .inr (1, [.int gw, .int gh, .ref oga])), (oga, .inl (cI, gn, .inl gf)), (oy, .inr (2, [.ref op, .int yk])), (ob, .inr (0, [.ref oba, .int bl])), (oba, .inl (cI, 256, .inl bf)), (os, .inr (3, [.ref op, .ref og, .ref osa, .ref osb, .int sd])), (osa, .inl (cI, kn, .inl kf)), (osb, .inl (cI, sn, .inl sf)), (ot, .inr (4, [.ref ota, .int tw, .int th])), (ota, .inl (cI, 64, .inl tf)), (ou, .inr (4, [.ref oua, .int uw, .int uh])), (oua, .inl (cI, 64, .inl uf))]) (w1 := [(op, .inr (1, [.int pw, .int ph, .ref opa])), (opa, .inl (cI, pn, .inl pf_4))]) hP hD [1, 2] [0, 3, 4, 5, 6, 7, 8, 9, 10, 11, 12, 13, 14] rfl rfl (by decide) (by decide) hk1 hFc hP1 hD1
  generalize H1 = H at hP hS ⊢
  have hP : va_P (dC, dI) vwCl [(o0, .inr (5, [.ref op, .ref og, .ref oy, .ref ob, .ref os, .ref ot, .ref ou])), (og, .inr (1, [.int gw, .int gh, .ref oga])), (oga, .inl (cI, gn, .inl gf)), (oy, .inr (2, [.ref op, .int yk])), (ob, .inr (0, [.ref oba, .int bl])), (oba, .inl (cI, 256, .inl bf)), (os, .inr (3, [.ref op, .ref og, .ref osa, .ref osb, .int sd])), (osa, .inl (cI, kn, .inl kf)), (osb, .inl (cI, sn, .inl sf)), (ot, .inr (4, [.ref ota, .int tw, .int th])), (ota, .inl (cI, 64, .inl tf)), (ou, .inr (4, [.ref oua, .int uw, .int uh])), (oua, .inl (cI, 64, .inl uf)), (op, .inr (1, [.int pw, .int ph, .ref opa])), (opa, .inl (cI, pn, .inl pf_4))] H := hP
  have hD : va_D A [(o0, .inr (5, [.ref op, .ref og, .ref oy, .ref ob, .ref os, .ref ot, .ref ou])), (og, .inr (1, [.int gw, .int gh, .ref oga])), (oga, .inl (cI, gn, .inl gf)), (oy, .inr (2, [.ref op, .int yk])), (ob, .inr (0, [.ref oba, .int bl])), (oba, .inl (cI, 256, .inl bf)), (os, .inr (3, [.ref op, .ref og, .ref osa, .ref osb, .int sd])), (osa, .inl (cI, kn, .inl kf)), (osb, .inl (cI, sn, .inl sf)), (ot, .inr (4, [.ref ota, .int tw, .int th])), (ota, .inl (cI, 64, .inl tf)), (ou, .inr (4, [.ref oua, .int uw, .int uh])), (oua, .inl (cI, 64, .inl uf)), (op, .inr (1, [.int pw, .int ph, .ref opa])), (opa, .inl (cI, pn, .inl pf_4))] := hD
  refine lv_aload_n hx hb dZQ_change_35 rfl (lv_at hl 0 rfl) ?_
  refine va_get (D := (dC, dI)) (ci := 5) (v := .ref oy) (C := RZQ) (T := TZQ) (N := 7) hx hb hts inZQ hown hK hP 0 rfl rfl 2 (by decide) (hts _ mm_138) (fun _ h9 => h9) rfl dZQ_change_36 ?_
  refine lv_iload_n hx hb dZQ_change_39 rfl (lv_at hl 1 rfl) ?_
  refine lv_iload_n hx hb dZQ_change_40 rfl (lv_at hl 2 rfl) ?_
  refine lv_iload_n hx hb dZQ_change_41 rfl (lv_at hl 3 rfl) ?_
  refine lv_iload hx hb dZQ_change_42 (lv_at hl 4 rfl) ?_
  have hPc := hP.sub (ws' := [(oy, .inr (2, [.ref op, .int yk])), (op, .inr (1, [.int pw, .int ph, .ref opa])), (opa, .inl (cI, pn, .inl pf_4))]) [3, 13, 14] rfl
  refine vp_callSi (va_runV (As := [.int a1, .int a2, .int a3, .int a4]) (rest := []) ⟨hx, hb, hml, hown, hts⟩ (kt_ZY_tilesOver l dC dI cI oy op opa yk pw ph pn pf_4 a1 a2 a3 a4 _ hw) (cwV 4 hts (tb_V mm_374 mm_375 mm_376 mm_4 mm_377) rfl rfl rfl (by decide +kernel) ⟨Nat.le_of_ble_eq_true rfl, Nat.le_of_ble_eq_true rfl⟩) ⟨gr_blind, va_recv hK hPc (ci := 2) (q0 := 0) rfl rfl, fun U hU hW => gr_pre hPc hK hE hU hW⟩ rfl rfl hl.1 rfl (lv_room (Nat.le_of_ble_eq_true rfl)) dZQ_change_44 ⟨Nat.le_of_ble_eq_true rfl, Nat.le_of_ble_eq_true rfl⟩).run (fun r_5 hw => ?_)
  have hP9 := hP.sub (ws' := [(o0, .inr (5, [.ref op, .ref og, .ref oy, .ref ob, .ref os, .ref ot, .ref ou])), (op, .inr (1, [.int pw, .int ph, .ref opa])), (opa, .inl (cI, pn, .inl pf_4)), (og, .inr (1, [.int gw, .int gh, .ref oga])), (oga, .inl (cI, gn, .inl gf)), (oy, .inr (2, [.ref op, .int yk])), (ob, .inr (0, [.ref oba, .int bl])), (oba, .inl (cI, 256, .inl bf)), (os, .inr (3, [.ref op, .ref og, .ref osa, .ref osb, .int sd])), (osa, .inl (cI, kn, .inl kf)), (osb, .inl (cI, sn, .inl sf)), (ot, .inr (4, [.ref ota, .int tw, .int th])), (ota, .inl (cI, 64, .inl tf)), (ou, .inr (4, [.ref oua, .int uw, .int uh])), (oua, .inl (cI, 64, .inl uf))]) [0, 13, 14, 1, 2, 3, 4, 5, 6, 7, 8, 9, 10, 11, 12] rfl
  have hD9 := hD.sub (ws' := [(o0, .inr (5, [.ref op, .ref og, .ref oy, .ref ob, .ref os, .ref ot, .ref ou])), (op, .inr (1, [.int pw, .int ph, .ref opa])), (opa, .inl (cI, pn, .inl pf_4)), (og, .inr (1, [.int gw, .int gh, .ref oga])), (oga, .inl (cI, gn, .inl gf)), (oy, .inr (2, [.ref op, .int yk])), (ob, .inr (0, [.ref oba, .int bl])), (oba, .inl (cI, 256, .inl bf)), (os, .inr (3, [.ref op, .ref og, .ref osa, .ref osb, .int sd])), (osa, .inl (cI, kn, .inl kf)), (osb, .inl (cI, sn, .inl sf)), (ot, .inr (4, [.ref ota, .int tw, .int th])), (ota, .inl (cI, 64, .inl tf)), (ou, .inr (4, [.ref oua, .int uw, .int uh])), (oua, .inl (cI, 64, .inl uf))]) [0, 13, 14, 1, 2, 3, 4, 5, 6, 7, 8, 9, 10, 11, 12] (by decide) rfl
  subst hQ9
  exact W.iret (v := r_5) hx hb hr (fun t ht hW => ⟨⟨r_5, pf_4, rfl, hw, by rw [ht]; exact hP9, va_K.moved hW.alike hK, hD9⟩, hS.F ht⟩) hS.2.2 dZQ_change_47
def xp_ZQ_change_I (pw : Int32) (ph : Int32) (pn : Nat) (pf : Nat → Int32) (gw : Int32) (gh : Int32) (gn : Nat) (gf : Nat → Int32) (yk : Int32) (bl : Int32) (bf : Nat → Int32) (kn : Nat) (kf : Nat → Int32) (sn : Nat) (sf : Nat → Int32) (sd : Int32) (tw : Int32) (th : Int32) (tf : Nat → Int32) (uw : Int32) (uh : Int32) (uf : Nat → Int32) (a1 : Int32) (a2 : Int32) (a3 : Int32) (a4 : Int32) (a5 : Int32) : Prop := wp_ZY_hasPart yk pw ph pn pf (0 : Int32) a1 a2 a3 a4 (fun r_1 : Int32 => (xp_ZQ_requirePlace_I r_1) ∨ (wp_ZQ_requirePlace r_1 (wp_ZQ_requireSample a5 (False))))
abbrev rm_ZQ_change_I : Room := { frames := 7, cells := 1, slots := 6, locals := 111 }
set_option maxHeartbeats 4000000 in
set_option maxRecDepth 100000 in
theorem kx_ZQ_change_I (l : Launch) (hl9 : l.stackTraces = false) (dC : Nat → ClassId) (dI : Nat → Nat → Nat) (cI : ClassId) (o0 op opa og oga oy ob oba os osa osb ot ota ou oua : Nat) (H0 : Heap) (pw : Int32) (ph : Int32) (pn : Nat) (pf : Nat → Int32) (gw : Int32) (gh : Int32) (gn : Nat) (gf : Nat → Int32) (yk : Int32) (bl : Int32) (bf : Nat → Int32) (kn : Nat) (kf : Nat → Int32) (sn : Nat) (sf : Nat → Int32) (sd : Int32) (tw : Int32) (th : Int32) (tf : Nat → Int32) (uw : Int32) (uh : Int32) (uf : Nat → Int32) (a1 : Int32) (a2 : Int32) (a3 : Int32) (a4 : Int32) (a5 : Int32) (hw : xp_ZQ_change_I pw ph pn pf gw gh gn gf yk bl bf kn kf sn sf sd tw th tf uw uh uf a1 a2 a3 a4 a5) : tx_Met l yZQ_change wsZQ_change rm_ZQ_change_I (tr_Pc H0 dC dI [(cI, .int)] [.ref o0, .int a1, .int a2, .int a3, .int a4, .int a5] [(o0, .inr (5, [.ref op, .ref og, .ref oy, .ref ob, .ref os, .ref ot, .ref ou])), (op, .inr (1, [.int pw, .int ph, .ref opa])), (opa, .inl (cI, pn, .inl pf)), (og, .inr (1, [.int gw, .int gh, .ref oga])), (oga, .inl (cI, gn, .inl gf)), (oy, .inr (2, [.ref op, .int yk])), (ob, .inr (0, [.ref oba, .int bl])), (oba, .inl (cI, 256, .inl bf)), (os, .inr (3, [.ref op, .ref og, .ref osa, .ref osb, .int sd])), (osa, .inl (cI, kn, .inl kf)), (osb, .inl (cI, sn, .inl sf)), (ot, .inr (4, [.ref ota, .int tw, .int th])), (ota, .inl (cI, 64, .inl tf)), (ou, .inr (4, [.ref oua, .int uw, .int uh])), (oua, .inl (cI, 64, .inl uf))]) "java/lang/IndexOutOfBoundsException" := by
  refine tx_ofW (cc := cZQ_change) (maxL := 6) (ret := (some .int)) (by decide) rfl ?_
  intro p e s m args below meth c s₁ B hml hnX hv
  obtain ⟨ha9, hP, hK, hE, hT⟩ := hv
  have hx := B.exec
  have hb := B.bytes
  have hr := B.returns
  have hts0 := atoms_spec (ws := wsZQ_change) B.pre
  have hts : ∀ w ∈ tbg, w.before args s = true := fun w h => hts0 w (List.mem_cons_of_mem _ h)
  have hown : s.vm.findClass RZQ = some m.cls := findClass_of_methodNamed B.named
  have hlocks := B.notSynchronized
  refine gx_Q (fun Q9 hQ9 => ?_)
  have hl := lv_entry ([.ref o0, .int a1, .int a2, .int a3, .int a4, .int a5]) (n := 6) (Nat.le_of_ble_eq_true rfl)
  have he9 : entryFrame m args 6 = F0 m 0 ((lg_sl [.ref o0, .int a1, .int a2, .int a3, .int a4, .int a5] ++ List.replicate (6 - (lg_sl ([.ref o0, .int a1, .int a2, .int a3, .int a4, .int a5] : List Value)).length) Slot.unset).toArray) [] := by rw [ha9]; exact lg_entry_eq m [.ref o0, .int a1, .int a2, .int a3, .int a4, .int a5] 6
  rw [he9]
  generalize (lg_sl ([.ref o0, .int a1, .int a2, .int a3, .int a4, .int a5] : List Value) ++ List.replicate (6 - (lg_sl ([.ref o0, .int a1, .int a2, .int a3, .int a4, .int a5] : List Value)).length) Slot.unset).toArray = ls at hl ⊢
  have hl : lv_has ls 6 [(0, .ref o0), (1, .int a1), (2, .int a2), (3, .int a3), (4, .int a4), (5, .int a5)] := hl
  refine lv_aload_n hx hb dZQ_change_0 rfl (lv_at hl 0 rfl) ?_
  refine va_get (D := (dC, dI)) (ci := 5) (v := .ref oy) (C := RZQ) (T := TZQ) (N := 7) hx hb hts inZQ hown hK hP 0 rfl rfl 2 (by decide) (hts _ mm_138) (fun _ h9 => h9) rfl dZQ_change_1 ?_
  refine lv_iconst (v := (0 : Int32)) hx hb dZQ_change_4 (by decide) ?_
  refine lv_iload_n hx hb dZQ_change_5 rfl (lv_at hl 1 rfl) ?_
  refine lv_iload_n hx hb dZQ_change_6 rfl (lv_at hl 2 rfl) ?_
  refine lv_iload_n hx hb dZQ_change_7 rfl (lv_at hl 3 rfl) ?_
  refine lv_iload hx hb dZQ_change_8 (lv_at hl 4 rfl) ?_
  have hPc := hP.sub (ws' := [(oy, .inr (2, [.ref op, .int yk])), (op, .inr (1, [.int pw, .int ph, .ref opa])), (opa, .inl (cI, pn, .inl pf))]) [5, 1, 2] rfl
  refine vp_callSi (va_runV (As := [.int (0 : Int32), .int a1, .int a2, .int a3, .int a4]) (rest := []) ⟨hx, hb, hml, hown, hts⟩ (kt_ZY_hasPart l dC dI cI oy op opa yk pw ph pn pf (0 : Int32) a1 a2 a3 a4 _ hw) (cwV 5 hts (tb_V mm_345 mm_346 mm_347 mm_4 mm_348) rfl rfl rfl (by decide +kernel) ⟨Nat.le_of_ble_eq_true rfl, Nat.le_of_ble_eq_true rfl⟩) ⟨gr_blind, va_recv hK hPc (ci := 2) (q0 := 0) rfl rfl, fun U hU hW => gr_pre hPc hK hE hU hW⟩ rfl rfl hl.1 rfl (lv_room (Nat.le_of_ble_eq_true rfl)) dZQ_change_10 ⟨Nat.le_of_ble_eq_true rfl, Nat.le_of_ble_eq_true rfl⟩).run (fun r_1 hw => ?_)
  rcases hw with hw | hw
  · subst hQ9
    have hPx := hP.sub (ws' := []) [] rfl
    exact tx_callS (As := [.int r_1]) (rest := []) ⟨hx, hb, hml, hown, hts⟩ (kx_ZQ_requirePlace_I l hl9 dC dI cI  H0 r_1 hw) (va_cwS 1 hts (tb_S mm_239 mm_240 mm_1 mm_241) rfl rfl rfl (by decide +kernel) ⟨Nat.le_of_ble_eq_true rfl, Nat.le_of_ble_eq_true rfl⟩) ⟨tr_blind, fun U hU hW => tr_pre hPx hK hE hT hT.1 hU hW⟩ rfl hl.1 rfl (Nat.le_of_ble_eq_true rfl) dZQ_change_13 hnX hlocks ⟨Nat.le_of_ble_eq_true rfl, Nat.le_of_ble_eq_true rfl⟩
  have hPc := hP.sub (ws' := []) [] rfl
  refine va_csv (va_runS (As := [.int r_1]) (rest := []) ⟨hx, hb, hml, hown, hts⟩ (kt_ZQ_requirePlace l dC dI cI  r_1 _ hw) (va_cwS 1 hts (tb_S mm_239 mm_240 mm_1 mm_241) rfl rfl rfl (by decide +kernel) ⟨Nat.le_of_ble_eq_true rfl, Nat.le_of_ble_eq_true rfl⟩) ⟨gr_blind, fun U hU hW => gr_pre hPc hK hE hU hW⟩ rfl rfl hl.1 rfl (lv_room (Nat.le_of_ble_eq_true rfl)) dZQ_change_13 ⟨Nat.le_of_ble_eq_true rfl, Nat.le_of_ble_eq_true rfl⟩).run (fun hw => ?_)
  refine lv_iload hx hb dZQ_change_16 (lv_at hl 5 rfl) ?_
  have hPc := hP.sub (ws' := []) [] rfl
  refine va_csv (va_runS (As := [.int a5]) (rest := []) ⟨hx, hb, hml, hown, hts⟩ (kt_ZQ_requireSample l dC dI cI  a5 _ hw) (va_cwS 1 hts (tb_S mm_310 mm_311 mm_1 mm_312) rfl rfl rfl (by decide +kernel) ⟨Nat.le_of_ble_eq_true rfl, Nat.le_of_ble_eq_true rfl⟩) ⟨gr_blind, fun U hU hW => gr_pre hPc hK hE hU hW⟩ rfl rfl hl.1 rfl (lv_room (Nat.le_of_ble_eq_true rfl)) dZQ_change_18 ⟨Nat.le_of_ble_eq_true rfl, Nat.le_of_ble_eq_true rfl⟩).run (fun hw => ?_)
  refine lv_aload_n hx hb dZQ_change_21 rfl (lv_at hl 0 rfl) ?_
  refine va_get (D := (dC, dI)) (ci := 5) (v := .ref op) (C := RZQ) (T := TZQ) (N := 7) hx hb hts inZQ hown hK hP 0 rfl rfl 0 (by decide) (hts _ mm_136) (fun _ h9 => h9) rfl dZQ_change_22 ?_
  refine lv_iload_n hx hb dZQ_change_25 rfl (lv_at hl 1 rfl) ?_
  refine lv_iload_n hx hb dZQ_change_26 rfl (lv_at hl 2 rfl) ?_
  refine lv_iload_n hx hb dZQ_change_27 rfl (lv_at hl 3 rfl) ?_
  refine lv_iload hx hb dZQ_change_28 (lv_at hl 4 rfl) ?_
  refine lv_iload hx hb dZQ_change_30 (lv_at hl 5 rfl) ?_
  exact False.elim hw
def xp_ZQ_change_A (pw : Int32) (ph : Int32) (pn : Nat) (pf : Nat → Int32) (gw : Int32) (gh : Int32) (gn : Nat) (gf : Nat → Int32) (yk : Int32) (bl : Int32) (bf : Nat → Int32) (kn : Nat) (kf : Nat → Int32) (sn : Nat) (sf : Nat → Int32) (sd : Int32) (tw : Int32) (th : Int32) (tf : Nat → Int32) (uw : Int32) (uh : Int32) (uf : Nat → Int32) (a1 : Int32) (a2 : Int32) (a3 : Int32) (a4 : Int32) (a5 : Int32) : Prop := wp_ZY_hasPart yk pw ph pn pf (0 : Int32) a1 a2 a3 a4 (fun r_1 : Int32 => wp_ZQ_requirePlace r_1 ((xp_ZQ_requireSample_A a5) ∨ (wp_ZQ_requireSample a5 (False))))
abbrev rm_ZQ_change_A : Room := { frames := 7, cells := 1, slots := 6, locals := 111 }
set_option maxHeartbeats 4000000 in
set_option maxRecDepth 100000 in
theorem kx_ZQ_change_A (l : Launch) (hl9 : l.stackTraces = false) (dC : Nat → ClassId) (dI : Nat → Nat → Nat) (cI : ClassId) (o0 op opa og oga oy ob oba os osa osb ot ota ou oua : Nat) (H0 : Heap) (pw : Int32) (ph : Int32) (pn : Nat) (pf : Nat → Int32) (gw : Int32) (gh : Int32) (gn : Nat) (gf : Nat → Int32) (yk : Int32) (bl : Int32) (bf : Nat → Int32) (kn : Nat) (kf : Nat → Int32) (sn : Nat) (sf : Nat → Int32) (sd : Int32) (tw : Int32) (th : Int32) (tf : Nat → Int32) (uw : Int32) (uh : Int32) (uf : Nat → Int32) (a1 : Int32) (a2 : Int32) (a3 : Int32) (a4 : Int32) (a5 : Int32) (hw : xp_ZQ_change_A pw ph pn pf gw gh gn gf yk bl bf kn kf sn sf sd tw th tf uw uh uf a1 a2 a3 a4 a5) : tx_Met l yZQ_change wsZQ_change rm_ZQ_change_A (tr_Pc H0 dC dI [(cI, .int)] [.ref o0, .int a1, .int a2, .int a3, .int a4, .int a5] [(o0, .inr (5, [.ref op, .ref og, .ref oy, .ref ob, .ref os, .ref ot, .ref ou])), (op, .inr (1, [.int pw, .int ph, .ref opa])), (opa, .inl (cI, pn, .inl pf)), (og, .inr (1, [.int gw, .int gh, .ref oga])), (oga, .inl (cI, gn, .inl gf)), (oy, .inr (2, [.ref op, .int yk])), (ob, .inr (0, [.ref oba, .int bl])), (oba, .inl (cI, 256, .inl bf)), (os, .inr (3, [.ref op, .ref og, .ref osa, .ref osb, .int sd])), (osa, .inl (cI, kn, .inl kf)), (osb, .inl (cI, sn, .inl sf)), (ot, .inr (4, [.ref ota, .int tw, .int th])), (ota, .inl (cI, 64, .inl tf)), (ou, .inr (4, [.ref oua, .int uw, .int uh])), (oua, .inl (cI, 64, .inl uf))]) "java/lang/IllegalArgumentException" := by
  refine tx_ofW (cc := cZQ_change) (maxL := 6) (ret := (some .int)) (by decide) rfl ?_
  intro p e s m args below meth c s₁ B hml hnX hv
  obtain ⟨ha9, hP, hK, hE, hT⟩ := hv
  have hx := B.exec
  have hb := B.bytes
  have hr := B.returns
  have hts0 := atoms_spec (ws := wsZQ_change) B.pre
  have hts : ∀ w ∈ tbg, w.before args s = true := fun w h => hts0 w (List.mem_cons_of_mem _ h)
  have hown : s.vm.findClass RZQ = some m.cls := findClass_of_methodNamed B.named
  have hlocks := B.notSynchronized
  refine gx_Q (fun Q9 hQ9 => ?_)
  have hl := lv_entry ([.ref o0, .int a1, .int a2, .int a3, .int a4, .int a5]) (n := 6) (Nat.le_of_ble_eq_true rfl)
  have he9 : entryFrame m args 6 = F0 m 0 ((lg_sl [.ref o0, .int a1, .int a2, .int a3, .int a4, .int a5] ++ List.replicate (6 - (lg_sl ([.ref o0, .int a1, .int a2, .int a3, .int a4, .int a5] : List Value)).length) Slot.unset).toArray) [] := by rw [ha9]; exact lg_entry_eq m [.ref o0, .int a1, .int a2, .int a3, .int a4, .int a5] 6
  rw [he9]
  generalize (lg_sl ([.ref o0, .int a1, .int a2, .int a3, .int a4, .int a5] : List Value) ++ List.replicate (6 - (lg_sl ([.ref o0, .int a1, .int a2, .int a3, .int a4, .int a5] : List Value)).length) Slot.unset).toArray = ls at hl ⊢
  have hl : lv_has ls 6 [(0, .ref o0), (1, .int a1), (2, .int a2), (3, .int a3), (4, .int a4), (5, .int a5)] := hl
  refine lv_aload_n hx hb dZQ_change_0 rfl (lv_at hl 0 rfl) ?_
  refine va_get (D := (dC, dI)) (ci := 5) (v := .ref oy) (C := RZQ) (T := TZQ) (N := 7) hx hb hts inZQ hown hK hP 0 rfl rfl 2 (by decide) (hts _ mm_138) (fun _ h9 => h9) rfl dZQ_change_1 ?_
  refine lv_iconst (v := (0 : Int32)) hx hb dZQ_change_4 (by decide) ?_
  refine lv_iload_n hx hb dZQ_change_5 rfl (lv_at hl 1 rfl) ?_
  refine lv_iload_n hx hb dZQ_change_6 rfl (lv_at hl 2 rfl) ?_
  refine lv_iload_n hx hb dZQ_change_7 rfl (lv_at hl 3 rfl) ?_
  refine lv_iload hx hb dZQ_change_8 (lv_at hl 4 rfl) ?_
  have hPc := hP.sub (ws' := [(oy, .inr (2, [.ref op, .int yk])), (op, .inr (1, [.int pw, .int ph, .ref opa])), (opa, .inl (cI, pn, .inl pf))]) [5, 1, 2] rfl
  refine vp_callSi (va_runV (As := [.int (0 : Int32), .int a1, .int a2, .int a3, .int a4]) (rest := []) ⟨hx, hb, hml, hown, hts⟩ (kt_ZY_hasPart l dC dI cI oy op opa yk pw ph pn pf (0 : Int32) a1 a2 a3 a4 _ hw) (cwV 5 hts (tb_V mm_345 mm_346 mm_347 mm_4 mm_348) rfl rfl rfl (by decide +kernel) ⟨Nat.le_of_ble_eq_true rfl, Nat.le_of_ble_eq_true rfl⟩) ⟨gr_blind, va_recv hK hPc (ci := 2) (q0 := 0) rfl rfl, fun U hU hW => gr_pre hPc hK hE hU hW⟩ rfl rfl hl.1 rfl (lv_room (Nat.le_of_ble_eq_true rfl)) dZQ_change_10 ⟨Nat.le_of_ble_eq_true rfl, Nat.le_of_ble_eq_true rfl⟩).run (fun r_1 hw => ?_)
  have hPc := hP.sub (ws' := []) [] rfl
  refine va_csv (va_runS (As := [.int r_1]) (rest := []) ⟨hx, hb, hml, hown, hts⟩ (kt_ZQ_requirePlace l dC dI cI  r_1 _ hw) (va_cwS 1 hts (tb_S mm_239 mm_240 mm_1 mm_241) rfl rfl rfl (by decide +kernel) ⟨Nat.le_of_ble_eq_true rfl, Nat.le_of_ble_eq_true rfl⟩) ⟨gr_blind, fun U hU hW => gr_pre hPc hK hE hU hW⟩ rfl rfl hl.1 rfl (lv_room (Nat.le_of_ble_eq_true rfl)) dZQ_change_13 ⟨Nat.le_of_ble_eq_true rfl, Nat.le_of_ble_eq_true rfl⟩).run (fun hw => ?_)
  refine lv_iload hx hb dZQ_change_16 (lv_at hl 5 rfl) ?_
  rcases hw with hw | hw
  · subst hQ9
    have hPx := hP.sub (ws' := []) [] rfl
    exact tx_callS (As := [.int a5]) (rest := []) ⟨hx, hb, hml, hown, hts⟩ (kx_ZQ_requireSample_A l hl9 dC dI cI  H0 a5 hw) (va_cwS 1 hts (tb_S mm_310 mm_311 mm_1 mm_312) rfl rfl rfl (by decide +kernel) ⟨Nat.le_of_ble_eq_true rfl, Nat.le_of_ble_eq_true rfl⟩) ⟨tr_blind, fun U hU hW => tr_pre hPx hK hE hT hT.1 hU hW⟩ rfl hl.1 rfl (Nat.le_of_ble_eq_true rfl) dZQ_change_18 hnX hlocks ⟨Nat.le_of_ble_eq_true rfl, Nat.le_of_ble_eq_true rfl⟩
  have hPc := hP.sub (ws' := []) [] rfl
  refine va_csv (va_runS (As := [.int a5]) (rest := []) ⟨hx, hb, hml, hown, hts⟩ (kt_ZQ_requireSample l dC dI cI  a5 _ hw) (va_cwS 1 hts (tb_S mm_310 mm_311 mm_1 mm_312) rfl rfl rfl (by decide +kernel) ⟨Nat.le_of_ble_eq_true rfl, Nat.le_of_ble_eq_true rfl⟩) ⟨gr_blind, fun U hU hW => gr_pre hPc hK hE hU hW⟩ rfl rfl hl.1 rfl (lv_room (Nat.le_of_ble_eq_true rfl)) dZQ_change_18 ⟨Nat.le_of_ble_eq_true rfl, Nat.le_of_ble_eq_true rfl⟩).run (fun hw => ?_)
  refine lv_aload_n hx hb dZQ_change_21 rfl (lv_at hl 0 rfl) ?_
  refine va_get (D := (dC, dI)) (ci := 5) (v := .ref op) (C := RZQ) (T := TZQ) (N := 7) hx hb hts inZQ hown hK hP 0 rfl rfl 0 (by decide) (hts _ mm_136) (fun _ h9 => h9) rfl dZQ_change_22 ?_
  refine lv_iload_n hx hb dZQ_change_25 rfl (lv_at hl 1 rfl) ?_
  refine lv_iload_n hx hb dZQ_change_26 rfl (lv_at hl 2 rfl) ?_
  refine lv_iload_n hx hb dZQ_change_27 rfl (lv_at hl 3 rfl) ?_
  refine lv_iload hx hb dZQ_change_28 (lv_at hl 4 rfl) ?_
  refine lv_iload hx hb dZQ_change_30 (lv_at hl 5 rfl) ?_
  exact False.elim hw
theorem dZQ_levels_0 : decode cZQ_levels 0 = .ok (.aload_n 0, 1) := by decide +kernel
theorem dZQ_levels_1 : decode cZQ_levels 1 = .ok (.getfield 35, 3) := by decide +kernel
theorem dZQ_levels_4 : decode cZQ_levels 4 = .ok (.getfield 89, 3) := by decide +kernel
theorem dZQ_levels_7 : decode cZQ_levels 7 = .ok (.ireturn, 1) := by decide +kernel
abbrev wsZQ_levels : List Cond := .code yZQ_levels cZQ_levels 1 (some .int) :: tbg
def wp_ZQ_levels (pw : Int32) (ph : Int32) (pn : Nat) (pf : Nat → Int32) (gw : Int32) (gh : Int32) (gn : Nat) (gf : Nat → Int32) (yk : Int32) (bl : Int32) (bf : Nat → Int32) (kn : Nat) (kf : Nat → Int32) (sn : Nat) (sf : Nat → Int32) (sd : Int32) (tw : Int32) (th : Int32) (tf : Nat → Int32) (uw : Int32) (uh : Int32) (uf : Nat → Int32) (post : Int32 → Prop) : Prop := post yk
abbrev rm_ZQ_levels : Room := { frames := 0, cells := 0, slots := 0, locals := 0 }
set_option maxHeartbeats 4000000 in
set_option maxRecDepth 100000 in
theorem kt_ZQ_levels (l : Launch) (dC : Nat → ClassId) (dI : Nat → Nat → Nat) (cI : ClassId) (o0 op opa og oga oy ob oba os osa osb ot ota ou oua : Nat) (pw : Int32) (ph : Int32) (pn : Nat) (pf : Nat → Int32) (gw : Int32) (gh : Int32) (gn : Nat) (gf : Nat → Int32) (yk : Int32) (bl : Int32) (bf : Nat → Int32) (kn : Nat) (kf : Nat → Int32) (sn : Nat) (sf : Nat → Int32) (sd : Int32) (tw : Int32) (th : Int32) (tf : Nat → Int32) (uw : Int32) (uh : Int32) (uf : Nat → Int32) (post : Int32 → Prop) (hw : wp_ZQ_levels pw ph pn pf gw gh gn gf yk bl bf kn kf sn sf sd tw th tf uw uh uf post) : Met l yZQ_levels wsZQ_levels rm_ZQ_levels (gr_Pc dC dI [(cI, .int)] [.ref o0] [(o0, .inr (5, [.ref op, .ref og, .ref oy, .ref ob, .ref os, .ref ot, .ref ou])), (op, .inr (1, [.int pw, .int ph, .ref opa])), (opa, .inl (cI, pn, .inl pf)), (og, .inr (1, [.int gw, .int gh, .ref oga])), (oga, .inl (cI, gn, .inl gf)), (oy, .inr (2, [.ref op, .int yk])), (ob, .inr (0, [.ref oba, .int bl])), (oba, .inl (cI, 256, .inl bf)), (os, .inr (3, [.ref op, .ref og, .ref osa, .ref osb, .int sd])), (osa, .inl (cI, kn, .inl kf)), (osb, .inl (cI, sn, .inl sf)), (ot, .inr (4, [.ref ota, .int tw, .int th])), (ota, .inl (cI, 64, .inl tf)), (ou, .inr (4, [.ref oua, .int uw, .int uh])), (oua, .inl (cI, 64, .inl uf))]) (vp_Si post) 0 0 (fun _ => False) := by
  refine Met.ofW (cc := cZQ_levels) (maxL := 1) (ret := (some .int)) (by decide) rfl ?_
  intro p e s m args below meth c s₁ B hml hv
  obtain ⟨ha9, hP, hK, hE⟩ := hv
  have hx := B.exec
  have hb := B.bytes
  have hr := B.returns
  have hts0 := atoms_spec (ws := wsZQ_levels) B.pre
  have hts : ∀ w ∈ tbg, w.before args s = true := fun w h => hts0 w (List.mem_cons_of_mem _ h)
  have hown : s.vm.findClass RZQ = some m.cls := findClass_of_methodNamed B.named
  have hlocks := B.notSynchronized
  refine gx_Q (fun Q9 hQ9 => ?_)
  have hl := lv_entry ([.ref o0]) (n := 1) (Nat.le_of_ble_eq_true rfl)
  have he9 : entryFrame m args 1 = F0 m 0 ((lg_sl [.ref o0] ++ List.replicate (1 - (lg_sl ([.ref o0] : List Value)).length) Slot.unset).toArray) [] := by rw [ha9]; exact lg_entry_eq m [.ref o0] 1
  rw [he9]
  generalize (lg_sl ([.ref o0] : List Value) ++ List.replicate (1 - (lg_sl ([.ref o0] : List Value)).length) Slot.unset).toArray = ls at hl ⊢
  have hl : lv_has ls 1 [(0, .ref o0)] := hl
  refine lv_aload_n hx hb dZQ_levels_0 rfl (lv_at hl 0 rfl) ?_
  refine va_get (D := (dC, dI)) (ci := 5) (v := .ref oy) (C := RZQ) (T := TZQ) (N := 7) hx hb hts inZQ hown hK hP 0 rfl rfl 2 (by decide) (hts _ mm_138) (fun _ h9 => h9) rfl dZQ_levels_1 ?_
  refine va_get (D := (dC, dI)) (ci := 2) (v := .int yk) (C := RZY) (T := TZY) (N := 2) hx hb hts inZY hown hK hP 5 rfl rfl 1 (by decide) (hts _ mm_63) (fun _ h9 => h9) rfl dZQ_levels_4 ?_
  subst hQ9
  exact W.iret (v := yk) hx hb hr (fun t ht hW => ⟨yk, rfl, hw, ht⟩) (fun q h => nomatch h) dZQ_levels_7
theorem dZQ_size_0 : decode cZQ_size 0 = .ok (.aload_n 0, 1) := by decide +kernel
theorem dZQ_size_1 : decode cZQ_size 1 = .ok (.getfield 35, 3) := by decide +kernel
theorem dZQ_size_4 : decode cZQ_size 4 = .ok (.iload_n 1, 1) := by decide +kernel
theorem dZQ_size_5 : decode cZQ_size 5 = .ok (.invokevirtual 93, 3) := by decide +kernel
theorem dZQ_size_8 : decode cZQ_size 8 = .ok (.ifCond .eq 15, 3) := by decide +kernel
theorem dZQ_size_11 : decode cZQ_size 11 = .ok (.iload_n 2, 1) := by decide +kernel
theorem dZQ_size_12 : decode cZQ_size 12 = .ok (.iconst 2, 1) := by decide +kernel
theorem dZQ_size_13 : decode cZQ_size 13 = .ok (.invokestatic 97, 3) := by decide +kernel
theorem dZQ_size_16 : decode cZQ_size 16 = .ok (.ifCond .eq 7, 3) := by decide +kernel
theorem dZQ_size_19 : decode cZQ_size 19 = .ok (.iconst 1, 1) := by decide +kernel
theorem dZQ_size_20 : decode cZQ_size 20 = .ok (.goto 4, 3) := by decide +kernel
theorem dZQ_size_23 : decode cZQ_size 23 = .ok (.iconst 0, 1) := by decide +kernel
theorem dZQ_size_24 : decode cZQ_size 24 = .ok (.invokestatic 73, 3) := by decide +kernel
theorem dZQ_size_27 : decode cZQ_size 27 = .ok (.iload_n 2, 1) := by decide +kernel
theorem dZQ_size_28 : decode cZQ_size 28 = .ok (.ifCond .ne 14, 3) := by decide +kernel
theorem dZQ_size_31 : decode cZQ_size 31 = .ok (.aload_n 0, 1) := by decide +kernel
theorem dZQ_size_32 : decode cZQ_size 32 = .ok (.getfield 35, 3) := by decide +kernel
theorem dZQ_size_35 : decode cZQ_size 35 = .ok (.iload_n 1, 1) := by decide +kernel
theorem dZQ_size_36 : decode cZQ_size 36 = .ok (.invokevirtual 101, 3) := by decide +kernel
theorem dZQ_size_39 : decode cZQ_size 39 = .ok (.goto 11, 3) := by decide +kernel
theorem dZQ_size_42 : decode cZQ_size 42 = .ok (.aload_n 0, 1) := by decide +kernel
theorem dZQ_size_43 : decode cZQ_size 43 = .ok (.getfield 35, 3) := by decide +kernel
theorem dZQ_size_46 : decode cZQ_size 46 = .ok (.iload_n 1, 1) := by decide +kernel
theorem dZQ_size_47 : decode cZQ_size 47 = .ok (.invokevirtual 105, 3) := by decide +kernel
theorem dZQ_size_50 : decode cZQ_size 50 = .ok (.ireturn, 1) := by decide +kernel
abbrev wsZQ_size : List Cond := .code yZQ_size cZQ_size 3 (some .int) :: tbg
def wp_ZQ_size (pw : Int32) (ph : Int32) (pn : Nat) (pf : Nat → Int32) (gw : Int32) (gh : Int32) (gn : Nat) (gf : Nat → Int32) (yk : Int32) (bl : Int32) (bf : Nat → Int32) (kn : Nat) (kf : Nat → Int32) (sn : Nat) (sf : Nat → Int32) (sd : Int32) (tw : Int32) (th : Int32) (tf : Nat → Int32) (uw : Int32) (uh : Int32) (uf : Nat → Int32) (a1 : Int32) (a2 : Int32) (post : Int32 → Prop) : Prop := wp_ZY_hasLevel yk pw ph pn pf a1 (fun r_1 : Int32 => ∃ J24 : Int32 → Prop, (∀ (t0_j24 : Int32), J24 t0_j24 → wp_ZQ_requirePlace t0_j24 (((a2 = (0 : Int32) → (wp_ZY_columnsOf yk pw ph pn pf a1 (fun r_5 : Int32 => post r_5))) ∧ (¬ a2 = (0 : Int32) → (wp_ZY_rowsOf yk pw ph pn pf a1 (fun r_4 : Int32 => post r_4)))))) ∧ (((r_1 = (0 : Int32) → (J24 (0 : Int32))) ∧ (¬ r_1 = (0 : Int32) → (wp_ZQ_isWithin a2 (2 : Int32) (fun r_7 : Int32 => ((r_7 = (0 : Int32) → (J24 (0 : Int32))) ∧ (¬ r_7 = (0 : Int32) → (J24 (1 : Int32))))))))))
abbrev rm_ZQ_size : Room := { frames := 2, cells := 0, slots := 0, locals := 42 }
set_option maxHeartbeats 4000000 in
set_option maxRecDepth 100000 in
theorem kt_ZQ_size (l : Launch) (dC : Nat → ClassId) (dI : Nat → Nat → Nat) (cI : ClassId) (o0 op opa og oga oy ob oba os osa osb ot ota ou oua : Nat) (pw : Int32) (ph : Int32) (pn : Nat) (pf : Nat → Int32) (gw : Int32) (gh : Int32) (gn : Nat) (gf : Nat → Int32) (yk : Int32) (bl : Int32) (bf : Nat → Int32) (kn : Nat) (kf : Nat → Int32) (sn : Nat) (sf : Nat → Int32) (sd : Int32) (tw : Int32) (th : Int32) (tf : Nat → Int32) (uw : Int32) (uh : Int32) (uf : Nat → Int32) (a1 : Int32) (a2 : Int32) (post : Int32 → Prop) (hw : wp_ZQ_size pw ph pn pf gw gh gn gf yk bl bf kn kf sn sf sd tw th tf uw uh uf a1 a2 post) : Met l yZQ_size wsZQ_size rm_ZQ_size (gr_Pc dC dI [(cI, .int)] [.ref o0, .int a1, .int a2] [(o0, .inr (5, [.ref op, .ref og, .ref oy, .ref ob, .ref os, .ref ot, .ref ou])), (op, .inr (1, [.int pw, .int ph, .ref opa])), (opa, .inl (cI, pn, .inl pf)), (og, .inr (1, [.int gw, .int gh, .ref oga])), (oga, .inl (cI, gn, .inl gf)), (oy, .inr (2, [.ref op, .int yk])), (ob, .inr (0, [.ref oba, .int bl])), (oba, .inl (cI, 256, .inl bf)), (os, .inr (3, [.ref op, .ref og, .ref osa, .ref osb, .int sd])), (osa, .inl (cI, kn, .inl kf)), (osb, .inl (cI, sn, .inl sf)), (ot, .inr (4, [.ref ota, .int tw, .int th])), (ota, .inl (cI, 64, .inl tf)), (ou, .inr (4, [.ref oua, .int uw, .int uh])), (oua, .inl (cI, 64, .inl uf))]) (vp_Si post) 0 0 (fun _ => False) := by
  refine Met.ofW (cc := cZQ_size) (maxL := 3) (ret := (some .int)) (by decide) rfl ?_
  intro p e s m args below meth c s₁ B hml hv
  obtain ⟨ha9, hP, hK, hE⟩ := hv
  have hx := B.exec
  have hb := B.bytes
  have hr := B.returns
  have hts0 := atoms_spec (ws := wsZQ_size) B.pre
  have hts : ∀ w ∈ tbg, w.before args s = true := fun w h => hts0 w (List.mem_cons_of_mem _ h)
  have hown : s.vm.findClass RZQ = some m.cls := findClass_of_methodNamed B.named
  have hlocks := B.notSynchronized
  refine gx_Q (fun Q9 hQ9 => ?_)
  have hl := lv_entry ([.ref o0, .int a1, .int a2]) (n := 3) (Nat.le_of_ble_eq_true rfl)
  have he9 : entryFrame m args 3 = F0 m 0 ((lg_sl [.ref o0, .int a1, .int a2] ++ List.replicate (3 - (lg_sl ([.ref o0, .int a1, .int a2] : List Value)).length) Slot.unset).toArray) [] := by rw [ha9]; exact lg_entry_eq m [.ref o0, .int a1, .int a2] 3
  rw [he9]
  generalize (lg_sl ([.ref o0, .int a1, .int a2] : List Value) ++ List.replicate (3 - (lg_sl ([.ref o0, .int a1, .int a2] : List Value)).length) Slot.unset).toArray = ls at hl ⊢
  have hl : lv_has ls 3 [(0, .ref o0), (1, .int a1), (2, .int a2)] := hl
  refine lv_aload_n hx hb dZQ_size_0 rfl (lv_at hl 0 rfl) ?_
  refine va_get (D := (dC, dI)) (ci := 5) (v := .ref oy) (C := RZQ) (T := TZQ) (N := 7) hx hb hts inZQ hown hK hP 0 rfl rfl 2 (by decide) (hts _ mm_138) (fun _ h9 => h9) rfl dZQ_size_1 ?_
  refine lv_iload_n hx hb dZQ_size_4 rfl (lv_at hl 1 rfl) ?_
  have hPc := hP.sub (ws' := [(oy, .inr (2, [.ref op, .int yk])), (op, .inr (1, [.int pw, .int ph, .ref opa])), (opa, .inl (cI, pn, .inl pf))]) [5, 1, 2] rfl
  refine vp_callSi (va_runV (As := [.int a1]) (rest := []) ⟨hx, hb, hml, hown, hts⟩ (kt_ZY_hasLevel l dC dI cI oy op opa yk pw ph pn pf a1 _ hw) (cwV 1 hts (tb_V mm_388 mm_354 mm_355 mm_4 mm_356) rfl rfl rfl (by decide +kernel) ⟨Nat.le_of_ble_eq_true rfl, Nat.le_of_ble_eq_true rfl⟩) ⟨gr_blind, va_recv hK hPc (ci := 2) (q0 := 0) rfl rfl, fun U hU hW => gr_pre hPc hK hE hU hW⟩ rfl rfl hl.1 rfl (lv_room (Nat.le_of_ble_eq_true rfl)) dZQ_size_5 ⟨Nat.le_of_ble_eq_true rfl, Nat.le_of_ble_eq_true rfl⟩).run (fun r_1 hw => ?_)
  obtain ⟨J24, hJ24, hw⟩ := hw
  have j24 : ∀ (t0_j24 : Int32), J24 t0_j24 → ∀ ls : Array Slot, lv_has ls 3 [(0, .ref o0), (1, .int a1), (2, .int a2)] → W p l e (headSpec wsZQ_size rm_ZQ_size).room s m args below meth c s.heap [] 0 0 Q9 (F0 m 24 ls [.int t0_j24]) := by
    intro t0_j24 hw ls hl
    have hw := hJ24 t0_j24 hw
    have hPc := hP.sub (ws' := []) [] rfl
    refine va_csv (va_runS (As := [.int t0_j24]) (rest := []) ⟨hx, hb, hml, hown, hts⟩ (kt_ZQ_requirePlace l dC dI cI  t0_j24 _ hw) (va_cwS 1 hts (tb_S mm_239 mm_240 mm_1 mm_241) rfl rfl rfl (by decide +kernel) ⟨Nat.le_of_ble_eq_true rfl, Nat.le_of_ble_eq_true rfl⟩) ⟨gr_blind, fun U hU hW => gr_pre hPc hK hE hU hW⟩ rfl rfl hl.1 rfl (lv_room (Nat.le_of_ble_eq_true rfl)) dZQ_size_24 ⟨Nat.le_of_ble_eq_true rfl, Nat.le_of_ble_eq_true rfl⟩).run (fun hw => ?_)
    refine lv_iload_n hx hb dZQ_size_27 rfl (lv_at hl 2 rfl) ?_
    refine lv_if_ne (tgt := 42) hx hb dZQ_size_28 (by decide) (fun c_3 => ?_) (fun c_3 => ?_)
    · have hw := hw.2 c_3
      refine lv_aload_n hx hb dZQ_size_42 rfl (lv_at hl 0 rfl) ?_
      refine va_get (D := (dC, dI)) (ci := 5) (v := .ref oy) (C := RZQ) (T := TZQ) (N := 7) hx hb hts inZQ hown hK hP 0 rfl rfl 2 (by decide) (hts _ mm_138) (fun _ h9 => h9) rfl dZQ_size_43 ?_
      refine lv_iload_n hx hb dZQ_size_46 rfl (lv_at hl 1 rfl) ?_
      have hPc := hP.sub (ws' := [(oy, .inr (2, [.ref op, .int yk])), (op, .inr (1, [.int pw, .int ph, .ref opa])), (opa, .inl (cI, pn, .inl pf))]) [5, 1, 2] rfl
      refine vp_callSi (va_runV (As := [.int a1]) (rest := []) ⟨hx, hb, hml, hown, hts⟩ (kt_ZY_rowsOf l dC dI cI oy op opa yk pw ph pn pf a1 _ hw) (cwV 1 hts (tb_V mm_390 mm_366 mm_367 mm_4 mm_368) rfl rfl rfl (by decide +kernel) ⟨Nat.le_of_ble_eq_true rfl, Nat.le_of_ble_eq_true rfl⟩) ⟨gr_blind, va_recv hK hPc (ci := 2) (q0 := 0) rfl rfl, fun U hU hW => gr_pre hPc hK hE hU hW⟩ rfl rfl hl.1 rfl (lv_room (Nat.le_of_ble_eq_true rfl)) dZQ_size_47 ⟨Nat.le_of_ble_eq_true rfl, Nat.le_of_ble_eq_true rfl⟩).run (fun r_4 hw => ?_)
      subst hQ9
      exact W.iret (v := r_4) hx hb hr (fun t ht hW => ⟨r_4, rfl, hw, ht⟩) (fun q h => nomatch h) dZQ_size_50
    · have hw := hw.1 c_3
      refine lv_aload_n hx hb dZQ_size_31 rfl (lv_at hl 0 rfl) ?_
      refine va_get (D := (dC, dI)) (ci := 5) (v := .ref oy) (C := RZQ) (T := TZQ) (N := 7) hx hb hts inZQ hown hK hP 0 rfl rfl 2 (by decide) (hts _ mm_138) (fun _ h9 => h9) rfl dZQ_size_32 ?_
      refine lv_iload_n hx hb dZQ_size_35 rfl (lv_at hl 1 rfl) ?_
      have hPc := hP.sub (ws' := [(oy, .inr (2, [.ref op, .int yk])), (op, .inr (1, [.int pw, .int ph, .ref opa])), (opa, .inl (cI, pn, .inl pf))]) [5, 1, 2] rfl
      refine vp_callSi (va_runV (As := [.int a1]) (rest := []) ⟨hx, hb, hml, hown, hts⟩ (kt_ZY_columnsOf l dC dI cI oy op opa yk pw ph pn pf a1 _ hw) (cwV 1 hts (tb_V mm_389 mm_359 mm_360 mm_4 mm_361) rfl rfl rfl (by decide +kernel) ⟨Nat.le_of_ble_eq_true rfl, Nat.le_of_ble_eq_true rfl⟩) ⟨gr_blind, va_recv hK hPc (ci := 2) (q0 := 0) rfl rfl, fun U hU hW => gr_pre hPc hK hE hU hW⟩ rfl rfl hl.1 rfl (lv_room (Nat.le_of_ble_eq_true rfl)) dZQ_size_36 ⟨Nat.le_of_ble_eq_true rfl, Nat.le_of_ble_eq_true rfl⟩).run (fun r_5 hw => ?_)
      refine lv_goto (tgt := 50) hx hb dZQ_size_39 (by decide) ?_
      subst hQ9
      exact W.iret (v := r_5) hx hb hr (fun t ht hW => ⟨r_5, rfl, hw, ht⟩) (fun q h => nomatch h) dZQ_size_50
  refine lv_if_eq (tgt := 23) hx hb dZQ_size_8 (by decide) (fun c_6 => ?_) (fun c_6 => ?_)
  · have hw := hw.1 c_6
    refine lv_iconst (v := (0 : Int32)) hx hb dZQ_size_23 (by decide) ?_
    exact j24 (0 : Int32) hw ls (lv_sub hl [0, 1, 2] rfl)
  · have hw := hw.2 c_6
    refine lv_iload_n hx hb dZQ_size_11 rfl (lv_at hl 2 rfl) ?_
    refine lv_iconst (v := (2 : Int32)) hx hb dZQ_size_12 (by decide) ?_
    have hPc := hP.sub (ws' := []) [] rfl
    refine vp_callSi (va_runS (As := [.int a2, .int (2 : Int32)]) (rest := []) ⟨hx, hb, hml, hown, hts⟩ (kt_ZQ_isWithin l dC dI cI  a2 (2 : Int32) _ hw) (va_cwS 2 hts (tb_S mm_236 mm_237 mm_1 mm_238) rfl rfl rfl (by decide +kernel) ⟨Nat.le_of_ble_eq_true rfl, Nat.le_of_ble_eq_true rfl⟩) ⟨gr_blind, fun U hU hW => gr_pre hPc hK hE hU hW⟩ rfl rfl hl.1 rfl (lv_room (Nat.le_of_ble_eq_true rfl)) dZQ_size_13 ⟨Nat.le_of_ble_eq_true rfl, Nat.le_of_ble_eq_true rfl⟩).run (fun r_7 hw => ?_)
    refine lv_if_eq (tgt := 23) hx hb dZQ_size_16 (by decide) (fun c_8 => ?_) (fun c_8 => ?_)
    · have hw := hw.1 c_8
      refine lv_iconst (v := (0 : Int32)) hx hb dZQ_size_23 (by decide) ?_
      exact j24 (0 : Int32) hw ls (lv_sub hl [0, 1, 2] rfl)
    · have hw := hw.2 c_8
      refine lv_iconst (v := (1 : Int32)) hx hb dZQ_size_19 (by decide) ?_
      refine lv_goto (tgt := 24) hx hb dZQ_size_20 (by decide) ?_
      exact j24 (1 : Int32) hw ls (lv_sub hl [0, 1, 2] rfl)
def xp_ZQ_size_I (pw : Int32) (ph : Int32) (pn : Nat) (pf : Nat → Int32) (gw : Int32) (gh : Int32) (gn : Nat) (gf : Nat → Int32) (yk : Int32) (bl : Int32) (bf : Nat → Int32) (kn : Nat) (kf : Nat → Int32) (sn : Nat) (sf : Nat → Int32) (sd : Int32) (tw : Int32) (th : Int32) (tf : Nat → Int32) (uw : Int32) (uh : Int32) (uf : Nat → Int32) (a1 : Int32) (a2 : Int32) : Prop := wp_ZY_hasLevel yk pw ph pn pf a1 (fun r_1 : Int32 => ∃ J24 : Int32 → Prop, (∀ (t0_j24 : Int32), J24 t0_j24 → (xp_ZQ_requirePlace_I t0_j24) ∨ (wp_ZQ_requirePlace t0_j24 (((a2 = (0 : Int32) → (wp_ZY_columnsOf yk pw ph pn pf a1 (fun r_5 : Int32 => False))) ∧ (¬ a2 = (0 : Int32) → (wp_ZY_rowsOf yk pw ph pn pf a1 (fun r_4 : Int32 => False))))))) ∧ (((r_1 = (0 : Int32) → (J24 (0 : Int32))) ∧ (¬ r_1 = (0 : Int32) → (wp_ZQ_isWithin a2 (2 : Int32) (fun r_7 : Int32 => ((r_7 = (0 : Int32) → (J24 (0 : Int32))) ∧ (¬ r_7 = (0 : Int32) → (J24 (1 : Int32))))))))))
abbrev rm_ZQ_size_I : Room := { frames := 7, cells := 1, slots := 6, locals := 111 }
set_option maxHeartbeats 4000000 in
set_option maxRecDepth 100000 in
theorem kx_ZQ_size_I (l : Launch) (hl9 : l.stackTraces = false) (dC : Nat → ClassId) (dI : Nat → Nat → Nat) (cI : ClassId) (o0 op opa og oga oy ob oba os osa osb ot ota ou oua : Nat) (H0 : Heap) (pw : Int32) (ph : Int32) (pn : Nat) (pf : Nat → Int32) (gw : Int32) (gh : Int32) (gn : Nat) (gf : Nat → Int32) (yk : Int32) (bl : Int32) (bf : Nat → Int32) (kn : Nat) (kf : Nat → Int32) (sn : Nat) (sf : Nat → Int32) (sd : Int32) (tw : Int32) (th : Int32) (tf : Nat → Int32) (uw : Int32) (uh : Int32) (uf : Nat → Int32) (a1 : Int32) (a2 : Int32) (hw : xp_ZQ_size_I pw ph pn pf gw gh gn gf yk bl bf kn kf sn sf sd tw th tf uw uh uf a1 a2) : tx_Met l yZQ_size wsZQ_size rm_ZQ_size_I (tr_Pc H0 dC dI [(cI, .int)] [.ref o0, .int a1, .int a2] [(o0, .inr (5, [.ref op, .ref og, .ref oy, .ref ob, .ref os, .ref ot, .ref ou])), (op, .inr (1, [.int pw, .int ph, .ref opa])), (opa, .inl (cI, pn, .inl pf)), (og, .inr (1, [.int gw, .int gh, .ref oga])), (oga, .inl (cI, gn, .inl gf)), (oy, .inr (2, [.ref op, .int yk])), (ob, .inr (0, [.ref oba, .int bl])), (oba, .inl (cI, 256, .inl bf)), (os, .inr (3, [.ref op, .ref og, .ref osa, .ref osb, .int sd])), (osa, .inl (cI, kn, .inl kf)), (osb, .inl (cI, sn, .inl sf)), (ot, .inr (4, [.ref ota, .int tw, .int th])), (ota, .inl (cI, 64, .inl tf)), (ou, .inr (4, [.ref oua, .int uw, .int uh])), (oua, .inl (cI, 64, .inl uf))]) "java/lang/IndexOutOfBoundsException" := by
  refine tx_ofW (cc := cZQ_size) (maxL := 3) (ret := (some .int)) (by decide) rfl ?_
  intro p e s m args below meth c s₁ B hml hnX hv
  obtain ⟨ha9, hP, hK, hE, hT⟩ := hv
  have hx := B.exec
  have hb := B.bytes
  have hr := B.returns
  have hts0 := atoms_spec (ws := wsZQ_size) B.pre
  have hts : ∀ w ∈ tbg, w.before args s = true := fun w h => hts0 w (List.mem_cons_of_mem _ h)
  have hown : s.vm.findClass RZQ = some m.cls := findClass_of_methodNamed B.named
  have hlocks := B.notSynchronized
  refine gx_Q (fun Q9 hQ9 => ?_)
  have hl := lv_entry ([.ref o0, .int a1, .int a2]) (n := 3) (Nat.le_of_ble_eq_true rfl)
  have he9 : entryFrame m args 3 = F0 m 0 ((lg_sl [.ref o0, .int a1, .int a2] ++ List.replicate (3 - (lg_sl ([.ref o0, .int a1, .int a2] : List Value)).length) Slot.unset).toArray) [] := by rw [ha9]; exact lg_entry_eq m [.ref o0, .int a1, .int a2] 3
  rw [he9]
  generalize (lg_sl ([.ref o0, .int a1, .int a2] : List Value) ++ List.replicate (3 - (lg_sl ([.ref o0, .int a1, .int a2] : List Value)).length) Slot.unset).toArray = ls at hl ⊢
  have hl : lv_has ls 3 [(0, .ref o0), (1, .int a1), (2, .int a2)] := hl
  refine lv_aload_n hx hb dZQ_size_0 rfl (lv_at hl 0 rfl) ?_
  refine va_get (D := (dC, dI)) (ci := 5) (v := .ref oy) (C := RZQ) (T := TZQ) (N := 7) hx hb hts inZQ hown hK hP 0 rfl rfl 2 (by decide) (hts _ mm_138) (fun _ h9 => h9) rfl dZQ_size_1 ?_
  refine lv_iload_n hx hb dZQ_size_4 rfl (lv_at hl 1 rfl) ?_
  have hPc := hP.sub (ws' := [(oy, .inr (2, [.ref op, .int yk])), (op, .inr (1, [.int pw, .int ph, .ref opa])), (opa, .inl (cI, pn, .inl pf))]) [5, 1, 2] rfl
  refine vp_callSi (va_runV (As := [.int a1]) (rest := []) ⟨hx, hb, hml, hown, hts⟩ (kt_ZY_hasLevel l dC dI cI oy op opa yk pw ph pn pf a1 _ hw) (cwV 1 hts (tb_V mm_388 mm_354 mm_355 mm_4 mm_356) rfl rfl rfl (by decide +kernel) ⟨Nat.le_of_ble_eq_true rfl, Nat.le_of_ble_eq_true rfl⟩) ⟨gr_blind, va_recv hK hPc (ci := 2) (q0 := 0) rfl rfl, fun U hU hW => gr_pre hPc hK hE hU hW⟩ rfl rfl hl.1 rfl (lv_room (Nat.le_of_ble_eq_true rfl)) dZQ_size_5 ⟨Nat.le_of_ble_eq_true rfl, Nat.le_of_ble_eq_true rfl⟩).run (fun r_1 hw => ?_)
  obtain ⟨J24, hJ24, hw⟩ := hw
  have j24 : ∀ (t0_j24 : Int32), J24 t0_j24 → ∀ ls : Array Slot, lv_has ls 3 [(0, .ref o0), (1, .int a1), (2, .int a2)] → W p l e (headSpec wsZQ_size rm_ZQ_size_I).room s m args below meth c s.heap [] 0 0 Q9 (F0 m 24 ls [.int t0_j24]) := by
    intro t0_j24 hw ls hl
    have hw := hJ24 t0_j24 hw
    rcases hw with hw | hw
    · subst hQ9
      have hPx := hP.sub (ws' := []) [] rfl
      exact tx_callS (As := [.int t0_j24]) (rest := []) ⟨hx, hb, hml, hown, hts⟩ (kx_ZQ_requirePlace_I l hl9 dC dI cI  H0 t0_j24 hw) (va_cwS 1 hts (tb_S mm_239 mm_240 mm_1 mm_241) rfl rfl rfl (by decide +kernel) ⟨Nat.le_of_ble_eq_true rfl, Nat.le_of_ble_eq_true rfl⟩) ⟨tr_blind, fun U hU hW => tr_pre hPx hK hE hT hT.1 hU hW⟩ rfl hl.1 rfl (Nat.le_of_ble_eq_true rfl) dZQ_size_24 hnX hlocks ⟨Nat.le_of_ble_eq_true rfl, Nat.le_of_ble_eq_true rfl⟩
    have hPc := hP.sub (ws' := []) [] rfl
    refine va_csv (va_runS (As := [.int t0_j24]) (rest := []) ⟨hx, hb, hml, hown, hts⟩ (kt_ZQ_requirePlace l dC dI cI  t0_j24 _ hw) (va_cwS 1 hts (tb_S mm_239 mm_240 mm_1 mm_241) rfl rfl rfl (by decide +kernel) ⟨Nat.le_of_ble_eq_true rfl, Nat.le_of_ble_eq_true rfl⟩) ⟨gr_blind, fun U hU hW => gr_pre hPc hK hE hU hW⟩ rfl rfl hl.1 rfl (lv_room (Nat.le_of_ble_eq_true rfl)) dZQ_size_24 ⟨Nat.le_of_ble_eq_true rfl, Nat.le_of_ble_eq_true rfl⟩).run (fun hw => ?_)
    refine lv_iload_n hx hb dZQ_size_27 rfl (lv_at hl 2 rfl) ?_
    refine lv_if_ne (tgt := 42) hx hb dZQ_size_28 (by decide) (fun c_3 => ?_) (fun c_3 => ?_)
    · have hw := hw.2 c_3
      refine lv_aload_n hx hb dZQ_size_42 rfl (lv_at hl 0 rfl) ?_
      refine va_get (D := (dC, dI)) (ci := 5) (v := .ref oy) (C := RZQ) (T := TZQ) (N := 7) hx hb hts inZQ hown hK hP 0 rfl rfl 2 (by decide) (hts _ mm_138) (fun _ h9 => h9) rfl dZQ_size_43 ?_
      refine lv_iload_n hx hb dZQ_size_46 rfl (lv_at hl 1 rfl) ?_
      have hPc := hP.sub (ws' := [(oy, .inr (2, [.ref op, .int yk])), (op, .inr (1, [.int pw, .int ph, .ref opa])), (opa, .inl (cI, pn, .inl pf))]) [5, 1, 2] rfl
      refine vp_callSi (va_runV (As := [.int a1]) (rest := []) ⟨hx, hb, hml, hown, hts⟩ (kt_ZY_rowsOf l dC dI cI oy op opa yk pw ph pn pf a1 _ hw) (cwV 1 hts (tb_V mm_390 mm_366 mm_367 mm_4 mm_368) rfl rfl rfl (by decide +kernel) ⟨Nat.le_of_ble_eq_true rfl, Nat.le_of_ble_eq_true rfl⟩) ⟨gr_blind, va_recv hK hPc (ci := 2) (q0 := 0) rfl rfl, fun U hU hW => gr_pre hPc hK hE hU hW⟩ rfl rfl hl.1 rfl (lv_room (Nat.le_of_ble_eq_true rfl)) dZQ_size_47 ⟨Nat.le_of_ble_eq_true rfl, Nat.le_of_ble_eq_true rfl⟩).run (fun r_4 hw => ?_)
      exact False.elim hw
    · have hw := hw.1 c_3
      refine lv_aload_n hx hb dZQ_size_31 rfl (lv_at hl 0 rfl) ?_
      refine va_get (D := (dC, dI)) (ci := 5) (v := .ref oy) (C := RZQ) (T := TZQ) (N := 7) hx hb hts inZQ hown hK hP 0 rfl rfl 2 (by decide) (hts _ mm_138) (fun _ h9 => h9) rfl dZQ_size_32 ?_
      refine lv_iload_n hx hb dZQ_size_35 rfl (lv_at hl 1 rfl) ?_
      have hPc := hP.sub (ws' := [(oy, .inr (2, [.ref op, .int yk])), (op, .inr (1, [.int pw, .int ph, .ref opa])), (opa, .inl (cI, pn, .inl pf))]) [5, 1, 2] rfl
      refine vp_callSi (va_runV (As := [.int a1]) (rest := []) ⟨hx, hb, hml, hown, hts⟩ (kt_ZY_columnsOf l dC dI cI oy op opa yk pw ph pn pf a1 _ hw) (cwV 1 hts (tb_V mm_389 mm_359 mm_360 mm_4 mm_361) rfl rfl rfl (by decide +kernel) ⟨Nat.le_of_ble_eq_true rfl, Nat.le_of_ble_eq_true rfl⟩) ⟨gr_blind, va_recv hK hPc (ci := 2) (q0 := 0) rfl rfl, fun U hU hW => gr_pre hPc hK hE hU hW⟩ rfl rfl hl.1 rfl (lv_room (Nat.le_of_ble_eq_true rfl)) dZQ_size_36 ⟨Nat.le_of_ble_eq_true rfl, Nat.le_of_ble_eq_true rfl⟩).run (fun r_5 hw => ?_)
      refine lv_goto (tgt := 50) hx hb dZQ_size_39 (by decide) ?_
      exact False.elim hw
  refine lv_if_eq (tgt := 23) hx hb dZQ_size_8 (by decide) (fun c_6 => ?_) (fun c_6 => ?_)
  · have hw := hw.1 c_6
    refine lv_iconst (v := (0 : Int32)) hx hb dZQ_size_23 (by decide) ?_
    exact j24 (0 : Int32) hw ls (lv_sub hl [0, 1, 2] rfl)
  · have hw := hw.2 c_6
    refine lv_iload_n hx hb dZQ_size_11 rfl (lv_at hl 2 rfl) ?_
    refine lv_iconst (v := (2 : Int32)) hx hb dZQ_size_12 (by decide) ?_
    have hPc := hP.sub (ws' := []) [] rfl
    refine vp_callSi (va_runS (As := [.int a2, .int (2 : Int32)]) (rest := []) ⟨hx, hb, hml, hown, hts⟩ (kt_ZQ_isWithin l dC dI cI  a2 (2 : Int32) _ hw) (va_cwS 2 hts (tb_S mm_236 mm_237 mm_1 mm_238) rfl rfl rfl (by decide +kernel) ⟨Nat.le_of_ble_eq_true rfl, Nat.le_of_ble_eq_true rfl⟩) ⟨gr_blind, fun U hU hW => gr_pre hPc hK hE hU hW⟩ rfl rfl hl.1 rfl (lv_room (Nat.le_of_ble_eq_true rfl)) dZQ_size_13 ⟨Nat.le_of_ble_eq_true rfl, Nat.le_of_ble_eq_true rfl⟩).run (fun r_7 hw => ?_)
    refine lv_if_eq (tgt := 23) hx hb dZQ_size_16 (by decide) (fun c_8 => ?_) (fun c_8 => ?_)
    · have hw := hw.1 c_8
      refine lv_iconst (v := (0 : Int32)) hx hb dZQ_size_23 (by decide) ?_
      exact j24 (0 : Int32) hw ls (lv_sub hl [0, 1, 2] rfl)
    · have hw := hw.2 c_8
      refine lv_iconst (v := (1 : Int32)) hx hb dZQ_size_19 (by decide) ?_
      refine lv_goto (tgt := 24) hx hb dZQ_size_20 (by decide) ?_
      exact j24 (1 : Int32) hw ls (lv_sub hl [0, 1, 2] rfl)
theorem dZQ_at_0 : decode cZQ_at 0 = .ok (.aload_n 0, 1) := by decide +kernel
theorem dZQ_at_1 : decode cZQ_at 1 = .ok (.getfield 35, 3) := by decide +kernel
theorem dZQ_at_4 : decode cZQ_at 4 = .ok (.iload_n 1, 1) := by decide +kernel
theorem dZQ_at_5 : decode cZQ_at 5 = .ok (.iload_n 2, 1) := by decide +kernel
theorem dZQ_at_6 : decode cZQ_at 6 = .ok (.iload_n 3, 1) := by decide +kernel
theorem dZQ_at_7 : decode cZQ_at 7 = .ok (.invokevirtual 108, 3) := by decide +kernel
theorem dZQ_at_10 : decode cZQ_at 10 = .ok (.invokestatic 73, 3) := by decide +kernel
theorem dZQ_at_13 : decode cZQ_at 13 = .ok (.aload_n 0, 1) := by decide +kernel
theorem dZQ_at_14 : decode cZQ_at 14 = .ok (.getfield 35, 3) := by decide +kernel
theorem dZQ_at_17 : decode cZQ_at 17 = .ok (.iload_n 1, 1) := by decide +kernel
theorem dZQ_at_18 : decode cZQ_at 18 = .ok (.iload_n 2, 1) := by decide +kernel
theorem dZQ_at_19 : decode cZQ_at 19 = .ok (.iload_n 3, 1) := by decide +kernel
theorem dZQ_at_20 : decode cZQ_at 20 = .ok (.invokevirtual 112, 3) := by decide +kernel
theorem dZQ_at_23 : decode cZQ_at 23 = .ok (.ireturn, 1) := by decide +kernel
abbrev wsZQ_at : List Cond := .code yZQ_at cZQ_at 4 (some .int) :: tbg
def wp_ZQ_at (pw : Int32) (ph : Int32) (pn : Nat) (pf : Nat → Int32) (gw : Int32) (gh : Int32) (gn : Nat) (gf : Nat → Int32) (yk : Int32) (bl : Int32) (bf : Nat → Int32) (kn : Nat) (kf : Nat → Int32) (sn : Nat) (sf : Nat → Int32) (sd : Int32) (tw : Int32) (th : Int32) (tf : Nat → Int32) (uw : Int32) (uh : Int32) (uf : Nat → Int32) (a1 : Int32) (a2 : Int32) (a3 : Int32) (post : Int32 → Prop) : Prop := wp_ZY_hasPlace yk pw ph pn pf a1 a2 a3 (fun r_1 : Int32 => wp_ZQ_requirePlace r_1 (wp_ZY_roundedMean yk pw ph pn pf a1 a2 a3 (fun r_3 : Int32 => post r_3)))
abbrev rm_ZQ_at : Room := { frames := 4, cells := 0, slots := 0, locals := 96 }
set_option maxHeartbeats 4000000 in
set_option maxRecDepth 100000 in
theorem kt_ZQ_at (l : Launch) (dC : Nat → ClassId) (dI : Nat → Nat → Nat) (cI : ClassId) (o0 op opa og oga oy ob oba os osa osb ot ota ou oua : Nat) (pw : Int32) (ph : Int32) (pn : Nat) (pf : Nat → Int32) (gw : Int32) (gh : Int32) (gn : Nat) (gf : Nat → Int32) (yk : Int32) (bl : Int32) (bf : Nat → Int32) (kn : Nat) (kf : Nat → Int32) (sn : Nat) (sf : Nat → Int32) (sd : Int32) (tw : Int32) (th : Int32) (tf : Nat → Int32) (uw : Int32) (uh : Int32) (uf : Nat → Int32) (a1 : Int32) (a2 : Int32) (a3 : Int32) (post : Int32 → Prop) (hw : wp_ZQ_at pw ph pn pf gw gh gn gf yk bl bf kn kf sn sf sd tw th tf uw uh uf a1 a2 a3 post) : Met l yZQ_at wsZQ_at rm_ZQ_at (gr_Pc dC dI [(cI, .int)] [.ref o0, .int a1, .int a2, .int a3] [(o0, .inr (5, [.ref op, .ref og, .ref oy, .ref ob, .ref os, .ref ot, .ref ou])), (op, .inr (1, [.int pw, .int ph, .ref opa])), (opa, .inl (cI, pn, .inl pf)), (og, .inr (1, [.int gw, .int gh, .ref oga])), (oga, .inl (cI, gn, .inl gf)), (oy, .inr (2, [.ref op, .int yk])), (ob, .inr (0, [.ref oba, .int bl])), (oba, .inl (cI, 256, .inl bf)), (os, .inr (3, [.ref op, .ref og, .ref osa, .ref osb, .int sd])), (osa, .inl (cI, kn, .inl kf)), (osb, .inl (cI, sn, .inl sf)), (ot, .inr (4, [.ref ota, .int tw, .int th])), (ota, .inl (cI, 64, .inl tf)), (ou, .inr (4, [.ref oua, .int uw, .int uh])), (oua, .inl (cI, 64, .inl uf))]) (vp_Si post) 0 0 (fun _ => False) := by
  refine Met.ofW (cc := cZQ_at) (maxL := 4) (ret := (some .int)) (by decide) rfl ?_
  intro p e s m args below meth c s₁ B hml hv
  obtain ⟨ha9, hP, hK, hE⟩ := hv
  have hx := B.exec
  have hb := B.bytes
  have hr := B.returns
  have hts0 := atoms_spec (ws := wsZQ_at) B.pre
  have hts : ∀ w ∈ tbg, w.before args s = true := fun w h => hts0 w (List.mem_cons_of_mem _ h)
  have hown : s.vm.findClass RZQ = some m.cls := findClass_of_methodNamed B.named
  have hlocks := B.notSynchronized
  refine gx_Q (fun Q9 hQ9 => ?_)
  have hl := lv_entry ([.ref o0, .int a1, .int a2, .int a3]) (n := 4) (Nat.le_of_ble_eq_true rfl)
  have he9 : entryFrame m args 4 = F0 m 0 ((lg_sl [.ref o0, .int a1, .int a2, .int a3] ++ List.replicate (4 - (lg_sl ([.ref o0, .int a1, .int a2, .int a3] : List Value)).length) Slot.unset).toArray) [] := by rw [ha9]; exact lg_entry_eq m [.ref o0, .int a1, .int a2, .int a3] 4
  rw [he9]
  generalize (lg_sl ([.ref o0, .int a1, .int a2, .int a3] : List Value) ++ List.replicate (4 - (lg_sl ([.ref o0, .int a1, .int a2, .int a3] : List Value)).length) Slot.unset).toArray = ls at hl ⊢
  have hl : lv_has ls 4 [(0, .ref o0), (1, .int a1), (2, .int a2), (3, .int a3)] := hl
  refine lv_aload_n hx hb dZQ_at_0 rfl (lv_at hl 0 rfl) ?_
  refine va_get (D := (dC, dI)) (ci := 5) (v := .ref oy) (C := RZQ) (T := TZQ) (N := 7) hx hb hts inZQ hown hK hP 0 rfl rfl 2 (by decide) (hts _ mm_138) (fun _ h9 => h9) rfl dZQ_at_1 ?_
  refine lv_iload_n hx hb dZQ_at_4 rfl (lv_at hl 1 rfl) ?_
  refine lv_iload_n hx hb dZQ_at_5 rfl (lv_at hl 2 rfl) ?_
  refine lv_iload_n hx hb dZQ_at_6 rfl (lv_at hl 3 rfl) ?_
  have hPc := hP.sub (ws' := [(oy, .inr (2, [.ref op, .int yk])), (op, .inr (1, [.int pw, .int ph, .ref opa])), (opa, .inl (cI, pn, .inl pf))]) [5, 1, 2] rfl
  refine vp_callSi (va_runV (As := [.int a1, .int a2, .int a3]) (rest := []) ⟨hx, hb, hml, hown, hts⟩ (kt_ZY_hasPlace l dC dI cI oy op opa yk pw ph pn pf a1 a2 a3 _ hw) (cwV 3 hts (tb_V mm_398 mm_350 mm_351 mm_4 mm_352) rfl rfl rfl (by decide +kernel) ⟨Nat.le_of_ble_eq_true rfl, Nat.le_of_ble_eq_true rfl⟩) ⟨gr_blind, va_recv hK hPc (ci := 2) (q0 := 0) rfl rfl, fun U hU hW => gr_pre hPc hK hE hU hW⟩ rfl rfl hl.1 rfl (lv_room (Nat.le_of_ble_eq_true rfl)) dZQ_at_7 ⟨Nat.le_of_ble_eq_true rfl, Nat.le_of_ble_eq_true rfl⟩).run (fun r_1 hw => ?_)
  have hPc := hP.sub (ws' := []) [] rfl
  refine va_csv (va_runS (As := [.int r_1]) (rest := []) ⟨hx, hb, hml, hown, hts⟩ (kt_ZQ_requirePlace l dC dI cI  r_1 _ hw) (va_cwS 1 hts (tb_S mm_239 mm_240 mm_1 mm_241) rfl rfl rfl (by decide +kernel) ⟨Nat.le_of_ble_eq_true rfl, Nat.le_of_ble_eq_true rfl⟩) ⟨gr_blind, fun U hU hW => gr_pre hPc hK hE hU hW⟩ rfl rfl hl.1 rfl (lv_room (Nat.le_of_ble_eq_true rfl)) dZQ_at_10 ⟨Nat.le_of_ble_eq_true rfl, Nat.le_of_ble_eq_true rfl⟩).run (fun hw => ?_)
  refine lv_aload_n hx hb dZQ_at_13 rfl (lv_at hl 0 rfl) ?_
  refine va_get (D := (dC, dI)) (ci := 5) (v := .ref oy) (C := RZQ) (T := TZQ) (N := 7) hx hb hts inZQ hown hK hP 0 rfl rfl 2 (by decide) (hts _ mm_138) (fun _ h9 => h9) rfl dZQ_at_14 ?_
  refine lv_iload_n hx hb dZQ_at_17 rfl (lv_at hl 1 rfl) ?_
  refine lv_iload_n hx hb dZQ_at_18 rfl (lv_at hl 2 rfl) ?_
  refine lv_iload_n hx hb dZQ_at_19 rfl (lv_at hl 3 rfl) ?_
  have hPc := hP.sub (ws' := [(oy, .inr (2, [.ref op, .int yk])), (op, .inr (1, [.int pw, .int ph, .ref opa])), (opa, .inl (cI, pn, .inl pf))]) [5, 1, 2] rfl
  refine vp_callSi (va_runV (As := [.int a1, .int a2, .int a3]) (rest := []) ⟨hx, hb, hml, hown, hts⟩ (kt_ZY_roundedMean l dC dI cI oy op opa yk pw ph pn pf a1 a2 a3 _ hw) (cwV 3 hts (tb_V mm_399 mm_400 mm_401 mm_4 mm_402) rfl rfl rfl (by decide +kernel) ⟨Nat.le_of_ble_eq_true rfl, Nat.le_of_ble_eq_true rfl⟩) ⟨gr_blind, va_recv hK hPc (ci := 2) (q0 := 0) rfl rfl, fun U hU hW => gr_pre hPc hK hE hU hW⟩ rfl rfl hl.1 rfl (lv_room (Nat.le_of_ble_eq_true rfl)) dZQ_at_20 ⟨Nat.le_of_ble_eq_true rfl, Nat.le_of_ble_eq_true rfl⟩).run (fun r_3 hw => ?_)
  subst hQ9
  exact W.iret (v := r_3) hx hb hr (fun t ht hW => ⟨r_3, rfl, hw, ht⟩) (fun q h => nomatch h) dZQ_at_23
def xp_ZQ_at_I (pw : Int32) (ph : Int32) (pn : Nat) (pf : Nat → Int32) (gw : Int32) (gh : Int32) (gn : Nat) (gf : Nat → Int32) (yk : Int32) (bl : Int32) (bf : Nat → Int32) (kn : Nat) (kf : Nat → Int32) (sn : Nat) (sf : Nat → Int32) (sd : Int32) (tw : Int32) (th : Int32) (tf : Nat → Int32) (uw : Int32) (uh : Int32) (uf : Nat → Int32) (a1 : Int32) (a2 : Int32) (a3 : Int32) : Prop := wp_ZY_hasPlace yk pw ph pn pf a1 a2 a3 (fun r_1 : Int32 => (xp_ZQ_requirePlace_I r_1) ∨ (wp_ZQ_requirePlace r_1 (wp_ZY_roundedMean yk pw ph pn pf a1 a2 a3 (fun r_3 : Int32 => False))))
abbrev rm_ZQ_at_I : Room := { frames := 7, cells := 1, slots := 6, locals := 111 }
set_option maxHeartbeats 4000000 in
set_option maxRecDepth 100000 in
theorem kx_ZQ_at_I (l : Launch) (hl9 : l.stackTraces = false) (dC : Nat → ClassId) (dI : Nat → Nat → Nat) (cI : ClassId) (o0 op opa og oga oy ob oba os osa osb ot ota ou oua : Nat) (H0 : Heap) (pw : Int32) (ph : Int32) (pn : Nat) (pf : Nat → Int32) (gw : Int32) (gh : Int32) (gn : Nat) (gf : Nat → Int32) (yk : Int32) (bl : Int32) (bf : Nat → Int32) (kn : Nat) (kf : Nat → Int32) (sn : Nat) (sf : Nat → Int32) (sd : Int32) (tw : Int32) (th : Int32) (tf : Nat → Int32) (uw : Int32) (uh : Int32) (uf : Nat → Int32) (a1 : Int32) (a2 : Int32) (a3 : Int32) (hw : xp_ZQ_at_I pw ph pn pf gw gh gn gf yk bl bf kn kf sn sf sd tw th tf uw uh uf a1 a2 a3) : tx_Met l yZQ_at wsZQ_at rm_ZQ_at_I (tr_Pc H0 dC dI [(cI, .int)] [.ref o0, .int a1, .int a2, .int a3] [(o0, .inr (5, [.ref op, .ref og, .ref oy, .ref ob, .ref os, .ref ot, .ref ou])), (op, .inr (1, [.int pw, .int ph, .ref opa])), (opa, .inl (cI, pn, .inl pf)), (og, .inr (1, [.int gw, .int gh, .ref oga])), (oga, .inl (cI, gn, .inl gf)), (oy, .inr (2, [.ref op, .int yk])), (ob, .inr (0, [.ref oba, .int bl])), (oba, .inl (cI, 256, .inl bf)), (os, .inr (3, [.ref op, .ref og, .ref osa, .ref osb, .int sd])), (osa, .inl (cI, kn, .inl kf)), (osb, .inl (cI, sn, .inl sf)), (ot, .inr (4, [.ref ota, .int tw, .int th])), (ota, .inl (cI, 64, .inl tf)), (ou, .inr (4, [.ref oua, .int uw, .int uh])), (oua, .inl (cI, 64, .inl uf))]) "java/lang/IndexOutOfBoundsException" := by
  refine tx_ofW (cc := cZQ_at) (maxL := 4) (ret := (some .int)) (by decide) rfl ?_
  intro p e s m args below meth c s₁ B hml hnX hv
  obtain ⟨ha9, hP, hK, hE, hT⟩ := hv
  have hx := B.exec
  have hb := B.bytes
  have hr := B.returns
  have hts0 := atoms_spec (ws := wsZQ_at) B.pre
  have hts : ∀ w ∈ tbg, w.before args s = true := fun w h => hts0 w (List.mem_cons_of_mem _ h)
  have hown : s.vm.findClass RZQ = some m.cls := findClass_of_methodNamed B.named
  have hlocks := B.notSynchronized
  refine gx_Q (fun Q9 hQ9 => ?_)
  have hl := lv_entry ([.ref o0, .int a1, .int a2, .int a3]) (n := 4) (Nat.le_of_ble_eq_true rfl)
  have he9 : entryFrame m args 4 = F0 m 0 ((lg_sl [.ref o0, .int a1, .int a2, .int a3] ++ List.replicate (4 - (lg_sl ([.ref o0, .int a1, .int a2, .int a3] : List Value)).length) Slot.unset).toArray) [] := by rw [ha9]; exact lg_entry_eq m [.ref o0, .int a1, .int a2, .int a3] 4
  rw [he9]
  generalize (lg_sl ([.ref o0, .int a1, .int a2, .int a3] : List Value) ++ List.replicate (4 - (lg_sl ([.ref o0, .int a1, .int a2, .int a3] : List Value)).length) Slot.unset).toArray = ls at hl ⊢
  have hl : lv_has ls 4 [(0, .ref o0), (1, .int a1), (2, .int a2), (3, .int a3)] := hl
  refine lv_aload_n hx hb dZQ_at_0 rfl (lv_at hl 0 rfl) ?_
  refine va_get (D := (dC, dI)) (ci := 5) (v := .ref oy) (C := RZQ) (T := TZQ) (N := 7) hx hb hts inZQ hown hK hP 0 rfl rfl 2 (by decide) (hts _ mm_138) (fun _ h9 => h9) rfl dZQ_at_1 ?_
  refine lv_iload_n hx hb dZQ_at_4 rfl (lv_at hl 1 rfl) ?_
  refine lv_iload_n hx hb dZQ_at_5 rfl (lv_at hl 2 rfl) ?_
  refine lv_iload_n hx hb dZQ_at_6 rfl (lv_at hl 3 rfl) ?_
  have hPc := hP.sub (ws' := [(oy, .inr (2, [.ref op, .int yk])), (op, .inr (1, [.int pw, .int ph, .ref opa])), (opa, .inl (cI, pn, .inl pf))]) [5, 1, 2] rfl
  refine vp_callSi (va_runV (As := [.int a1, .int a2, .int a3]) (rest := []) ⟨hx, hb, hml, hown, hts⟩ (kt_ZY_hasPlace l dC dI cI oy op opa yk pw ph pn pf a1 a2 a3 _ hw) (cwV 3 hts (tb_V mm_398 mm_350 mm_351 mm_4 mm_352) rfl rfl rfl (by decide +kernel) ⟨Nat.le_of_ble_eq_true rfl, Nat.le_of_ble_eq_true rfl⟩) ⟨gr_blind, va_recv hK hPc (ci := 2) (q0 := 0) rfl rfl, fun U hU hW => gr_pre hPc hK hE hU hW⟩ rfl rfl hl.1 rfl (lv_room (Nat.le_of_ble_eq_true rfl)) dZQ_at_7 ⟨Nat.le_of_ble_eq_true rfl, Nat.le_of_ble_eq_true rfl⟩).run (fun r_1 hw => ?_)
  rcases hw with hw | hw
  · subst hQ9
    have hPx := hP.sub (ws' := []) [] rfl
    exact tx_callS (As := [.int r_1]) (rest := []) ⟨hx, hb, hml, hown, hts⟩ (kx_ZQ_requirePlace_I l hl9 dC dI cI  H0 r_1 hw) (va_cwS 1 hts (tb_S mm_239 mm_240 mm_1 mm_241) rfl rfl rfl (by decide +kernel) ⟨Nat.le_of_ble_eq_true rfl, Nat.le_of_ble_eq_true rfl⟩) ⟨tr_blind, fun U hU hW => tr_pre hPx hK hE hT hT.1 hU hW⟩ rfl hl.1 rfl (Nat.le_of_ble_eq_true rfl) dZQ_at_10 hnX hlocks ⟨Nat.le_of_ble_eq_true rfl, Nat.le_of_ble_eq_true rfl⟩
  have hPc := hP.sub (ws' := []) [] rfl
  refine va_csv (va_runS (As := [.int r_1]) (rest := []) ⟨hx, hb, hml, hown, hts⟩ (kt_ZQ_requirePlace l dC dI cI  r_1 _ hw) (va_cwS 1 hts (tb_S mm_239 mm_240 mm_1 mm_241) rfl rfl rfl (by decide +kernel) ⟨Nat.le_of_ble_eq_true rfl, Nat.le_of_ble_eq_true rfl⟩) ⟨gr_blind, fun U hU hW => gr_pre hPc hK hE hU hW⟩ rfl rfl hl.1 rfl (lv_room (Nat.le_of_ble_eq_true rfl)) dZQ_at_10 ⟨Nat.le_of_ble_eq_true rfl, Nat.le_of_ble_eq_true rfl⟩).run (fun hw => ?_)
  refine lv_aload_n hx hb dZQ_at_13 rfl (lv_at hl 0 rfl) ?_
  refine va_get (D := (dC, dI)) (ci := 5) (v := .ref oy) (C := RZQ) (T := TZQ) (N := 7) hx hb hts inZQ hown hK hP 0 rfl rfl 2 (by decide) (hts _ mm_138) (fun _ h9 => h9) rfl dZQ_at_14 ?_
  refine lv_iload_n hx hb dZQ_at_17 rfl (lv_at hl 1 rfl) ?_
  refine lv_iload_n hx hb dZQ_at_18 rfl (lv_at hl 2 rfl) ?_
  refine lv_iload_n hx hb dZQ_at_19 rfl (lv_at hl 3 rfl) ?_
  have hPc := hP.sub (ws' := [(oy, .inr (2, [.ref op, .int yk])), (op, .inr (1, [.int pw, .int ph, .ref opa])), (opa, .inl (cI, pn, .inl pf))]) [5, 1, 2] rfl
  refine vp_callSi (va_runV (As := [.int a1, .int a2, .int a3]) (rest := []) ⟨hx, hb, hml, hown, hts⟩ (kt_ZY_roundedMean l dC dI cI oy op opa yk pw ph pn pf a1 a2 a3 _ hw) (cwV 3 hts (tb_V mm_399 mm_400 mm_401 mm_4 mm_402) rfl rfl rfl (by decide +kernel) ⟨Nat.le_of_ble_eq_true rfl, Nat.le_of_ble_eq_true rfl⟩) ⟨gr_blind, va_recv hK hPc (ci := 2) (q0 := 0) rfl rfl, fun U hU hW => gr_pre hPc hK hE hU hW⟩ rfl rfl hl.1 rfl (lv_room (Nat.le_of_ble_eq_true rfl)) dZQ_at_20 ⟨Nat.le_of_ble_eq_true rfl, Nat.le_of_ble_eq_true rfl⟩).run (fun r_3 hw => ?_)
  exact False.elim hw
theorem dZQ_mean_0 : decode cZQ_mean 0 = .ok (.aload_n 0, 1) := by decide +kernel
theorem dZQ_mean_1 : decode cZQ_mean 1 = .ok (.getfield 35, 3) := by decide +kernel
theorem dZQ_mean_4 : decode cZQ_mean 4 = .ok (.iload_n 1, 1) := by decide +kernel
theorem dZQ_mean_5 : decode cZQ_mean 5 = .ok (.iload_n 2, 1) := by decide +kernel
theorem dZQ_mean_6 : decode cZQ_mean 6 = .ok (.iload_n 3, 1) := by decide +kernel
theorem dZQ_mean_7 : decode cZQ_mean 7 = .ok (.invokevirtual 108, 3) := by decide +kernel
theorem dZQ_mean_10 : decode cZQ_mean 10 = .ok (.ifCond .eq 16, 3) := by decide +kernel
theorem dZQ_mean_13 : decode cZQ_mean 13 = .ok (.iload 4, 2) := by decide +kernel
theorem dZQ_mean_15 : decode cZQ_mean 15 = .ok (.iconst 2, 1) := by decide +kernel
theorem dZQ_mean_16 : decode cZQ_mean 16 = .ok (.invokestatic 97, 3) := by decide +kernel
theorem dZQ_mean_19 : decode cZQ_mean 19 = .ok (.ifCond .eq 7, 3) := by decide +kernel
theorem dZQ_mean_22 : decode cZQ_mean 22 = .ok (.iconst 1, 1) := by decide +kernel
theorem dZQ_mean_23 : decode cZQ_mean 23 = .ok (.goto 4, 3) := by decide +kernel
theorem dZQ_mean_26 : decode cZQ_mean 26 = .ok (.iconst 0, 1) := by decide +kernel
theorem dZQ_mean_27 : decode cZQ_mean 27 = .ok (.invokestatic 73, 3) := by decide +kernel
theorem dZQ_mean_30 : decode cZQ_mean 30 = .ok (.aload_n 0, 1) := by decide +kernel
theorem dZQ_mean_31 : decode cZQ_mean 31 = .ok (.getfield 35, 3) := by decide +kernel
theorem dZQ_mean_34 : decode cZQ_mean 34 = .ok (.iload_n 1, 1) := by decide +kernel
theorem dZQ_mean_35 : decode cZQ_mean 35 = .ok (.iload_n 2, 1) := by decide +kernel
theorem dZQ_mean_36 : decode cZQ_mean 36 = .ok (.iload_n 3, 1) := by decide +kernel
theorem dZQ_mean_37 : decode cZQ_mean 37 = .ok (.invokevirtual 116, 3) := by decide +kernel
theorem dZQ_mean_40 : decode cZQ_mean 40 = .ok (.istore 5, 2) := by decide +kernel
theorem dZQ_mean_42 : decode cZQ_mean 42 = .ok (.aload_n 0, 1) := by decide +kernel
theorem dZQ_mean_43 : decode cZQ_mean 43 = .ok (.getfield 35, 3) := by decide +kernel
theorem dZQ_mean_46 : decode cZQ_mean 46 = .ok (.iload_n 1, 1) := by decide +kernel
theorem dZQ_mean_47 : decode cZQ_mean 47 = .ok (.iload_n 2, 1) := by decide +kernel
theorem dZQ_mean_48 : decode cZQ_mean 48 = .ok (.iload_n 3, 1) := by decide +kernel
theorem dZQ_mean_49 : decode cZQ_mean 49 = .ok (.invokevirtual 119, 3) := by decide +kernel
theorem dZQ_mean_52 : decode cZQ_mean 52 = .ok (.istore 6, 2) := by decide +kernel
theorem dZQ_mean_54 : decode cZQ_mean 54 = .ok (.iload 5, 2) := by decide +kernel
theorem dZQ_mean_56 : decode cZQ_mean 56 = .ok (.iload 6, 2) := by decide +kernel
theorem dZQ_mean_58 : decode cZQ_mean 58 = .ok (.invokestatic 122, 3) := by decide +kernel
theorem dZQ_mean_61 : decode cZQ_mean 61 = .ok (.istore 7, 2) := by decide +kernel
theorem dZQ_mean_63 : decode cZQ_mean 63 = .ok (.iload 4, 2) := by decide +kernel
theorem dZQ_mean_65 : decode cZQ_mean 65 = .ok (.ifCond .ne 8, 3) := by decide +kernel
theorem dZQ_mean_68 : decode cZQ_mean 68 = .ok (.iload 5, 2) := by decide +kernel
theorem dZQ_mean_70 : decode cZQ_mean 70 = .ok (.goto 5, 3) := by decide +kernel
theorem dZQ_mean_73 : decode cZQ_mean 73 = .ok (.iload 6, 2) := by decide +kernel
theorem dZQ_mean_75 : decode cZQ_mean 75 = .ok (.iload 7, 2) := by decide +kernel
theorem dZQ_mean_77 : decode cZQ_mean 77 = .ok (.idiv, 1) := by decide +kernel
theorem dZQ_mean_78 : decode cZQ_mean 78 = .ok (.ireturn, 1) := by decide +kernel
abbrev wsZQ_mean : List Cond := .code yZQ_mean cZQ_mean 8 (some .int) :: tbg
def wp_ZQ_mean (pw : Int32) (ph : Int32) (pn : Nat) (pf : Nat → Int32) (gw : Int32) (gh : Int32) (gn : Nat) (gf : Nat → Int32) (yk : Int32) (bl : Int32) (bf : Nat → Int32) (kn : Nat) (kf : Nat → Int32) (sn : Nat) (sf : Nat → Int32) (sd : Int32) (tw : Int32) (th : Int32) (tf : Nat → Int32) (uw : Int32) (uh : Int32) (uf : Nat → Int32) (a1 : Int32) (a2 : Int32) (a3 : Int32) (a4 : Int32) (post : Int32 → Prop) : Prop := wp_ZY_hasPlace yk pw ph pn pf a1 a2 a3 (fun r_1 : Int32 => ∃ J27 : Int32 → Prop, (∀ (t0_j27 : Int32), J27 t0_j27 → wp_ZQ_requirePlace t0_j27 (wp_ZY_totalUnder yk pw ph pn pf a1 a2 a3 (fun r_3 : Int32 => wp_ZY_countUnder yk pw ph pn pf a1 a2 a3 (fun r_4 : Int32 => wp_ZQ_greatestDivisor r_3 r_4 (fun r_5 : Int32 => ((a4 = (0 : Int32) → (¬ r_5 = 0 ∧ (post (r_3 / r_5)))) ∧ (¬ a4 = (0 : Int32) → (¬ r_5 = 0 ∧ (post (r_4 / r_5)))))))))) ∧ (((r_1 = (0 : Int32) → (J27 (0 : Int32))) ∧ (¬ r_1 = (0 : Int32) → (wp_ZQ_isWithin a4 (2 : Int32) (fun r_10 : Int32 => ((r_10 = (0 : Int32) → (J27 (0 : Int32))) ∧ (¬ r_10 = (0 : Int32) → (J27 (1 : Int32))))))))))
abbrev rm_ZQ_mean : Room := { frames := 3, cells := 0, slots := 0, locals := 72 }
set_option maxHeartbeats 4000000 in
set_option maxRecDepth 100000 in
theorem kt_ZQ_mean (l : Launch) (dC : Nat → ClassId) (dI : Nat → Nat → Nat) (cI : ClassId) (o0 op opa og oga oy ob oba os osa osb ot ota ou oua : Nat) (pw : Int32) (ph : Int32) (pn : Nat) (pf : Nat → Int32) (gw : Int32) (gh : Int32) (gn : Nat) (gf : Nat → Int32) (yk : Int32) (bl : Int32) (bf : Nat → Int32) (kn : Nat) (kf : Nat → Int32) (sn : Nat) (sf : Nat → Int32) (sd : Int32) (tw : Int32) (th : Int32) (tf : Nat → Int32) (uw : Int32) (uh : Int32) (uf : Nat → Int32) (a1 : Int32) (a2 : Int32) (a3 : Int32) (a4 : Int32) (post : Int32 → Prop) (hw : wp_ZQ_mean pw ph pn pf gw gh gn gf yk bl bf kn kf sn sf sd tw th tf uw uh uf a1 a2 a3 a4 post) : Met l yZQ_mean wsZQ_mean rm_ZQ_mean (gr_Pc dC dI [(cI, .int)] [.ref o0, .int a1, .int a2, .int a3, .int a4] [(o0, .inr (5, [.ref op, .ref og, .ref oy, .ref ob, .ref os, .ref ot, .ref ou])), (op, .inr (1, [.int pw, .int ph, .ref opa])), (opa, .inl (cI, pn, .inl pf)), (og, .inr (1, [.int gw, .int gh, .ref oga])), (oga, .inl (cI, gn, .inl gf)), (oy, .inr (2, [.ref op, .int yk])), (ob, .inr (0, [.ref oba, .int bl])), (oba, .inl (cI, 256, .inl bf)), (os, .inr (3, [.ref op, .ref og, .ref osa, .ref osb, .int sd])), (osa, .inl (cI, kn, .inl kf)), (osb, .inl (cI, sn, .inl sf)), (ot, .inr (4, [.ref ota, .int tw, .int th])), (ota, .inl (cI, 64, .inl tf)), (ou, .inr (4, [.ref oua, .int uw, .int uh])), (oua, .inl (cI, 64, .inl uf))]) (vp_Si post) 0 0 (fun _ => False) := by
  refine Met.ofW (cc := cZQ_mean) (maxL := 8) (ret := (some .int)) (by decide) rfl ?_
  intro p e s m args below meth c s₁ B hml hv
  obtain ⟨ha9, hP, hK, hE⟩ := hv
  have hx := B.exec
  have hb := B.bytes
  have hr := B.returns
  have hts0 := atoms_spec (ws := wsZQ_mean) B.pre
  have hts : ∀ w ∈ tbg, w.before args s = true := fun w h => hts0 w (List.mem_cons_of_mem _ h)
  have hown : s.vm.findClass RZQ = some m.cls := findClass_of_methodNamed B.named
  have hlocks := B.notSynchronized
  refine gx_Q (fun Q9 hQ9 => ?_)
  have hl := lv_entry ([.ref o0, .int a1, .int a2, .int a3, .int a4]) (n := 8) (Nat.le_of_ble_eq_true rfl)
  have he9 : entryFrame m args 8 = F0 m 0 ((lg_sl [.ref o0, .int a1, .int a2, .int a3, .int a4] ++ List.replicate (8 - (lg_sl ([.ref o0, .int a1, .int a2, .int a3, .int a4] : List Value)).length) Slot.unset).toArray) [] := by rw [ha9]; exact lg_entry_eq m [.ref o0, .int a1, .int a2, .int a3, .int a4] 8
  rw [he9]
  generalize (lg_sl ([.ref o0, .int a1, .int a2, .int a3, .int a4] : List Value) ++ List.replicate (8 - (lg_sl ([.ref o0, .int a1, .int a2, .int a3, .int a4] : List Value)).length) Slot.unset).toArray = ls at hl ⊢
  have hl : lv_has ls 8 [(0, .ref o0), (1, .int a1), (2, .int a2), (3, .int a3), (4, .int a4)] := hl
  refine lv_aload_n hx hb dZQ_mean_0 rfl (lv_at hl 0 rfl) ?_
  refine va_get (D := (dC, dI)) (ci := 5) (v := .ref oy) (C := RZQ) (T := TZQ) (N := 7) hx hb hts inZQ hown hK hP 0 rfl rfl 2 (by decide) (hts _ mm_138) (fun _ h9 => h9) rfl dZQ_mean_1 ?_
  refine lv_iload_n hx hb dZQ_mean_4 rfl (lv_at hl 1 rfl) ?_
  refine lv_iload_n hx hb dZQ_mean_5 rfl (lv_at hl 2 rfl) ?_
  refine lv_iload_n hx hb dZQ_mean_6 rfl (lv_at hl 3 rfl) ?_
  have hPc := hP.sub (ws' := [(oy, .inr (2, [.ref op, .int yk])), (op, .inr (1, [.int pw, .int ph, .ref opa])), (opa, .inl (cI, pn, .inl pf))]) [5, 1, 2] rfl
  refine vp_callSi (va_runV (As := [.int a1, .int a2, .int a3]) (rest := []) ⟨hx, hb, hml, hown, hts⟩ (kt_ZY_hasPlace l dC dI cI oy op opa yk pw ph pn pf a1 a2 a3 _ hw) (cwV 3 hts (tb_V mm_398 mm_350 mm_351 mm_4 mm_352) rfl rfl rfl (by decide +kernel) ⟨Nat.le_of_ble_eq_true rfl, Nat.le_of_ble_eq_true rfl⟩) ⟨gr_blind, va_recv hK hPc (ci := 2) (q0 := 0) rfl rfl, fun U hU hW => gr_pre hPc hK hE hU hW⟩ rfl rfl hl.1 rfl (lv_room (Nat.le_of_ble_eq_true rfl)) dZQ_mean_7 ⟨Nat.le_of_ble_eq_true rfl, Nat.le_of_ble_eq_true rfl⟩).run (fun r_1 hw => ?_)
  obtain ⟨J27, hJ27, hw⟩ := hw
  have j27 : ∀ (t0_j27 : Int32), J27 t0_j27 → ∀ ls : Array Slot, lv_has ls 8 [(0, .ref o0), (1, .int a1), (2, .int a2), (3, .int a3), (4, .int a4)] → W p l e (headSpec wsZQ_mean rm_ZQ_mean).room s m args below meth c s.heap [] 0 0 Q9 (F0 m 27 ls [.int t0_j27]) := by
    intro t0_j27 hw ls hl
    have hw := hJ27 t0_j27 hw
    have hPc := hP.sub (ws' := []) [] rfl
    refine va_csv (va_runS (As := [.int t0_j27]) (rest := []) ⟨hx, hb, hml, hown, hts⟩ (kt_ZQ_requirePlace l dC dI cI  t0_j27 _ hw) (va_cwS 1 hts (tb_S mm_239 mm_240 mm_1 mm_241) rfl rfl rfl (by decide +kernel) ⟨Nat.le_of_ble_eq_true rfl, Nat.le_of_ble_eq_true rfl⟩) ⟨gr_blind, fun U hU hW => gr_pre hPc hK hE hU hW⟩ rfl rfl hl.1 rfl (lv_room (Nat.le_of_ble_eq_true rfl)) dZQ_mean_27 ⟨Nat.le_of_ble_eq_true rfl, Nat.le_of_ble_eq_true rfl⟩).run (fun hw => ?_)
    refine lv_aload_n hx hb dZQ_mean_30 rfl (lv_at hl 0 rfl) ?_
    refine va_get (D := (dC, dI)) (ci := 5) (v := .ref oy) (C := RZQ) (T := TZQ) (N := 7) hx hb hts inZQ hown hK hP 0 rfl rfl 2 (by decide) (hts _ mm_138) (fun _ h9 => h9) rfl dZQ_mean_31 ?_
    refine lv_iload_n hx hb dZQ_mean_34 rfl (lv_at hl 1 rfl) ?_
    refine lv_iload_n hx hb dZQ_mean_35 rfl (lv_at hl 2 rfl) ?_
    refine lv_iload_n hx hb dZQ_mean_36 rfl (lv_at hl 3 rfl) ?_
    have hPc := hP.sub (ws' := [(oy, .inr (2, [.ref op, .int yk])), (op, .inr (1, [.int pw, .int ph, .ref opa])), (opa, .inl (cI, pn, .inl pf))]) [5, 1, 2] rfl
    refine vp_callSi (va_runV (As := [.int a1, .int a2, .int a3]) (rest := []) ⟨hx, hb, hml, hown, hts⟩ (kt_ZY_totalUnder l dC dI cI oy op opa yk pw ph pn pf a1 a2 a3 _ hw) (cwV 3 hts (tb_V mm_427 mm_412 mm_413 mm_4 mm_414) rfl rfl rfl (by decide +kernel) ⟨Nat.le_of_ble_eq_true rfl, Nat.le_of_ble_eq_true rfl⟩) ⟨gr_blind, va_recv hK hPc (ci := 2) (q0 := 0) rfl rfl, fun U hU hW => gr_pre hPc hK hE hU hW⟩ rfl rfl hl.1 rfl (lv_room (Nat.le_of_ble_eq_true rfl)) dZQ_mean_37 ⟨Nat.le_of_ble_eq_true rfl, Nat.le_of_ble_eq_true rfl⟩).run (fun r_3 hw => ?_)
    refine lv_istore (lv' := [(5, .int r_3), (0, .ref o0), (1, .int a1), (2, .int a2), (3, .int a3), (4, .int a4)]) hx hb dZQ_mean_40 hl (by decide) rfl (fun ls hl => ?_)
    refine lv_aload_n hx hb dZQ_mean_42 rfl (lv_at hl 1 rfl) ?_
    refine va_get (D := (dC, dI)) (ci := 5) (v := .ref oy) (C := RZQ) (T := TZQ) (N := 7) hx hb hts inZQ hown hK hP 0 rfl rfl 2 (by decide) (hts _ mm_138) (fun _ h9 => h9) rfl dZQ_mean_43 ?_
    refine lv_iload_n hx hb dZQ_mean_46 rfl (lv_at hl 2 rfl) ?_
    refine lv_iload_n hx hb dZQ_mean_47 rfl (lv_at hl 3 rfl) ?_
    refine lv_iload_n hx hb dZQ_mean_48 rfl (lv_at hl 4 rfl) ?_
    have hPc := hP.sub (ws' := [(oy, .inr (2, [.ref op, .int yk])), (op, .inr (1, [.int pw, .int ph, .ref opa])), (opa, .inl (cI, pn, .inl pf))]) [5, 1, 2] rfl
    refine vp_callSi (va_runV (As := [.int a1, .int a2, .int a3]) (rest := []) ⟨hx, hb, hml, hown, hts⟩ (kt_ZY_countUnder l dC dI cI oy op opa yk pw ph pn pf a1 a2 a3 _ hw) (cwV 3 hts (tb_V mm_428 mm_404 mm_405 mm_4 mm_406) rfl rfl rfl (by decide +kernel) ⟨Nat.le_of_ble_eq_true rfl, Nat.le_of_ble_eq_true rfl⟩) ⟨gr_blind, va_recv hK hPc (ci := 2) (q0 := 0) rfl rfl, fun U hU hW => gr_pre hPc hK hE hU hW⟩ rfl rfl hl.1 rfl (lv_room (Nat.le_of_ble_eq_true rfl)) dZQ_mean_49 ⟨Nat.le_of_ble_eq_true rfl, Nat.le_of_ble_eq_true rfl⟩).run (fun r_4 hw => ?_)
    refine lv_istore (lv' := [(6, .int r_4), (5, .int r_3), (0, .ref o0), (1, .int a1), (2, .int a2), (3, .int a3), (4, .int a4)]) hx hb dZQ_mean_52 hl (by decide) rfl (fun ls hl => ?_)
    refine lv_iload hx hb dZQ_mean_54 (lv_at hl 1 rfl) ?_
    refine lv_iload hx hb dZQ_mean_56 (lv_at hl 0 rfl) ?_
    have hPc := hP.sub (ws' := []) [] rfl
    refine vp_callSi (va_runS (As := [.int r_3, .int r_4]) (rest := []) ⟨hx, hb, hml, hown, hts⟩ (kt_ZQ_greatestDivisor l dC dI cI  r_3 r_4 _ hw) (va_cwS 2 hts (tb_S mm_429 mm_430 mm_1 mm_431) rfl rfl rfl (by decide +kernel) ⟨Nat.le_of_ble_eq_true rfl, Nat.le_of_ble_eq_true rfl⟩) ⟨gr_blind, fun U hU hW => gr_pre hPc hK hE hU hW⟩ rfl rfl hl.1 rfl (lv_room (Nat.le_of_ble_eq_true rfl)) dZQ_mean_58 ⟨Nat.le_of_ble_eq_true rfl, Nat.le_of_ble_eq_true rfl⟩).run (fun r_5 hw => ?_)
    refine lv_istore (lv' := [(7, .int r_5), (6, .int r_4), (5, .int r_3), (0, .ref o0), (1, .int a1), (2, .int a2), (3, .int a3), (4, .int a4)]) hx hb dZQ_mean_61 hl (by decide) rfl (fun ls hl => ?_)
    refine lv_iload hx hb dZQ_mean_63 (lv_at hl 7 rfl) ?_
    refine lv_if_ne (tgt := 73) hx hb dZQ_mean_65 (by decide) (fun c_6 => ?_) (fun c_6 => ?_)
    · have hw := hw.2 c_6
      refine lv_iload hx hb dZQ_mean_73 (lv_at hl 1 rfl) ?_
      refine lv_iload hx hb dZQ_mean_75 (lv_at hl 0 rfl) ?_
      obtain ⟨h_7, hw⟩ := hw
      refine lv_idiv hx hb dZQ_mean_77 h_7 ?_
      subst hQ9
      exact W.iret (v := r_4 / r_5) hx hb hr (fun t ht hW => ⟨r_4 / r_5, rfl, hw, ht⟩) (fun q h => nomatch h) dZQ_mean_78
    · have hw := hw.1 c_6
      refine lv_iload hx hb dZQ_mean_68 (lv_at hl 2 rfl) ?_
      refine lv_goto (tgt := 75) hx hb dZQ_mean_70 (by decide) ?_
      refine lv_iload hx hb dZQ_mean_75 (lv_at hl 0 rfl) ?_
      obtain ⟨h_8, hw⟩ := hw
      refine lv_idiv hx hb dZQ_mean_77 h_8 ?_
      subst hQ9
      exact W.iret (v := r_3 / r_5) hx hb hr (fun t ht hW => ⟨r_3 / r_5, rfl, hw, ht⟩) (fun q h => nomatch h) dZQ_mean_78
  refine lv_if_eq (tgt := 26) hx hb dZQ_mean_10 (by decide) (fun c_9 => ?_) (fun c_9 => ?_)
  · have hw := hw.1 c_9
    refine lv_iconst (v := (0 : Int32)) hx hb dZQ_mean_26 (by decide) ?_
    exact j27 (0 : Int32) hw ls (lv_sub hl [0, 1, 2, 3, 4] rfl)
  · have hw := hw.2 c_9
    refine lv_iload hx hb dZQ_mean_13 (lv_at hl 4 rfl) ?_
    refine lv_iconst (v := (2 : Int32)) hx hb dZQ_mean_15 (by decide) ?_
    have hPc := hP.sub (ws' := []) [] rfl
    refine vp_callSi (va_runS (As := [.int a4, .int (2 : Int32)]) (rest := []) ⟨hx, hb, hml, hown, hts⟩ (kt_ZQ_isWithin l dC dI cI  a4 (2 : Int32) _ hw) (va_cwS 2 hts (tb_S mm_236 mm_237 mm_1 mm_238) rfl rfl rfl (by decide +kernel) ⟨Nat.le_of_ble_eq_true rfl, Nat.le_of_ble_eq_true rfl⟩) ⟨gr_blind, fun U hU hW => gr_pre hPc hK hE hU hW⟩ rfl rfl hl.1 rfl (lv_room (Nat.le_of_ble_eq_true rfl)) dZQ_mean_16 ⟨Nat.le_of_ble_eq_true rfl, Nat.le_of_ble_eq_true rfl⟩).run (fun r_10 hw => ?_)
    refine lv_if_eq (tgt := 26) hx hb dZQ_mean_19 (by decide) (fun c_11 => ?_) (fun c_11 => ?_)
    · have hw := hw.1 c_11
      refine lv_iconst (v := (0 : Int32)) hx hb dZQ_mean_26 (by decide) ?_
      exact j27 (0 : Int32) hw ls (lv_sub hl [0, 1, 2, 3, 4] rfl)
    · have hw := hw.2 c_11
      refine lv_iconst (v := (1 : Int32)) hx hb dZQ_mean_22 (by decide) ?_
      refine lv_goto (tgt := 27) hx hb dZQ_mean_23 (by decide) ?_
      exact j27 (1 : Int32) hw ls (lv_sub hl [0, 1, 2, 3, 4] rfl)
def xp_ZQ_mean_I (pw : Int32) (ph : Int32) (pn : Nat) (pf : Nat → Int32) (gw : Int32) (gh : Int32) (gn : Nat) (gf : Nat → Int32) (yk : Int32) (bl : Int32) (bf : Nat → Int32) (kn : Nat) (kf : Nat → Int32) (sn : Nat) (sf : Nat → Int32) (sd : Int32) (tw : Int32) (th : Int32) (tf : Nat → Int32) (uw : Int32) (uh : Int32) (uf : Nat → Int32) (a1 : Int32) (a2 : Int32) (a3 : Int32) (a4 : Int32) : Prop := wp_ZY_hasPlace yk pw ph pn pf a1 a2 a3 (fun r_1 : Int32 => ∃ J27 : Int32 → Prop, (∀ (t0_j27 : Int32), J27 t0_j27 → (xp_ZQ_requirePlace_I t0_j27) ∨ (wp_ZQ_requirePlace t0_j27 (wp_ZY_totalUnder yk pw ph pn pf a1 a2 a3 (fun r_3 : Int32 => wp_ZY_countUnder yk pw ph pn pf a1 a2 a3 (fun r_4 : Int32 => wp_ZQ_greatestDivisor r_3 r_4 (fun r_5 : Int32 => ((a4 = (0 : Int32) → (¬ r_5 = 0 ∧ (False))) ∧ (¬ a4 = (0 : Int32) → (¬ r_5 = 0 ∧ (False)))))))))) ∧ (((r_1 = (0 : Int32) → (J27 (0 : Int32))) ∧ (¬ r_1 = (0 : Int32) → (wp_ZQ_isWithin a4 (2 : Int32) (fun r_10 : Int32 => ((r_10 = (0 : Int32) → (J27 (0 : Int32))) ∧ (¬ r_10 = (0 : Int32) → (J27 (1 : Int32))))))))))
abbrev rm_ZQ_mean_I : Room := { frames := 7, cells := 1, slots := 6, locals := 111 }
set_option maxHeartbeats 4000000 in
set_option maxRecDepth 100000 in
theorem kx_ZQ_mean_I (l : Launch) (hl9 : l.stackTraces = false) (dC : Nat → ClassId) (dI : Nat → Nat → Nat) (cI : ClassId) (o0 op opa og oga oy ob oba os osa osb ot ota ou oua : Nat) (H0 : Heap) (pw : Int32) (ph : Int32) (pn : Nat) (pf : Nat → Int32) (gw : Int32) (gh : Int32) (gn : Nat) (gf : Nat → Int32) (yk : Int32) (bl : Int32) (bf : Nat → Int32) (kn : Nat) (kf : Nat → Int32) (sn : Nat) (sf : Nat → Int32) (sd : Int32) (tw : Int32) (th : Int32) (tf : Nat → Int32) (uw : Int32) (uh : Int32) (uf : Nat → Int32) (a1 : Int32) (a2 : Int32) (a3 : Int32) (a4 : Int32) (hw : xp_ZQ_mean_I pw ph pn pf gw gh gn gf yk bl bf kn kf sn sf sd tw th tf uw uh uf a1 a2 a3 a4) : tx_Met l yZQ_mean wsZQ_mean rm_ZQ_mean_I (tr_Pc H0 dC dI [(cI, .int)] [.ref o0, .int a1, .int a2, .int a3, .int a4] [(o0, .inr (5, [.ref op, .ref og, .ref oy, .ref ob, .ref os, .ref ot, .ref ou])), (op, .inr (1, [.int pw, .int ph, .ref opa])), (opa, .inl (cI, pn, .inl pf)), (og, .inr (1, [.int gw, .int gh, .ref oga])), (oga, .inl (cI, gn, .inl gf)), (oy, .inr (2, [.ref op, .int yk])), (ob, .inr (0, [.ref oba, .int bl])), (oba, .inl (cI, 256, .inl bf)), (os, .inr (3, [.ref op, .ref og, .ref osa, .ref osb, .int sd])), (osa, .inl (cI, kn, .inl kf)), (osb, .inl (cI, sn, .inl sf)), (ot, .inr (4, [.ref ota, .int tw, .int th])), (ota, .inl (cI, 64, .inl tf)), (ou, .inr (4, [.ref oua, .int uw, .int uh])), (oua, .inl (cI, 64, .inl uf))]) "java/lang/IndexOutOfBoundsException" := by
  refine tx_ofW (cc := cZQ_mean) (maxL := 8) (ret := (some .int)) (by decide) rfl ?_
  intro p e s m args below meth c s₁ B hml hnX hv
  obtain ⟨ha9, hP, hK, hE, hT⟩ := hv
  have hx := B.exec
  have hb := B.bytes
  have hr := B.returns
  have hts0 := atoms_spec (ws := wsZQ_mean) B.pre
  have hts : ∀ w ∈ tbg, w.before args s = true := fun w h => hts0 w (List.mem_cons_of_mem _ h)
  have hown : s.vm.findClass RZQ = some m.cls := findClass_of_methodNamed B.named
  have hlocks := B.notSynchronized
  refine gx_Q (fun Q9 hQ9 => ?_)
  have hl := lv_entry ([.ref o0, .int a1, .int a2, .int a3, .int a4]) (n := 8) (Nat.le_of_ble_eq_true rfl)
  have he9 : entryFrame m args 8 = F0 m 0 ((lg_sl [.ref o0, .int a1, .int a2, .int a3, .int a4] ++ List.replicate (8 - (lg_sl ([.ref o0, .int a1, .int a2, .int a3, .int a4] : List Value)).length) Slot.unset).toArray) [] := by rw [ha9]; exact lg_entry_eq m [.ref o0, .int a1, .int a2, .int a3, .int a4] 8
  rw [he9]
  generalize (lg_sl ([.ref o0, .int a1, .int a2, .int a3, .int a4] : List Value) ++ List.replicate (8 - (lg_sl ([.ref o0, .int a1, .int a2, .int a3, .int a4] : List Value)).length) Slot.unset).toArray = ls at hl ⊢
  have hl : lv_has ls 8 [(0, .ref o0), (1, .int a1), (2, .int a2), (3, .int a3), (4, .int a4)] := hl
  refine lv_aload_n hx hb dZQ_mean_0 rfl (lv_at hl 0 rfl) ?_
  refine va_get (D := (dC, dI)) (ci := 5) (v := .ref oy) (C := RZQ) (T := TZQ) (N := 7) hx hb hts inZQ hown hK hP 0 rfl rfl 2 (by decide) (hts _ mm_138) (fun _ h9 => h9) rfl dZQ_mean_1 ?_
  refine lv_iload_n hx hb dZQ_mean_4 rfl (lv_at hl 1 rfl) ?_
  refine lv_iload_n hx hb dZQ_mean_5 rfl (lv_at hl 2 rfl) ?_
  refine lv_iload_n hx hb dZQ_mean_6 rfl (lv_at hl 3 rfl) ?_
  have hPc := hP.sub (ws' := [(oy, .inr (2, [.ref op, .int yk])), (op, .inr (1, [.int pw, .int ph, .ref opa])), (opa, .inl (cI, pn, .inl pf))]) [5, 1, 2] rfl
  refine vp_callSi (va_runV (As := [.int a1, .int a2, .int a3]) (rest := []) ⟨hx, hb, hml, hown, hts⟩ (kt_ZY_hasPlace l dC dI cI oy op opa yk pw ph pn pf a1 a2 a3 _ hw) (cwV 3 hts (tb_V mm_398 mm_350 mm_351 mm_4 mm_352) rfl rfl rfl (by decide +kernel) ⟨Nat.le_of_ble_eq_true rfl, Nat.le_of_ble_eq_true rfl⟩) ⟨gr_blind, va_recv hK hPc (ci := 2) (q0 := 0) rfl rfl, fun U hU hW => gr_pre hPc hK hE hU hW⟩ rfl rfl hl.1 rfl (lv_room (Nat.le_of_ble_eq_true rfl)) dZQ_mean_7 ⟨Nat.le_of_ble_eq_true rfl, Nat.le_of_ble_eq_true rfl⟩).run (fun r_1 hw => ?_)
  obtain ⟨J27, hJ27, hw⟩ := hw
  have j27 : ∀ (t0_j27 : Int32), J27 t0_j27 → ∀ ls : Array Slot, lv_has ls 8 [(0, .ref o0), (1, .int a1), (2, .int a2), (3, .int a3), (4, .int a4)] → W p l e (headSpec wsZQ_mean rm_ZQ_mean_I).room s m args below meth c s.heap [] 0 0 Q9 (F0 m 27 ls [.int t0_j27]) := by
    intro t0_j27 hw ls hl
    have hw := hJ27 t0_j27 hw
    rcases hw with hw | hw
    · subst hQ9
      have hPx := hP.sub (ws' := []) [] rfl
      exact tx_callS (As := [.int t0_j27]) (rest := []) ⟨hx, hb, hml, hown, hts⟩ (kx_ZQ_requirePlace_I l hl9 dC dI cI  H0 t0_j27 hw) (va_cwS 1 hts (tb_S mm_239 mm_240 mm_1 mm_241) rfl rfl rfl (by decide +kernel) ⟨Nat.le_of_ble_eq_true rfl, Nat.le_of_ble_eq_true rfl⟩) ⟨tr_blind, fun U hU hW => tr_pre hPx hK hE hT hT.1 hU hW⟩ rfl hl.1 rfl (Nat.le_of_ble_eq_true rfl) dZQ_mean_27 hnX hlocks ⟨Nat.le_of_ble_eq_true rfl, Nat.le_of_ble_eq_true rfl⟩
    have hPc := hP.sub (ws' := []) [] rfl
    refine va_csv (va_runS (As := [.int t0_j27]) (rest := []) ⟨hx, hb, hml, hown, hts⟩ (kt_ZQ_requirePlace l dC dI cI  t0_j27 _ hw) (va_cwS 1 hts (tb_S mm_239 mm_240 mm_1 mm_241) rfl rfl rfl (by decide +kernel) ⟨Nat.le_of_ble_eq_true rfl, Nat.le_of_ble_eq_true rfl⟩) ⟨gr_blind, fun U hU hW => gr_pre hPc hK hE hU hW⟩ rfl rfl hl.1 rfl (lv_room (Nat.le_of_ble_eq_true rfl)) dZQ_mean_27 ⟨Nat.le_of_ble_eq_true rfl, Nat.le_of_ble_eq_true rfl⟩).run (fun hw => ?_)
    refine lv_aload_n hx hb dZQ_mean_30 rfl (lv_at hl 0 rfl) ?_
    refine va_get (D := (dC, dI)) (ci := 5) (v := .ref oy) (C := RZQ) (T := TZQ) (N := 7) hx hb hts inZQ hown hK hP 0 rfl rfl 2 (by decide) (hts _ mm_138) (fun _ h9 => h9) rfl dZQ_mean_31 ?_
    refine lv_iload_n hx hb dZQ_mean_34 rfl (lv_at hl 1 rfl) ?_
    refine lv_iload_n hx hb dZQ_mean_35 rfl (lv_at hl 2 rfl) ?_
    refine lv_iload_n hx hb dZQ_mean_36 rfl (lv_at hl 3 rfl) ?_
    have hPc := hP.sub (ws' := [(oy, .inr (2, [.ref op, .int yk])), (op, .inr (1, [.int pw, .int ph, .ref opa])), (opa, .inl (cI, pn, .inl pf))]) [5, 1, 2] rfl
    refine vp_callSi (va_runV (As := [.int a1, .int a2, .int a3]) (rest := []) ⟨hx, hb, hml, hown, hts⟩ (kt_ZY_totalUnder l dC dI cI oy op opa yk pw ph pn pf a1 a2 a3 _ hw) (cwV 3 hts (tb_V mm_427 mm_412 mm_413 mm_4 mm_414) rfl rfl rfl (by decide +kernel) ⟨Nat.le_of_ble_eq_true rfl, Nat.le_of_ble_eq_true rfl⟩) ⟨gr_blind, va_recv hK hPc (ci := 2) (q0 := 0) rfl rfl, fun U hU hW => gr_pre hPc hK hE hU hW⟩ rfl rfl hl.1 rfl (lv_room (Nat.le_of_ble_eq_true rfl)) dZQ_mean_37 ⟨Nat.le_of_ble_eq_true rfl, Nat.le_of_ble_eq_true rfl⟩).run (fun r_3 hw => ?_)
    refine lv_istore (lv' := [(5, .int r_3), (0, .ref o0), (1, .int a1), (2, .int a2), (3, .int a3), (4, .int a4)]) hx hb dZQ_mean_40 hl (by decide) rfl (fun ls hl => ?_)
    refine lv_aload_n hx hb dZQ_mean_42 rfl (lv_at hl 1 rfl) ?_
    refine va_get (D := (dC, dI)) (ci := 5) (v := .ref oy) (C := RZQ) (T := TZQ) (N := 7) hx hb hts inZQ hown hK hP 0 rfl rfl 2 (by decide) (hts _ mm_138) (fun _ h9 => h9) rfl dZQ_mean_43 ?_
    refine lv_iload_n hx hb dZQ_mean_46 rfl (lv_at hl 2 rfl) ?_
    refine lv_iload_n hx hb dZQ_mean_47 rfl (lv_at hl 3 rfl) ?_
    refine lv_iload_n hx hb dZQ_mean_48 rfl (lv_at hl 4 rfl) ?_
    have hPc := hP.sub (ws' := [(oy, .inr (2, [.ref op, .int yk])), (op, .inr (1, [.int pw, .int ph, .ref opa])), (opa, .inl (cI, pn, .inl pf))]) [5, 1, 2] rfl
    refine vp_callSi (va_runV (As := [.int a1, .int a2, .int a3]) (rest := []) ⟨hx, hb, hml, hown, hts⟩ (kt_ZY_countUnder l dC dI cI oy op opa yk pw ph pn pf a1 a2 a3 _ hw) (cwV 3 hts (tb_V mm_428 mm_404 mm_405 mm_4 mm_406) rfl rfl rfl (by decide +kernel) ⟨Nat.le_of_ble_eq_true rfl, Nat.le_of_ble_eq_true rfl⟩) ⟨gr_blind, va_recv hK hPc (ci := 2) (q0 := 0) rfl rfl, fun U hU hW => gr_pre hPc hK hE hU hW⟩ rfl rfl hl.1 rfl (lv_room (Nat.le_of_ble_eq_true rfl)) dZQ_mean_49 ⟨Nat.le_of_ble_eq_true rfl, Nat.le_of_ble_eq_true rfl⟩).run (fun r_4 hw => ?_)
    refine lv_istore (lv' := [(6, .int r_4), (5, .int r_3), (0, .ref o0), (1, .int a1), (2, .int a2), (3, .int a3), (4, .int a4)]) hx hb dZQ_mean_52 hl (by decide) rfl (fun ls hl => ?_)
    refine lv_iload hx hb dZQ_mean_54 (lv_at hl 1 rfl) ?_
    refine lv_iload hx hb dZQ_mean_56 (lv_at hl 0 rfl) ?_
    have hPc := hP.sub (ws' := []) [] rfl
    refine vp_callSi (va_runS (As := [.int r_3, .int r_4]) (rest := []) ⟨hx, hb, hml, hown, hts⟩ (kt_ZQ_greatestDivisor l dC dI cI  r_3 r_4 _ hw) (va_cwS 2 hts (tb_S mm_429 mm_430 mm_1 mm_431) rfl rfl rfl (by decide +kernel) ⟨Nat.le_of_ble_eq_true rfl, Nat.le_of_ble_eq_true rfl⟩) ⟨gr_blind, fun U hU hW => gr_pre hPc hK hE hU hW⟩ rfl rfl hl.1 rfl (lv_room (Nat.le_of_ble_eq_true rfl)) dZQ_mean_58 ⟨Nat.le_of_ble_eq_true rfl, Nat.le_of_ble_eq_true rfl⟩).run (fun r_5 hw => ?_)
    refine lv_istore (lv' := [(7, .int r_5), (6, .int r_4), (5, .int r_3), (0, .ref o0), (1, .int a1), (2, .int a2), (3, .int a3), (4, .int a4)]) hx hb dZQ_mean_61 hl (by decide) rfl (fun ls hl => ?_)
    refine lv_iload hx hb dZQ_mean_63 (lv_at hl 7 rfl) ?_
    refine lv_if_ne (tgt := 73) hx hb dZQ_mean_65 (by decide) (fun c_6 => ?_) (fun c_6 => ?_)
    · have hw := hw.2 c_6
      refine lv_iload hx hb dZQ_mean_73 (lv_at hl 1 rfl) ?_
      refine lv_iload hx hb dZQ_mean_75 (lv_at hl 0 rfl) ?_
      obtain ⟨h_7, hw⟩ := hw
      refine lv_idiv hx hb dZQ_mean_77 h_7 ?_
      exact False.elim hw
    · have hw := hw.1 c_6
      refine lv_iload hx hb dZQ_mean_68 (lv_at hl 2 rfl) ?_
      refine lv_goto (tgt := 75) hx hb dZQ_mean_70 (by decide) ?_
      refine lv_iload hx hb dZQ_mean_75 (lv_at hl 0 rfl) ?_
      obtain ⟨h_8, hw⟩ := hw
      refine lv_idiv hx hb dZQ_mean_77 h_8 ?_
      exact False.elim hw
  refine lv_if_eq (tgt := 26) hx hb dZQ_mean_10 (by decide) (fun c_9 => ?_) (fun c_9 => ?_)
  · have hw := hw.1 c_9
    refine lv_iconst (v := (0 : Int32)) hx hb dZQ_mean_26 (by decide) ?_
    exact j27 (0 : Int32) hw ls (lv_sub hl [0, 1, 2, 3, 4] rfl)
  · have hw := hw.2 c_9
    refine lv_iload hx hb dZQ_mean_13 (lv_at hl 4 rfl) ?_
    refine lv_iconst (v := (2 : Int32)) hx hb dZQ_mean_15 (by decide) ?_
    have hPc := hP.sub (ws' := []) [] rfl
    refine vp_callSi (va_runS (As := [.int a4, .int (2 : Int32)]) (rest := []) ⟨hx, hb, hml, hown, hts⟩ (kt_ZQ_isWithin l dC dI cI  a4 (2 : Int32) _ hw) (va_cwS 2 hts (tb_S mm_236 mm_237 mm_1 mm_238) rfl rfl rfl (by decide +kernel) ⟨Nat.le_of_ble_eq_true rfl, Nat.le_of_ble_eq_true rfl⟩) ⟨gr_blind, fun U hU hW => gr_pre hPc hK hE hU hW⟩ rfl rfl hl.1 rfl (lv_room (Nat.le_of_ble_eq_true rfl)) dZQ_mean_16 ⟨Nat.le_of_ble_eq_true rfl, Nat.le_of_ble_eq_true rfl⟩).run (fun r_10 hw => ?_)
    refine lv_if_eq (tgt := 26) hx hb dZQ_mean_19 (by decide) (fun c_11 => ?_) (fun c_11 => ?_)
    · have hw := hw.1 c_11
      refine lv_iconst (v := (0 : Int32)) hx hb dZQ_mean_26 (by decide) ?_
      exact j27 (0 : Int32) hw ls (lv_sub hl [0, 1, 2, 3, 4] rfl)
    · have hw := hw.2 c_11
      refine lv_iconst (v := (1 : Int32)) hx hb dZQ_mean_22 (by decide) ?_
      refine lv_goto (tgt := 27) hx hb dZQ_mean_23 (by decide) ?_
      exact j27 (1 : Int32) hw ls (lv_sub hl [0, 1, 2, 3, 4] rfl)
