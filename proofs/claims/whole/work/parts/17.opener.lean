theorem dZO_isSide_0 : decode cZO_isSide 0 = .ok (.iload_n 0, 1) := by decide +kernel
theorem dZO_isSide_1 : decode cZO_isSide 1 = .ok (.iconst 1, 1) := by decide +kernel
theorem dZO_isSide_2 : decode cZO_isSide 2 = .ok (.if_icmp .lt 13, 3) := by decide +kernel
theorem dZO_isSide_5 : decode cZO_isSide 5 = .ok (.iload_n 0, 1) := by decide +kernel
theorem dZO_isSide_6 : decode cZO_isSide 6 = .ok (.bipush 8, 2) := by decide +kernel
theorem dZO_isSide_8 : decode cZO_isSide 8 = .ok (.if_icmp .gt 7, 3) := by decide +kernel
theorem dZO_isSide_11 : decode cZO_isSide 11 = .ok (.iconst 1, 1) := by decide +kernel
theorem dZO_isSide_12 : decode cZO_isSide 12 = .ok (.goto 4, 3) := by decide +kernel
theorem dZO_isSide_15 : decode cZO_isSide 15 = .ok (.iconst 0, 1) := by decide +kernel
theorem dZO_isSide_16 : decode cZO_isSide 16 = .ok (.ireturn, 1) := by decide +kernel
abbrev wsZO_isSide : List Cond := .code yZO_isSide cZO_isSide 1 (some .boolean) :: tbg
def wp_ZO_isSide (a1 : Int32) (post : Int32 → Prop) : Prop := ((a1 < (1 : Int32) → (post (0 : Int32))) ∧ (¬ a1 < (1 : Int32) → (((8 : Int32) < a1 → (post (0 : Int32))) ∧ (¬ (8 : Int32) < a1 → (post (1 : Int32))))))
abbrev rm_ZO_isSide : Room := { frames := 0, cells := 0, slots := 0, locals := 0 }
set_option maxHeartbeats 4000000 in
set_option maxRecDepth 100000 in
theorem kt_ZO_isSide (l : Launch) (dC : Nat → ClassId) (dI : Nat → Nat → Nat) (cI : ClassId) (a1 : Int32) (post : Int32 → Prop) (hw : wp_ZO_isSide a1 post) : Met l yZO_isSide wsZO_isSide rm_ZO_isSide (gr_Pc dC dI [(cI, .int)] [.int a1] []) (vp_Si post) 0 0 (fun _ => False) := by
  refine Met.ofW (cc := cZO_isSide) (maxL := 1) (ret := (some .boolean)) (by decide) rfl ?_
  intro p e s m args below meth c s₁ B hml hv
  obtain ⟨ha9, hP, hK, hE⟩ := hv
  have hx := B.exec
  have hb := B.bytes
  have hr := B.returns
  have hts0 := atoms_spec (ws := wsZO_isSide) B.pre
  have hts : ∀ w ∈ tbg, w.before args s = true := fun w h => hts0 w (List.mem_cons_of_mem _ h)
  have hown : s.vm.findClass RZO = some m.cls := findClass_of_methodNamed B.named
  have hlocks := B.notSynchronized
  refine gx_Q (fun Q9 hQ9 => ?_)
  have hl := lv_entry ([.int a1]) (n := 1) (Nat.le_of_ble_eq_true rfl)
  have he9 : entryFrame m args 1 = F0 m 0 ((lg_sl [.int a1] ++ List.replicate (1 - (lg_sl ([.int a1] : List Value)).length) Slot.unset).toArray) [] := by rw [ha9]; exact lg_entry_eq m [.int a1] 1
  rw [he9]
  generalize (lg_sl ([.int a1] : List Value) ++ List.replicate (1 - (lg_sl ([.int a1] : List Value)).length) Slot.unset).toArray = ls at hl ⊢
  have hl : lv_has ls 1 [(0, .int a1)] := hl
  refine lv_iload_n hx hb dZO_isSide_0 rfl (lv_at hl 0 rfl) ?_
  refine lv_iconst (v := (1 : Int32)) hx hb dZO_isSide_1 (by decide) ?_
  refine lv_icmp_lt (tgt := 15) hx hb dZO_isSide_2 (by decide) (fun c_1 => ?_) (fun c_1 => ?_)
  · have hw := hw.1 c_1
    refine lv_iconst (v := (0 : Int32)) hx hb dZO_isSide_15 (by decide) ?_
    subst hQ9
    exact W.zret (v := (0 : Int32)) (ty := .boolean) hx hb hr rfl (fun t ht hW => ⟨(0 : Int32), rfl, hw, ht⟩) (fun q h => nomatch h) dZO_isSide_16
  · have hw := hw.2 c_1
    refine lv_iload_n hx hb dZO_isSide_5 rfl (lv_at hl 0 rfl) ?_
    refine lv_bipush (v := (8 : Int32)) hx hb dZO_isSide_6 (by decide) ?_
    refine lv_icmp_gt (tgt := 15) hx hb dZO_isSide_8 (by decide) (fun c_2 => ?_) (fun c_2 => ?_)
    · have hw := hw.1 c_2
      refine lv_iconst (v := (0 : Int32)) hx hb dZO_isSide_15 (by decide) ?_
      subst hQ9
      exact W.zret (v := (0 : Int32)) (ty := .boolean) hx hb hr rfl (fun t ht hW => ⟨(0 : Int32), rfl, hw, ht⟩) (fun q h => nomatch h) dZO_isSide_16
    · have hw := hw.2 c_2
      refine lv_iconst (v := (1 : Int32)) hx hb dZO_isSide_11 (by decide) ?_
      refine lv_goto (tgt := 16) hx hb dZO_isSide_12 (by decide) ?_
      subst hQ9
      exact W.zret (v := (1 : Int32)) (ty := .boolean) hx hb hr rfl (fun t ht hW => ⟨(1 : Int32), rfl, hw, ht⟩) (fun q h => nomatch h) dZO_isSide_16
theorem dZO_differenceOf_0 : decode cZO_differenceOf 0 = .ok (.iload_n 0, 1) := by decide +kernel
theorem dZO_differenceOf_1 : decode cZO_differenceOf 1 = .ok (.iconst 2, 1) := by decide +kernel
theorem dZO_differenceOf_2 : decode cZO_differenceOf 2 = .ok (.irem, 1) := by decide +kernel
theorem dZO_differenceOf_3 : decode cZO_differenceOf 3 = .ok (.ifCond .ne 9, 3) := by decide +kernel
theorem dZO_differenceOf_6 : decode cZO_differenceOf 6 = .ok (.iload_n 0, 1) := by decide +kernel
theorem dZO_differenceOf_7 : decode cZO_differenceOf 7 = .ok (.iconst 2, 1) := by decide +kernel
theorem dZO_differenceOf_8 : decode cZO_differenceOf 8 = .ok (.idiv, 1) := by decide +kernel
theorem dZO_differenceOf_9 : decode cZO_differenceOf 9 = .ok (.goto 9, 3) := by decide +kernel
theorem dZO_differenceOf_12 : decode cZO_differenceOf 12 = .ok (.iload_n 0, 1) := by decide +kernel
theorem dZO_differenceOf_13 : decode cZO_differenceOf 13 = .ok (.iconst 2, 1) := by decide +kernel
theorem dZO_differenceOf_14 : decode cZO_differenceOf 14 = .ok (.idiv, 1) := by decide +kernel
theorem dZO_differenceOf_15 : decode cZO_differenceOf 15 = .ok (.ineg, 1) := by decide +kernel
theorem dZO_differenceOf_16 : decode cZO_differenceOf 16 = .ok (.iconst 1, 1) := by decide +kernel
theorem dZO_differenceOf_17 : decode cZO_differenceOf 17 = .ok (.isub, 1) := by decide +kernel
theorem dZO_differenceOf_18 : decode cZO_differenceOf 18 = .ok (.ireturn, 1) := by decide +kernel
abbrev wsZO_differenceOf : List Cond := .code yZO_differenceOf cZO_differenceOf 1 (some .int) :: tbg
def wp_ZO_differenceOf (a1 : Int32) (post : Int32 → Prop) : Prop := (((a1 - a1 / (2 : Int32) * (2 : Int32)) = (0 : Int32) → (post (a1 / (2 : Int32)))) ∧ (¬ (a1 - a1 / (2 : Int32) * (2 : Int32)) = (0 : Int32) → (post ((-(a1 / (2 : Int32))) - (1 : Int32)))))
abbrev rm_ZO_differenceOf : Room := { frames := 0, cells := 0, slots := 0, locals := 0 }
set_option maxHeartbeats 4000000 in
set_option maxRecDepth 100000 in
theorem kt_ZO_differenceOf (l : Launch) (dC : Nat → ClassId) (dI : Nat → Nat → Nat) (cI : ClassId) (a1 : Int32) (post : Int32 → Prop) (hw : wp_ZO_differenceOf a1 post) : Met l yZO_differenceOf wsZO_differenceOf rm_ZO_differenceOf (gr_Pc dC dI [(cI, .int)] [.int a1] []) (vp_Si post) 0 0 (fun _ => False) := by
  refine Met.ofW (cc := cZO_differenceOf) (maxL := 1) (ret := (some .int)) (by decide) rfl ?_
  intro p e s m args below meth c s₁ B hml hv
  obtain ⟨ha9, hP, hK, hE⟩ := hv
  have hx := B.exec
  have hb := B.bytes
  have hr := B.returns
  have hts0 := atoms_spec (ws := wsZO_differenceOf) B.pre
  have hts : ∀ w ∈ tbg, w.before args s = true := fun w h => hts0 w (List.mem_cons_of_mem _ h)
  have hown : s.vm.findClass RZO = some m.cls := findClass_of_methodNamed B.named
  have hlocks := B.notSynchronized
  refine gx_Q (fun Q9 hQ9 => ?_)
  have hl := lv_entry ([.int a1]) (n := 1) (Nat.le_of_ble_eq_true rfl)
  have he9 : entryFrame m args 1 = F0 m 0 ((lg_sl [.int a1] ++ List.replicate (1 - (lg_sl ([.int a1] : List Value)).length) Slot.unset).toArray) [] := by rw [ha9]; exact lg_entry_eq m [.int a1] 1
  rw [he9]
  generalize (lg_sl ([.int a1] : List Value) ++ List.replicate (1 - (lg_sl ([.int a1] : List Value)).length) Slot.unset).toArray = ls at hl ⊢
  have hl : lv_has ls 1 [(0, .int a1)] := hl
  refine lv_iload_n hx hb dZO_differenceOf_0 rfl (lv_at hl 0 rfl) ?_
  refine lv_iconst (v := (2 : Int32)) hx hb dZO_differenceOf_1 (by decide) ?_
  refine lv_irem hx hb dZO_differenceOf_2 (by decide) ?_
  refine lv_if_ne (tgt := 12) hx hb dZO_differenceOf_3 (by decide) (fun c_1 => ?_) (fun c_1 => ?_)
  · have hw := hw.2 c_1
    refine lv_iload_n hx hb dZO_differenceOf_12 rfl (lv_at hl 0 rfl) ?_
    refine lv_iconst (v := (2 : Int32)) hx hb dZO_differenceOf_13 (by decide) ?_
    refine lv_idiv hx hb dZO_differenceOf_14 (by decide) ?_
    refine lv_ineg hx hb dZO_differenceOf_15 ?_
    refine lv_iconst (v := (1 : Int32)) hx hb dZO_differenceOf_16 (by decide) ?_
    refine lv_isub hx hb dZO_differenceOf_17 ?_
    subst hQ9
    exact W.iret (v := (-(a1 / (2 : Int32))) - (1 : Int32)) hx hb hr (fun t ht hW => ⟨(-(a1 / (2 : Int32))) - (1 : Int32), rfl, hw, ht⟩) (fun q h => nomatch h) dZO_differenceOf_18
  · have hw := hw.1 c_1
    refine lv_iload_n hx hb dZO_differenceOf_6 rfl (lv_at hl 0 rfl) ?_
    refine lv_iconst (v := (2 : Int32)) hx hb dZO_differenceOf_7 (by decide) ?_
    refine lv_idiv hx hb dZO_differenceOf_8 (by decide) ?_
    refine lv_goto (tgt := 18) hx hb dZO_differenceOf_9 (by decide) ?_
    subst hQ9
    exact W.iret (v := a1 / (2 : Int32)) hx hb hr (fun t ht hW => ⟨a1 / (2 : Int32), rfl, hw, ht⟩) (fun q h => nomatch h) dZO_differenceOf_18
theorem dZO_isSumRight_0 : decode cZO_isSumRight 0 = .ok (.aload_n 0, 1) := by decide +kernel
theorem dZO_isSumRight_1 : decode cZO_isSumRight 1 = .ok (.getfield 9, 3) := by decide +kernel
theorem dZO_isSumRight_4 : decode cZO_isSumRight 4 = .ok (.iconst 2, 1) := by decide +kernel
theorem dZO_isSumRight_5 : decode cZO_isSumRight 5 = .ok (.isub, 1) := by decide +kernel
theorem dZO_isSumRight_6 : decode cZO_isSumRight 6 = .ok (.istore_n 1, 1) := by decide +kernel
theorem dZO_isSumRight_7 : decode cZO_isSumRight 7 = .ok (.iload_n 1, 1) := by decide +kernel
theorem dZO_isSumRight_8 : decode cZO_isSumRight 8 = .ok (.ifCond .lt 33, 3) := by decide +kernel
theorem dZO_isSumRight_11 : decode cZO_isSumRight 11 = .ok (.aload_n 0, 1) := by decide +kernel
theorem dZO_isSumRight_12 : decode cZO_isSumRight 12 = .ok (.iload_n 1, 1) := by decide +kernel
theorem dZO_isSumRight_13 : decode cZO_isSumRight 13 = .ok (.invokevirtual 15, 3) := by decide +kernel
theorem dZO_isSumRight_16 : decode cZO_isSumRight 16 = .ok (.aload_n 0, 1) := by decide +kernel
theorem dZO_isSumRight_17 : decode cZO_isSumRight 17 = .ok (.getfield 19, 3) := by decide +kernel
theorem dZO_isSumRight_20 : decode cZO_isSumRight 20 = .ok (.iload_n 1, 1) := by decide +kernel
theorem dZO_isSumRight_21 : decode cZO_isSumRight 21 = .ok (.iaload, 1) := by decide +kernel
theorem dZO_isSumRight_22 : decode cZO_isSumRight 22 = .ok (.aload_n 0, 1) := by decide +kernel
theorem dZO_isSumRight_23 : decode cZO_isSumRight 23 = .ok (.getfield 19, 3) := by decide +kernel
theorem dZO_isSumRight_26 : decode cZO_isSumRight 26 = .ok (.iload_n 1, 1) := by decide +kernel
theorem dZO_isSumRight_27 : decode cZO_isSumRight 27 = .ok (.iconst 1, 1) := by decide +kernel
theorem dZO_isSumRight_28 : decode cZO_isSumRight 28 = .ok (.iadd, 1) := by decide +kernel
theorem dZO_isSumRight_29 : decode cZO_isSumRight 29 = .ok (.iaload, 1) := by decide +kernel
theorem dZO_isSumRight_30 : decode cZO_isSumRight 30 = .ok (.bipush 8, 2) := by decide +kernel
theorem dZO_isSumRight_32 : decode cZO_isSumRight 32 = .ok (.ishl, 1) := by decide +kernel
theorem dZO_isSumRight_33 : decode cZO_isSumRight 33 = .ok (.iadd, 1) := by decide +kernel
theorem dZO_isSumRight_34 : decode cZO_isSumRight 34 = .ok (.if_icmp .ne 7, 3) := by decide +kernel
theorem dZO_isSumRight_37 : decode cZO_isSumRight 37 = .ok (.iconst 1, 1) := by decide +kernel
theorem dZO_isSumRight_38 : decode cZO_isSumRight 38 = .ok (.goto 4, 3) := by decide +kernel
theorem dZO_isSumRight_41 : decode cZO_isSumRight 41 = .ok (.iconst 0, 1) := by decide +kernel
theorem dZO_isSumRight_42 : decode cZO_isSumRight 42 = .ok (.ireturn, 1) := by decide +kernel
abbrev wsZO_isSumRight : List Cond := .code yZO_isSumRight cZO_isSumRight 2 (some .boolean) :: tbg
def wp_ZO_isSumRight (bl : Int32) (bf : Nat → Int32) (post : Int32 → Prop) : Prop := (((bl - (2 : Int32)) < (0 : Int32) → (post (0 : Int32))) ∧ (¬ (bl - (2 : Int32)) < (0 : Int32) → (wp_ZB_sumOfFirst bl bf (bl - (2 : Int32)) (fun r_2 : Int32 => vp_in (bl - (2 : Int32)) 256 ∧ (vp_in ((bl - (2 : Int32)) + (1 : Int32)) 256 ∧ (((r_2 = ((bf (bl - (2 : Int32)).toNatClampNeg) + ((bf ((bl - (2 : Int32)) + (1 : Int32)).toNatClampNeg) <<< ((8 : Int32) &&& 31))) → (post (1 : Int32))) ∧ (¬ r_2 = ((bf (bl - (2 : Int32)).toNatClampNeg) + ((bf ((bl - (2 : Int32)) + (1 : Int32)).toNatClampNeg) <<< ((8 : Int32) &&& 31))) → (post (0 : Int32))))))))))
abbrev rm_ZO_isSumRight : Room := { frames := 1, cells := 0, slots := 0, locals := 23 }
set_option maxHeartbeats 4000000 in
set_option maxRecDepth 100000 in
theorem kt_ZO_isSumRight (l : Launch) (dC : Nat → ClassId) (dI : Nat → Nat → Nat) (cI : ClassId) (ob oba : Nat) (bl : Int32) (bf : Nat → Int32) (post : Int32 → Prop) (hw : wp_ZO_isSumRight bl bf post) : Met l yZO_isSumRight wsZO_isSumRight rm_ZO_isSumRight (gr_Pc dC dI [(cI, .int)] [.ref ob] [(ob, .inr (0, [.ref oba, .int bl])), (oba, .inl (cI, 256, .inl bf))]) (vp_Si post) 0 0 (fun _ => False) := by
  refine Met.ofW (cc := cZO_isSumRight) (maxL := 2) (ret := (some .boolean)) (by decide) rfl ?_
  intro p e s m args below meth c s₁ B hml hv
  obtain ⟨ha9, hP, hK, hE⟩ := hv
  have hx := B.exec
  have hb := B.bytes
  have hr := B.returns
  have hts0 := atoms_spec (ws := wsZO_isSumRight) B.pre
  have hts : ∀ w ∈ tbg, w.before args s = true := fun w h => hts0 w (List.mem_cons_of_mem _ h)
  have hown : s.vm.findClass RZO = some m.cls := findClass_of_methodNamed B.named
  have hlocks := B.notSynchronized
  refine gx_Q (fun Q9 hQ9 => ?_)
  have hl := lv_entry ([.ref ob]) (n := 2) (Nat.le_of_ble_eq_true rfl)
  have he9 : entryFrame m args 2 = F0 m 0 ((lg_sl [.ref ob] ++ List.replicate (2 - (lg_sl ([.ref ob] : List Value)).length) Slot.unset).toArray) [] := by rw [ha9]; exact lg_entry_eq m [.ref ob] 2
  rw [he9]
  generalize (lg_sl ([.ref ob] : List Value) ++ List.replicate (2 - (lg_sl ([.ref ob] : List Value)).length) Slot.unset).toArray = ls at hl ⊢
  have hl : lv_has ls 2 [(0, .ref ob)] := hl
  refine lv_aload_n hx hb dZO_isSumRight_0 rfl (lv_at hl 0 rfl) ?_
  refine va_get (D := (dC, dI)) (ci := 0) (v := .int bl) (C := RZB) (T := TZB) (N := 2) hx hb hts inZB hown hK hP 0 rfl rfl 1 (by decide) (hts _ mm_79) (fun _ h9 => h9) rfl dZO_isSumRight_1 ?_
  refine lv_iconst (v := (2 : Int32)) hx hb dZO_isSumRight_4 (by decide) ?_
  refine lv_isub hx hb dZO_isSumRight_5 ?_
  refine lv_istore_n (lv' := [(1, .int (bl - (2 : Int32))), (0, .ref ob)]) hx hb dZO_isSumRight_6 rfl hl (by decide) rfl (fun ls hl => ?_)
  refine lv_iload_n hx hb dZO_isSumRight_7 rfl (lv_at hl 0 rfl) ?_
  refine lv_if_lt (tgt := 41) hx hb dZO_isSumRight_8 (by decide) (fun c_1 => ?_) (fun c_1 => ?_)
  · have hw := hw.1 c_1
    refine lv_iconst (v := (0 : Int32)) hx hb dZO_isSumRight_41 (by decide) ?_
    subst hQ9
    exact W.zret (v := (0 : Int32)) (ty := .boolean) hx hb hr rfl (fun t ht hW => ⟨(0 : Int32), rfl, hw, ht⟩) (fun q h => nomatch h) dZO_isSumRight_42
  · have hw := hw.2 c_1
    refine lv_aload_n hx hb dZO_isSumRight_11 rfl (lv_at hl 1 rfl) ?_
    refine lv_iload_n hx hb dZO_isSumRight_12 rfl (lv_at hl 0 rfl) ?_
    refine vp_callSi (va_runV (As := [.int (bl - (2 : Int32))]) (rest := []) ⟨hx, hb, hml, hown, hts⟩ (kt_ZB_sumOfFirst l dC dI cI ob oba bl bf (bl - (2 : Int32)) _ hw) (cwV 1 hts (tb_V mm_173 mm_174 mm_175 mm_5 mm_176) rfl rfl rfl (by decide +kernel) ⟨Nat.le_of_ble_eq_true rfl, Nat.le_of_ble_eq_true rfl⟩) ⟨gr_blind, va_recv hK hP (ci := 0) (q0 := 0) rfl rfl, fun U hU hW => gr_pre hP hK hE hU hW⟩ rfl rfl hl.1 rfl (lv_room (Nat.le_of_ble_eq_true rfl)) dZO_isSumRight_13 ⟨Nat.le_of_ble_eq_true rfl, Nat.le_of_ble_eq_true rfl⟩).run (fun r_2 hw => ?_)
    refine lv_aload_n hx hb dZO_isSumRight_16 rfl (lv_at hl 1 rfl) ?_
    refine va_get (D := (dC, dI)) (ci := 0) (v := .ref oba) (C := RZB) (T := TZB) (N := 2) hx hb hts inZB hown hK hP 0 rfl rfl 0 (by decide) (hts _ mm_76) (fun _ h9 => h9) rfl dZO_isSumRight_17 ?_
    refine lv_iload_n hx hb dZO_isSumRight_20 rfl (lv_at hl 0 rfl) ?_
    obtain ⟨h_3, hw⟩ := hw
    refine va_iald hx hb hK hP 1 0 rfl rfl h_3 dZO_isSumRight_21 ?_
    refine lv_aload_n hx hb dZO_isSumRight_22 rfl (lv_at hl 1 rfl) ?_
    refine va_get (D := (dC, dI)) (ci := 0) (v := .ref oba) (C := RZB) (T := TZB) (N := 2) hx hb hts inZB hown hK hP 0 rfl rfl 0 (by decide) (hts _ mm_76) (fun _ h9 => h9) rfl dZO_isSumRight_23 ?_
    refine lv_iload_n hx hb dZO_isSumRight_26 rfl (lv_at hl 0 rfl) ?_
    refine lv_iconst (v := (1 : Int32)) hx hb dZO_isSumRight_27 (by decide) ?_
    refine lv_iadd hx hb dZO_isSumRight_28 ?_
    obtain ⟨h_4, hw⟩ := hw
    refine va_iald hx hb hK hP 1 0 rfl rfl h_4 dZO_isSumRight_29 ?_
    refine lv_bipush (v := (8 : Int32)) hx hb dZO_isSumRight_30 (by decide) ?_
    refine lv_ishl hx hb dZO_isSumRight_32 ?_
    refine lv_iadd hx hb dZO_isSumRight_33 ?_
    refine lv_icmp_ne (tgt := 41) hx hb dZO_isSumRight_34 (by decide) (fun c_5 => ?_) (fun c_5 => ?_)
    · have hw := hw.2 c_5
      refine lv_iconst (v := (0 : Int32)) hx hb dZO_isSumRight_41 (by decide) ?_
      subst hQ9
      exact W.zret (v := (0 : Int32)) (ty := .boolean) hx hb hr rfl (fun t ht hW => ⟨(0 : Int32), rfl, hw, ht⟩) (fun q h => nomatch h) dZO_isSumRight_42
    · have hw := hw.1 c_5
      refine lv_iconst (v := (1 : Int32)) hx hb dZO_isSumRight_37 (by decide) ?_
      refine lv_goto (tgt := 42) hx hb dZO_isSumRight_38 (by decide) ?_
      subst hQ9
      exact W.zret (v := (1 : Int32)) (ty := .boolean) hx hb hr rfl (fun t ht hW => ⟨(1 : Int32), rfl, hw, ht⟩) (fun q h => nomatch h) dZO_isSumRight_42
theorem dZO_openRow_0 : decode cZO_openRow 0 = .ok (.iload_n 1, 1) := by decide +kernel
theorem dZO_openRow_1 : decode cZO_openRow 1 = .ok (.iload_n 2, 1) := by decide +kernel
theorem dZO_openRow_2 : decode cZO_openRow 2 = .ok (.if_icmp .ge 14, 3) := by decide +kernel
theorem dZO_openRow_5 : decode cZO_openRow 5 = .ok (.aload_n 0, 1) := by decide +kernel
theorem dZO_openRow_6 : decode cZO_openRow 6 = .ok (.getfield 19, 3) := by decide +kernel
theorem dZO_openRow_9 : decode cZO_openRow 9 = .ok (.iload_n 1, 1) := by decide +kernel
theorem dZO_openRow_10 : decode cZO_openRow 10 = .ok (.iaload, 1) := by decide +kernel
theorem dZO_openRow_11 : decode cZO_openRow 11 = .ok (.bipush 9, 2) := by decide +kernel
theorem dZO_openRow_13 : decode cZO_openRow 13 = .ok (.if_icmp .le 5, 3) := by decide +kernel
theorem dZO_openRow_16 : decode cZO_openRow 16 = .ok (.iconst (-1), 1) := by decide +kernel
theorem dZO_openRow_17 : decode cZO_openRow 17 = .ok (.ireturn, 1) := by decide +kernel
theorem dZO_openRow_18 : decode cZO_openRow 18 = .ok (.aload_n 0, 1) := by decide +kernel
theorem dZO_openRow_19 : decode cZO_openRow 19 = .ok (.getfield 19, 3) := by decide +kernel
theorem dZO_openRow_22 : decode cZO_openRow 22 = .ok (.iload_n 1, 1) := by decide +kernel
theorem dZO_openRow_23 : decode cZO_openRow 23 = .ok (.iaload, 1) := by decide +kernel
theorem dZO_openRow_24 : decode cZO_openRow 24 = .ok (.istore 5, 2) := by decide +kernel
theorem dZO_openRow_26 : decode cZO_openRow 26 = .ok (.iload 5, 2) := by decide +kernel
theorem dZO_openRow_28 : decode cZO_openRow 28 = .ok (.aload_n 3, 1) := by decide +kernel
theorem dZO_openRow_29 : decode cZO_openRow 29 = .ok (.getfield 42, 3) := by decide +kernel
theorem dZO_openRow_32 : decode cZO_openRow 32 = .ok (.imul, 1) := by decide +kernel
theorem dZO_openRow_33 : decode cZO_openRow 33 = .ok (.istore 6, 2) := by decide +kernel
theorem dZO_openRow_35 : decode cZO_openRow 35 = .ok (.iload_n 1, 1) := by decide +kernel
theorem dZO_openRow_36 : decode cZO_openRow 36 = .ok (.iconst 1, 1) := by decide +kernel
theorem dZO_openRow_37 : decode cZO_openRow 37 = .ok (.iadd, 1) := by decide +kernel
theorem dZO_openRow_38 : decode cZO_openRow 38 = .ok (.iload 6, 2) := by decide +kernel
theorem dZO_openRow_40 : decode cZO_openRow 40 = .ok (.bipush 7, 2) := by decide +kernel
theorem dZO_openRow_42 : decode cZO_openRow 42 = .ok (.iadd, 1) := by decide +kernel
theorem dZO_openRow_43 : decode cZO_openRow 43 = .ok (.bipush 8, 2) := by decide +kernel
theorem dZO_openRow_45 : decode cZO_openRow 45 = .ok (.idiv, 1) := by decide +kernel
theorem dZO_openRow_46 : decode cZO_openRow 46 = .ok (.iadd, 1) := by decide +kernel
theorem dZO_openRow_47 : decode cZO_openRow 47 = .ok (.istore 7, 2) := by decide +kernel
theorem dZO_openRow_49 : decode cZO_openRow 49 = .ok (.iload 7, 2) := by decide +kernel
theorem dZO_openRow_51 : decode cZO_openRow 51 = .ok (.iload_n 2, 1) := by decide +kernel
theorem dZO_openRow_52 : decode cZO_openRow 52 = .ok (.if_icmp .le 5, 3) := by decide +kernel
theorem dZO_openRow_55 : decode cZO_openRow 55 = .ok (.iconst (-1), 1) := by decide +kernel
theorem dZO_openRow_56 : decode cZO_openRow 56 = .ok (.ireturn, 1) := by decide +kernel
theorem dZO_openRow_57 : decode cZO_openRow 57 = .ok (.bipush 8, 2) := by decide +kernel
theorem dZO_openRow_59 : decode cZO_openRow 59 = .ok (.iload_n 1, 1) := by decide +kernel
theorem dZO_openRow_60 : decode cZO_openRow 60 = .ok (.iconst 1, 1) := by decide +kernel
theorem dZO_openRow_61 : decode cZO_openRow 61 = .ok (.iadd, 1) := by decide +kernel
theorem dZO_openRow_62 : decode cZO_openRow 62 = .ok (.imul, 1) := by decide +kernel
theorem dZO_openRow_63 : decode cZO_openRow 63 = .ok (.istore 8, 2) := by decide +kernel
theorem dZO_openRow_65 : decode cZO_openRow 65 = .ok (.iconst 0, 1) := by decide +kernel
theorem dZO_openRow_66 : decode cZO_openRow 66 = .ok (.istore 9, 2) := by decide +kernel
theorem dZO_openRow_68 : decode cZO_openRow 68 = .ok (.iconst 0, 1) := by decide +kernel
theorem dZO_openRow_69 : decode cZO_openRow 69 = .ok (.istore 10, 2) := by decide +kernel
theorem dZO_openRow_71 : decode cZO_openRow 71 = .ok (.iload 10, 2) := by decide +kernel
theorem dZO_openRow_73 : decode cZO_openRow 73 = .ok (.aload_n 3, 1) := by decide +kernel
theorem dZO_openRow_74 : decode cZO_openRow 74 = .ok (.getfield 42, 3) := by decide +kernel
theorem dZO_openRow_77 : decode cZO_openRow 77 = .ok (.if_icmp .ge 71, 3) := by decide +kernel
theorem dZO_openRow_80 : decode cZO_openRow 80 = .ok (.aload_n 0, 1) := by decide +kernel
theorem dZO_openRow_81 : decode cZO_openRow 81 = .ok (.iload 8, 2) := by decide +kernel
theorem dZO_openRow_83 : decode cZO_openRow 83 = .ok (.iload 5, 2) := by decide +kernel
theorem dZO_openRow_85 : decode cZO_openRow 85 = .ok (.invokevirtual 45, 3) := by decide +kernel
theorem dZO_openRow_88 : decode cZO_openRow 88 = .ok (.istore 11, 2) := by decide +kernel
theorem dZO_openRow_90 : decode cZO_openRow 90 = .ok (.aload_n 3, 1) := by decide +kernel
theorem dZO_openRow_91 : decode cZO_openRow 91 = .ok (.iload 10, 2) := by decide +kernel
theorem dZO_openRow_93 : decode cZO_openRow 93 = .ok (.iload 4, 2) := by decide +kernel
theorem dZO_openRow_95 : decode cZO_openRow 95 = .ok (.invokevirtual 49, 3) := by decide +kernel
theorem dZO_openRow_98 : decode cZO_openRow 98 = .ok (.iload 11, 2) := by decide +kernel
theorem dZO_openRow_100 : decode cZO_openRow 100 = .ok (.invokestatic 52, 3) := by decide +kernel
theorem dZO_openRow_103 : decode cZO_openRow 103 = .ok (.iadd, 1) := by decide +kernel
theorem dZO_openRow_104 : decode cZO_openRow 104 = .ok (.istore 12, 2) := by decide +kernel
theorem dZO_openRow_106 : decode cZO_openRow 106 = .ok (.iload 12, 2) := by decide +kernel
theorem dZO_openRow_108 : decode cZO_openRow 108 = .ok (.invokestatic 55, 3) := by decide +kernel
theorem dZO_openRow_111 : decode cZO_openRow 111 = .ok (.ifCond .ne 5, 3) := by decide +kernel
theorem dZO_openRow_114 : decode cZO_openRow 114 = .ok (.iconst (-1), 1) := by decide +kernel
theorem dZO_openRow_115 : decode cZO_openRow 115 = .ok (.ireturn, 1) := by decide +kernel
theorem dZO_openRow_116 : decode cZO_openRow 116 = .ok (.aload_n 3, 1) := by decide +kernel
theorem dZO_openRow_117 : decode cZO_openRow 117 = .ok (.iload 10, 2) := by decide +kernel
theorem dZO_openRow_119 : decode cZO_openRow 119 = .ok (.iload 4, 2) := by decide +kernel
theorem dZO_openRow_121 : decode cZO_openRow 121 = .ok (.iload 12, 2) := by decide +kernel
theorem dZO_openRow_123 : decode cZO_openRow 123 = .ok (.invokevirtual 58, 3) := by decide +kernel
theorem dZO_openRow_126 : decode cZO_openRow 126 = .ok (.iload 9, 2) := by decide +kernel
theorem dZO_openRow_128 : decode cZO_openRow 128 = .ok (.iload 11, 2) := by decide +kernel
theorem dZO_openRow_130 : decode cZO_openRow 130 = .ok (.invokestatic 62, 3) := by decide +kernel
theorem dZO_openRow_133 : decode cZO_openRow 133 = .ok (.istore 9, 2) := by decide +kernel
theorem dZO_openRow_135 : decode cZO_openRow 135 = .ok (.iload 8, 2) := by decide +kernel
theorem dZO_openRow_137 : decode cZO_openRow 137 = .ok (.iload 5, 2) := by decide +kernel
theorem dZO_openRow_139 : decode cZO_openRow 139 = .ok (.iadd, 1) := by decide +kernel
theorem dZO_openRow_140 : decode cZO_openRow 140 = .ok (.istore 8, 2) := by decide +kernel
theorem dZO_openRow_142 : decode cZO_openRow 142 = .ok (.iinc 10 1, 3) := by decide +kernel
theorem dZO_openRow_145 : decode cZO_openRow 145 = .ok (.goto (-74), 3) := by decide +kernel
theorem dZO_openRow_148 : decode cZO_openRow 148 = .ok (.aload_n 0, 1) := by decide +kernel
theorem dZO_openRow_149 : decode cZO_openRow 149 = .ok (.iload 8, 2) := by decide +kernel
theorem dZO_openRow_151 : decode cZO_openRow 151 = .ok (.bipush 8, 2) := by decide +kernel
theorem dZO_openRow_153 : decode cZO_openRow 153 = .ok (.iload 7, 2) := by decide +kernel
theorem dZO_openRow_155 : decode cZO_openRow 155 = .ok (.imul, 1) := by decide +kernel
theorem dZO_openRow_156 : decode cZO_openRow 156 = .ok (.iload 8, 2) := by decide +kernel
theorem dZO_openRow_158 : decode cZO_openRow 158 = .ok (.isub, 1) := by decide +kernel
theorem dZO_openRow_159 : decode cZO_openRow 159 = .ok (.invokevirtual 45, 3) := by decide +kernel
theorem dZO_openRow_162 : decode cZO_openRow 162 = .ok (.ifCond .ne 7, 3) := by decide +kernel
theorem dZO_openRow_165 : decode cZO_openRow 165 = .ok (.iconst 1, 1) := by decide +kernel
theorem dZO_openRow_166 : decode cZO_openRow 166 = .ok (.goto 4, 3) := by decide +kernel
theorem dZO_openRow_169 : decode cZO_openRow 169 = .ok (.iconst 0, 1) := by decide +kernel
theorem dZO_openRow_170 : decode cZO_openRow 170 = .ok (.istore 10, 2) := by decide +kernel
theorem dZO_openRow_172 : decode cZO_openRow 172 = .ok (.iload 10, 2) := by decide +kernel
theorem dZO_openRow_174 : decode cZO_openRow 174 = .ok (.ifCond .eq 18, 3) := by decide +kernel
theorem dZO_openRow_177 : decode cZO_openRow 177 = .ok (.iload 9, 2) := by decide +kernel
theorem dZO_openRow_179 : decode cZO_openRow 179 = .ok (.invokestatic 67, 3) := by decide +kernel
theorem dZO_openRow_182 : decode cZO_openRow 182 = .ok (.iload 5, 2) := by decide +kernel
theorem dZO_openRow_184 : decode cZO_openRow 184 = .ok (.if_icmp .ne 8, 3) := by decide +kernel
theorem dZO_openRow_187 : decode cZO_openRow 187 = .ok (.iload 7, 2) := by decide +kernel
theorem dZO_openRow_189 : decode cZO_openRow 189 = .ok (.goto 4, 3) := by decide +kernel
theorem dZO_openRow_192 : decode cZO_openRow 192 = .ok (.iconst (-1), 1) := by decide +kernel
theorem dZO_openRow_193 : decode cZO_openRow 193 = .ok (.ireturn, 1) := by decide +kernel
abbrev wsZO_openRow : List Cond := .code yZO_openRow cZO_openRow 13 (some .int) :: tbg
def lp_ZO_openRow_71 (bl : Int32) (bf : Nat → Int32) (tw : Int32) (th : Int32) (tf : Nat → Int32) (a1 : Int32) (a2 : Int32) (a3 : Int32) (post : Int32 → (Nat → Int32) → Prop) (K71 : Int32 → Int32 → Int32 → (Nat → Int32) → Prop) (n : Nat) : Int32 → Int32 → Int32 → (Nat → Int32) → Prop := Nat.rec (motive := fun _ => Int32 → Int32 → Int32 → (Nat → Int32) → Prop) (fun (x8_71 : Int32) (x9_71 : Int32) (x10_71 : Int32) (f_71_ota : Nat → Int32) => False) (fun _ ih71 (x8_71 : Int32) (x9_71 : Int32) (x10_71 : Int32) (f_71_ota : Nat → Int32) => ((tw ≤ x10_71 → (K71 x8_71 x9_71 x10_71 f_71_ota)) ∧ (¬ tw ≤ x10_71 → (wp_ZB_bitsFrom bl bf x8_71 (bf a1.toNatClampNeg) (fun r_7 : Int32 => wp_ZT_formerSample tw th f_71_ota x10_71 a3 (fun r_8 : Int32 => wp_ZO_differenceOf r_7 (fun r_9 : Int32 => wp_ZQ_isSample (r_8 + r_9) (fun r_10 : Int32 => ((r_10 = (0 : Int32) → (post (-1 : Int32) f_71_ota)) ∧ (¬ r_10 = (0 : Int32) → (wp_ZT_setSample tw th f_71_ota x10_71 a3 (r_8 + r_9) (fun (tf_12 : Nat → Int32) => ih71 (x8_71 + (bf a1.toNatClampNeg)) (if x9_71 < r_7 then r_7 else x9_71) (x10_71 + (1 : Int32)) tf_12)))))))))))) n
def wp_ZO_openRow (bl : Int32) (bf : Nat → Int32) (tw : Int32) (th : Int32) (tf : Nat → Int32) (a1 : Int32) (a2 : Int32) (a3 : Int32) (post : Int32 → (Nat → Int32) → Prop) : Prop := ((a2 ≤ a1 → (post (-1 : Int32) tf)) ∧ (¬ a2 ≤ a1 → (vp_in a1 256 ∧ ((((bf a1.toNatClampNeg) ≤ (9 : Int32) → (vp_in a1 256 ∧ (((((a1 + (1 : Int32)) + ((((bf a1.toNatClampNeg) * tw) + (7 : Int32)) / (8 : Int32))) ≤ a2 → (∃ n : Nat, lp_ZO_openRow_71 bl bf tw th tf a1 a2 a3 post (fun (x8_71e : Int32) (x9_71e : Int32) (x10_71e : Int32) (f_71e_ota : Nat → Int32) => wp_ZB_bitsFrom bl bf x8_71e (((8 : Int32) * ((a1 + (1 : Int32)) + ((((bf a1.toNatClampNeg) * tw) + (7 : Int32)) / (8 : Int32)))) - x8_71e) (fun r_13 : Int32 => ∃ J170 : Int32 → Prop, (∀ (t0_j170 : Int32), J170 t0_j170 → ((t0_j170 = (0 : Int32) → (post (-1 : Int32) f_71e_ota)) ∧ (¬ t0_j170 = (0 : Int32) → (wp_ZQ_bitsNeeded x9_71e (fun r_15 : Int32 => ((r_15 = (bf a1.toNatClampNeg) → (post ((a1 + (1 : Int32)) + ((((bf a1.toNatClampNeg) * tw) + (7 : Int32)) / (8 : Int32))) f_71e_ota)) ∧ (¬ r_15 = (bf a1.toNatClampNeg) → (post (-1 : Int32) f_71e_ota)))))))) ∧ (((r_13 = (0 : Int32) → (J170 (1 : Int32))) ∧ (¬ r_13 = (0 : Int32) → (J170 (0 : Int32))))))) n ((8 : Int32) * (a1 + (1 : Int32))) (0 : Int32) (0 : Int32) tf)) ∧ (¬ ((a1 + (1 : Int32)) + ((((bf a1.toNatClampNeg) * tw) + (7 : Int32)) / (8 : Int32))) ≤ a2 → (post (-1 : Int32) tf)))))) ∧ (¬ (bf a1.toNatClampNeg) ≤ (9 : Int32) → (post (-1 : Int32) tf)))))))
abbrev rm_ZO_openRow : Room := { frames := 2, cells := 0, slots := 0, locals := 44 }
set_option maxHeartbeats 4000000 in
set_option maxRecDepth 100000 in
theorem kt_ZO_openRow (l : Launch) (dC : Nat → ClassId) (dI : Nat → Nat → Nat) (cI : ClassId) (ob oba ot ota : Nat) (sz : Nat) (bl : Int32) (bf : Nat → Int32) (tw : Int32) (th : Int32) (tf : Nat → Int32) (a1 : Int32) (a2 : Int32) (a3 : Int32) (post : Int32 → (Nat → Int32) → Prop) (hw : wp_ZO_openRow bl bf tw th tf a1 a2 a3 post) : Met l yZO_openRow wsZO_openRow rm_ZO_openRow (gw_Pc dC dI [(cI, .int)] [.ref ob, .int a1, .int a2, .ref ot, .int a3] [(ob, .inr (0, [.ref oba, .int bl])), (oba, .inl (cI, 256, .inl bf)), (ot, .inr (4, [.ref ota, .int tw, .int th])), (ota, .inl (cI, 64, .inl tf))] sz) (va_Qi (fun (r : Int32) (u : (Nat → Int32)) => post r u) (fun u t => gw_B dC dI [(cI, .int)] (va_A [(ob, .inr (0, [.ref oba, .int bl])), (oba, .inl (cI, 256, .inl bf)), (ot, .inr (4, [.ref ota, .int tw, .int th])), (ota, .inl (cI, 64, .inl tf))] sz) [(ob, .inr (0, [.ref oba, .int bl])), (oba, .inl (cI, 256, .inl bf)), (ot, .inr (4, [.ref ota, .int tw, .int th])), (ota, .inl (cI, 64, .inl u))] t) (va_A [(ob, .inr (0, [.ref oba, .int bl])), (oba, .inl (cI, 256, .inl bf)), (ot, .inr (4, [.ref ota, .int tw, .int th])), (ota, .inl (cI, 64, .inl tf))] sz)) 0 0 (va_A [(ob, .inr (0, [.ref oba, .int bl])), (oba, .inl (cI, 256, .inl bf)), (ot, .inr (4, [.ref ota, .int tw, .int th])), (ota, .inl (cI, 64, .inl tf))] sz) := by
  refine Met.ofW (cc := cZO_openRow) (maxL := 13) (ret := (some .int)) (by decide) rfl ?_
  intro p e s m args below meth c s₁ B hml hv
  obtain ⟨ha9, hsz, hP, hK, hE, hD0⟩ := hv
  have hx := B.exec
  have hb := B.bytes
  have hr := B.returns
  have hts0 := atoms_spec (ws := wsZO_openRow) B.pre
  have hts : ∀ w ∈ tbg, w.before args s = true := fun w h => hts0 w (List.mem_cons_of_mem _ h)
  have hown : s.vm.findClass RZO = some m.cls := findClass_of_methodNamed B.named
  have hlocks := B.notSynchronized
  subst hsz
  have hD := hD0.self (sz := s.heap.size)
  refine gx_Q (fun Q9 hQ9 => ?_)
  generalize hAe : va_A [(ob, .inr (0, [.ref oba, .int bl])), (oba, .inl (cI, 256, .inl bf)), (ot, .inr (4, [.ref ota, .int tw, .int th])), (ota, .inl (cI, 64, .inl tf))] s.heap.size = A at hD hQ9 ⊢
  have hA : ∀ q : Nat, s.heap.size ≤ q → A q := fun q h => by rw [← hAe]; exact Or.inr h
  have hS : va_S A s.heap s.heap [] := va_S.rf
  have hl := lv_entry ([.ref ob, .int a1, .int a2, .ref ot, .int a3]) (n := 13) (Nat.le_of_ble_eq_true rfl)
  have he9 : entryFrame m args 13 = F0 m 0 ((lg_sl [.ref ob, .int a1, .int a2, .ref ot, .int a3] ++ List.replicate (13 - (lg_sl ([.ref ob, .int a1, .int a2, .ref ot, .int a3] : List Value)).length) Slot.unset).toArray) [] := by rw [ha9]; exact lg_entry_eq m [.ref ob, .int a1, .int a2, .ref ot, .int a3] 13
  rw [he9]
  generalize (lg_sl ([.ref ob, .int a1, .int a2, .ref ot, .int a3] : List Value) ++ List.replicate (13 - (lg_sl ([.ref ob, .int a1, .int a2, .ref ot, .int a3] : List Value)).length) Slot.unset).toArray = ls at hl ⊢
  have hl : lv_has ls 13 [(0, .ref ob), (1, .int a1), (2, .int a2), (3, .ref ot), (4, .int a3)] := hl
  refine lv_iload_n hx hb dZO_openRow_0 rfl (lv_at hl 1 rfl) ?_
  refine lv_iload_n hx hb dZO_openRow_1 rfl (lv_at hl 2 rfl) ?_
  refine lv_icmp_ge (tgt := 16) hx hb dZO_openRow_2 (by decide) (fun c_1 => ?_) (fun c_1 => ?_)
  · have hw := hw.1 c_1
    refine lv_iconst (v := (-1 : Int32)) hx hb dZO_openRow_16 (by decide) ?_
    have hP9 := hP.sub (ws' := [(ob, .inr (0, [.ref oba, .int bl])), (oba, .inl (cI, 256, .inl bf)), (ot, .inr (4, [.ref ota, .int tw, .int th])), (ota, .inl (cI, 64, .inl tf))]) [0, 1, 2, 3] rfl
    have hD9 := hD.sub (ws' := [(ob, .inr (0, [.ref oba, .int bl])), (oba, .inl (cI, 256, .inl bf)), (ot, .inr (4, [.ref ota, .int tw, .int th])), (ota, .inl (cI, 64, .inl tf))]) [0, 1, 2, 3] (by decide) rfl
    subst hQ9
    exact W.iret (v := (-1 : Int32)) hx hb hr (fun t ht hW => ⟨⟨(-1 : Int32), tf, rfl, hw, by rw [ht]; exact hP9, va_K.moved hW.alike hK, hD9⟩, hS.F ht⟩) hS.2.2 dZO_openRow_17
  · have hw := hw.2 c_1
    refine lv_aload_n hx hb dZO_openRow_5 rfl (lv_at hl 0 rfl) ?_
    refine va_get (D := (dC, dI)) (ci := 0) (v := .ref oba) (C := RZB) (T := TZB) (N := 2) hx hb hts inZB hown hK hP 0 rfl rfl 0 (by decide) (hts _ mm_76) (fun _ h9 => h9) rfl dZO_openRow_6 ?_
    refine lv_iload_n hx hb dZO_openRow_9 rfl (lv_at hl 1 rfl) ?_
    obtain ⟨h_2, hw⟩ := hw
    refine va_iald hx hb hK hP 1 0 rfl rfl h_2 dZO_openRow_10 ?_
    refine lv_bipush (v := (9 : Int32)) hx hb dZO_openRow_11 (by decide) ?_
    refine lv_icmp_le (tgt := 18) hx hb dZO_openRow_13 (by decide) (fun c_3 => ?_) (fun c_3 => ?_)
    · have hw := hw.1 c_3
      refine lv_aload_n hx hb dZO_openRow_18 rfl (lv_at hl 0 rfl) ?_
      refine va_get (D := (dC, dI)) (ci := 0) (v := .ref oba) (C := RZB) (T := TZB) (N := 2) hx hb hts inZB hown hK hP 0 rfl rfl 0 (by decide) (hts _ mm_76) (fun _ h9 => h9) rfl dZO_openRow_19 ?_
      refine lv_iload_n hx hb dZO_openRow_22 rfl (lv_at hl 1 rfl) ?_
      obtain ⟨h_4, hw⟩ := hw
      refine va_iald hx hb hK hP 1 0 rfl rfl h_4 dZO_openRow_23 ?_
      refine lv_istore (lv' := [(5, .int (bf a1.toNatClampNeg)), (0, .ref ob), (1, .int a1), (2, .int a2), (3, .ref ot), (4, .int a3)]) hx hb dZO_openRow_24 hl (by decide) rfl (fun ls hl => ?_)
      refine lv_iload hx hb dZO_openRow_26 (lv_at hl 0 rfl) ?_
      refine lv_aload_n hx hb dZO_openRow_28 rfl (lv_at hl 4 rfl) ?_
      refine va_get (D := (dC, dI)) (ci := 4) (v := .int tw) (C := RZT) (T := TZT) (N := 3) hx hb hts inZT hown hK hP 2 rfl rfl 1 (by decide) (hts _ mm_121) (fun _ h9 => h9) rfl dZO_openRow_29 ?_
      refine lv_imul hx hb dZO_openRow_32 ?_
      refine lv_istore (lv' := [(6, .int ((bf a1.toNatClampNeg) * tw)), (5, .int (bf a1.toNatClampNeg)), (0, .ref ob), (1, .int a1), (2, .int a2), (3, .ref ot), (4, .int a3)]) hx hb dZO_openRow_33 hl (by decide) rfl (fun ls hl => ?_)
      refine lv_iload_n hx hb dZO_openRow_35 rfl (lv_at hl 3 rfl) ?_
      refine lv_iconst (v := (1 : Int32)) hx hb dZO_openRow_36 (by decide) ?_
      refine lv_iadd hx hb dZO_openRow_37 ?_
      refine lv_iload hx hb dZO_openRow_38 (lv_at hl 0 rfl) ?_
      refine lv_bipush (v := (7 : Int32)) hx hb dZO_openRow_40 (by decide) ?_
      refine lv_iadd hx hb dZO_openRow_42 ?_
      refine lv_bipush (v := (8 : Int32)) hx hb dZO_openRow_43 (by decide) ?_
      refine lv_idiv hx hb dZO_openRow_45 (by decide) ?_
      refine lv_iadd hx hb dZO_openRow_46 ?_
      refine lv_istore (lv' := [(7, .int ((a1 + (1 : Int32)) + ((((bf a1.toNatClampNeg) * tw) + (7 : Int32)) / (8 : Int32)))), (6, .int ((bf a1.toNatClampNeg) * tw)), (5, .int (bf a1.toNatClampNeg)), (0, .ref ob), (1, .int a1), (2, .int a2), (3, .ref ot), (4, .int a3)]) hx hb dZO_openRow_47 hl (by decide) rfl (fun ls hl => ?_)
      refine lv_iload hx hb dZO_openRow_49 (lv_at hl 0 rfl) ?_
      refine lv_iload_n hx hb dZO_openRow_51 rfl (lv_at hl 5 rfl) ?_
      refine lv_icmp_le (tgt := 57) hx hb dZO_openRow_52 (by decide) (fun c_5 => ?_) (fun c_5 => ?_)
      · have hw := hw.1 c_5
        refine lv_bipush (v := (8 : Int32)) hx hb dZO_openRow_57 (by decide) ?_
        refine lv_iload_n hx hb dZO_openRow_59 rfl (lv_at hl 4 rfl) ?_
        refine lv_iconst (v := (1 : Int32)) hx hb dZO_openRow_60 (by decide) ?_
        refine lv_iadd hx hb dZO_openRow_61 ?_
        refine lv_imul hx hb dZO_openRow_62 ?_
        refine lv_istore (lv' := [(8, .int ((8 : Int32) * (a1 + (1 : Int32)))), (7, .int ((a1 + (1 : Int32)) + ((((bf a1.toNatClampNeg) * tw) + (7 : Int32)) / (8 : Int32)))), (6, .int ((bf a1.toNatClampNeg) * tw)), (5, .int (bf a1.toNatClampNeg)), (0, .ref ob), (1, .int a1), (2, .int a2), (3, .ref ot), (4, .int a3)]) hx hb dZO_openRow_63 hl (by decide) rfl (fun ls hl => ?_)
        refine lv_iconst (v := (0 : Int32)) hx hb dZO_openRow_65 (by decide) ?_
        refine lv_istore (lv' := [(9, .int (0 : Int32)), (8, .int ((8 : Int32) * (a1 + (1 : Int32)))), (7, .int ((a1 + (1 : Int32)) + ((((bf a1.toNatClampNeg) * tw) + (7 : Int32)) / (8 : Int32)))), (6, .int ((bf a1.toNatClampNeg) * tw)), (5, .int (bf a1.toNatClampNeg)), (0, .ref ob), (1, .int a1), (2, .int a2), (3, .ref ot), (4, .int a3)]) hx hb dZO_openRow_66 hl (by decide) rfl (fun ls hl => ?_)
        refine lv_iconst (v := (0 : Int32)) hx hb dZO_openRow_68 (by decide) ?_
        refine lv_istore (lv' := [(10, .int (0 : Int32)), (9, .int (0 : Int32)), (8, .int ((8 : Int32) * (a1 + (1 : Int32)))), (7, .int ((a1 + (1 : Int32)) + ((((bf a1.toNatClampNeg) * tw) + (7 : Int32)) / (8 : Int32)))), (6, .int ((bf a1.toNatClampNeg) * tw)), (5, .int (bf a1.toNatClampNeg)), (0, .ref ob), (1, .int a1), (2, .int a2), (3, .ref ot), (4, .int a3)]) hx hb dZO_openRow_69 hl (by decide) rfl (fun ls hl => ?_)
        have lp71 : ∀ K71 : Int32 → Int32 → Int32 → (Nat → Int32) → Prop, (∀ (x8_71 : Int32) (x9_71 : Int32) (x10_71 : Int32) (f_71_ota : Nat → Int32), K71 x8_71 x9_71 x10_71 f_71_ota → ∀ (H : Heap) (locs : List Loc), va_P (dC, dI) vwCl [(ob, .inr (0, [.ref oba, .int bl])), (oba, .inl (cI, 256, .inl bf)), (ot, .inr (4, [.ref ota, .int tw, .int th])), (ota, .inl (cI, 64, .inl f_71_ota))] H → va_D A [(ob, .inr (0, [.ref oba, .int bl])), (oba, .inl (cI, 256, .inl bf)), (ot, .inr (4, [.ref ota, .int tw, .int th])), (ota, .inl (cI, 64, .inl f_71_ota))] → va_S A s.heap H locs → ∀ ls : Array Slot, lv_has ls 13 [(10, .int x10_71), (9, .int x9_71), (8, .int x8_71), (7, .int ((a1 + (1 : Int32)) + ((((bf a1.toNatClampNeg) * tw) + (7 : Int32)) / (8 : Int32)))), (6, .int ((bf a1.toNatClampNeg) * tw)), (5, .int (bf a1.toNatClampNeg)), (0, .ref ob), (1, .int a1), (2, .int a2), (3, .ref ot), (4, .int a3)] → W p l e (headSpec wsZO_openRow rm_ZO_openRow).room s m args below meth c H locs 0 0 Q9 (F0 m 148 ls [])) → ∀ (n : Nat) (x8_71 : Int32) (x9_71 : Int32) (x10_71 : Int32) (f_71_ota : Nat → Int32), lp_ZO_openRow_71 bl bf tw th tf a1 a2 a3 post K71 n x8_71 x9_71 x10_71 f_71_ota → ∀ (H : Heap) (locs : List Loc), va_P (dC, dI) vwCl [(ob, .inr (0, [.ref oba, .int bl])), (oba, .inl (cI, 256, .inl bf)), (ot, .inr (4, [.ref ota, .int tw, .int th])), (ota, .inl (cI, 64, .inl f_71_ota))] H → va_D A [(ob, .inr (0, [.ref oba, .int bl])), (oba, .inl (cI, 256, .inl bf)), (ot, .inr (4, [.ref ota, .int tw, .int th])), (ota, .inl (cI, 64, .inl f_71_ota))] → va_S A s.heap H locs → ∀ ls : Array Slot, lv_has ls 13 [(10, .int x10_71), (9, .int x9_71), (8, .int x8_71), (7, .int ((a1 + (1 : Int32)) + ((((bf a1.toNatClampNeg) * tw) + (7 : Int32)) / (8 : Int32)))), (6, .int ((bf a1.toNatClampNeg) * tw)), (5, .int (bf a1.toNatClampNeg)), (0, .ref ob), (1, .int a1), (2, .int a2), (3, .ref ot), (4, .int a3)] → W p l e (headSpec wsZO_openRow rm_ZO_openRow).room s m args below meth c H locs 0 0 Q9 (F0 m 71 ls []) := by
          intro K71 aft71 n
          induction n with
          | zero => intro x8_71 x9_71 x10_71 f_71_ota hw; exact False.elim hw
          | succ n ih71 =>
            intro x8_71 x9_71 x10_71 f_71_ota hw H locs hP hD hS ls hl
            refine lv_iload hx hb dZO_openRow_71 (lv_at hl 0 rfl) ?_
            refine lv_aload_n hx hb dZO_openRow_73 rfl (lv_at hl 9 rfl) ?_
            refine va_get (D := (dC, dI)) (ci := 4) (v := .int tw) (C := RZT) (T := TZT) (N := 3) hx hb hts inZT hown hK hP 2 rfl rfl 1 (by decide) (hts _ mm_121) (fun _ h9 => h9) rfl dZO_openRow_74 ?_
            refine lv_icmp_ge (tgt := 148) hx hb dZO_openRow_77 (by decide) (fun c_6 => ?_) (fun c_6 => ?_)
            · have hw := hw.1 c_6
              exact aft71 x8_71 x9_71 x10_71 f_71_ota hw _ _ (hP.sub [0, 1, 2, 3] rfl) (hD.sub [0, 1, 2, 3] (by decide) rfl) hS ls (lv_sub hl [0, 1, 2, 3, 4, 5, 6, 7, 8, 9, 10] rfl)
            · have hw := hw.2 c_6
              refine lv_aload_n hx hb dZO_openRow_80 rfl (lv_at hl 6 rfl) ?_
              refine lv_iload hx hb dZO_openRow_81 (lv_at hl 2 rfl) ?_
              refine lv_iload hx hb dZO_openRow_83 (lv_at hl 5 rfl) ?_
              have hPc := hP.sub (ws' := [(ob, .inr (0, [.ref oba, .int bl])), (oba, .inl (cI, 256, .inl bf))]) [0, 1] rfl
              refine vp_callSi (va_runV (As := [.int x8_71, .int (bf a1.toNatClampNeg)]) (rest := []) ⟨hx, hb, hml, hown, hts⟩ (kt_ZB_bitsFrom l dC dI cI ob oba bl bf x8_71 (bf a1.toNatClampNeg) _ hw) (cwV 2 hts (tb_V mm_191 mm_192 mm_193 mm_5 mm_194) rfl rfl rfl (by decide +kernel) ⟨Nat.le_of_ble_eq_true rfl, Nat.le_of_ble_eq_true rfl⟩) ⟨gr_blind, va_recv hK hPc (ci := 0) (q0 := 0) rfl rfl, fun U hU hW => gr_pre hPc hK hE hU hW⟩ rfl rfl hl.1 rfl (lv_room (Nat.le_of_ble_eq_true rfl)) dZO_openRow_85 ⟨Nat.le_of_ble_eq_true rfl, Nat.le_of_ble_eq_true rfl⟩).run (fun r_7 hw => ?_)
              refine lv_istore (lv' := [(11, .int r_7), (10, .int x10_71), (9, .int x9_71), (8, .int x8_71), (7, .int ((a1 + (1 : Int32)) + ((((bf a1.toNatClampNeg) * tw) + (7 : Int32)) / (8 : Int32)))), (6, .int ((bf a1.toNatClampNeg) * tw)), (5, .int (bf a1.toNatClampNeg)), (0, .ref ob), (1, .int a1), (2, .int a2), (3, .ref ot), (4, .int a3)]) hx hb dZO_openRow_88 hl (by decide) rfl (fun ls hl => ?_)
              refine lv_aload_n hx hb dZO_openRow_90 rfl (lv_at hl 10 rfl) ?_
              refine lv_iload hx hb dZO_openRow_91 (lv_at hl 1 rfl) ?_
              refine lv_iload hx hb dZO_openRow_93 (lv_at hl 11 rfl) ?_
              have hPc := hP.sub (ws' := [(ot, .inr (4, [.ref ota, .int tw, .int th])), (ota, .inl (cI, 64, .inl f_71_ota))]) [2, 3] rfl
              refine vp_callSi (va_runV (As := [.int x10_71, .int a3]) (rest := []) ⟨hx, hb, hml, hown, hts⟩ (kt_ZT_formerSample l dC dI cI ot ota tw th f_71_ota x10_71 a3 _ hw) (cwV 2 hts (tb_V mm_195 mm_196 mm_197 mm_7 mm_198) rfl rfl rfl (by decide +kernel) ⟨Nat.le_of_ble_eq_true rfl, Nat.le_of_ble_eq_true rfl⟩) ⟨gr_blind, va_recv hK hPc (ci := 4) (q0 := 0) rfl rfl, fun U hU hW => gr_pre hPc hK hE hU hW⟩ rfl rfl hl.1 rfl (lv_room (Nat.le_of_ble_eq_true rfl)) dZO_openRow_95 ⟨Nat.le_of_ble_eq_true rfl, Nat.le_of_ble_eq_true rfl⟩).run (fun r_8 hw => ?_)
              refine lv_iload hx hb dZO_openRow_98 (lv_at hl 0 rfl) ?_
              have hPc := hP.sub (ws' := []) [] rfl
              refine vp_callSi (va_runS (As := [.int r_7]) (rest := [.int r_8]) ⟨hx, hb, hml, hown, hts⟩ (kt_ZO_differenceOf l dC dI cI  r_7 _ hw) (va_cwS 1 hts (tb_S mm_203 mm_204 mm_16 mm_205) rfl rfl rfl (by decide +kernel) ⟨Nat.le_of_ble_eq_true rfl, Nat.le_of_ble_eq_true rfl⟩) ⟨gr_blind, fun U hU hW => gr_pre hPc hK hE hU hW⟩ rfl rfl hl.1 rfl (lv_room (Nat.le_of_ble_eq_true rfl)) dZO_openRow_100 ⟨Nat.le_of_ble_eq_true rfl, Nat.le_of_ble_eq_true rfl⟩).run (fun r_9 hw => ?_)
              refine lv_iadd hx hb dZO_openRow_103 ?_
              refine lv_istore (lv' := [(12, .int (r_8 + r_9)), (11, .int r_7), (10, .int x10_71), (9, .int x9_71), (8, .int x8_71), (7, .int ((a1 + (1 : Int32)) + ((((bf a1.toNatClampNeg) * tw) + (7 : Int32)) / (8 : Int32)))), (6, .int ((bf a1.toNatClampNeg) * tw)), (5, .int (bf a1.toNatClampNeg)), (0, .ref ob), (1, .int a1), (2, .int a2), (3, .ref ot), (4, .int a3)]) hx hb dZO_openRow_104 hl (by decide) rfl (fun ls hl => ?_)
              refine lv_iload hx hb dZO_openRow_106 (lv_at hl 0 rfl) ?_
              have hPc := hP.sub (ws' := []) [] rfl
              refine vp_callSi (va_runSN (As := [.int (r_8 + r_9)]) (rest := []) ⟨hx, hb, hml, hown, hts⟩ (kt_ZQ_isSample l dC dI cI  (r_8 + r_9) _ hw) ⟨(va_cnB 1 hts (tb_0 mm_208) rfl rfl rfl (gxE_2 hE) (hts _ mm_1) (by decide +kernel) ⟨Nat.le_of_ble_eq_true rfl, Nat.le_of_ble_eq_true rfl⟩), hts _ mm_207, trivial⟩ ⟨gr_blind, fun U hU hW => gr_pre hPc hK hE hU hW⟩ rfl rfl hl.1 rfl (lv_room (Nat.le_of_ble_eq_true rfl)) dZO_openRow_108 ⟨Nat.le_of_ble_eq_true rfl, Nat.le_of_ble_eq_true rfl⟩).run (fun r_10 hw => ?_)
              refine lv_if_ne (tgt := 116) hx hb dZO_openRow_111 (by decide) (fun c_11 => ?_) (fun c_11 => ?_)
              · have hw := hw.2 c_11
                refine lv_aload_n hx hb dZO_openRow_116 rfl (lv_at hl 11 rfl) ?_
                refine lv_iload hx hb dZO_openRow_117 (lv_at hl 2 rfl) ?_
                refine lv_iload hx hb dZO_openRow_119 (lv_at hl 12 rfl) ?_
                refine lv_iload hx hb dZO_openRow_121 (lv_at hl 0 rfl) ?_
                have hPc := hP.sub (ws' := [(ot, .inr (4, [.ref ota, .int tw, .int th])), (ota, .inl (cI, 64, .inl f_71_ota))]) [2, 3] rfl
                have hDc := hD.sub (ws' := [(ot, .inr (4, [.ref ota, .int tw, .int th])), (ota, .inl (cI, 64, .inl f_71_ota))]) [2, 3] (by decide) rfl
                have hFc := va_free (wc := [(ot, .inr (4, [.ref ota, .int tw, .int th])), (ota, .inl (cI, 64, .inl f_71_ota))]) hD hS hA [2, 3] rfl
                refine va_callv (va_runV (As := [.int x10_71, .int a3, .int (r_8 + r_9)]) (rest := []) ⟨hx, hb, hml, hown, hts⟩ (kt_ZT_setSample l dC dI cI ot ota _ tw th f_71_ota x10_71 a3 (r_8 + r_9) _ hw) (cwV 3 hts (tb_V mm_209 mm_210 mm_211 mm_7 mm_212) rfl rfl rfl (by decide +kernel) ⟨Nat.le_of_ble_eq_true rfl, Nat.le_of_ble_eq_true rfl⟩) ⟨gw_blind, va_recv hK hPc (ci := 4) (q0 := 0) rfl rfl, fun U hU hW => gw_pre hPc hDc hK hE hU hW⟩ rfl rfl hl.1 rfl (lv_room (Nat.le_of_ble_eq_true rfl)) dZO_openRow_123 ⟨Nat.le_of_ble_eq_true rfl, Nat.le_of_ble_eq_true rfl⟩) hS (fun q _ h => hFc q h) hFc (fun tf_12 t H1 locs ht hvm hw hB hz1 hk1 hS => ?_)
                obtain ⟨hP1, hK1, hD1⟩ := hB
                rw [ht] at hP1
                try dsimp only at hw
                obtain ⟨hP, hD⟩ := va_join (wr := [(ob, .inr (0, [.ref oba, .int bl])), (oba, .inl (cI, 256, .inl bf))]) (w1 := [(ot, .inr (4, [.ref ota, .int tw, .int th])), (ota, .inl (cI, 64, .inl tf_12))]) hP hD [2, 3] [0, 1] rfl rfl (by decide) (by decide) hk1 hFc hP1 hD1
                generalize H1 = H at hP hS ⊢
                have hP : va_P (dC, dI) vwCl [(ob, .inr (0, [.ref oba, .int bl])), (oba, .inl (cI, 256, .inl bf)), (ot, .inr (4, [.ref ota, .int tw, .int th])), (ota, .inl (cI, 64, .inl tf_12))] H := hP
                have hD : va_D A [(ob, .inr (0, [.ref oba, .int bl])), (oba, .inl (cI, 256, .inl bf)), (ot, .inr (4, [.ref ota, .int tw, .int th])), (ota, .inl (cI, 64, .inl tf_12))] := hD
                refine lv_iload hx hb dZO_openRow_126 (lv_at hl 3 rfl) ?_
                refine lv_iload hx hb dZO_openRow_128 (lv_at hl 1 rfl) ?_
                refine va_mmax hx hb (hml.trans hl.1.symm) hown (hts _ mm_213) (hts _ mm_29) (hts _ mm_2) (hts _ mm_30) (Nat.le_of_ble_eq_true rfl) (Nat.le_of_ble_eq_true rfl) (Nat.le_of_ble_eq_true rfl) (Nat.le_of_ble_eq_true rfl) dZO_openRow_130 ?_
                refine lv_istore (lv' := [(9, .int (if x9_71 < r_7 then r_7 else x9_71)), (12, .int (r_8 + r_9)), (11, .int r_7), (10, .int x10_71), (8, .int x8_71), (7, .int ((a1 + (1 : Int32)) + ((((bf a1.toNatClampNeg) * tw) + (7 : Int32)) / (8 : Int32)))), (6, .int ((bf a1.toNatClampNeg) * tw)), (5, .int (bf a1.toNatClampNeg)), (0, .ref ob), (1, .int a1), (2, .int a2), (3, .ref ot), (4, .int a3)]) hx hb dZO_openRow_133 hl (by decide) rfl (fun ls hl => ?_)
                refine lv_iload hx hb dZO_openRow_135 (lv_at hl 4 rfl) ?_
                refine lv_iload hx hb dZO_openRow_137 (lv_at hl 7 rfl) ?_
                refine lv_iadd hx hb dZO_openRow_139 ?_
                refine lv_istore (lv' := [(8, .int (x8_71 + (bf a1.toNatClampNeg))), (9, .int (if x9_71 < r_7 then r_7 else x9_71)), (12, .int (r_8 + r_9)), (11, .int r_7), (10, .int x10_71), (7, .int ((a1 + (1 : Int32)) + ((((bf a1.toNatClampNeg) * tw) + (7 : Int32)) / (8 : Int32)))), (6, .int ((bf a1.toNatClampNeg) * tw)), (5, .int (bf a1.toNatClampNeg)), (0, .ref ob), (1, .int a1), (2, .int a2), (3, .ref ot), (4, .int a3)]) hx hb dZO_openRow_140 hl (by decide) rfl (fun ls hl => ?_)
                refine lv_iinc (v := x10_71 + (1 : Int32)) (lv' := [(10, .int (x10_71 + (1 : Int32))), (8, .int (x8_71 + (bf a1.toNatClampNeg))), (9, .int (if x9_71 < r_7 then r_7 else x9_71)), (12, .int (r_8 + r_9)), (11, .int r_7), (7, .int ((a1 + (1 : Int32)) + ((((bf a1.toNatClampNeg) * tw) + (7 : Int32)) / (8 : Int32)))), (6, .int ((bf a1.toNatClampNeg) * tw)), (5, .int (bf a1.toNatClampNeg)), (0, .ref ob), (1, .int a1), (2, .int a2), (3, .ref ot), (4, .int a3)]) hx hb dZO_openRow_142 hl (k := 4) rfl rfl (by decide) rfl (fun ls hl => ?_)
                refine lv_goto (tgt := 71) hx hb dZO_openRow_145 (by decide) ?_
                exact ih71 (x8_71 + (bf a1.toNatClampNeg)) (if x9_71 < r_7 then r_7 else x9_71) (x10_71 + (1 : Int32)) tf_12 hw _ _ (hP.sub [0, 1, 2, 3] rfl) (hD.sub [0, 1, 2, 3] (by decide) rfl) hS ls (lv_sub hl [0, 2, 1, 5, 6, 7, 8, 9, 10, 11, 12] rfl)
              · have hw := hw.1 c_11
                refine lv_iconst (v := (-1 : Int32)) hx hb dZO_openRow_114 (by decide) ?_
                have hP9 := hP.sub (ws' := [(ob, .inr (0, [.ref oba, .int bl])), (oba, .inl (cI, 256, .inl bf)), (ot, .inr (4, [.ref ota, .int tw, .int th])), (ota, .inl (cI, 64, .inl f_71_ota))]) [0, 1, 2, 3] rfl
                have hD9 := hD.sub (ws' := [(ob, .inr (0, [.ref oba, .int bl])), (oba, .inl (cI, 256, .inl bf)), (ot, .inr (4, [.ref ota, .int tw, .int th])), (ota, .inl (cI, 64, .inl f_71_ota))]) [0, 1, 2, 3] (by decide) rfl
                subst hQ9
                exact W.iret (v := (-1 : Int32)) hx hb hr (fun t ht hW => ⟨⟨(-1 : Int32), f_71_ota, rfl, hw, by rw [ht]; exact hP9, va_K.moved hW.alike hK, hD9⟩, hS.F ht⟩) hS.2.2 dZO_openRow_115
        obtain ⟨n71, hw⟩ := hw
        refine lp71 _ (fun x8_71e x9_71e x10_71e f_71e_ota hw H locs hP hD hS ls hl => ?_) n71 ((8 : Int32) * (a1 + (1 : Int32))) (0 : Int32) (0 : Int32) tf hw _ _ (hP.sub [0, 1, 2, 3] rfl) (hD.sub [0, 1, 2, 3] (by decide) rfl) hS ls (lv_sub hl [0, 1, 2, 3, 4, 5, 6, 7, 8, 9, 10] rfl)
        refine lv_aload_n hx hb dZO_openRow_148 rfl (lv_at hl 6 rfl) ?_
        refine lv_iload hx hb dZO_openRow_149 (lv_at hl 2 rfl) ?_
        refine lv_bipush (v := (8 : Int32)) hx hb dZO_openRow_151 (by decide) ?_
        refine lv_iload hx hb dZO_openRow_153 (lv_at hl 3 rfl) ?_
        refine lv_imul hx hb dZO_openRow_155 ?_
        refine lv_iload hx hb dZO_openRow_156 (lv_at hl 2 rfl) ?_
        refine lv_isub hx hb dZO_openRow_158 ?_
        have hPc := hP.sub (ws' := [(ob, .inr (0, [.ref oba, .int bl])), (oba, .inl (cI, 256, .inl bf))]) [0, 1] rfl
        refine vp_callSi (va_runV (As := [.int x8_71e, .int (((8 : Int32) * ((a1 + (1 : Int32)) + ((((bf a1.toNatClampNeg) * tw) + (7 : Int32)) / (8 : Int32)))) - x8_71e)]) (rest := []) ⟨hx, hb, hml, hown, hts⟩ (kt_ZB_bitsFrom l dC dI cI ob oba bl bf x8_71e (((8 : Int32) * ((a1 + (1 : Int32)) + ((((bf a1.toNatClampNeg) * tw) + (7 : Int32)) / (8 : Int32)))) - x8_71e) _ hw) (cwV 2 hts (tb_V mm_191 mm_192 mm_193 mm_5 mm_194) rfl rfl rfl (by decide +kernel) ⟨Nat.le_of_ble_eq_true rfl, Nat.le_of_ble_eq_true rfl⟩) ⟨gr_blind, va_recv hK hPc (ci := 0) (q0 := 0) rfl rfl, fun U hU hW => gr_pre hPc hK hE hU hW⟩ rfl rfl hl.1 rfl (lv_room (Nat.le_of_ble_eq_true rfl)) dZO_openRow_159 ⟨Nat.le_of_ble_eq_true rfl, Nat.le_of_ble_eq_true rfl⟩).run (fun r_13 hw => ?_)
        obtain ⟨J170, hJ170, hw⟩ := hw
        have j170 : ∀ (t0_j170 : Int32), J170 t0_j170 → ∀ (H : Heap) (locs : List Loc), va_P (dC, dI) vwCl [(ob, .inr (0, [.ref oba, .int bl])), (oba, .inl (cI, 256, .inl bf)), (ot, .inr (4, [.ref ota, .int tw, .int th])), (ota, .inl (cI, 64, .inl f_71e_ota))] H → va_D A [(ob, .inr (0, [.ref oba, .int bl])), (oba, .inl (cI, 256, .inl bf)), (ot, .inr (4, [.ref ota, .int tw, .int th])), (ota, .inl (cI, 64, .inl f_71e_ota))] → va_S A s.heap H locs → ∀ ls : Array Slot, lv_has ls 13 [(10, .int x10_71e), (9, .int x9_71e), (8, .int x8_71e), (7, .int ((a1 + (1 : Int32)) + ((((bf a1.toNatClampNeg) * tw) + (7 : Int32)) / (8 : Int32)))), (6, .int ((bf a1.toNatClampNeg) * tw)), (5, .int (bf a1.toNatClampNeg)), (0, .ref ob), (1, .int a1), (2, .int a2), (3, .ref ot), (4, .int a3)] → W p l e (headSpec wsZO_openRow rm_ZO_openRow).room s m args below meth c H locs 0 0 Q9 (F0 m 170 ls [.int t0_j170]) := by
          intro t0_j170 hw H locs hP hD hS ls hl
          have hw := hJ170 t0_j170 hw
          refine lv_istore (lv' := [(10, .int t0_j170), (9, .int x9_71e), (8, .int x8_71e), (7, .int ((a1 + (1 : Int32)) + ((((bf a1.toNatClampNeg) * tw) + (7 : Int32)) / (8 : Int32)))), (6, .int ((bf a1.toNatClampNeg) * tw)), (5, .int (bf a1.toNatClampNeg)), (0, .ref ob), (1, .int a1), (2, .int a2), (3, .ref ot), (4, .int a3)]) hx hb dZO_openRow_170 hl (by decide) rfl (fun ls hl => ?_)
          refine lv_iload hx hb dZO_openRow_172 (lv_at hl 0 rfl) ?_
          refine lv_if_eq (tgt := 192) hx hb dZO_openRow_174 (by decide) (fun c_14 => ?_) (fun c_14 => ?_)
          · have hw := hw.1 c_14
            refine lv_iconst (v := (-1 : Int32)) hx hb dZO_openRow_192 (by decide) ?_
            have hP9 := hP.sub (ws' := [(ob, .inr (0, [.ref oba, .int bl])), (oba, .inl (cI, 256, .inl bf)), (ot, .inr (4, [.ref ota, .int tw, .int th])), (ota, .inl (cI, 64, .inl f_71e_ota))]) [0, 1, 2, 3] rfl
            have hD9 := hD.sub (ws' := [(ob, .inr (0, [.ref oba, .int bl])), (oba, .inl (cI, 256, .inl bf)), (ot, .inr (4, [.ref ota, .int tw, .int th])), (ota, .inl (cI, 64, .inl f_71e_ota))]) [0, 1, 2, 3] (by decide) rfl
            subst hQ9
            exact W.iret (v := (-1 : Int32)) hx hb hr (fun t ht hW => ⟨⟨(-1 : Int32), f_71e_ota, rfl, hw, by rw [ht]; exact hP9, va_K.moved hW.alike hK, hD9⟩, hS.F ht⟩) hS.2.2 dZO_openRow_193
          · have hw := hw.2 c_14
            refine lv_iload hx hb dZO_openRow_177 (lv_at hl 1 rfl) ?_
            have hPc := hP.sub (ws' := []) [] rfl
            refine vp_callSi (va_runSN (As := [.int x9_71e]) (rest := []) ⟨hx, hb, hml, hown, hts⟩ (kt_ZQ_bitsNeeded l dC dI cI  x9_71e _ hw) ⟨(va_cnB 1 hts (tb_0 mm_216) rfl rfl rfl (gxE_3 hE) (hts _ mm_1) (by decide +kernel) ⟨Nat.le_of_ble_eq_true rfl, Nat.le_of_ble_eq_true rfl⟩), hts _ mm_215, trivial⟩ ⟨gr_blind, fun U hU hW => gr_pre hPc hK hE hU hW⟩ rfl rfl hl.1 rfl (lv_room (Nat.le_of_ble_eq_true rfl)) dZO_openRow_179 ⟨Nat.le_of_ble_eq_true rfl, Nat.le_of_ble_eq_true rfl⟩).run (fun r_15 hw => ?_)
            refine lv_iload hx hb dZO_openRow_182 (lv_at hl 5 rfl) ?_
            refine lv_icmp_ne (tgt := 192) hx hb dZO_openRow_184 (by decide) (fun c_16 => ?_) (fun c_16 => ?_)
            · have hw := hw.2 c_16
              refine lv_iconst (v := (-1 : Int32)) hx hb dZO_openRow_192 (by decide) ?_
              have hP9 := hP.sub (ws' := [(ob, .inr (0, [.ref oba, .int bl])), (oba, .inl (cI, 256, .inl bf)), (ot, .inr (4, [.ref ota, .int tw, .int th])), (ota, .inl (cI, 64, .inl f_71e_ota))]) [0, 1, 2, 3] rfl
              have hD9 := hD.sub (ws' := [(ob, .inr (0, [.ref oba, .int bl])), (oba, .inl (cI, 256, .inl bf)), (ot, .inr (4, [.ref ota, .int tw, .int th])), (ota, .inl (cI, 64, .inl f_71e_ota))]) [0, 1, 2, 3] (by decide) rfl
              subst hQ9
              exact W.iret (v := (-1 : Int32)) hx hb hr (fun t ht hW => ⟨⟨(-1 : Int32), f_71e_ota, rfl, hw, by rw [ht]; exact hP9, va_K.moved hW.alike hK, hD9⟩, hS.F ht⟩) hS.2.2 dZO_openRow_193
            · have hw := hw.1 c_16
              refine lv_iload hx hb dZO_openRow_187 (lv_at hl 3 rfl) ?_
              refine lv_goto (tgt := 193) hx hb dZO_openRow_189 (by decide) ?_
              have hP9 := hP.sub (ws' := [(ob, .inr (0, [.ref oba, .int bl])), (oba, .inl (cI, 256, .inl bf)), (ot, .inr (4, [.ref ota, .int tw, .int th])), (ota, .inl (cI, 64, .inl f_71e_ota))]) [0, 1, 2, 3] rfl
              have hD9 := hD.sub (ws' := [(ob, .inr (0, [.ref oba, .int bl])), (oba, .inl (cI, 256, .inl bf)), (ot, .inr (4, [.ref ota, .int tw, .int th])), (ota, .inl (cI, 64, .inl f_71e_ota))]) [0, 1, 2, 3] (by decide) rfl
              subst hQ9
              exact W.iret (v := (a1 + (1 : Int32)) + ((((bf a1.toNatClampNeg) * tw) + (7 : Int32)) / (8 : Int32))) hx hb hr (fun t ht hW => ⟨⟨(a1 + (1 : Int32)) + ((((bf a1.toNatClampNeg) * tw) + (7 : Int32)) / (8 : Int32)), f_71e_ota, rfl, hw, by rw [ht]; exact hP9, va_K.moved hW.alike hK, hD9⟩, hS.F ht⟩) hS.2.2 dZO_openRow_193
        refine lv_if_ne (tgt := 169) hx hb dZO_openRow_162 (by decide) (fun c_17 => ?_) (fun c_17 => ?_)
        · have hw := hw.2 c_17
          refine lv_iconst (v := (0 : Int32)) hx hb dZO_openRow_169 (by decide) ?_
          exact j170 (0 : Int32) hw _ _ (hP.sub [0, 1, 2, 3] rfl) (hD.sub [0, 1, 2, 3] (by decide) rfl) hS ls (lv_sub hl [0, 1, 2, 3, 4, 5, 6, 7, 8, 9, 10] rfl)
        · have hw := hw.1 c_17
          refine lv_iconst (v := (1 : Int32)) hx hb dZO_openRow_165 (by decide) ?_
          refine lv_goto (tgt := 170) hx hb dZO_openRow_166 (by decide) ?_
          exact j170 (1 : Int32) hw _ _ (hP.sub [0, 1, 2, 3] rfl) (hD.sub [0, 1, 2, 3] (by decide) rfl) hS ls (lv_sub hl [0, 1, 2, 3, 4, 5, 6, 7, 8, 9, 10] rfl)
      · have hw := hw.2 c_5
        refine lv_iconst (v := (-1 : Int32)) hx hb dZO_openRow_55 (by decide) ?_
        have hP9 := hP.sub (ws' := [(ob, .inr (0, [.ref oba, .int bl])), (oba, .inl (cI, 256, .inl bf)), (ot, .inr (4, [.ref ota, .int tw, .int th])), (ota, .inl (cI, 64, .inl tf))]) [0, 1, 2, 3] rfl
        have hD9 := hD.sub (ws' := [(ob, .inr (0, [.ref oba, .int bl])), (oba, .inl (cI, 256, .inl bf)), (ot, .inr (4, [.ref ota, .int tw, .int th])), (ota, .inl (cI, 64, .inl tf))]) [0, 1, 2, 3] (by decide) rfl
        subst hQ9
        exact W.iret (v := (-1 : Int32)) hx hb hr (fun t ht hW => ⟨⟨(-1 : Int32), tf, rfl, hw, by rw [ht]; exact hP9, va_K.moved hW.alike hK, hD9⟩, hS.F ht⟩) hS.2.2 dZO_openRow_56
    · have hw := hw.2 c_3
      refine lv_iconst (v := (-1 : Int32)) hx hb dZO_openRow_16 (by decide) ?_
      have hP9 := hP.sub (ws' := [(ob, .inr (0, [.ref oba, .int bl])), (oba, .inl (cI, 256, .inl bf)), (ot, .inr (4, [.ref ota, .int tw, .int th])), (ota, .inl (cI, 64, .inl tf))]) [0, 1, 2, 3] rfl
      have hD9 := hD.sub (ws' := [(ob, .inr (0, [.ref oba, .int bl])), (oba, .inl (cI, 256, .inl bf)), (ot, .inr (4, [.ref ota, .int tw, .int th])), (ota, .inl (cI, 64, .inl tf))]) [0, 1, 2, 3] (by decide) rfl
      subst hQ9
      exact W.iret (v := (-1 : Int32)) hx hb hr (fun t ht hW => ⟨⟨(-1 : Int32), tf, rfl, hw, by rw [ht]; exact hP9, va_K.moved hW.alike hK, hD9⟩, hS.F ht⟩) hS.2.2 dZO_openRow_17
theorem dZO_openTile_0 : decode cZO_openTile 0 = .ok (.aload_n 0, 1) := by decide +kernel
theorem dZO_openTile_1 : decode cZO_openTile 1 = .ok (.getfield 9, 3) := by decide +kernel
theorem dZO_openTile_4 : decode cZO_openTile 4 = .ok (.iconst 2, 1) := by decide +kernel
theorem dZO_openTile_5 : decode cZO_openTile 5 = .ok (.isub, 1) := by decide +kernel
theorem dZO_openTile_6 : decode cZO_openTile 6 = .ok (.istore_n 2, 1) := by decide +kernel
theorem dZO_openTile_7 : decode cZO_openTile 7 = .ok (.iload_n 2, 1) := by decide +kernel
theorem dZO_openTile_8 : decode cZO_openTile 8 = .ok (.iconst 2, 1) := by decide +kernel
theorem dZO_openTile_9 : decode cZO_openTile 9 = .ok (.if_icmp .lt 27, 3) := by decide +kernel
theorem dZO_openTile_12 : decode cZO_openTile 12 = .ok (.aload_n 0, 1) := by decide +kernel
theorem dZO_openTile_13 : decode cZO_openTile 13 = .ok (.getfield 19, 3) := by decide +kernel
theorem dZO_openTile_16 : decode cZO_openTile 16 = .ok (.iconst 0, 1) := by decide +kernel
theorem dZO_openTile_17 : decode cZO_openTile 17 = .ok (.iaload, 1) := by decide +kernel
theorem dZO_openTile_18 : decode cZO_openTile 18 = .ok (.invokestatic 23, 3) := by decide +kernel
theorem dZO_openTile_21 : decode cZO_openTile 21 = .ok (.ifCond .eq 15, 3) := by decide +kernel
theorem dZO_openTile_24 : decode cZO_openTile 24 = .ok (.aload_n 0, 1) := by decide +kernel
theorem dZO_openTile_25 : decode cZO_openTile 25 = .ok (.getfield 19, 3) := by decide +kernel
theorem dZO_openTile_28 : decode cZO_openTile 28 = .ok (.iconst 1, 1) := by decide +kernel
theorem dZO_openTile_29 : decode cZO_openTile 29 = .ok (.iaload, 1) := by decide +kernel
theorem dZO_openTile_30 : decode cZO_openTile 30 = .ok (.invokestatic 23, 3) := by decide +kernel
theorem dZO_openTile_33 : decode cZO_openTile 33 = .ok (.ifCond .ne 5, 3) := by decide +kernel
theorem dZO_openTile_36 : decode cZO_openTile 36 = .ok (.iconst 0, 1) := by decide +kernel
theorem dZO_openTile_37 : decode cZO_openTile 37 = .ok (.ireturn, 1) := by decide +kernel
theorem dZO_openTile_38 : decode cZO_openTile 38 = .ok (.aload_n 1, 1) := by decide +kernel
theorem dZO_openTile_39 : decode cZO_openTile 39 = .ok (.aload_n 0, 1) := by decide +kernel
theorem dZO_openTile_40 : decode cZO_openTile 40 = .ok (.getfield 19, 3) := by decide +kernel
theorem dZO_openTile_43 : decode cZO_openTile 43 = .ok (.iconst 0, 1) := by decide +kernel
theorem dZO_openTile_44 : decode cZO_openTile 44 = .ok (.iaload, 1) := by decide +kernel
theorem dZO_openTile_45 : decode cZO_openTile 45 = .ok (.aload_n 0, 1) := by decide +kernel
theorem dZO_openTile_46 : decode cZO_openTile 46 = .ok (.getfield 19, 3) := by decide +kernel
theorem dZO_openTile_49 : decode cZO_openTile 49 = .ok (.iconst 1, 1) := by decide +kernel
theorem dZO_openTile_50 : decode cZO_openTile 50 = .ok (.iaload, 1) := by decide +kernel
theorem dZO_openTile_51 : decode cZO_openTile 51 = .ok (.invokevirtual 29, 3) := by decide +kernel
theorem dZO_openTile_54 : decode cZO_openTile 54 = .ok (.iconst 2, 1) := by decide +kernel
theorem dZO_openTile_55 : decode cZO_openTile 55 = .ok (.istore_n 3, 1) := by decide +kernel
theorem dZO_openTile_56 : decode cZO_openTile 56 = .ok (.iconst 0, 1) := by decide +kernel
theorem dZO_openTile_57 : decode cZO_openTile 57 = .ok (.istore 4, 2) := by decide +kernel
theorem dZO_openTile_59 : decode cZO_openTile 59 = .ok (.iload 4, 2) := by decide +kernel
theorem dZO_openTile_61 : decode cZO_openTile 61 = .ok (.aload_n 1, 1) := by decide +kernel
theorem dZO_openTile_62 : decode cZO_openTile 62 = .ok (.getfield 35, 3) := by decide +kernel
theorem dZO_openTile_65 : decode cZO_openTile 65 = .ok (.if_icmp .ge 24, 3) := by decide +kernel
theorem dZO_openTile_68 : decode cZO_openTile 68 = .ok (.iload_n 3, 1) := by decide +kernel
theorem dZO_openTile_69 : decode cZO_openTile 69 = .ok (.iconst (-1), 1) := by decide +kernel
theorem dZO_openTile_70 : decode cZO_openTile 70 = .ok (.if_icmp .eq 19, 3) := by decide +kernel
theorem dZO_openTile_73 : decode cZO_openTile 73 = .ok (.aload_n 0, 1) := by decide +kernel
theorem dZO_openTile_74 : decode cZO_openTile 74 = .ok (.iload_n 3, 1) := by decide +kernel
theorem dZO_openTile_75 : decode cZO_openTile 75 = .ok (.iload_n 2, 1) := by decide +kernel
theorem dZO_openTile_76 : decode cZO_openTile 76 = .ok (.aload_n 1, 1) := by decide +kernel
theorem dZO_openTile_77 : decode cZO_openTile 77 = .ok (.iload 4, 2) := by decide +kernel
theorem dZO_openTile_79 : decode cZO_openTile 79 = .ok (.invokestatic 38, 3) := by decide +kernel
theorem dZO_openTile_82 : decode cZO_openTile 82 = .ok (.istore_n 3, 1) := by decide +kernel
theorem dZO_openTile_83 : decode cZO_openTile 83 = .ok (.iinc 4 1, 3) := by decide +kernel
theorem dZO_openTile_86 : decode cZO_openTile 86 = .ok (.goto (-27), 3) := by decide +kernel
theorem dZO_openTile_89 : decode cZO_openTile 89 = .ok (.iload_n 3, 1) := by decide +kernel
theorem dZO_openTile_90 : decode cZO_openTile 90 = .ok (.iload_n 2, 1) := by decide +kernel
theorem dZO_openTile_91 : decode cZO_openTile 91 = .ok (.if_icmp .ne 7, 3) := by decide +kernel
theorem dZO_openTile_94 : decode cZO_openTile 94 = .ok (.iconst 1, 1) := by decide +kernel
theorem dZO_openTile_95 : decode cZO_openTile 95 = .ok (.goto 4, 3) := by decide +kernel
theorem dZO_openTile_98 : decode cZO_openTile 98 = .ok (.iconst 0, 1) := by decide +kernel
theorem dZO_openTile_99 : decode cZO_openTile 99 = .ok (.ireturn, 1) := by decide +kernel
abbrev wsZO_openTile : List Cond := .code yZO_openTile cZO_openTile 5 (some .boolean) :: tbg
def lp_ZO_openTile_59 (bl : Int32) (bf : Nat → Int32) (tw : Int32) (th : Int32) (tf : Nat → Int32) (r_3 : Int32) (r_6 : Int32) (tw_10 : Int32) (th_11 : Int32) (post : Int32 → Int32 → Int32 → (Nat → Int32) → Prop) (K59 : Int32 → Int32 → (Nat → Int32) → Prop) (n : Nat) : Int32 → Int32 → (Nat → Int32) → Prop := Nat.rec (motive := fun _ => Int32 → Int32 → (Nat → Int32) → Prop) (fun (x3_59 : Int32) (x4_59 : Int32) (f_59_ota : Nat → Int32) => False) (fun _ ih59 (x3_59 : Int32) (x4_59 : Int32) (f_59_ota : Nat → Int32) => ((th_11 ≤ x4_59 → (K59 x3_59 x4_59 f_59_ota)) ∧ (¬ th_11 ≤ x4_59 → ((x3_59 = (-1 : Int32) → (K59 x3_59 x4_59 f_59_ota)) ∧ (¬ x3_59 = (-1 : Int32) → (wp_ZO_openRow bl bf tw_10 th_11 f_59_ota x3_59 (bl - (2 : Int32)) x4_59 (fun (r_15 : Int32) (tf_14 : Nat → Int32) => ih59 r_15 (x4_59 + (1 : Int32)) tf_14))))))) n
def wp_ZO_openTile (bl : Int32) (bf : Nat → Int32) (tw : Int32) (th : Int32) (tf : Nat → Int32) (post : Int32 → Int32 → Int32 → (Nat → Int32) → Prop) : Prop := (((bl - (2 : Int32)) < (2 : Int32) → (post (0 : Int32) tw th tf)) ∧ (¬ (bl - (2 : Int32)) < (2 : Int32) → (vp_in (0 : Int32) 256 ∧ (wp_ZO_isSide (bf (0 : Int32).toNatClampNeg) (fun r_3 : Int32 => ((r_3 = (0 : Int32) → (post (0 : Int32) tw th tf)) ∧ (¬ r_3 = (0 : Int32) → (vp_in (1 : Int32) 256 ∧ (wp_ZO_isSide (bf (1 : Int32).toNatClampNeg) (fun r_6 : Int32 => ((r_6 = (0 : Int32) → (post (0 : Int32) tw th tf)) ∧ (¬ r_6 = (0 : Int32) → (vp_in (0 : Int32) 256 ∧ (vp_in (1 : Int32) 256 ∧ (wp_ZT_setSize tw th tf (bf (0 : Int32).toNatClampNeg) (bf (1 : Int32).toNatClampNeg) (fun (tw_10 : Int32) (th_11 : Int32) => ∃ n : Nat, lp_ZO_openTile_59 bl bf tw th tf r_3 r_6 tw_10 th_11 post (fun (x3_59e : Int32) (x4_59e : Int32) (f_59e_ota : Nat → Int32) => ((x3_59e = (bl - (2 : Int32)) → (post (1 : Int32) tw_10 th_11 f_59e_ota)) ∧ (¬ x3_59e = (bl - (2 : Int32)) → (post (0 : Int32) tw_10 th_11 f_59e_ota)))) n (2 : Int32) (0 : Int32) tf))))))))))))))))
abbrev rm_ZO_openTile : Room := { frames := 3, cells := 0, slots := 0, locals := 76 }
set_option maxHeartbeats 4000000 in
set_option maxRecDepth 100000 in
theorem kt_ZO_openTile (l : Launch) (dC : Nat → ClassId) (dI : Nat → Nat → Nat) (cI : ClassId) (ob oba ot ota : Nat) (sz : Nat) (bl : Int32) (bf : Nat → Int32) (tw : Int32) (th : Int32) (tf : Nat → Int32) (post : Int32 → Int32 → Int32 → (Nat → Int32) → Prop) (hw : wp_ZO_openTile bl bf tw th tf post) : Met l yZO_openTile wsZO_openTile rm_ZO_openTile (gw_Pc dC dI [(cI, .int)] [.ref ob, .ref ot] [(ob, .inr (0, [.ref oba, .int bl])), (oba, .inl (cI, 256, .inl bf)), (ot, .inr (4, [.ref ota, .int tw, .int th])), (ota, .inl (cI, 64, .inl tf))] sz) (va_Qi (fun (r : Int32) (u : Int32 × Int32 × (Nat → Int32)) => post r u.1 u.2.1 u.2.2) (fun u t => gw_B dC dI [(cI, .int)] (va_A [(ob, .inr (0, [.ref oba, .int bl])), (oba, .inl (cI, 256, .inl bf)), (ot, .inr (4, [.ref ota, .int tw, .int th])), (ota, .inl (cI, 64, .inl tf))] sz) [(ob, .inr (0, [.ref oba, .int bl])), (oba, .inl (cI, 256, .inl bf)), (ot, .inr (4, [.ref ota, .int u.1, .int u.2.1])), (ota, .inl (cI, 64, .inl u.2.2))] t) (va_A [(ob, .inr (0, [.ref oba, .int bl])), (oba, .inl (cI, 256, .inl bf)), (ot, .inr (4, [.ref ota, .int tw, .int th])), (ota, .inl (cI, 64, .inl tf))] sz)) 0 0 (va_A [(ob, .inr (0, [.ref oba, .int bl])), (oba, .inl (cI, 256, .inl bf)), (ot, .inr (4, [.ref ota, .int tw, .int th])), (ota, .inl (cI, 64, .inl tf))] sz) := by
  refine Met.ofW (cc := cZO_openTile) (maxL := 5) (ret := (some .boolean)) (by decide) rfl ?_
  intro p e s m args below meth c s₁ B hml hv
  obtain ⟨ha9, hsz, hP, hK, hE, hD0⟩ := hv
  have hx := B.exec
  have hb := B.bytes
  have hr := B.returns
  have hts0 := atoms_spec (ws := wsZO_openTile) B.pre
  have hts : ∀ w ∈ tbg, w.before args s = true := fun w h => hts0 w (List.mem_cons_of_mem _ h)
  have hown : s.vm.findClass RZO = some m.cls := findClass_of_methodNamed B.named
  have hlocks := B.notSynchronized
  subst hsz
  have hD := hD0.self (sz := s.heap.size)
  refine gx_Q (fun Q9 hQ9 => ?_)
  generalize hAe : va_A [(ob, .inr (0, [.ref oba, .int bl])), (oba, .inl (cI, 256, .inl bf)), (ot, .inr (4, [.ref ota, .int tw, .int th])), (ota, .inl (cI, 64, .inl tf))] s.heap.size = A at hD hQ9 ⊢
  have hA : ∀ q : Nat, s.heap.size ≤ q → A q := fun q h => by rw [← hAe]; exact Or.inr h
  have hS : va_S A s.heap s.heap [] := va_S.rf
  have hl := lv_entry ([.ref ob, .ref ot]) (n := 5) (Nat.le_of_ble_eq_true rfl)
  have he9 : entryFrame m args 5 = F0 m 0 ((lg_sl [.ref ob, .ref ot] ++ List.replicate (5 - (lg_sl ([.ref ob, .ref ot] : List Value)).length) Slot.unset).toArray) [] := by rw [ha9]; exact lg_entry_eq m [.ref ob, .ref ot] 5
  rw [he9]
  generalize (lg_sl ([.ref ob, .ref ot] : List Value) ++ List.replicate (5 - (lg_sl ([.ref ob, .ref ot] : List Value)).length) Slot.unset).toArray = ls at hl ⊢
  have hl : lv_has ls 5 [(0, .ref ob), (1, .ref ot)] := hl
  refine lv_aload_n hx hb dZO_openTile_0 rfl (lv_at hl 0 rfl) ?_
  refine va_get (D := (dC, dI)) (ci := 0) (v := .int bl) (C := RZB) (T := TZB) (N := 2) hx hb hts inZB hown hK hP 0 rfl rfl 1 (by decide) (hts _ mm_79) (fun _ h9 => h9) rfl dZO_openTile_1 ?_
  refine lv_iconst (v := (2 : Int32)) hx hb dZO_openTile_4 (by decide) ?_
  refine lv_isub hx hb dZO_openTile_5 ?_
  refine lv_istore_n (lv' := [(2, .int (bl - (2 : Int32))), (0, .ref ob), (1, .ref ot)]) hx hb dZO_openTile_6 rfl hl (by decide) rfl (fun ls hl => ?_)
  refine lv_iload_n hx hb dZO_openTile_7 rfl (lv_at hl 0 rfl) ?_
  refine lv_iconst (v := (2 : Int32)) hx hb dZO_openTile_8 (by decide) ?_
  refine lv_icmp_lt (tgt := 36) hx hb dZO_openTile_9 (by decide) (fun c_1 => ?_) (fun c_1 => ?_)
  · have hw := hw.1 c_1
    refine lv_iconst (v := (0 : Int32)) hx hb dZO_openTile_36 (by decide) ?_
    have hP9 := hP.sub (ws' := [(ob, .inr (0, [.ref oba, .int bl])), (oba, .inl (cI, 256, .inl bf)), (ot, .inr (4, [.ref ota, .int tw, .int th])), (ota, .inl (cI, 64, .inl tf))]) [0, 1, 2, 3] rfl
    have hD9 := hD.sub (ws' := [(ob, .inr (0, [.ref oba, .int bl])), (oba, .inl (cI, 256, .inl bf)), (ot, .inr (4, [.ref ota, .int tw, .int th])), (ota, .inl (cI, 64, .inl tf))]) [0, 1, 2, 3] (by decide) rfl
    subst hQ9
    exact W.zret (v := (0 : Int32)) (ty := .boolean) hx hb hr rfl (fun t ht hW => ⟨⟨(0 : Int32), (tw, th, tf), rfl, hw, by rw [ht]; exact hP9, va_K.moved hW.alike hK, hD9⟩, hS.F ht⟩) hS.2.2 dZO_openTile_37
  · have hw := hw.2 c_1
    refine lv_aload_n hx hb dZO_openTile_12 rfl (lv_at hl 1 rfl) ?_
    refine va_get (D := (dC, dI)) (ci := 0) (v := .ref oba) (C := RZB) (T := TZB) (N := 2) hx hb hts inZB hown hK hP 0 rfl rfl 0 (by decide) (hts _ mm_76) (fun _ h9 => h9) rfl dZO_openTile_13 ?_
    refine lv_iconst (v := (0 : Int32)) hx hb dZO_openTile_16 (by decide) ?_
    obtain ⟨h_2, hw⟩ := hw
    refine va_iald hx hb hK hP 1 0 rfl rfl h_2 dZO_openTile_17 ?_
    have hPc := hP.sub (ws' := []) [] rfl
    refine vp_callSi (va_runS (As := [.int (bf (0 : Int32).toNatClampNeg)]) (rest := []) ⟨hx, hb, hml, hown, hts⟩ (kt_ZO_isSide l dC dI cI  (bf (0 : Int32).toNatClampNeg) _ hw) (va_cwS 1 hts (tb_S mm_181 mm_182 mm_16 mm_183) rfl rfl rfl (by decide +kernel) ⟨Nat.le_of_ble_eq_true rfl, Nat.le_of_ble_eq_true rfl⟩) ⟨gr_blind, fun U hU hW => gr_pre hPc hK hE hU hW⟩ rfl rfl hl.1 rfl (lv_room (Nat.le_of_ble_eq_true rfl)) dZO_openTile_18 ⟨Nat.le_of_ble_eq_true rfl, Nat.le_of_ble_eq_true rfl⟩).run (fun r_3 hw => ?_)
    refine lv_if_eq (tgt := 36) hx hb dZO_openTile_21 (by decide) (fun c_4 => ?_) (fun c_4 => ?_)
    · have hw := hw.1 c_4
      refine lv_iconst (v := (0 : Int32)) hx hb dZO_openTile_36 (by decide) ?_
      have hP9 := hP.sub (ws' := [(ob, .inr (0, [.ref oba, .int bl])), (oba, .inl (cI, 256, .inl bf)), (ot, .inr (4, [.ref ota, .int tw, .int th])), (ota, .inl (cI, 64, .inl tf))]) [0, 1, 2, 3] rfl
      have hD9 := hD.sub (ws' := [(ob, .inr (0, [.ref oba, .int bl])), (oba, .inl (cI, 256, .inl bf)), (ot, .inr (4, [.ref ota, .int tw, .int th])), (ota, .inl (cI, 64, .inl tf))]) [0, 1, 2, 3] (by decide) rfl
      subst hQ9
      exact W.zret (v := (0 : Int32)) (ty := .boolean) hx hb hr rfl (fun t ht hW => ⟨⟨(0 : Int32), (tw, th, tf), rfl, hw, by rw [ht]; exact hP9, va_K.moved hW.alike hK, hD9⟩, hS.F ht⟩) hS.2.2 dZO_openTile_37
    · have hw := hw.2 c_4
      refine lv_aload_n hx hb dZO_openTile_24 rfl (lv_at hl 1 rfl) ?_
      refine va_get (D := (dC, dI)) (ci := 0) (v := .ref oba) (C := RZB) (T := TZB) (N := 2) hx hb hts inZB hown hK hP 0 rfl rfl 0 (by decide) (hts _ mm_76) (fun _ h9 => h9) rfl dZO_openTile_25 ?_
      refine lv_iconst (v := (1 : Int32)) hx hb dZO_openTile_28 (by decide) ?_
      obtain ⟨h_5, hw⟩ := hw
      refine va_iald hx hb hK hP 1 0 rfl rfl h_5 dZO_openTile_29 ?_
      have hPc := hP.sub (ws' := []) [] rfl
      refine vp_callSi (va_runS (As := [.int (bf (1 : Int32).toNatClampNeg)]) (rest := []) ⟨hx, hb, hml, hown, hts⟩ (kt_ZO_isSide l dC dI cI  (bf (1 : Int32).toNatClampNeg) _ hw) (va_cwS 1 hts (tb_S mm_181 mm_182 mm_16 mm_183) rfl rfl rfl (by decide +kernel) ⟨Nat.le_of_ble_eq_true rfl, Nat.le_of_ble_eq_true rfl⟩) ⟨gr_blind, fun U hU hW => gr_pre hPc hK hE hU hW⟩ rfl rfl hl.1 rfl (lv_room (Nat.le_of_ble_eq_true rfl)) dZO_openTile_30 ⟨Nat.le_of_ble_eq_true rfl, Nat.le_of_ble_eq_true rfl⟩).run (fun r_6 hw => ?_)
      refine lv_if_ne (tgt := 38) hx hb dZO_openTile_33 (by decide) (fun c_7 => ?_) (fun c_7 => ?_)
      · have hw := hw.2 c_7
        refine lv_aload_n hx hb dZO_openTile_38 rfl (lv_at hl 2 rfl) ?_
        refine lv_aload_n hx hb dZO_openTile_39 rfl (lv_at hl 1 rfl) ?_
        refine va_get (D := (dC, dI)) (ci := 0) (v := .ref oba) (C := RZB) (T := TZB) (N := 2) hx hb hts inZB hown hK hP 0 rfl rfl 0 (by decide) (hts _ mm_76) (fun _ h9 => h9) rfl dZO_openTile_40 ?_
        refine lv_iconst (v := (0 : Int32)) hx hb dZO_openTile_43 (by decide) ?_
        obtain ⟨h_8, hw⟩ := hw
        refine va_iald hx hb hK hP 1 0 rfl rfl h_8 dZO_openTile_44 ?_
        refine lv_aload_n hx hb dZO_openTile_45 rfl (lv_at hl 1 rfl) ?_
        refine va_get (D := (dC, dI)) (ci := 0) (v := .ref oba) (C := RZB) (T := TZB) (N := 2) hx hb hts inZB hown hK hP 0 rfl rfl 0 (by decide) (hts _ mm_76) (fun _ h9 => h9) rfl dZO_openTile_46 ?_
        refine lv_iconst (v := (1 : Int32)) hx hb dZO_openTile_49 (by decide) ?_
        obtain ⟨h_9, hw⟩ := hw
        refine va_iald hx hb hK hP 1 0 rfl rfl h_9 dZO_openTile_50 ?_
        have hPc := hP.sub (ws' := [(ot, .inr (4, [.ref ota, .int tw, .int th])), (ota, .inl (cI, 64, .inl tf))]) [2, 3] rfl
        have hDc := hD.sub (ws' := [(ot, .inr (4, [.ref ota, .int tw, .int th])), (ota, .inl (cI, 64, .inl tf))]) [2, 3] (by decide) rfl
        have hFc := va_free (wc := [(ot, .inr (4, [.ref ota, .int tw, .int th])), (ota, .inl (cI, 64, .inl tf))]) hD hS hA [2, 3] rfl
        refine va_callv (va_runV (As := [.int (bf (0 : Int32).toNatClampNeg), .int (bf (1 : Int32).toNatClampNeg)]) (rest := []) ⟨hx, hb, hml, hown, hts⟩ (kt_ZT_setSize l dC dI cI ot ota _ tw th tf (bf (0 : Int32).toNatClampNeg) (bf (1 : Int32).toNatClampNeg) _ hw) (cwV 2 hts (tb_V mm_184 mm_185 mm_186 mm_7 mm_187) rfl rfl rfl (by decide +kernel) ⟨Nat.le_of_ble_eq_true rfl, Nat.le_of_ble_eq_true rfl⟩) ⟨gw_blind, va_recv hK hPc (ci := 4) (q0 := 0) rfl rfl, fun U hU hW => gw_pre hPc hDc hK hE hU hW⟩ rfl rfl hl.1 rfl (lv_room (Nat.le_of_ble_eq_true rfl)) dZO_openTile_51 ⟨Nat.le_of_ble_eq_true rfl, Nat.le_of_ble_eq_true rfl⟩) hS (fun q _ h => hFc q h) hFc (fun u t H1 locs ht hvm hw hB hz1 hk1 hS => ?_)
        obtain ⟨tw_10, th_11⟩ := u
        obtain ⟨hP1, hK1, hD1⟩ := hB
        rw [ht] at hP1
        try dsimp only at hw
        obtain ⟨hP, hD⟩ := va_join (wr := [(ob, .inr (0, [.ref oba, .int bl])), (oba, .inl (cI, 256, .inl bf))]) (w1 := [(ot, .inr (4, [.ref ota, .int tw_10, .int th_11])), (ota, .inl (cI, 64, .inl tf))]) hP hD [2, 3] [0, 1] rfl rfl (by decide) (by decide) hk1 hFc hP1 hD1
        generalize H1 = H at hP hS ⊢
        have hP : va_P (dC, dI) vwCl [(ob, .inr (0, [.ref oba, .int bl])), (oba, .inl (cI, 256, .inl bf)), (ot, .inr (4, [.ref ota, .int tw_10, .int th_11])), (ota, .inl (cI, 64, .inl tf))] H := hP
        have hD : va_D A [(ob, .inr (0, [.ref oba, .int bl])), (oba, .inl (cI, 256, .inl bf)), (ot, .inr (4, [.ref ota, .int tw_10, .int th_11])), (ota, .inl (cI, 64, .inl tf))] := hD
        refine lv_iconst (v := (2 : Int32)) hx hb dZO_openTile_54 (by decide) ?_
        refine lv_istore_n (lv' := [(3, .int (2 : Int32)), (2, .int (bl - (2 : Int32))), (0, .ref ob), (1, .ref ot)]) hx hb dZO_openTile_55 rfl hl (by decide) rfl (fun ls hl => ?_)
        refine lv_iconst (v := (0 : Int32)) hx hb dZO_openTile_56 (by decide) ?_
        refine lv_istore (lv' := [(4, .int (0 : Int32)), (3, .int (2 : Int32)), (2, .int (bl - (2 : Int32))), (0, .ref ob), (1, .ref ot)]) hx hb dZO_openTile_57 hl (by decide) rfl (fun ls hl => ?_)
        have lp59 : ∀ K59 : Int32 → Int32 → (Nat → Int32) → Prop, (∀ (x3_59 : Int32) (x4_59 : Int32) (f_59_ota : Nat → Int32), K59 x3_59 x4_59 f_59_ota → ∀ (H : Heap) (locs : List Loc), va_P (dC, dI) vwCl [(ob, .inr (0, [.ref oba, .int bl])), (oba, .inl (cI, 256, .inl bf)), (ot, .inr (4, [.ref ota, .int tw_10, .int th_11])), (ota, .inl (cI, 64, .inl f_59_ota))] H → va_D A [(ob, .inr (0, [.ref oba, .int bl])), (oba, .inl (cI, 256, .inl bf)), (ot, .inr (4, [.ref ota, .int tw_10, .int th_11])), (ota, .inl (cI, 64, .inl f_59_ota))] → va_S A s.heap H locs → ∀ ls : Array Slot, lv_has ls 5 [(4, .int x4_59), (3, .int x3_59), (2, .int (bl - (2 : Int32))), (0, .ref ob), (1, .ref ot)] → W p l e (headSpec wsZO_openTile rm_ZO_openTile).room s m args below meth c H locs 0 0 Q9 (F0 m 89 ls [])) → ∀ (n : Nat) (x3_59 : Int32) (x4_59 : Int32) (f_59_ota : Nat → Int32), lp_ZO_openTile_59 bl bf tw th tf r_3 r_6 tw_10 th_11 post K59 n x3_59 x4_59 f_59_ota → ∀ (H : Heap) (locs : List Loc), va_P (dC, dI) vwCl [(ob, .inr (0, [.ref oba, .int bl])), (oba, .inl (cI, 256, .inl bf)), (ot, .inr (4, [.ref ota, .int tw_10, .int th_11])), (ota, .inl (cI, 64, .inl f_59_ota))] H → va_D A [(ob, .inr (0, [.ref oba, .int bl])), (oba, .inl (cI, 256, .inl bf)), (ot, .inr (4, [.ref ota, .int tw_10, .int th_11])), (ota, .inl (cI, 64, .inl f_59_ota))] → va_S A s.heap H locs → ∀ ls : Array Slot, lv_has ls 5 [(4, .int x4_59), (3, .int x3_59), (2, .int (bl - (2 : Int32))), (0, .ref ob), (1, .ref ot)] → W p l e (headSpec wsZO_openTile rm_ZO_openTile).room s m args below meth c H locs 0 0 Q9 (F0 m 59 ls []) := by
          intro K59 aft59 n
          induction n with
          | zero => intro x3_59 x4_59 f_59_ota hw; exact False.elim hw
          | succ n ih59 =>
            intro x3_59 x4_59 f_59_ota hw H locs hP hD hS ls hl
            refine lv_iload hx hb dZO_openTile_59 (lv_at hl 0 rfl) ?_
            refine lv_aload_n hx hb dZO_openTile_61 rfl (lv_at hl 4 rfl) ?_
            refine va_get (D := (dC, dI)) (ci := 4) (v := .int th_11) (C := RZT) (T := TZT) (N := 3) hx hb hts inZT hown hK hP 2 rfl rfl 2 (by decide) (hts _ mm_126) (fun _ h9 => h9) rfl dZO_openTile_62 ?_
            refine lv_icmp_ge (tgt := 89) hx hb dZO_openTile_65 (by decide) (fun c_12 => ?_) (fun c_12 => ?_)
            · have hw := hw.1 c_12
              exact aft59 x3_59 x4_59 f_59_ota hw _ _ (hP.sub [0, 1, 2, 3] rfl) (hD.sub [0, 1, 2, 3] (by decide) rfl) hS ls (lv_sub hl [0, 1, 2, 3, 4] rfl)
            · have hw := hw.2 c_12
              refine lv_iload_n hx hb dZO_openTile_68 rfl (lv_at hl 1 rfl) ?_
              refine lv_iconst (v := (-1 : Int32)) hx hb dZO_openTile_69 (by decide) ?_
              refine lv_icmp_eq (tgt := 89) hx hb dZO_openTile_70 (by decide) (fun c_13 => ?_) (fun c_13 => ?_)
              · have hw := hw.1 c_13
                exact aft59 x3_59 x4_59 f_59_ota hw _ _ (hP.sub [0, 1, 2, 3] rfl) (hD.sub [0, 1, 2, 3] (by decide) rfl) hS ls (lv_sub hl [0, 1, 2, 3, 4] rfl)
              · have hw := hw.2 c_13
                refine lv_aload_n hx hb dZO_openTile_73 rfl (lv_at hl 3 rfl) ?_
                refine lv_iload_n hx hb dZO_openTile_74 rfl (lv_at hl 1 rfl) ?_
                refine lv_iload_n hx hb dZO_openTile_75 rfl (lv_at hl 2 rfl) ?_
                refine lv_aload_n hx hb dZO_openTile_76 rfl (lv_at hl 4 rfl) ?_
                refine lv_iload hx hb dZO_openTile_77 (lv_at hl 0 rfl) ?_
                have hPc := hP.sub (ws' := [(ob, .inr (0, [.ref oba, .int bl])), (oba, .inl (cI, 256, .inl bf)), (ot, .inr (4, [.ref ota, .int tw_10, .int th_11])), (ota, .inl (cI, 64, .inl f_59_ota))]) [0, 1, 2, 3] rfl
                have hDc := hD.sub (ws' := [(ob, .inr (0, [.ref oba, .int bl])), (oba, .inl (cI, 256, .inl bf)), (ot, .inr (4, [.ref ota, .int tw_10, .int th_11])), (ota, .inl (cI, 64, .inl f_59_ota))]) [0, 1, 2, 3] (by decide) rfl
                have hFc := va_free (wc := [(ob, .inr (0, [.ref oba, .int bl])), (oba, .inl (cI, 256, .inl bf)), (ot, .inr (4, [.ref ota, .int tw_10, .int th_11])), (ota, .inl (cI, 64, .inl f_59_ota))]) hD hS hA [0, 1, 2, 3] rfl
                refine va_calli (va_runS (As := [.ref ob, .int x3_59, .int (bl - (2 : Int32)), .ref ot, .int x4_59]) (rest := []) ⟨hx, hb, hml, hown, hts⟩ (kt_ZO_openRow l dC dI cI ob oba ot ota _ bl bf tw_10 th_11 f_59_ota x3_59 (bl - (2 : Int32)) x4_59 _ hw) (va_cwS 5 hts (tb_S mm_188 mm_189 mm_16 mm_190) rfl rfl rfl (by decide +kernel) ⟨Nat.le_of_ble_eq_true rfl, Nat.le_of_ble_eq_true rfl⟩) ⟨gw_blind, fun U hU hW => gw_pre hPc hDc hK hE hU hW⟩ rfl rfl hl.1 rfl (lv_room (Nat.le_of_ble_eq_true rfl)) dZO_openTile_79 ⟨Nat.le_of_ble_eq_true rfl, Nat.le_of_ble_eq_true rfl⟩) hS (fun q _ h => hFc q h) hFc (fun r_15 tf_14 t H1 locs ht hvm hw hB hz1 hk1 hS => ?_)
                obtain ⟨hP1, hK1, hD1⟩ := hB
                rw [ht] at hP1
                try dsimp only at hw
                obtain ⟨hP, hD⟩ := va_join (wr := []) (w1 := [(ob, .inr (0, [.ref oba, .int bl])), (oba, .inl (cI, 256, .inl bf)), (ot, .inr (4, [.ref ota, .int tw_10, .int th_11])), (ota, .inl (cI, 64, .inl tf_14))]) hP hD [0, 1, 2, 3] [] rfl rfl (by decide) (by decide) hk1 hFc hP1 hD1
                generalize H1 = H at hP hS ⊢
                have hP : va_P (dC, dI) vwCl [(ob, .inr (0, [.ref oba, .int bl])), (oba, .inl (cI, 256, .inl bf)), (ot, .inr (4, [.ref ota, .int tw_10, .int th_11])), (ota, .inl (cI, 64, .inl tf_14))] H := hP
                have hD : va_D A [(ob, .inr (0, [.ref oba, .int bl])), (oba, .inl (cI, 256, .inl bf)), (ot, .inr (4, [.ref ota, .int tw_10, .int th_11])), (ota, .inl (cI, 64, .inl tf_14))] := hD
                refine lv_istore_n (lv' := [(3, .int r_15), (4, .int x4_59), (2, .int (bl - (2 : Int32))), (0, .ref ob), (1, .ref ot)]) hx hb dZO_openTile_82 rfl hl (by decide) rfl (fun ls hl => ?_)
                refine lv_iinc (v := x4_59 + (1 : Int32)) (lv' := [(4, .int (x4_59 + (1 : Int32))), (3, .int r_15), (2, .int (bl - (2 : Int32))), (0, .ref ob), (1, .ref ot)]) hx hb dZO_openTile_83 hl (k := 1) rfl rfl (by decide) rfl (fun ls hl => ?_)
                refine lv_goto (tgt := 59) hx hb dZO_openTile_86 (by decide) ?_
                exact ih59 r_15 (x4_59 + (1 : Int32)) tf_14 hw _ _ (hP.sub [0, 1, 2, 3] rfl) (hD.sub [0, 1, 2, 3] (by decide) rfl) hS ls (lv_sub hl [0, 1, 2, 3, 4] rfl)
        obtain ⟨n59, hw⟩ := hw
        refine lp59 _ (fun x3_59e x4_59e f_59e_ota hw H locs hP hD hS ls hl => ?_) n59 (2 : Int32) (0 : Int32) tf hw _ _ (hP.sub [0, 1, 2, 3] rfl) (hD.sub [0, 1, 2, 3] (by decide) rfl) hS ls (lv_sub hl [0, 1, 2, 3, 4] rfl)
        refine lv_iload_n hx hb dZO_openTile_89 rfl (lv_at hl 1 rfl) ?_
        refine lv_iload_n hx hb dZO_openTile_90 rfl (lv_at hl 2 rfl) ?_
        refine lv_icmp_ne (tgt := 98) hx hb dZO_openTile_91 (by decide) (fun c_16 => ?_) (fun c_16 => ?_)
        · have hw := hw.2 c_16
          refine lv_iconst (v := (0 : Int32)) hx hb dZO_openTile_98 (by decide) ?_
          have hP9 := hP.sub (ws' := [(ob, .inr (0, [.ref oba, .int bl])), (oba, .inl (cI, 256, .inl bf)), (ot, .inr (4, [.ref ota, .int tw_10, .int th_11])), (ota, .inl (cI, 64, .inl f_59e_ota))]) [0, 1, 2, 3] rfl
          have hD9 := hD.sub (ws' := [(ob, .inr (0, [.ref oba, .int bl])), (oba, .inl (cI, 256, .inl bf)), (ot, .inr (4, [.ref ota, .int tw_10, .int th_11])), (ota, .inl (cI, 64, .inl f_59e_ota))]) [0, 1, 2, 3] (by decide) rfl
          subst hQ9
          exact W.zret (v := (0 : Int32)) (ty := .boolean) hx hb hr rfl (fun t ht hW => ⟨⟨(0 : Int32), (tw_10, th_11, f_59e_ota), rfl, hw, by rw [ht]; exact hP9, va_K.moved hW.alike hK, hD9⟩, hS.F ht⟩) hS.2.2 dZO_openTile_99
        · have hw := hw.1 c_16
          refine lv_iconst (v := (1 : Int32)) hx hb dZO_openTile_94 (by decide) ?_
          refine lv_goto (tgt := 99) hx hb dZO_openTile_95 (by decide) ?_
          have hP9 := hP.sub (ws' := [(ob, .inr (0, [.ref oba, .int bl])), (oba, .inl (cI, 256, .inl bf)), (ot, .inr (4, [.ref ota, .int tw_10, .int th_11])), (ota, .inl (cI, 64, .inl f_59e_ota))]) [0, 1, 2, 3] rfl
          have hD9 := hD.sub (ws' := [(ob, .inr (0, [.ref oba, .int bl])), (oba, .inl (cI, 256, .inl bf)), (ot, .inr (4, [.ref ota, .int tw_10, .int th_11])), (ota, .inl (cI, 64, .inl f_59e_ota))]) [0, 1, 2, 3] (by decide) rfl
          subst hQ9
          exact W.zret (v := (1 : Int32)) (ty := .boolean) hx hb hr rfl (fun t ht hW => ⟨⟨(1 : Int32), (tw_10, th_11, f_59e_ota), rfl, hw, by rw [ht]; exact hP9, va_K.moved hW.alike hK, hD9⟩, hS.F ht⟩) hS.2.2 dZO_openTile_99
      · have hw := hw.1 c_7
        refine lv_iconst (v := (0 : Int32)) hx hb dZO_openTile_36 (by decide) ?_
        have hP9 := hP.sub (ws' := [(ob, .inr (0, [.ref oba, .int bl])), (oba, .inl (cI, 256, .inl bf)), (ot, .inr (4, [.ref ota, .int tw, .int th])), (ota, .inl (cI, 64, .inl tf))]) [0, 1, 2, 3] rfl
        have hD9 := hD.sub (ws' := [(ob, .inr (0, [.ref oba, .int bl])), (oba, .inl (cI, 256, .inl bf)), (ot, .inr (4, [.ref ota, .int tw, .int th])), (ota, .inl (cI, 64, .inl tf))]) [0, 1, 2, 3] (by decide) rfl
        subst hQ9
        exact W.zret (v := (0 : Int32)) (ty := .boolean) hx hb hr rfl (fun t ht hW => ⟨⟨(0 : Int32), (tw, th, tf), rfl, hw, by rw [ht]; exact hP9, va_K.moved hW.alike hK, hD9⟩, hS.F ht⟩) hS.2.2 dZO_openTile_37
