theorem dZY_halvedUp_0 : decode cZY_halvedUp 0 = .ok (.iload_n 0, 1) := by decide +kernel
theorem dZY_halvedUp_1 : decode cZY_halvedUp 1 = .ok (.iconst 1, 1) := by decide +kernel
theorem dZY_halvedUp_2 : decode cZY_halvedUp 2 = .ok (.iload_n 1, 1) := by decide +kernel
theorem dZY_halvedUp_3 : decode cZY_halvedUp 3 = .ok (.ishl, 1) := by decide +kernel
theorem dZY_halvedUp_4 : decode cZY_halvedUp 4 = .ok (.iadd, 1) := by decide +kernel
theorem dZY_halvedUp_5 : decode cZY_halvedUp 5 = .ok (.iconst 1, 1) := by decide +kernel
theorem dZY_halvedUp_6 : decode cZY_halvedUp 6 = .ok (.isub, 1) := by decide +kernel
theorem dZY_halvedUp_7 : decode cZY_halvedUp 7 = .ok (.iload_n 1, 1) := by decide +kernel
theorem dZY_halvedUp_8 : decode cZY_halvedUp 8 = .ok (.ishr, 1) := by decide +kernel
theorem dZY_halvedUp_9 : decode cZY_halvedUp 9 = .ok (.ireturn, 1) := by decide +kernel
abbrev wsZY_halvedUp : List Cond := .code yZY_halvedUp cZY_halvedUp 2 (some .int) :: tbg
def wp_ZY_halvedUp (a1 : Int32) (a2 : Int32) (post : Int32 → Prop) : Prop := post (((a1 + ((1 : Int32) <<< (a2 &&& 31))) - (1 : Int32)) >>> (a2 &&& 31))
abbrev rm_ZY_halvedUp : Room := { frames := 0, cells := 0, slots := 0, locals := 0 }
set_option maxHeartbeats 4000000 in
set_option maxRecDepth 100000 in
theorem kt_ZY_halvedUp (l : Launch) (dC : Nat → ClassId) (dI : Nat → Nat → Nat) (cI : ClassId) (a1 : Int32) (a2 : Int32) (post : Int32 → Prop) (hw : wp_ZY_halvedUp a1 a2 post) : Met l yZY_halvedUp wsZY_halvedUp rm_ZY_halvedUp (gr_Pc dC dI [(cI, .int)] [.int a1, .int a2] []) (vp_Si post) 0 0 (fun _ => False) := by
  refine Met.ofW (cc := cZY_halvedUp) (maxL := 2) (ret := (some .int)) (by decide) rfl ?_
  intro p e s m args below meth c s₁ B hml hv
  obtain ⟨ha9, hP, hK, hE⟩ := hv
  have hx := B.exec
  have hb := B.bytes
  have hr := B.returns
  have hts0 := atoms_spec (ws := wsZY_halvedUp) B.pre
  have hts : ∀ w ∈ tbg, w.before args s = true := fun w h => hts0 w (List.mem_cons_of_mem _ h)
  have hown : s.vm.findClass RZY = some m.cls := findClass_of_methodNamed B.named
  have hlocks := B.notSynchronized
  refine gx_Q (fun Q9 hQ9 => ?_)
  have hl := lv_entry ([.int a1, .int a2]) (n := 2) (Nat.le_of_ble_eq_true rfl)
  have he9 : entryFrame m args 2 = F0 m 0 ((lg_sl [.int a1, .int a2] ++ List.replicate (2 - (lg_sl ([.int a1, .int a2] : List Value)).length) Slot.unset).toArray) [] := by rw [ha9]; exact lg_entry_eq m [.int a1, .int a2] 2
  rw [he9]
  generalize (lg_sl ([.int a1, .int a2] : List Value) ++ List.replicate (2 - (lg_sl ([.int a1, .int a2] : List Value)).length) Slot.unset).toArray = ls at hl ⊢
  have hl : lv_has ls 2 [(0, .int a1), (1, .int a2)] := hl
  refine lv_iload_n hx hb dZY_halvedUp_0 rfl (lv_at hl 0 rfl) ?_
  refine lv_iconst (v := (1 : Int32)) hx hb dZY_halvedUp_1 (by decide) ?_
  refine lv_iload_n hx hb dZY_halvedUp_2 rfl (lv_at hl 1 rfl) ?_
  refine lv_ishl hx hb dZY_halvedUp_3 ?_
  refine lv_iadd hx hb dZY_halvedUp_4 ?_
  refine lv_iconst (v := (1 : Int32)) hx hb dZY_halvedUp_5 (by decide) ?_
  refine lv_isub hx hb dZY_halvedUp_6 ?_
  refine lv_iload_n hx hb dZY_halvedUp_7 rfl (lv_at hl 1 rfl) ?_
  refine lv_ishr hx hb dZY_halvedUp_8 ?_
  subst hQ9
  exact W.iret (v := ((a1 + ((1 : Int32) <<< (a2 &&& 31))) - (1 : Int32)) >>> (a2 &&& 31)) hx hb hr (fun t ht hW => ⟨((a1 + ((1 : Int32) <<< (a2 &&& 31))) - (1 : Int32)) >>> (a2 &&& 31), rfl, hw, ht⟩) (fun q h => nomatch h) dZY_halvedUp_9
theorem dZY_tilesAlong_0 : decode cZY_tilesAlong 0 = .ok (.iload_n 0, 1) := by decide +kernel
theorem dZY_tilesAlong_1 : decode cZY_tilesAlong 1 = .ok (.bipush 8, 2) := by decide +kernel
theorem dZY_tilesAlong_3 : decode cZY_tilesAlong 3 = .ok (.iadd, 1) := by decide +kernel
theorem dZY_tilesAlong_4 : decode cZY_tilesAlong 4 = .ok (.iconst 1, 1) := by decide +kernel
theorem dZY_tilesAlong_5 : decode cZY_tilesAlong 5 = .ok (.isub, 1) := by decide +kernel
theorem dZY_tilesAlong_6 : decode cZY_tilesAlong 6 = .ok (.bipush 8, 2) := by decide +kernel
theorem dZY_tilesAlong_8 : decode cZY_tilesAlong 8 = .ok (.idiv, 1) := by decide +kernel
theorem dZY_tilesAlong_9 : decode cZY_tilesAlong 9 = .ok (.ireturn, 1) := by decide +kernel
abbrev wsZY_tilesAlong : List Cond := .code yZY_tilesAlong cZY_tilesAlong 1 (some .int) :: tbg
def wp_ZY_tilesAlong (a1 : Int32) (post : Int32 → Prop) : Prop := post (((a1 + (8 : Int32)) - (1 : Int32)) / (8 : Int32))
abbrev rm_ZY_tilesAlong : Room := { frames := 0, cells := 0, slots := 0, locals := 0 }
set_option maxHeartbeats 4000000 in
set_option maxRecDepth 100000 in
theorem kt_ZY_tilesAlong (l : Launch) (dC : Nat → ClassId) (dI : Nat → Nat → Nat) (cI : ClassId) (a1 : Int32) (post : Int32 → Prop) (hw : wp_ZY_tilesAlong a1 post) : Met l yZY_tilesAlong wsZY_tilesAlong rm_ZY_tilesAlong (gr_Pc dC dI [(cI, .int)] [.int a1] []) (vp_Si post) 0 0 (fun _ => False) := by
  refine Met.ofW (cc := cZY_tilesAlong) (maxL := 1) (ret := (some .int)) (by decide) rfl ?_
  intro p e s m args below meth c s₁ B hml hv
  obtain ⟨ha9, hP, hK, hE⟩ := hv
  have hx := B.exec
  have hb := B.bytes
  have hr := B.returns
  have hts0 := atoms_spec (ws := wsZY_tilesAlong) B.pre
  have hts : ∀ w ∈ tbg, w.before args s = true := fun w h => hts0 w (List.mem_cons_of_mem _ h)
  have hown : s.vm.findClass RZY = some m.cls := findClass_of_methodNamed B.named
  have hlocks := B.notSynchronized
  refine gx_Q (fun Q9 hQ9 => ?_)
  have hl := lv_entry ([.int a1]) (n := 1) (Nat.le_of_ble_eq_true rfl)
  have he9 : entryFrame m args 1 = F0 m 0 ((lg_sl [.int a1] ++ List.replicate (1 - (lg_sl ([.int a1] : List Value)).length) Slot.unset).toArray) [] := by rw [ha9]; exact lg_entry_eq m [.int a1] 1
  rw [he9]
  generalize (lg_sl ([.int a1] : List Value) ++ List.replicate (1 - (lg_sl ([.int a1] : List Value)).length) Slot.unset).toArray = ls at hl ⊢
  have hl : lv_has ls 1 [(0, .int a1)] := hl
  refine lv_iload_n hx hb dZY_tilesAlong_0 rfl (lv_at hl 0 rfl) ?_
  refine lv_bipush (v := (8 : Int32)) hx hb dZY_tilesAlong_1 (by decide) ?_
  refine lv_iadd hx hb dZY_tilesAlong_3 ?_
  refine lv_iconst (v := (1 : Int32)) hx hb dZY_tilesAlong_4 (by decide) ?_
  refine lv_isub hx hb dZY_tilesAlong_5 ?_
  refine lv_bipush (v := (8 : Int32)) hx hb dZY_tilesAlong_6 (by decide) ?_
  refine lv_idiv hx hb dZY_tilesAlong_8 (by decide) ?_
  subst hQ9
  exact W.iret (v := ((a1 + (8 : Int32)) - (1 : Int32)) / (8 : Int32)) hx hb hr (fun t ht hW => ⟨((a1 + (8 : Int32)) - (1 : Int32)) / (8 : Int32), rfl, hw, ht⟩) (fun q h => nomatch h) dZY_tilesAlong_9
theorem dZY_reach_0 : decode cZY_reach 0 = .ok (.iconst 1, 1) := by decide +kernel
theorem dZY_reach_1 : decode cZY_reach 1 = .ok (.iload_n 0, 1) := by decide +kernel
theorem dZY_reach_2 : decode cZY_reach 2 = .ok (.ishl, 1) := by decide +kernel
theorem dZY_reach_3 : decode cZY_reach 3 = .ok (.iload_n 2, 1) := by decide +kernel
theorem dZY_reach_4 : decode cZY_reach 4 = .ok (.iload_n 1, 1) := by decide +kernel
theorem dZY_reach_5 : decode cZY_reach 5 = .ok (.iload_n 0, 1) := by decide +kernel
theorem dZY_reach_6 : decode cZY_reach 6 = .ok (.ishl, 1) := by decide +kernel
theorem dZY_reach_7 : decode cZY_reach 7 = .ok (.isub, 1) := by decide +kernel
theorem dZY_reach_8 : decode cZY_reach 8 = .ok (.invokestatic 58, 3) := by decide +kernel
theorem dZY_reach_11 : decode cZY_reach 11 = .ok (.ireturn, 1) := by decide +kernel
abbrev wsZY_reach : List Cond := .code yZY_reach cZY_reach 3 (some .int) :: tbg
def wp_ZY_reach (a1 : Int32) (a2 : Int32) (a3 : Int32) (post : Int32 → Prop) : Prop := post (if (a3 - (a2 <<< (a1 &&& 31))) < ((1 : Int32) <<< (a1 &&& 31)) then (a3 - (a2 <<< (a1 &&& 31))) else ((1 : Int32) <<< (a1 &&& 31)))
abbrev rm_ZY_reach : Room := { frames := 1, cells := 0, slots := 0, locals := 21 }
set_option maxHeartbeats 4000000 in
set_option maxRecDepth 100000 in
theorem kt_ZY_reach (l : Launch) (dC : Nat → ClassId) (dI : Nat → Nat → Nat) (cI : ClassId) (a1 : Int32) (a2 : Int32) (a3 : Int32) (post : Int32 → Prop) (hw : wp_ZY_reach a1 a2 a3 post) : Met l yZY_reach wsZY_reach rm_ZY_reach (gr_Pc dC dI [(cI, .int)] [.int a1, .int a2, .int a3] []) (vp_Si post) 0 0 (fun _ => False) := by
  refine Met.ofW (cc := cZY_reach) (maxL := 3) (ret := (some .int)) (by decide) rfl ?_
  intro p e s m args below meth c s₁ B hml hv
  obtain ⟨ha9, hP, hK, hE⟩ := hv
  have hx := B.exec
  have hb := B.bytes
  have hr := B.returns
  have hts0 := atoms_spec (ws := wsZY_reach) B.pre
  have hts : ∀ w ∈ tbg, w.before args s = true := fun w h => hts0 w (List.mem_cons_of_mem _ h)
  have hown : s.vm.findClass RZY = some m.cls := findClass_of_methodNamed B.named
  have hlocks := B.notSynchronized
  refine gx_Q (fun Q9 hQ9 => ?_)
  have hl := lv_entry ([.int a1, .int a2, .int a3]) (n := 3) (Nat.le_of_ble_eq_true rfl)
  have he9 : entryFrame m args 3 = F0 m 0 ((lg_sl [.int a1, .int a2, .int a3] ++ List.replicate (3 - (lg_sl ([.int a1, .int a2, .int a3] : List Value)).length) Slot.unset).toArray) [] := by rw [ha9]; exact lg_entry_eq m [.int a1, .int a2, .int a3] 3
  rw [he9]
  generalize (lg_sl ([.int a1, .int a2, .int a3] : List Value) ++ List.replicate (3 - (lg_sl ([.int a1, .int a2, .int a3] : List Value)).length) Slot.unset).toArray = ls at hl ⊢
  have hl : lv_has ls 3 [(0, .int a1), (1, .int a2), (2, .int a3)] := hl
  refine lv_iconst (v := (1 : Int32)) hx hb dZY_reach_0 (by decide) ?_
  refine lv_iload_n hx hb dZY_reach_1 rfl (lv_at hl 0 rfl) ?_
  refine lv_ishl hx hb dZY_reach_2 ?_
  refine lv_iload_n hx hb dZY_reach_3 rfl (lv_at hl 2 rfl) ?_
  refine lv_iload_n hx hb dZY_reach_4 rfl (lv_at hl 1 rfl) ?_
  refine lv_iload_n hx hb dZY_reach_5 rfl (lv_at hl 0 rfl) ?_
  refine lv_ishl hx hb dZY_reach_6 ?_
  refine lv_isub hx hb dZY_reach_7 ?_
  refine va_mmin hx hb (hml.trans hl.1.symm) hown (hts _ mm_410) (hts _ mm_26) (hts _ mm_2) (hts _ mm_27) (Nat.le_of_ble_eq_true rfl) (Nat.le_of_ble_eq_true rfl) (Nat.le_of_ble_eq_true rfl) (Nat.le_of_ble_eq_true rfl) dZY_reach_8 ?_
  subst hQ9
  exact W.iret (v := if (a3 - (a2 <<< (a1 &&& 31))) < ((1 : Int32) <<< (a1 &&& 31)) then (a3 - (a2 <<< (a1 &&& 31))) else ((1 : Int32) <<< (a1 &&& 31))) hx hb hr (fun t ht hW => ⟨if (a3 - (a2 <<< (a1 &&& 31))) < ((1 : Int32) <<< (a1 &&& 31)) then (a3 - (a2 <<< (a1 &&& 31))) else ((1 : Int32) <<< (a1 &&& 31)), rfl, hw, ht⟩) (fun q h => nomatch h) dZY_reach_11
theorem dZY_tilesOverSide_0 : decode cZY_tilesOverSide 0 = .ok (.iload_n 1, 1) := by decide +kernel
theorem dZY_tilesOverSide_1 : decode cZY_tilesOverSide 1 = .ok (.iload_n 0, 1) := by decide +kernel
theorem dZY_tilesOverSide_2 : decode cZY_tilesOverSide 2 = .ok (.ishr, 1) := by decide +kernel
theorem dZY_tilesOverSide_3 : decode cZY_tilesOverSide 3 = .ok (.bipush 8, 2) := by decide +kernel
theorem dZY_tilesOverSide_5 : decode cZY_tilesOverSide 5 = .ok (.idiv, 1) := by decide +kernel
theorem dZY_tilesOverSide_6 : decode cZY_tilesOverSide 6 = .ok (.istore_n 3, 1) := by decide +kernel
theorem dZY_tilesOverSide_7 : decode cZY_tilesOverSide 7 = .ok (.iload_n 1, 1) := by decide +kernel
theorem dZY_tilesOverSide_8 : decode cZY_tilesOverSide 8 = .ok (.iload_n 2, 1) := by decide +kernel
theorem dZY_tilesOverSide_9 : decode cZY_tilesOverSide 9 = .ok (.iadd, 1) := by decide +kernel
theorem dZY_tilesOverSide_10 : decode cZY_tilesOverSide 10 = .ok (.iconst 1, 1) := by decide +kernel
theorem dZY_tilesOverSide_11 : decode cZY_tilesOverSide 11 = .ok (.isub, 1) := by decide +kernel
theorem dZY_tilesOverSide_12 : decode cZY_tilesOverSide 12 = .ok (.iload_n 0, 1) := by decide +kernel
theorem dZY_tilesOverSide_13 : decode cZY_tilesOverSide 13 = .ok (.ishr, 1) := by decide +kernel
theorem dZY_tilesOverSide_14 : decode cZY_tilesOverSide 14 = .ok (.bipush 8, 2) := by decide +kernel
theorem dZY_tilesOverSide_16 : decode cZY_tilesOverSide 16 = .ok (.idiv, 1) := by decide +kernel
theorem dZY_tilesOverSide_17 : decode cZY_tilesOverSide 17 = .ok (.istore 4, 2) := by decide +kernel
theorem dZY_tilesOverSide_19 : decode cZY_tilesOverSide 19 = .ok (.iload 4, 2) := by decide +kernel
theorem dZY_tilesOverSide_21 : decode cZY_tilesOverSide 21 = .ok (.iload_n 3, 1) := by decide +kernel
theorem dZY_tilesOverSide_22 : decode cZY_tilesOverSide 22 = .ok (.isub, 1) := by decide +kernel
theorem dZY_tilesOverSide_23 : decode cZY_tilesOverSide 23 = .ok (.iconst 1, 1) := by decide +kernel
theorem dZY_tilesOverSide_24 : decode cZY_tilesOverSide 24 = .ok (.iadd, 1) := by decide +kernel
theorem dZY_tilesOverSide_25 : decode cZY_tilesOverSide 25 = .ok (.ireturn, 1) := by decide +kernel
abbrev wsZY_tilesOverSide : List Cond := .code yZY_tilesOverSide cZY_tilesOverSide 5 (some .int) :: tbg
def wp_ZY_tilesOverSide (a1 : Int32) (a2 : Int32) (a3 : Int32) (post : Int32 → Prop) : Prop := post ((((((a2 + a3) - (1 : Int32)) >>> (a1 &&& 31)) / (8 : Int32)) - ((a2 >>> (a1 &&& 31)) / (8 : Int32))) + (1 : Int32))
abbrev rm_ZY_tilesOverSide : Room := { frames := 0, cells := 0, slots := 0, locals := 0 }
set_option maxHeartbeats 4000000 in
set_option maxRecDepth 100000 in
theorem kt_ZY_tilesOverSide (l : Launch) (dC : Nat → ClassId) (dI : Nat → Nat → Nat) (cI : ClassId) (a1 : Int32) (a2 : Int32) (a3 : Int32) (post : Int32 → Prop) (hw : wp_ZY_tilesOverSide a1 a2 a3 post) : Met l yZY_tilesOverSide wsZY_tilesOverSide rm_ZY_tilesOverSide (gr_Pc dC dI [(cI, .int)] [.int a1, .int a2, .int a3] []) (vp_Si post) 0 0 (fun _ => False) := by
  refine Met.ofW (cc := cZY_tilesOverSide) (maxL := 5) (ret := (some .int)) (by decide) rfl ?_
  intro p e s m args below meth c s₁ B hml hv
  obtain ⟨ha9, hP, hK, hE⟩ := hv
  have hx := B.exec
  have hb := B.bytes
  have hr := B.returns
  have hts0 := atoms_spec (ws := wsZY_tilesOverSide) B.pre
  have hts : ∀ w ∈ tbg, w.before args s = true := fun w h => hts0 w (List.mem_cons_of_mem _ h)
  have hown : s.vm.findClass RZY = some m.cls := findClass_of_methodNamed B.named
  have hlocks := B.notSynchronized
  refine gx_Q (fun Q9 hQ9 => ?_)
  have hl := lv_entry ([.int a1, .int a2, .int a3]) (n := 5) (Nat.le_of_ble_eq_true rfl)
  have he9 : entryFrame m args 5 = F0 m 0 ((lg_sl [.int a1, .int a2, .int a3] ++ List.replicate (5 - (lg_sl ([.int a1, .int a2, .int a3] : List Value)).length) Slot.unset).toArray) [] := by rw [ha9]; exact lg_entry_eq m [.int a1, .int a2, .int a3] 5
  rw [he9]
  generalize (lg_sl ([.int a1, .int a2, .int a3] : List Value) ++ List.replicate (5 - (lg_sl ([.int a1, .int a2, .int a3] : List Value)).length) Slot.unset).toArray = ls at hl ⊢
  have hl : lv_has ls 5 [(0, .int a1), (1, .int a2), (2, .int a3)] := hl
  refine lv_iload_n hx hb dZY_tilesOverSide_0 rfl (lv_at hl 1 rfl) ?_
  refine lv_iload_n hx hb dZY_tilesOverSide_1 rfl (lv_at hl 0 rfl) ?_
  refine lv_ishr hx hb dZY_tilesOverSide_2 ?_
  refine lv_bipush (v := (8 : Int32)) hx hb dZY_tilesOverSide_3 (by decide) ?_
  refine lv_idiv hx hb dZY_tilesOverSide_5 (by decide) ?_
  refine lv_istore_n (lv' := [(3, .int ((a2 >>> (a1 &&& 31)) / (8 : Int32))), (0, .int a1), (1, .int a2), (2, .int a3)]) hx hb dZY_tilesOverSide_6 rfl hl (by decide) rfl (fun ls hl => ?_)
  refine lv_iload_n hx hb dZY_tilesOverSide_7 rfl (lv_at hl 2 rfl) ?_
  refine lv_iload_n hx hb dZY_tilesOverSide_8 rfl (lv_at hl 3 rfl) ?_
  refine lv_iadd hx hb dZY_tilesOverSide_9 ?_
  refine lv_iconst (v := (1 : Int32)) hx hb dZY_tilesOverSide_10 (by decide) ?_
  refine lv_isub hx hb dZY_tilesOverSide_11 ?_
  refine lv_iload_n hx hb dZY_tilesOverSide_12 rfl (lv_at hl 1 rfl) ?_
  refine lv_ishr hx hb dZY_tilesOverSide_13 ?_
  refine lv_bipush (v := (8 : Int32)) hx hb dZY_tilesOverSide_14 (by decide) ?_
  refine lv_idiv hx hb dZY_tilesOverSide_16 (by decide) ?_
  refine lv_istore (lv' := [(4, .int ((((a2 + a3) - (1 : Int32)) >>> (a1 &&& 31)) / (8 : Int32))), (3, .int ((a2 >>> (a1 &&& 31)) / (8 : Int32))), (0, .int a1), (1, .int a2), (2, .int a3)]) hx hb dZY_tilesOverSide_17 hl (by decide) rfl (fun ls hl => ?_)
  refine lv_iload hx hb dZY_tilesOverSide_19 (lv_at hl 0 rfl) ?_
  refine lv_iload_n hx hb dZY_tilesOverSide_21 rfl (lv_at hl 1 rfl) ?_
  refine lv_isub hx hb dZY_tilesOverSide_22 ?_
  refine lv_iconst (v := (1 : Int32)) hx hb dZY_tilesOverSide_23 (by decide) ?_
  refine lv_iadd hx hb dZY_tilesOverSide_24 ?_
  subst hQ9
  exact W.iret (v := (((((a2 + a3) - (1 : Int32)) >>> (a1 &&& 31)) / (8 : Int32)) - ((a2 >>> (a1 &&& 31)) / (8 : Int32))) + (1 : Int32)) hx hb hr (fun t ht hW => ⟨(((((a2 + a3) - (1 : Int32)) >>> (a1 &&& 31)) / (8 : Int32)) - ((a2 >>> (a1 &&& 31)) / (8 : Int32))) + (1 : Int32), rfl, hw, ht⟩) (fun q h => nomatch h) dZY_tilesOverSide_25
theorem dZY_hasLevel_0 : decode cZY_hasLevel 0 = .ok (.iload_n 1, 1) := by decide +kernel
theorem dZY_hasLevel_1 : decode cZY_hasLevel 1 = .ok (.aload_n 0, 1) := by decide +kernel
theorem dZY_hasLevel_2 : decode cZY_hasLevel 2 = .ok (.getfield 30, 3) := by decide +kernel
theorem dZY_hasLevel_5 : decode cZY_hasLevel 5 = .ok (.invokestatic 33, 3) := by decide +kernel
theorem dZY_hasLevel_8 : decode cZY_hasLevel 8 = .ok (.ireturn, 1) := by decide +kernel
abbrev wsZY_hasLevel : List Cond := .code yZY_hasLevel cZY_hasLevel 2 (some .boolean) :: tbg
def wp_ZY_hasLevel (yk : Int32) (pw : Int32) (ph : Int32) (pn : Nat) (pf : Nat → Int32) (a1 : Int32) (post : Int32 → Prop) : Prop := wp_ZQ_isWithin a1 yk (fun r_1 : Int32 => narrow .boolean (.int r_1) = .int r_1 ∧ (post r_1))
abbrev rm_ZY_hasLevel : Room := { frames := 1, cells := 0, slots := 0, locals := 21 }
set_option maxHeartbeats 4000000 in
set_option maxRecDepth 100000 in
theorem kt_ZY_hasLevel (l : Launch) (dC : Nat → ClassId) (dI : Nat → Nat → Nat) (cI : ClassId) (oy op opa : Nat) (yk : Int32) (pw : Int32) (ph : Int32) (pn : Nat) (pf : Nat → Int32) (a1 : Int32) (post : Int32 → Prop) (hw : wp_ZY_hasLevel yk pw ph pn pf a1 post) : Met l yZY_hasLevel wsZY_hasLevel rm_ZY_hasLevel (gr_Pc dC dI [(cI, .int)] [.ref oy, .int a1] [(oy, .inr (2, [.ref op, .int yk])), (op, .inr (1, [.int pw, .int ph, .ref opa])), (opa, .inl (cI, pn, .inl pf))]) (vp_Si post) 0 0 (fun _ => False) := by
  refine Met.ofW (cc := cZY_hasLevel) (maxL := 2) (ret := (some .boolean)) (by decide) rfl ?_
  intro p e s m args below meth c s₁ B hml hv
  obtain ⟨ha9, hP, hK, hE⟩ := hv
  have hx := B.exec
  have hb := B.bytes
  have hr := B.returns
  have hts0 := atoms_spec (ws := wsZY_hasLevel) B.pre
  have hts : ∀ w ∈ tbg, w.before args s = true := fun w h => hts0 w (List.mem_cons_of_mem _ h)
  have hown : s.vm.findClass RZY = some m.cls := findClass_of_methodNamed B.named
  have hlocks := B.notSynchronized
  refine gx_Q (fun Q9 hQ9 => ?_)
  have hl := lv_entry ([.ref oy, .int a1]) (n := 2) (Nat.le_of_ble_eq_true rfl)
  have he9 : entryFrame m args 2 = F0 m 0 ((lg_sl [.ref oy, .int a1] ++ List.replicate (2 - (lg_sl ([.ref oy, .int a1] : List Value)).length) Slot.unset).toArray) [] := by rw [ha9]; exact lg_entry_eq m [.ref oy, .int a1] 2
  rw [he9]
  generalize (lg_sl ([.ref oy, .int a1] : List Value) ++ List.replicate (2 - (lg_sl ([.ref oy, .int a1] : List Value)).length) Slot.unset).toArray = ls at hl ⊢
  have hl : lv_has ls 2 [(0, .ref oy), (1, .int a1)] := hl
  refine lv_iload_n hx hb dZY_hasLevel_0 rfl (lv_at hl 1 rfl) ?_
  refine lv_aload_n hx hb dZY_hasLevel_1 rfl (lv_at hl 0 rfl) ?_
  refine va_get (D := (dC, dI)) (ci := 2) (v := .int yk) (C := RZY) (T := TZY) (N := 2) hx hb hts inZY hown hK hP 0 rfl rfl 1 (by decide) (hts _ mm_62) (fun _ h9 => h9) rfl dZY_hasLevel_2 ?_
  have hPc := hP.sub (ws' := []) [] rfl
  refine vp_callSi (va_runSN (As := [.int a1, .int yk]) (rest := []) ⟨hx, hb, hml, hown, hts⟩ (kt_ZQ_isWithin l dC dI cI  a1 yk _ hw) ⟨(va_cnB 2 hts (tb_0 mm_238) rfl rfl rfl (gxE_14 hE) (hts _ mm_1) (by decide +kernel) ⟨Nat.le_of_ble_eq_true rfl, Nat.le_of_ble_eq_true rfl⟩), hts _ mm_237, trivial⟩ ⟨gr_blind, fun U hU hW => gr_pre hPc hK hE hU hW⟩ rfl rfl hl.1 rfl (lv_room (Nat.le_of_ble_eq_true rfl)) dZY_hasLevel_5 ⟨Nat.le_of_ble_eq_true rfl, Nat.le_of_ble_eq_true rfl⟩).run (fun r_1 hw => ?_)
  obtain ⟨h_2, hw⟩ := hw
  subst hQ9
  exact W.zret (v := r_1) (ty := .boolean) hx hb hr h_2 (fun t ht hW => ⟨r_1, rfl, hw, ht⟩) (fun q h => nomatch h) dZY_hasLevel_8
theorem dZY_columnsOf_0 : decode cZY_columnsOf 0 = .ok (.aload_n 0, 1) := by decide +kernel
theorem dZY_columnsOf_1 : decode cZY_columnsOf 1 = .ok (.getfield 9, 3) := by decide +kernel
theorem dZY_columnsOf_4 : decode cZY_columnsOf 4 = .ok (.getfield 15, 3) := by decide +kernel
theorem dZY_columnsOf_7 : decode cZY_columnsOf 7 = .ok (.iload_n 1, 1) := by decide +kernel
theorem dZY_columnsOf_8 : decode cZY_columnsOf 8 = .ok (.invokestatic 55, 3) := by decide +kernel
theorem dZY_columnsOf_11 : decode cZY_columnsOf 11 = .ok (.ireturn, 1) := by decide +kernel
abbrev wsZY_columnsOf : List Cond := .code yZY_columnsOf cZY_columnsOf 2 (some .int) :: tbg
def wp_ZY_columnsOf (yk : Int32) (pw : Int32) (ph : Int32) (pn : Nat) (pf : Nat → Int32) (a1 : Int32) (post : Int32 → Prop) : Prop := wp_ZY_halvedUp pw a1 (fun r_1 : Int32 => post r_1)
abbrev rm_ZY_columnsOf : Room := { frames := 1, cells := 0, slots := 0, locals := 21 }
set_option maxHeartbeats 4000000 in
set_option maxRecDepth 100000 in
theorem kt_ZY_columnsOf (l : Launch) (dC : Nat → ClassId) (dI : Nat → Nat → Nat) (cI : ClassId) (oy op opa : Nat) (yk : Int32) (pw : Int32) (ph : Int32) (pn : Nat) (pf : Nat → Int32) (a1 : Int32) (post : Int32 → Prop) (hw : wp_ZY_columnsOf yk pw ph pn pf a1 post) : Met l yZY_columnsOf wsZY_columnsOf rm_ZY_columnsOf (gr_Pc dC dI [(cI, .int)] [.ref oy, .int a1] [(oy, .inr (2, [.ref op, .int yk])), (op, .inr (1, [.int pw, .int ph, .ref opa])), (opa, .inl (cI, pn, .inl pf))]) (vp_Si post) 0 0 (fun _ => False) := by
  refine Met.ofW (cc := cZY_columnsOf) (maxL := 2) (ret := (some .int)) (by decide) rfl ?_
  intro p e s m args below meth c s₁ B hml hv
  obtain ⟨ha9, hP, hK, hE⟩ := hv
  have hx := B.exec
  have hb := B.bytes
  have hr := B.returns
  have hts0 := atoms_spec (ws := wsZY_columnsOf) B.pre
  have hts : ∀ w ∈ tbg, w.before args s = true := fun w h => hts0 w (List.mem_cons_of_mem _ h)
  have hown : s.vm.findClass RZY = some m.cls := findClass_of_methodNamed B.named
  have hlocks := B.notSynchronized
  refine gx_Q (fun Q9 hQ9 => ?_)
  have hl := lv_entry ([.ref oy, .int a1]) (n := 2) (Nat.le_of_ble_eq_true rfl)
  have he9 : entryFrame m args 2 = F0 m 0 ((lg_sl [.ref oy, .int a1] ++ List.replicate (2 - (lg_sl ([.ref oy, .int a1] : List Value)).length) Slot.unset).toArray) [] := by rw [ha9]; exact lg_entry_eq m [.ref oy, .int a1] 2
  rw [he9]
  generalize (lg_sl ([.ref oy, .int a1] : List Value) ++ List.replicate (2 - (lg_sl ([.ref oy, .int a1] : List Value)).length) Slot.unset).toArray = ls at hl ⊢
  have hl : lv_has ls 2 [(0, .ref oy), (1, .int a1)] := hl
  refine lv_aload_n hx hb dZY_columnsOf_0 rfl (lv_at hl 0 rfl) ?_
  refine va_get (D := (dC, dI)) (ci := 2) (v := .ref op) (C := RZY) (T := TZY) (N := 2) hx hb hts inZY hown hK hP 0 rfl rfl 0 (by decide) (hts _ mm_61) (fun _ h9 => h9) rfl dZY_columnsOf_1 ?_
  refine va_get (D := (dC, dI)) (ci := 1) (v := .int pw) (C := RZP) (T := TZP) (N := 3) hx hb hts inZP hown hK hP 1 rfl rfl 0 (by decide) (hts _ mm_38) (fun _ h9 => h9) rfl dZY_columnsOf_4 ?_
  refine lv_iload_n hx hb dZY_columnsOf_7 rfl (lv_at hl 1 rfl) ?_
  have hPc := hP.sub (ws' := []) [] rfl
  refine vp_callSi (va_runS (As := [.int pw, .int a1]) (rest := []) ⟨hx, hb, hml, hown, hts⟩ (kt_ZY_halvedUp l dC dI cI  pw a1 _ hw) (va_cwS 2 hts (tb_S mm_362 mm_363 mm_4 mm_364) rfl rfl rfl (by decide +kernel) ⟨Nat.le_of_ble_eq_true rfl, Nat.le_of_ble_eq_true rfl⟩) ⟨gr_blind, fun U hU hW => gr_pre hPc hK hE hU hW⟩ rfl rfl hl.1 rfl (lv_room (Nat.le_of_ble_eq_true rfl)) dZY_columnsOf_8 ⟨Nat.le_of_ble_eq_true rfl, Nat.le_of_ble_eq_true rfl⟩).run (fun r_1 hw => ?_)
  subst hQ9
  exact W.iret (v := r_1) hx hb hr (fun t ht hW => ⟨r_1, rfl, hw, ht⟩) (fun q h => nomatch h) dZY_columnsOf_11
theorem dZY_rowsOf_0 : decode cZY_rowsOf 0 = .ok (.aload_n 0, 1) := by decide +kernel
theorem dZY_rowsOf_1 : decode cZY_rowsOf 1 = .ok (.getfield 9, 3) := by decide +kernel
theorem dZY_rowsOf_4 : decode cZY_rowsOf 4 = .ok (.getfield 21, 3) := by decide +kernel
theorem dZY_rowsOf_7 : decode cZY_rowsOf 7 = .ok (.iload_n 1, 1) := by decide +kernel
theorem dZY_rowsOf_8 : decode cZY_rowsOf 8 = .ok (.invokestatic 55, 3) := by decide +kernel
theorem dZY_rowsOf_11 : decode cZY_rowsOf 11 = .ok (.ireturn, 1) := by decide +kernel
abbrev wsZY_rowsOf : List Cond := .code yZY_rowsOf cZY_rowsOf 2 (some .int) :: tbg
def wp_ZY_rowsOf (yk : Int32) (pw : Int32) (ph : Int32) (pn : Nat) (pf : Nat → Int32) (a1 : Int32) (post : Int32 → Prop) : Prop := wp_ZY_halvedUp ph a1 (fun r_1 : Int32 => post r_1)
abbrev rm_ZY_rowsOf : Room := { frames := 1, cells := 0, slots := 0, locals := 21 }
set_option maxHeartbeats 4000000 in
set_option maxRecDepth 100000 in
theorem kt_ZY_rowsOf (l : Launch) (dC : Nat → ClassId) (dI : Nat → Nat → Nat) (cI : ClassId) (oy op opa : Nat) (yk : Int32) (pw : Int32) (ph : Int32) (pn : Nat) (pf : Nat → Int32) (a1 : Int32) (post : Int32 → Prop) (hw : wp_ZY_rowsOf yk pw ph pn pf a1 post) : Met l yZY_rowsOf wsZY_rowsOf rm_ZY_rowsOf (gr_Pc dC dI [(cI, .int)] [.ref oy, .int a1] [(oy, .inr (2, [.ref op, .int yk])), (op, .inr (1, [.int pw, .int ph, .ref opa])), (opa, .inl (cI, pn, .inl pf))]) (vp_Si post) 0 0 (fun _ => False) := by
  refine Met.ofW (cc := cZY_rowsOf) (maxL := 2) (ret := (some .int)) (by decide) rfl ?_
  intro p e s m args below meth c s₁ B hml hv
  obtain ⟨ha9, hP, hK, hE⟩ := hv
  have hx := B.exec
  have hb := B.bytes
  have hr := B.returns
  have hts0 := atoms_spec (ws := wsZY_rowsOf) B.pre
  have hts : ∀ w ∈ tbg, w.before args s = true := fun w h => hts0 w (List.mem_cons_of_mem _ h)
  have hown : s.vm.findClass RZY = some m.cls := findClass_of_methodNamed B.named
  have hlocks := B.notSynchronized
  refine gx_Q (fun Q9 hQ9 => ?_)
  have hl := lv_entry ([.ref oy, .int a1]) (n := 2) (Nat.le_of_ble_eq_true rfl)
  have he9 : entryFrame m args 2 = F0 m 0 ((lg_sl [.ref oy, .int a1] ++ List.replicate (2 - (lg_sl ([.ref oy, .int a1] : List Value)).length) Slot.unset).toArray) [] := by rw [ha9]; exact lg_entry_eq m [.ref oy, .int a1] 2
  rw [he9]
  generalize (lg_sl ([.ref oy, .int a1] : List Value) ++ List.replicate (2 - (lg_sl ([.ref oy, .int a1] : List Value)).length) Slot.unset).toArray = ls at hl ⊢
  have hl : lv_has ls 2 [(0, .ref oy), (1, .int a1)] := hl
  refine lv_aload_n hx hb dZY_rowsOf_0 rfl (lv_at hl 0 rfl) ?_
  refine va_get (D := (dC, dI)) (ci := 2) (v := .ref op) (C := RZY) (T := TZY) (N := 2) hx hb hts inZY hown hK hP 0 rfl rfl 0 (by decide) (hts _ mm_61) (fun _ h9 => h9) rfl dZY_rowsOf_1 ?_
  refine va_get (D := (dC, dI)) (ci := 1) (v := .int ph) (C := RZP) (T := TZP) (N := 3) hx hb hts inZP hown hK hP 1 rfl rfl 1 (by decide) (hts _ mm_42) (fun _ h9 => h9) rfl dZY_rowsOf_4 ?_
  refine lv_iload_n hx hb dZY_rowsOf_7 rfl (lv_at hl 1 rfl) ?_
  have hPc := hP.sub (ws' := []) [] rfl
  refine vp_callSi (va_runS (As := [.int ph, .int a1]) (rest := []) ⟨hx, hb, hml, hown, hts⟩ (kt_ZY_halvedUp l dC dI cI  ph a1 _ hw) (va_cwS 2 hts (tb_S mm_362 mm_363 mm_4 mm_364) rfl rfl rfl (by decide +kernel) ⟨Nat.le_of_ble_eq_true rfl, Nat.le_of_ble_eq_true rfl⟩) ⟨gr_blind, fun U hU hW => gr_pre hPc hK hE hU hW⟩ rfl rfl hl.1 rfl (lv_room (Nat.le_of_ble_eq_true rfl)) dZY_rowsOf_8 ⟨Nat.le_of_ble_eq_true rfl, Nat.le_of_ble_eq_true rfl⟩).run (fun r_1 hw => ?_)
  subst hQ9
  exact W.iret (v := r_1) hx hb hr (fun t ht hW => ⟨r_1, rfl, hw, ht⟩) (fun q h => nomatch h) dZY_rowsOf_11
theorem dZY_hasPlace_0 : decode cZY_hasPlace 0 = .ok (.aload_n 0, 1) := by decide +kernel
theorem dZY_hasPlace_1 : decode cZY_hasPlace 1 = .ok (.iload_n 1, 1) := by decide +kernel
theorem dZY_hasPlace_2 : decode cZY_hasPlace 2 = .ok (.invokevirtual 37, 3) := by decide +kernel
theorem dZY_hasPlace_5 : decode cZY_hasPlace 5 = .ok (.ifCond .eq 31, 3) := by decide +kernel
theorem dZY_hasPlace_8 : decode cZY_hasPlace 8 = .ok (.iload_n 2, 1) := by decide +kernel
theorem dZY_hasPlace_9 : decode cZY_hasPlace 9 = .ok (.aload_n 0, 1) := by decide +kernel
theorem dZY_hasPlace_10 : decode cZY_hasPlace 10 = .ok (.iload_n 1, 1) := by decide +kernel
theorem dZY_hasPlace_11 : decode cZY_hasPlace 11 = .ok (.invokevirtual 41, 3) := by decide +kernel
theorem dZY_hasPlace_14 : decode cZY_hasPlace 14 = .ok (.invokestatic 33, 3) := by decide +kernel
theorem dZY_hasPlace_17 : decode cZY_hasPlace 17 = .ok (.ifCond .eq 19, 3) := by decide +kernel
theorem dZY_hasPlace_20 : decode cZY_hasPlace 20 = .ok (.iload_n 3, 1) := by decide +kernel
theorem dZY_hasPlace_21 : decode cZY_hasPlace 21 = .ok (.aload_n 0, 1) := by decide +kernel
theorem dZY_hasPlace_22 : decode cZY_hasPlace 22 = .ok (.iload_n 1, 1) := by decide +kernel
theorem dZY_hasPlace_23 : decode cZY_hasPlace 23 = .ok (.invokevirtual 45, 3) := by decide +kernel
theorem dZY_hasPlace_26 : decode cZY_hasPlace 26 = .ok (.invokestatic 33, 3) := by decide +kernel
theorem dZY_hasPlace_29 : decode cZY_hasPlace 29 = .ok (.ifCond .eq 7, 3) := by decide +kernel
theorem dZY_hasPlace_32 : decode cZY_hasPlace 32 = .ok (.iconst 1, 1) := by decide +kernel
theorem dZY_hasPlace_33 : decode cZY_hasPlace 33 = .ok (.goto 4, 3) := by decide +kernel
theorem dZY_hasPlace_36 : decode cZY_hasPlace 36 = .ok (.iconst 0, 1) := by decide +kernel
theorem dZY_hasPlace_37 : decode cZY_hasPlace 37 = .ok (.ireturn, 1) := by decide +kernel
abbrev wsZY_hasPlace : List Cond := .code yZY_hasPlace cZY_hasPlace 4 (some .boolean) :: tbg
def wp_ZY_hasPlace (yk : Int32) (pw : Int32) (ph : Int32) (pn : Nat) (pf : Nat → Int32) (a1 : Int32) (a2 : Int32) (a3 : Int32) (post : Int32 → Prop) : Prop := wp_ZY_hasLevel yk pw ph pn pf a1 (fun r_1 : Int32 => ((r_1 = (0 : Int32) → (post (0 : Int32))) ∧ (¬ r_1 = (0 : Int32) → (wp_ZY_columnsOf yk pw ph pn pf a1 (fun r_3 : Int32 => wp_ZQ_isWithin a2 r_3 (fun r_4 : Int32 => ((r_4 = (0 : Int32) → (post (0 : Int32))) ∧ (¬ r_4 = (0 : Int32) → (wp_ZY_rowsOf yk pw ph pn pf a1 (fun r_6 : Int32 => wp_ZQ_isWithin a3 r_6 (fun r_7 : Int32 => ((r_7 = (0 : Int32) → (post (0 : Int32))) ∧ (¬ r_7 = (0 : Int32) → (post (1 : Int32)))))))))))))))
abbrev rm_ZY_hasPlace : Room := { frames := 2, cells := 0, slots := 0, locals := 42 }
set_option maxHeartbeats 4000000 in
set_option maxRecDepth 100000 in
theorem kt_ZY_hasPlace (l : Launch) (dC : Nat → ClassId) (dI : Nat → Nat → Nat) (cI : ClassId) (oy op opa : Nat) (yk : Int32) (pw : Int32) (ph : Int32) (pn : Nat) (pf : Nat → Int32) (a1 : Int32) (a2 : Int32) (a3 : Int32) (post : Int32 → Prop) (hw : wp_ZY_hasPlace yk pw ph pn pf a1 a2 a3 post) : Met l yZY_hasPlace wsZY_hasPlace rm_ZY_hasPlace (gr_Pc dC dI [(cI, .int)] [.ref oy, .int a1, .int a2, .int a3] [(oy, .inr (2, [.ref op, .int yk])), (op, .inr (1, [.int pw, .int ph, .ref opa])), (opa, .inl (cI, pn, .inl pf))]) (vp_Si post) 0 0 (fun _ => False) := by
  refine Met.ofW (cc := cZY_hasPlace) (maxL := 4) (ret := (some .boolean)) (by decide) rfl ?_
  intro p e s m args below meth c s₁ B hml hv
  obtain ⟨ha9, hP, hK, hE⟩ := hv
  have hx := B.exec
  have hb := B.bytes
  have hr := B.returns
  have hts0 := atoms_spec (ws := wsZY_hasPlace) B.pre
  have hts : ∀ w ∈ tbg, w.before args s = true := fun w h => hts0 w (List.mem_cons_of_mem _ h)
  have hown : s.vm.findClass RZY = some m.cls := findClass_of_methodNamed B.named
  have hlocks := B.notSynchronized
  refine gx_Q (fun Q9 hQ9 => ?_)
  have hl := lv_entry ([.ref oy, .int a1, .int a2, .int a3]) (n := 4) (Nat.le_of_ble_eq_true rfl)
  have he9 : entryFrame m args 4 = F0 m 0 ((lg_sl [.ref oy, .int a1, .int a2, .int a3] ++ List.replicate (4 - (lg_sl ([.ref oy, .int a1, .int a2, .int a3] : List Value)).length) Slot.unset).toArray) [] := by rw [ha9]; exact lg_entry_eq m [.ref oy, .int a1, .int a2, .int a3] 4
  rw [he9]
  generalize (lg_sl ([.ref oy, .int a1, .int a2, .int a3] : List Value) ++ List.replicate (4 - (lg_sl ([.ref oy, .int a1, .int a2, .int a3] : List Value)).length) Slot.unset).toArray = ls at hl ⊢
  have hl : lv_has ls 4 [(0, .ref oy), (1, .int a1), (2, .int a2), (3, .int a3)] := hl
  refine lv_aload_n hx hb dZY_hasPlace_0 rfl (lv_at hl 0 rfl) ?_
  refine lv_iload_n hx hb dZY_hasPlace_1 rfl (lv_at hl 1 rfl) ?_
  refine vp_callSi (va_runV (As := [.int a1]) (rest := []) ⟨hx, hb, hml, hown, hts⟩ (kt_ZY_hasLevel l dC dI cI oy op opa yk pw ph pn pf a1 _ hw) (cwV 1 hts (tb_V mm_353 mm_354 mm_355 mm_4 mm_356) rfl rfl rfl (by decide +kernel) ⟨Nat.le_of_ble_eq_true rfl, Nat.le_of_ble_eq_true rfl⟩) ⟨gr_blind, va_recv hK hP (ci := 2) (q0 := 0) rfl rfl, fun U hU hW => gr_pre hP hK hE hU hW⟩ rfl rfl hl.1 rfl (lv_room (Nat.le_of_ble_eq_true rfl)) dZY_hasPlace_2 ⟨Nat.le_of_ble_eq_true rfl, Nat.le_of_ble_eq_true rfl⟩).run (fun r_1 hw => ?_)
  refine lv_if_eq (tgt := 36) hx hb dZY_hasPlace_5 (by decide) (fun c_2 => ?_) (fun c_2 => ?_)
  · have hw := hw.1 c_2
    refine lv_iconst (v := (0 : Int32)) hx hb dZY_hasPlace_36 (by decide) ?_
    subst hQ9
    exact W.zret (v := (0 : Int32)) (ty := .boolean) hx hb hr rfl (fun t ht hW => ⟨(0 : Int32), rfl, hw, ht⟩) (fun q h => nomatch h) dZY_hasPlace_37
  · have hw := hw.2 c_2
    refine lv_iload_n hx hb dZY_hasPlace_8 rfl (lv_at hl 2 rfl) ?_
    refine lv_aload_n hx hb dZY_hasPlace_9 rfl (lv_at hl 0 rfl) ?_
    refine lv_iload_n hx hb dZY_hasPlace_10 rfl (lv_at hl 1 rfl) ?_
    refine vp_callSi (va_runV (As := [.int a1]) (rest := [.int a2]) ⟨hx, hb, hml, hown, hts⟩ (kt_ZY_columnsOf l dC dI cI oy op opa yk pw ph pn pf a1 _ hw) (cwV 1 hts (tb_V mm_358 mm_359 mm_360 mm_4 mm_361) rfl rfl rfl (by decide +kernel) ⟨Nat.le_of_ble_eq_true rfl, Nat.le_of_ble_eq_true rfl⟩) ⟨gr_blind, va_recv hK hP (ci := 2) (q0 := 0) rfl rfl, fun U hU hW => gr_pre hP hK hE hU hW⟩ rfl rfl hl.1 rfl (lv_room (Nat.le_of_ble_eq_true rfl)) dZY_hasPlace_11 ⟨Nat.le_of_ble_eq_true rfl, Nat.le_of_ble_eq_true rfl⟩).run (fun r_3 hw => ?_)
    have hPc := hP.sub (ws' := []) [] rfl
    refine vp_callSi (va_runSN (As := [.int a2, .int r_3]) (rest := []) ⟨hx, hb, hml, hown, hts⟩ (kt_ZQ_isWithin l dC dI cI  a2 r_3 _ hw) ⟨(va_cnB 2 hts (tb_0 mm_238) rfl rfl rfl (gxE_14 hE) (hts _ mm_1) (by decide +kernel) ⟨Nat.le_of_ble_eq_true rfl, Nat.le_of_ble_eq_true rfl⟩), hts _ mm_237, trivial⟩ ⟨gr_blind, fun U hU hW => gr_pre hPc hK hE hU hW⟩ rfl rfl hl.1 rfl (lv_room (Nat.le_of_ble_eq_true rfl)) dZY_hasPlace_14 ⟨Nat.le_of_ble_eq_true rfl, Nat.le_of_ble_eq_true rfl⟩).run (fun r_4 hw => ?_)
    refine lv_if_eq (tgt := 36) hx hb dZY_hasPlace_17 (by decide) (fun c_5 => ?_) (fun c_5 => ?_)
    · have hw := hw.1 c_5
      refine lv_iconst (v := (0 : Int32)) hx hb dZY_hasPlace_36 (by decide) ?_
      subst hQ9
      exact W.zret (v := (0 : Int32)) (ty := .boolean) hx hb hr rfl (fun t ht hW => ⟨(0 : Int32), rfl, hw, ht⟩) (fun q h => nomatch h) dZY_hasPlace_37
    · have hw := hw.2 c_5
      refine lv_iload_n hx hb dZY_hasPlace_20 rfl (lv_at hl 3 rfl) ?_
      refine lv_aload_n hx hb dZY_hasPlace_21 rfl (lv_at hl 0 rfl) ?_
      refine lv_iload_n hx hb dZY_hasPlace_22 rfl (lv_at hl 1 rfl) ?_
      refine vp_callSi (va_runV (As := [.int a1]) (rest := [.int a3]) ⟨hx, hb, hml, hown, hts⟩ (kt_ZY_rowsOf l dC dI cI oy op opa yk pw ph pn pf a1 _ hw) (cwV 1 hts (tb_V mm_365 mm_366 mm_367 mm_4 mm_368) rfl rfl rfl (by decide +kernel) ⟨Nat.le_of_ble_eq_true rfl, Nat.le_of_ble_eq_true rfl⟩) ⟨gr_blind, va_recv hK hP (ci := 2) (q0 := 0) rfl rfl, fun U hU hW => gr_pre hP hK hE hU hW⟩ rfl rfl hl.1 rfl (lv_room (Nat.le_of_ble_eq_true rfl)) dZY_hasPlace_23 ⟨Nat.le_of_ble_eq_true rfl, Nat.le_of_ble_eq_true rfl⟩).run (fun r_6 hw => ?_)
      have hPc := hP.sub (ws' := []) [] rfl
      refine vp_callSi (va_runSN (As := [.int a3, .int r_6]) (rest := []) ⟨hx, hb, hml, hown, hts⟩ (kt_ZQ_isWithin l dC dI cI  a3 r_6 _ hw) ⟨(va_cnB 2 hts (tb_0 mm_238) rfl rfl rfl (gxE_14 hE) (hts _ mm_1) (by decide +kernel) ⟨Nat.le_of_ble_eq_true rfl, Nat.le_of_ble_eq_true rfl⟩), hts _ mm_237, trivial⟩ ⟨gr_blind, fun U hU hW => gr_pre hPc hK hE hU hW⟩ rfl rfl hl.1 rfl (lv_room (Nat.le_of_ble_eq_true rfl)) dZY_hasPlace_26 ⟨Nat.le_of_ble_eq_true rfl, Nat.le_of_ble_eq_true rfl⟩).run (fun r_7 hw => ?_)
      refine lv_if_eq (tgt := 36) hx hb dZY_hasPlace_29 (by decide) (fun c_8 => ?_) (fun c_8 => ?_)
      · have hw := hw.1 c_8
        refine lv_iconst (v := (0 : Int32)) hx hb dZY_hasPlace_36 (by decide) ?_
        subst hQ9
        exact W.zret (v := (0 : Int32)) (ty := .boolean) hx hb hr rfl (fun t ht hW => ⟨(0 : Int32), rfl, hw, ht⟩) (fun q h => nomatch h) dZY_hasPlace_37
      · have hw := hw.2 c_8
        refine lv_iconst (v := (1 : Int32)) hx hb dZY_hasPlace_32 (by decide) ?_
        refine lv_goto (tgt := 37) hx hb dZY_hasPlace_33 (by decide) ?_
        subst hQ9
        exact W.zret (v := (1 : Int32)) (ty := .boolean) hx hb hr rfl (fun t ht hW => ⟨(1 : Int32), rfl, hw, ht⟩) (fun q h => nomatch h) dZY_hasPlace_37
theorem dZY_hasPart_0 : decode cZY_hasPart 0 = .ok (.aload_n 0, 1) := by decide +kernel
theorem dZY_hasPart_1 : decode cZY_hasPart 1 = .ok (.iload_n 1, 1) := by decide +kernel
theorem dZY_hasPart_2 : decode cZY_hasPart 2 = .ok (.iload_n 2, 1) := by decide +kernel
theorem dZY_hasPart_3 : decode cZY_hasPart 3 = .ok (.iload_n 3, 1) := by decide +kernel
theorem dZY_hasPart_4 : decode cZY_hasPart 4 = .ok (.invokevirtual 48, 3) := by decide +kernel
theorem dZY_hasPart_7 : decode cZY_hasPart 7 = .ok (.ifCond .eq 43, 3) := by decide +kernel
theorem dZY_hasPart_10 : decode cZY_hasPart 10 = .ok (.iload 4, 2) := by decide +kernel
theorem dZY_hasPart_12 : decode cZY_hasPart 12 = .ok (.iconst 1, 1) := by decide +kernel
theorem dZY_hasPart_13 : decode cZY_hasPart 13 = .ok (.if_icmp .lt 37, 3) := by decide +kernel
theorem dZY_hasPart_16 : decode cZY_hasPart 16 = .ok (.iload 5, 2) := by decide +kernel
theorem dZY_hasPart_18 : decode cZY_hasPart 18 = .ok (.iconst 1, 1) := by decide +kernel
theorem dZY_hasPart_19 : decode cZY_hasPart 19 = .ok (.if_icmp .lt 31, 3) := by decide +kernel
theorem dZY_hasPart_22 : decode cZY_hasPart 22 = .ok (.iload 4, 2) := by decide +kernel
theorem dZY_hasPart_24 : decode cZY_hasPart 24 = .ok (.aload_n 0, 1) := by decide +kernel
theorem dZY_hasPart_25 : decode cZY_hasPart 25 = .ok (.iload_n 1, 1) := by decide +kernel
theorem dZY_hasPart_26 : decode cZY_hasPart 26 = .ok (.invokevirtual 41, 3) := by decide +kernel
theorem dZY_hasPart_29 : decode cZY_hasPart 29 = .ok (.iload_n 2, 1) := by decide +kernel
theorem dZY_hasPart_30 : decode cZY_hasPart 30 = .ok (.isub, 1) := by decide +kernel
theorem dZY_hasPart_31 : decode cZY_hasPart 31 = .ok (.if_icmp .gt 19, 3) := by decide +kernel
theorem dZY_hasPart_34 : decode cZY_hasPart 34 = .ok (.iload 5, 2) := by decide +kernel
theorem dZY_hasPart_36 : decode cZY_hasPart 36 = .ok (.aload_n 0, 1) := by decide +kernel
theorem dZY_hasPart_37 : decode cZY_hasPart 37 = .ok (.iload_n 1, 1) := by decide +kernel
theorem dZY_hasPart_38 : decode cZY_hasPart 38 = .ok (.invokevirtual 45, 3) := by decide +kernel
theorem dZY_hasPart_41 : decode cZY_hasPart 41 = .ok (.iload_n 3, 1) := by decide +kernel
theorem dZY_hasPart_42 : decode cZY_hasPart 42 = .ok (.isub, 1) := by decide +kernel
theorem dZY_hasPart_43 : decode cZY_hasPart 43 = .ok (.if_icmp .gt 7, 3) := by decide +kernel
theorem dZY_hasPart_46 : decode cZY_hasPart 46 = .ok (.iconst 1, 1) := by decide +kernel
theorem dZY_hasPart_47 : decode cZY_hasPart 47 = .ok (.goto 4, 3) := by decide +kernel
theorem dZY_hasPart_50 : decode cZY_hasPart 50 = .ok (.iconst 0, 1) := by decide +kernel
theorem dZY_hasPart_51 : decode cZY_hasPart 51 = .ok (.ireturn, 1) := by decide +kernel
abbrev wsZY_hasPart : List Cond := .code yZY_hasPart cZY_hasPart 6 (some .boolean) :: tbg
def wp_ZY_hasPart (yk : Int32) (pw : Int32) (ph : Int32) (pn : Nat) (pf : Nat → Int32) (a1 : Int32) (a2 : Int32) (a3 : Int32) (a4 : Int32) (a5 : Int32) (post : Int32 → Prop) : Prop := wp_ZY_hasPlace yk pw ph pn pf a1 a2 a3 (fun r_1 : Int32 => ((r_1 = (0 : Int32) → (post (0 : Int32))) ∧ (¬ r_1 = (0 : Int32) → ((a4 < (1 : Int32) → (post (0 : Int32))) ∧ (¬ a4 < (1 : Int32) → ((a5 < (1 : Int32) → (post (0 : Int32))) ∧ (¬ a5 < (1 : Int32) → (wp_ZY_columnsOf yk pw ph pn pf a1 (fun r_5 : Int32 => (((r_5 - a2) < a4 → (post (0 : Int32))) ∧ (¬ (r_5 - a2) < a4 → (wp_ZY_rowsOf yk pw ph pn pf a1 (fun r_7 : Int32 => (((r_7 - a3) < a5 → (post (0 : Int32))) ∧ (¬ (r_7 - a3) < a5 → (post (1 : Int32)))))))))))))))))
abbrev rm_ZY_hasPart : Room := { frames := 3, cells := 0, slots := 0, locals := 65 }
set_option maxHeartbeats 4000000 in
set_option maxRecDepth 100000 in
theorem kt_ZY_hasPart (l : Launch) (dC : Nat → ClassId) (dI : Nat → Nat → Nat) (cI : ClassId) (oy op opa : Nat) (yk : Int32) (pw : Int32) (ph : Int32) (pn : Nat) (pf : Nat → Int32) (a1 : Int32) (a2 : Int32) (a3 : Int32) (a4 : Int32) (a5 : Int32) (post : Int32 → Prop) (hw : wp_ZY_hasPart yk pw ph pn pf a1 a2 a3 a4 a5 post) : Met l yZY_hasPart wsZY_hasPart rm_ZY_hasPart (gr_Pc dC dI [(cI, .int)] [.ref oy, .int a1, .int a2, .int a3, .int a4, .int a5] [(oy, .inr (2, [.ref op, .int yk])), (op, .inr (1, [.int pw, .int ph, .ref opa])), (opa, .inl (cI, pn, .inl pf))]) (vp_Si post) 0 0 (fun _ => False) := by
  refine Met.ofW (cc := cZY_hasPart) (maxL := 6) (ret := (some .boolean)) (by decide) rfl ?_
  intro p e s m args below meth c s₁ B hml hv
  obtain ⟨ha9, hP, hK, hE⟩ := hv
  have hx := B.exec
  have hb := B.bytes
  have hr := B.returns
  have hts0 := atoms_spec (ws := wsZY_hasPart) B.pre
  have hts : ∀ w ∈ tbg, w.before args s = true := fun w h => hts0 w (List.mem_cons_of_mem _ h)
  have hown : s.vm.findClass RZY = some m.cls := findClass_of_methodNamed B.named
  have hlocks := B.notSynchronized
  refine gx_Q (fun Q9 hQ9 => ?_)
  have hl := lv_entry ([.ref oy, .int a1, .int a2, .int a3, .int a4, .int a5]) (n := 6) (Nat.le_of_ble_eq_true rfl)
  have he9 : entryFrame m args 6 = F0 m 0 ((lg_sl [.ref oy, .int a1, .int a2, .int a3, .int a4, .int a5] ++ List.replicate (6 - (lg_sl ([.ref oy, .int a1, .int a2, .int a3, .int a4, .int a5] : List Value)).length) Slot.unset).toArray) [] := by rw [ha9]; exact lg_entry_eq m [.ref oy, .int a1, .int a2, .int a3, .int a4, .int a5] 6
  rw [he9]
  generalize (lg_sl ([.ref oy, .int a1, .int a2, .int a3, .int a4, .int a5] : List Value) ++ List.replicate (6 - (lg_sl ([.ref oy, .int a1, .int a2, .int a3, .int a4, .int a5] : List Value)).length) Slot.unset).toArray = ls at hl ⊢
  have hl : lv_has ls 6 [(0, .ref oy), (1, .int a1), (2, .int a2), (3, .int a3), (4, .int a4), (5, .int a5)] := hl
  refine lv_aload_n hx hb dZY_hasPart_0 rfl (lv_at hl 0 rfl) ?_
  refine lv_iload_n hx hb dZY_hasPart_1 rfl (lv_at hl 1 rfl) ?_
  refine lv_iload_n hx hb dZY_hasPart_2 rfl (lv_at hl 2 rfl) ?_
  refine lv_iload_n hx hb dZY_hasPart_3 rfl (lv_at hl 3 rfl) ?_
  refine vp_callSi (va_runV (As := [.int a1, .int a2, .int a3]) (rest := []) ⟨hx, hb, hml, hown, hts⟩ (kt_ZY_hasPlace l dC dI cI oy op opa yk pw ph pn pf a1 a2 a3 _ hw) (cwV 3 hts (tb_V mm_349 mm_350 mm_351 mm_4 mm_352) rfl rfl rfl (by decide +kernel) ⟨Nat.le_of_ble_eq_true rfl, Nat.le_of_ble_eq_true rfl⟩) ⟨gr_blind, va_recv hK hP (ci := 2) (q0 := 0) rfl rfl, fun U hU hW => gr_pre hP hK hE hU hW⟩ rfl rfl hl.1 rfl (lv_room (Nat.le_of_ble_eq_true rfl)) dZY_hasPart_4 ⟨Nat.le_of_ble_eq_true rfl, Nat.le_of_ble_eq_true rfl⟩).run (fun r_1 hw => ?_)
  refine lv_if_eq (tgt := 50) hx hb dZY_hasPart_7 (by decide) (fun c_2 => ?_) (fun c_2 => ?_)
  · have hw := hw.1 c_2
    refine lv_iconst (v := (0 : Int32)) hx hb dZY_hasPart_50 (by decide) ?_
    subst hQ9
    exact W.zret (v := (0 : Int32)) (ty := .boolean) hx hb hr rfl (fun t ht hW => ⟨(0 : Int32), rfl, hw, ht⟩) (fun q h => nomatch h) dZY_hasPart_51
  · have hw := hw.2 c_2
    refine lv_iload hx hb dZY_hasPart_10 (lv_at hl 4 rfl) ?_
    refine lv_iconst (v := (1 : Int32)) hx hb dZY_hasPart_12 (by decide) ?_
    refine lv_icmp_lt (tgt := 50) hx hb dZY_hasPart_13 (by decide) (fun c_3 => ?_) (fun c_3 => ?_)
    · have hw := hw.1 c_3
      refine lv_iconst (v := (0 : Int32)) hx hb dZY_hasPart_50 (by decide) ?_
      subst hQ9
      exact W.zret (v := (0 : Int32)) (ty := .boolean) hx hb hr rfl (fun t ht hW => ⟨(0 : Int32), rfl, hw, ht⟩) (fun q h => nomatch h) dZY_hasPart_51
    · have hw := hw.2 c_3
      refine lv_iload hx hb dZY_hasPart_16 (lv_at hl 5 rfl) ?_
      refine lv_iconst (v := (1 : Int32)) hx hb dZY_hasPart_18 (by decide) ?_
      refine lv_icmp_lt (tgt := 50) hx hb dZY_hasPart_19 (by decide) (fun c_4 => ?_) (fun c_4 => ?_)
      · have hw := hw.1 c_4
        refine lv_iconst (v := (0 : Int32)) hx hb dZY_hasPart_50 (by decide) ?_
        subst hQ9
        exact W.zret (v := (0 : Int32)) (ty := .boolean) hx hb hr rfl (fun t ht hW => ⟨(0 : Int32), rfl, hw, ht⟩) (fun q h => nomatch h) dZY_hasPart_51
      · have hw := hw.2 c_4
        refine lv_iload hx hb dZY_hasPart_22 (lv_at hl 4 rfl) ?_
        refine lv_aload_n hx hb dZY_hasPart_24 rfl (lv_at hl 0 rfl) ?_
        refine lv_iload_n hx hb dZY_hasPart_25 rfl (lv_at hl 1 rfl) ?_
        refine vp_callSi (va_runV (As := [.int a1]) (rest := [.int a4]) ⟨hx, hb, hml, hown, hts⟩ (kt_ZY_columnsOf l dC dI cI oy op opa yk pw ph pn pf a1 _ hw) (cwV 1 hts (tb_V mm_358 mm_359 mm_360 mm_4 mm_361) rfl rfl rfl (by decide +kernel) ⟨Nat.le_of_ble_eq_true rfl, Nat.le_of_ble_eq_true rfl⟩) ⟨gr_blind, va_recv hK hP (ci := 2) (q0 := 0) rfl rfl, fun U hU hW => gr_pre hP hK hE hU hW⟩ rfl rfl hl.1 rfl (lv_room (Nat.le_of_ble_eq_true rfl)) dZY_hasPart_26 ⟨Nat.le_of_ble_eq_true rfl, Nat.le_of_ble_eq_true rfl⟩).run (fun r_5 hw => ?_)
        refine lv_iload_n hx hb dZY_hasPart_29 rfl (lv_at hl 2 rfl) ?_
        refine lv_isub hx hb dZY_hasPart_30 ?_
        refine lv_icmp_gt (tgt := 50) hx hb dZY_hasPart_31 (by decide) (fun c_6 => ?_) (fun c_6 => ?_)
        · have hw := hw.1 c_6
          refine lv_iconst (v := (0 : Int32)) hx hb dZY_hasPart_50 (by decide) ?_
          subst hQ9
          exact W.zret (v := (0 : Int32)) (ty := .boolean) hx hb hr rfl (fun t ht hW => ⟨(0 : Int32), rfl, hw, ht⟩) (fun q h => nomatch h) dZY_hasPart_51
        · have hw := hw.2 c_6
          refine lv_iload hx hb dZY_hasPart_34 (lv_at hl 5 rfl) ?_
          refine lv_aload_n hx hb dZY_hasPart_36 rfl (lv_at hl 0 rfl) ?_
          refine lv_iload_n hx hb dZY_hasPart_37 rfl (lv_at hl 1 rfl) ?_
          refine vp_callSi (va_runV (As := [.int a1]) (rest := [.int a5]) ⟨hx, hb, hml, hown, hts⟩ (kt_ZY_rowsOf l dC dI cI oy op opa yk pw ph pn pf a1 _ hw) (cwV 1 hts (tb_V mm_365 mm_366 mm_367 mm_4 mm_368) rfl rfl rfl (by decide +kernel) ⟨Nat.le_of_ble_eq_true rfl, Nat.le_of_ble_eq_true rfl⟩) ⟨gr_blind, va_recv hK hP (ci := 2) (q0 := 0) rfl rfl, fun U hU hW => gr_pre hP hK hE hU hW⟩ rfl rfl hl.1 rfl (lv_room (Nat.le_of_ble_eq_true rfl)) dZY_hasPart_38 ⟨Nat.le_of_ble_eq_true rfl, Nat.le_of_ble_eq_true rfl⟩).run (fun r_7 hw => ?_)
          refine lv_iload_n hx hb dZY_hasPart_41 rfl (lv_at hl 3 rfl) ?_
          refine lv_isub hx hb dZY_hasPart_42 ?_
          refine lv_icmp_gt (tgt := 50) hx hb dZY_hasPart_43 (by decide) (fun c_8 => ?_) (fun c_8 => ?_)
          · have hw := hw.1 c_8
            refine lv_iconst (v := (0 : Int32)) hx hb dZY_hasPart_50 (by decide) ?_
            subst hQ9
            exact W.zret (v := (0 : Int32)) (ty := .boolean) hx hb hr rfl (fun t ht hW => ⟨(0 : Int32), rfl, hw, ht⟩) (fun q h => nomatch h) dZY_hasPart_51
          · have hw := hw.2 c_8
            refine lv_iconst (v := (1 : Int32)) hx hb dZY_hasPart_46 (by decide) ?_
            refine lv_goto (tgt := 51) hx hb dZY_hasPart_47 (by decide) ?_
            subst hQ9
            exact W.zret (v := (1 : Int32)) (ty := .boolean) hx hb hr rfl (fun t ht hW => ⟨(1 : Int32), rfl, hw, ht⟩) (fun q h => nomatch h) dZY_hasPart_51
theorem dZY_hasTile_0 : decode cZY_hasTile 0 = .ok (.aload_n 0, 1) := by decide +kernel
theorem dZY_hasTile_1 : decode cZY_hasTile 1 = .ok (.iload_n 1, 1) := by decide +kernel
theorem dZY_hasTile_2 : decode cZY_hasTile 2 = .ok (.invokevirtual 37, 3) := by decide +kernel
theorem dZY_hasTile_5 : decode cZY_hasTile 5 = .ok (.ifCond .eq 37, 3) := by decide +kernel
theorem dZY_hasTile_8 : decode cZY_hasTile 8 = .ok (.iload_n 2, 1) := by decide +kernel
theorem dZY_hasTile_9 : decode cZY_hasTile 9 = .ok (.aload_n 0, 1) := by decide +kernel
theorem dZY_hasTile_10 : decode cZY_hasTile 10 = .ok (.iload_n 1, 1) := by decide +kernel
theorem dZY_hasTile_11 : decode cZY_hasTile 11 = .ok (.invokevirtual 41, 3) := by decide +kernel
theorem dZY_hasTile_14 : decode cZY_hasTile 14 = .ok (.invokestatic 52, 3) := by decide +kernel
theorem dZY_hasTile_17 : decode cZY_hasTile 17 = .ok (.invokestatic 33, 3) := by decide +kernel
theorem dZY_hasTile_20 : decode cZY_hasTile 20 = .ok (.ifCond .eq 22, 3) := by decide +kernel
theorem dZY_hasTile_23 : decode cZY_hasTile 23 = .ok (.iload_n 3, 1) := by decide +kernel
theorem dZY_hasTile_24 : decode cZY_hasTile 24 = .ok (.aload_n 0, 1) := by decide +kernel
theorem dZY_hasTile_25 : decode cZY_hasTile 25 = .ok (.iload_n 1, 1) := by decide +kernel
theorem dZY_hasTile_26 : decode cZY_hasTile 26 = .ok (.invokevirtual 45, 3) := by decide +kernel
theorem dZY_hasTile_29 : decode cZY_hasTile 29 = .ok (.invokestatic 52, 3) := by decide +kernel
theorem dZY_hasTile_32 : decode cZY_hasTile 32 = .ok (.invokestatic 33, 3) := by decide +kernel
theorem dZY_hasTile_35 : decode cZY_hasTile 35 = .ok (.ifCond .eq 7, 3) := by decide +kernel
theorem dZY_hasTile_38 : decode cZY_hasTile 38 = .ok (.iconst 1, 1) := by decide +kernel
theorem dZY_hasTile_39 : decode cZY_hasTile 39 = .ok (.goto 4, 3) := by decide +kernel
theorem dZY_hasTile_42 : decode cZY_hasTile 42 = .ok (.iconst 0, 1) := by decide +kernel
theorem dZY_hasTile_43 : decode cZY_hasTile 43 = .ok (.ireturn, 1) := by decide +kernel
abbrev wsZY_hasTile : List Cond := .code yZY_hasTile cZY_hasTile 4 (some .boolean) :: tbg
def wp_ZY_hasTile (yk : Int32) (pw : Int32) (ph : Int32) (pn : Nat) (pf : Nat → Int32) (a1 : Int32) (a2 : Int32) (a3 : Int32) (post : Int32 → Prop) : Prop := wp_ZY_hasLevel yk pw ph pn pf a1 (fun r_1 : Int32 => ((r_1 = (0 : Int32) → (post (0 : Int32))) ∧ (¬ r_1 = (0 : Int32) → (wp_ZY_columnsOf yk pw ph pn pf a1 (fun r_3 : Int32 => wp_ZY_tilesAlong r_3 (fun r_4 : Int32 => wp_ZQ_isWithin a2 r_4 (fun r_5 : Int32 => ((r_5 = (0 : Int32) → (post (0 : Int32))) ∧ (¬ r_5 = (0 : Int32) → (wp_ZY_rowsOf yk pw ph pn pf a1 (fun r_7 : Int32 => wp_ZY_tilesAlong r_7 (fun r_8 : Int32 => wp_ZQ_isWithin a3 r_8 (fun r_9 : Int32 => ((r_9 = (0 : Int32) → (post (0 : Int32))) ∧ (¬ r_9 = (0 : Int32) → (post (1 : Int32)))))))))))))))))
abbrev rm_ZY_hasTile : Room := { frames := 2, cells := 0, slots := 0, locals := 42 }
set_option maxHeartbeats 4000000 in
set_option maxRecDepth 100000 in
theorem kt_ZY_hasTile (l : Launch) (dC : Nat → ClassId) (dI : Nat → Nat → Nat) (cI : ClassId) (oy op opa : Nat) (yk : Int32) (pw : Int32) (ph : Int32) (pn : Nat) (pf : Nat → Int32) (a1 : Int32) (a2 : Int32) (a3 : Int32) (post : Int32 → Prop) (hw : wp_ZY_hasTile yk pw ph pn pf a1 a2 a3 post) : Met l yZY_hasTile wsZY_hasTile rm_ZY_hasTile (gr_Pc dC dI [(cI, .int)] [.ref oy, .int a1, .int a2, .int a3] [(oy, .inr (2, [.ref op, .int yk])), (op, .inr (1, [.int pw, .int ph, .ref opa])), (opa, .inl (cI, pn, .inl pf))]) (vp_Si post) 0 0 (fun _ => False) := by
  refine Met.ofW (cc := cZY_hasTile) (maxL := 4) (ret := (some .boolean)) (by decide) rfl ?_
  intro p e s m args below meth c s₁ B hml hv
  obtain ⟨ha9, hP, hK, hE⟩ := hv
  have hx := B.exec
  have hb := B.bytes
  have hr := B.returns
  have hts0 := atoms_spec (ws := wsZY_hasTile) B.pre
  have hts : ∀ w ∈ tbg, w.before args s = true := fun w h => hts0 w (List.mem_cons_of_mem _ h)
  have hown : s.vm.findClass RZY = some m.cls := findClass_of_methodNamed B.named
  have hlocks := B.notSynchronized
  refine gx_Q (fun Q9 hQ9 => ?_)
  have hl := lv_entry ([.ref oy, .int a1, .int a2, .int a3]) (n := 4) (Nat.le_of_ble_eq_true rfl)
  have he9 : entryFrame m args 4 = F0 m 0 ((lg_sl [.ref oy, .int a1, .int a2, .int a3] ++ List.replicate (4 - (lg_sl ([.ref oy, .int a1, .int a2, .int a3] : List Value)).length) Slot.unset).toArray) [] := by rw [ha9]; exact lg_entry_eq m [.ref oy, .int a1, .int a2, .int a3] 4
  rw [he9]
  generalize (lg_sl ([.ref oy, .int a1, .int a2, .int a3] : List Value) ++ List.replicate (4 - (lg_sl ([.ref oy, .int a1, .int a2, .int a3] : List Value)).length) Slot.unset).toArray = ls at hl ⊢
  have hl : lv_has ls 4 [(0, .ref oy), (1, .int a1), (2, .int a2), (3, .int a3)] := hl
  refine lv_aload_n hx hb dZY_hasTile_0 rfl (lv_at hl 0 rfl) ?_
  refine lv_iload_n hx hb dZY_hasTile_1 rfl (lv_at hl 1 rfl) ?_
  refine vp_callSi (va_runV (As := [.int a1]) (rest := []) ⟨hx, hb, hml, hown, hts⟩ (kt_ZY_hasLevel l dC dI cI oy op opa yk pw ph pn pf a1 _ hw) (cwV 1 hts (tb_V mm_353 mm_354 mm_355 mm_4 mm_356) rfl rfl rfl (by decide +kernel) ⟨Nat.le_of_ble_eq_true rfl, Nat.le_of_ble_eq_true rfl⟩) ⟨gr_blind, va_recv hK hP (ci := 2) (q0 := 0) rfl rfl, fun U hU hW => gr_pre hP hK hE hU hW⟩ rfl rfl hl.1 rfl (lv_room (Nat.le_of_ble_eq_true rfl)) dZY_hasTile_2 ⟨Nat.le_of_ble_eq_true rfl, Nat.le_of_ble_eq_true rfl⟩).run (fun r_1 hw => ?_)
  refine lv_if_eq (tgt := 42) hx hb dZY_hasTile_5 (by decide) (fun c_2 => ?_) (fun c_2 => ?_)
  · have hw := hw.1 c_2
    refine lv_iconst (v := (0 : Int32)) hx hb dZY_hasTile_42 (by decide) ?_
    subst hQ9
    exact W.zret (v := (0 : Int32)) (ty := .boolean) hx hb hr rfl (fun t ht hW => ⟨(0 : Int32), rfl, hw, ht⟩) (fun q h => nomatch h) dZY_hasTile_43
  · have hw := hw.2 c_2
    refine lv_iload_n hx hb dZY_hasTile_8 rfl (lv_at hl 2 rfl) ?_
    refine lv_aload_n hx hb dZY_hasTile_9 rfl (lv_at hl 0 rfl) ?_
    refine lv_iload_n hx hb dZY_hasTile_10 rfl (lv_at hl 1 rfl) ?_
    refine vp_callSi (va_runV (As := [.int a1]) (rest := [.int a2]) ⟨hx, hb, hml, hown, hts⟩ (kt_ZY_columnsOf l dC dI cI oy op opa yk pw ph pn pf a1 _ hw) (cwV 1 hts (tb_V mm_358 mm_359 mm_360 mm_4 mm_361) rfl rfl rfl (by decide +kernel) ⟨Nat.le_of_ble_eq_true rfl, Nat.le_of_ble_eq_true rfl⟩) ⟨gr_blind, va_recv hK hP (ci := 2) (q0 := 0) rfl rfl, fun U hU hW => gr_pre hP hK hE hU hW⟩ rfl rfl hl.1 rfl (lv_room (Nat.le_of_ble_eq_true rfl)) dZY_hasTile_11 ⟨Nat.le_of_ble_eq_true rfl, Nat.le_of_ble_eq_true rfl⟩).run (fun r_3 hw => ?_)
    have hPc := hP.sub (ws' := []) [] rfl
    refine vp_callSi (va_runS (As := [.int r_3]) (rest := [.int a2]) ⟨hx, hb, hml, hown, hts⟩ (kt_ZY_tilesAlong l dC dI cI  r_3 _ hw) (va_cwS 1 hts (tb_S mm_460 mm_461 mm_4 mm_462) rfl rfl rfl (by decide +kernel) ⟨Nat.le_of_ble_eq_true rfl, Nat.le_of_ble_eq_true rfl⟩) ⟨gr_blind, fun U hU hW => gr_pre hPc hK hE hU hW⟩ rfl rfl hl.1 rfl (lv_room (Nat.le_of_ble_eq_true rfl)) dZY_hasTile_14 ⟨Nat.le_of_ble_eq_true rfl, Nat.le_of_ble_eq_true rfl⟩).run (fun r_4 hw => ?_)
    have hPc := hP.sub (ws' := []) [] rfl
    refine vp_callSi (va_runSN (As := [.int a2, .int r_4]) (rest := []) ⟨hx, hb, hml, hown, hts⟩ (kt_ZQ_isWithin l dC dI cI  a2 r_4 _ hw) ⟨(va_cnB 2 hts (tb_0 mm_238) rfl rfl rfl (gxE_14 hE) (hts _ mm_1) (by decide +kernel) ⟨Nat.le_of_ble_eq_true rfl, Nat.le_of_ble_eq_true rfl⟩), hts _ mm_237, trivial⟩ ⟨gr_blind, fun U hU hW => gr_pre hPc hK hE hU hW⟩ rfl rfl hl.1 rfl (lv_room (Nat.le_of_ble_eq_true rfl)) dZY_hasTile_17 ⟨Nat.le_of_ble_eq_true rfl, Nat.le_of_ble_eq_true rfl⟩).run (fun r_5 hw => ?_)
    refine lv_if_eq (tgt := 42) hx hb dZY_hasTile_20 (by decide) (fun c_6 => ?_) (fun c_6 => ?_)
    · have hw := hw.1 c_6
      refine lv_iconst (v := (0 : Int32)) hx hb dZY_hasTile_42 (by decide) ?_
      subst hQ9
      exact W.zret (v := (0 : Int32)) (ty := .boolean) hx hb hr rfl (fun t ht hW => ⟨(0 : Int32), rfl, hw, ht⟩) (fun q h => nomatch h) dZY_hasTile_43
    · have hw := hw.2 c_6
      refine lv_iload_n hx hb dZY_hasTile_23 rfl (lv_at hl 3 rfl) ?_
      refine lv_aload_n hx hb dZY_hasTile_24 rfl (lv_at hl 0 rfl) ?_
      refine lv_iload_n hx hb dZY_hasTile_25 rfl (lv_at hl 1 rfl) ?_
      refine vp_callSi (va_runV (As := [.int a1]) (rest := [.int a3]) ⟨hx, hb, hml, hown, hts⟩ (kt_ZY_rowsOf l dC dI cI oy op opa yk pw ph pn pf a1 _ hw) (cwV 1 hts (tb_V mm_365 mm_366 mm_367 mm_4 mm_368) rfl rfl rfl (by decide +kernel) ⟨Nat.le_of_ble_eq_true rfl, Nat.le_of_ble_eq_true rfl⟩) ⟨gr_blind, va_recv hK hP (ci := 2) (q0 := 0) rfl rfl, fun U hU hW => gr_pre hP hK hE hU hW⟩ rfl rfl hl.1 rfl (lv_room (Nat.le_of_ble_eq_true rfl)) dZY_hasTile_26 ⟨Nat.le_of_ble_eq_true rfl, Nat.le_of_ble_eq_true rfl⟩).run (fun r_7 hw => ?_)
      have hPc := hP.sub (ws' := []) [] rfl
      refine vp_callSi (va_runS (As := [.int r_7]) (rest := [.int a3]) ⟨hx, hb, hml, hown, hts⟩ (kt_ZY_tilesAlong l dC dI cI  r_7 _ hw) (va_cwS 1 hts (tb_S mm_460 mm_461 mm_4 mm_462) rfl rfl rfl (by decide +kernel) ⟨Nat.le_of_ble_eq_true rfl, Nat.le_of_ble_eq_true rfl⟩) ⟨gr_blind, fun U hU hW => gr_pre hPc hK hE hU hW⟩ rfl rfl hl.1 rfl (lv_room (Nat.le_of_ble_eq_true rfl)) dZY_hasTile_29 ⟨Nat.le_of_ble_eq_true rfl, Nat.le_of_ble_eq_true rfl⟩).run (fun r_8 hw => ?_)
      have hPc := hP.sub (ws' := []) [] rfl
      refine vp_callSi (va_runSN (As := [.int a3, .int r_8]) (rest := []) ⟨hx, hb, hml, hown, hts⟩ (kt_ZQ_isWithin l dC dI cI  a3 r_8 _ hw) ⟨(va_cnB 2 hts (tb_0 mm_238) rfl rfl rfl (gxE_14 hE) (hts _ mm_1) (by decide +kernel) ⟨Nat.le_of_ble_eq_true rfl, Nat.le_of_ble_eq_true rfl⟩), hts _ mm_237, trivial⟩ ⟨gr_blind, fun U hU hW => gr_pre hPc hK hE hU hW⟩ rfl rfl hl.1 rfl (lv_room (Nat.le_of_ble_eq_true rfl)) dZY_hasTile_32 ⟨Nat.le_of_ble_eq_true rfl, Nat.le_of_ble_eq_true rfl⟩).run (fun r_9 hw => ?_)
      refine lv_if_eq (tgt := 42) hx hb dZY_hasTile_35 (by decide) (fun c_10 => ?_) (fun c_10 => ?_)
      · have hw := hw.1 c_10
        refine lv_iconst (v := (0 : Int32)) hx hb dZY_hasTile_42 (by decide) ?_
        subst hQ9
        exact W.zret (v := (0 : Int32)) (ty := .boolean) hx hb hr rfl (fun t ht hW => ⟨(0 : Int32), rfl, hw, ht⟩) (fun q h => nomatch h) dZY_hasTile_43
      · have hw := hw.2 c_10
        refine lv_iconst (v := (1 : Int32)) hx hb dZY_hasTile_38 (by decide) ?_
        refine lv_goto (tgt := 43) hx hb dZY_hasTile_39 (by decide) ?_
        subst hQ9
        exact W.zret (v := (1 : Int32)) (ty := .boolean) hx hb hr rfl (fun t ht hW => ⟨(1 : Int32), rfl, hw, ht⟩) (fun q h => nomatch h) dZY_hasTile_43
theorem dZY_tileColumns_0 : decode cZY_tileColumns 0 = .ok (.bipush 8, 2) := by decide +kernel
theorem dZY_tileColumns_2 : decode cZY_tileColumns 2 = .ok (.aload_n 0, 1) := by decide +kernel
theorem dZY_tileColumns_3 : decode cZY_tileColumns 3 = .ok (.iload_n 1, 1) := by decide +kernel
theorem dZY_tileColumns_4 : decode cZY_tileColumns 4 = .ok (.invokevirtual 41, 3) := by decide +kernel
theorem dZY_tileColumns_7 : decode cZY_tileColumns 7 = .ok (.bipush 8, 2) := by decide +kernel
theorem dZY_tileColumns_9 : decode cZY_tileColumns 9 = .ok (.iload_n 2, 1) := by decide +kernel
theorem dZY_tileColumns_10 : decode cZY_tileColumns 10 = .ok (.imul, 1) := by decide +kernel
theorem dZY_tileColumns_11 : decode cZY_tileColumns 11 = .ok (.isub, 1) := by decide +kernel
theorem dZY_tileColumns_12 : decode cZY_tileColumns 12 = .ok (.invokestatic 58, 3) := by decide +kernel
theorem dZY_tileColumns_15 : decode cZY_tileColumns 15 = .ok (.ireturn, 1) := by decide +kernel
abbrev wsZY_tileColumns : List Cond := .code yZY_tileColumns cZY_tileColumns 3 (some .int) :: tbg
def wp_ZY_tileColumns (yk : Int32) (pw : Int32) (ph : Int32) (pn : Nat) (pf : Nat → Int32) (a1 : Int32) (a2 : Int32) (post : Int32 → Prop) : Prop := wp_ZY_columnsOf yk pw ph pn pf a1 (fun r_1 : Int32 => post (if (r_1 - ((8 : Int32) * a2)) < (8 : Int32) then (r_1 - ((8 : Int32) * a2)) else (8 : Int32)))
abbrev rm_ZY_tileColumns : Room := { frames := 2, cells := 0, slots := 0, locals := 42 }
set_option maxHeartbeats 4000000 in
set_option maxRecDepth 100000 in
theorem kt_ZY_tileColumns (l : Launch) (dC : Nat → ClassId) (dI : Nat → Nat → Nat) (cI : ClassId) (oy op opa : Nat) (yk : Int32) (pw : Int32) (ph : Int32) (pn : Nat) (pf : Nat → Int32) (a1 : Int32) (a2 : Int32) (post : Int32 → Prop) (hw : wp_ZY_tileColumns yk pw ph pn pf a1 a2 post) : Met l yZY_tileColumns wsZY_tileColumns rm_ZY_tileColumns (gr_Pc dC dI [(cI, .int)] [.ref oy, .int a1, .int a2] [(oy, .inr (2, [.ref op, .int yk])), (op, .inr (1, [.int pw, .int ph, .ref opa])), (opa, .inl (cI, pn, .inl pf))]) (vp_Si post) 0 0 (fun _ => False) := by
  refine Met.ofW (cc := cZY_tileColumns) (maxL := 3) (ret := (some .int)) (by decide) rfl ?_
  intro p e s m args below meth c s₁ B hml hv
  obtain ⟨ha9, hP, hK, hE⟩ := hv
  have hx := B.exec
  have hb := B.bytes
  have hr := B.returns
  have hts0 := atoms_spec (ws := wsZY_tileColumns) B.pre
  have hts : ∀ w ∈ tbg, w.before args s = true := fun w h => hts0 w (List.mem_cons_of_mem _ h)
  have hown : s.vm.findClass RZY = some m.cls := findClass_of_methodNamed B.named
  have hlocks := B.notSynchronized
  refine gx_Q (fun Q9 hQ9 => ?_)
  have hl := lv_entry ([.ref oy, .int a1, .int a2]) (n := 3) (Nat.le_of_ble_eq_true rfl)
  have he9 : entryFrame m args 3 = F0 m 0 ((lg_sl [.ref oy, .int a1, .int a2] ++ List.replicate (3 - (lg_sl ([.ref oy, .int a1, .int a2] : List Value)).length) Slot.unset).toArray) [] := by rw [ha9]; exact lg_entry_eq m [.ref oy, .int a1, .int a2] 3
  rw [he9]
  generalize (lg_sl ([.ref oy, .int a1, .int a2] : List Value) ++ List.replicate (3 - (lg_sl ([.ref oy, .int a1, .int a2] : List Value)).length) Slot.unset).toArray = ls at hl ⊢
  have hl : lv_has ls 3 [(0, .ref oy), (1, .int a1), (2, .int a2)] := hl
  refine lv_bipush (v := (8 : Int32)) hx hb dZY_tileColumns_0 (by decide) ?_
  refine lv_aload_n hx hb dZY_tileColumns_2 rfl (lv_at hl 0 rfl) ?_
  refine lv_iload_n hx hb dZY_tileColumns_3 rfl (lv_at hl 1 rfl) ?_
  refine vp_callSi (va_runV (As := [.int a1]) (rest := [.int (8 : Int32)]) ⟨hx, hb, hml, hown, hts⟩ (kt_ZY_columnsOf l dC dI cI oy op opa yk pw ph pn pf a1 _ hw) (cwV 1 hts (tb_V mm_358 mm_359 mm_360 mm_4 mm_361) rfl rfl rfl (by decide +kernel) ⟨Nat.le_of_ble_eq_true rfl, Nat.le_of_ble_eq_true rfl⟩) ⟨gr_blind, va_recv hK hP (ci := 2) (q0 := 0) rfl rfl, fun U hU hW => gr_pre hP hK hE hU hW⟩ rfl rfl hl.1 rfl (lv_room (Nat.le_of_ble_eq_true rfl)) dZY_tileColumns_4 ⟨Nat.le_of_ble_eq_true rfl, Nat.le_of_ble_eq_true rfl⟩).run (fun r_1 hw => ?_)
  refine lv_bipush (v := (8 : Int32)) hx hb dZY_tileColumns_7 (by decide) ?_
  refine lv_iload_n hx hb dZY_tileColumns_9 rfl (lv_at hl 2 rfl) ?_
  refine lv_imul hx hb dZY_tileColumns_10 ?_
  refine lv_isub hx hb dZY_tileColumns_11 ?_
  refine va_mmin hx hb (hml.trans hl.1.symm) hown (hts _ mm_410) (hts _ mm_26) (hts _ mm_2) (hts _ mm_27) (Nat.le_of_ble_eq_true rfl) (Nat.le_of_ble_eq_true rfl) (Nat.le_of_ble_eq_true rfl) (Nat.le_of_ble_eq_true rfl) dZY_tileColumns_12 ?_
  subst hQ9
  exact W.iret (v := if (r_1 - ((8 : Int32) * a2)) < (8 : Int32) then (r_1 - ((8 : Int32) * a2)) else (8 : Int32)) hx hb hr (fun t ht hW => ⟨if (r_1 - ((8 : Int32) * a2)) < (8 : Int32) then (r_1 - ((8 : Int32) * a2)) else (8 : Int32), rfl, hw, ht⟩) (fun q h => nomatch h) dZY_tileColumns_15
theorem dZY_tileRows_0 : decode cZY_tileRows 0 = .ok (.bipush 8, 2) := by decide +kernel
theorem dZY_tileRows_2 : decode cZY_tileRows 2 = .ok (.aload_n 0, 1) := by decide +kernel
theorem dZY_tileRows_3 : decode cZY_tileRows 3 = .ok (.iload_n 1, 1) := by decide +kernel
theorem dZY_tileRows_4 : decode cZY_tileRows 4 = .ok (.invokevirtual 45, 3) := by decide +kernel
theorem dZY_tileRows_7 : decode cZY_tileRows 7 = .ok (.bipush 8, 2) := by decide +kernel
theorem dZY_tileRows_9 : decode cZY_tileRows 9 = .ok (.iload_n 2, 1) := by decide +kernel
theorem dZY_tileRows_10 : decode cZY_tileRows 10 = .ok (.imul, 1) := by decide +kernel
theorem dZY_tileRows_11 : decode cZY_tileRows 11 = .ok (.isub, 1) := by decide +kernel
theorem dZY_tileRows_12 : decode cZY_tileRows 12 = .ok (.invokestatic 58, 3) := by decide +kernel
theorem dZY_tileRows_15 : decode cZY_tileRows 15 = .ok (.ireturn, 1) := by decide +kernel
abbrev wsZY_tileRows : List Cond := .code yZY_tileRows cZY_tileRows 3 (some .int) :: tbg
def wp_ZY_tileRows (yk : Int32) (pw : Int32) (ph : Int32) (pn : Nat) (pf : Nat → Int32) (a1 : Int32) (a2 : Int32) (post : Int32 → Prop) : Prop := wp_ZY_rowsOf yk pw ph pn pf a1 (fun r_1 : Int32 => post (if (r_1 - ((8 : Int32) * a2)) < (8 : Int32) then (r_1 - ((8 : Int32) * a2)) else (8 : Int32)))
abbrev rm_ZY_tileRows : Room := { frames := 2, cells := 0, slots := 0, locals := 42 }
set_option maxHeartbeats 4000000 in
set_option maxRecDepth 100000 in
theorem kt_ZY_tileRows (l : Launch) (dC : Nat → ClassId) (dI : Nat → Nat → Nat) (cI : ClassId) (oy op opa : Nat) (yk : Int32) (pw : Int32) (ph : Int32) (pn : Nat) (pf : Nat → Int32) (a1 : Int32) (a2 : Int32) (post : Int32 → Prop) (hw : wp_ZY_tileRows yk pw ph pn pf a1 a2 post) : Met l yZY_tileRows wsZY_tileRows rm_ZY_tileRows (gr_Pc dC dI [(cI, .int)] [.ref oy, .int a1, .int a2] [(oy, .inr (2, [.ref op, .int yk])), (op, .inr (1, [.int pw, .int ph, .ref opa])), (opa, .inl (cI, pn, .inl pf))]) (vp_Si post) 0 0 (fun _ => False) := by
  refine Met.ofW (cc := cZY_tileRows) (maxL := 3) (ret := (some .int)) (by decide) rfl ?_
  intro p e s m args below meth c s₁ B hml hv
  obtain ⟨ha9, hP, hK, hE⟩ := hv
  have hx := B.exec
  have hb := B.bytes
  have hr := B.returns
  have hts0 := atoms_spec (ws := wsZY_tileRows) B.pre
  have hts : ∀ w ∈ tbg, w.before args s = true := fun w h => hts0 w (List.mem_cons_of_mem _ h)
  have hown : s.vm.findClass RZY = some m.cls := findClass_of_methodNamed B.named
  have hlocks := B.notSynchronized
  refine gx_Q (fun Q9 hQ9 => ?_)
  have hl := lv_entry ([.ref oy, .int a1, .int a2]) (n := 3) (Nat.le_of_ble_eq_true rfl)
  have he9 : entryFrame m args 3 = F0 m 0 ((lg_sl [.ref oy, .int a1, .int a2] ++ List.replicate (3 - (lg_sl ([.ref oy, .int a1, .int a2] : List Value)).length) Slot.unset).toArray) [] := by rw [ha9]; exact lg_entry_eq m [.ref oy, .int a1, .int a2] 3
  rw [he9]
  generalize (lg_sl ([.ref oy, .int a1, .int a2] : List Value) ++ List.replicate (3 - (lg_sl ([.ref oy, .int a1, .int a2] : List Value)).length) Slot.unset).toArray = ls at hl ⊢
  have hl : lv_has ls 3 [(0, .ref oy), (1, .int a1), (2, .int a2)] := hl
  refine lv_bipush (v := (8 : Int32)) hx hb dZY_tileRows_0 (by decide) ?_
  refine lv_aload_n hx hb dZY_tileRows_2 rfl (lv_at hl 0 rfl) ?_
  refine lv_iload_n hx hb dZY_tileRows_3 rfl (lv_at hl 1 rfl) ?_
  refine vp_callSi (va_runV (As := [.int a1]) (rest := [.int (8 : Int32)]) ⟨hx, hb, hml, hown, hts⟩ (kt_ZY_rowsOf l dC dI cI oy op opa yk pw ph pn pf a1 _ hw) (cwV 1 hts (tb_V mm_365 mm_366 mm_367 mm_4 mm_368) rfl rfl rfl (by decide +kernel) ⟨Nat.le_of_ble_eq_true rfl, Nat.le_of_ble_eq_true rfl⟩) ⟨gr_blind, va_recv hK hP (ci := 2) (q0 := 0) rfl rfl, fun U hU hW => gr_pre hP hK hE hU hW⟩ rfl rfl hl.1 rfl (lv_room (Nat.le_of_ble_eq_true rfl)) dZY_tileRows_4 ⟨Nat.le_of_ble_eq_true rfl, Nat.le_of_ble_eq_true rfl⟩).run (fun r_1 hw => ?_)
  refine lv_bipush (v := (8 : Int32)) hx hb dZY_tileRows_7 (by decide) ?_
  refine lv_iload_n hx hb dZY_tileRows_9 rfl (lv_at hl 2 rfl) ?_
  refine lv_imul hx hb dZY_tileRows_10 ?_
  refine lv_isub hx hb dZY_tileRows_11 ?_
  refine va_mmin hx hb (hml.trans hl.1.symm) hown (hts _ mm_410) (hts _ mm_26) (hts _ mm_2) (hts _ mm_27) (Nat.le_of_ble_eq_true rfl) (Nat.le_of_ble_eq_true rfl) (Nat.le_of_ble_eq_true rfl) (Nat.le_of_ble_eq_true rfl) dZY_tileRows_12 ?_
  subst hQ9
  exact W.iret (v := if (r_1 - ((8 : Int32) * a2)) < (8 : Int32) then (r_1 - ((8 : Int32) * a2)) else (8 : Int32)) hx hb hr (fun t ht hW => ⟨if (r_1 - ((8 : Int32) * a2)) < (8 : Int32) then (r_1 - ((8 : Int32) * a2)) else (8 : Int32), rfl, hw, ht⟩) (fun q h => nomatch h) dZY_tileRows_15
theorem dZY_countUnder_0 : decode cZY_countUnder 0 = .ok (.iconst 1, 1) := by decide +kernel
theorem dZY_countUnder_1 : decode cZY_countUnder 1 = .ok (.iload_n 1, 1) := by decide +kernel
theorem dZY_countUnder_2 : decode cZY_countUnder 2 = .ok (.iload_n 2, 1) := by decide +kernel
theorem dZY_countUnder_3 : decode cZY_countUnder 3 = .ok (.aload_n 0, 1) := by decide +kernel
theorem dZY_countUnder_4 : decode cZY_countUnder 4 = .ok (.getfield 9, 3) := by decide +kernel
theorem dZY_countUnder_7 : decode cZY_countUnder 7 = .ok (.getfield 15, 3) := by decide +kernel
theorem dZY_countUnder_10 : decode cZY_countUnder 10 = .ok (.invokestatic 61, 3) := by decide +kernel
theorem dZY_countUnder_13 : decode cZY_countUnder 13 = .ok (.iload_n 1, 1) := by decide +kernel
theorem dZY_countUnder_14 : decode cZY_countUnder 14 = .ok (.iload_n 3, 1) := by decide +kernel
theorem dZY_countUnder_15 : decode cZY_countUnder 15 = .ok (.aload_n 0, 1) := by decide +kernel
theorem dZY_countUnder_16 : decode cZY_countUnder 16 = .ok (.getfield 9, 3) := by decide +kernel
theorem dZY_countUnder_19 : decode cZY_countUnder 19 = .ok (.getfield 21, 3) := by decide +kernel
theorem dZY_countUnder_22 : decode cZY_countUnder 22 = .ok (.invokestatic 61, 3) := by decide +kernel
theorem dZY_countUnder_25 : decode cZY_countUnder 25 = .ok (.imul, 1) := by decide +kernel
theorem dZY_countUnder_26 : decode cZY_countUnder 26 = .ok (.invokestatic 24, 3) := by decide +kernel
theorem dZY_countUnder_29 : decode cZY_countUnder 29 = .ok (.ireturn, 1) := by decide +kernel
abbrev wsZY_countUnder : List Cond := .code yZY_countUnder cZY_countUnder 4 (some .int) :: tbg
def wp_ZY_countUnder (yk : Int32) (pw : Int32) (ph : Int32) (pn : Nat) (pf : Nat → Int32) (a1 : Int32) (a2 : Int32) (a3 : Int32) (post : Int32 → Prop) : Prop := wp_ZY_reach a1 a2 pw (fun r_1 : Int32 => wp_ZY_reach a1 a3 ph (fun r_2 : Int32 => post (if (1 : Int32) < (r_1 * r_2) then (r_1 * r_2) else (1 : Int32))))
abbrev rm_ZY_countUnder : Room := { frames := 2, cells := 0, slots := 0, locals := 43 }
set_option maxHeartbeats 4000000 in
set_option maxRecDepth 100000 in
theorem kt_ZY_countUnder (l : Launch) (dC : Nat → ClassId) (dI : Nat → Nat → Nat) (cI : ClassId) (oy op opa : Nat) (yk : Int32) (pw : Int32) (ph : Int32) (pn : Nat) (pf : Nat → Int32) (a1 : Int32) (a2 : Int32) (a3 : Int32) (post : Int32 → Prop) (hw : wp_ZY_countUnder yk pw ph pn pf a1 a2 a3 post) : Met l yZY_countUnder wsZY_countUnder rm_ZY_countUnder (gr_Pc dC dI [(cI, .int)] [.ref oy, .int a1, .int a2, .int a3] [(oy, .inr (2, [.ref op, .int yk])), (op, .inr (1, [.int pw, .int ph, .ref opa])), (opa, .inl (cI, pn, .inl pf))]) (vp_Si post) 0 0 (fun _ => False) := by
  refine Met.ofW (cc := cZY_countUnder) (maxL := 4) (ret := (some .int)) (by decide) rfl ?_
  intro p e s m args below meth c s₁ B hml hv
  obtain ⟨ha9, hP, hK, hE⟩ := hv
  have hx := B.exec
  have hb := B.bytes
  have hr := B.returns
  have hts0 := atoms_spec (ws := wsZY_countUnder) B.pre
  have hts : ∀ w ∈ tbg, w.before args s = true := fun w h => hts0 w (List.mem_cons_of_mem _ h)
  have hown : s.vm.findClass RZY = some m.cls := findClass_of_methodNamed B.named
  have hlocks := B.notSynchronized
  refine gx_Q (fun Q9 hQ9 => ?_)
  have hl := lv_entry ([.ref oy, .int a1, .int a2, .int a3]) (n := 4) (Nat.le_of_ble_eq_true rfl)
  have he9 : entryFrame m args 4 = F0 m 0 ((lg_sl [.ref oy, .int a1, .int a2, .int a3] ++ List.replicate (4 - (lg_sl ([.ref oy, .int a1, .int a2, .int a3] : List Value)).length) Slot.unset).toArray) [] := by rw [ha9]; exact lg_entry_eq m [.ref oy, .int a1, .int a2, .int a3] 4
  rw [he9]
  generalize (lg_sl ([.ref oy, .int a1, .int a2, .int a3] : List Value) ++ List.replicate (4 - (lg_sl ([.ref oy, .int a1, .int a2, .int a3] : List Value)).length) Slot.unset).toArray = ls at hl ⊢
  have hl : lv_has ls 4 [(0, .ref oy), (1, .int a1), (2, .int a2), (3, .int a3)] := hl
  refine lv_iconst (v := (1 : Int32)) hx hb dZY_countUnder_0 (by decide) ?_
  refine lv_iload_n hx hb dZY_countUnder_1 rfl (lv_at hl 1 rfl) ?_
  refine lv_iload_n hx hb dZY_countUnder_2 rfl (lv_at hl 2 rfl) ?_
  refine lv_aload_n hx hb dZY_countUnder_3 rfl (lv_at hl 0 rfl) ?_
  refine va_get (D := (dC, dI)) (ci := 2) (v := .ref op) (C := RZY) (T := TZY) (N := 2) hx hb hts inZY hown hK hP 0 rfl rfl 0 (by decide) (hts _ mm_61) (fun _ h9 => h9) rfl dZY_countUnder_4 ?_
  refine va_get (D := (dC, dI)) (ci := 1) (v := .int pw) (C := RZP) (T := TZP) (N := 3) hx hb hts inZP hown hK hP 1 rfl rfl 0 (by decide) (hts _ mm_38) (fun _ h9 => h9) rfl dZY_countUnder_7 ?_
  have hPc := hP.sub (ws' := []) [] rfl
  refine vp_callSi (va_runS (As := [.int a1, .int a2, .int pw]) (rest := [.int (1 : Int32)]) ⟨hx, hb, hml, hown, hts⟩ (kt_ZY_reach l dC dI cI  a1 a2 pw _ hw) (va_cwS 3 hts (tb_S mm_407 mm_408 mm_4 mm_409) rfl rfl rfl (by decide +kernel) ⟨Nat.le_of_ble_eq_true rfl, Nat.le_of_ble_eq_true rfl⟩) ⟨gr_blind, fun U hU hW => gr_pre hPc hK hE hU hW⟩ rfl rfl hl.1 rfl (lv_room (Nat.le_of_ble_eq_true rfl)) dZY_countUnder_10 ⟨Nat.le_of_ble_eq_true rfl, Nat.le_of_ble_eq_true rfl⟩).run (fun r_1 hw => ?_)
  refine lv_iload_n hx hb dZY_countUnder_13 rfl (lv_at hl 1 rfl) ?_
  refine lv_iload_n hx hb dZY_countUnder_14 rfl (lv_at hl 3 rfl) ?_
  refine lv_aload_n hx hb dZY_countUnder_15 rfl (lv_at hl 0 rfl) ?_
  refine va_get (D := (dC, dI)) (ci := 2) (v := .ref op) (C := RZY) (T := TZY) (N := 2) hx hb hts inZY hown hK hP 0 rfl rfl 0 (by decide) (hts _ mm_61) (fun _ h9 => h9) rfl dZY_countUnder_16 ?_
  refine va_get (D := (dC, dI)) (ci := 1) (v := .int ph) (C := RZP) (T := TZP) (N := 3) hx hb hts inZP hown hK hP 1 rfl rfl 1 (by decide) (hts _ mm_42) (fun _ h9 => h9) rfl dZY_countUnder_19 ?_
  have hPc := hP.sub (ws' := []) [] rfl
  refine vp_callSi (va_runS (As := [.int a1, .int a3, .int ph]) (rest := [.int r_1, .int (1 : Int32)]) ⟨hx, hb, hml, hown, hts⟩ (kt_ZY_reach l dC dI cI  a1 a3 ph _ hw) (va_cwS 3 hts (tb_S mm_407 mm_408 mm_4 mm_409) rfl rfl rfl (by decide +kernel) ⟨Nat.le_of_ble_eq_true rfl, Nat.le_of_ble_eq_true rfl⟩) ⟨gr_blind, fun U hU hW => gr_pre hPc hK hE hU hW⟩ rfl rfl hl.1 rfl (lv_room (Nat.le_of_ble_eq_true rfl)) dZY_countUnder_22 ⟨Nat.le_of_ble_eq_true rfl, Nat.le_of_ble_eq_true rfl⟩).run (fun r_2 hw => ?_)
  refine lv_imul hx hb dZY_countUnder_25 ?_
  refine va_mmax hx hb (hml.trans hl.1.symm) hown (hts _ mm_60) (hts _ mm_29) (hts _ mm_2) (hts _ mm_30) (Nat.le_of_ble_eq_true rfl) (Nat.le_of_ble_eq_true rfl) (Nat.le_of_ble_eq_true rfl) (Nat.le_of_ble_eq_true rfl) dZY_countUnder_26 ?_
  subst hQ9
  exact W.iret (v := if (1 : Int32) < (r_1 * r_2) then (r_1 * r_2) else (1 : Int32)) hx hb hr (fun t ht hW => ⟨if (1 : Int32) < (r_1 * r_2) then (r_1 * r_2) else (1 : Int32), rfl, hw, ht⟩) (fun q h => nomatch h) dZY_countUnder_29
theorem dZY_totalUnder_0 : decode cZY_totalUnder 0 = .ok (.aload_n 0, 1) := by decide +kernel
theorem dZY_totalUnder_1 : decode cZY_totalUnder 1 = .ok (.getfield 9, 3) := by decide +kernel
theorem dZY_totalUnder_4 : decode cZY_totalUnder 4 = .ok (.iload_n 2, 1) := by decide +kernel
theorem dZY_totalUnder_5 : decode cZY_totalUnder 5 = .ok (.iload_n 1, 1) := by decide +kernel
theorem dZY_totalUnder_6 : decode cZY_totalUnder 6 = .ok (.ishl, 1) := by decide +kernel
theorem dZY_totalUnder_7 : decode cZY_totalUnder 7 = .ok (.iload_n 3, 1) := by decide +kernel
theorem dZY_totalUnder_8 : decode cZY_totalUnder 8 = .ok (.iload_n 1, 1) := by decide +kernel
theorem dZY_totalUnder_9 : decode cZY_totalUnder 9 = .ok (.ishl, 1) := by decide +kernel
theorem dZY_totalUnder_10 : decode cZY_totalUnder 10 = .ok (.iload_n 1, 1) := by decide +kernel
theorem dZY_totalUnder_11 : decode cZY_totalUnder 11 = .ok (.iload_n 2, 1) := by decide +kernel
theorem dZY_totalUnder_12 : decode cZY_totalUnder 12 = .ok (.aload_n 0, 1) := by decide +kernel
theorem dZY_totalUnder_13 : decode cZY_totalUnder 13 = .ok (.getfield 9, 3) := by decide +kernel
theorem dZY_totalUnder_16 : decode cZY_totalUnder 16 = .ok (.getfield 15, 3) := by decide +kernel
theorem dZY_totalUnder_19 : decode cZY_totalUnder 19 = .ok (.invokestatic 61, 3) := by decide +kernel
theorem dZY_totalUnder_22 : decode cZY_totalUnder 22 = .ok (.iload_n 1, 1) := by decide +kernel
theorem dZY_totalUnder_23 : decode cZY_totalUnder 23 = .ok (.iload_n 3, 1) := by decide +kernel
theorem dZY_totalUnder_24 : decode cZY_totalUnder 24 = .ok (.aload_n 0, 1) := by decide +kernel
theorem dZY_totalUnder_25 : decode cZY_totalUnder 25 = .ok (.getfield 9, 3) := by decide +kernel
theorem dZY_totalUnder_28 : decode cZY_totalUnder 28 = .ok (.getfield 21, 3) := by decide +kernel
theorem dZY_totalUnder_31 : decode cZY_totalUnder 31 = .ok (.invokestatic 61, 3) := by decide +kernel
theorem dZY_totalUnder_34 : decode cZY_totalUnder 34 = .ok (.invokevirtual 65, 3) := by decide +kernel
theorem dZY_totalUnder_37 : decode cZY_totalUnder 37 = .ok (.ireturn, 1) := by decide +kernel
abbrev wsZY_totalUnder : List Cond := .code yZY_totalUnder cZY_totalUnder 4 (some .int) :: tbg
def wp_ZY_totalUnder (yk : Int32) (pw : Int32) (ph : Int32) (pn : Nat) (pf : Nat → Int32) (a1 : Int32) (a2 : Int32) (a3 : Int32) (post : Int32 → Prop) : Prop := wp_ZY_reach a1 a2 pw (fun r_1 : Int32 => wp_ZY_reach a1 a3 ph (fun r_2 : Int32 => wp_ZP_sumOfPart pw ph pn pf (a2 <<< (a1 &&& 31)) (a3 <<< (a1 &&& 31)) r_1 r_2 (fun r_3 : Int32 => post r_3)))
abbrev rm_ZY_totalUnder : Room := { frames := 2, cells := 0, slots := 0, locals := 49 }
set_option maxHeartbeats 4000000 in
set_option maxRecDepth 100000 in
theorem kt_ZY_totalUnder (l : Launch) (dC : Nat → ClassId) (dI : Nat → Nat → Nat) (cI : ClassId) (oy op opa : Nat) (yk : Int32) (pw : Int32) (ph : Int32) (pn : Nat) (pf : Nat → Int32) (a1 : Int32) (a2 : Int32) (a3 : Int32) (post : Int32 → Prop) (hw : wp_ZY_totalUnder yk pw ph pn pf a1 a2 a3 post) : Met l yZY_totalUnder wsZY_totalUnder rm_ZY_totalUnder (gr_Pc dC dI [(cI, .int)] [.ref oy, .int a1, .int a2, .int a3] [(oy, .inr (2, [.ref op, .int yk])), (op, .inr (1, [.int pw, .int ph, .ref opa])), (opa, .inl (cI, pn, .inl pf))]) (vp_Si post) 0 0 (fun _ => False) := by
  refine Met.ofW (cc := cZY_totalUnder) (maxL := 4) (ret := (some .int)) (by decide) rfl ?_
  intro p e s m args below meth c s₁ B hml hv
  obtain ⟨ha9, hP, hK, hE⟩ := hv
  have hx := B.exec
  have hb := B.bytes
  have hr := B.returns
  have hts0 := atoms_spec (ws := wsZY_totalUnder) B.pre
  have hts : ∀ w ∈ tbg, w.before args s = true := fun w h => hts0 w (List.mem_cons_of_mem _ h)
  have hown : s.vm.findClass RZY = some m.cls := findClass_of_methodNamed B.named
  have hlocks := B.notSynchronized
  refine gx_Q (fun Q9 hQ9 => ?_)
  have hl := lv_entry ([.ref oy, .int a1, .int a2, .int a3]) (n := 4) (Nat.le_of_ble_eq_true rfl)
  have he9 : entryFrame m args 4 = F0 m 0 ((lg_sl [.ref oy, .int a1, .int a2, .int a3] ++ List.replicate (4 - (lg_sl ([.ref oy, .int a1, .int a2, .int a3] : List Value)).length) Slot.unset).toArray) [] := by rw [ha9]; exact lg_entry_eq m [.ref oy, .int a1, .int a2, .int a3] 4
  rw [he9]
  generalize (lg_sl ([.ref oy, .int a1, .int a2, .int a3] : List Value) ++ List.replicate (4 - (lg_sl ([.ref oy, .int a1, .int a2, .int a3] : List Value)).length) Slot.unset).toArray = ls at hl ⊢
  have hl : lv_has ls 4 [(0, .ref oy), (1, .int a1), (2, .int a2), (3, .int a3)] := hl
  refine lv_aload_n hx hb dZY_totalUnder_0 rfl (lv_at hl 0 rfl) ?_
  refine va_get (D := (dC, dI)) (ci := 2) (v := .ref op) (C := RZY) (T := TZY) (N := 2) hx hb hts inZY hown hK hP 0 rfl rfl 0 (by decide) (hts _ mm_61) (fun _ h9 => h9) rfl dZY_totalUnder_1 ?_
  refine lv_iload_n hx hb dZY_totalUnder_4 rfl (lv_at hl 2 rfl) ?_
  refine lv_iload_n hx hb dZY_totalUnder_5 rfl (lv_at hl 1 rfl) ?_
  refine lv_ishl hx hb dZY_totalUnder_6 ?_
  refine lv_iload_n hx hb dZY_totalUnder_7 rfl (lv_at hl 3 rfl) ?_
  refine lv_iload_n hx hb dZY_totalUnder_8 rfl (lv_at hl 1 rfl) ?_
  refine lv_ishl hx hb dZY_totalUnder_9 ?_
  refine lv_iload_n hx hb dZY_totalUnder_10 rfl (lv_at hl 1 rfl) ?_
  refine lv_iload_n hx hb dZY_totalUnder_11 rfl (lv_at hl 2 rfl) ?_
  refine lv_aload_n hx hb dZY_totalUnder_12 rfl (lv_at hl 0 rfl) ?_
  refine va_get (D := (dC, dI)) (ci := 2) (v := .ref op) (C := RZY) (T := TZY) (N := 2) hx hb hts inZY hown hK hP 0 rfl rfl 0 (by decide) (hts _ mm_61) (fun _ h9 => h9) rfl dZY_totalUnder_13 ?_
  refine va_get (D := (dC, dI)) (ci := 1) (v := .int pw) (C := RZP) (T := TZP) (N := 3) hx hb hts inZP hown hK hP 1 rfl rfl 0 (by decide) (hts _ mm_38) (fun _ h9 => h9) rfl dZY_totalUnder_16 ?_
  have hPc := hP.sub (ws' := []) [] rfl
  refine vp_callSi (va_runS (As := [.int a1, .int a2, .int pw]) (rest := [.int (a3 <<< (a1 &&& 31)), .int (a2 <<< (a1 &&& 31)), .ref op]) ⟨hx, hb, hml, hown, hts⟩ (kt_ZY_reach l dC dI cI  a1 a2 pw _ hw) (va_cwS 3 hts (tb_S mm_407 mm_408 mm_4 mm_409) rfl rfl rfl (by decide +kernel) ⟨Nat.le_of_ble_eq_true rfl, Nat.le_of_ble_eq_true rfl⟩) ⟨gr_blind, fun U hU hW => gr_pre hPc hK hE hU hW⟩ rfl rfl hl.1 rfl (lv_room (Nat.le_of_ble_eq_true rfl)) dZY_totalUnder_19 ⟨Nat.le_of_ble_eq_true rfl, Nat.le_of_ble_eq_true rfl⟩).run (fun r_1 hw => ?_)
  refine lv_iload_n hx hb dZY_totalUnder_22 rfl (lv_at hl 1 rfl) ?_
  refine lv_iload_n hx hb dZY_totalUnder_23 rfl (lv_at hl 3 rfl) ?_
  refine lv_aload_n hx hb dZY_totalUnder_24 rfl (lv_at hl 0 rfl) ?_
  refine va_get (D := (dC, dI)) (ci := 2) (v := .ref op) (C := RZY) (T := TZY) (N := 2) hx hb hts inZY hown hK hP 0 rfl rfl 0 (by decide) (hts _ mm_61) (fun _ h9 => h9) rfl dZY_totalUnder_25 ?_
  refine va_get (D := (dC, dI)) (ci := 1) (v := .int ph) (C := RZP) (T := TZP) (N := 3) hx hb hts inZP hown hK hP 1 rfl rfl 1 (by decide) (hts _ mm_42) (fun _ h9 => h9) rfl dZY_totalUnder_28 ?_
  have hPc := hP.sub (ws' := []) [] rfl
  refine vp_callSi (va_runS (As := [.int a1, .int a3, .int ph]) (rest := [.int r_1, .int (a3 <<< (a1 &&& 31)), .int (a2 <<< (a1 &&& 31)), .ref op]) ⟨hx, hb, hml, hown, hts⟩ (kt_ZY_reach l dC dI cI  a1 a3 ph _ hw) (va_cwS 3 hts (tb_S mm_407 mm_408 mm_4 mm_409) rfl rfl rfl (by decide +kernel) ⟨Nat.le_of_ble_eq_true rfl, Nat.le_of_ble_eq_true rfl⟩) ⟨gr_blind, fun U hU hW => gr_pre hPc hK hE hU hW⟩ rfl rfl hl.1 rfl (lv_room (Nat.le_of_ble_eq_true rfl)) dZY_totalUnder_31 ⟨Nat.le_of_ble_eq_true rfl, Nat.le_of_ble_eq_true rfl⟩).run (fun r_2 hw => ?_)
  have hPc := hP.sub (ws' := [(op, .inr (1, [.int pw, .int ph, .ref opa])), (opa, .inl (cI, pn, .inl pf))]) [1, 2] rfl
  refine vp_callSi (va_runV (As := [.int (a2 <<< (a1 &&& 31)), .int (a3 <<< (a1 &&& 31)), .int r_1, .int r_2]) (rest := []) ⟨hx, hb, hml, hown, hts⟩ (kt_ZP_sumOfPart l dC dI cI op opa pw ph pn pf (a2 <<< (a1 &&& 31)) (a3 <<< (a1 &&& 31)) r_1 r_2 _ hw) (cwV 4 hts (tb_V mm_415 mm_416 mm_417 mm_3 mm_418) rfl rfl rfl (by decide +kernel) ⟨Nat.le_of_ble_eq_true rfl, Nat.le_of_ble_eq_true rfl⟩) ⟨gr_blind, va_recv hK hPc (ci := 1) (q0 := 0) rfl rfl, fun U hU hW => gr_pre hPc hK hE hU hW⟩ rfl rfl hl.1 rfl (lv_room (Nat.le_of_ble_eq_true rfl)) dZY_totalUnder_34 ⟨Nat.le_of_ble_eq_true rfl, Nat.le_of_ble_eq_true rfl⟩).run (fun r_3 hw => ?_)
  subst hQ9
  exact W.iret (v := r_3) hx hb hr (fun t ht hW => ⟨r_3, rfl, hw, ht⟩) (fun q h => nomatch h) dZY_totalUnder_37
theorem dZY_roundedMean_0 : decode cZY_roundedMean 0 = .ok (.aload_n 0, 1) := by decide +kernel
theorem dZY_roundedMean_1 : decode cZY_roundedMean 1 = .ok (.iload_n 1, 1) := by decide +kernel
theorem dZY_roundedMean_2 : decode cZY_roundedMean 2 = .ok (.iload_n 2, 1) := by decide +kernel
theorem dZY_roundedMean_3 : decode cZY_roundedMean 3 = .ok (.iload_n 3, 1) := by decide +kernel
theorem dZY_roundedMean_4 : decode cZY_roundedMean 4 = .ok (.invokevirtual 69, 3) := by decide +kernel
theorem dZY_roundedMean_7 : decode cZY_roundedMean 7 = .ok (.istore 4, 2) := by decide +kernel
theorem dZY_roundedMean_9 : decode cZY_roundedMean 9 = .ok (.iconst 2, 1) := by decide +kernel
theorem dZY_roundedMean_10 : decode cZY_roundedMean 10 = .ok (.aload_n 0, 1) := by decide +kernel
theorem dZY_roundedMean_11 : decode cZY_roundedMean 11 = .ok (.iload_n 1, 1) := by decide +kernel
theorem dZY_roundedMean_12 : decode cZY_roundedMean 12 = .ok (.iload_n 2, 1) := by decide +kernel
theorem dZY_roundedMean_13 : decode cZY_roundedMean 13 = .ok (.iload_n 3, 1) := by decide +kernel
theorem dZY_roundedMean_14 : decode cZY_roundedMean 14 = .ok (.invokevirtual 72, 3) := by decide +kernel
theorem dZY_roundedMean_17 : decode cZY_roundedMean 17 = .ok (.imul, 1) := by decide +kernel
theorem dZY_roundedMean_18 : decode cZY_roundedMean 18 = .ok (.iload 4, 2) := by decide +kernel
theorem dZY_roundedMean_20 : decode cZY_roundedMean 20 = .ok (.iadd, 1) := by decide +kernel
theorem dZY_roundedMean_21 : decode cZY_roundedMean 21 = .ok (.iconst 2, 1) := by decide +kernel
theorem dZY_roundedMean_22 : decode cZY_roundedMean 22 = .ok (.iload 4, 2) := by decide +kernel
theorem dZY_roundedMean_24 : decode cZY_roundedMean 24 = .ok (.imul, 1) := by decide +kernel
theorem dZY_roundedMean_25 : decode cZY_roundedMean 25 = .ok (.idiv, 1) := by decide +kernel
theorem dZY_roundedMean_26 : decode cZY_roundedMean 26 = .ok (.ireturn, 1) := by decide +kernel
abbrev wsZY_roundedMean : List Cond := .code yZY_roundedMean cZY_roundedMean 5 (some .int) :: tbg
def wp_ZY_roundedMean (yk : Int32) (pw : Int32) (ph : Int32) (pn : Nat) (pf : Nat → Int32) (a1 : Int32) (a2 : Int32) (a3 : Int32) (post : Int32 → Prop) : Prop := wp_ZY_countUnder yk pw ph pn pf a1 a2 a3 (fun r_1 : Int32 => wp_ZY_totalUnder yk pw ph pn pf a1 a2 a3 (fun r_2 : Int32 => ¬ ((2 : Int32) * r_1) = 0 ∧ (post ((((2 : Int32) * r_2) + r_1) / ((2 : Int32) * r_1)))))
abbrev rm_ZY_roundedMean : Room := { frames := 3, cells := 0, slots := 0, locals := 72 }
set_option maxHeartbeats 4000000 in
set_option maxRecDepth 100000 in
theorem kt_ZY_roundedMean (l : Launch) (dC : Nat → ClassId) (dI : Nat → Nat → Nat) (cI : ClassId) (oy op opa : Nat) (yk : Int32) (pw : Int32) (ph : Int32) (pn : Nat) (pf : Nat → Int32) (a1 : Int32) (a2 : Int32) (a3 : Int32) (post : Int32 → Prop) (hw : wp_ZY_roundedMean yk pw ph pn pf a1 a2 a3 post) : Met l yZY_roundedMean wsZY_roundedMean rm_ZY_roundedMean (gr_Pc dC dI [(cI, .int)] [.ref oy, .int a1, .int a2, .int a3] [(oy, .inr (2, [.ref op, .int yk])), (op, .inr (1, [.int pw, .int ph, .ref opa])), (opa, .inl (cI, pn, .inl pf))]) (vp_Si post) 0 0 (fun _ => False) := by
  refine Met.ofW (cc := cZY_roundedMean) (maxL := 5) (ret := (some .int)) (by decide) rfl ?_
  intro p e s m args below meth c s₁ B hml hv
  obtain ⟨ha9, hP, hK, hE⟩ := hv
  have hx := B.exec
  have hb := B.bytes
  have hr := B.returns
  have hts0 := atoms_spec (ws := wsZY_roundedMean) B.pre
  have hts : ∀ w ∈ tbg, w.before args s = true := fun w h => hts0 w (List.mem_cons_of_mem _ h)
  have hown : s.vm.findClass RZY = some m.cls := findClass_of_methodNamed B.named
  have hlocks := B.notSynchronized
  refine gx_Q (fun Q9 hQ9 => ?_)
  have hl := lv_entry ([.ref oy, .int a1, .int a2, .int a3]) (n := 5) (Nat.le_of_ble_eq_true rfl)
  have he9 : entryFrame m args 5 = F0 m 0 ((lg_sl [.ref oy, .int a1, .int a2, .int a3] ++ List.replicate (5 - (lg_sl ([.ref oy, .int a1, .int a2, .int a3] : List Value)).length) Slot.unset).toArray) [] := by rw [ha9]; exact lg_entry_eq m [.ref oy, .int a1, .int a2, .int a3] 5
  rw [he9]
  generalize (lg_sl ([.ref oy, .int a1, .int a2, .int a3] : List Value) ++ List.replicate (5 - (lg_sl ([.ref oy, .int a1, .int a2, .int a3] : List Value)).length) Slot.unset).toArray = ls at hl ⊢
  have hl : lv_has ls 5 [(0, .ref oy), (1, .int a1), (2, .int a2), (3, .int a3)] := hl
  refine lv_aload_n hx hb dZY_roundedMean_0 rfl (lv_at hl 0 rfl) ?_
  refine lv_iload_n hx hb dZY_roundedMean_1 rfl (lv_at hl 1 rfl) ?_
  refine lv_iload_n hx hb dZY_roundedMean_2 rfl (lv_at hl 2 rfl) ?_
  refine lv_iload_n hx hb dZY_roundedMean_3 rfl (lv_at hl 3 rfl) ?_
  refine vp_callSi (va_runV (As := [.int a1, .int a2, .int a3]) (rest := []) ⟨hx, hb, hml, hown, hts⟩ (kt_ZY_countUnder l dC dI cI oy op opa yk pw ph pn pf a1 a2 a3 _ hw) (cwV 3 hts (tb_V mm_403 mm_404 mm_405 mm_4 mm_406) rfl rfl rfl (by decide +kernel) ⟨Nat.le_of_ble_eq_true rfl, Nat.le_of_ble_eq_true rfl⟩) ⟨gr_blind, va_recv hK hP (ci := 2) (q0 := 0) rfl rfl, fun U hU hW => gr_pre hP hK hE hU hW⟩ rfl rfl hl.1 rfl (lv_room (Nat.le_of_ble_eq_true rfl)) dZY_roundedMean_4 ⟨Nat.le_of_ble_eq_true rfl, Nat.le_of_ble_eq_true rfl⟩).run (fun r_1 hw => ?_)
  refine lv_istore (lv' := [(4, .int r_1), (0, .ref oy), (1, .int a1), (2, .int a2), (3, .int a3)]) hx hb dZY_roundedMean_7 hl (by decide) rfl (fun ls hl => ?_)
  refine lv_iconst (v := (2 : Int32)) hx hb dZY_roundedMean_9 (by decide) ?_
  refine lv_aload_n hx hb dZY_roundedMean_10 rfl (lv_at hl 1 rfl) ?_
  refine lv_iload_n hx hb dZY_roundedMean_11 rfl (lv_at hl 2 rfl) ?_
  refine lv_iload_n hx hb dZY_roundedMean_12 rfl (lv_at hl 3 rfl) ?_
  refine lv_iload_n hx hb dZY_roundedMean_13 rfl (lv_at hl 4 rfl) ?_
  refine vp_callSi (va_runV (As := [.int a1, .int a2, .int a3]) (rest := [.int (2 : Int32)]) ⟨hx, hb, hml, hown, hts⟩ (kt_ZY_totalUnder l dC dI cI oy op opa yk pw ph pn pf a1 a2 a3 _ hw) (cwV 3 hts (tb_V mm_411 mm_412 mm_413 mm_4 mm_414) rfl rfl rfl (by decide +kernel) ⟨Nat.le_of_ble_eq_true rfl, Nat.le_of_ble_eq_true rfl⟩) ⟨gr_blind, va_recv hK hP (ci := 2) (q0 := 0) rfl rfl, fun U hU hW => gr_pre hP hK hE hU hW⟩ rfl rfl hl.1 rfl (lv_room (Nat.le_of_ble_eq_true rfl)) dZY_roundedMean_14 ⟨Nat.le_of_ble_eq_true rfl, Nat.le_of_ble_eq_true rfl⟩).run (fun r_2 hw => ?_)
  refine lv_imul hx hb dZY_roundedMean_17 ?_
  refine lv_iload hx hb dZY_roundedMean_18 (lv_at hl 0 rfl) ?_
  refine lv_iadd hx hb dZY_roundedMean_20 ?_
  refine lv_iconst (v := (2 : Int32)) hx hb dZY_roundedMean_21 (by decide) ?_
  refine lv_iload hx hb dZY_roundedMean_22 (lv_at hl 0 rfl) ?_
  refine lv_imul hx hb dZY_roundedMean_24 ?_
  obtain ⟨h_3, hw⟩ := hw
  refine lv_idiv hx hb dZY_roundedMean_25 h_3 ?_
  subst hQ9
  exact W.iret (v := (((2 : Int32) * r_2) + r_1) / ((2 : Int32) * r_1)) hx hb hr (fun t ht hW => ⟨(((2 : Int32) * r_2) + r_1) / ((2 : Int32) * r_1), rfl, hw, ht⟩) (fun q h => nomatch h) dZY_roundedMean_26
theorem dZY_tilesOver_0 : decode cZY_tilesOver 0 = .ok (.iconst 0, 1) := by decide +kernel
theorem dZY_tilesOver_1 : decode cZY_tilesOver 1 = .ok (.istore 5, 2) := by decide +kernel
theorem dZY_tilesOver_3 : decode cZY_tilesOver 3 = .ok (.iconst 0, 1) := by decide +kernel
theorem dZY_tilesOver_4 : decode cZY_tilesOver 4 = .ok (.istore 6, 2) := by decide +kernel
theorem dZY_tilesOver_6 : decode cZY_tilesOver 6 = .ok (.iload 6, 2) := by decide +kernel
theorem dZY_tilesOver_8 : decode cZY_tilesOver 8 = .ok (.aload_n 0, 1) := by decide +kernel
theorem dZY_tilesOver_9 : decode cZY_tilesOver 9 = .ok (.getfield 30, 3) := by decide +kernel
theorem dZY_tilesOver_12 : decode cZY_tilesOver 12 = .ok (.if_icmp .ge 30, 3) := by decide +kernel
theorem dZY_tilesOver_15 : decode cZY_tilesOver 15 = .ok (.iload 5, 2) := by decide +kernel
theorem dZY_tilesOver_17 : decode cZY_tilesOver 17 = .ok (.iload 6, 2) := by decide +kernel
theorem dZY_tilesOver_19 : decode cZY_tilesOver 19 = .ok (.iload_n 1, 1) := by decide +kernel
theorem dZY_tilesOver_20 : decode cZY_tilesOver 20 = .ok (.iload_n 3, 1) := by decide +kernel
theorem dZY_tilesOver_21 : decode cZY_tilesOver 21 = .ok (.invokestatic 75, 3) := by decide +kernel
theorem dZY_tilesOver_24 : decode cZY_tilesOver 24 = .ok (.iload 6, 2) := by decide +kernel
theorem dZY_tilesOver_26 : decode cZY_tilesOver 26 = .ok (.iload_n 2, 1) := by decide +kernel
theorem dZY_tilesOver_27 : decode cZY_tilesOver 27 = .ok (.iload 4, 2) := by decide +kernel
theorem dZY_tilesOver_29 : decode cZY_tilesOver 29 = .ok (.invokestatic 75, 3) := by decide +kernel
theorem dZY_tilesOver_32 : decode cZY_tilesOver 32 = .ok (.imul, 1) := by decide +kernel
theorem dZY_tilesOver_33 : decode cZY_tilesOver 33 = .ok (.iadd, 1) := by decide +kernel
theorem dZY_tilesOver_34 : decode cZY_tilesOver 34 = .ok (.istore 5, 2) := by decide +kernel
theorem dZY_tilesOver_36 : decode cZY_tilesOver 36 = .ok (.iinc 6 1, 3) := by decide +kernel
theorem dZY_tilesOver_39 : decode cZY_tilesOver 39 = .ok (.goto (-33), 3) := by decide +kernel
theorem dZY_tilesOver_42 : decode cZY_tilesOver 42 = .ok (.iload 5, 2) := by decide +kernel
theorem dZY_tilesOver_44 : decode cZY_tilesOver 44 = .ok (.ireturn, 1) := by decide +kernel
abbrev wsZY_tilesOver : List Cond := .code yZY_tilesOver cZY_tilesOver 7 (some .int) :: tbg
def lp_ZY_tilesOver_6 (yk : Int32) (pw : Int32) (ph : Int32) (pn : Nat) (pf : Nat → Int32) (a1 : Int32) (a2 : Int32) (a3 : Int32) (a4 : Int32) (post : Int32 → Prop) (K6 : Int32 → Int32 → Prop) (n : Nat) : Int32 → Int32 → Prop := Nat.rec (motive := fun _ => Int32 → Int32 → Prop) (fun (x5_6 : Int32) (x6_6 : Int32) => False) (fun _ ih6 (x5_6 : Int32) (x6_6 : Int32) => ((yk ≤ x6_6 → (K6 x5_6 x6_6)) ∧ (¬ yk ≤ x6_6 → (wp_ZY_tilesOverSide x6_6 a1 a3 (fun r_2 : Int32 => wp_ZY_tilesOverSide x6_6 a2 a4 (fun r_3 : Int32 => ih6 (x5_6 + (r_2 * r_3)) (x6_6 + (1 : Int32)))))))) n
def wp_ZY_tilesOver (yk : Int32) (pw : Int32) (ph : Int32) (pn : Nat) (pf : Nat → Int32) (a1 : Int32) (a2 : Int32) (a3 : Int32) (a4 : Int32) (post : Int32 → Prop) : Prop := ∃ n : Nat, lp_ZY_tilesOver_6 yk pw ph pn pf a1 a2 a3 a4 post (fun (x5_6e : Int32) (x6_6e : Int32) => post x5_6e) n (0 : Int32) (0 : Int32)
abbrev rm_ZY_tilesOver : Room := { frames := 1, cells := 0, slots := 0, locals := 24 }
set_option maxHeartbeats 4000000 in
set_option maxRecDepth 100000 in
theorem kt_ZY_tilesOver (l : Launch) (dC : Nat → ClassId) (dI : Nat → Nat → Nat) (cI : ClassId) (oy op opa : Nat) (yk : Int32) (pw : Int32) (ph : Int32) (pn : Nat) (pf : Nat → Int32) (a1 : Int32) (a2 : Int32) (a3 : Int32) (a4 : Int32) (post : Int32 → Prop) (hw : wp_ZY_tilesOver yk pw ph pn pf a1 a2 a3 a4 post) : Met l yZY_tilesOver wsZY_tilesOver rm_ZY_tilesOver (gr_Pc dC dI [(cI, .int)] [.ref oy, .int a1, .int a2, .int a3, .int a4] [(oy, .inr (2, [.ref op, .int yk])), (op, .inr (1, [.int pw, .int ph, .ref opa])), (opa, .inl (cI, pn, .inl pf))]) (vp_Si post) 0 0 (fun _ => False) := by
  refine Met.ofW (cc := cZY_tilesOver) (maxL := 7) (ret := (some .int)) (by decide) rfl ?_
  intro p e s m args below meth c s₁ B hml hv
  obtain ⟨ha9, hP, hK, hE⟩ := hv
  have hx := B.exec
  have hb := B.bytes
  have hr := B.returns
  have hts0 := atoms_spec (ws := wsZY_tilesOver) B.pre
  have hts : ∀ w ∈ tbg, w.before args s = true := fun w h => hts0 w (List.mem_cons_of_mem _ h)
  have hown : s.vm.findClass RZY = some m.cls := findClass_of_methodNamed B.named
  have hlocks := B.notSynchronized
  refine gx_Q (fun Q9 hQ9 => ?_)
  have hl := lv_entry ([.ref oy, .int a1, .int a2, .int a3, .int a4]) (n := 7) (Nat.le_of_ble_eq_true rfl)
  have he9 : entryFrame m args 7 = F0 m 0 ((lg_sl [.ref oy, .int a1, .int a2, .int a3, .int a4] ++ List.replicate (7 - (lg_sl ([.ref oy, .int a1, .int a2, .int a3, .int a4] : List Value)).length) Slot.unset).toArray) [] := by rw [ha9]; exact lg_entry_eq m [.ref oy, .int a1, .int a2, .int a3, .int a4] 7
  rw [he9]
  generalize (lg_sl ([.ref oy, .int a1, .int a2, .int a3, .int a4] : List Value) ++ List.replicate (7 - (lg_sl ([.ref oy, .int a1, .int a2, .int a3, .int a4] : List Value)).length) Slot.unset).toArray = ls at hl ⊢
  have hl : lv_has ls 7 [(0, .ref oy), (1, .int a1), (2, .int a2), (3, .int a3), (4, .int a4)] := hl
  refine lv_iconst (v := (0 : Int32)) hx hb dZY_tilesOver_0 (by decide) ?_
  refine lv_istore (lv' := [(5, .int (0 : Int32)), (0, .ref oy), (1, .int a1), (2, .int a2), (3, .int a3), (4, .int a4)]) hx hb dZY_tilesOver_1 hl (by decide) rfl (fun ls hl => ?_)
  refine lv_iconst (v := (0 : Int32)) hx hb dZY_tilesOver_3 (by decide) ?_
  refine lv_istore (lv' := [(6, .int (0 : Int32)), (5, .int (0 : Int32)), (0, .ref oy), (1, .int a1), (2, .int a2), (3, .int a3), (4, .int a4)]) hx hb dZY_tilesOver_4 hl (by decide) rfl (fun ls hl => ?_)
  have lp6 : ∀ K6 : Int32 → Int32 → Prop, (∀ (x5_6 : Int32) (x6_6 : Int32), K6 x5_6 x6_6 → ∀ ls : Array Slot, lv_has ls 7 [(6, .int x6_6), (5, .int x5_6), (0, .ref oy), (1, .int a1), (2, .int a2), (3, .int a3), (4, .int a4)] → W p l e (headSpec wsZY_tilesOver rm_ZY_tilesOver).room s m args below meth c s.heap [] 0 0 Q9 (F0 m 42 ls [])) → ∀ (n : Nat) (x5_6 : Int32) (x6_6 : Int32), lp_ZY_tilesOver_6 yk pw ph pn pf a1 a2 a3 a4 post K6 n x5_6 x6_6 → ∀ ls : Array Slot, lv_has ls 7 [(6, .int x6_6), (5, .int x5_6), (0, .ref oy), (1, .int a1), (2, .int a2), (3, .int a3), (4, .int a4)] → W p l e (headSpec wsZY_tilesOver rm_ZY_tilesOver).room s m args below meth c s.heap [] 0 0 Q9 (F0 m 6 ls []) := by
    intro K6 aft6 n
    induction n with
    | zero => intro x5_6 x6_6 hw; exact False.elim hw
    | succ n ih6 =>
      intro x5_6 x6_6 hw ls hl
      refine lv_iload hx hb dZY_tilesOver_6 (lv_at hl 0 rfl) ?_
      refine lv_aload_n hx hb dZY_tilesOver_8 rfl (lv_at hl 2 rfl) ?_
      refine va_get (D := (dC, dI)) (ci := 2) (v := .int yk) (C := RZY) (T := TZY) (N := 2) hx hb hts inZY hown hK hP 0 rfl rfl 1 (by decide) (hts _ mm_62) (fun _ h9 => h9) rfl dZY_tilesOver_9 ?_
      refine lv_icmp_ge (tgt := 42) hx hb dZY_tilesOver_12 (by decide) (fun c_1 => ?_) (fun c_1 => ?_)
      · have hw := hw.1 c_1
        exact aft6 x5_6 x6_6 hw ls (lv_sub hl [0, 1, 2, 3, 4, 5, 6] rfl)
      · have hw := hw.2 c_1
        refine lv_iload hx hb dZY_tilesOver_15 (lv_at hl 1 rfl) ?_
        refine lv_iload hx hb dZY_tilesOver_17 (lv_at hl 0 rfl) ?_
        refine lv_iload_n hx hb dZY_tilesOver_19 rfl (lv_at hl 3 rfl) ?_
        refine lv_iload_n hx hb dZY_tilesOver_20 rfl (lv_at hl 5 rfl) ?_
        have hPc := hP.sub (ws' := []) [] rfl
        refine vp_callSi (va_runS (As := [.int x6_6, .int a1, .int a3]) (rest := [.int x5_6]) ⟨hx, hb, hml, hown, hts⟩ (kt_ZY_tilesOverSide l dC dI cI  x6_6 a1 a3 _ hw) (va_cwS 3 hts (tb_S mm_378 mm_379 mm_4 mm_380) rfl rfl rfl (by decide +kernel) ⟨Nat.le_of_ble_eq_true rfl, Nat.le_of_ble_eq_true rfl⟩) ⟨gr_blind, fun U hU hW => gr_pre hPc hK hE hU hW⟩ rfl rfl hl.1 rfl (lv_room (Nat.le_of_ble_eq_true rfl)) dZY_tilesOver_21 ⟨Nat.le_of_ble_eq_true rfl, Nat.le_of_ble_eq_true rfl⟩).run (fun r_2 hw => ?_)
        refine lv_iload hx hb dZY_tilesOver_24 (lv_at hl 0 rfl) ?_
        refine lv_iload_n hx hb dZY_tilesOver_26 rfl (lv_at hl 4 rfl) ?_
        refine lv_iload hx hb dZY_tilesOver_27 (lv_at hl 6 rfl) ?_
        have hPc := hP.sub (ws' := []) [] rfl
        refine vp_callSi (va_runS (As := [.int x6_6, .int a2, .int a4]) (rest := [.int r_2, .int x5_6]) ⟨hx, hb, hml, hown, hts⟩ (kt_ZY_tilesOverSide l dC dI cI  x6_6 a2 a4 _ hw) (va_cwS 3 hts (tb_S mm_378 mm_379 mm_4 mm_380) rfl rfl rfl (by decide +kernel) ⟨Nat.le_of_ble_eq_true rfl, Nat.le_of_ble_eq_true rfl⟩) ⟨gr_blind, fun U hU hW => gr_pre hPc hK hE hU hW⟩ rfl rfl hl.1 rfl (lv_room (Nat.le_of_ble_eq_true rfl)) dZY_tilesOver_29 ⟨Nat.le_of_ble_eq_true rfl, Nat.le_of_ble_eq_true rfl⟩).run (fun r_3 hw => ?_)
        refine lv_imul hx hb dZY_tilesOver_32 ?_
        refine lv_iadd hx hb dZY_tilesOver_33 ?_
        refine lv_istore (lv' := [(5, .int (x5_6 + (r_2 * r_3))), (6, .int x6_6), (0, .ref oy), (1, .int a1), (2, .int a2), (3, .int a3), (4, .int a4)]) hx hb dZY_tilesOver_34 hl (by decide) rfl (fun ls hl => ?_)
        refine lv_iinc (v := x6_6 + (1 : Int32)) (lv' := [(6, .int (x6_6 + (1 : Int32))), (5, .int (x5_6 + (r_2 * r_3))), (0, .ref oy), (1, .int a1), (2, .int a2), (3, .int a3), (4, .int a4)]) hx hb dZY_tilesOver_36 hl (k := 1) rfl rfl (by decide) rfl (fun ls hl => ?_)
        refine lv_goto (tgt := 6) hx hb dZY_tilesOver_39 (by decide) ?_
        exact ih6 (x5_6 + (r_2 * r_3)) (x6_6 + (1 : Int32)) hw ls (lv_sub hl [0, 1, 2, 3, 4, 5, 6] rfl)
  obtain ⟨n6, hw⟩ := hw
  refine lp6 _ (fun x5_6e x6_6e hw ls hl => ?_) n6 (0 : Int32) (0 : Int32) hw ls (lv_sub hl [0, 1, 2, 3, 4, 5, 6] rfl)
  refine lv_iload hx hb dZY_tilesOver_42 (lv_at hl 1 rfl) ?_
  subst hQ9
  exact W.iret (v := x5_6e) hx hb hr (fun t ht hW => ⟨x5_6e, rfl, hw, ht⟩) (fun q h => nomatch h) dZY_tilesOver_44
