theorem dZK_numberAt_0 : decode cZK_numberAt 0 = .ok (.aload_n 0, 1) := by decide +kernel
theorem dZK_numberAt_1 : decode cZK_numberAt 1 = .ok (.iload_n 1, 1) := by decide +kernel
theorem dZK_numberAt_2 : decode cZK_numberAt 2 = .ok (.iload_n 2, 1) := by decide +kernel
theorem dZK_numberAt_3 : decode cZK_numberAt 3 = .ok (.invokevirtual 54, 3) := by decide +kernel
theorem dZK_numberAt_6 : decode cZK_numberAt 6 = .ok (.aload_n 0, 1) := by decide +kernel
theorem dZK_numberAt_7 : decode cZK_numberAt 7 = .ok (.iload_n 1, 1) := by decide +kernel
theorem dZK_numberAt_8 : decode cZK_numberAt 8 = .ok (.iload_n 2, 1) := by decide +kernel
theorem dZK_numberAt_9 : decode cZK_numberAt 9 = .ok (.invokevirtual 57, 3) := by decide +kernel
theorem dZK_numberAt_12 : decode cZK_numberAt 12 = .ok (.isub, 1) := by decide +kernel
theorem dZK_numberAt_13 : decode cZK_numberAt 13 = .ok (.istore_n 3, 1) := by decide +kernel
theorem dZK_numberAt_14 : decode cZK_numberAt 14 = .ok (.iload_n 3, 1) := by decide +kernel
theorem dZK_numberAt_15 : decode cZK_numberAt 15 = .ok (.ifCond .lt 9, 3) := by decide +kernel
theorem dZK_numberAt_18 : decode cZK_numberAt 18 = .ok (.iconst 2, 1) := by decide +kernel
theorem dZK_numberAt_19 : decode cZK_numberAt 19 = .ok (.iload_n 3, 1) := by decide +kernel
theorem dZK_numberAt_20 : decode cZK_numberAt 20 = .ok (.imul, 1) := by decide +kernel
theorem dZK_numberAt_21 : decode cZK_numberAt 21 = .ok (.goto 9, 3) := by decide +kernel
theorem dZK_numberAt_24 : decode cZK_numberAt 24 = .ok (.bipush (-2), 2) := by decide +kernel
theorem dZK_numberAt_26 : decode cZK_numberAt 26 = .ok (.iload_n 3, 1) := by decide +kernel
theorem dZK_numberAt_27 : decode cZK_numberAt 27 = .ok (.imul, 1) := by decide +kernel
theorem dZK_numberAt_28 : decode cZK_numberAt 28 = .ok (.iconst 1, 1) := by decide +kernel
theorem dZK_numberAt_29 : decode cZK_numberAt 29 = .ok (.isub, 1) := by decide +kernel
theorem dZK_numberAt_30 : decode cZK_numberAt 30 = .ok (.ireturn, 1) := by decide +kernel
abbrev wsZK_numberAt : List Cond := .code yZK_numberAt cZK_numberAt 4 (some .int) :: tbg
def wp_ZK_numberAt (tw : Int32) (th : Int32) (tf : Nat → Int32) (a1 : Int32) (a2 : Int32) (post : Int32 → Prop) : Prop := wp_ZT_sampleAt tw th tf a1 a2 (fun r_1 : Int32 => wp_ZT_formerSample tw th tf a1 a2 (fun r_2 : Int32 => (((r_1 - r_2) < (0 : Int32) → (post (((-2 : Int32) * (r_1 - r_2)) - (1 : Int32)))) ∧ (¬ (r_1 - r_2) < (0 : Int32) → (post ((2 : Int32) * (r_1 - r_2)))))))
abbrev rm_ZK_numberAt : Room := { frames := 2, cells := 0, slots := 0, locals := 44 }
set_option maxHeartbeats 4000000 in
set_option maxRecDepth 100000 in
theorem kt_ZK_numberAt (l : Launch) (dC : Nat → ClassId) (dI : Nat → Nat → Nat) (cI : ClassId) (ot ota : Nat) (tw : Int32) (th : Int32) (tf : Nat → Int32) (a1 : Int32) (a2 : Int32) (post : Int32 → Prop) (hw : wp_ZK_numberAt tw th tf a1 a2 post) : Met l yZK_numberAt wsZK_numberAt rm_ZK_numberAt (gr_Pc dC dI [(cI, .int)] [.ref ot, .int a1, .int a2] [(ot, .inr (4, [.ref ota, .int tw, .int th])), (ota, .inl (cI, 64, .inl tf))]) (vp_Si post) 0 0 (fun _ => False) := by
  refine Met.ofW (cc := cZK_numberAt) (maxL := 4) (ret := (some .int)) (by decide) rfl ?_
  intro p e s m args below meth c s₁ B hml hv
  obtain ⟨ha9, hP, hK, hE⟩ := hv
  have hx := B.exec
  have hb := B.bytes
  have hr := B.returns
  have hts0 := atoms_spec (ws := wsZK_numberAt) B.pre
  have hts : ∀ w ∈ tbg, w.before args s = true := fun w h => hts0 w (List.mem_cons_of_mem _ h)
  have hown : s.vm.findClass RZK = some m.cls := findClass_of_methodNamed B.named
  have hlocks := B.notSynchronized
  refine gx_Q (fun Q9 hQ9 => ?_)
  have hl := lv_entry ([.ref ot, .int a1, .int a2]) (n := 4) (Nat.le_of_ble_eq_true rfl)
  have he9 : entryFrame m args 4 = F0 m 0 ((lg_sl [.ref ot, .int a1, .int a2] ++ List.replicate (4 - (lg_sl ([.ref ot, .int a1, .int a2] : List Value)).length) Slot.unset).toArray) [] := by rw [ha9]; exact lg_entry_eq m [.ref ot, .int a1, .int a2] 4
  rw [he9]
  generalize (lg_sl ([.ref ot, .int a1, .int a2] : List Value) ++ List.replicate (4 - (lg_sl ([.ref ot, .int a1, .int a2] : List Value)).length) Slot.unset).toArray = ls at hl ⊢
  have hl : lv_has ls 4 [(0, .ref ot), (1, .int a1), (2, .int a2)] := hl
  refine lv_aload_n hx hb dZK_numberAt_0 rfl (lv_at hl 0 rfl) ?_
  refine lv_iload_n hx hb dZK_numberAt_1 rfl (lv_at hl 1 rfl) ?_
  refine lv_iload_n hx hb dZK_numberAt_2 rfl (lv_at hl 2 rfl) ?_
  refine vp_callSi (va_runV (As := [.int a1, .int a2]) (rest := []) ⟨hx, hb, hml, hown, hts⟩ (kt_ZT_sampleAt l dC dI cI ot ota tw th tf a1 a2 _ hw) (cwV 2 hts (tb_V mm_498 mm_200 mm_201 mm_7 mm_202) rfl rfl rfl (by decide +kernel) ⟨Nat.le_of_ble_eq_true rfl, Nat.le_of_ble_eq_true rfl⟩) ⟨gr_blind, va_recv hK hP (ci := 4) (q0 := 0) rfl rfl, fun U hU hW => gr_pre hP hK hE hU hW⟩ rfl rfl hl.1 rfl (lv_room (Nat.le_of_ble_eq_true rfl)) dZK_numberAt_3 ⟨Nat.le_of_ble_eq_true rfl, Nat.le_of_ble_eq_true rfl⟩).run (fun r_1 hw => ?_)
  refine lv_aload_n hx hb dZK_numberAt_6 rfl (lv_at hl 0 rfl) ?_
  refine lv_iload_n hx hb dZK_numberAt_7 rfl (lv_at hl 1 rfl) ?_
  refine lv_iload_n hx hb dZK_numberAt_8 rfl (lv_at hl 2 rfl) ?_
  refine vp_callSi (va_runV (As := [.int a1, .int a2]) (rest := [.int r_1]) ⟨hx, hb, hml, hown, hts⟩ (kt_ZT_formerSample l dC dI cI ot ota tw th tf a1 a2 _ hw) (cwV 2 hts (tb_V mm_499 mm_196 mm_197 mm_7 mm_198) rfl rfl rfl (by decide +kernel) ⟨Nat.le_of_ble_eq_true rfl, Nat.le_of_ble_eq_true rfl⟩) ⟨gr_blind, va_recv hK hP (ci := 4) (q0 := 0) rfl rfl, fun U hU hW => gr_pre hP hK hE hU hW⟩ rfl rfl hl.1 rfl (lv_room (Nat.le_of_ble_eq_true rfl)) dZK_numberAt_9 ⟨Nat.le_of_ble_eq_true rfl, Nat.le_of_ble_eq_true rfl⟩).run (fun r_2 hw => ?_)
  refine lv_isub hx hb dZK_numberAt_12 ?_
  refine lv_istore_n (lv' := [(3, .int (r_1 - r_2)), (0, .ref ot), (1, .int a1), (2, .int a2)]) hx hb dZK_numberAt_13 rfl hl (by decide) rfl (fun ls hl => ?_)
  refine lv_iload_n hx hb dZK_numberAt_14 rfl (lv_at hl 0 rfl) ?_
  refine lv_if_lt (tgt := 24) hx hb dZK_numberAt_15 (by decide) (fun c_3 => ?_) (fun c_3 => ?_)
  · have hw := hw.1 c_3
    refine lv_bipush (v := (-2 : Int32)) hx hb dZK_numberAt_24 (by decide) ?_
    refine lv_iload_n hx hb dZK_numberAt_26 rfl (lv_at hl 0 rfl) ?_
    refine lv_imul hx hb dZK_numberAt_27 ?_
    refine lv_iconst (v := (1 : Int32)) hx hb dZK_numberAt_28 (by decide) ?_
    refine lv_isub hx hb dZK_numberAt_29 ?_
    subst hQ9
    exact W.iret (v := ((-2 : Int32) * (r_1 - r_2)) - (1 : Int32)) hx hb hr (fun t ht hW => ⟨((-2 : Int32) * (r_1 - r_2)) - (1 : Int32), rfl, hw, ht⟩) (fun q h => nomatch h) dZK_numberAt_30
  · have hw := hw.2 c_3
    refine lv_iconst (v := (2 : Int32)) hx hb dZK_numberAt_18 (by decide) ?_
    refine lv_iload_n hx hb dZK_numberAt_19 rfl (lv_at hl 0 rfl) ?_
    refine lv_imul hx hb dZK_numberAt_20 ?_
    refine lv_goto (tgt := 30) hx hb dZK_numberAt_21 (by decide) ?_
    subst hQ9
    exact W.iret (v := (2 : Int32) * (r_1 - r_2)) hx hb hr (fun t ht hW => ⟨(2 : Int32) * (r_1 - r_2), rfl, hw, ht⟩) (fun q h => nomatch h) dZK_numberAt_30
theorem dZK_greatestNumber_0 : decode cZK_greatestNumber 0 = .ok (.iconst 0, 1) := by decide +kernel
theorem dZK_greatestNumber_1 : decode cZK_greatestNumber 1 = .ok (.istore_n 2, 1) := by decide +kernel
theorem dZK_greatestNumber_2 : decode cZK_greatestNumber 2 = .ok (.iconst 0, 1) := by decide +kernel
theorem dZK_greatestNumber_3 : decode cZK_greatestNumber 3 = .ok (.istore_n 3, 1) := by decide +kernel
theorem dZK_greatestNumber_4 : decode cZK_greatestNumber 4 = .ok (.iload_n 3, 1) := by decide +kernel
theorem dZK_greatestNumber_5 : decode cZK_greatestNumber 5 = .ok (.aload_n 0, 1) := by decide +kernel
theorem dZK_greatestNumber_6 : decode cZK_greatestNumber 6 = .ok (.getfield 15, 3) := by decide +kernel
theorem dZK_greatestNumber_9 : decode cZK_greatestNumber 9 = .ok (.if_icmp .ge 20, 3) := by decide +kernel
theorem dZK_greatestNumber_12 : decode cZK_greatestNumber 12 = .ok (.iload_n 2, 1) := by decide +kernel
theorem dZK_greatestNumber_13 : decode cZK_greatestNumber 13 = .ok (.aload_n 0, 1) := by decide +kernel
theorem dZK_greatestNumber_14 : decode cZK_greatestNumber 14 = .ok (.iload_n 3, 1) := by decide +kernel
theorem dZK_greatestNumber_15 : decode cZK_greatestNumber 15 = .ok (.iload_n 1, 1) := by decide +kernel
theorem dZK_greatestNumber_16 : decode cZK_greatestNumber 16 = .ok (.invokestatic 44, 3) := by decide +kernel
theorem dZK_greatestNumber_19 : decode cZK_greatestNumber 19 = .ok (.invokestatic 48, 3) := by decide +kernel
theorem dZK_greatestNumber_22 : decode cZK_greatestNumber 22 = .ok (.istore_n 2, 1) := by decide +kernel
theorem dZK_greatestNumber_23 : decode cZK_greatestNumber 23 = .ok (.iinc 3 1, 3) := by decide +kernel
theorem dZK_greatestNumber_26 : decode cZK_greatestNumber 26 = .ok (.goto (-22), 3) := by decide +kernel
theorem dZK_greatestNumber_29 : decode cZK_greatestNumber 29 = .ok (.iload_n 2, 1) := by decide +kernel
theorem dZK_greatestNumber_30 : decode cZK_greatestNumber 30 = .ok (.ireturn, 1) := by decide +kernel
abbrev wsZK_greatestNumber : List Cond := .code yZK_greatestNumber cZK_greatestNumber 4 (some .int) :: tbg
def lp_ZK_greatestNumber_4 (tw : Int32) (th : Int32) (tf : Nat → Int32) (a1 : Int32) (post : Int32 → Prop) (K4 : Int32 → Int32 → Prop) (n : Nat) : Int32 → Int32 → Prop := Nat.rec (motive := fun _ => Int32 → Int32 → Prop) (fun (x2_4 : Int32) (x3_4 : Int32) => False) (fun _ ih4 (x2_4 : Int32) (x3_4 : Int32) => ((tw ≤ x3_4 → (K4 x2_4 x3_4)) ∧ (¬ tw ≤ x3_4 → (wp_ZK_numberAt tw th tf x3_4 a1 (fun r_2 : Int32 => ih4 (if x2_4 < r_2 then r_2 else x2_4) (x3_4 + (1 : Int32))))))) n
def wp_ZK_greatestNumber (tw : Int32) (th : Int32) (tf : Nat → Int32) (a1 : Int32) (post : Int32 → Prop) : Prop := ∃ n : Nat, lp_ZK_greatestNumber_4 tw th tf a1 post (fun (x2_4e : Int32) (x3_4e : Int32) => post x2_4e) n (0 : Int32) (0 : Int32)
abbrev rm_ZK_greatestNumber : Room := { frames := 3, cells := 0, slots := 0, locals := 67 }
set_option maxHeartbeats 4000000 in
set_option maxRecDepth 100000 in
theorem kt_ZK_greatestNumber (l : Launch) (dC : Nat → ClassId) (dI : Nat → Nat → Nat) (cI : ClassId) (ot ota : Nat) (tw : Int32) (th : Int32) (tf : Nat → Int32) (a1 : Int32) (post : Int32 → Prop) (hw : wp_ZK_greatestNumber tw th tf a1 post) : Met l yZK_greatestNumber wsZK_greatestNumber rm_ZK_greatestNumber (gr_Pc dC dI [(cI, .int)] [.ref ot, .int a1] [(ot, .inr (4, [.ref ota, .int tw, .int th])), (ota, .inl (cI, 64, .inl tf))]) (vp_Si post) 0 0 (fun _ => False) := by
  refine Met.ofW (cc := cZK_greatestNumber) (maxL := 4) (ret := (some .int)) (by decide) rfl ?_
  intro p e s m args below meth c s₁ B hml hv
  obtain ⟨ha9, hP, hK, hE⟩ := hv
  have hx := B.exec
  have hb := B.bytes
  have hr := B.returns
  have hts0 := atoms_spec (ws := wsZK_greatestNumber) B.pre
  have hts : ∀ w ∈ tbg, w.before args s = true := fun w h => hts0 w (List.mem_cons_of_mem _ h)
  have hown : s.vm.findClass RZK = some m.cls := findClass_of_methodNamed B.named
  have hlocks := B.notSynchronized
  refine gx_Q (fun Q9 hQ9 => ?_)
  have hl := lv_entry ([.ref ot, .int a1]) (n := 4) (Nat.le_of_ble_eq_true rfl)
  have he9 : entryFrame m args 4 = F0 m 0 ((lg_sl [.ref ot, .int a1] ++ List.replicate (4 - (lg_sl ([.ref ot, .int a1] : List Value)).length) Slot.unset).toArray) [] := by rw [ha9]; exact lg_entry_eq m [.ref ot, .int a1] 4
  rw [he9]
  generalize (lg_sl ([.ref ot, .int a1] : List Value) ++ List.replicate (4 - (lg_sl ([.ref ot, .int a1] : List Value)).length) Slot.unset).toArray = ls at hl ⊢
  have hl : lv_has ls 4 [(0, .ref ot), (1, .int a1)] := hl
  refine lv_iconst (v := (0 : Int32)) hx hb dZK_greatestNumber_0 (by decide) ?_
  refine lv_istore_n (lv' := [(2, .int (0 : Int32)), (0, .ref ot), (1, .int a1)]) hx hb dZK_greatestNumber_1 rfl hl (by decide) rfl (fun ls hl => ?_)
  refine lv_iconst (v := (0 : Int32)) hx hb dZK_greatestNumber_2 (by decide) ?_
  refine lv_istore_n (lv' := [(3, .int (0 : Int32)), (2, .int (0 : Int32)), (0, .ref ot), (1, .int a1)]) hx hb dZK_greatestNumber_3 rfl hl (by decide) rfl (fun ls hl => ?_)
  have lp4 : ∀ K4 : Int32 → Int32 → Prop, (∀ (x2_4 : Int32) (x3_4 : Int32), K4 x2_4 x3_4 → ∀ ls : Array Slot, lv_has ls 4 [(3, .int x3_4), (2, .int x2_4), (0, .ref ot), (1, .int a1)] → W p l e (headSpec wsZK_greatestNumber rm_ZK_greatestNumber).room s m args below meth c s.heap [] 0 0 Q9 (F0 m 29 ls [])) → ∀ (n : Nat) (x2_4 : Int32) (x3_4 : Int32), lp_ZK_greatestNumber_4 tw th tf a1 post K4 n x2_4 x3_4 → ∀ ls : Array Slot, lv_has ls 4 [(3, .int x3_4), (2, .int x2_4), (0, .ref ot), (1, .int a1)] → W p l e (headSpec wsZK_greatestNumber rm_ZK_greatestNumber).room s m args below meth c s.heap [] 0 0 Q9 (F0 m 4 ls []) := by
    intro K4 aft4 n
    induction n with
    | zero => intro x2_4 x3_4 hw; exact False.elim hw
    | succ n ih4 =>
      intro x2_4 x3_4 hw ls hl
      refine lv_iload_n hx hb dZK_greatestNumber_4 rfl (lv_at hl 0 rfl) ?_
      refine lv_aload_n hx hb dZK_greatestNumber_5 rfl (lv_at hl 2 rfl) ?_
      refine va_get (D := (dC, dI)) (ci := 4) (v := .int tw) (C := RZT) (T := TZT) (N := 3) hx hb hts inZT hown hK hP 0 rfl rfl 1 (by decide) (hts _ mm_120) (fun _ h9 => h9) rfl dZK_greatestNumber_6 ?_
      refine lv_icmp_ge (tgt := 29) hx hb dZK_greatestNumber_9 (by decide) (fun c_1 => ?_) (fun c_1 => ?_)
      · have hw := hw.1 c_1
        exact aft4 x2_4 x3_4 hw ls (lv_sub hl [0, 1, 2, 3] rfl)
      · have hw := hw.2 c_1
        refine lv_iload_n hx hb dZK_greatestNumber_12 rfl (lv_at hl 1 rfl) ?_
        refine lv_aload_n hx hb dZK_greatestNumber_13 rfl (lv_at hl 2 rfl) ?_
        refine lv_iload_n hx hb dZK_greatestNumber_14 rfl (lv_at hl 0 rfl) ?_
        refine lv_iload_n hx hb dZK_greatestNumber_15 rfl (lv_at hl 3 rfl) ?_
        refine vp_callSi (va_runS (As := [.ref ot, .int x3_4, .int a1]) (rest := [.int x2_4]) ⟨hx, hb, hml, hown, hts⟩ (kt_ZK_numberAt l dC dI cI ot ota tw th tf x3_4 a1 _ hw) (va_cwS 3 hts (tb_S mm_495 mm_496 mm_14 mm_497) rfl rfl rfl (by decide +kernel) ⟨Nat.le_of_ble_eq_true rfl, Nat.le_of_ble_eq_true rfl⟩) ⟨gr_blind, fun U hU hW => gr_pre hP hK hE hU hW⟩ rfl rfl hl.1 rfl (lv_room (Nat.le_of_ble_eq_true rfl)) dZK_greatestNumber_16 ⟨Nat.le_of_ble_eq_true rfl, Nat.le_of_ble_eq_true rfl⟩).run (fun r_2 hw => ?_)
        refine va_mmax hx hb (hml.trans hl.1.symm) hown (hts _ mm_500) (hts _ mm_29) (hts _ mm_2) (hts _ mm_30) (Nat.le_of_ble_eq_true rfl) (Nat.le_of_ble_eq_true rfl) (Nat.le_of_ble_eq_true rfl) (Nat.le_of_ble_eq_true rfl) dZK_greatestNumber_19 ?_
        refine lv_istore_n (lv' := [(2, .int (if x2_4 < r_2 then r_2 else x2_4)), (3, .int x3_4), (0, .ref ot), (1, .int a1)]) hx hb dZK_greatestNumber_22 rfl hl (by decide) rfl (fun ls hl => ?_)
        refine lv_iinc (v := x3_4 + (1 : Int32)) (lv' := [(3, .int (x3_4 + (1 : Int32))), (2, .int (if x2_4 < r_2 then r_2 else x2_4)), (0, .ref ot), (1, .int a1)]) hx hb dZK_greatestNumber_23 hl (k := 1) rfl rfl (by decide) rfl (fun ls hl => ?_)
        refine lv_goto (tgt := 4) hx hb dZK_greatestNumber_26 (by decide) ?_
        exact ih4 (if x2_4 < r_2 then r_2 else x2_4) (x3_4 + (1 : Int32)) hw ls (lv_sub hl [0, 1, 2, 3] rfl)
  obtain ⟨n4, hw⟩ := hw
  refine lp4 _ (fun x2_4e x3_4e hw ls hl => ?_) n4 (0 : Int32) (0 : Int32) hw ls (lv_sub hl [0, 1, 2, 3] rfl)
  refine lv_iload_n hx hb dZK_greatestNumber_29 rfl (lv_at hl 1 rfl) ?_
  subst hQ9
  exact W.iret (v := x2_4e) hx hb hr (fun t ht hW => ⟨x2_4e, rfl, hw, ht⟩) (fun q h => nomatch h) dZK_greatestNumber_30
theorem dZK_packRow_0 : decode cZK_packRow 0 = .ok (.aload_n 0, 1) := by decide +kernel
theorem dZK_packRow_1 : decode cZK_packRow 1 = .ok (.iload_n 1, 1) := by decide +kernel
theorem dZK_packRow_2 : decode cZK_packRow 2 = .ok (.invokestatic 37, 3) := by decide +kernel
theorem dZK_packRow_5 : decode cZK_packRow 5 = .ok (.invokestatic 41, 3) := by decide +kernel
theorem dZK_packRow_8 : decode cZK_packRow 8 = .ok (.istore_n 3, 1) := by decide +kernel
theorem dZK_packRow_9 : decode cZK_packRow 9 = .ok (.aload_n 2, 1) := by decide +kernel
theorem dZK_packRow_10 : decode cZK_packRow 10 = .ok (.iload_n 3, 1) := by decide +kernel
theorem dZK_packRow_11 : decode cZK_packRow 11 = .ok (.invokevirtual 20, 3) := by decide +kernel
theorem dZK_packRow_14 : decode cZK_packRow 14 = .ok (.iconst 0, 1) := by decide +kernel
theorem dZK_packRow_15 : decode cZK_packRow 15 = .ok (.istore 4, 2) := by decide +kernel
theorem dZK_packRow_17 : decode cZK_packRow 17 = .ok (.iconst 0, 1) := by decide +kernel
theorem dZK_packRow_18 : decode cZK_packRow 18 = .ok (.istore 5, 2) := by decide +kernel
theorem dZK_packRow_20 : decode cZK_packRow 20 = .ok (.iconst 0, 1) := by decide +kernel
theorem dZK_packRow_21 : decode cZK_packRow 21 = .ok (.istore 6, 2) := by decide +kernel
theorem dZK_packRow_23 : decode cZK_packRow 23 = .ok (.iload 6, 2) := by decide +kernel
theorem dZK_packRow_25 : decode cZK_packRow 25 = .ok (.aload_n 0, 1) := by decide +kernel
theorem dZK_packRow_26 : decode cZK_packRow 26 = .ok (.getfield 15, 3) := by decide +kernel
theorem dZK_packRow_29 : decode cZK_packRow 29 = .ok (.if_icmp .ge 60, 3) := by decide +kernel
theorem dZK_packRow_32 : decode cZK_packRow 32 = .ok (.iload 4, 2) := by decide +kernel
theorem dZK_packRow_34 : decode cZK_packRow 34 = .ok (.aload_n 0, 1) := by decide +kernel
theorem dZK_packRow_35 : decode cZK_packRow 35 = .ok (.iload 6, 2) := by decide +kernel
theorem dZK_packRow_37 : decode cZK_packRow 37 = .ok (.iload_n 1, 1) := by decide +kernel
theorem dZK_packRow_38 : decode cZK_packRow 38 = .ok (.invokestatic 44, 3) := by decide +kernel
theorem dZK_packRow_41 : decode cZK_packRow 41 = .ok (.iload 5, 2) := by decide +kernel
theorem dZK_packRow_43 : decode cZK_packRow 43 = .ok (.ishl, 1) := by decide +kernel
theorem dZK_packRow_44 : decode cZK_packRow 44 = .ok (.ior, 1) := by decide +kernel
theorem dZK_packRow_45 : decode cZK_packRow 45 = .ok (.istore 4, 2) := by decide +kernel
theorem dZK_packRow_47 : decode cZK_packRow 47 = .ok (.iload 5, 2) := by decide +kernel
theorem dZK_packRow_49 : decode cZK_packRow 49 = .ok (.iload_n 3, 1) := by decide +kernel
theorem dZK_packRow_50 : decode cZK_packRow 50 = .ok (.iadd, 1) := by decide +kernel
theorem dZK_packRow_51 : decode cZK_packRow 51 = .ok (.istore 5, 2) := by decide +kernel
theorem dZK_packRow_53 : decode cZK_packRow 53 = .ok (.iload 5, 2) := by decide +kernel
theorem dZK_packRow_55 : decode cZK_packRow 55 = .ok (.bipush 8, 2) := by decide +kernel
theorem dZK_packRow_57 : decode cZK_packRow 57 = .ok (.if_icmp .lt 26, 3) := by decide +kernel
theorem dZK_packRow_60 : decode cZK_packRow 60 = .ok (.aload_n 2, 1) := by decide +kernel
theorem dZK_packRow_61 : decode cZK_packRow 61 = .ok (.iload 4, 2) := by decide +kernel
theorem dZK_packRow_63 : decode cZK_packRow 63 = .ok (.sipush 255, 3) := by decide +kernel
theorem dZK_packRow_66 : decode cZK_packRow 66 = .ok (.iand, 1) := by decide +kernel
theorem dZK_packRow_67 : decode cZK_packRow 67 = .ok (.invokevirtual 20, 3) := by decide +kernel
theorem dZK_packRow_70 : decode cZK_packRow 70 = .ok (.iload 4, 2) := by decide +kernel
theorem dZK_packRow_72 : decode cZK_packRow 72 = .ok (.bipush 8, 2) := by decide +kernel
theorem dZK_packRow_74 : decode cZK_packRow 74 = .ok (.ishr, 1) := by decide +kernel
theorem dZK_packRow_75 : decode cZK_packRow 75 = .ok (.istore 4, 2) := by decide +kernel
theorem dZK_packRow_77 : decode cZK_packRow 77 = .ok (.iinc 5 (-8), 3) := by decide +kernel
theorem dZK_packRow_80 : decode cZK_packRow 80 = .ok (.goto (-27), 3) := by decide +kernel
theorem dZK_packRow_83 : decode cZK_packRow 83 = .ok (.iinc 6 1, 3) := by decide +kernel
theorem dZK_packRow_86 : decode cZK_packRow 86 = .ok (.goto (-63), 3) := by decide +kernel
theorem dZK_packRow_89 : decode cZK_packRow 89 = .ok (.iload 5, 2) := by decide +kernel
theorem dZK_packRow_91 : decode cZK_packRow 91 = .ok (.ifCond .le 9, 3) := by decide +kernel
theorem dZK_packRow_94 : decode cZK_packRow 94 = .ok (.aload_n 2, 1) := by decide +kernel
theorem dZK_packRow_95 : decode cZK_packRow 95 = .ok (.iload 4, 2) := by decide +kernel
theorem dZK_packRow_97 : decode cZK_packRow 97 = .ok (.invokevirtual 20, 3) := by decide +kernel
theorem dZK_packRow_100 : decode cZK_packRow 100 = .ok (.return_, 1) := by decide +kernel
abbrev wsZK_packRow : List Cond := .code yZK_packRow cZK_packRow 7 none :: tbg
def lp_ZK_packRow_53 (tw : Int32) (th : Int32) (tf : Nat → Int32) (bl : Int32) (bf : Nat → Int32) (a1 : Int32) (r_1 : Int32) (r_2 : Int32) (bl_3 : Int32) (bf_4 : Nat → Int32) (x4_23 : Int32) (x5_23 : Int32) (x6_23 : Int32) (v1_23_ob : Int32) (f_23_oba : Nat → Int32) (r_6 : Int32) (post : Int32 → (Nat → Int32) → Prop) (K53 : Int32 → Int32 → Int32 → (Nat → Int32) → Prop) (n : Nat) : Int32 → Int32 → Int32 → (Nat → Int32) → Prop := Nat.rec (motive := fun _ => Int32 → Int32 → Int32 → (Nat → Int32) → Prop) (fun (x4_53 : Int32) (x5_53 : Int32) (v1_53_ob : Int32) (f_53_oba : Nat → Int32) => False) (fun _ ih53 (x4_53 : Int32) (x5_53 : Int32) (v1_53_ob : Int32) (f_53_oba : Nat → Int32) => ((x5_53 < (8 : Int32) → (K53 x4_53 x5_53 v1_53_ob f_53_oba)) ∧ (¬ x5_53 < (8 : Int32) → (wp_ZB_append v1_53_ob f_53_oba (x4_53 &&& (255 : Int32)) (fun (bl_8 : Int32) (bf_9 : Nat → Int32) => ih53 (x4_53 >>> ((8 : Int32) &&& 31)) (x5_53 + (-8 : Int32)) bl_8 bf_9))))) n
def lp_ZK_packRow_23 (tw : Int32) (th : Int32) (tf : Nat → Int32) (bl : Int32) (bf : Nat → Int32) (a1 : Int32) (r_1 : Int32) (r_2 : Int32) (bl_3 : Int32) (bf_4 : Nat → Int32) (post : Int32 → (Nat → Int32) → Prop) (K23 : Int32 → Int32 → Int32 → Int32 → (Nat → Int32) → Prop) (n : Nat) : Int32 → Int32 → Int32 → Int32 → (Nat → Int32) → Prop := Nat.rec (motive := fun _ => Int32 → Int32 → Int32 → Int32 → (Nat → Int32) → Prop) (fun (x4_23 : Int32) (x5_23 : Int32) (x6_23 : Int32) (v1_23_ob : Int32) (f_23_oba : Nat → Int32) => False) (fun _ ih23 (x4_23 : Int32) (x5_23 : Int32) (x6_23 : Int32) (v1_23_ob : Int32) (f_23_oba : Nat → Int32) => ((tw ≤ x6_23 → (K23 x4_23 x5_23 x6_23 v1_23_ob f_23_oba)) ∧ (¬ tw ≤ x6_23 → (wp_ZK_numberAt tw th tf x6_23 a1 (fun r_6 : Int32 => ∃ n : Nat, lp_ZK_packRow_53 tw th tf bl bf a1 r_1 r_2 bl_3 bf_4 x4_23 x5_23 x6_23 v1_23_ob f_23_oba r_6 post (fun (x4_53e : Int32) (x5_53e : Int32) (v1_53e_ob : Int32) (f_53e_oba : Nat → Int32) => ih23 x4_53e x5_53e (x6_23 + (1 : Int32)) v1_53e_ob f_53e_oba) n (x4_23 ||| (r_6 <<< (x5_23 &&& 31))) (x5_23 + r_2) v1_23_ob f_23_oba))))) n
def wp_ZK_packRow (tw : Int32) (th : Int32) (tf : Nat → Int32) (bl : Int32) (bf : Nat → Int32) (a1 : Int32) (post : Int32 → (Nat → Int32) → Prop) : Prop := wp_ZK_greatestNumber tw th tf a1 (fun r_1 : Int32 => wp_ZQ_bitsNeeded r_1 (fun r_2 : Int32 => wp_ZB_append bl bf r_2 (fun (bl_3 : Int32) (bf_4 : Nat → Int32) => ∃ n : Nat, lp_ZK_packRow_23 tw th tf bl bf a1 r_1 r_2 bl_3 bf_4 post (fun (x4_23e : Int32) (x5_23e : Int32) (x6_23e : Int32) (v1_23e_ob : Int32) (f_23e_oba : Nat → Int32) => ((x5_23e ≤ (0 : Int32) → (post v1_23e_ob f_23e_oba)) ∧ (¬ x5_23e ≤ (0 : Int32) → (wp_ZB_append v1_23e_ob f_23e_oba x4_23e (fun (bl_11 : Int32) (bf_12 : Nat → Int32) => post bl_11 bf_12))))) n (0 : Int32) (0 : Int32) (0 : Int32) bl_3 bf_4)))
abbrev rm_ZK_packRow : Room := { frames := 4, cells := 0, slots := 0, locals := 90 }
set_option maxHeartbeats 4000000 in
set_option maxRecDepth 100000 in
theorem kt_ZK_packRow (l : Launch) (dC : Nat → ClassId) (dI : Nat → Nat → Nat) (cI : ClassId) (ot ota ob oba : Nat) (sz : Nat) (tw : Int32) (th : Int32) (tf : Nat → Int32) (bl : Int32) (bf : Nat → Int32) (a1 : Int32) (post : Int32 → (Nat → Int32) → Prop) (hw : wp_ZK_packRow tw th tf bl bf a1 post) : Met l yZK_packRow wsZK_packRow rm_ZK_packRow (gw_Pc dC dI [(cI, .int)] [.ref ot, .int a1, .ref ob] [(ot, .inr (4, [.ref ota, .int tw, .int th])), (ota, .inl (cI, 64, .inl tf)), (ob, .inr (0, [.ref oba, .int bl])), (oba, .inl (cI, 256, .inl bf))] sz) (va_Qv (fun (u : Int32 × (Nat → Int32)) => post u.1 u.2) (fun u t => gw_B dC dI [(cI, .int)] (va_A [(ot, .inr (4, [.ref ota, .int tw, .int th])), (ota, .inl (cI, 64, .inl tf)), (ob, .inr (0, [.ref oba, .int bl])), (oba, .inl (cI, 256, .inl bf))] sz) [(ot, .inr (4, [.ref ota, .int tw, .int th])), (ota, .inl (cI, 64, .inl tf)), (ob, .inr (0, [.ref oba, .int u.1])), (oba, .inl (cI, 256, .inl u.2))] t) (va_A [(ot, .inr (4, [.ref ota, .int tw, .int th])), (ota, .inl (cI, 64, .inl tf)), (ob, .inr (0, [.ref oba, .int bl])), (oba, .inl (cI, 256, .inl bf))] sz)) 0 0 (va_A [(ot, .inr (4, [.ref ota, .int tw, .int th])), (ota, .inl (cI, 64, .inl tf)), (ob, .inr (0, [.ref oba, .int bl])), (oba, .inl (cI, 256, .inl bf))] sz) := by
  refine Met.ofW (cc := cZK_packRow) (maxL := 7) (ret := none) (by decide) rfl ?_
  intro p e s m args below meth c s₁ B hml hv
  obtain ⟨ha9, hsz, hP, hK, hE, hD0⟩ := hv
  have hx := B.exec
  have hb := B.bytes
  have hr := B.returns
  have hts0 := atoms_spec (ws := wsZK_packRow) B.pre
  have hts : ∀ w ∈ tbg, w.before args s = true := fun w h => hts0 w (List.mem_cons_of_mem _ h)
  have hown : s.vm.findClass RZK = some m.cls := findClass_of_methodNamed B.named
  have hlocks := B.notSynchronized
  subst hsz
  have hD := hD0.self (sz := s.heap.size)
  refine gx_Q (fun Q9 hQ9 => ?_)
  generalize hAe : va_A [(ot, .inr (4, [.ref ota, .int tw, .int th])), (ota, .inl (cI, 64, .inl tf)), (ob, .inr (0, [.ref oba, .int bl])), (oba, .inl (cI, 256, .inl bf))] s.heap.size = A at hD hQ9 ⊢
  have hA : ∀ q : Nat, s.heap.size ≤ q → A q := fun q h => by rw [← hAe]; exact Or.inr h
  have hS : va_S A s.heap s.heap [] := va_S.rf
  have hl := lv_entry ([.ref ot, .int a1, .ref ob]) (n := 7) (Nat.le_of_ble_eq_true rfl)
  have he9 : entryFrame m args 7 = F0 m 0 ((lg_sl [.ref ot, .int a1, .ref ob] ++ List.replicate (7 - (lg_sl ([.ref ot, .int a1, .ref ob] : List Value)).length) Slot.unset).toArray) [] := by rw [ha9]; exact lg_entry_eq m [.ref ot, .int a1, .ref ob] 7
  rw [he9]
  generalize (lg_sl ([.ref ot, .int a1, .ref ob] : List Value) ++ List.replicate (7 - (lg_sl ([.ref ot, .int a1, .ref ob] : List Value)).length) Slot.unset).toArray = ls at hl ⊢
  have hl : lv_has ls 7 [(0, .ref ot), (1, .int a1), (2, .ref ob)] := hl
  refine lv_aload_n hx hb dZK_packRow_0 rfl (lv_at hl 0 rfl) ?_
  refine lv_iload_n hx hb dZK_packRow_1 rfl (lv_at hl 1 rfl) ?_
  have hPc := hP.sub (ws' := [(ot, .inr (4, [.ref ota, .int tw, .int th])), (ota, .inl (cI, 64, .inl tf))]) [0, 1] rfl
  refine vp_callSi (va_runS (As := [.ref ot, .int a1]) (rest := []) ⟨hx, hb, hml, hown, hts⟩ (kt_ZK_greatestNumber l dC dI cI ot ota tw th tf a1 _ hw) (va_cwS 2 hts (tb_S mm_492 mm_493 mm_14 mm_494) rfl rfl rfl (by decide +kernel) ⟨Nat.le_of_ble_eq_true rfl, Nat.le_of_ble_eq_true rfl⟩) ⟨gr_blind, fun U hU hW => gr_pre hPc hK hE hU hW⟩ rfl rfl hl.1 rfl (lv_room (Nat.le_of_ble_eq_true rfl)) dZK_packRow_2 ⟨Nat.le_of_ble_eq_true rfl, Nat.le_of_ble_eq_true rfl⟩).run (fun r_1 hw => ?_)
  have hPc := hP.sub (ws' := []) [] rfl
  refine vp_callSi (va_runSN (As := [.int r_1]) (rest := []) ⟨hx, hb, hml, hown, hts⟩ (kt_ZQ_bitsNeeded l dC dI cI  r_1 _ hw) ⟨(va_cnB 1 hts (tb_0 mm_216) rfl rfl rfl (gxE_15 hE) (hts _ mm_1) (by decide +kernel) ⟨Nat.le_of_ble_eq_true rfl, Nat.le_of_ble_eq_true rfl⟩), hts _ mm_215, trivial⟩ ⟨gr_blind, fun U hU hW => gr_pre hPc hK hE hU hW⟩ rfl rfl hl.1 rfl (lv_room (Nat.le_of_ble_eq_true rfl)) dZK_packRow_5 ⟨Nat.le_of_ble_eq_true rfl, Nat.le_of_ble_eq_true rfl⟩).run (fun r_2 hw => ?_)
  refine lv_istore_n (lv' := [(3, .int r_2), (0, .ref ot), (1, .int a1), (2, .ref ob)]) hx hb dZK_packRow_8 rfl hl (by decide) rfl (fun ls hl => ?_)
  refine lv_aload_n hx hb dZK_packRow_9 rfl (lv_at hl 3 rfl) ?_
  refine lv_iload_n hx hb dZK_packRow_10 rfl (lv_at hl 0 rfl) ?_
  have hPc := hP.sub (ws' := [(ob, .inr (0, [.ref oba, .int bl])), (oba, .inl (cI, 256, .inl bf))]) [2, 3] rfl
  have hDc := hD.sub (ws' := [(ob, .inr (0, [.ref oba, .int bl])), (oba, .inl (cI, 256, .inl bf))]) [2, 3] (by decide) rfl
  have hFc := va_free (wc := [(ob, .inr (0, [.ref oba, .int bl])), (oba, .inl (cI, 256, .inl bf))]) hD hS hA [2, 3] rfl
  refine va_callv (va_runV (As := [.int r_2]) (rest := []) ⟨hx, hb, hml, hown, hts⟩ (kt_ZB_append l dC dI cI ob oba _ bl bf r_2 _ hw) (cwV 1 hts (tb_V mm_481 mm_482 mm_483 mm_5 mm_484) rfl rfl rfl (by decide +kernel) ⟨Nat.le_of_ble_eq_true rfl, Nat.le_of_ble_eq_true rfl⟩) ⟨gw_blind, va_recv hK hPc (ci := 0) (q0 := 0) rfl rfl, fun U hU hW => gw_pre hPc hDc hK hE hU hW⟩ rfl rfl hl.1 rfl (lv_room (Nat.le_of_ble_eq_true rfl)) dZK_packRow_11 ⟨Nat.le_of_ble_eq_true rfl, Nat.le_of_ble_eq_true rfl⟩) hS (fun q _ h => hFc q h) hFc (fun u t H1 locs ht hvm hw hB hz1 hk1 hS => ?_)
  obtain ⟨bl_3, bf_4⟩ := u
  obtain ⟨hP1, hK1, hD1⟩ := hB
  rw [ht] at hP1
  try dsimp only at hw
  obtain ⟨hP, hD⟩ := va_join (wr := [(ot, .inr (4, [.ref ota, .int tw, .int th])), (ota, .inl (cI, 64, .inl tf))]) (w1 := [(ob, .inr (0, [.ref oba, .int bl_3])), (oba, .inl (cI, 256, .inl bf_4))]) hP hD [2, 3] [0, 1] rfl rfl (by decide) (by decide) hk1 hFc hP1 hD1
  generalize H1 = H at hP hS ⊢
  have hP : va_P (dC, dI) vwCl [(ot, .inr (4, [.ref ota, .int tw, .int th])), (ota, .inl (cI, 64, .inl tf)), (ob, .inr (0, [.ref oba, .int bl_3])), (oba, .inl (cI, 256, .inl bf_4))] H := hP
  have hD : va_D A [(ot, .inr (4, [.ref ota, .int tw, .int th])), (ota, .inl (cI, 64, .inl tf)), (ob, .inr (0, [.ref oba, .int bl_3])), (oba, .inl (cI, 256, .inl bf_4))] := hD
  refine lv_iconst (v := (0 : Int32)) hx hb dZK_packRow_14 (by decide) ?_
  refine lv_istore (lv' := [(4, .int (0 : Int32)), (3, .int r_2), (0, .ref ot), (1, .int a1), (2, .ref ob)]) hx hb dZK_packRow_15 hl (by decide) rfl (fun ls hl => ?_)
  refine lv_iconst (v := (0 : Int32)) hx hb dZK_packRow_17 (by decide) ?_
  refine lv_istore (lv' := [(5, .int (0 : Int32)), (4, .int (0 : Int32)), (3, .int r_2), (0, .ref ot), (1, .int a1), (2, .ref ob)]) hx hb dZK_packRow_18 hl (by decide) rfl (fun ls hl => ?_)
  refine lv_iconst (v := (0 : Int32)) hx hb dZK_packRow_20 (by decide) ?_
  refine lv_istore (lv' := [(6, .int (0 : Int32)), (5, .int (0 : Int32)), (4, .int (0 : Int32)), (3, .int r_2), (0, .ref ot), (1, .int a1), (2, .ref ob)]) hx hb dZK_packRow_21 hl (by decide) rfl (fun ls hl => ?_)
  have lp23 : ∀ K23 : Int32 → Int32 → Int32 → Int32 → (Nat → Int32) → Prop, (∀ (x4_23 : Int32) (x5_23 : Int32) (x6_23 : Int32) (v1_23_ob : Int32) (f_23_oba : Nat → Int32), K23 x4_23 x5_23 x6_23 v1_23_ob f_23_oba → ∀ (H : Heap) (locs : List Loc), va_P (dC, dI) vwCl [(ot, .inr (4, [.ref ota, .int tw, .int th])), (ota, .inl (cI, 64, .inl tf)), (ob, .inr (0, [.ref oba, .int v1_23_ob])), (oba, .inl (cI, 256, .inl f_23_oba))] H → va_D A [(ot, .inr (4, [.ref ota, .int tw, .int th])), (ota, .inl (cI, 64, .inl tf)), (ob, .inr (0, [.ref oba, .int v1_23_ob])), (oba, .inl (cI, 256, .inl f_23_oba))] → va_S A s.heap H locs → ∀ ls : Array Slot, lv_has ls 7 [(6, .int x6_23), (5, .int x5_23), (4, .int x4_23), (3, .int r_2), (0, .ref ot), (1, .int a1), (2, .ref ob)] → W p l e (headSpec wsZK_packRow rm_ZK_packRow).room s m args below meth c H locs 0 0 Q9 (F0 m 89 ls [])) → ∀ (n : Nat) (x4_23 : Int32) (x5_23 : Int32) (x6_23 : Int32) (v1_23_ob : Int32) (f_23_oba : Nat → Int32), lp_ZK_packRow_23 tw th tf bl bf a1 r_1 r_2 bl_3 bf_4 post K23 n x4_23 x5_23 x6_23 v1_23_ob f_23_oba → ∀ (H : Heap) (locs : List Loc), va_P (dC, dI) vwCl [(ot, .inr (4, [.ref ota, .int tw, .int th])), (ota, .inl (cI, 64, .inl tf)), (ob, .inr (0, [.ref oba, .int v1_23_ob])), (oba, .inl (cI, 256, .inl f_23_oba))] H → va_D A [(ot, .inr (4, [.ref ota, .int tw, .int th])), (ota, .inl (cI, 64, .inl tf)), (ob, .inr (0, [.ref oba, .int v1_23_ob])), (oba, .inl (cI, 256, .inl f_23_oba))] → va_S A s.heap H locs → ∀ ls : Array Slot, lv_has ls 7 [(6, .int x6_23), (5, .int x5_23), (4, .int x4_23), (3, .int r_2), (0, .ref ot), (1, .int a1), (2, .ref ob)] → W p l e (headSpec wsZK_packRow rm_ZK_packRow).room s m args below meth c H locs 0 0 Q9 (F0 m 23 ls []) := by
    intro K23 aft23 n
    induction n with
    | zero => intro x4_23 x5_23 x6_23 v1_23_ob f_23_oba hw; exact False.elim hw
    | succ n ih23 =>
      intro x4_23 x5_23 x6_23 v1_23_ob f_23_oba hw H locs hP hD hS ls hl
      refine lv_iload hx hb dZK_packRow_23 (lv_at hl 0 rfl) ?_
      refine lv_aload_n hx hb dZK_packRow_25 rfl (lv_at hl 4 rfl) ?_
      refine va_get (D := (dC, dI)) (ci := 4) (v := .int tw) (C := RZT) (T := TZT) (N := 3) hx hb hts inZT hown hK hP 0 rfl rfl 1 (by decide) (hts _ mm_120) (fun _ h9 => h9) rfl dZK_packRow_26 ?_
      refine lv_icmp_ge (tgt := 89) hx hb dZK_packRow_29 (by decide) (fun c_5 => ?_) (fun c_5 => ?_)
      · have hw := hw.1 c_5
        exact aft23 x4_23 x5_23 x6_23 v1_23_ob f_23_oba hw _ _ (hP.sub [0, 1, 2, 3] rfl) (hD.sub [0, 1, 2, 3] (by decide) rfl) hS ls (lv_sub hl [0, 1, 2, 3, 4, 5, 6] rfl)
      · have hw := hw.2 c_5
        refine lv_iload hx hb dZK_packRow_32 (lv_at hl 2 rfl) ?_
        refine lv_aload_n hx hb dZK_packRow_34 rfl (lv_at hl 4 rfl) ?_
        refine lv_iload hx hb dZK_packRow_35 (lv_at hl 0 rfl) ?_
        refine lv_iload_n hx hb dZK_packRow_37 rfl (lv_at hl 5 rfl) ?_
        have hPc := hP.sub (ws' := [(ot, .inr (4, [.ref ota, .int tw, .int th])), (ota, .inl (cI, 64, .inl tf))]) [0, 1] rfl
        refine vp_callSi (va_runS (As := [.ref ot, .int x6_23, .int a1]) (rest := [.int x4_23]) ⟨hx, hb, hml, hown, hts⟩ (kt_ZK_numberAt l dC dI cI ot ota tw th tf x6_23 a1 _ hw) (va_cwS 3 hts (tb_S mm_495 mm_496 mm_14 mm_497) rfl rfl rfl (by decide +kernel) ⟨Nat.le_of_ble_eq_true rfl, Nat.le_of_ble_eq_true rfl⟩) ⟨gr_blind, fun U hU hW => gr_pre hPc hK hE hU hW⟩ rfl rfl hl.1 rfl (lv_room (Nat.le_of_ble_eq_true rfl)) dZK_packRow_38 ⟨Nat.le_of_ble_eq_true rfl, Nat.le_of_ble_eq_true rfl⟩).run (fun r_6 hw => ?_)
        refine lv_iload hx hb dZK_packRow_41 (lv_at hl 1 rfl) ?_
        refine lv_ishl hx hb dZK_packRow_43 ?_
        refine lv_ior hx hb dZK_packRow_44 ?_
        refine lv_istore (lv' := [(4, .int (x4_23 ||| (r_6 <<< (x5_23 &&& 31)))), (6, .int x6_23), (5, .int x5_23), (3, .int r_2), (0, .ref ot), (1, .int a1), (2, .ref ob)]) hx hb dZK_packRow_45 hl (by decide) rfl (fun ls hl => ?_)
        refine lv_iload hx hb dZK_packRow_47 (lv_at hl 2 rfl) ?_
        refine lv_iload_n hx hb dZK_packRow_49 rfl (lv_at hl 3 rfl) ?_
        refine lv_iadd hx hb dZK_packRow_50 ?_
        refine lv_istore (lv' := [(5, .int (x5_23 + r_2)), (4, .int (x4_23 ||| (r_6 <<< (x5_23 &&& 31)))), (6, .int x6_23), (3, .int r_2), (0, .ref ot), (1, .int a1), (2, .ref ob)]) hx hb dZK_packRow_51 hl (by decide) rfl (fun ls hl => ?_)
        have lp53 : ∀ K53 : Int32 → Int32 → Int32 → (Nat → Int32) → Prop, (∀ (x4_53 : Int32) (x5_53 : Int32) (v1_53_ob : Int32) (f_53_oba : Nat → Int32), K53 x4_53 x5_53 v1_53_ob f_53_oba → ∀ (H : Heap) (locs : List Loc), va_P (dC, dI) vwCl [(ot, .inr (4, [.ref ota, .int tw, .int th])), (ota, .inl (cI, 64, .inl tf)), (ob, .inr (0, [.ref oba, .int v1_53_ob])), (oba, .inl (cI, 256, .inl f_53_oba))] H → va_D A [(ot, .inr (4, [.ref ota, .int tw, .int th])), (ota, .inl (cI, 64, .inl tf)), (ob, .inr (0, [.ref oba, .int v1_53_ob])), (oba, .inl (cI, 256, .inl f_53_oba))] → va_S A s.heap H locs → ∀ ls : Array Slot, lv_has ls 7 [(5, .int x5_53), (4, .int x4_53), (6, .int x6_23), (3, .int r_2), (0, .ref ot), (1, .int a1), (2, .ref ob)] → W p l e (headSpec wsZK_packRow rm_ZK_packRow).room s m args below meth c H locs 0 0 Q9 (F0 m 83 ls [])) → ∀ (n : Nat) (x4_53 : Int32) (x5_53 : Int32) (v1_53_ob : Int32) (f_53_oba : Nat → Int32), lp_ZK_packRow_53 tw th tf bl bf a1 r_1 r_2 bl_3 bf_4 x4_23 x5_23 x6_23 v1_23_ob f_23_oba r_6 post K53 n x4_53 x5_53 v1_53_ob f_53_oba → ∀ (H : Heap) (locs : List Loc), va_P (dC, dI) vwCl [(ot, .inr (4, [.ref ota, .int tw, .int th])), (ota, .inl (cI, 64, .inl tf)), (ob, .inr (0, [.ref oba, .int v1_53_ob])), (oba, .inl (cI, 256, .inl f_53_oba))] H → va_D A [(ot, .inr (4, [.ref ota, .int tw, .int th])), (ota, .inl (cI, 64, .inl tf)), (ob, .inr (0, [.ref oba, .int v1_53_ob])), (oba, .inl (cI, 256, .inl f_53_oba))] → va_S A s.heap H locs → ∀ ls : Array Slot, lv_has ls 7 [(5, .int x5_53), (4, .int x4_53), (6, .int x6_23), (3, .int r_2), (0, .ref ot), (1, .int a1), (2, .ref ob)] → W p l e (headSpec wsZK_packRow rm_ZK_packRow).room s m args below meth c H locs 0 0 Q9 (F0 m 53 ls []) := by
          intro K53 aft53 n
          induction n with
          | zero => intro x4_53 x5_53 v1_53_ob f_53_oba hw; exact False.elim hw
          | succ n ih53 =>
            intro x4_53 x5_53 v1_53_ob f_53_oba hw H locs hP hD hS ls hl
            refine lv_iload hx hb dZK_packRow_53 (lv_at hl 0 rfl) ?_
            refine lv_bipush (v := (8 : Int32)) hx hb dZK_packRow_55 (by decide) ?_
            refine lv_icmp_lt (tgt := 83) hx hb dZK_packRow_57 (by decide) (fun c_7 => ?_) (fun c_7 => ?_)
            · have hw := hw.1 c_7
              exact aft53 x4_53 x5_53 v1_53_ob f_53_oba hw _ _ (hP.sub [0, 1, 2, 3] rfl) (hD.sub [0, 1, 2, 3] (by decide) rfl) hS ls (lv_sub hl [0, 1, 2, 3, 4, 5, 6] rfl)
            · have hw := hw.2 c_7
              refine lv_aload_n hx hb dZK_packRow_60 rfl (lv_at hl 6 rfl) ?_
              refine lv_iload hx hb dZK_packRow_61 (lv_at hl 1 rfl) ?_
              refine lv_sipush (v := (255 : Int32)) hx hb dZK_packRow_63 (by decide) ?_
              refine lv_iand hx hb dZK_packRow_66 ?_
              have hPc := hP.sub (ws' := [(ob, .inr (0, [.ref oba, .int v1_53_ob])), (oba, .inl (cI, 256, .inl f_53_oba))]) [2, 3] rfl
              have hDc := hD.sub (ws' := [(ob, .inr (0, [.ref oba, .int v1_53_ob])), (oba, .inl (cI, 256, .inl f_53_oba))]) [2, 3] (by decide) rfl
              have hFc := va_free (wc := [(ob, .inr (0, [.ref oba, .int v1_53_ob])), (oba, .inl (cI, 256, .inl f_53_oba))]) hD hS hA [2, 3] rfl
              refine va_callv (va_runV (As := [.int (x4_53 &&& (255 : Int32))]) (rest := []) ⟨hx, hb, hml, hown, hts⟩ (kt_ZB_append l dC dI cI ob oba _ v1_53_ob f_53_oba (x4_53 &&& (255 : Int32)) _ hw) (cwV 1 hts (tb_V mm_481 mm_482 mm_483 mm_5 mm_484) rfl rfl rfl (by decide +kernel) ⟨Nat.le_of_ble_eq_true rfl, Nat.le_of_ble_eq_true rfl⟩) ⟨gw_blind, va_recv hK hPc (ci := 0) (q0 := 0) rfl rfl, fun U hU hW => gw_pre hPc hDc hK hE hU hW⟩ rfl rfl hl.1 rfl (lv_room (Nat.le_of_ble_eq_true rfl)) dZK_packRow_67 ⟨Nat.le_of_ble_eq_true rfl, Nat.le_of_ble_eq_true rfl⟩) hS (fun q _ h => hFc q h) hFc (fun u t H1 locs ht hvm hw hB hz1 hk1 hS => ?_)
              obtain ⟨bl_8, bf_9⟩ := u
              obtain ⟨hP1, hK1, hD1⟩ := hB
              rw [ht] at hP1
              try dsimp only at hw
              obtain ⟨hP, hD⟩ := va_join (wr := [(ot, .inr (4, [.ref ota, .int tw, .int th])), (ota, .inl (cI, 64, .inl tf))]) (w1 := [(ob, .inr (0, [.ref oba, .int bl_8])), (oba, .inl (cI, 256, .inl bf_9))]) hP hD [2, 3] [0, 1] rfl rfl (by decide) (by decide) hk1 hFc hP1 hD1
              generalize H1 = H at hP hS ⊢
              have hP : va_P (dC, dI) vwCl [(ot, .inr (4, [.ref ota, .int tw, .int th])), (ota, .inl (cI, 64, .inl tf)), (ob, .inr (0, [.ref oba, .int bl_8])), (oba, .inl (cI, 256, .inl bf_9))] H := hP
              have hD : va_D A [(ot, .inr (4, [.ref ota, .int tw, .int th])), (ota, .inl (cI, 64, .inl tf)), (ob, .inr (0, [.ref oba, .int bl_8])), (oba, .inl (cI, 256, .inl bf_9))] := hD
              refine lv_iload hx hb dZK_packRow_70 (lv_at hl 1 rfl) ?_
              refine lv_bipush (v := (8 : Int32)) hx hb dZK_packRow_72 (by decide) ?_
              refine lv_ishr hx hb dZK_packRow_74 ?_
              refine lv_istore (lv' := [(4, .int (x4_53 >>> ((8 : Int32) &&& 31))), (5, .int x5_53), (6, .int x6_23), (3, .int r_2), (0, .ref ot), (1, .int a1), (2, .ref ob)]) hx hb dZK_packRow_75 hl (by decide) rfl (fun ls hl => ?_)
              refine lv_iinc (v := x5_53 + (-8 : Int32)) (lv' := [(5, .int (x5_53 + (-8 : Int32))), (4, .int (x4_53 >>> ((8 : Int32) &&& 31))), (6, .int x6_23), (3, .int r_2), (0, .ref ot), (1, .int a1), (2, .ref ob)]) hx hb dZK_packRow_77 hl (k := 1) rfl rfl (by decide) rfl (fun ls hl => ?_)
              refine lv_goto (tgt := 53) hx hb dZK_packRow_80 (by decide) ?_
              exact ih53 (x4_53 >>> ((8 : Int32) &&& 31)) (x5_53 + (-8 : Int32)) bl_8 bf_9 hw _ _ (hP.sub [0, 1, 2, 3] rfl) (hD.sub [0, 1, 2, 3] (by decide) rfl) hS ls (lv_sub hl [0, 1, 2, 3, 4, 5, 6] rfl)
        obtain ⟨n53, hw⟩ := hw
        refine lp53 _ (fun x4_53e x5_53e v1_53e_ob f_53e_oba hw H locs hP hD hS ls hl => ?_) n53 (x4_23 ||| (r_6 <<< (x5_23 &&& 31))) (x5_23 + r_2) v1_23_ob f_23_oba hw _ _ (hP.sub [0, 1, 2, 3] rfl) (hD.sub [0, 1, 2, 3] (by decide) rfl) hS ls (lv_sub hl [0, 1, 2, 3, 4, 5, 6] rfl)
        refine lv_iinc (v := x6_23 + (1 : Int32)) (lv' := [(6, .int (x6_23 + (1 : Int32))), (5, .int x5_53e), (4, .int x4_53e), (3, .int r_2), (0, .ref ot), (1, .int a1), (2, .ref ob)]) hx hb dZK_packRow_83 hl (k := 2) rfl rfl (by decide) rfl (fun ls hl => ?_)
        refine lv_goto (tgt := 23) hx hb dZK_packRow_86 (by decide) ?_
        exact ih23 x4_53e x5_53e (x6_23 + (1 : Int32)) v1_53e_ob f_53e_oba hw _ _ (hP.sub [0, 1, 2, 3] rfl) (hD.sub [0, 1, 2, 3] (by decide) rfl) hS ls (lv_sub hl [0, 1, 2, 3, 4, 5, 6] rfl)
  obtain ⟨n23, hw⟩ := hw
  refine lp23 _ (fun x4_23e x5_23e x6_23e v1_23e_ob f_23e_oba hw H locs hP hD hS ls hl => ?_) n23 (0 : Int32) (0 : Int32) (0 : Int32) bl_3 bf_4 hw _ _ (hP.sub [0, 1, 2, 3] rfl) (hD.sub [0, 1, 2, 3] (by decide) rfl) hS ls (lv_sub hl [0, 1, 2, 3, 4, 5, 6] rfl)
  refine lv_iload hx hb dZK_packRow_89 (lv_at hl 1 rfl) ?_
  refine lv_if_le (tgt := 100) hx hb dZK_packRow_91 (by decide) (fun c_10 => ?_) (fun c_10 => ?_)
  · have hw := hw.1 c_10
    have hP9 := hP.sub (ws' := [(ot, .inr (4, [.ref ota, .int tw, .int th])), (ota, .inl (cI, 64, .inl tf)), (ob, .inr (0, [.ref oba, .int v1_23e_ob])), (oba, .inl (cI, 256, .inl f_23e_oba))]) [0, 1, 2, 3] rfl
    have hD9 := hD.sub (ws' := [(ot, .inr (4, [.ref ota, .int tw, .int th])), (ota, .inl (cI, 64, .inl tf)), (ob, .inr (0, [.ref oba, .int v1_23e_ob])), (oba, .inl (cI, 256, .inl f_23e_oba))]) [0, 1, 2, 3] (by decide) rfl
    subst hQ9
    exact W.vret hx hb hr (fun t ht hW => ⟨⟨(v1_23e_ob, f_23e_oba), rfl, hw, by rw [ht]; exact hP9, va_K.moved hW.alike hK, hD9⟩, hS.F ht⟩) hS.2.2 dZK_packRow_100
  · have hw := hw.2 c_10
    refine lv_aload_n hx hb dZK_packRow_94 rfl (lv_at hl 6 rfl) ?_
    refine lv_iload hx hb dZK_packRow_95 (lv_at hl 2 rfl) ?_
    have hPc := hP.sub (ws' := [(ob, .inr (0, [.ref oba, .int v1_23e_ob])), (oba, .inl (cI, 256, .inl f_23e_oba))]) [2, 3] rfl
    have hDc := hD.sub (ws' := [(ob, .inr (0, [.ref oba, .int v1_23e_ob])), (oba, .inl (cI, 256, .inl f_23e_oba))]) [2, 3] (by decide) rfl
    have hFc := va_free (wc := [(ob, .inr (0, [.ref oba, .int v1_23e_ob])), (oba, .inl (cI, 256, .inl f_23e_oba))]) hD hS hA [2, 3] rfl
    refine va_callv (va_runV (As := [.int x4_23e]) (rest := []) ⟨hx, hb, hml, hown, hts⟩ (kt_ZB_append l dC dI cI ob oba _ v1_23e_ob f_23e_oba x4_23e _ hw) (cwV 1 hts (tb_V mm_481 mm_482 mm_483 mm_5 mm_484) rfl rfl rfl (by decide +kernel) ⟨Nat.le_of_ble_eq_true rfl, Nat.le_of_ble_eq_true rfl⟩) ⟨gw_blind, va_recv hK hPc (ci := 0) (q0 := 0) rfl rfl, fun U hU hW => gw_pre hPc hDc hK hE hU hW⟩ rfl rfl hl.1 rfl (lv_room (Nat.le_of_ble_eq_true rfl)) dZK_packRow_97 ⟨Nat.le_of_ble_eq_true rfl, Nat.le_of_ble_eq_true rfl⟩) hS (fun q _ h => hFc q h) hFc (fun u t H1 locs ht hvm hw hB hz1 hk1 hS => ?_)
    obtain ⟨bl_11, bf_12⟩ := u
    obtain ⟨hP1, hK1, hD1⟩ := hB
    rw [ht] at hP1
    try dsimp only at hw
    obtain ⟨hP, hD⟩ := va_join (wr := [(ot, .inr (4, [.ref ota, .int tw, .int th])), (ota, .inl (cI, 64, .inl tf))]) (w1 := [(ob, .inr (0, [.ref oba, .int bl_11])), (oba, .inl (cI, 256, .inl bf_12))]) hP hD [2, 3] [0, 1] rfl rfl (by decide) (by decide) hk1 hFc hP1 hD1
    generalize H1 = H at hP hS ⊢
    have hP : va_P (dC, dI) vwCl [(ot, .inr (4, [.ref ota, .int tw, .int th])), (ota, .inl (cI, 64, .inl tf)), (ob, .inr (0, [.ref oba, .int bl_11])), (oba, .inl (cI, 256, .inl bf_12))] H := hP
    have hD : va_D A [(ot, .inr (4, [.ref ota, .int tw, .int th])), (ota, .inl (cI, 64, .inl tf)), (ob, .inr (0, [.ref oba, .int bl_11])), (oba, .inl (cI, 256, .inl bf_12))] := hD
    have hP9 := hP.sub (ws' := [(ot, .inr (4, [.ref ota, .int tw, .int th])), (ota, .inl (cI, 64, .inl tf)), (ob, .inr (0, [.ref oba, .int bl_11])), (oba, .inl (cI, 256, .inl bf_12))]) [0, 1, 2, 3] rfl
    have hD9 := hD.sub (ws' := [(ot, .inr (4, [.ref ota, .int tw, .int th])), (ota, .inl (cI, 64, .inl tf)), (ob, .inr (0, [.ref oba, .int bl_11])), (oba, .inl (cI, 256, .inl bf_12))]) [0, 1, 2, 3] (by decide) rfl
    subst hQ9
    exact W.vret hx hb hr (fun t ht hW => ⟨⟨(bl_11, bf_12), rfl, hw, by rw [ht]; exact hP9, va_K.moved hW.alike hK, hD9⟩, hS.F ht⟩) hS.2.2 dZK_packRow_100
theorem dZK_packTile_0 : decode cZK_packTile 0 = .ok (.aload_n 1, 1) := by decide +kernel
theorem dZK_packTile_1 : decode cZK_packTile 1 = .ok (.iconst 0, 1) := by decide +kernel
theorem dZK_packTile_2 : decode cZK_packTile 2 = .ok (.putfield 9, 3) := by decide +kernel
theorem dZK_packTile_5 : decode cZK_packTile 5 = .ok (.aload_n 1, 1) := by decide +kernel
theorem dZK_packTile_6 : decode cZK_packTile 6 = .ok (.aload_n 0, 1) := by decide +kernel
theorem dZK_packTile_7 : decode cZK_packTile 7 = .ok (.getfield 15, 3) := by decide +kernel
theorem dZK_packTile_10 : decode cZK_packTile 10 = .ok (.invokevirtual 20, 3) := by decide +kernel
theorem dZK_packTile_13 : decode cZK_packTile 13 = .ok (.aload_n 1, 1) := by decide +kernel
theorem dZK_packTile_14 : decode cZK_packTile 14 = .ok (.aload_n 0, 1) := by decide +kernel
theorem dZK_packTile_15 : decode cZK_packTile 15 = .ok (.getfield 24, 3) := by decide +kernel
theorem dZK_packTile_18 : decode cZK_packTile 18 = .ok (.invokevirtual 20, 3) := by decide +kernel
theorem dZK_packTile_21 : decode cZK_packTile 21 = .ok (.iconst 0, 1) := by decide +kernel
theorem dZK_packTile_22 : decode cZK_packTile 22 = .ok (.istore_n 2, 1) := by decide +kernel
theorem dZK_packTile_23 : decode cZK_packTile 23 = .ok (.iload_n 2, 1) := by decide +kernel
theorem dZK_packTile_24 : decode cZK_packTile 24 = .ok (.aload_n 0, 1) := by decide +kernel
theorem dZK_packTile_25 : decode cZK_packTile 25 = .ok (.getfield 24, 3) := by decide +kernel
theorem dZK_packTile_28 : decode cZK_packTile 28 = .ok (.if_icmp .ge 15, 3) := by decide +kernel
theorem dZK_packTile_31 : decode cZK_packTile 31 = .ok (.aload_n 0, 1) := by decide +kernel
theorem dZK_packTile_32 : decode cZK_packTile 32 = .ok (.iload_n 2, 1) := by decide +kernel
theorem dZK_packTile_33 : decode cZK_packTile 33 = .ok (.aload_n 1, 1) := by decide +kernel
theorem dZK_packTile_34 : decode cZK_packTile 34 = .ok (.invokestatic 27, 3) := by decide +kernel
theorem dZK_packTile_37 : decode cZK_packTile 37 = .ok (.iinc 2 1, 3) := by decide +kernel
theorem dZK_packTile_40 : decode cZK_packTile 40 = .ok (.goto (-17), 3) := by decide +kernel
theorem dZK_packTile_43 : decode cZK_packTile 43 = .ok (.aload_n 1, 1) := by decide +kernel
theorem dZK_packTile_44 : decode cZK_packTile 44 = .ok (.aload_n 1, 1) := by decide +kernel
theorem dZK_packTile_45 : decode cZK_packTile 45 = .ok (.getfield 9, 3) := by decide +kernel
theorem dZK_packTile_48 : decode cZK_packTile 48 = .ok (.invokevirtual 33, 3) := by decide +kernel
theorem dZK_packTile_51 : decode cZK_packTile 51 = .ok (.istore_n 2, 1) := by decide +kernel
theorem dZK_packTile_52 : decode cZK_packTile 52 = .ok (.aload_n 1, 1) := by decide +kernel
theorem dZK_packTile_53 : decode cZK_packTile 53 = .ok (.iload_n 2, 1) := by decide +kernel
theorem dZK_packTile_54 : decode cZK_packTile 54 = .ok (.sipush 255, 3) := by decide +kernel
theorem dZK_packTile_57 : decode cZK_packTile 57 = .ok (.iand, 1) := by decide +kernel
theorem dZK_packTile_58 : decode cZK_packTile 58 = .ok (.invokevirtual 20, 3) := by decide +kernel
theorem dZK_packTile_61 : decode cZK_packTile 61 = .ok (.aload_n 1, 1) := by decide +kernel
theorem dZK_packTile_62 : decode cZK_packTile 62 = .ok (.iload_n 2, 1) := by decide +kernel
theorem dZK_packTile_63 : decode cZK_packTile 63 = .ok (.bipush 8, 2) := by decide +kernel
theorem dZK_packTile_65 : decode cZK_packTile 65 = .ok (.ishr, 1) := by decide +kernel
theorem dZK_packTile_66 : decode cZK_packTile 66 = .ok (.invokevirtual 20, 3) := by decide +kernel
theorem dZK_packTile_69 : decode cZK_packTile 69 = .ok (.return_, 1) := by decide +kernel
abbrev wsZK_packTile : List Cond := .code yZK_packTile cZK_packTile 3 none :: tbg
def lp_ZK_packTile_23 (tw : Int32) (th : Int32) (tf : Nat → Int32) (bl : Int32) (bf : Nat → Int32) (bl_1 : Int32) (bf_2 : Nat → Int32) (bl_3 : Int32) (bf_4 : Nat → Int32) (post : Int32 → (Nat → Int32) → Prop) (K23 : Int32 → Int32 → (Nat → Int32) → Prop) (n : Nat) : Int32 → Int32 → (Nat → Int32) → Prop := Nat.rec (motive := fun _ => Int32 → Int32 → (Nat → Int32) → Prop) (fun (x2_23 : Int32) (v1_23_ob : Int32) (f_23_oba : Nat → Int32) => False) (fun _ ih23 (x2_23 : Int32) (v1_23_ob : Int32) (f_23_oba : Nat → Int32) => ((th ≤ x2_23 → (K23 x2_23 v1_23_ob f_23_oba)) ∧ (¬ th ≤ x2_23 → (wp_ZK_packRow tw th tf v1_23_ob f_23_oba x2_23 (fun (bl_6 : Int32) (bf_7 : Nat → Int32) => ih23 (x2_23 + (1 : Int32)) bl_6 bf_7))))) n
def wp_ZK_packTile (tw : Int32) (th : Int32) (tf : Nat → Int32) (bl : Int32) (bf : Nat → Int32) (post : Int32 → (Nat → Int32) → Prop) : Prop := wp_ZB_append (0 : Int32) bf tw (fun (bl_1 : Int32) (bf_2 : Nat → Int32) => wp_ZB_append bl_1 bf_2 th (fun (bl_3 : Int32) (bf_4 : Nat → Int32) => ∃ n : Nat, lp_ZK_packTile_23 tw th tf bl bf bl_1 bf_2 bl_3 bf_4 post (fun (x2_23e : Int32) (v1_23e_ob : Int32) (f_23e_oba : Nat → Int32) => wp_ZB_sumOfFirst v1_23e_ob f_23e_oba v1_23e_ob (fun r_8 : Int32 => wp_ZB_append v1_23e_ob f_23e_oba (r_8 &&& (255 : Int32)) (fun (bl_9 : Int32) (bf_10 : Nat → Int32) => wp_ZB_append bl_9 bf_10 (r_8 >>> ((8 : Int32) &&& 31)) (fun (bl_11 : Int32) (bf_12 : Nat → Int32) => post bl_11 bf_12)))) n (0 : Int32) bl_3 bf_4))
abbrev rm_ZK_packTile : Room := { frames := 5, cells := 0, slots := 0, locals := 116 }
set_option maxHeartbeats 4000000 in
set_option maxRecDepth 100000 in
theorem kt_ZK_packTile (l : Launch) (dC : Nat → ClassId) (dI : Nat → Nat → Nat) (cI : ClassId) (ot ota ob oba : Nat) (sz : Nat) (tw : Int32) (th : Int32) (tf : Nat → Int32) (bl : Int32) (bf : Nat → Int32) (post : Int32 → (Nat → Int32) → Prop) (hw : wp_ZK_packTile tw th tf bl bf post) : Met l yZK_packTile wsZK_packTile rm_ZK_packTile (gw_Pc dC dI [(cI, .int)] [.ref ot, .ref ob] [(ot, .inr (4, [.ref ota, .int tw, .int th])), (ota, .inl (cI, 64, .inl tf)), (ob, .inr (0, [.ref oba, .int bl])), (oba, .inl (cI, 256, .inl bf))] sz) (va_Qv (fun (u : Int32 × (Nat → Int32)) => post u.1 u.2) (fun u t => gw_B dC dI [(cI, .int)] (va_A [(ot, .inr (4, [.ref ota, .int tw, .int th])), (ota, .inl (cI, 64, .inl tf)), (ob, .inr (0, [.ref oba, .int bl])), (oba, .inl (cI, 256, .inl bf))] sz) [(ot, .inr (4, [.ref ota, .int tw, .int th])), (ota, .inl (cI, 64, .inl tf)), (ob, .inr (0, [.ref oba, .int u.1])), (oba, .inl (cI, 256, .inl u.2))] t) (va_A [(ot, .inr (4, [.ref ota, .int tw, .int th])), (ota, .inl (cI, 64, .inl tf)), (ob, .inr (0, [.ref oba, .int bl])), (oba, .inl (cI, 256, .inl bf))] sz)) 0 0 (va_A [(ot, .inr (4, [.ref ota, .int tw, .int th])), (ota, .inl (cI, 64, .inl tf)), (ob, .inr (0, [.ref oba, .int bl])), (oba, .inl (cI, 256, .inl bf))] sz) := by
  refine Met.ofW (cc := cZK_packTile) (maxL := 3) (ret := none) (by decide) rfl ?_
  intro p e s m args below meth c s₁ B hml hv
  obtain ⟨ha9, hsz, hP, hK, hE, hD0⟩ := hv
  have hx := B.exec
  have hb := B.bytes
  have hr := B.returns
  have hts0 := atoms_spec (ws := wsZK_packTile) B.pre
  have hts : ∀ w ∈ tbg, w.before args s = true := fun w h => hts0 w (List.mem_cons_of_mem _ h)
  have hown : s.vm.findClass RZK = some m.cls := findClass_of_methodNamed B.named
  have hlocks := B.notSynchronized
  subst hsz
  have hD := hD0.self (sz := s.heap.size)
  refine gx_Q (fun Q9 hQ9 => ?_)
  generalize hAe : va_A [(ot, .inr (4, [.ref ota, .int tw, .int th])), (ota, .inl (cI, 64, .inl tf)), (ob, .inr (0, [.ref oba, .int bl])), (oba, .inl (cI, 256, .inl bf))] s.heap.size = A at hD hQ9 ⊢
  have hA : ∀ q : Nat, s.heap.size ≤ q → A q := fun q h => by rw [← hAe]; exact Or.inr h
  have hS : va_S A s.heap s.heap [] := va_S.rf
  have hl := lv_entry ([.ref ot, .ref ob]) (n := 3) (Nat.le_of_ble_eq_true rfl)
  have he9 : entryFrame m args 3 = F0 m 0 ((lg_sl [.ref ot, .ref ob] ++ List.replicate (3 - (lg_sl ([.ref ot, .ref ob] : List Value)).length) Slot.unset).toArray) [] := by rw [ha9]; exact lg_entry_eq m [.ref ot, .ref ob] 3
  rw [he9]
  generalize (lg_sl ([.ref ot, .ref ob] : List Value) ++ List.replicate (3 - (lg_sl ([.ref ot, .ref ob] : List Value)).length) Slot.unset).toArray = ls at hl ⊢
  have hl : lv_has ls 3 [(0, .ref ot), (1, .ref ob)] := hl
  refine lv_aload_n hx hb dZK_packTile_0 rfl (lv_at hl 1 rfl) ?_
  refine lv_iconst (v := (0 : Int32)) hx hb dZK_packTile_1 (by decide) ?_
  refine va_put (D := (dC, dI)) (ci := 0) (v := .int (0 : Int32)) (ty := .int) (C := RZB) (T := TZB) (N := 2) hx hb hts inZB tyZB tyZB_ok nmZB hown hK hP hD hS 2 rfl rfl 1 (by decide) (hts _ mm_80) (fun _ h9 => h9) rfl (by decide +kernel) rfl rfl (Nat.le_of_ble_eq_true rfl) dZK_packTile_2 (fun H locs hP hD hS => ?_)
  have hP : va_P (dC, dI) vwCl [(ot, .inr (4, [.ref ota, .int tw, .int th])), (ota, .inl (cI, 64, .inl tf)), (ob, .inr (0, [.ref oba, .int (0 : Int32)])), (oba, .inl (cI, 256, .inl bf))] H := hP
  have hD : va_D A [(ot, .inr (4, [.ref ota, .int tw, .int th])), (ota, .inl (cI, 64, .inl tf)), (ob, .inr (0, [.ref oba, .int (0 : Int32)])), (oba, .inl (cI, 256, .inl bf))] := hD
  refine lv_aload_n hx hb dZK_packTile_5 rfl (lv_at hl 1 rfl) ?_
  refine lv_aload_n hx hb dZK_packTile_6 rfl (lv_at hl 0 rfl) ?_
  refine va_get (D := (dC, dI)) (ci := 4) (v := .int tw) (C := RZT) (T := TZT) (N := 3) hx hb hts inZT hown hK hP 0 rfl rfl 1 (by decide) (hts _ mm_120) (fun _ h9 => h9) rfl dZK_packTile_7 ?_
  have hPc := hP.sub (ws' := [(ob, .inr (0, [.ref oba, .int (0 : Int32)])), (oba, .inl (cI, 256, .inl bf))]) [2, 3] rfl
  have hDc := hD.sub (ws' := [(ob, .inr (0, [.ref oba, .int (0 : Int32)])), (oba, .inl (cI, 256, .inl bf))]) [2, 3] (by decide) rfl
  have hFc := va_free (wc := [(ob, .inr (0, [.ref oba, .int (0 : Int32)])), (oba, .inl (cI, 256, .inl bf))]) hD hS hA [2, 3] rfl
  refine va_callv (va_runV (As := [.int tw]) (rest := []) ⟨hx, hb, hml, hown, hts⟩ (kt_ZB_append l dC dI cI ob oba _ (0 : Int32) bf tw _ hw) (cwV 1 hts (tb_V mm_481 mm_482 mm_483 mm_5 mm_484) rfl rfl rfl (by decide +kernel) ⟨Nat.le_of_ble_eq_true rfl, Nat.le_of_ble_eq_true rfl⟩) ⟨gw_blind, va_recv hK hPc (ci := 0) (q0 := 0) rfl rfl, fun U hU hW => gw_pre hPc hDc hK hE hU hW⟩ rfl rfl hl.1 rfl (lv_room (Nat.le_of_ble_eq_true rfl)) dZK_packTile_10 ⟨Nat.le_of_ble_eq_true rfl, Nat.le_of_ble_eq_true rfl⟩) hS (fun q _ h => hFc q h) hFc (fun u t H1 locs ht hvm hw hB hz1 hk1 hS => ?_)
  obtain ⟨bl_1, bf_2⟩ := u
  obtain ⟨hP1, hK1, hD1⟩ := hB
  rw [ht] at hP1
  try dsimp only at hw
  obtain ⟨hP, hD⟩ := va_join (wr := [(ot, .inr (4, [.ref ota, .int tw, .int th])), (ota, .inl (cI, 64, .inl tf))]) (w1 := [(ob, .inr (0, [.ref oba, .int bl_1])), (oba, .inl (cI, 256, .inl bf_2))]) hP hD [2, 3] [0, 1] rfl rfl (by decide) (by decide) hk1 hFc hP1 hD1
  generalize H1 = H at hP hS ⊢
  have hP : va_P (dC, dI) vwCl [(ot, .inr (4, [.ref ota, .int tw, .int th])), (ota, .inl (cI, 64, .inl tf)), (ob, .inr (0, [.ref oba, .int bl_1])), (oba, .inl (cI, 256, .inl bf_2))] H := hP
  have hD : va_D A [(ot, .inr (4, [.ref ota, .int tw, .int th])), (ota, .inl (cI, 64, .inl tf)), (ob, .inr (0, [.ref oba, .int bl_1])), (oba, .inl (cI, 256, .inl bf_2))] := hD
  refine lv_aload_n hx hb dZK_packTile_13 rfl (lv_at hl 1 rfl) ?_
  refine lv_aload_n hx hb dZK_packTile_14 rfl (lv_at hl 0 rfl) ?_
  refine va_get (D := (dC, dI)) (ci := 4) (v := .int th) (C := RZT) (T := TZT) (N := 3) hx hb hts inZT hown hK hP 0 rfl rfl 2 (by decide) (hts _ mm_125) (fun _ h9 => h9) rfl dZK_packTile_15 ?_
  have hPc := hP.sub (ws' := [(ob, .inr (0, [.ref oba, .int bl_1])), (oba, .inl (cI, 256, .inl bf_2))]) [2, 3] rfl
  have hDc := hD.sub (ws' := [(ob, .inr (0, [.ref oba, .int bl_1])), (oba, .inl (cI, 256, .inl bf_2))]) [2, 3] (by decide) rfl
  have hFc := va_free (wc := [(ob, .inr (0, [.ref oba, .int bl_1])), (oba, .inl (cI, 256, .inl bf_2))]) hD hS hA [2, 3] rfl
  refine va_callv (va_runV (As := [.int th]) (rest := []) ⟨hx, hb, hml, hown, hts⟩ (kt_ZB_append l dC dI cI ob oba _ bl_1 bf_2 th _ hw) (cwV 1 hts (tb_V mm_481 mm_482 mm_483 mm_5 mm_484) rfl rfl rfl (by decide +kernel) ⟨Nat.le_of_ble_eq_true rfl, Nat.le_of_ble_eq_true rfl⟩) ⟨gw_blind, va_recv hK hPc (ci := 0) (q0 := 0) rfl rfl, fun U hU hW => gw_pre hPc hDc hK hE hU hW⟩ rfl rfl hl.1 rfl (lv_room (Nat.le_of_ble_eq_true rfl)) dZK_packTile_18 ⟨Nat.le_of_ble_eq_true rfl, Nat.le_of_ble_eq_true rfl⟩) hS (fun q _ h => hFc q h) hFc (fun u t H1 locs ht hvm hw hB hz1 hk1 hS => ?_)
  obtain ⟨bl_3, bf_4⟩ := u
  obtain ⟨hP1, hK1, hD1⟩ := hB
  rw [ht] at hP1
  try dsimp only at hw
  obtain ⟨hP, hD⟩ := va_join (wr := [(ot, .inr (4, [.ref ota, .int tw, .int th])), (ota, .inl (cI, 64, .inl tf))]) (w1 := [(ob, .inr (0, [.ref oba, .int bl_3])), (oba, .inl (cI, 256, .inl bf_4))]) hP hD [2, 3] [0, 1] rfl rfl (by decide) (by decide) hk1 hFc hP1 hD1
  generalize H1 = H at hP hS ⊢
  have hP : va_P (dC, dI) vwCl [(ot, .inr (4, [.ref ota, .int tw, .int th])), (ota, .inl (cI, 64, .inl tf)), (ob, .inr (0, [.ref oba, .int bl_3])), (oba, .inl (cI, 256, .inl bf_4))] H := hP
  have hD : va_D A [(ot, .inr (4, [.ref ota, .int tw, .int th])), (ota, .inl (cI, 64, .inl tf)), (ob, .inr (0, [.ref oba, .int bl_3])), (oba, .inl (cI, 256, .inl bf_4))] := hD
  refine lv_iconst (v := (0 : Int32)) hx hb dZK_packTile_21 (by decide) ?_
  refine lv_istore_n (lv' := [(2, .int (0 : Int32)), (0, .ref ot), (1, .ref ob)]) hx hb dZK_packTile_22 rfl hl (by decide) rfl (fun ls hl => ?_)
  have lp23 : ∀ K23 : Int32 → Int32 → (Nat → Int32) → Prop, (∀ (x2_23 : Int32) (v1_23_ob : Int32) (f_23_oba : Nat → Int32), K23 x2_23 v1_23_ob f_23_oba → ∀ (H : Heap) (locs : List Loc), va_P (dC, dI) vwCl [(ot, .inr (4, [.ref ota, .int tw, .int th])), (ota, .inl (cI, 64, .inl tf)), (ob, .inr (0, [.ref oba, .int v1_23_ob])), (oba, .inl (cI, 256, .inl f_23_oba))] H → va_D A [(ot, .inr (4, [.ref ota, .int tw, .int th])), (ota, .inl (cI, 64, .inl tf)), (ob, .inr (0, [.ref oba, .int v1_23_ob])), (oba, .inl (cI, 256, .inl f_23_oba))] → va_S A s.heap H locs → ∀ ls : Array Slot, lv_has ls 3 [(2, .int x2_23), (0, .ref ot), (1, .ref ob)] → W p l e (headSpec wsZK_packTile rm_ZK_packTile).room s m args below meth c H locs 0 0 Q9 (F0 m 43 ls [])) → ∀ (n : Nat) (x2_23 : Int32) (v1_23_ob : Int32) (f_23_oba : Nat → Int32), lp_ZK_packTile_23 tw th tf bl bf bl_1 bf_2 bl_3 bf_4 post K23 n x2_23 v1_23_ob f_23_oba → ∀ (H : Heap) (locs : List Loc), va_P (dC, dI) vwCl [(ot, .inr (4, [.ref ota, .int tw, .int th])), (ota, .inl (cI, 64, .inl tf)), (ob, .inr (0, [.ref oba, .int v1_23_ob])), (oba, .inl (cI, 256, .inl f_23_oba))] H → va_D A [(ot, .inr (4, [.ref ota, .int tw, .int th])), (ota, .inl (cI, 64, .inl tf)), (ob, .inr (0, [.ref oba, .int v1_23_ob])), (oba, .inl (cI, 256, .inl f_23_oba))] → va_S A s.heap H locs → ∀ ls : Array Slot, lv_has ls 3 [(2, .int x2_23), (0, .ref ot), (1, .ref ob)] → W p l e (headSpec wsZK_packTile rm_ZK_packTile).room s m args below meth c H locs 0 0 Q9 (F0 m 23 ls []) := by
    intro K23 aft23 n
    induction n with
    | zero => intro x2_23 v1_23_ob f_23_oba hw; exact False.elim hw
    | succ n ih23 =>
      intro x2_23 v1_23_ob f_23_oba hw H locs hP hD hS ls hl
      refine lv_iload_n hx hb dZK_packTile_23 rfl (lv_at hl 0 rfl) ?_
      refine lv_aload_n hx hb dZK_packTile_24 rfl (lv_at hl 1 rfl) ?_
      refine va_get (D := (dC, dI)) (ci := 4) (v := .int th) (C := RZT) (T := TZT) (N := 3) hx hb hts inZT hown hK hP 0 rfl rfl 2 (by decide) (hts _ mm_125) (fun _ h9 => h9) rfl dZK_packTile_25 ?_
      refine lv_icmp_ge (tgt := 43) hx hb dZK_packTile_28 (by decide) (fun c_5 => ?_) (fun c_5 => ?_)
      · have hw := hw.1 c_5
        exact aft23 x2_23 v1_23_ob f_23_oba hw _ _ (hP.sub [0, 1, 2, 3] rfl) (hD.sub [0, 1, 2, 3] (by decide) rfl) hS ls (lv_sub hl [0, 1, 2] rfl)
      · have hw := hw.2 c_5
        refine lv_aload_n hx hb dZK_packTile_31 rfl (lv_at hl 1 rfl) ?_
        refine lv_iload_n hx hb dZK_packTile_32 rfl (lv_at hl 0 rfl) ?_
        refine lv_aload_n hx hb dZK_packTile_33 rfl (lv_at hl 2 rfl) ?_
        have hPc := hP.sub (ws' := [(ot, .inr (4, [.ref ota, .int tw, .int th])), (ota, .inl (cI, 64, .inl tf)), (ob, .inr (0, [.ref oba, .int v1_23_ob])), (oba, .inl (cI, 256, .inl f_23_oba))]) [0, 1, 2, 3] rfl
        have hDc := hD.sub (ws' := [(ot, .inr (4, [.ref ota, .int tw, .int th])), (ota, .inl (cI, 64, .inl tf)), (ob, .inr (0, [.ref oba, .int v1_23_ob])), (oba, .inl (cI, 256, .inl f_23_oba))]) [0, 1, 2, 3] (by decide) rfl
        have hFc := va_free (wc := [(ot, .inr (4, [.ref ota, .int tw, .int th])), (ota, .inl (cI, 64, .inl tf)), (ob, .inr (0, [.ref oba, .int v1_23_ob])), (oba, .inl (cI, 256, .inl f_23_oba))]) hD hS hA [0, 1, 2, 3] rfl
        refine va_callv (va_runS (As := [.ref ot, .int x2_23, .ref ob]) (rest := []) ⟨hx, hb, hml, hown, hts⟩ (kt_ZK_packRow l dC dI cI ot ota ob oba _ tw th tf v1_23_ob f_23_oba x2_23 _ hw) (va_cwS 3 hts (tb_S mm_489 mm_490 mm_14 mm_491) rfl rfl rfl (by decide +kernel) ⟨Nat.le_of_ble_eq_true rfl, Nat.le_of_ble_eq_true rfl⟩) ⟨gw_blind, fun U hU hW => gw_pre hPc hDc hK hE hU hW⟩ rfl rfl hl.1 rfl (lv_room (Nat.le_of_ble_eq_true rfl)) dZK_packTile_34 ⟨Nat.le_of_ble_eq_true rfl, Nat.le_of_ble_eq_true rfl⟩) hS (fun q _ h => hFc q h) hFc (fun u t H1 locs ht hvm hw hB hz1 hk1 hS => ?_)
        obtain ⟨bl_6, bf_7⟩ := u
        obtain ⟨hP1, hK1, hD1⟩ := hB
        rw [ht] at hP1
        try dsimp only at hw
        obtain ⟨hP, hD⟩ := va_join (wr := []) (w1 := [(ot, .inr (4, [.ref ota, .int tw, .int th])), (ota, .inl (cI, 64, .inl tf)), (ob, .inr (0, [.ref oba, .int bl_6])), (oba, .inl (cI, 256, .inl bf_7))]) hP hD [0, 1, 2, 3] [] rfl rfl (by decide) (by decide) hk1 hFc hP1 hD1
        generalize H1 = H at hP hS ⊢
        have hP : va_P (dC, dI) vwCl [(ot, .inr (4, [.ref ota, .int tw, .int th])), (ota, .inl (cI, 64, .inl tf)), (ob, .inr (0, [.ref oba, .int bl_6])), (oba, .inl (cI, 256, .inl bf_7))] H := hP
        have hD : va_D A [(ot, .inr (4, [.ref ota, .int tw, .int th])), (ota, .inl (cI, 64, .inl tf)), (ob, .inr (0, [.ref oba, .int bl_6])), (oba, .inl (cI, 256, .inl bf_7))] := hD
        refine lv_iinc (v := x2_23 + (1 : Int32)) (lv' := [(2, .int (x2_23 + (1 : Int32))), (0, .ref ot), (1, .ref ob)]) hx hb dZK_packTile_37 hl (k := 0) rfl rfl (by decide) rfl (fun ls hl => ?_)
        refine lv_goto (tgt := 23) hx hb dZK_packTile_40 (by decide) ?_
        exact ih23 (x2_23 + (1 : Int32)) bl_6 bf_7 hw _ _ (hP.sub [0, 1, 2, 3] rfl) (hD.sub [0, 1, 2, 3] (by decide) rfl) hS ls (lv_sub hl [0, 1, 2] rfl)
  obtain ⟨n23, hw⟩ := hw
  refine lp23 _ (fun x2_23e v1_23e_ob f_23e_oba hw H locs hP hD hS ls hl => ?_) n23 (0 : Int32) bl_3 bf_4 hw _ _ (hP.sub [0, 1, 2, 3] rfl) (hD.sub [0, 1, 2, 3] (by decide) rfl) hS ls (lv_sub hl [0, 1, 2] rfl)
  refine lv_aload_n hx hb dZK_packTile_43 rfl (lv_at hl 2 rfl) ?_
  refine lv_aload_n hx hb dZK_packTile_44 rfl (lv_at hl 2 rfl) ?_
  refine va_get (D := (dC, dI)) (ci := 0) (v := .int v1_23e_ob) (C := RZB) (T := TZB) (N := 2) hx hb hts inZB hown hK hP 2 rfl rfl 1 (by decide) (hts _ mm_80) (fun _ h9 => h9) rfl dZK_packTile_45 ?_
  have hPc := hP.sub (ws' := [(ob, .inr (0, [.ref oba, .int v1_23e_ob])), (oba, .inl (cI, 256, .inl f_23e_oba))]) [2, 3] rfl
  refine vp_callSi (va_runV (As := [.int v1_23e_ob]) (rest := []) ⟨hx, hb, hml, hown, hts⟩ (kt_ZB_sumOfFirst l dC dI cI ob oba v1_23e_ob f_23e_oba v1_23e_ob _ hw) (cwV 1 hts (tb_V mm_502 mm_174 mm_175 mm_5 mm_176) rfl rfl rfl (by decide +kernel) ⟨Nat.le_of_ble_eq_true rfl, Nat.le_of_ble_eq_true rfl⟩) ⟨gr_blind, va_recv hK hPc (ci := 0) (q0 := 0) rfl rfl, fun U hU hW => gr_pre hPc hK hE hU hW⟩ rfl rfl hl.1 rfl (lv_room (Nat.le_of_ble_eq_true rfl)) dZK_packTile_48 ⟨Nat.le_of_ble_eq_true rfl, Nat.le_of_ble_eq_true rfl⟩).run (fun r_8 hw => ?_)
  refine lv_istore_n (lv' := [(2, .int r_8), (0, .ref ot), (1, .ref ob)]) hx hb dZK_packTile_51 rfl hl (by decide) rfl (fun ls hl => ?_)
  refine lv_aload_n hx hb dZK_packTile_52 rfl (lv_at hl 2 rfl) ?_
  refine lv_iload_n hx hb dZK_packTile_53 rfl (lv_at hl 0 rfl) ?_
  refine lv_sipush (v := (255 : Int32)) hx hb dZK_packTile_54 (by decide) ?_
  refine lv_iand hx hb dZK_packTile_57 ?_
  have hPc := hP.sub (ws' := [(ob, .inr (0, [.ref oba, .int v1_23e_ob])), (oba, .inl (cI, 256, .inl f_23e_oba))]) [2, 3] rfl
  have hDc := hD.sub (ws' := [(ob, .inr (0, [.ref oba, .int v1_23e_ob])), (oba, .inl (cI, 256, .inl f_23e_oba))]) [2, 3] (by decide) rfl
  have hFc := va_free (wc := [(ob, .inr (0, [.ref oba, .int v1_23e_ob])), (oba, .inl (cI, 256, .inl f_23e_oba))]) hD hS hA [2, 3] rfl
  refine va_callv (va_runV (As := [.int (r_8 &&& (255 : Int32))]) (rest := []) ⟨hx, hb, hml, hown, hts⟩ (kt_ZB_append l dC dI cI ob oba _ v1_23e_ob f_23e_oba (r_8 &&& (255 : Int32)) _ hw) (cwV 1 hts (tb_V mm_481 mm_482 mm_483 mm_5 mm_484) rfl rfl rfl (by decide +kernel) ⟨Nat.le_of_ble_eq_true rfl, Nat.le_of_ble_eq_true rfl⟩) ⟨gw_blind, va_recv hK hPc (ci := 0) (q0 := 0) rfl rfl, fun U hU hW => gw_pre hPc hDc hK hE hU hW⟩ rfl rfl hl.1 rfl (lv_room (Nat.le_of_ble_eq_true rfl)) dZK_packTile_58 ⟨Nat.le_of_ble_eq_true rfl, Nat.le_of_ble_eq_true rfl⟩) hS (fun q _ h => hFc q h) hFc (fun u t H1 locs ht hvm hw hB hz1 hk1 hS => ?_)
  obtain ⟨bl_9, bf_10⟩ := u
  obtain ⟨hP1, hK1, hD1⟩ := hB
  rw [ht] at hP1
  try dsimp only at hw
  obtain ⟨hP, hD⟩ := va_join (wr := [(ot, .inr (4, [.ref ota, .int tw, .int th])), (ota, .inl (cI, 64, .inl tf))]) (w1 := [(ob, .inr (0, [.ref oba, .int bl_9])), (oba, .inl (cI, 256, .inl bf_10))]) hP hD [2, 3] [0, 1] rfl rfl (by decide) (by decide) hk1 hFc hP1 hD1
  generalize H1 = H at hP hS ⊢
  have hP : va_P (dC, dI) vwCl [(ot, .inr (4, [.ref ota, .int tw, .int th])), (ota, .inl (cI, 64, .inl tf)), (ob, .inr (0, [.ref oba, .int bl_9])), (oba, .inl (cI, 256, .inl bf_10))] H := hP
  have hD : va_D A [(ot, .inr (4, [.ref ota, .int tw, .int th])), (ota, .inl (cI, 64, .inl tf)), (ob, .inr (0, [.ref oba, .int bl_9])), (oba, .inl (cI, 256, .inl bf_10))] := hD
  refine lv_aload_n hx hb dZK_packTile_61 rfl (lv_at hl 2 rfl) ?_
  refine lv_iload_n hx hb dZK_packTile_62 rfl (lv_at hl 0 rfl) ?_
  refine lv_bipush (v := (8 : Int32)) hx hb dZK_packTile_63 (by decide) ?_
  refine lv_ishr hx hb dZK_packTile_65 ?_
  have hPc := hP.sub (ws' := [(ob, .inr (0, [.ref oba, .int bl_9])), (oba, .inl (cI, 256, .inl bf_10))]) [2, 3] rfl
  have hDc := hD.sub (ws' := [(ob, .inr (0, [.ref oba, .int bl_9])), (oba, .inl (cI, 256, .inl bf_10))]) [2, 3] (by decide) rfl
  have hFc := va_free (wc := [(ob, .inr (0, [.ref oba, .int bl_9])), (oba, .inl (cI, 256, .inl bf_10))]) hD hS hA [2, 3] rfl
  refine va_callv (va_runV (As := [.int (r_8 >>> ((8 : Int32) &&& 31))]) (rest := []) ⟨hx, hb, hml, hown, hts⟩ (kt_ZB_append l dC dI cI ob oba _ bl_9 bf_10 (r_8 >>> ((8 : Int32) &&& 31)) _ hw) (cwV 1 hts (tb_V mm_481 mm_482 mm_483 mm_5 mm_484) rfl rfl rfl (by decide +kernel) ⟨Nat.le_of_ble_eq_true rfl, Nat.le_of_ble_eq_true rfl⟩) ⟨gw_blind, va_recv hK hPc (ci := 0) (q0 := 0) rfl rfl, fun U hU hW => gw_pre hPc hDc hK hE hU hW⟩ rfl rfl hl.1 rfl (lv_room (Nat.le_of_ble_eq_true rfl)) dZK_packTile_66 ⟨Nat.le_of_ble_eq_true rfl, Nat.le_of_ble_eq_true rfl⟩) hS (fun q _ h => hFc q h) hFc (fun u t H1 locs ht hvm hw hB hz1 hk1 hS => ?_)
  obtain ⟨bl_11, bf_12⟩ := u
  obtain ⟨hP1, hK1, hD1⟩ := hB
  rw [ht] at hP1
  try dsimp only at hw
  obtain ⟨hP, hD⟩ := va_join (wr := [(ot, .inr (4, [.ref ota, .int tw, .int th])), (ota, .inl (cI, 64, .inl tf))]) (w1 := [(ob, .inr (0, [.ref oba, .int bl_11])), (oba, .inl (cI, 256, .inl bf_12))]) hP hD [2, 3] [0, 1] rfl rfl (by decide) (by decide) hk1 hFc hP1 hD1
  generalize H1 = H at hP hS ⊢
  have hP : va_P (dC, dI) vwCl [(ot, .inr (4, [.ref ota, .int tw, .int th])), (ota, .inl (cI, 64, .inl tf)), (ob, .inr (0, [.ref oba, .int bl_11])), (oba, .inl (cI, 256, .inl bf_12))] H := hP
  have hD : va_D A [(ot, .inr (4, [.ref ota, .int tw, .int th])), (ota, .inl (cI, 64, .inl tf)), (ob, .inr (0, [.ref oba, .int bl_11])), (oba, .inl (cI, 256, .inl bf_12))] := hD
  have hP9 := hP.sub (ws' := [(ot, .inr (4, [.ref ota, .int tw, .int th])), (ota, .inl (cI, 64, .inl tf)), (ob, .inr (0, [.ref oba, .int bl_11])), (oba, .inl (cI, 256, .inl bf_12))]) [0, 1, 2, 3] rfl
  have hD9 := hD.sub (ws' := [(ot, .inr (4, [.ref ota, .int tw, .int th])), (ota, .inl (cI, 64, .inl tf)), (ob, .inr (0, [.ref oba, .int bl_11])), (oba, .inl (cI, 256, .inl bf_12))]) [0, 1, 2, 3] (by decide) rfl
  subst hQ9
  exact W.vret hx hb hr (fun t ht hW => ⟨⟨(bl_11, bf_12), rfl, hw, by rw [ht]; exact hP9, va_K.moved hW.alike hK, hD9⟩, hS.F ht⟩) hS.2.2 dZK_packTile_69
