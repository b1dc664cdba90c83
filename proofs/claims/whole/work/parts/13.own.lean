theorem dZQ_isWithin_0 : decode cZQ_isWithin 0 = .ok (.iload_n 0, 1) := by decide +kernel
theorem dZQ_isWithin_1 : decode cZQ_isWithin 1 = .ok (.ifCond .lt 12, 3) := by decide +kernel
theorem dZQ_isWithin_4 : decode cZQ_isWithin 4 = .ok (.iload_n 0, 1) := by decide +kernel
theorem dZQ_isWithin_5 : decode cZQ_isWithin 5 = .ok (.iload_n 1, 1) := by decide +kernel
theorem dZQ_isWithin_6 : decode cZQ_isWithin 6 = .ok (.if_icmp .ge 7, 3) := by decide +kernel
theorem dZQ_isWithin_9 : decode cZQ_isWithin 9 = .ok (.iconst 1, 1) := by decide +kernel
theorem dZQ_isWithin_10 : decode cZQ_isWithin 10 = .ok (.goto 4, 3) := by decide +kernel
theorem dZQ_isWithin_13 : decode cZQ_isWithin 13 = .ok (.iconst 0, 1) := by decide +kernel
theorem dZQ_isWithin_14 : decode cZQ_isWithin 14 = .ok (.ireturn, 1) := by decide +kernel
abbrev wsZQ_isWithin : List Cond := .code yZQ_isWithin cZQ_isWithin 2 (some .boolean) :: tbg
def wp_ZQ_isWithin (a1 : Int32) (a2 : Int32) (post : Int32 → Prop) : Prop := ((a1 < (0 : Int32) → (post (0 : Int32))) ∧ (¬ a1 < (0 : Int32) → ((a2 ≤ a1 → (post (0 : Int32))) ∧ (¬ a2 ≤ a1 → (post (1 : Int32))))))
abbrev rm_ZQ_isWithin : Room := { frames := 0, cells := 0, slots := 0, locals := 0 }
set_option maxHeartbeats 4000000 in
set_option maxRecDepth 100000 in
theorem kt_ZQ_isWithin (l : Launch) (dC : Nat → ClassId) (dI : Nat → Nat → Nat) (cI : ClassId) (a1 : Int32) (a2 : Int32) (post : Int32 → Prop) (hw : wp_ZQ_isWithin a1 a2 post) : Met l yZQ_isWithin wsZQ_isWithin rm_ZQ_isWithin (gr_Pc dC dI [(cI, .int)] [.int a1, .int a2] []) (vp_Si post) 0 0 (fun _ => False) := by
  refine Met.ofW (cc := cZQ_isWithin) (maxL := 2) (ret := (some .boolean)) (by decide) rfl ?_
  intro p e s m args below meth c s₁ B hml hv
  obtain ⟨ha9, hP, hK, hE⟩ := hv
  have hx := B.exec
  have hb := B.bytes
  have hr := B.returns
  have hts0 := atoms_spec (ws := wsZQ_isWithin) B.pre
  have hts : ∀ w ∈ tbg, w.before args s = true := fun w h => hts0 w (List.mem_cons_of_mem _ h)
  have hown : s.vm.findClass RZQ = some m.cls := findClass_of_methodNamed B.named
  have hlocks := B.notSynchronized
  refine gx_Q (fun Q9 hQ9 => ?_)
  have hl := lv_entry ([.int a1, .int a2]) (n := 2) (Nat.le_of_ble_eq_true rfl)
  have he9 : entryFrame m args 2 = F0 m 0 ((lg_sl [.int a1, .int a2] ++ List.replicate (2 - (lg_sl ([.int a1, .int a2] : List Value)).length) Slot.unset).toArray) [] := by rw [ha9]; exact lg_entry_eq m [.int a1, .int a2] 2
  rw [he9]
  generalize (lg_sl ([.int a1, .int a2] : List Value) ++ List.replicate (2 - (lg_sl ([.int a1, .int a2] : List Value)).length) Slot.unset).toArray = ls at hl ⊢
  have hl : lv_has ls 2 [(0, .int a1), (1, .int a2)] := hl
  refine lv_iload_n hx hb dZQ_isWithin_0 rfl (lv_at hl 0 rfl) ?_
  refine lv_if_lt (tgt := 13) hx hb dZQ_isWithin_1 (by decide) (fun c_1 => ?_) (fun c_1 => ?_)
  · have hw := hw.1 c_1
    refine lv_iconst (v := (0 : Int32)) hx hb dZQ_isWithin_13 (by decide) ?_
    subst hQ9
    exact W.zret (v := (0 : Int32)) (ty := .boolean) hx hb hr rfl (fun t ht hW => ⟨(0 : Int32), rfl, hw, ht⟩) (fun q h => nomatch h) dZQ_isWithin_14
  · have hw := hw.2 c_1
    refine lv_iload_n hx hb dZQ_isWithin_4 rfl (lv_at hl 0 rfl) ?_
    refine lv_iload_n hx hb dZQ_isWithin_5 rfl (lv_at hl 1 rfl) ?_
    refine lv_icmp_ge (tgt := 13) hx hb dZQ_isWithin_6 (by decide) (fun c_2 => ?_) (fun c_2 => ?_)
    · have hw := hw.1 c_2
      refine lv_iconst (v := (0 : Int32)) hx hb dZQ_isWithin_13 (by decide) ?_
      subst hQ9
      exact W.zret (v := (0 : Int32)) (ty := .boolean) hx hb hr rfl (fun t ht hW => ⟨(0 : Int32), rfl, hw, ht⟩) (fun q h => nomatch h) dZQ_isWithin_14
    · have hw := hw.2 c_2
      refine lv_iconst (v := (1 : Int32)) hx hb dZQ_isWithin_9 (by decide) ?_
      refine lv_goto (tgt := 14) hx hb dZQ_isWithin_10 (by decide) ?_
      subst hQ9
      exact W.zret (v := (1 : Int32)) (ty := .boolean) hx hb hr rfl (fun t ht hW => ⟨(1 : Int32), rfl, hw, ht⟩) (fun q h => nomatch h) dZQ_isWithin_14
theorem dZQ_isSample_0 : decode cZQ_isSample 0 = .ok (.iload_n 0, 1) := by decide +kernel
theorem dZQ_isSample_1 : decode cZQ_isSample 1 = .ok (.ifCond .lt 14, 3) := by decide +kernel
theorem dZQ_isSample_4 : decode cZQ_isSample 4 = .ok (.iload_n 0, 1) := by decide +kernel
theorem dZQ_isSample_5 : decode cZQ_isSample 5 = .ok (.sipush 255, 3) := by decide +kernel
theorem dZQ_isSample_8 : decode cZQ_isSample 8 = .ok (.if_icmp .gt 7, 3) := by decide +kernel
theorem dZQ_isSample_11 : decode cZQ_isSample 11 = .ok (.iconst 1, 1) := by decide +kernel
theorem dZQ_isSample_12 : decode cZQ_isSample 12 = .ok (.goto 4, 3) := by decide +kernel
theorem dZQ_isSample_15 : decode cZQ_isSample 15 = .ok (.iconst 0, 1) := by decide +kernel
theorem dZQ_isSample_16 : decode cZQ_isSample 16 = .ok (.ireturn, 1) := by decide +kernel
abbrev wsZQ_isSample : List Cond := .code yZQ_isSample cZQ_isSample 1 (some .boolean) :: tbg
def wp_ZQ_isSample (a1 : Int32) (post : Int32 → Prop) : Prop := ((a1 < (0 : Int32) → (post (0 : Int32))) ∧ (¬ a1 < (0 : Int32) → (((255 : Int32) < a1 → (post (0 : Int32))) ∧ (¬ (255 : Int32) < a1 → (post (1 : Int32))))))
abbrev rm_ZQ_isSample : Room := { frames := 0, cells := 0, slots := 0, locals := 0 }
set_option maxHeartbeats 4000000 in
set_option maxRecDepth 100000 in
theorem kt_ZQ_isSample (l : Launch) (dC : Nat → ClassId) (dI : Nat → Nat → Nat) (cI : ClassId) (a1 : Int32) (post : Int32 → Prop) (hw : wp_ZQ_isSample a1 post) : Met l yZQ_isSample wsZQ_isSample rm_ZQ_isSample (gr_Pc dC dI [(cI, .int)] [.int a1] []) (vp_Si post) 0 0 (fun _ => False) := by
  refine Met.ofW (cc := cZQ_isSample) (maxL := 1) (ret := (some .boolean)) (by decide) rfl ?_
  intro p e s m args below meth c s₁ B hml hv
  obtain ⟨ha9, hP, hK, hE⟩ := hv
  have hx := B.exec
  have hb := B.bytes
  have hr := B.returns
  have hts0 := atoms_spec (ws := wsZQ_isSample) B.pre
  have hts : ∀ w ∈ tbg, w.before args s = true := fun w h => hts0 w (List.mem_cons_of_mem _ h)
  have hown : s.vm.findClass RZQ = some m.cls := findClass_of_methodNamed B.named
  have hlocks := B.notSynchronized
  refine gx_Q (fun Q9 hQ9 => ?_)
  have hl := lv_entry ([.int a1]) (n := 1) (Nat.le_of_ble_eq_true rfl)
  have he9 : entryFrame m args 1 = F0 m 0 ((lg_sl [.int a1] ++ List.replicate (1 - (lg_sl ([.int a1] : List Value)).length) Slot.unset).toArray) [] := by rw [ha9]; exact lg_entry_eq m [.int a1] 1
  rw [he9]
  generalize (lg_sl ([.int a1] : List Value) ++ List.replicate (1 - (lg_sl ([.int a1] : List Value)).length) Slot.unset).toArray = ls at hl ⊢
  have hl : lv_has ls 1 [(0, .int a1)] := hl
  refine lv_iload_n hx hb dZQ_isSample_0 rfl (lv_at hl 0 rfl) ?_
  refine lv_if_lt (tgt := 15) hx hb dZQ_isSample_1 (by decide) (fun c_1 => ?_) (fun c_1 => ?_)
  · have hw := hw.1 c_1
    refine lv_iconst (v := (0 : Int32)) hx hb dZQ_isSample_15 (by decide) ?_
    subst hQ9
    exact W.zret (v := (0 : Int32)) (ty := .boolean) hx hb hr rfl (fun t ht hW => ⟨(0 : Int32), rfl, hw, ht⟩) (fun q h => nomatch h) dZQ_isSample_16
  · have hw := hw.2 c_1
    refine lv_iload_n hx hb dZQ_isSample_4 rfl (lv_at hl 0 rfl) ?_
    refine lv_sipush (v := (255 : Int32)) hx hb dZQ_isSample_5 (by decide) ?_
    refine lv_icmp_gt (tgt := 15) hx hb dZQ_isSample_8 (by decide) (fun c_2 => ?_) (fun c_2 => ?_)
    · have hw := hw.1 c_2
      refine lv_iconst (v := (0 : Int32)) hx hb dZQ_isSample_15 (by decide) ?_
      subst hQ9
      exact W.zret (v := (0 : Int32)) (ty := .boolean) hx hb hr rfl (fun t ht hW => ⟨(0 : Int32), rfl, hw, ht⟩) (fun q h => nomatch h) dZQ_isSample_16
    · have hw := hw.2 c_2
      refine lv_iconst (v := (1 : Int32)) hx hb dZQ_isSample_11 (by decide) ?_
      refine lv_goto (tgt := 16) hx hb dZQ_isSample_12 (by decide) ?_
      subst hQ9
      exact W.zret (v := (1 : Int32)) (ty := .boolean) hx hb hr rfl (fun t ht hW => ⟨(1 : Int32), rfl, hw, ht⟩) (fun q h => nomatch h) dZQ_isSample_16
theorem dZQ_greatestDivisor_0 : decode cZQ_greatestDivisor 0 = .ok (.iload_n 0, 1) := by decide +kernel
theorem dZQ_greatestDivisor_1 : decode cZQ_greatestDivisor 1 = .ok (.istore_n 2, 1) := by decide +kernel
theorem dZQ_greatestDivisor_2 : decode cZQ_greatestDivisor 2 = .ok (.iload_n 1, 1) := by decide +kernel
theorem dZQ_greatestDivisor_3 : decode cZQ_greatestDivisor 3 = .ok (.istore_n 3, 1) := by decide +kernel
theorem dZQ_greatestDivisor_4 : decode cZQ_greatestDivisor 4 = .ok (.iconst 0, 1) := by decide +kernel
theorem dZQ_greatestDivisor_5 : decode cZQ_greatestDivisor 5 = .ok (.istore 4, 2) := by decide +kernel
theorem dZQ_greatestDivisor_7 : decode cZQ_greatestDivisor 7 = .ok (.iload 4, 2) := by decide +kernel
theorem dZQ_greatestDivisor_9 : decode cZQ_greatestDivisor 9 = .ok (.bipush 64, 2) := by decide +kernel
theorem dZQ_greatestDivisor_11 : decode cZQ_greatestDivisor 11 = .ok (.if_icmp .ge 23, 3) := by decide +kernel
theorem dZQ_greatestDivisor_14 : decode cZQ_greatestDivisor 14 = .ok (.iload_n 3, 1) := by decide +kernel
theorem dZQ_greatestDivisor_15 : decode cZQ_greatestDivisor 15 = .ok (.ifCond .eq 19, 3) := by decide +kernel
theorem dZQ_greatestDivisor_18 : decode cZQ_greatestDivisor 18 = .ok (.iload_n 2, 1) := by decide +kernel
theorem dZQ_greatestDivisor_19 : decode cZQ_greatestDivisor 19 = .ok (.iload_n 3, 1) := by decide +kernel
theorem dZQ_greatestDivisor_20 : decode cZQ_greatestDivisor 20 = .ok (.irem, 1) := by decide +kernel
theorem dZQ_greatestDivisor_21 : decode cZQ_greatestDivisor 21 = .ok (.istore 5, 2) := by decide +kernel
theorem dZQ_greatestDivisor_23 : decode cZQ_greatestDivisor 23 = .ok (.iload_n 3, 1) := by decide +kernel
theorem dZQ_greatestDivisor_24 : decode cZQ_greatestDivisor 24 = .ok (.istore_n 2, 1) := by decide +kernel
theorem dZQ_greatestDivisor_25 : decode cZQ_greatestDivisor 25 = .ok (.iload 5, 2) := by decide +kernel
theorem dZQ_greatestDivisor_27 : decode cZQ_greatestDivisor 27 = .ok (.istore_n 3, 1) := by decide +kernel
theorem dZQ_greatestDivisor_28 : decode cZQ_greatestDivisor 28 = .ok (.iinc 4 1, 3) := by decide +kernel
theorem dZQ_greatestDivisor_31 : decode cZQ_greatestDivisor 31 = .ok (.goto (-24), 3) := by decide +kernel
theorem dZQ_greatestDivisor_34 : decode cZQ_greatestDivisor 34 = .ok (.iconst 1, 1) := by decide +kernel
theorem dZQ_greatestDivisor_35 : decode cZQ_greatestDivisor 35 = .ok (.iload_n 2, 1) := by decide +kernel
theorem dZQ_greatestDivisor_36 : decode cZQ_greatestDivisor 36 = .ok (.invokestatic 15, 3) := by decide +kernel
theorem dZQ_greatestDivisor_39 : decode cZQ_greatestDivisor 39 = .ok (.ireturn, 1) := by decide +kernel
abbrev wsZQ_greatestDivisor : List Cond := .code yZQ_greatestDivisor cZQ_greatestDivisor 6 (some .int) :: tbg
def lp_ZQ_greatestDivisor_7 (a1 : Int32) (a2 : Int32) (post : Int32 → Prop) (K7 : Int32 → Int32 → Int32 → Prop) (n : Nat) : Int32 → Int32 → Int32 → Prop := Nat.rec (motive := fun _ => Int32 → Int32 → Int32 → Prop) (fun (x2_7 : Int32) (x3_7 : Int32) (x4_7 : Int32) => False) (fun _ ih7 (x2_7 : Int32) (x3_7 : Int32) (x4_7 : Int32) => (((64 : Int32) ≤ x4_7 → (K7 x2_7 x3_7 x4_7)) ∧ (¬ (64 : Int32) ≤ x4_7 → ((x3_7 = (0 : Int32) → (K7 x2_7 x3_7 x4_7)) ∧ (¬ x3_7 = (0 : Int32) → (¬ x3_7 = 0 ∧ (ih7 x3_7 (x2_7 - x2_7 / x3_7 * x3_7) (x4_7 + (1 : Int32))))))))) n
def wp_ZQ_greatestDivisor (a1 : Int32) (a2 : Int32) (post : Int32 → Prop) : Prop := ∃ n : Nat, lp_ZQ_greatestDivisor_7 a1 a2 post (fun (x2_7e : Int32) (x3_7e : Int32) (x4_7e : Int32) => post (if (1 : Int32) < x2_7e then x2_7e else (1 : Int32))) n a1 a2 (0 : Int32)
abbrev rm_ZQ_greatestDivisor : Room := { frames := 1, cells := 0, slots := 0, locals := 21 }
set_option maxHeartbeats 4000000 in
set_option maxRecDepth 100000 in
theorem kt_ZQ_greatestDivisor (l : Launch) (dC : Nat → ClassId) (dI : Nat → Nat → Nat) (cI : ClassId) (a1 : Int32) (a2 : Int32) (post : Int32 → Prop) (hw : wp_ZQ_greatestDivisor a1 a2 post) : Met l yZQ_greatestDivisor wsZQ_greatestDivisor rm_ZQ_greatestDivisor (gr_Pc dC dI [(cI, .int)] [.int a1, .int a2] []) (vp_Si post) 0 0 (fun _ => False) := by
  refine Met.ofW (cc := cZQ_greatestDivisor) (maxL := 6) (ret := (some .int)) (by decide) rfl ?_
  intro p e s m args below meth c s₁ B hml hv
  obtain ⟨ha9, hP, hK, hE⟩ := hv
  have hx := B.exec
  have hb := B.bytes
  have hr := B.returns
  have hts0 := atoms_spec (ws := wsZQ_greatestDivisor) B.pre
  have hts : ∀ w ∈ tbg, w.before args s = true := fun w h => hts0 w (List.mem_cons_of_mem _ h)
  have hown : s.vm.findClass RZQ = some m.cls := findClass_of_methodNamed B.named
  have hlocks := B.notSynchronized
  refine gx_Q (fun Q9 hQ9 => ?_)
  have hl := lv_entry ([.int a1, .int a2]) (n := 6) (Nat.le_of_ble_eq_true rfl)
  have he9 : entryFrame m args 6 = F0 m 0 ((lg_sl [.int a1, .int a2] ++ List.replicate (6 - (lg_sl ([.int a1, .int a2] : List Value)).length) Slot.unset).toArray) [] := by rw [ha9]; exact lg_entry_eq m [.int a1, .int a2] 6
  rw [he9]
  generalize (lg_sl ([.int a1, .int a2] : List Value) ++ List.replicate (6 - (lg_sl ([.int a1, .int a2] : List Value)).length) Slot.unset).toArray = ls at hl ⊢
  have hl : lv_has ls 6 [(0, .int a1), (1, .int a2)] := hl
  refine lv_iload_n hx hb dZQ_greatestDivisor_0 rfl (lv_at hl 0 rfl) ?_
  refine lv_istore_n (lv' := [(2, .int a1), (0, .int a1), (1, .int a2)]) hx hb dZQ_greatestDivisor_1 rfl hl (by decide) rfl (fun ls hl => ?_)
  refine lv_iload_n hx hb dZQ_greatestDivisor_2 rfl (lv_at hl 2 rfl) ?_
  refine lv_istore_n (lv' := [(3, .int a2), (2, .int a1), (0, .int a1), (1, .int a2)]) hx hb dZQ_greatestDivisor_3 rfl hl (by decide) rfl (fun ls hl => ?_)
  refine lv_iconst (v := (0 : Int32)) hx hb dZQ_greatestDivisor_4 (by decide) ?_
  refine lv_istore (lv' := [(4, .int (0 : Int32)), (3, .int a2), (2, .int a1), (0, .int a1), (1, .int a2)]) hx hb dZQ_greatestDivisor_5 hl (by decide) rfl (fun ls hl => ?_)
  have lp7 : ∀ K7 : Int32 → Int32 → Int32 → Prop, (∀ (x2_7 : Int32) (x3_7 : Int32) (x4_7 : Int32), K7 x2_7 x3_7 x4_7 → ∀ ls : Array Slot, lv_has ls 6 [(4, .int x4_7), (3, .int x3_7), (2, .int x2_7), (0, .int a1), (1, .int a2)] → W p l e (headSpec wsZQ_greatestDivisor rm_ZQ_greatestDivisor).room s m args below meth c s.heap [] 0 0 Q9 (F0 m 34 ls [])) → ∀ (n : Nat) (x2_7 : Int32) (x3_7 : Int32) (x4_7 : Int32), lp_ZQ_greatestDivisor_7 a1 a2 post K7 n x2_7 x3_7 x4_7 → ∀ ls : Array Slot, lv_has ls 6 [(4, .int x4_7), (3, .int x3_7), (2, .int x2_7), (0, .int a1), (1, .int a2)] → W p l e (headSpec wsZQ_greatestDivisor rm_ZQ_greatestDivisor).room s m args below meth c s.heap [] 0 0 Q9 (F0 m 7 ls []) := by
    intro K7 aft7 n
    induction n with
    | zero => intro x2_7 x3_7 x4_7 hw; exact False.elim hw
    | succ n ih7 =>
      intro x2_7 x3_7 x4_7 hw ls hl
      refine lv_iload hx hb dZQ_greatestDivisor_7 (lv_at hl 0 rfl) ?_
      refine lv_bipush (v := (64 : Int32)) hx hb dZQ_greatestDivisor_9 (by decide) ?_
      refine lv_icmp_ge (tgt := 34) hx hb dZQ_greatestDivisor_11 (by decide) (fun c_1 => ?_) (fun c_1 => ?_)
      · have hw := hw.1 c_1
        exact aft7 x2_7 x3_7 x4_7 hw ls (lv_sub hl [0, 1, 2, 3, 4] rfl)
      · have hw := hw.2 c_1
        refine lv_iload_n hx hb dZQ_greatestDivisor_14 rfl (lv_at hl 1 rfl) ?_
        refine lv_if_eq (tgt := 34) hx hb dZQ_greatestDivisor_15 (by decide) (fun c_2 => ?_) (fun c_2 => ?_)
        · have hw := hw.1 c_2
          exact aft7 x2_7 x3_7 x4_7 hw ls (lv_sub hl [0, 1, 2, 3, 4] rfl)
        · have hw := hw.2 c_2
          refine lv_iload_n hx hb dZQ_greatestDivisor_18 rfl (lv_at hl 2 rfl) ?_
          refine lv_iload_n hx hb dZQ_greatestDivisor_19 rfl (lv_at hl 1 rfl) ?_
          obtain ⟨h_3, hw⟩ := hw
          refine lv_irem hx hb dZQ_greatestDivisor_20 h_3 ?_
          refine lv_istore (lv' := [(5, .int (x2_7 - x2_7 / x3_7 * x3_7)), (4, .int x4_7), (3, .int x3_7), (2, .int x2_7), (0, .int a1), (1, .int a2)]) hx hb dZQ_greatestDivisor_21 hl (by decide) rfl (fun ls hl => ?_)
          refine lv_iload_n hx hb dZQ_greatestDivisor_23 rfl (lv_at hl 2 rfl) ?_
          refine lv_istore_n (lv' := [(2, .int x3_7), (5, .int (x2_7 - x2_7 / x3_7 * x3_7)), (4, .int x4_7), (3, .int x3_7), (0, .int a1), (1, .int a2)]) hx hb dZQ_greatestDivisor_24 rfl hl (by decide) rfl (fun ls hl => ?_)
          refine lv_iload hx hb dZQ_greatestDivisor_25 (lv_at hl 1 rfl) ?_
          refine lv_istore_n (lv' := [(3, .int (x2_7 - x2_7 / x3_7 * x3_7)), (2, .int x3_7), (5, .int (x2_7 - x2_7 / x3_7 * x3_7)), (4, .int x4_7), (0, .int a1), (1, .int a2)]) hx hb dZQ_greatestDivisor_27 rfl hl (by decide) rfl (fun ls hl => ?_)
          refine lv_iinc (v := x4_7 + (1 : Int32)) (lv' := [(4, .int (x4_7 + (1 : Int32))), (3, .int (x2_7 - x2_7 / x3_7 * x3_7)), (2, .int x3_7), (5, .int (x2_7 - x2_7 / x3_7 * x3_7)), (0, .int a1), (1, .int a2)]) hx hb dZQ_greatestDivisor_28 hl (k := 3) rfl rfl (by decide) rfl (fun ls hl => ?_)
          refine lv_goto (tgt := 7) hx hb dZQ_greatestDivisor_31 (by decide) ?_
          exact ih7 x3_7 (x2_7 - x2_7 / x3_7 * x3_7) (x4_7 + (1 : Int32)) hw ls (lv_sub hl [0, 1, 2, 4, 5] rfl)
  obtain ⟨n7, hw⟩ := hw
  refine lp7 _ (fun x2_7e x3_7e x4_7e hw ls hl => ?_) n7 a1 a2 (0 : Int32) hw ls (lv_sub hl [0, 1, 2, 3, 4] rfl)
  refine lv_iconst (v := (1 : Int32)) hx hb dZQ_greatestDivisor_34 (by decide) ?_
  refine lv_iload_n hx hb dZQ_greatestDivisor_35 rfl (lv_at hl 2 rfl) ?_
  refine va_mmax hx hb (hml.trans hl.1.symm) hown (hts _ mm_28) (hts _ mm_29) (hts _ mm_2) (hts _ mm_30) (Nat.le_of_ble_eq_true rfl) (Nat.le_of_ble_eq_true rfl) (Nat.le_of_ble_eq_true rfl) (Nat.le_of_ble_eq_true rfl) dZQ_greatestDivisor_36 ?_
  subst hQ9
  exact W.iret (v := if (1 : Int32) < x2_7e then x2_7e else (1 : Int32)) hx hb hr (fun t ht hW => ⟨if (1 : Int32) < x2_7e then x2_7e else (1 : Int32), rfl, hw, ht⟩) (fun q h => nomatch h) dZQ_greatestDivisor_39
theorem dZQ_bitsNeeded_0 : decode cZQ_bitsNeeded 0 = .ok (.iconst 0, 1) := by decide +kernel
theorem dZQ_bitsNeeded_1 : decode cZQ_bitsNeeded 1 = .ok (.istore_n 1, 1) := by decide +kernel
theorem dZQ_bitsNeeded_2 : decode cZQ_bitsNeeded 2 = .ok (.iload_n 1, 1) := by decide +kernel
theorem dZQ_bitsNeeded_3 : decode cZQ_bitsNeeded 3 = .ok (.bipush 9, 2) := by decide +kernel
theorem dZQ_bitsNeeded_5 : decode cZQ_bitsNeeded 5 = .ok (.if_icmp .ge 15, 3) := by decide +kernel
theorem dZQ_bitsNeeded_8 : decode cZQ_bitsNeeded 8 = .ok (.iload_n 0, 1) := by decide +kernel
theorem dZQ_bitsNeeded_9 : decode cZQ_bitsNeeded 9 = .ok (.iload_n 1, 1) := by decide +kernel
theorem dZQ_bitsNeeded_10 : decode cZQ_bitsNeeded 10 = .ok (.ishr, 1) := by decide +kernel
theorem dZQ_bitsNeeded_11 : decode cZQ_bitsNeeded 11 = .ok (.ifCond .eq 9, 3) := by decide +kernel
theorem dZQ_bitsNeeded_14 : decode cZQ_bitsNeeded 14 = .ok (.iinc 1 1, 3) := by decide +kernel
theorem dZQ_bitsNeeded_17 : decode cZQ_bitsNeeded 17 = .ok (.goto (-15), 3) := by decide +kernel
theorem dZQ_bitsNeeded_20 : decode cZQ_bitsNeeded 20 = .ok (.iload_n 1, 1) := by decide +kernel
theorem dZQ_bitsNeeded_21 : decode cZQ_bitsNeeded 21 = .ok (.ireturn, 1) := by decide +kernel
abbrev wsZQ_bitsNeeded : List Cond := .code yZQ_bitsNeeded cZQ_bitsNeeded 2 (some .int) :: tbg
def lp_ZQ_bitsNeeded_2 (a1 : Int32) (post : Int32 → Prop) (K2 : Int32 → Prop) (n : Nat) : Int32 → Prop := Nat.rec (motive := fun _ => Int32 → Prop) (fun (x1_2 : Int32) => False) (fun _ ih2 (x1_2 : Int32) => (((9 : Int32) ≤ x1_2 → (K2 x1_2)) ∧ (¬ (9 : Int32) ≤ x1_2 → (((a1 >>> (x1_2 &&& 31)) = (0 : Int32) → (K2 x1_2)) ∧ (¬ (a1 >>> (x1_2 &&& 31)) = (0 : Int32) → (ih2 (x1_2 + (1 : Int32)))))))) n
def wp_ZQ_bitsNeeded (a1 : Int32) (post : Int32 → Prop) : Prop := ∃ n : Nat, lp_ZQ_bitsNeeded_2 a1 post (fun (x1_2e : Int32) => post x1_2e) n (0 : Int32)
abbrev rm_ZQ_bitsNeeded : Room := { frames := 0, cells := 0, slots := 0, locals := 0 }
set_option maxHeartbeats 4000000 in
set_option maxRecDepth 100000 in
theorem kt_ZQ_bitsNeeded (l : Launch) (dC : Nat → ClassId) (dI : Nat → Nat → Nat) (cI : ClassId) (a1 : Int32) (post : Int32 → Prop) (hw : wp_ZQ_bitsNeeded a1 post) : Met l yZQ_bitsNeeded wsZQ_bitsNeeded rm_ZQ_bitsNeeded (gr_Pc dC dI [(cI, .int)] [.int a1] []) (vp_Si post) 0 0 (fun _ => False) := by
  refine Met.ofW (cc := cZQ_bitsNeeded) (maxL := 2) (ret := (some .int)) (by decide) rfl ?_
  intro p e s m args below meth c s₁ B hml hv
  obtain ⟨ha9, hP, hK, hE⟩ := hv
  have hx := B.exec
  have hb := B.bytes
  have hr := B.returns
  have hts0 := atoms_spec (ws := wsZQ_bitsNeeded) B.pre
  have hts : ∀ w ∈ tbg, w.before args s = true := fun w h => hts0 w (List.mem_cons_of_mem _ h)
  have hown : s.vm.findClass RZQ = some m.cls := findClass_of_methodNamed B.named
  have hlocks := B.notSynchronized
  refine gx_Q (fun Q9 hQ9 => ?_)
  have hl := lv_entry ([.int a1]) (n := 2) (Nat.le_of_ble_eq_true rfl)
  have he9 : entryFrame m args 2 = F0 m 0 ((lg_sl [.int a1] ++ List.replicate (2 - (lg_sl ([.int a1] : List Value)).length) Slot.unset).toArray) [] := by rw [ha9]; exact lg_entry_eq m [.int a1] 2
  rw [he9]
  generalize (lg_sl ([.int a1] : List Value) ++ List.replicate (2 - (lg_sl ([.int a1] : List Value)).length) Slot.unset).toArray = ls at hl ⊢
  have hl : lv_has ls 2 [(0, .int a1)] := hl
  refine lv_iconst (v := (0 : Int32)) hx hb dZQ_bitsNeeded_0 (by decide) ?_
  refine lv_istore_n (lv' := [(1, .int (0 : Int32)), (0, .int a1)]) hx hb dZQ_bitsNeeded_1 rfl hl (by decide) rfl (fun ls hl => ?_)
  have lp2 : ∀ K2 : Int32 → Prop, (∀ (x1_2 : Int32), K2 x1_2 → ∀ ls : Array Slot, lv_has ls 2 [(1, .int x1_2), (0, .int a1)] → W p l e (headSpec wsZQ_bitsNeeded rm_ZQ_bitsNeeded).room s m args below meth c s.heap [] 0 0 Q9 (F0 m 20 ls [])) → ∀ (n : Nat) (x1_2 : Int32), lp_ZQ_bitsNeeded_2 a1 post K2 n x1_2 → ∀ ls : Array Slot, lv_has ls 2 [(1, .int x1_2), (0, .int a1)] → W p l e (headSpec wsZQ_bitsNeeded rm_ZQ_bitsNeeded).room s m args below meth c s.heap [] 0 0 Q9 (F0 m 2 ls []) := by
    intro K2 aft2 n
    induction n with
    | zero => intro x1_2 hw; exact False.elim hw
    | succ n ih2 =>
      intro x1_2 hw ls hl
      refine lv_iload_n hx hb dZQ_bitsNeeded_2 rfl (lv_at hl 0 rfl) ?_
      refine lv_bipush (v := (9 : Int32)) hx hb dZQ_bitsNeeded_3 (by decide) ?_
      refine lv_icmp_ge (tgt := 20) hx hb dZQ_bitsNeeded_5 (by decide) (fun c_1 => ?_) (fun c_1 => ?_)
      · have hw := hw.1 c_1
        exact aft2 x1_2 hw ls (lv_sub hl [0, 1] rfl)
      · have hw := hw.2 c_1
        refine lv_iload_n hx hb dZQ_bitsNeeded_8 rfl (lv_at hl 1 rfl) ?_
        refine lv_iload_n hx hb dZQ_bitsNeeded_9 rfl (lv_at hl 0 rfl) ?_
        refine lv_ishr hx hb dZQ_bitsNeeded_10 ?_
        refine lv_if_eq (tgt := 20) hx hb dZQ_bitsNeeded_11 (by decide) (fun c_2 => ?_) (fun c_2 => ?_)
        · have hw := hw.1 c_2
          exact aft2 x1_2 hw ls (lv_sub hl [0, 1] rfl)
        · have hw := hw.2 c_2
          refine lv_iinc (v := x1_2 + (1 : Int32)) (lv' := [(1, .int (x1_2 + (1 : Int32))), (0, .int a1)]) hx hb dZQ_bitsNeeded_14 hl (k := 0) rfl rfl (by decide) rfl (fun ls hl => ?_)
          refine lv_goto (tgt := 2) hx hb dZQ_bitsNeeded_17 (by decide) ?_
          exact ih2 (x1_2 + (1 : Int32)) hw ls (lv_sub hl [0, 1] rfl)
  obtain ⟨n2, hw⟩ := hw
  refine lp2 _ (fun x1_2e hw ls hl => ?_) n2 (0 : Int32) hw ls (lv_sub hl [0, 1] rfl)
  refine lv_iload_n hx hb dZQ_bitsNeeded_20 rfl (lv_at hl 0 rfl) ?_
  subst hQ9
  exact W.iret (v := x1_2e) hx hb hr (fun t ht hW => ⟨x1_2e, rfl, hw, ht⟩) (fun q h => nomatch h) dZQ_bitsNeeded_21
