theorem dZM_held_0 : decode cZM_held 0 = .ok (.iload_n 0, 1) := by decide +kernel
theorem dZM_held_1 : decode cZM_held 1 = .ok (.iconst 1, 1) := by decide +kernel
theorem dZM_held_2 : decode cZM_held 2 = .ok (.if_icmp .ge 7, 3) := by decide +kernel
theorem dZM_held_5 : decode cZM_held 5 = .ok (.iconst 1, 1) := by decide +kernel
theorem dZM_held_6 : decode cZM_held 6 = .ok (.goto 15, 3) := by decide +kernel
theorem dZM_held_9 : decode cZM_held 9 = .ok (.iload_n 0, 1) := by decide +kernel
theorem dZM_held_10 : decode cZM_held 10 = .ok (.bipush 40, 2) := by decide +kernel
theorem dZM_held_12 : decode cZM_held 12 = .ok (.if_icmp .le 8, 3) := by decide +kernel
theorem dZM_held_15 : decode cZM_held 15 = .ok (.bipush 40, 2) := by decide +kernel
theorem dZM_held_17 : decode cZM_held 17 = .ok (.goto 4, 3) := by decide +kernel
theorem dZM_held_20 : decode cZM_held 20 = .ok (.iload_n 0, 1) := by decide +kernel
theorem dZM_held_21 : decode cZM_held 21 = .ok (.ireturn, 1) := by decide +kernel
abbrev wsZM_held : List Cond := .code yZM_held cZM_held 1 (some .int) :: tbg
def wp_ZM_held (a1 : Int32) (post : Int32 → Prop) : Prop := (((1 : Int32) ≤ a1 → ((a1 ≤ (40 : Int32) → (post a1)) ∧ (¬ a1 ≤ (40 : Int32) → (post (40 : Int32))))) ∧ (¬ (1 : Int32) ≤ a1 → (post (1 : Int32))))
abbrev rm_ZM_held : Room := { frames := 0, cells := 0, slots := 0, locals := 0 }
set_option maxHeartbeats 4000000 in
set_option maxRecDepth 100000 in
theorem kt_ZM_held (l : Launch) (dC : Nat → ClassId) (dI : Nat → Nat → Nat) (cI : ClassId) (a1 : Int32) (post : Int32 → Prop) (hw : wp_ZM_held a1 post) : Met l yZM_held wsZM_held rm_ZM_held (gr_Pc dC dI [(cI, .int)] [.int a1] []) (vp_Si post) 0 0 (fun _ => False) := by
  refine Met.ofW (cc := cZM_held) (maxL := 1) (ret := (some .int)) (by decide) rfl ?_
  intro p e s m args below meth c s₁ B hml hv
  obtain ⟨ha9, hP, hK, hE⟩ := hv
  have hx := B.exec
  have hb := B.bytes
  have hr := B.returns
  have hts0 := atoms_spec (ws := wsZM_held) B.pre
  have hts : ∀ w ∈ tbg, w.before args s = true := fun w h => hts0 w (List.mem_cons_of_mem _ h)
  have hown : s.vm.findClass RZM = some m.cls := findClass_of_methodNamed B.named
  have hlocks := B.notSynchronized
  refine gx_Q (fun Q9 hQ9 => ?_)
  have hl := lv_entry ([.int a1]) (n := 1) (Nat.le_of_ble_eq_true rfl)
  have he9 : entryFrame m args 1 = F0 m 0 ((lg_sl [.int a1] ++ List.replicate (1 - (lg_sl ([.int a1] : List Value)).length) Slot.unset).toArray) [] := by rw [ha9]; exact lg_entry_eq m [.int a1] 1
  rw [he9]
  generalize (lg_sl ([.int a1] : List Value) ++ List.replicate (1 - (lg_sl ([.int a1] : List Value)).length) Slot.unset).toArray = ls at hl ⊢
  have hl : lv_has ls 1 [(0, .int a1)] := hl
  refine lv_iload_n hx hb dZM_held_0 rfl (lv_at hl 0 rfl) ?_
  refine lv_iconst (v := (1 : Int32)) hx hb dZM_held_1 (by decide) ?_
  refine lv_icmp_ge (tgt := 9) hx hb dZM_held_2 (by decide) (fun c_1 => ?_) (fun c_1 => ?_)
  · have hw := hw.1 c_1
    refine lv_iload_n hx hb dZM_held_9 rfl (lv_at hl 0 rfl) ?_
    refine lv_bipush (v := (40 : Int32)) hx hb dZM_held_10 (by decide) ?_
    refine lv_icmp_le (tgt := 20) hx hb dZM_held_12 (by decide) (fun c_2 => ?_) (fun c_2 => ?_)
    · have hw := hw.1 c_2
      refine lv_iload_n hx hb dZM_held_20 rfl (lv_at hl 0 rfl) ?_
      subst hQ9
      exact W.iret (v := a1) hx hb hr (fun t ht hW => ⟨a1, rfl, hw, ht⟩) (fun q h => nomatch h) dZM_held_21
    · have hw := hw.2 c_2
      refine lv_bipush (v := (40 : Int32)) hx hb dZM_held_15 (by decide) ?_
      refine lv_goto (tgt := 21) hx hb dZM_held_17 (by decide) ?_
      subst hQ9
      exact W.iret (v := (40 : Int32)) hx hb hr (fun t ht hW => ⟨(40 : Int32), rfl, hw, ht⟩) (fun q h => nomatch h) dZM_held_21
  · have hw := hw.2 c_1
    refine lv_iconst (v := (1 : Int32)) hx hb dZM_held_5 (by decide) ?_
    refine lv_goto (tgt := 21) hx hb dZM_held_6 (by decide) ?_
    subst hQ9
    exact W.iret (v := (1 : Int32)) hx hb hr (fun t ht hW => ⟨(1 : Int32), rfl, hw, ht⟩) (fun q h => nomatch h) dZM_held_21
theorem dZM_in_0 : decode cZM_in 0 = .ok (.iload_n 0, 1) := by decide +kernel
theorem dZM_in_1 : decode cZM_in 1 = .ok (.iload_n 1, 1) := by decide +kernel
theorem dZM_in_2 : decode cZM_in 2 = .ok (.if_icmp .lt 12, 3) := by decide +kernel
theorem dZM_in_5 : decode cZM_in 5 = .ok (.iload_n 0, 1) := by decide +kernel
theorem dZM_in_6 : decode cZM_in 6 = .ok (.iload_n 2, 1) := by decide +kernel
theorem dZM_in_7 : decode cZM_in 7 = .ok (.if_icmp .gt 7, 3) := by decide +kernel
theorem dZM_in_10 : decode cZM_in 10 = .ok (.iconst 1, 1) := by decide +kernel
theorem dZM_in_11 : decode cZM_in 11 = .ok (.goto 4, 3) := by decide +kernel
theorem dZM_in_14 : decode cZM_in 14 = .ok (.iconst 0, 1) := by decide +kernel
theorem dZM_in_15 : decode cZM_in 15 = .ok (.ireturn, 1) := by decide +kernel
abbrev wsZM_in : List Cond := .code yZM_in cZM_in 3 (some .boolean) :: tbg
def wp_ZM_in (a1 : Int32) (a2 : Int32) (a3 : Int32) (post : Int32 → Prop) : Prop := ((a1 < a2 → (post (0 : Int32))) ∧ (¬ a1 < a2 → ((a3 < a1 → (post (0 : Int32))) ∧ (¬ a3 < a1 → (post (1 : Int32))))))
abbrev rm_ZM_in : Room := { frames := 0, cells := 0, slots := 0, locals := 0 }
set_option maxHeartbeats 4000000 in
set_option maxRecDepth 100000 in
theorem kt_ZM_in (l : Launch) (dC : Nat → ClassId) (dI : Nat → Nat → Nat) (cI : ClassId) (a1 : Int32) (a2 : Int32) (a3 : Int32) (post : Int32 → Prop) (hw : wp_ZM_in a1 a2 a3 post) : Met l yZM_in wsZM_in rm_ZM_in (gr_Pc dC dI [(cI, .int)] [.int a1, .int a2, .int a3] []) (vp_Si post) 0 0 (fun _ => False) := by
  refine Met.ofW (cc := cZM_in) (maxL := 3) (ret := (some .boolean)) (by decide) rfl ?_
  intro p e s m args below meth c s₁ B hml hv
  obtain ⟨ha9, hP, hK, hE⟩ := hv
  have hx := B.exec
  have hb := B.bytes
  have hr := B.returns
  have hts0 := atoms_spec (ws := wsZM_in) B.pre
  have hts : ∀ w ∈ tbg, w.before args s = true := fun w h => hts0 w (List.mem_cons_of_mem _ h)
  have hown : s.vm.findClass RZM = some m.cls := findClass_of_methodNamed B.named
  have hlocks := B.notSynchronized
  refine gx_Q (fun Q9 hQ9 => ?_)
  have hl := lv_entry ([.int a1, .int a2, .int a3]) (n := 3) (Nat.le_of_ble_eq_true rfl)
  have he9 : entryFrame m args 3 = F0 m 0 ((lg_sl [.int a1, .int a2, .int a3] ++ List.replicate (3 - (lg_sl ([.int a1, .int a2, .int a3] : List Value)).length) Slot.unset).toArray) [] := by rw [ha9]; exact lg_entry_eq m [.int a1, .int a2, .int a3] 3
  rw [he9]
  generalize (lg_sl ([.int a1, .int a2, .int a3] : List Value) ++ List.replicate (3 - (lg_sl ([.int a1, .int a2, .int a3] : List Value)).length) Slot.unset).toArray = ls at hl ⊢
  have hl : lv_has ls 3 [(0, .int a1), (1, .int a2), (2, .int a3)] := hl
  refine lv_iload_n hx hb dZM_in_0 rfl (lv_at hl 0 rfl) ?_
  refine lv_iload_n hx hb dZM_in_1 rfl (lv_at hl 1 rfl) ?_
  refine lv_icmp_lt (tgt := 14) hx hb dZM_in_2 (by decide) (fun c_1 => ?_) (fun c_1 => ?_)
  · have hw := hw.1 c_1
    refine lv_iconst (v := (0 : Int32)) hx hb dZM_in_14 (by decide) ?_
    subst hQ9
    exact W.zret (v := (0 : Int32)) (ty := .boolean) hx hb hr rfl (fun t ht hW => ⟨(0 : Int32), rfl, hw, ht⟩) (fun q h => nomatch h) dZM_in_15
  · have hw := hw.2 c_1
    refine lv_iload_n hx hb dZM_in_5 rfl (lv_at hl 0 rfl) ?_
    refine lv_iload_n hx hb dZM_in_6 rfl (lv_at hl 2 rfl) ?_
    refine lv_icmp_gt (tgt := 14) hx hb dZM_in_7 (by decide) (fun c_2 => ?_) (fun c_2 => ?_)
    · have hw := hw.1 c_2
      refine lv_iconst (v := (0 : Int32)) hx hb dZM_in_14 (by decide) ?_
      subst hQ9
      exact W.zret (v := (0 : Int32)) (ty := .boolean) hx hb hr rfl (fun t ht hW => ⟨(0 : Int32), rfl, hw, ht⟩) (fun q h => nomatch h) dZM_in_15
    · have hw := hw.2 c_2
      refine lv_iconst (v := (1 : Int32)) hx hb dZM_in_10 (by decide) ?_
      refine lv_goto (tgt := 15) hx hb dZM_in_11 (by decide) ?_
      subst hQ9
      exact W.zret (v := (1 : Int32)) (ty := .boolean) hx hb hr rfl (fun t ht hW => ⟨(1 : Int32), rfl, hw, ht⟩) (fun q h => nomatch h) dZM_in_15
theorem dZM_isByte_0 : decode cZM_isByte 0 = .ok (.iload_n 0, 1) := by decide +kernel
theorem dZM_isByte_1 : decode cZM_isByte 1 = .ok (.iconst 0, 1) := by decide +kernel
theorem dZM_isByte_2 : decode cZM_isByte 2 = .ok (.sipush 255, 3) := by decide +kernel
theorem dZM_isByte_5 : decode cZM_isByte 5 = .ok (.invokestatic 48, 3) := by decide +kernel
theorem dZM_isByte_8 : decode cZM_isByte 8 = .ok (.ireturn, 1) := by decide +kernel
abbrev wsZM_isByte : List Cond := .code yZM_isByte cZM_isByte 1 (some .boolean) :: tbg
def wp_ZM_isByte (a1 : Int32) (post : Int32 → Prop) : Prop := wp_ZM_in a1 (0 : Int32) (255 : Int32) (fun r_1 : Int32 => narrow .boolean (.int r_1) = .int r_1 ∧ (post r_1))
abbrev rm_ZM_isByte : Room := { frames := 1, cells := 0, slots := 0, locals := 22 }
set_option maxHeartbeats 4000000 in
set_option maxRecDepth 100000 in
theorem kt_ZM_isByte (l : Launch) (dC : Nat → ClassId) (dI : Nat → Nat → Nat) (cI : ClassId) (a1 : Int32) (post : Int32 → Prop) (hw : wp_ZM_isByte a1 post) : Met l yZM_isByte wsZM_isByte rm_ZM_isByte (gr_Pc dC dI [(cI, .int)] [.int a1] []) (vp_Si post) 0 0 (fun _ => False) := by
  refine Met.ofW (cc := cZM_isByte) (maxL := 1) (ret := (some .boolean)) (by decide) rfl ?_
  intro p e s m args below meth c s₁ B hml hv
  obtain ⟨ha9, hP, hK, hE⟩ := hv
  have hx := B.exec
  have hb := B.bytes
  have hr := B.returns
  have hts0 := atoms_spec (ws := wsZM_isByte) B.pre
  have hts : ∀ w ∈ tbg, w.before args s = true := fun w h => hts0 w (List.mem_cons_of_mem _ h)
  have hown : s.vm.findClass RZM = some m.cls := findClass_of_methodNamed B.named
  have hlocks := B.notSynchronized
  refine gx_Q (fun Q9 hQ9 => ?_)
  have hl := lv_entry ([.int a1]) (n := 1) (Nat.le_of_ble_eq_true rfl)
  have he9 : entryFrame m args 1 = F0 m 0 ((lg_sl [.int a1] ++ List.replicate (1 - (lg_sl ([.int a1] : List Value)).length) Slot.unset).toArray) [] := by rw [ha9]; exact lg_entry_eq m [.int a1] 1
  rw [he9]
  generalize (lg_sl ([.int a1] : List Value) ++ List.replicate (1 - (lg_sl ([.int a1] : List Value)).length) Slot.unset).toArray = ls at hl ⊢
  have hl : lv_has ls 1 [(0, .int a1)] := hl
  refine lv_iload_n hx hb dZM_isByte_0 rfl (lv_at hl 0 rfl) ?_
  refine lv_iconst (v := (0 : Int32)) hx hb dZM_isByte_1 (by decide) ?_
  refine lv_sipush (v := (255 : Int32)) hx hb dZM_isByte_2 (by decide) ?_
  refine vp_callSi (va_runS (As := [.int a1, .int (0 : Int32), .int (255 : Int32)]) (rest := []) ⟨hx, hb, hml, hown, hts⟩ (kt_ZM_in l dC dI cI  a1 (0 : Int32) (255 : Int32) _ hw) (va_cwS 3 hts (tb_S mm_687 mm_688 mm_8 mm_689) rfl rfl rfl (by decide +kernel) ⟨Nat.le_of_ble_eq_true rfl, Nat.le_of_ble_eq_true rfl⟩) ⟨gr_blind, fun U hU hW => gr_pre hP hK hE hU hW⟩ rfl rfl hl.1 rfl (lv_room (Nat.le_of_ble_eq_true rfl)) dZM_isByte_5 ⟨Nat.le_of_ble_eq_true rfl, Nat.le_of_ble_eq_true rfl⟩).run (fun r_1 hw => ?_)
  obtain ⟨h_2, hw⟩ := hw
  subst hQ9
  exact W.zret (v := r_1) (ty := .boolean) hx hb hr h_2 (fun t ht hW => ⟨r_1, rfl, hw, ht⟩) (fun q h => nomatch h) dZM_isByte_8
theorem dZM_half_0 : decode cZM_half 0 = .ok (.iload_n 0, 1) := by decide +kernel
theorem dZM_half_1 : decode cZM_half 1 = .ok (.istore_n 2, 1) := by decide +kernel
theorem dZM_half_2 : decode cZM_half 2 = .ok (.iconst 0, 1) := by decide +kernel
theorem dZM_half_3 : decode cZM_half 3 = .ok (.istore_n 3, 1) := by decide +kernel
theorem dZM_half_4 : decode cZM_half 4 = .ok (.iload_n 3, 1) := by decide +kernel
theorem dZM_half_5 : decode cZM_half 5 = .ok (.iload_n 1, 1) := by decide +kernel
theorem dZM_half_6 : decode cZM_half 6 = .ok (.if_icmp .ge 15, 3) := by decide +kernel
theorem dZM_half_9 : decode cZM_half 9 = .ok (.iload_n 2, 1) := by decide +kernel
theorem dZM_half_10 : decode cZM_half 10 = .ok (.iconst 1, 1) := by decide +kernel
theorem dZM_half_11 : decode cZM_half 11 = .ok (.iadd, 1) := by decide +kernel
theorem dZM_half_12 : decode cZM_half 12 = .ok (.iconst 2, 1) := by decide +kernel
theorem dZM_half_13 : decode cZM_half 13 = .ok (.idiv, 1) := by decide +kernel
theorem dZM_half_14 : decode cZM_half 14 = .ok (.istore_n 2, 1) := by decide +kernel
theorem dZM_half_15 : decode cZM_half 15 = .ok (.iinc 3 1, 3) := by decide +kernel
theorem dZM_half_18 : decode cZM_half 18 = .ok (.goto (-14), 3) := by decide +kernel
theorem dZM_half_21 : decode cZM_half 21 = .ok (.iload_n 2, 1) := by decide +kernel
theorem dZM_half_22 : decode cZM_half 22 = .ok (.ireturn, 1) := by decide +kernel
abbrev wsZM_half : List Cond := .code yZM_half cZM_half 4 (some .int) :: tbg
def lp_ZM_half_4 (a1 : Int32) (a2 : Int32) (post : Int32 → Prop) (K4 : Int32 → Int32 → Prop) (n : Nat) : Int32 → Int32 → Prop := Nat.rec (motive := fun _ => Int32 → Int32 → Prop) (fun (x2_4 : Int32) (x3_4 : Int32) => False) (fun _ ih4 (x2_4 : Int32) (x3_4 : Int32) => ((a2 ≤ x3_4 → (K4 x2_4 x3_4)) ∧ (¬ a2 ≤ x3_4 → (ih4 ((x2_4 + (1 : Int32)) / (2 : Int32)) (x3_4 + (1 : Int32)))))) n
def wp_ZM_half (a1 : Int32) (a2 : Int32) (post : Int32 → Prop) : Prop := ∃ n : Nat, lp_ZM_half_4 a1 a2 post (fun (x2_4e : Int32) (x3_4e : Int32) => post x2_4e) n a1 (0 : Int32)
abbrev rm_ZM_half : Room := { frames := 0, cells := 0, slots := 0, locals := 0 }
set_option maxHeartbeats 4000000 in
set_option maxRecDepth 100000 in
theorem kt_ZM_half (l : Launch) (dC : Nat → ClassId) (dI : Nat → Nat → Nat) (cI : ClassId) (a1 : Int32) (a2 : Int32) (post : Int32 → Prop) (hw : wp_ZM_half a1 a2 post) : Met l yZM_half wsZM_half rm_ZM_half (gr_Pc dC dI [(cI, .int)] [.int a1, .int a2] []) (vp_Si post) 0 0 (fun _ => False) := by
  refine Met.ofW (cc := cZM_half) (maxL := 4) (ret := (some .int)) (by decide) rfl ?_
  intro p e s m args below meth c s₁ B hml hv
  obtain ⟨ha9, hP, hK, hE⟩ := hv
  have hx := B.exec
  have hb := B.bytes
  have hr := B.returns
  have hts0 := atoms_spec (ws := wsZM_half) B.pre
  have hts : ∀ w ∈ tbg, w.before args s = true := fun w h => hts0 w (List.mem_cons_of_mem _ h)
  have hown : s.vm.findClass RZM = some m.cls := findClass_of_methodNamed B.named
  have hlocks := B.notSynchronized
  refine gx_Q (fun Q9 hQ9 => ?_)
  have hl := lv_entry ([.int a1, .int a2]) (n := 4) (Nat.le_of_ble_eq_true rfl)
  have he9 : entryFrame m args 4 = F0 m 0 ((lg_sl [.int a1, .int a2] ++ List.replicate (4 - (lg_sl ([.int a1, .int a2] : List Value)).length) Slot.unset).toArray) [] := by rw [ha9]; exact lg_entry_eq m [.int a1, .int a2] 4
  rw [he9]
  generalize (lg_sl ([.int a1, .int a2] : List Value) ++ List.replicate (4 - (lg_sl ([.int a1, .int a2] : List Value)).length) Slot.unset).toArray = ls at hl ⊢
  have hl : lv_has ls 4 [(0, .int a1), (1, .int a2)] := hl
  refine lv_iload_n hx hb dZM_half_0 rfl (lv_at hl 0 rfl) ?_
  refine lv_istore_n (lv' := [(2, .int a1), (0, .int a1), (1, .int a2)]) hx hb dZM_half_1 rfl hl (by decide) rfl (fun ls hl => ?_)
  refine lv_iconst (v := (0 : Int32)) hx hb dZM_half_2 (by decide) ?_
  refine lv_istore_n (lv' := [(3, .int (0 : Int32)), (2, .int a1), (0, .int a1), (1, .int a2)]) hx hb dZM_half_3 rfl hl (by decide) rfl (fun ls hl => ?_)
  have lp4 : ∀ K4 : Int32 → Int32 → Prop, (∀ (x2_4 : Int32) (x3_4 : Int32), K4 x2_4 x3_4 → ∀ ls : Array Slot, lv_has ls 4 [(3, .int x3_4), (2, .int x2_4), (0, .int a1), (1, .int a2)] → W p l e (headSpec wsZM_half rm_ZM_half).room s m args below meth c s.heap [] 0 0 Q9 (F0 m 21 ls [])) → ∀ (n : Nat) (x2_4 : Int32) (x3_4 : Int32), lp_ZM_half_4 a1 a2 post K4 n x2_4 x3_4 → ∀ ls : Array Slot, lv_has ls 4 [(3, .int x3_4), (2, .int x2_4), (0, .int a1), (1, .int a2)] → W p l e (headSpec wsZM_half rm_ZM_half).room s m args below meth c s.heap [] 0 0 Q9 (F0 m 4 ls []) := by
    intro K4 aft4 n
    induction n with
    | zero => intro x2_4 x3_4 hw; exact False.elim hw
    | succ n ih4 =>
      intro x2_4 x3_4 hw ls hl
      refine lv_iload_n hx hb dZM_half_4 rfl (lv_at hl 0 rfl) ?_
      refine lv_iload_n hx hb dZM_half_5 rfl (lv_at hl 3 rfl) ?_
      refine lv_icmp_ge (tgt := 21) hx hb dZM_half_6 (by decide) (fun c_1 => ?_) (fun c_1 => ?_)
      · have hw := hw.1 c_1
        exact aft4 x2_4 x3_4 hw ls (lv_sub hl [0, 1, 2, 3] rfl)
      · have hw := hw.2 c_1
        refine lv_iload_n hx hb dZM_half_9 rfl (lv_at hl 1 rfl) ?_
        refine lv_iconst (v := (1 : Int32)) hx hb dZM_half_10 (by decide) ?_
        refine lv_iadd hx hb dZM_half_11 ?_
        refine lv_iconst (v := (2 : Int32)) hx hb dZM_half_12 (by decide) ?_
        refine lv_idiv hx hb dZM_half_13 (by decide) ?_
        refine lv_istore_n (lv' := [(2, .int ((x2_4 + (1 : Int32)) / (2 : Int32))), (3, .int x3_4), (0, .int a1), (1, .int a2)]) hx hb dZM_half_14 rfl hl (by decide) rfl (fun ls hl => ?_)
        refine lv_iinc (v := x3_4 + (1 : Int32)) (lv' := [(3, .int (x3_4 + (1 : Int32))), (2, .int ((x2_4 + (1 : Int32)) / (2 : Int32))), (0, .int a1), (1, .int a2)]) hx hb dZM_half_15 hl (k := 1) rfl rfl (by decide) rfl (fun ls hl => ?_)
        refine lv_goto (tgt := 4) hx hb dZM_half_18 (by decide) ?_
        exact ih4 ((x2_4 + (1 : Int32)) / (2 : Int32)) (x3_4 + (1 : Int32)) hw ls (lv_sub hl [0, 1, 2, 3] rfl)
  obtain ⟨n4, hw⟩ := hw
  refine lp4 _ (fun x2_4e x3_4e hw ls hl => ?_) n4 a1 (0 : Int32) hw ls (lv_sub hl [0, 1, 2, 3] rfl)
  refine lv_iload_n hx hb dZM_half_21 rfl (lv_at hl 1 rfl) ?_
  subst hQ9
  exact W.iret (v := x2_4e) hx hb hr (fun t ht hW => ⟨x2_4e, rfl, hw, ht⟩) (fun q h => nomatch h) dZM_half_22
theorem dZM_isPart_0 : decode cZM_isPart 0 = .ok (.iload_n 0, 1) := by decide +kernel
theorem dZM_isPart_1 : decode cZM_isPart 1 = .ok (.iconst 0, 1) := by decide +kernel
theorem dZM_isPart_2 : decode cZM_isPart 2 = .ok (.iload 4, 2) := by decide +kernel
theorem dZM_isPart_4 : decode cZM_isPart 4 = .ok (.iconst 1, 1) := by decide +kernel
theorem dZM_isPart_5 : decode cZM_isPart 5 = .ok (.isub, 1) := by decide +kernel
theorem dZM_isPart_6 : decode cZM_isPart 6 = .ok (.invokestatic 48, 3) := by decide +kernel
theorem dZM_isPart_9 : decode cZM_isPart 9 = .ok (.ifCond .eq 43, 3) := by decide +kernel
theorem dZM_isPart_12 : decode cZM_isPart 12 = .ok (.iload_n 1, 1) := by decide +kernel
theorem dZM_isPart_13 : decode cZM_isPart 13 = .ok (.iconst 0, 1) := by decide +kernel
theorem dZM_isPart_14 : decode cZM_isPart 14 = .ok (.iload 5, 2) := by decide +kernel
theorem dZM_isPart_16 : decode cZM_isPart 16 = .ok (.iconst 1, 1) := by decide +kernel
theorem dZM_isPart_17 : decode cZM_isPart 17 = .ok (.isub, 1) := by decide +kernel
theorem dZM_isPart_18 : decode cZM_isPart 18 = .ok (.invokestatic 48, 3) := by decide +kernel
theorem dZM_isPart_21 : decode cZM_isPart 21 = .ok (.ifCond .eq 31, 3) := by decide +kernel
theorem dZM_isPart_24 : decode cZM_isPart 24 = .ok (.iload_n 2, 1) := by decide +kernel
theorem dZM_isPart_25 : decode cZM_isPart 25 = .ok (.iconst 1, 1) := by decide +kernel
theorem dZM_isPart_26 : decode cZM_isPart 26 = .ok (.iload 4, 2) := by decide +kernel
theorem dZM_isPart_28 : decode cZM_isPart 28 = .ok (.iload_n 0, 1) := by decide +kernel
theorem dZM_isPart_29 : decode cZM_isPart 29 = .ok (.isub, 1) := by decide +kernel
theorem dZM_isPart_30 : decode cZM_isPart 30 = .ok (.invokestatic 48, 3) := by decide +kernel
theorem dZM_isPart_33 : decode cZM_isPart 33 = .ok (.ifCond .eq 19, 3) := by decide +kernel
theorem dZM_isPart_36 : decode cZM_isPart 36 = .ok (.iload_n 3, 1) := by decide +kernel
theorem dZM_isPart_37 : decode cZM_isPart 37 = .ok (.iconst 1, 1) := by decide +kernel
theorem dZM_isPart_38 : decode cZM_isPart 38 = .ok (.iload 5, 2) := by decide +kernel
theorem dZM_isPart_40 : decode cZM_isPart 40 = .ok (.iload_n 1, 1) := by decide +kernel
theorem dZM_isPart_41 : decode cZM_isPart 41 = .ok (.isub, 1) := by decide +kernel
theorem dZM_isPart_42 : decode cZM_isPart 42 = .ok (.invokestatic 48, 3) := by decide +kernel
theorem dZM_isPart_45 : decode cZM_isPart 45 = .ok (.ifCond .eq 7, 3) := by decide +kernel
theorem dZM_isPart_48 : decode cZM_isPart 48 = .ok (.iconst 1, 1) := by decide +kernel
theorem dZM_isPart_49 : decode cZM_isPart 49 = .ok (.goto 4, 3) := by decide +kernel
theorem dZM_isPart_52 : decode cZM_isPart 52 = .ok (.iconst 0, 1) := by decide +kernel
theorem dZM_isPart_53 : decode cZM_isPart 53 = .ok (.ireturn, 1) := by decide +kernel
abbrev wsZM_isPart : List Cond := .code yZM_isPart cZM_isPart 6 (some .boolean) :: tbg
def wp_ZM_isPart (a1 : Int32) (a2 : Int32) (a3 : Int32) (a4 : Int32) (a5 : Int32) (a6 : Int32) (post : Int32 → Prop) : Prop := wp_ZM_in a1 (0 : Int32) (a5 - (1 : Int32)) (fun r_1 : Int32 => ((r_1 = (0 : Int32) → (post (0 : Int32))) ∧ (¬ r_1 = (0 : Int32) → (wp_ZM_in a2 (0 : Int32) (a6 - (1 : Int32)) (fun r_3 : Int32 => ((r_3 = (0 : Int32) → (post (0 : Int32))) ∧ (¬ r_3 = (0 : Int32) → (wp_ZM_in a3 (1 : Int32) (a5 - a1) (fun r_5 : Int32 => ((r_5 = (0 : Int32) → (post (0 : Int32))) ∧ (¬ r_5 = (0 : Int32) → (wp_ZM_in a4 (1 : Int32) (a6 - a2) (fun r_7 : Int32 => ((r_7 = (0 : Int32) → (post (0 : Int32))) ∧ (¬ r_7 = (0 : Int32) → (post (1 : Int32)))))))))))))))))
abbrev rm_ZM_isPart : Room := { frames := 1, cells := 0, slots := 0, locals := 22 }
set_option maxHeartbeats 4000000 in
set_option maxRecDepth 100000 in
theorem kt_ZM_isPart (l : Launch) (dC : Nat → ClassId) (dI : Nat → Nat → Nat) (cI : ClassId) (a1 : Int32) (a2 : Int32) (a3 : Int32) (a4 : Int32) (a5 : Int32) (a6 : Int32) (post : Int32 → Prop) (hw : wp_ZM_isPart a1 a2 a3 a4 a5 a6 post) : Met l yZM_isPart wsZM_isPart rm_ZM_isPart (gr_Pc dC dI [(cI, .int)] [.int a1, .int a2, .int a3, .int a4, .int a5, .int a6] []) (vp_Si post) 0 0 (fun _ => False) := by
  refine Met.ofW (cc := cZM_isPart) (maxL := 6) (ret := (some .boolean)) (by decide) rfl ?_
  intro p e s m args below meth c s₁ B hml hv
  obtain ⟨ha9, hP, hK, hE⟩ := hv
  have hx := B.exec
  have hb := B.bytes
  have hr := B.returns
  have hts0 := atoms_spec (ws := wsZM_isPart) B.pre
  have hts : ∀ w ∈ tbg, w.before args s = true := fun w h => hts0 w (List.mem_cons_of_mem _ h)
  have hown : s.vm.findClass RZM = some m.cls := findClass_of_methodNamed B.named
  have hlocks := B.notSynchronized
  refine gx_Q (fun Q9 hQ9 => ?_)
  have hl := lv_entry ([.int a1, .int a2, .int a3, .int a4, .int a5, .int a6]) (n := 6) (Nat.le_of_ble_eq_true rfl)
  have he9 : entryFrame m args 6 = F0 m 0 ((lg_sl [.int a1, .int a2, .int a3, .int a4, .int a5, .int a6] ++ List.replicate (6 - (lg_sl ([.int a1, .int a2, .int a3, .int a4, .int a5, .int a6] : List Value)).length) Slot.unset).toArray) [] := by rw [ha9]; exact lg_entry_eq m [.int a1, .int a2, .int a3, .int a4, .int a5, .int a6] 6
  rw [he9]
  generalize (lg_sl ([.int a1, .int a2, .int a3, .int a4, .int a5, .int a6] : List Value) ++ List.replicate (6 - (lg_sl ([.int a1, .int a2, .int a3, .int a4, .int a5, .int a6] : List Value)).length) Slot.unset).toArray = ls at hl ⊢
  have hl : lv_has ls 6 [(0, .int a1), (1, .int a2), (2, .int a3), (3, .int a4), (4, .int a5), (5, .int a6)] := hl
  refine lv_iload_n hx hb dZM_isPart_0 rfl (lv_at hl 0 rfl) ?_
  refine lv_iconst (v := (0 : Int32)) hx hb dZM_isPart_1 (by decide) ?_
  refine lv_iload hx hb dZM_isPart_2 (lv_at hl 4 rfl) ?_
  refine lv_iconst (v := (1 : Int32)) hx hb dZM_isPart_4 (by decide) ?_
  refine lv_isub hx hb dZM_isPart_5 ?_
  refine vp_callSi (va_runS (As := [.int a1, .int (0 : Int32), .int (a5 - (1 : Int32))]) (rest := []) ⟨hx, hb, hml, hown, hts⟩ (kt_ZM_in l dC dI cI  a1 (0 : Int32) (a5 - (1 : Int32)) _ hw) (va_cwS 3 hts (tb_S mm_687 mm_688 mm_8 mm_689) rfl rfl rfl (by decide +kernel) ⟨Nat.le_of_ble_eq_true rfl, Nat.le_of_ble_eq_true rfl⟩) ⟨gr_blind, fun U hU hW => gr_pre hP hK hE hU hW⟩ rfl rfl hl.1 rfl (lv_room (Nat.le_of_ble_eq_true rfl)) dZM_isPart_6 ⟨Nat.le_of_ble_eq_true rfl, Nat.le_of_ble_eq_true rfl⟩).run (fun r_1 hw => ?_)
  refine lv_if_eq (tgt := 52) hx hb dZM_isPart_9 (by decide) (fun c_2 => ?_) (fun c_2 => ?_)
  · have hw := hw.1 c_2
    refine lv_iconst (v := (0 : Int32)) hx hb dZM_isPart_52 (by decide) ?_
    subst hQ9
    exact W.zret (v := (0 : Int32)) (ty := .boolean) hx hb hr rfl (fun t ht hW => ⟨(0 : Int32), rfl, hw, ht⟩) (fun q h => nomatch h) dZM_isPart_53
  · have hw := hw.2 c_2
    refine lv_iload_n hx hb dZM_isPart_12 rfl (lv_at hl 1 rfl) ?_
    refine lv_iconst (v := (0 : Int32)) hx hb dZM_isPart_13 (by decide) ?_
    refine lv_iload hx hb dZM_isPart_14 (lv_at hl 5 rfl) ?_
    refine lv_iconst (v := (1 : Int32)) hx hb dZM_isPart_16 (by decide) ?_
    refine lv_isub hx hb dZM_isPart_17 ?_
    refine vp_callSi (va_runS (As := [.int a2, .int (0 : Int32), .int (a6 - (1 : Int32))]) (rest := []) ⟨hx, hb, hml, hown, hts⟩ (kt_ZM_in l dC dI cI  a2 (0 : Int32) (a6 - (1 : Int32)) _ hw) (va_cwS 3 hts (tb_S mm_687 mm_688 mm_8 mm_689) rfl rfl rfl (by decide +kernel) ⟨Nat.le_of_ble_eq_true rfl, Nat.le_of_ble_eq_true rfl⟩) ⟨gr_blind, fun U hU hW => gr_pre hP hK hE hU hW⟩ rfl rfl hl.1 rfl (lv_room (Nat.le_of_ble_eq_true rfl)) dZM_isPart_18 ⟨Nat.le_of_ble_eq_true rfl, Nat.le_of_ble_eq_true rfl⟩).run (fun r_3 hw => ?_)
    refine lv_if_eq (tgt := 52) hx hb dZM_isPart_21 (by decide) (fun c_4 => ?_) (fun c_4 => ?_)
    · have hw := hw.1 c_4
      refine lv_iconst (v := (0 : Int32)) hx hb dZM_isPart_52 (by decide) ?_
      subst hQ9
      exact W.zret (v := (0 : Int32)) (ty := .boolean) hx hb hr rfl (fun t ht hW => ⟨(0 : Int32), rfl, hw, ht⟩) (fun q h => nomatch h) dZM_isPart_53
    · have hw := hw.2 c_4
      refine lv_iload_n hx hb dZM_isPart_24 rfl (lv_at hl 2 rfl) ?_
      refine lv_iconst (v := (1 : Int32)) hx hb dZM_isPart_25 (by decide) ?_
      refine lv_iload hx hb dZM_isPart_26 (lv_at hl 4 rfl) ?_
      refine lv_iload_n hx hb dZM_isPart_28 rfl (lv_at hl 0 rfl) ?_
      refine lv_isub hx hb dZM_isPart_29 ?_
      refine vp_callSi (va_runS (As := [.int a3, .int (1 : Int32), .int (a5 - a1)]) (rest := []) ⟨hx, hb, hml, hown, hts⟩ (kt_ZM_in l dC dI cI  a3 (1 : Int32) (a5 - a1) _ hw) (va_cwS 3 hts (tb_S mm_687 mm_688 mm_8 mm_689) rfl rfl rfl (by decide +kernel) ⟨Nat.le_of_ble_eq_true rfl, Nat.le_of_ble_eq_true rfl⟩) ⟨gr_blind, fun U hU hW => gr_pre hP hK hE hU hW⟩ rfl rfl hl.1 rfl (lv_room (Nat.le_of_ble_eq_true rfl)) dZM_isPart_30 ⟨Nat.le_of_ble_eq_true rfl, Nat.le_of_ble_eq_true rfl⟩).run (fun r_5 hw => ?_)
      refine lv_if_eq (tgt := 52) hx hb dZM_isPart_33 (by decide) (fun c_6 => ?_) (fun c_6 => ?_)
      · have hw := hw.1 c_6
        refine lv_iconst (v := (0 : Int32)) hx hb dZM_isPart_52 (by decide) ?_
        subst hQ9
        exact W.zret (v := (0 : Int32)) (ty := .boolean) hx hb hr rfl (fun t ht hW => ⟨(0 : Int32), rfl, hw, ht⟩) (fun q h => nomatch h) dZM_isPart_53
      · have hw := hw.2 c_6
        refine lv_iload_n hx hb dZM_isPart_36 rfl (lv_at hl 3 rfl) ?_
        refine lv_iconst (v := (1 : Int32)) hx hb dZM_isPart_37 (by decide) ?_
        refine lv_iload hx hb dZM_isPart_38 (lv_at hl 5 rfl) ?_
        refine lv_iload_n hx hb dZM_isPart_40 rfl (lv_at hl 1 rfl) ?_
        refine lv_isub hx hb dZM_isPart_41 ?_
        refine vp_callSi (va_runS (As := [.int a4, .int (1 : Int32), .int (a6 - a2)]) (rest := []) ⟨hx, hb, hml, hown, hts⟩ (kt_ZM_in l dC dI cI  a4 (1 : Int32) (a6 - a2) _ hw) (va_cwS 3 hts (tb_S mm_687 mm_688 mm_8 mm_689) rfl rfl rfl (by decide +kernel) ⟨Nat.le_of_ble_eq_true rfl, Nat.le_of_ble_eq_true rfl⟩) ⟨gr_blind, fun U hU hW => gr_pre hP hK hE hU hW⟩ rfl rfl hl.1 rfl (lv_room (Nat.le_of_ble_eq_true rfl)) dZM_isPart_42 ⟨Nat.le_of_ble_eq_true rfl, Nat.le_of_ble_eq_true rfl⟩).run (fun r_7 hw => ?_)
        refine lv_if_eq (tgt := 52) hx hb dZM_isPart_45 (by decide) (fun c_8 => ?_) (fun c_8 => ?_)
        · have hw := hw.1 c_8
          refine lv_iconst (v := (0 : Int32)) hx hb dZM_isPart_52 (by decide) ?_
          subst hQ9
          exact W.zret (v := (0 : Int32)) (ty := .boolean) hx hb hr rfl (fun t ht hW => ⟨(0 : Int32), rfl, hw, ht⟩) (fun q h => nomatch h) dZM_isPart_53
        · have hw := hw.2 c_8
          refine lv_iconst (v := (1 : Int32)) hx hb dZM_isPart_48 (by decide) ?_
          refine lv_goto (tgt := 53) hx hb dZM_isPart_49 (by decide) ?_
          subst hQ9
          exact W.zret (v := (1 : Int32)) (ty := .boolean) hx hb hr rfl (fun t ht hW => ⟨(1 : Int32), rfl, hw, ht⟩) (fun q h => nomatch h) dZM_isPart_53
theorem dZM_part_0 : decode cZM_part 0 = .ok (.iload_n 1, 1) := by decide +kernel
theorem dZM_part_1 : decode cZM_part 1 = .ok (.iload_n 0, 1) := by decide +kernel
theorem dZM_part_2 : decode cZM_part 2 = .ok (.isub, 1) := by decide +kernel
theorem dZM_part_3 : decode cZM_part 3 = .ok (.bipush 8, 2) := by decide +kernel
theorem dZM_part_5 : decode cZM_part 5 = .ok (.if_icmp .ge 9, 3) := by decide +kernel
theorem dZM_part_8 : decode cZM_part 8 = .ok (.iload_n 1, 1) := by decide +kernel
theorem dZM_part_9 : decode cZM_part 9 = .ok (.iload_n 0, 1) := by decide +kernel
theorem dZM_part_10 : decode cZM_part 10 = .ok (.isub, 1) := by decide +kernel
theorem dZM_part_11 : decode cZM_part 11 = .ok (.goto 5, 3) := by decide +kernel
theorem dZM_part_14 : decode cZM_part 14 = .ok (.bipush 8, 2) := by decide +kernel
theorem dZM_part_16 : decode cZM_part 16 = .ok (.ireturn, 1) := by decide +kernel
abbrev wsZM_part : List Cond := .code yZM_part cZM_part 2 (some .int) :: tbg
def wp_ZM_part (a1 : Int32) (a2 : Int32) (post : Int32 → Prop) : Prop := (((8 : Int32) ≤ (a2 - a1) → (post (8 : Int32))) ∧ (¬ (8 : Int32) ≤ (a2 - a1) → (post (a2 - a1))))
abbrev rm_ZM_part : Room := { frames := 0, cells := 0, slots := 0, locals := 0 }
set_option maxHeartbeats 4000000 in
set_option maxRecDepth 100000 in
theorem kt_ZM_part (l : Launch) (dC : Nat → ClassId) (dI : Nat → Nat → Nat) (cI : ClassId) (a1 : Int32) (a2 : Int32) (post : Int32 → Prop) (hw : wp_ZM_part a1 a2 post) : Met l yZM_part wsZM_part rm_ZM_part (gr_Pc dC dI [(cI, .int)] [.int a1, .int a2] []) (vp_Si post) 0 0 (fun _ => False) := by
  refine Met.ofW (cc := cZM_part) (maxL := 2) (ret := (some .int)) (by decide) rfl ?_
  intro p e s m args below meth c s₁ B hml hv
  obtain ⟨ha9, hP, hK, hE⟩ := hv
  have hx := B.exec
  have hb := B.bytes
  have hr := B.returns
  have hts0 := atoms_spec (ws := wsZM_part) B.pre
  have hts : ∀ w ∈ tbg, w.before args s = true := fun w h => hts0 w (List.mem_cons_of_mem _ h)
  have hown : s.vm.findClass RZM = some m.cls := findClass_of_methodNamed B.named
  have hlocks := B.notSynchronized
  refine gx_Q (fun Q9 hQ9 => ?_)
  have hl := lv_entry ([.int a1, .int a2]) (n := 2) (Nat.le_of_ble_eq_true rfl)
  have he9 : entryFrame m args 2 = F0 m 0 ((lg_sl [.int a1, .int a2] ++ List.replicate (2 - (lg_sl ([.int a1, .int a2] : List Value)).length) Slot.unset).toArray) [] := by rw [ha9]; exact lg_entry_eq m [.int a1, .int a2] 2
  rw [he9]
  generalize (lg_sl ([.int a1, .int a2] : List Value) ++ List.replicate (2 - (lg_sl ([.int a1, .int a2] : List Value)).length) Slot.unset).toArray = ls at hl ⊢
  have hl : lv_has ls 2 [(0, .int a1), (1, .int a2)] := hl
  refine lv_iload_n hx hb dZM_part_0 rfl (lv_at hl 1 rfl) ?_
  refine lv_iload_n hx hb dZM_part_1 rfl (lv_at hl 0 rfl) ?_
  refine lv_isub hx hb dZM_part_2 ?_
  refine lv_bipush (v := (8 : Int32)) hx hb dZM_part_3 (by decide) ?_
  refine lv_icmp_ge (tgt := 14) hx hb dZM_part_5 (by decide) (fun c_1 => ?_) (fun c_1 => ?_)
  · have hw := hw.1 c_1
    refine lv_bipush (v := (8 : Int32)) hx hb dZM_part_14 (by decide) ?_
    subst hQ9
    exact W.iret (v := (8 : Int32)) hx hb hr (fun t ht hW => ⟨(8 : Int32), rfl, hw, ht⟩) (fun q h => nomatch h) dZM_part_16
  · have hw := hw.2 c_1
    refine lv_iload_n hx hb dZM_part_8 rfl (lv_at hl 1 rfl) ?_
    refine lv_iload_n hx hb dZM_part_9 rfl (lv_at hl 0 rfl) ?_
    refine lv_isub hx hb dZM_part_10 ?_
    refine lv_goto (tgt := 16) hx hb dZM_part_11 (by decide) ?_
    subst hQ9
    exact W.iret (v := a2 - a1) hx hb hr (fun t ht hW => ⟨a2 - a1, rfl, hw, ht⟩) (fun q h => nomatch h) dZM_part_16
theorem dZM_bitsOf_0 : decode cZM_bitsOf 0 = .ok (.iconst 0, 1) := by decide +kernel
theorem dZM_bitsOf_1 : decode cZM_bitsOf 1 = .ok (.istore_n 1, 1) := by decide +kernel
theorem dZM_bitsOf_2 : decode cZM_bitsOf 2 = .ok (.iload_n 0, 1) := by decide +kernel
theorem dZM_bitsOf_3 : decode cZM_bitsOf 3 = .ok (.iload_n 1, 1) := by decide +kernel
theorem dZM_bitsOf_4 : decode cZM_bitsOf 4 = .ok (.ishr, 1) := by decide +kernel
theorem dZM_bitsOf_5 : decode cZM_bitsOf 5 = .ok (.ifCond .le 9, 3) := by decide +kernel
theorem dZM_bitsOf_8 : decode cZM_bitsOf 8 = .ok (.iinc 1 1, 3) := by decide +kernel
theorem dZM_bitsOf_11 : decode cZM_bitsOf 11 = .ok (.goto (-9), 3) := by decide +kernel
theorem dZM_bitsOf_14 : decode cZM_bitsOf 14 = .ok (.iload_n 1, 1) := by decide +kernel
theorem dZM_bitsOf_15 : decode cZM_bitsOf 15 = .ok (.ireturn, 1) := by decide +kernel
abbrev wsZM_bitsOf : List Cond := .code yZM_bitsOf cZM_bitsOf 2 (some .int) :: tbg
def lp_ZM_bitsOf_2 (a1 : Int32) (post : Int32 → Prop) (K2 : Int32 → Prop) (n : Nat) : Int32 → Prop := Nat.rec (motive := fun _ => Int32 → Prop) (fun (x1_2 : Int32) => False) (fun _ ih2 (x1_2 : Int32) => (((a1 >>> (x1_2 &&& 31)) ≤ (0 : Int32) → (K2 x1_2)) ∧ (¬ (a1 >>> (x1_2 &&& 31)) ≤ (0 : Int32) → (ih2 (x1_2 + (1 : Int32)))))) n
def wp_ZM_bitsOf (a1 : Int32) (post : Int32 → Prop) : Prop := ∃ n : Nat, lp_ZM_bitsOf_2 a1 post (fun (x1_2e : Int32) => post x1_2e) n (0 : Int32)
abbrev rm_ZM_bitsOf : Room := { frames := 0, cells := 0, slots := 0, locals := 0 }
set_option maxHeartbeats 4000000 in
set_option maxRecDepth 100000 in
theorem kt_ZM_bitsOf (l : Launch) (dC : Nat → ClassId) (dI : Nat → Nat → Nat) (cI : ClassId) (a1 : Int32) (post : Int32 → Prop) (hw : wp_ZM_bitsOf a1 post) : Met l yZM_bitsOf wsZM_bitsOf rm_ZM_bitsOf (gr_Pc dC dI [(cI, .int)] [.int a1] []) (vp_Si post) 0 0 (fun _ => False) := by
  refine Met.ofW (cc := cZM_bitsOf) (maxL := 2) (ret := (some .int)) (by decide) rfl ?_
  intro p e s m args below meth c s₁ B hml hv
  obtain ⟨ha9, hP, hK, hE⟩ := hv
  have hx := B.exec
  have hb := B.bytes
  have hr := B.returns
  have hts0 := atoms_spec (ws := wsZM_bitsOf) B.pre
  have hts : ∀ w ∈ tbg, w.before args s = true := fun w h => hts0 w (List.mem_cons_of_mem _ h)
  have hown : s.vm.findClass RZM = some m.cls := findClass_of_methodNamed B.named
  have hlocks := B.notSynchronized
  refine gx_Q (fun Q9 hQ9 => ?_)
  have hl := lv_entry ([.int a1]) (n := 2) (Nat.le_of_ble_eq_true rfl)
  have he9 : entryFrame m args 2 = F0 m 0 ((lg_sl [.int a1] ++ List.replicate (2 - (lg_sl ([.int a1] : List Value)).length) Slot.unset).toArray) [] := by rw [ha9]; exact lg_entry_eq m [.int a1] 2
  rw [he9]
  generalize (lg_sl ([.int a1] : List Value) ++ List.replicate (2 - (lg_sl ([.int a1] : List Value)).length) Slot.unset).toArray = ls at hl ⊢
  have hl : lv_has ls 2 [(0, .int a1)] := hl
  refine lv_iconst (v := (0 : Int32)) hx hb dZM_bitsOf_0 (by decide) ?_
  refine lv_istore_n (lv' := [(1, .int (0 : Int32)), (0, .int a1)]) hx hb dZM_bitsOf_1 rfl hl (by decide) rfl (fun ls hl => ?_)
  have lp2 : ∀ K2 : Int32 → Prop, (∀ (x1_2 : Int32), K2 x1_2 → ∀ ls : Array Slot, lv_has ls 2 [(1, .int x1_2), (0, .int a1)] → W p l e (headSpec wsZM_bitsOf rm_ZM_bitsOf).room s m args below meth c s.heap [] 0 0 Q9 (F0 m 14 ls [])) → ∀ (n : Nat) (x1_2 : Int32), lp_ZM_bitsOf_2 a1 post K2 n x1_2 → ∀ ls : Array Slot, lv_has ls 2 [(1, .int x1_2), (0, .int a1)] → W p l e (headSpec wsZM_bitsOf rm_ZM_bitsOf).room s m args below meth c s.heap [] 0 0 Q9 (F0 m 2 ls []) := by
    intro K2 aft2 n
    induction n with
    | zero => intro x1_2 hw; exact False.elim hw
    | succ n ih2 =>
      intro x1_2 hw ls hl
      refine lv_iload_n hx hb dZM_bitsOf_2 rfl (lv_at hl 1 rfl) ?_
      refine lv_iload_n hx hb dZM_bitsOf_3 rfl (lv_at hl 0 rfl) ?_
      refine lv_ishr hx hb dZM_bitsOf_4 ?_
      refine lv_if_le (tgt := 14) hx hb dZM_bitsOf_5 (by decide) (fun c_1 => ?_) (fun c_1 => ?_)
      · have hw := hw.1 c_1
        exact aft2 x1_2 hw ls (lv_sub hl [0, 1] rfl)
      · have hw := hw.2 c_1
        refine lv_iinc (v := x1_2 + (1 : Int32)) (lv' := [(1, .int (x1_2 + (1 : Int32))), (0, .int a1)]) hx hb dZM_bitsOf_8 hl (k := 0) rfl rfl (by decide) rfl (fun ls hl => ?_)
        refine lv_goto (tgt := 2) hx hb dZM_bitsOf_11 (by decide) ?_
        exact ih2 (x1_2 + (1 : Int32)) hw ls (lv_sub hl [0, 1] rfl)
  obtain ⟨n2, hw⟩ := hw
  refine lp2 _ (fun x1_2e hw ls hl => ?_) n2 (0 : Int32) hw ls (lv_sub hl [0, 1] rfl)
  refine lv_iload_n hx hb dZM_bitsOf_14 rfl (lv_at hl 0 rfl) ?_
  subst hQ9
  exact W.iret (v := x1_2e) hx hb hr (fun t ht hW => ⟨x1_2e, rfl, hw, ht⟩) (fun q h => nomatch h) dZM_bitsOf_15
theorem dZM_told_0 : decode cZM_told 0 = .ok (.iload_n 1, 1) := by decide +kernel
theorem dZM_told_1 : decode cZM_told 1 = .ok (.ifCond .ne 7, 3) := by decide +kernel
theorem dZM_told_4 : decode cZM_told 4 = .ok (.iconst 0, 1) := by decide +kernel
theorem dZM_told_5 : decode cZM_told 5 = .ok (.goto 22, 3) := by decide +kernel
theorem dZM_told_8 : decode cZM_told 8 = .ok (.iload_n 1, 1) := by decide +kernel
theorem dZM_told_9 : decode cZM_told 9 = .ok (.iload_n 2, 1) := by decide +kernel
theorem dZM_told_10 : decode cZM_told 10 = .ok (.irem, 1) := by decide +kernel
theorem dZM_told_11 : decode cZM_told 11 = .ok (.ifCond .ne 11, 3) := by decide +kernel
theorem dZM_told_14 : decode cZM_told 14 = .ok (.aload_n 0, 1) := by decide +kernel
theorem dZM_told_15 : decode cZM_told 15 = .ok (.iload_n 1, 1) := by decide +kernel
theorem dZM_told_16 : decode cZM_told 16 = .ok (.iload_n 2, 1) := by decide +kernel
theorem dZM_told_17 : decode cZM_told 17 = .ok (.isub, 1) := by decide +kernel
theorem dZM_told_18 : decode cZM_told 18 = .ok (.iaload, 1) := by decide +kernel
theorem dZM_told_19 : decode cZM_told 19 = .ok (.goto 8, 3) := by decide +kernel
theorem dZM_told_22 : decode cZM_told 22 = .ok (.aload_n 0, 1) := by decide +kernel
theorem dZM_told_23 : decode cZM_told 23 = .ok (.iload_n 1, 1) := by decide +kernel
theorem dZM_told_24 : decode cZM_told 24 = .ok (.iconst 1, 1) := by decide +kernel
theorem dZM_told_25 : decode cZM_told 25 = .ok (.isub, 1) := by decide +kernel
theorem dZM_told_26 : decode cZM_told 26 = .ok (.iaload, 1) := by decide +kernel
theorem dZM_told_27 : decode cZM_told 27 = .ok (.istore_n 3, 1) := by decide +kernel
theorem dZM_told_28 : decode cZM_told 28 = .ok (.aload_n 0, 1) := by decide +kernel
theorem dZM_told_29 : decode cZM_told 29 = .ok (.iload_n 1, 1) := by decide +kernel
theorem dZM_told_30 : decode cZM_told 30 = .ok (.iaload, 1) := by decide +kernel
theorem dZM_told_31 : decode cZM_told 31 = .ok (.iload_n 3, 1) := by decide +kernel
theorem dZM_told_32 : decode cZM_told 32 = .ok (.isub, 1) := by decide +kernel
theorem dZM_told_33 : decode cZM_told 33 = .ok (.istore 4, 2) := by decide +kernel
theorem dZM_told_35 : decode cZM_told 35 = .ok (.iload 4, 2) := by decide +kernel
theorem dZM_told_37 : decode cZM_told 37 = .ok (.ifCond .ge 13, 3) := by decide +kernel
theorem dZM_told_40 : decode cZM_told 40 = .ok (.bipush (-2), 2) := by decide +kernel
theorem dZM_told_42 : decode cZM_told 42 = .ok (.iload 4, 2) := by decide +kernel
theorem dZM_told_44 : decode cZM_told 44 = .ok (.imul, 1) := by decide +kernel
theorem dZM_told_45 : decode cZM_told 45 = .ok (.iconst 1, 1) := by decide +kernel
theorem dZM_told_46 : decode cZM_told 46 = .ok (.isub, 1) := by decide +kernel
theorem dZM_told_47 : decode cZM_told 47 = .ok (.goto 7, 3) := by decide +kernel
theorem dZM_told_50 : decode cZM_told 50 = .ok (.iconst 2, 1) := by decide +kernel
theorem dZM_told_51 : decode cZM_told 51 = .ok (.iload 4, 2) := by decide +kernel
theorem dZM_told_53 : decode cZM_told 53 = .ok (.imul, 1) := by decide +kernel
theorem dZM_told_54 : decode cZM_told 54 = .ok (.ireturn, 1) := by decide +kernel
abbrev wsZM_told : List Cond := .code yZM_told cZM_told 5 (some .int) :: tbg
def wp_ZM_told (an : Nat) (af : Nat → Int32) (a1 : Int32) (a2 : Int32) (post : Int32 → Prop) : Prop := ∃ J27 : Int32 → Prop, (∀ (t0_j27 : Int32), J27 t0_j27 → vp_in a1 an ∧ ((((0 : Int32) ≤ ((af a1.toNatClampNeg) - t0_j27) → (post ((2 : Int32) * ((af a1.toNatClampNeg) - t0_j27)))) ∧ (¬ (0 : Int32) ≤ ((af a1.toNatClampNeg) - t0_j27) → (post (((-2 : Int32) * ((af a1.toNatClampNeg) - t0_j27)) - (1 : Int32))))))) ∧ (((a1 = (0 : Int32) → (J27 (0 : Int32))) ∧ (¬ a1 = (0 : Int32) → (¬ a2 = 0 ∧ ((((a1 - a1 / a2 * a2) = (0 : Int32) → (vp_in (a1 - a2) an ∧ (J27 (af (a1 - a2).toNatClampNeg)))) ∧ (¬ (a1 - a1 / a2 * a2) = (0 : Int32) → (vp_in (a1 - (1 : Int32)) an ∧ (J27 (af (a1 - (1 : Int32)).toNatClampNeg))))))))))
abbrev rm_ZM_told : Room := { frames := 0, cells := 0, slots := 0, locals := 0 }
set_option maxHeartbeats 4000000 in
set_option maxRecDepth 100000 in
theorem kt_ZM_told (l : Launch) (dC : Nat → ClassId) (dI : Nat → Nat → Nat) (cI : ClassId) (oa : Nat) (an : Nat) (af : Nat → Int32) (a1 : Int32) (a2 : Int32) (post : Int32 → Prop) (hw : wp_ZM_told an af a1 a2 post) : Met l yZM_told wsZM_told rm_ZM_told (gr_Pc dC dI [(cI, .int)] [.ref oa, .int a1, .int a2] [(oa, .inl (cI, an, .inl af))]) (vp_Si post) 0 0 (fun _ => False) := by
  refine Met.ofW (cc := cZM_told) (maxL := 5) (ret := (some .int)) (by decide) rfl ?_
  intro p e s m args below meth c s₁ B hml hv
  obtain ⟨ha9, hP, hK, hE⟩ := hv
  have hx := B.exec
  have hb := B.bytes
  have hr := B.returns
  have hts0 := atoms_spec (ws := wsZM_told) B.pre
  have hts : ∀ w ∈ tbg, w.before args s = true := fun w h => hts0 w (List.mem_cons_of_mem _ h)
  have hown : s.vm.findClass RZM = some m.cls := findClass_of_methodNamed B.named
  have hlocks := B.notSynchronized
  refine gx_Q (fun Q9 hQ9 => ?_)
  have hl := lv_entry ([.ref oa, .int a1, .int a2]) (n := 5) (Nat.le_of_ble_eq_true rfl)
  have he9 : entryFrame m args 5 = F0 m 0 ((lg_sl [.ref oa, .int a1, .int a2] ++ List.replicate (5 - (lg_sl ([.ref oa, .int a1, .int a2] : List Value)).length) Slot.unset).toArray) [] := by rw [ha9]; exact lg_entry_eq m [.ref oa, .int a1, .int a2] 5
  rw [he9]
  generalize (lg_sl ([.ref oa, .int a1, .int a2] : List Value) ++ List.replicate (5 - (lg_sl ([.ref oa, .int a1, .int a2] : List Value)).length) Slot.unset).toArray = ls at hl ⊢
  have hl : lv_has ls 5 [(0, .ref oa), (1, .int a1), (2, .int a2)] := hl
  refine lv_iload_n hx hb dZM_told_0 rfl (lv_at hl 1 rfl) ?_
  obtain ⟨J27, hJ27, hw⟩ := hw
  have j27 : ∀ (t0_j27 : Int32), J27 t0_j27 → ∀ ls : Array Slot, lv_has ls 5 [(0, .ref oa), (1, .int a1), (2, .int a2)] → W p l e (headSpec wsZM_told rm_ZM_told).room s m args below meth c s.heap [] 0 0 Q9 (F0 m 27 ls [.int t0_j27]) := by
    intro t0_j27 hw ls hl
    have hw := hJ27 t0_j27 hw
    refine lv_istore_n (lv' := [(3, .int t0_j27), (0, .ref oa), (1, .int a1), (2, .int a2)]) hx hb dZM_told_27 rfl hl (by decide) rfl (fun ls hl => ?_)
    refine lv_aload_n hx hb dZM_told_28 rfl (lv_at hl 1 rfl) ?_
    refine lv_iload_n hx hb dZM_told_29 rfl (lv_at hl 2 rfl) ?_
    obtain ⟨h_1, hw⟩ := hw
    refine va_iald hx hb hK hP 0 0 rfl rfl h_1 dZM_told_30 ?_
    refine lv_iload_n hx hb dZM_told_31 rfl (lv_at hl 0 rfl) ?_
    refine lv_isub hx hb dZM_told_32 ?_
    refine lv_istore (lv' := [(4, .int ((af a1.toNatClampNeg) - t0_j27)), (3, .int t0_j27), (0, .ref oa), (1, .int a1), (2, .int a2)]) hx hb dZM_told_33 hl (by decide) rfl (fun ls hl => ?_)
    refine lv_iload hx hb dZM_told_35 (lv_at hl 0 rfl) ?_
    refine lv_if_ge (tgt := 50) hx hb dZM_told_37 (by decide) (fun c_2 => ?_) (fun c_2 => ?_)
    · have hw := hw.1 c_2
      refine lv_iconst (v := (2 : Int32)) hx hb dZM_told_50 (by decide) ?_
      refine lv_iload hx hb dZM_told_51 (lv_at hl 0 rfl) ?_
      refine lv_imul hx hb dZM_told_53 ?_
      subst hQ9
      exact W.iret (v := (2 : Int32) * ((af a1.toNatClampNeg) - t0_j27)) hx hb hr (fun t ht hW => ⟨(2 : Int32) * ((af a1.toNatClampNeg) - t0_j27), rfl, hw, ht⟩) (fun q h => nomatch h) dZM_told_54
    · have hw := hw.2 c_2
      refine lv_bipush (v := (-2 : Int32)) hx hb dZM_told_40 (by decide) ?_
      refine lv_iload hx hb dZM_told_42 (lv_at hl 0 rfl) ?_
      refine lv_imul hx hb dZM_told_44 ?_
      refine lv_iconst (v := (1 : Int32)) hx hb dZM_told_45 (by decide) ?_
      refine lv_isub hx hb dZM_told_46 ?_
      refine lv_goto (tgt := 54) hx hb dZM_told_47 (by decide) ?_
      subst hQ9
      exact W.iret (v := ((-2 : Int32) * ((af a1.toNatClampNeg) - t0_j27)) - (1 : Int32)) hx hb hr (fun t ht hW => ⟨((-2 : Int32) * ((af a1.toNatClampNeg) - t0_j27)) - (1 : Int32), rfl, hw, ht⟩) (fun q h => nomatch h) dZM_told_54
  refine lv_if_ne (tgt := 8) hx hb dZM_told_1 (by decide) (fun c_3 => ?_) (fun c_3 => ?_)
  · have hw := hw.2 c_3
    refine lv_iload_n hx hb dZM_told_8 rfl (lv_at hl 1 rfl) ?_
    refine lv_iload_n hx hb dZM_told_9 rfl (lv_at hl 2 rfl) ?_
    obtain ⟨h_4, hw⟩ := hw
    refine lv_irem hx hb dZM_told_10 h_4 ?_
    refine lv_if_ne (tgt := 22) hx hb dZM_told_11 (by decide) (fun c_5 => ?_) (fun c_5 => ?_)
    · have hw := hw.2 c_5
      refine lv_aload_n hx hb dZM_told_22 rfl (lv_at hl 0 rfl) ?_
      refine lv_iload_n hx hb dZM_told_23 rfl (lv_at hl 1 rfl) ?_
      refine lv_iconst (v := (1 : Int32)) hx hb dZM_told_24 (by decide) ?_
      refine lv_isub hx hb dZM_told_25 ?_
      obtain ⟨h_6, hw⟩ := hw
      refine va_iald hx hb hK hP 0 0 rfl rfl h_6 dZM_told_26 ?_
      exact j27 (af (a1 - (1 : Int32)).toNatClampNeg) hw ls (lv_sub hl [0, 1, 2] rfl)
    · have hw := hw.1 c_5
      refine lv_aload_n hx hb dZM_told_14 rfl (lv_at hl 0 rfl) ?_
      refine lv_iload_n hx hb dZM_told_15 rfl (lv_at hl 1 rfl) ?_
      refine lv_iload_n hx hb dZM_told_16 rfl (lv_at hl 2 rfl) ?_
      refine lv_isub hx hb dZM_told_17 ?_
      obtain ⟨h_7, hw⟩ := hw
      refine va_iald hx hb hK hP 0 0 rfl rfl h_7 dZM_told_18 ?_
      refine lv_goto (tgt := 27) hx hb dZM_told_19 (by decide) ?_
      exact j27 (af (a1 - a2).toNatClampNeg) hw ls (lv_sub hl [0, 1, 2] rfl)
  · have hw := hw.1 c_3
    refine lv_iconst (v := (0 : Int32)) hx hb dZM_told_4 (by decide) ?_
    refine lv_goto (tgt := 27) hx hb dZM_told_5 (by decide) ?_
    exact j27 (0 : Int32) hw ls (lv_sub hl [0, 1, 2] rfl)
theorem dZM_rowBits_0 : decode cZM_rowBits 0 = .ok (.iconst 0, 1) := by decide +kernel
theorem dZM_rowBits_1 : decode cZM_rowBits 1 = .ok (.istore_n 3, 1) := by decide +kernel
theorem dZM_rowBits_2 : decode cZM_rowBits 2 = .ok (.iconst 0, 1) := by decide +kernel
theorem dZM_rowBits_3 : decode cZM_rowBits 3 = .ok (.istore 4, 2) := by decide +kernel
theorem dZM_rowBits_5 : decode cZM_rowBits 5 = .ok (.iload 4, 2) := by decide +kernel
theorem dZM_rowBits_7 : decode cZM_rowBits 7 = .ok (.iload_n 2, 1) := by decide +kernel
theorem dZM_rowBits_8 : decode cZM_rowBits 8 = .ok (.if_icmp .ge 38, 3) := by decide +kernel
theorem dZM_rowBits_11 : decode cZM_rowBits 11 = .ok (.aload_n 0, 1) := by decide +kernel
theorem dZM_rowBits_12 : decode cZM_rowBits 12 = .ok (.iload_n 1, 1) := by decide +kernel
theorem dZM_rowBits_13 : decode cZM_rowBits 13 = .ok (.iload_n 2, 1) := by decide +kernel
theorem dZM_rowBits_14 : decode cZM_rowBits 14 = .ok (.imul, 1) := by decide +kernel
theorem dZM_rowBits_15 : decode cZM_rowBits 15 = .ok (.iload 4, 2) := by decide +kernel
theorem dZM_rowBits_17 : decode cZM_rowBits 17 = .ok (.iadd, 1) := by decide +kernel
theorem dZM_rowBits_18 : decode cZM_rowBits 18 = .ok (.iload_n 2, 1) := by decide +kernel
theorem dZM_rowBits_19 : decode cZM_rowBits 19 = .ok (.invokestatic 105, 3) := by decide +kernel
theorem dZM_rowBits_22 : decode cZM_rowBits 22 = .ok (.invokestatic 109, 3) := by decide +kernel
theorem dZM_rowBits_25 : decode cZM_rowBits 25 = .ok (.istore 5, 2) := by decide +kernel
theorem dZM_rowBits_27 : decode cZM_rowBits 27 = .ok (.iload 5, 2) := by decide +kernel
theorem dZM_rowBits_29 : decode cZM_rowBits 29 = .ok (.iload_n 3, 1) := by decide +kernel
theorem dZM_rowBits_30 : decode cZM_rowBits 30 = .ok (.if_icmp .le 8, 3) := by decide +kernel
theorem dZM_rowBits_33 : decode cZM_rowBits 33 = .ok (.iload 5, 2) := by decide +kernel
theorem dZM_rowBits_35 : decode cZM_rowBits 35 = .ok (.goto 4, 3) := by decide +kernel
theorem dZM_rowBits_38 : decode cZM_rowBits 38 = .ok (.iload_n 3, 1) := by decide +kernel
theorem dZM_rowBits_39 : decode cZM_rowBits 39 = .ok (.istore_n 3, 1) := by decide +kernel
theorem dZM_rowBits_40 : decode cZM_rowBits 40 = .ok (.iinc 4 1, 3) := by decide +kernel
theorem dZM_rowBits_43 : decode cZM_rowBits 43 = .ok (.goto (-38), 3) := by decide +kernel
theorem dZM_rowBits_46 : decode cZM_rowBits 46 = .ok (.iload_n 3, 1) := by decide +kernel
theorem dZM_rowBits_47 : decode cZM_rowBits 47 = .ok (.ireturn, 1) := by decide +kernel
abbrev wsZM_rowBits : List Cond := .code yZM_rowBits cZM_rowBits 6 (some .int) :: tbg
def lp_ZM_rowBits_5 (an : Nat) (af : Nat → Int32) (a1 : Int32) (a2 : Int32) (post : Int32 → Prop) (K5 : Int32 → Int32 → Prop) (n : Nat) : Int32 → Int32 → Prop := Nat.rec (motive := fun _ => Int32 → Int32 → Prop) (fun (x3_5 : Int32) (x4_5 : Int32) => False) (fun _ ih5 (x3_5 : Int32) (x4_5 : Int32) => ((a2 ≤ x4_5 → (K5 x3_5 x4_5)) ∧ (¬ a2 ≤ x4_5 → (wp_ZM_told an af ((a1 * a2) + x4_5) a2 (fun r_2 : Int32 => wp_ZM_bitsOf r_2 (fun r_3 : Int32 => ((r_3 ≤ x3_5 → (ih5 x3_5 (x4_5 + (1 : Int32)))) ∧ (¬ r_3 ≤ x3_5 → (ih5 r_3 (x4_5 + (1 : Int32))))))))))) n
def wp_ZM_rowBits (an : Nat) (af : Nat → Int32) (a1 : Int32) (a2 : Int32) (post : Int32 → Prop) : Prop := ∃ n : Nat, lp_ZM_rowBits_5 an af a1 a2 post (fun (x3_5e : Int32) (x4_5e : Int32) => post x3_5e) n (0 : Int32) (0 : Int32)
abbrev rm_ZM_rowBits : Room := { frames := 1, cells := 0, slots := 0, locals := 24 }
set_option maxHeartbeats 4000000 in
set_option maxRecDepth 100000 in
theorem kt_ZM_rowBits (l : Launch) (dC : Nat → ClassId) (dI : Nat → Nat → Nat) (cI : ClassId) (oa : Nat) (an : Nat) (af : Nat → Int32) (a1 : Int32) (a2 : Int32) (post : Int32 → Prop) (hw : wp_ZM_rowBits an af a1 a2 post) : Met l yZM_rowBits wsZM_rowBits rm_ZM_rowBits (gr_Pc dC dI [(cI, .int)] [.ref oa, .int a1, .int a2] [(oa, .inl (cI, an, .inl af))]) (vp_Si post) 0 0 (fun _ => False) := by
  refine Met.ofW (cc := cZM_rowBits) (maxL := 6) (ret := (some .int)) (by decide) rfl ?_
  intro p e s m args below meth c s₁ B hml hv
  obtain ⟨ha9, hP, hK, hE⟩ := hv
  have hx := B.exec
  have hb := B.bytes
  have hr := B.returns
  have hts0 := atoms_spec (ws := wsZM_rowBits) B.pre
  have hts : ∀ w ∈ tbg, w.before args s = true := fun w h => hts0 w (List.mem_cons_of_mem _ h)
  have hown : s.vm.findClass RZM = some m.cls := findClass_of_methodNamed B.named
  have hlocks := B.notSynchronized
  refine gx_Q (fun Q9 hQ9 => ?_)
  have hl := lv_entry ([.ref oa, .int a1, .int a2]) (n := 6) (Nat.le_of_ble_eq_true rfl)
  have he9 : entryFrame m args 6 = F0 m 0 ((lg_sl [.ref oa, .int a1, .int a2] ++ List.replicate (6 - (lg_sl ([.ref oa, .int a1, .int a2] : List Value)).length) Slot.unset).toArray) [] := by rw [ha9]; exact lg_entry_eq m [.ref oa, .int a1, .int a2] 6
  rw [he9]
  generalize (lg_sl ([.ref oa, .int a1, .int a2] : List Value) ++ List.replicate (6 - (lg_sl ([.ref oa, .int a1, .int a2] : List Value)).length) Slot.unset).toArray = ls at hl ⊢
  have hl : lv_has ls 6 [(0, .ref oa), (1, .int a1), (2, .int a2)] := hl
  refine lv_iconst (v := (0 : Int32)) hx hb dZM_rowBits_0 (by decide) ?_
  refine lv_istore_n (lv' := [(3, .int (0 : Int32)), (0, .ref oa), (1, .int a1), (2, .int a2)]) hx hb dZM_rowBits_1 rfl hl (by decide) rfl (fun ls hl => ?_)
  refine lv_iconst (v := (0 : Int32)) hx hb dZM_rowBits_2 (by decide) ?_
  refine lv_istore (lv' := [(4, .int (0 : Int32)), (3, .int (0 : Int32)), (0, .ref oa), (1, .int a1), (2, .int a2)]) hx hb dZM_rowBits_3 hl (by decide) rfl (fun ls hl => ?_)
  have lp5 : ∀ K5 : Int32 → Int32 → Prop, (∀ (x3_5 : Int32) (x4_5 : Int32), K5 x3_5 x4_5 → ∀ ls : Array Slot, lv_has ls 6 [(4, .int x4_5), (3, .int x3_5), (0, .ref oa), (1, .int a1), (2, .int a2)] → W p l e (headSpec wsZM_rowBits rm_ZM_rowBits).room s m args below meth c s.heap [] 0 0 Q9 (F0 m 46 ls [])) → ∀ (n : Nat) (x3_5 : Int32) (x4_5 : Int32), lp_ZM_rowBits_5 an af a1 a2 post K5 n x3_5 x4_5 → ∀ ls : Array Slot, lv_has ls 6 [(4, .int x4_5), (3, .int x3_5), (0, .ref oa), (1, .int a1), (2, .int a2)] → W p l e (headSpec wsZM_rowBits rm_ZM_rowBits).room s m args below meth c s.heap [] 0 0 Q9 (F0 m 5 ls []) := by
    intro K5 aft5 n
    induction n with
    | zero => intro x3_5 x4_5 hw; exact False.elim hw
    | succ n ih5 =>
      intro x3_5 x4_5 hw ls hl
      refine lv_iload hx hb dZM_rowBits_5 (lv_at hl 0 rfl) ?_
      refine lv_iload_n hx hb dZM_rowBits_7 rfl (lv_at hl 4 rfl) ?_
      refine lv_icmp_ge (tgt := 46) hx hb dZM_rowBits_8 (by decide) (fun c_1 => ?_) (fun c_1 => ?_)
      · have hw := hw.1 c_1
        exact aft5 x3_5 x4_5 hw ls (lv_sub hl [0, 1, 2, 3, 4] rfl)
      · have hw := hw.2 c_1
        refine lv_aload_n hx hb dZM_rowBits_11 rfl (lv_at hl 2 rfl) ?_
        refine lv_iload_n hx hb dZM_rowBits_12 rfl (lv_at hl 3 rfl) ?_
        refine lv_iload_n hx hb dZM_rowBits_13 rfl (lv_at hl 4 rfl) ?_
        refine lv_imul hx hb dZM_rowBits_14 ?_
        refine lv_iload hx hb dZM_rowBits_15 (lv_at hl 0 rfl) ?_
        refine lv_iadd hx hb dZM_rowBits_17 ?_
        refine lv_iload_n hx hb dZM_rowBits_18 rfl (lv_at hl 4 rfl) ?_
        refine vp_callSi (va_runS (As := [.ref oa, .int ((a1 * a2) + x4_5), .int a2]) (rest := []) ⟨hx, hb, hml, hown, hts⟩ (kt_ZM_told l dC dI cI oa an af ((a1 * a2) + x4_5) a2 _ hw) (va_cwS 3 hts (tb_S mm_789 mm_790 mm_8 mm_791) rfl rfl rfl (by decide +kernel) ⟨Nat.le_of_ble_eq_true rfl, Nat.le_of_ble_eq_true rfl⟩) ⟨gr_blind, fun U hU hW => gr_pre hP hK hE hU hW⟩ rfl rfl hl.1 rfl (lv_room (Nat.le_of_ble_eq_true rfl)) dZM_rowBits_19 ⟨Nat.le_of_ble_eq_true rfl, Nat.le_of_ble_eq_true rfl⟩).run (fun r_2 hw => ?_)
        have hPc := hP.sub (ws' := []) [] rfl
        refine vp_callSi (va_runS (As := [.int r_2]) (rest := []) ⟨hx, hb, hml, hown, hts⟩ (kt_ZM_bitsOf l dC dI cI  r_2 _ hw) (va_cwS 1 hts (tb_S mm_792 mm_793 mm_8 mm_794) rfl rfl rfl (by decide +kernel) ⟨Nat.le_of_ble_eq_true rfl, Nat.le_of_ble_eq_true rfl⟩) ⟨gr_blind, fun U hU hW => gr_pre hPc hK hE hU hW⟩ rfl rfl hl.1 rfl (lv_room (Nat.le_of_ble_eq_true rfl)) dZM_rowBits_22 ⟨Nat.le_of_ble_eq_true rfl, Nat.le_of_ble_eq_true rfl⟩).run (fun r_3 hw => ?_)
        refine lv_istore (lv' := [(5, .int r_3), (4, .int x4_5), (3, .int x3_5), (0, .ref oa), (1, .int a1), (2, .int a2)]) hx hb dZM_rowBits_25 hl (by decide) rfl (fun ls hl => ?_)
        refine lv_iload hx hb dZM_rowBits_27 (lv_at hl 0 rfl) ?_
        refine lv_iload_n hx hb dZM_rowBits_29 rfl (lv_at hl 2 rfl) ?_
        refine lv_icmp_le (tgt := 38) hx hb dZM_rowBits_30 (by decide) (fun c_4 => ?_) (fun c_4 => ?_)
        · have hw := hw.1 c_4
          refine lv_iload_n hx hb dZM_rowBits_38 rfl (lv_at hl 2 rfl) ?_
          refine lv_istore_n (lv' := [(3, .int x3_5), (5, .int r_3), (4, .int x4_5), (0, .ref oa), (1, .int a1), (2, .int a2)]) hx hb dZM_rowBits_39 rfl hl (by decide) rfl (fun ls hl => ?_)
          refine lv_iinc (v := x4_5 + (1 : Int32)) (lv' := [(4, .int (x4_5 + (1 : Int32))), (3, .int x3_5), (5, .int r_3), (0, .ref oa), (1, .int a1), (2, .int a2)]) hx hb dZM_rowBits_40 hl (k := 2) rfl rfl (by decide) rfl (fun ls hl => ?_)
          refine lv_goto (tgt := 5) hx hb dZM_rowBits_43 (by decide) ?_
          exact ih5 x3_5 (x4_5 + (1 : Int32)) hw ls (lv_sub hl [0, 1, 3, 4, 5] rfl)
        · have hw := hw.2 c_4
          refine lv_iload hx hb dZM_rowBits_33 (lv_at hl 0 rfl) ?_
          refine lv_goto (tgt := 39) hx hb dZM_rowBits_35 (by decide) ?_
          refine lv_istore_n (lv' := [(3, .int r_3), (5, .int r_3), (4, .int x4_5), (0, .ref oa), (1, .int a1), (2, .int a2)]) hx hb dZM_rowBits_39 rfl hl (by decide) rfl (fun ls hl => ?_)
          refine lv_iinc (v := x4_5 + (1 : Int32)) (lv' := [(4, .int (x4_5 + (1 : Int32))), (3, .int r_3), (5, .int r_3), (0, .ref oa), (1, .int a1), (2, .int a2)]) hx hb dZM_rowBits_40 hl (k := 2) rfl rfl (by decide) rfl (fun ls hl => ?_)
          refine lv_goto (tgt := 5) hx hb dZM_rowBits_43 (by decide) ?_
          exact ih5 r_3 (x4_5 + (1 : Int32)) hw ls (lv_sub hl [0, 1, 3, 4, 5] rfl)
  obtain ⟨n5, hw⟩ := hw
  refine lp5 _ (fun x3_5e x4_5e hw ls hl => ?_) n5 (0 : Int32) (0 : Int32) hw ls (lv_sub hl [0, 1, 2, 3, 4] rfl)
  refine lv_iload_n hx hb dZM_rowBits_46 rfl (lv_at hl 1 rfl) ?_
  subst hQ9
  exact W.iret (v := x3_5e) hx hb hr (fun t ht hW => ⟨x3_5e, rfl, hw, ht⟩) (fun q h => nomatch h) dZM_rowBits_47
theorem dZM_thrown_0 : decode cZM_thrown 0 = .ok (.aload_n 0, 1) := by decide +kernel
theorem dZM_thrown_1 : decode cZM_thrown 1 = .ok (.getfield 45, 3) := by decide +kernel
theorem dZM_thrown_4 : decode cZM_thrown 4 = .ok (.ireturn, 1) := by decide +kernel
abbrev wsZM_thrown : List Cond := .code yZM_thrown cZM_thrown 1 (some .int) :: tbg
def wp_ZM_thrown (zt : Int32) (zw : Int32) (zh : Int32) (zp : Nat → Int32) (zs : Nat → Int32) (zb : Nat → Int32) (zz : Int32) (zl : Nat → Int32) (zo : Nat → Int32) (zc : Int32) (zr : Int32) (zu : Int32) (zv : Int32) (zq : Int32) (zi : Int32) (zk : Nat → Int32) (zm : Nat → Int32) (zd : Int32) (zg : Nat → Int32) (post : Int32 → Prop) : Prop := post zt
abbrev rm_ZM_thrown : Room := { frames := 0, cells := 0, slots := 0, locals := 0 }
set_option maxHeartbeats 4000000 in
set_option maxRecDepth 100000 in
theorem kt_ZM_thrown (l : Launch) (dC : Nat → ClassId) (dI : Nat → Nat → Nat) (cI : ClassId) (om ozp ozs ozb ozl ozo ozk ozm ozg : Nat) (zt : Int32) (zw : Int32) (zh : Int32) (zp : Nat → Int32) (zs : Nat → Int32) (zb : Nat → Int32) (zz : Int32) (zl : Nat → Int32) (zo : Nat → Int32) (zc : Int32) (zr : Int32) (zu : Int32) (zv : Int32) (zq : Int32) (zi : Int32) (zk : Nat → Int32) (zm : Nat → Int32) (zd : Int32) (zg : Nat → Int32) (post : Int32 → Prop) (hw : wp_ZM_thrown zt zw zh zp zs zb zz zl zo zc zr zu zv zq zi zk zm zd zg post) : Met l yZM_thrown wsZM_thrown rm_ZM_thrown (gr_Pc dC dI [(cI, .int)] [.ref om] [(om, .inr (6, [.int zt, .int zw, .int zh, .ref ozp, .ref ozs, .ref ozb, .int zz, .ref ozl, .ref ozo, .int zc, .int zr, .int zu, .int zv, .int zq, .int zi, .ref ozk, .ref ozm, .int zd, .ref ozg])), (ozp, .inl (cI, 1600, .inl zp)), (ozs, .inl (cI, 320, .inl zs)), (ozb, .inl (cI, 256, .inl zb)), (ozl, .inl (cI, 64, .inl zl)), (ozo, .inl (cI, 64, .inl zo)), (ozk, .inl (cI, 320, .inl zk)), (ozm, .inl (cI, 40, .inl zm)), (ozg, .inl (cI, 64, .inl zg))]) (vp_Si post) 0 0 (fun _ => False) := by
  refine Met.ofW (cc := cZM_thrown) (maxL := 1) (ret := (some .int)) (by decide) rfl ?_
  intro p e s m args below meth c s₁ B hml hv
  obtain ⟨ha9, hP, hK, hE⟩ := hv
  have hx := B.exec
  have hb := B.bytes
  have hr := B.returns
  have hts0 := atoms_spec (ws := wsZM_thrown) B.pre
  have hts : ∀ w ∈ tbg, w.before args s = true := fun w h => hts0 w (List.mem_cons_of_mem _ h)
  have hown : s.vm.findClass RZM = some m.cls := findClass_of_methodNamed B.named
  have hlocks := B.notSynchronized
  refine gx_Q (fun Q9 hQ9 => ?_)
  have hl := lv_entry ([.ref om]) (n := 1) (Nat.le_of_ble_eq_true rfl)
  have he9 : entryFrame m args 1 = F0 m 0 ((lg_sl [.ref om] ++ List.replicate (1 - (lg_sl ([.ref om] : List Value)).length) Slot.unset).toArray) [] := by rw [ha9]; exact lg_entry_eq m [.ref om] 1
  rw [he9]
  generalize (lg_sl ([.ref om] : List Value) ++ List.replicate (1 - (lg_sl ([.ref om] : List Value)).length) Slot.unset).toArray = ls at hl ⊢
  have hl : lv_has ls 1 [(0, .ref om)] := hl
  refine lv_aload_n hx hb dZM_thrown_0 rfl (lv_at hl 0 rfl) ?_
  refine va_get (D := (dC, dI)) (ci := 6) (v := .int zt) (C := RZM) (T := TZM) (N := 19) hx hb hts inZM hown hK hP 0 rfl rfl 0 (by decide) (hts _ mm_618) (fun _ h9 => h9) rfl dZM_thrown_1 ?_
  subst hQ9
  exact W.iret (v := zt) hx hb hr (fun t ht hW => ⟨zt, rfl, hw, ht⟩) (fun q h => nomatch h) dZM_thrown_4
theorem dZM_isPlace_0 : decode cZM_isPlace 0 = .ok (.iload_n 1, 1) := by decide +kernel
theorem dZM_isPlace_1 : decode cZM_isPlace 1 = .ok (.iconst 0, 1) := by decide +kernel
theorem dZM_isPlace_2 : decode cZM_isPlace 2 = .ok (.aload_n 0, 1) := by decide +kernel
theorem dZM_isPlace_3 : decode cZM_isPlace 3 = .ok (.getfield 38, 3) := by decide +kernel
theorem dZM_isPlace_6 : decode cZM_isPlace 6 = .ok (.iconst 1, 1) := by decide +kernel
theorem dZM_isPlace_7 : decode cZM_isPlace 7 = .ok (.isub, 1) := by decide +kernel
theorem dZM_isPlace_8 : decode cZM_isPlace 8 = .ok (.invokestatic 48, 3) := by decide +kernel
theorem dZM_isPlace_11 : decode cZM_isPlace 11 = .ok (.ifCond .eq 21, 3) := by decide +kernel
theorem dZM_isPlace_14 : decode cZM_isPlace 14 = .ok (.iload_n 2, 1) := by decide +kernel
theorem dZM_isPlace_15 : decode cZM_isPlace 15 = .ok (.iconst 0, 1) := by decide +kernel
theorem dZM_isPlace_16 : decode cZM_isPlace 16 = .ok (.aload_n 0, 1) := by decide +kernel
theorem dZM_isPlace_17 : decode cZM_isPlace 17 = .ok (.getfield 42, 3) := by decide +kernel
theorem dZM_isPlace_20 : decode cZM_isPlace 20 = .ok (.iconst 1, 1) := by decide +kernel
theorem dZM_isPlace_21 : decode cZM_isPlace 21 = .ok (.isub, 1) := by decide +kernel
theorem dZM_isPlace_22 : decode cZM_isPlace 22 = .ok (.invokestatic 48, 3) := by decide +kernel
theorem dZM_isPlace_25 : decode cZM_isPlace 25 = .ok (.ifCond .eq 7, 3) := by decide +kernel
theorem dZM_isPlace_28 : decode cZM_isPlace 28 = .ok (.iconst 1, 1) := by decide +kernel
theorem dZM_isPlace_29 : decode cZM_isPlace 29 = .ok (.goto 4, 3) := by decide +kernel
theorem dZM_isPlace_32 : decode cZM_isPlace 32 = .ok (.iconst 0, 1) := by decide +kernel
theorem dZM_isPlace_33 : decode cZM_isPlace 33 = .ok (.ireturn, 1) := by decide +kernel
abbrev wsZM_isPlace : List Cond := .code yZM_isPlace cZM_isPlace 3 (some .boolean) :: tbg
def wp_ZM_isPlace (zt : Int32) (zw : Int32) (zh : Int32) (zp : Nat → Int32) (zs : Nat → Int32) (zb : Nat → Int32) (zz : Int32) (zl : Nat → Int32) (zo : Nat → Int32) (zc : Int32) (zr : Int32) (zu : Int32) (zv : Int32) (zq : Int32) (zi : Int32) (zk : Nat → Int32) (zm : Nat → Int32) (zd : Int32) (zg : Nat → Int32) (a1 : Int32) (a2 : Int32) (post : Int32 → Prop) : Prop := wp_ZM_in a1 (0 : Int32) (zw - (1 : Int32)) (fun r_1 : Int32 => ((r_1 = (0 : Int32) → (post (0 : Int32))) ∧ (¬ r_1 = (0 : Int32) → (wp_ZM_in a2 (0 : Int32) (zh - (1 : Int32)) (fun r_3 : Int32 => ((r_3 = (0 : Int32) → (post (0 : Int32))) ∧ (¬ r_3 = (0 : Int32) → (post (1 : Int32)))))))))
abbrev rm_ZM_isPlace : Room := { frames := 1, cells := 0, slots := 0, locals := 22 }
set_option maxHeartbeats 4000000 in
set_option maxRecDepth 100000 in
theorem kt_ZM_isPlace (l : Launch) (dC : Nat → ClassId) (dI : Nat → Nat → Nat) (cI : ClassId) (om ozp ozs ozb ozl ozo ozk ozm ozg : Nat) (zt : Int32) (zw : Int32) (zh : Int32) (zp : Nat → Int32) (zs : Nat → Int32) (zb : Nat → Int32) (zz : Int32) (zl : Nat → Int32) (zo : Nat → Int32) (zc : Int32) (zr : Int32) (zu : Int32) (zv : Int32) (zq : Int32) (zi : Int32) (zk : Nat → Int32) (zm : Nat → Int32) (zd : Int32) (zg : Nat → Int32) (a1 : Int32) (a2 : Int32) (post : Int32 → Prop) (hw : wp_ZM_isPlace zt zw zh zp zs zb zz zl zo zc zr zu zv zq zi zk zm zd zg a1 a2 post) : Met l yZM_isPlace wsZM_isPlace rm_ZM_isPlace (gr_Pc dC dI [(cI, .int)] [.ref om, .int a1, .int a2] [(om, .inr (6, [.int zt, .int zw, .int zh, .ref ozp, .ref ozs, .ref ozb, .int zz, .ref ozl, .ref ozo, .int zc, .int zr, .int zu, .int zv, .int zq, .int zi, .ref ozk, .ref ozm, .int zd, .ref ozg])), (ozp, .inl (cI, 1600, .inl zp)), (ozs, .inl (cI, 320, .inl zs)), (ozb, .inl (cI, 256, .inl zb)), (ozl, .inl (cI, 64, .inl zl)), (ozo, .inl (cI, 64, .inl zo)), (ozk, .inl (cI, 320, .inl zk)), (ozm, .inl (cI, 40, .inl zm)), (ozg, .inl (cI, 64, .inl zg))]) (vp_Si post) 0 0 (fun _ => False) := by
  refine Met.ofW (cc := cZM_isPlace) (maxL := 3) (ret := (some .boolean)) (by decide) rfl ?_
  intro p e s m args below meth c s₁ B hml hv
  obtain ⟨ha9, hP, hK, hE⟩ := hv
  have hx := B.exec
  have hb := B.bytes
  have hr := B.returns
  have hts0 := atoms_spec (ws := wsZM_isPlace) B.pre
  have hts : ∀ w ∈ tbg, w.before args s = true := fun w h => hts0 w (List.mem_cons_of_mem _ h)
  have hown : s.vm.findClass RZM = some m.cls := findClass_of_methodNamed B.named
  have hlocks := B.notSynchronized
  refine gx_Q (fun Q9 hQ9 => ?_)
  have hl := lv_entry ([.ref om, .int a1, .int a2]) (n := 3) (Nat.le_of_ble_eq_true rfl)
  have he9 : entryFrame m args 3 = F0 m 0 ((lg_sl [.ref om, .int a1, .int a2] ++ List.replicate (3 - (lg_sl ([.ref om, .int a1, .int a2] : List Value)).length) Slot.unset).toArray) [] := by rw [ha9]; exact lg_entry_eq m [.ref om, .int a1, .int a2] 3
  rw [he9]
  generalize (lg_sl ([.ref om, .int a1, .int a2] : List Value) ++ List.replicate (3 - (lg_sl ([.ref om, .int a1, .int a2] : List Value)).length) Slot.unset).toArray = ls at hl ⊢
  have hl : lv_has ls 3 [(0, .ref om), (1, .int a1), (2, .int a2)] := hl
  refine lv_iload_n hx hb dZM_isPlace_0 rfl (lv_at hl 1 rfl) ?_
  refine lv_iconst (v := (0 : Int32)) hx hb dZM_isPlace_1 (by decide) ?_
  refine lv_aload_n hx hb dZM_isPlace_2 rfl (lv_at hl 0 rfl) ?_
  refine va_get (D := (dC, dI)) (ci := 6) (v := .int zw) (C := RZM) (T := TZM) (N := 19) hx hb hts inZM hown hK hP 0 rfl rfl 1 (by decide) (hts _ mm_619) (fun _ h9 => h9) rfl dZM_isPlace_3 ?_
  refine lv_iconst (v := (1 : Int32)) hx hb dZM_isPlace_6 (by decide) ?_
  refine lv_isub hx hb dZM_isPlace_7 ?_
  have hPc := hP.sub (ws' := []) [] rfl
  refine vp_callSi (va_runS (As := [.int a1, .int (0 : Int32), .int (zw - (1 : Int32))]) (rest := []) ⟨hx, hb, hml, hown, hts⟩ (kt_ZM_in l dC dI cI  a1 (0 : Int32) (zw - (1 : Int32)) _ hw) (va_cwS 3 hts (tb_S mm_687 mm_688 mm_8 mm_689) rfl rfl rfl (by decide +kernel) ⟨Nat.le_of_ble_eq_true rfl, Nat.le_of_ble_eq_true rfl⟩) ⟨gr_blind, fun U hU hW => gr_pre hPc hK hE hU hW⟩ rfl rfl hl.1 rfl (lv_room (Nat.le_of_ble_eq_true rfl)) dZM_isPlace_8 ⟨Nat.le_of_ble_eq_true rfl, Nat.le_of_ble_eq_true rfl⟩).run (fun r_1 hw => ?_)
  refine lv_if_eq (tgt := 32) hx hb dZM_isPlace_11 (by decide) (fun c_2 => ?_) (fun c_2 => ?_)
  · have hw := hw.1 c_2
    refine lv_iconst (v := (0 : Int32)) hx hb dZM_isPlace_32 (by decide) ?_
    subst hQ9
    exact W.zret (v := (0 : Int32)) (ty := .boolean) hx hb hr rfl (fun t ht hW => ⟨(0 : Int32), rfl, hw, ht⟩) (fun q h => nomatch h) dZM_isPlace_33
  · have hw := hw.2 c_2
    refine lv_iload_n hx hb dZM_isPlace_14 rfl (lv_at hl 2 rfl) ?_
    refine lv_iconst (v := (0 : Int32)) hx hb dZM_isPlace_15 (by decide) ?_
    refine lv_aload_n hx hb dZM_isPlace_16 rfl (lv_at hl 0 rfl) ?_
    refine va_get (D := (dC, dI)) (ci := 6) (v := .int zh) (C := RZM) (T := TZM) (N := 19) hx hb hts inZM hown hK hP 0 rfl rfl 2 (by decide) (hts _ mm_620) (fun _ h9 => h9) rfl dZM_isPlace_17 ?_
    refine lv_iconst (v := (1 : Int32)) hx hb dZM_isPlace_20 (by decide) ?_
    refine lv_isub hx hb dZM_isPlace_21 ?_
    have hPc := hP.sub (ws' := []) [] rfl
    refine vp_callSi (va_runS (As := [.int a2, .int (0 : Int32), .int (zh - (1 : Int32))]) (rest := []) ⟨hx, hb, hml, hown, hts⟩ (kt_ZM_in l dC dI cI  a2 (0 : Int32) (zh - (1 : Int32)) _ hw) (va_cwS 3 hts (tb_S mm_687 mm_688 mm_8 mm_689) rfl rfl rfl (by decide +kernel) ⟨Nat.le_of_ble_eq_true rfl, Nat.le_of_ble_eq_true rfl⟩) ⟨gr_blind, fun U hU hW => gr_pre hPc hK hE hU hW⟩ rfl rfl hl.1 rfl (lv_room (Nat.le_of_ble_eq_true rfl)) dZM_isPlace_22 ⟨Nat.le_of_ble_eq_true rfl, Nat.le_of_ble_eq_true rfl⟩).run (fun r_3 hw => ?_)
    refine lv_if_eq (tgt := 32) hx hb dZM_isPlace_25 (by decide) (fun c_4 => ?_) (fun c_4 => ?_)
    · have hw := hw.1 c_4
      refine lv_iconst (v := (0 : Int32)) hx hb dZM_isPlace_32 (by decide) ?_
      subst hQ9
      exact W.zret (v := (0 : Int32)) (ty := .boolean) hx hb hr rfl (fun t ht hW => ⟨(0 : Int32), rfl, hw, ht⟩) (fun q h => nomatch h) dZM_isPlace_33
    · have hw := hw.2 c_4
      refine lv_iconst (v := (1 : Int32)) hx hb dZM_isPlace_28 (by decide) ?_
      refine lv_goto (tgt := 33) hx hb dZM_isPlace_29 (by decide) ?_
      subst hQ9
      exact W.zret (v := (1 : Int32)) (ty := .boolean) hx hb hr rfl (fun t ht hW => ⟨(1 : Int32), rfl, hw, ht⟩) (fun q h => nomatch h) dZM_isPlace_33
theorem dZM_many_0 : decode cZM_many 0 = .ok (.iconst 1, 1) := by decide +kernel
theorem dZM_many_1 : decode cZM_many 1 = .ok (.istore_n 1, 1) := by decide +kernel
theorem dZM_many_2 : decode cZM_many 2 = .ok (.aload_n 0, 1) := by decide +kernel
theorem dZM_many_3 : decode cZM_many 3 = .ok (.getfield 38, 3) := by decide +kernel
theorem dZM_many_6 : decode cZM_many 6 = .ok (.iload_n 1, 1) := by decide +kernel
theorem dZM_many_7 : decode cZM_many 7 = .ok (.iconst 1, 1) := by decide +kernel
theorem dZM_many_8 : decode cZM_many 8 = .ok (.isub, 1) := by decide +kernel
theorem dZM_many_9 : decode cZM_many 9 = .ok (.invokestatic 64, 3) := by decide +kernel
theorem dZM_many_12 : decode cZM_many 12 = .ok (.iconst 1, 1) := by decide +kernel
theorem dZM_many_13 : decode cZM_many 13 = .ok (.if_icmp .gt 17, 3) := by decide +kernel
theorem dZM_many_16 : decode cZM_many 16 = .ok (.aload_n 0, 1) := by decide +kernel
theorem dZM_many_17 : decode cZM_many 17 = .ok (.getfield 42, 3) := by decide +kernel
theorem dZM_many_20 : decode cZM_many 20 = .ok (.iload_n 1, 1) := by decide +kernel
theorem dZM_many_21 : decode cZM_many 21 = .ok (.iconst 1, 1) := by decide +kernel
theorem dZM_many_22 : decode cZM_many 22 = .ok (.isub, 1) := by decide +kernel
theorem dZM_many_23 : decode cZM_many 23 = .ok (.invokestatic 64, 3) := by decide +kernel
theorem dZM_many_26 : decode cZM_many 26 = .ok (.iconst 1, 1) := by decide +kernel
theorem dZM_many_27 : decode cZM_many 27 = .ok (.if_icmp .le 9, 3) := by decide +kernel
theorem dZM_many_30 : decode cZM_many 30 = .ok (.iinc 1 1, 3) := by decide +kernel
theorem dZM_many_33 : decode cZM_many 33 = .ok (.goto (-31), 3) := by decide +kernel
theorem dZM_many_36 : decode cZM_many 36 = .ok (.iload_n 1, 1) := by decide +kernel
theorem dZM_many_37 : decode cZM_many 37 = .ok (.ireturn, 1) := by decide +kernel
abbrev wsZM_many : List Cond := .code yZM_many cZM_many 2 (some .int) :: tbg
def lp_ZM_many_2 (zt : Int32) (zw : Int32) (zh : Int32) (zp : Nat → Int32) (zs : Nat → Int32) (zb : Nat → Int32) (zz : Int32) (zl : Nat → Int32) (zo : Nat → Int32) (zc : Int32) (zr : Int32) (zu : Int32) (zv : Int32) (zq : Int32) (zi : Int32) (zk : Nat → Int32) (zm : Nat → Int32) (zd : Int32) (zg : Nat → Int32) (post : Int32 → Prop) (K2 : Int32 → Prop) (n : Nat) : Int32 → Prop := Nat.rec (motive := fun _ => Int32 → Prop) (fun (x1_2 : Int32) => False) (fun _ ih2 (x1_2 : Int32) => wp_ZM_half zw (x1_2 - (1 : Int32)) (fun r_1 : Int32 => ∃ J16 : Int32 → Prop, (∀ (x1_j16 : Int32), J16 x1_j16 → wp_ZM_half zh (x1_j16 - (1 : Int32)) (fun r_2 : Int32 => ((r_2 ≤ (1 : Int32) → (K2 x1_j16)) ∧ (¬ r_2 ≤ (1 : Int32) → (ih2 (x1_j16 + (1 : Int32))))))) ∧ ((((1 : Int32) < r_1 → (ih2 (x1_2 + (1 : Int32)))) ∧ (¬ (1 : Int32) < r_1 → (J16 x1_2)))))) n
def wp_ZM_many (zt : Int32) (zw : Int32) (zh : Int32) (zp : Nat → Int32) (zs : Nat → Int32) (zb : Nat → Int32) (zz : Int32) (zl : Nat → Int32) (zo : Nat → Int32) (zc : Int32) (zr : Int32) (zu : Int32) (zv : Int32) (zq : Int32) (zi : Int32) (zk : Nat → Int32) (zm : Nat → Int32) (zd : Int32) (zg : Nat → Int32) (post : Int32 → Prop) : Prop := ∃ n : Nat, lp_ZM_many_2 zt zw zh zp zs zb zz zl zo zc zr zu zv zq zi zk zm zd zg post (fun (x1_2e : Int32) => post x1_2e) n (1 : Int32)
abbrev rm_ZM_many : Room := { frames := 1, cells := 0, slots := 0, locals := 23 }
set_option maxHeartbeats 4000000 in
set_option maxRecDepth 100000 in
theorem kt_ZM_many (l : Launch) (dC : Nat → ClassId) (dI : Nat → Nat → Nat) (cI : ClassId) (om ozp ozs ozb ozl ozo ozk ozm ozg : Nat) (zt : Int32) (zw : Int32) (zh : Int32) (zp : Nat → Int32) (zs : Nat → Int32) (zb : Nat → Int32) (zz : Int32) (zl : Nat → Int32) (zo : Nat → Int32) (zc : Int32) (zr : Int32) (zu : Int32) (zv : Int32) (zq : Int32) (zi : Int32) (zk : Nat → Int32) (zm : Nat → Int32) (zd : Int32) (zg : Nat → Int32) (post : Int32 → Prop) (hw : wp_ZM_many zt zw zh zp zs zb zz zl zo zc zr zu zv zq zi zk zm zd zg post) : Met l yZM_many wsZM_many rm_ZM_many (gr_Pc dC dI [(cI, .int)] [.ref om] [(om, .inr (6, [.int zt, .int zw, .int zh, .ref ozp, .ref ozs, .ref ozb, .int zz, .ref ozl, .ref ozo, .int zc, .int zr, .int zu, .int zv, .int zq, .int zi, .ref ozk, .ref ozm, .int zd, .ref ozg])), (ozp, .inl (cI, 1600, .inl zp)), (ozs, .inl (cI, 320, .inl zs)), (ozb, .inl (cI, 256, .inl zb)), (ozl, .inl (cI, 64, .inl zl)), (ozo, .inl (cI, 64, .inl zo)), (ozk, .inl (cI, 320, .inl zk)), (ozm, .inl (cI, 40, .inl zm)), (ozg, .inl (cI, 64, .inl zg))]) (vp_Si post) 0 0 (fun _ => False) := by
  refine Met.ofW (cc := cZM_many) (maxL := 2) (ret := (some .int)) (by decide) rfl ?_
  intro p e s m args below meth c s₁ B hml hv
  obtain ⟨ha9, hP, hK, hE⟩ := hv
  have hx := B.exec
  have hb := B.bytes
  have hr := B.returns
  have hts0 := atoms_spec (ws := wsZM_many) B.pre
  have hts : ∀ w ∈ tbg, w.before args s = true := fun w h => hts0 w (List.mem_cons_of_mem _ h)
  have hown : s.vm.findClass RZM = some m.cls := findClass_of_methodNamed B.named
  have hlocks := B.notSynchronized
  refine gx_Q (fun Q9 hQ9 => ?_)
  have hl := lv_entry ([.ref om]) (n := 2) (Nat.le_of_ble_eq_true rfl)
  have he9 : entryFrame m args 2 = F0 m 0 ((lg_sl [.ref om] ++ List.replicate (2 - (lg_sl ([.ref om] : List Value)).length) Slot.unset).toArray) [] := by rw [ha9]; exact lg_entry_eq m [.ref om] 2
  rw [he9]
  generalize (lg_sl ([.ref om] : List Value) ++ List.replicate (2 - (lg_sl ([.ref om] : List Value)).length) Slot.unset).toArray = ls at hl ⊢
  have hl : lv_has ls 2 [(0, .ref om)] := hl
  refine lv_iconst (v := (1 : Int32)) hx hb dZM_many_0 (by decide) ?_
  refine lv_istore_n (lv' := [(1, .int (1 : Int32)), (0, .ref om)]) hx hb dZM_many_1 rfl hl (by decide) rfl (fun ls hl => ?_)
  have lp2 : ∀ K2 : Int32 → Prop, (∀ (x1_2 : Int32), K2 x1_2 → ∀ ls : Array Slot, lv_has ls 2 [(1, .int x1_2), (0, .ref om)] → W p l e (headSpec wsZM_many rm_ZM_many).room s m args below meth c s.heap [] 0 0 Q9 (F0 m 36 ls [])) → ∀ (n : Nat) (x1_2 : Int32), lp_ZM_many_2 zt zw zh zp zs zb zz zl zo zc zr zu zv zq zi zk zm zd zg post K2 n x1_2 → ∀ ls : Array Slot, lv_has ls 2 [(1, .int x1_2), (0, .ref om)] → W p l e (headSpec wsZM_many rm_ZM_many).room s m args below meth c s.heap [] 0 0 Q9 (F0 m 2 ls []) := by
    intro K2 aft2 n
    induction n with
    | zero => intro x1_2 hw; exact False.elim hw
    | succ n ih2 =>
      intro x1_2 hw ls hl
      have hw : wp_ZM_half zw (x1_2 - (1 : Int32)) (fun r_1 : Int32 => ∃ J16 : Int32 → Prop, (∀ (x1_j16 : Int32), J16 x1_j16 → wp_ZM_half zh (x1_j16 - (1 : Int32)) (fun r_2 : Int32 => ((r_2 ≤ (1 : Int32) → (K2 x1_j16)) ∧ (¬ r_2 ≤ (1 : Int32) → (lp_ZM_many_2 zt zw zh zp zs zb zz zl zo zc zr zu zv zq zi zk zm zd zg post K2 n (x1_j16 + (1 : Int32))))))) ∧ ((((1 : Int32) < r_1 → (lp_ZM_many_2 zt zw zh zp zs zb zz zl zo zc zr zu zv zq zi zk zm zd zg post K2 n (x1_2 + (1 : Int32)))) ∧ (¬ (1 : Int32) < r_1 → (J16 x1_2))))) := hw
      refine lv_aload_n hx hb dZM_many_2 rfl (lv_at hl 1 rfl) ?_
      refine va_get (D := (dC, dI)) (ci := 6) (v := .int zw) (C := RZM) (T := TZM) (N := 19) hx hb hts inZM hown hK hP 0 rfl rfl 1 (by decide) (hts _ mm_619) (fun _ h9 => h9) rfl dZM_many_3 ?_
      refine lv_iload_n hx hb dZM_many_6 rfl (lv_at hl 0 rfl) ?_
      refine lv_iconst (v := (1 : Int32)) hx hb dZM_many_7 (by decide) ?_
      refine lv_isub hx hb dZM_many_8 ?_
      have hPc := hP.sub (ws' := []) [] rfl
      refine vp_callSi (va_runS (As := [.int zw, .int (x1_2 - (1 : Int32))]) (rest := []) ⟨hx, hb, hml, hown, hts⟩ (kt_ZM_half l dC dI cI  zw (x1_2 - (1 : Int32)) _ hw) (va_cwS 2 hts (tb_S mm_708 mm_709 mm_8 mm_710) rfl rfl rfl (by decide +kernel) ⟨Nat.le_of_ble_eq_true rfl, Nat.le_of_ble_eq_true rfl⟩) ⟨gr_blind, fun U hU hW => gr_pre hPc hK hE hU hW⟩ rfl rfl hl.1 rfl (lv_room (Nat.le_of_ble_eq_true rfl)) dZM_many_9 ⟨Nat.le_of_ble_eq_true rfl, Nat.le_of_ble_eq_true rfl⟩).run (fun r_1 hw => ?_)
      refine lv_iconst (v := (1 : Int32)) hx hb dZM_many_12 (by decide) ?_
      obtain ⟨J16, hJ16, hw⟩ := hw
      have j16 : ∀ (x1_j16 : Int32), J16 x1_j16 → ∀ ls : Array Slot, lv_has ls 2 [(1, .int x1_j16), (0, .ref om)] → W p l e (headSpec wsZM_many rm_ZM_many).room s m args below meth c s.heap [] 0 0 Q9 (F0 m 16 ls []) := by
        intro x1_j16 hw ls hl
        have hw := hJ16 x1_j16 hw
        refine lv_aload_n hx hb dZM_many_16 rfl (lv_at hl 1 rfl) ?_
        refine va_get (D := (dC, dI)) (ci := 6) (v := .int zh) (C := RZM) (T := TZM) (N := 19) hx hb hts inZM hown hK hP 0 rfl rfl 2 (by decide) (hts _ mm_620) (fun _ h9 => h9) rfl dZM_many_17 ?_
        refine lv_iload_n hx hb dZM_many_20 rfl (lv_at hl 0 rfl) ?_
        refine lv_iconst (v := (1 : Int32)) hx hb dZM_many_21 (by decide) ?_
        refine lv_isub hx hb dZM_many_22 ?_
        have hPc := hP.sub (ws' := []) [] rfl
        refine vp_callSi (va_runS (As := [.int zh, .int (x1_j16 - (1 : Int32))]) (rest := []) ⟨hx, hb, hml, hown, hts⟩ (kt_ZM_half l dC dI cI  zh (x1_j16 - (1 : Int32)) _ hw) (va_cwS 2 hts (tb_S mm_708 mm_709 mm_8 mm_710) rfl rfl rfl (by decide +kernel) ⟨Nat.le_of_ble_eq_true rfl, Nat.le_of_ble_eq_true rfl⟩) ⟨gr_blind, fun U hU hW => gr_pre hPc hK hE hU hW⟩ rfl rfl hl.1 rfl (lv_room (Nat.le_of_ble_eq_true rfl)) dZM_many_23 ⟨Nat.le_of_ble_eq_true rfl, Nat.le_of_ble_eq_true rfl⟩).run (fun r_2 hw => ?_)
        refine lv_iconst (v := (1 : Int32)) hx hb dZM_many_26 (by decide) ?_
        refine lv_icmp_le (tgt := 36) hx hb dZM_many_27 (by decide) (fun c_3 => ?_) (fun c_3 => ?_)
        · have hw := hw.1 c_3
          exact aft2 x1_j16 hw ls (lv_sub hl [0, 1] rfl)
        · have hw := hw.2 c_3
          refine lv_iinc (v := x1_j16 + (1 : Int32)) (lv' := [(1, .int (x1_j16 + (1 : Int32))), (0, .ref om)]) hx hb dZM_many_30 hl (k := 0) rfl rfl (by decide) rfl (fun ls hl => ?_)
          refine lv_goto (tgt := 2) hx hb dZM_many_33 (by decide) ?_
          exact ih2 (x1_j16 + (1 : Int32)) hw ls (lv_sub hl [0, 1] rfl)
      refine lv_icmp_gt (tgt := 30) hx hb dZM_many_13 (by decide) (fun c_4 => ?_) (fun c_4 => ?_)
      · have hw := hw.1 c_4
        refine lv_iinc (v := x1_2 + (1 : Int32)) (lv' := [(1, .int (x1_2 + (1 : Int32))), (0, .ref om)]) hx hb dZM_many_30 hl (k := 0) rfl rfl (by decide) rfl (fun ls hl => ?_)
        refine lv_goto (tgt := 2) hx hb dZM_many_33 (by decide) ?_
        exact ih2 (x1_2 + (1 : Int32)) hw ls (lv_sub hl [0, 1] rfl)
      · have hw := hw.2 c_4
        exact j16 x1_2 hw ls (lv_sub hl [0, 1] rfl)
  obtain ⟨n2, hw⟩ := hw
  refine lp2 _ (fun x1_2e hw ls hl => ?_) n2 (1 : Int32) hw ls (lv_sub hl [0, 1] rfl)
  refine lv_iload_n hx hb dZM_many_36 rfl (lv_at hl 0 rfl) ?_
  subst hQ9
  exact W.iret (v := x1_2e) hx hb hr (fun t ht hW => ⟨x1_2e, rfl, hw, ht⟩) (fun q h => nomatch h) dZM_many_37
theorem dZM_isLevel_0 : decode cZM_isLevel 0 = .ok (.iload_n 1, 1) := by decide +kernel
theorem dZM_isLevel_1 : decode cZM_isLevel 1 = .ok (.iconst 0, 1) := by decide +kernel
theorem dZM_isLevel_2 : decode cZM_isLevel 2 = .ok (.aload_n 0, 1) := by decide +kernel
theorem dZM_isLevel_3 : decode cZM_isLevel 3 = .ok (.invokevirtual 68, 3) := by decide +kernel
theorem dZM_isLevel_6 : decode cZM_isLevel 6 = .ok (.iconst 1, 1) := by decide +kernel
theorem dZM_isLevel_7 : decode cZM_isLevel 7 = .ok (.isub, 1) := by decide +kernel
theorem dZM_isLevel_8 : decode cZM_isLevel 8 = .ok (.invokestatic 48, 3) := by decide +kernel
theorem dZM_isLevel_11 : decode cZM_isLevel 11 = .ok (.ireturn, 1) := by decide +kernel
abbrev wsZM_isLevel : List Cond := .code yZM_isLevel cZM_isLevel 2 (some .boolean) :: tbg
def wp_ZM_isLevel (zt : Int32) (zw : Int32) (zh : Int32) (zp : Nat → Int32) (zs : Nat → Int32) (zb : Nat → Int32) (zz : Int32) (zl : Nat → Int32) (zo : Nat → Int32) (zc : Int32) (zr : Int32) (zu : Int32) (zv : Int32) (zq : Int32) (zi : Int32) (zk : Nat → Int32) (zm : Nat → Int32) (zd : Int32) (zg : Nat → Int32) (a1 : Int32) (post : Int32 → Prop) : Prop := wp_ZM_many zt zw zh zp zs zb zz zl zo zc zr zu zv zq zi zk zm zd zg (fun r_1 : Int32 => wp_ZM_in a1 (0 : Int32) (r_1 - (1 : Int32)) (fun r_2 : Int32 => narrow .boolean (.int r_2) = .int r_2 ∧ (post r_2)))
abbrev rm_ZM_isLevel : Room := { frames := 2, cells := 0, slots := 0, locals := 44 }
set_option maxHeartbeats 4000000 in
set_option maxRecDepth 100000 in
theorem kt_ZM_isLevel (l : Launch) (dC : Nat → ClassId) (dI : Nat → Nat → Nat) (cI : ClassId) (om ozp ozs ozb ozl ozo ozk ozm ozg : Nat) (zt : Int32) (zw : Int32) (zh : Int32) (zp : Nat → Int32) (zs : Nat → Int32) (zb : Nat → Int32) (zz : Int32) (zl : Nat → Int32) (zo : Nat → Int32) (zc : Int32) (zr : Int32) (zu : Int32) (zv : Int32) (zq : Int32) (zi : Int32) (zk : Nat → Int32) (zm : Nat → Int32) (zd : Int32) (zg : Nat → Int32) (a1 : Int32) (post : Int32 → Prop) (hw : wp_ZM_isLevel zt zw zh zp zs zb zz zl zo zc zr zu zv zq zi zk zm zd zg a1 post) : Met l yZM_isLevel wsZM_isLevel rm_ZM_isLevel (gr_Pc dC dI [(cI, .int)] [.ref om, .int a1] [(om, .inr (6, [.int zt, .int zw, .int zh, .ref ozp, .ref ozs, .ref ozb, .int zz, .ref ozl, .ref ozo, .int zc, .int zr, .int zu, .int zv, .int zq, .int zi, .ref ozk, .ref ozm, .int zd, .ref ozg])), (ozp, .inl (cI, 1600, .inl zp)), (ozs, .inl (cI, 320, .inl zs)), (ozb, .inl (cI, 256, .inl zb)), (ozl, .inl (cI, 64, .inl zl)), (ozo, .inl (cI, 64, .inl zo)), (ozk, .inl (cI, 320, .inl zk)), (ozm, .inl (cI, 40, .inl zm)), (ozg, .inl (cI, 64, .inl zg))]) (vp_Si post) 0 0 (fun _ => False) := by
  refine Met.ofW (cc := cZM_isLevel) (maxL := 2) (ret := (some .boolean)) (by decide) rfl ?_
  intro p e s m args below meth c s₁ B hml hv
  obtain ⟨ha9, hP, hK, hE⟩ := hv
  have hx := B.exec
  have hb := B.bytes
  have hr := B.returns
  have hts0 := atoms_spec (ws := wsZM_isLevel) B.pre
  have hts : ∀ w ∈ tbg, w.before args s = true := fun w h => hts0 w (List.mem_cons_of_mem _ h)
  have hown : s.vm.findClass RZM = some m.cls := findClass_of_methodNamed B.named
  have hlocks := B.notSynchronized
  refine gx_Q (fun Q9 hQ9 => ?_)
  have hl := lv_entry ([.ref om, .int a1]) (n := 2) (Nat.le_of_ble_eq_true rfl)
  have he9 : entryFrame m args 2 = F0 m 0 ((lg_sl [.ref om, .int a1] ++ List.replicate (2 - (lg_sl ([.ref om, .int a1] : List Value)).length) Slot.unset).toArray) [] := by rw [ha9]; exact lg_entry_eq m [.ref om, .int a1] 2
  rw [he9]
  generalize (lg_sl ([.ref om, .int a1] : List Value) ++ List.replicate (2 - (lg_sl ([.ref om, .int a1] : List Value)).length) Slot.unset).toArray = ls at hl ⊢
  have hl : lv_has ls 2 [(0, .ref om), (1, .int a1)] := hl
  refine lv_iload_n hx hb dZM_isLevel_0 rfl (lv_at hl 1 rfl) ?_
  refine lv_iconst (v := (0 : Int32)) hx hb dZM_isLevel_1 (by decide) ?_
  refine lv_aload_n hx hb dZM_isLevel_2 rfl (lv_at hl 0 rfl) ?_
  refine vp_callSi (va_runV (As := []) (rest := [.int (0 : Int32), .int a1]) ⟨hx, hb, hml, hown, hts⟩ (kt_ZM_many l dC dI cI om ozp ozs ozb ozl ozo ozk ozm ozg zt zw zh zp zs zb zz zl zo zc zr zu zv zq zi zk zm zd zg _ hw) (cwV 0 hts (tb_V mm_704 mm_706 mp_6 mm_8 mm_707) rfl rfl rfl (by decide +kernel) ⟨Nat.le_of_ble_eq_true rfl, Nat.le_of_ble_eq_true rfl⟩) ⟨gr_blind, va_recv hK hP (ci := 6) (q0 := 0) rfl rfl, fun U hU hW => gr_pre hP hK hE hU hW⟩ rfl rfl hl.1 rfl (lv_room (Nat.le_of_ble_eq_true rfl)) dZM_isLevel_3 ⟨Nat.le_of_ble_eq_true rfl, Nat.le_of_ble_eq_true rfl⟩).run (fun r_1 hw => ?_)
  refine lv_iconst (v := (1 : Int32)) hx hb dZM_isLevel_6 (by decide) ?_
  refine lv_isub hx hb dZM_isLevel_7 ?_
  have hPc := hP.sub (ws' := []) [] rfl
  refine vp_callSi (va_runS (As := [.int a1, .int (0 : Int32), .int (r_1 - (1 : Int32))]) (rest := []) ⟨hx, hb, hml, hown, hts⟩ (kt_ZM_in l dC dI cI  a1 (0 : Int32) (r_1 - (1 : Int32)) _ hw) (va_cwS 3 hts (tb_S mm_687 mm_688 mm_8 mm_689) rfl rfl rfl (by decide +kernel) ⟨Nat.le_of_ble_eq_true rfl, Nat.le_of_ble_eq_true rfl⟩) ⟨gr_blind, fun U hU hW => gr_pre hPc hK hE hU hW⟩ rfl rfl hl.1 rfl (lv_room (Nat.le_of_ble_eq_true rfl)) dZM_isLevel_8 ⟨Nat.le_of_ble_eq_true rfl, Nat.le_of_ble_eq_true rfl⟩).run (fun r_2 hw => ?_)
  obtain ⟨h_3, hw⟩ := hw
  subst hQ9
  exact W.zret (v := r_2) (ty := .boolean) hx hb hr h_3 (fun t ht hW => ⟨r_2, rfl, hw, ht⟩) (fun q h => nomatch h) dZM_isLevel_11
theorem dZM_across_0 : decode cZM_across 0 = .ok (.aload_n 0, 1) := by decide +kernel
theorem dZM_across_1 : decode cZM_across 1 = .ok (.getfield 38, 3) := by decide +kernel
theorem dZM_across_4 : decode cZM_across 4 = .ok (.iload_n 1, 1) := by decide +kernel
theorem dZM_across_5 : decode cZM_across 5 = .ok (.invokestatic 64, 3) := by decide +kernel
theorem dZM_across_8 : decode cZM_across 8 = .ok (.ireturn, 1) := by decide +kernel
abbrev wsZM_across : List Cond := .code yZM_across cZM_across 2 (some .int) :: tbg
def wp_ZM_across (zt : Int32) (zw : Int32) (zh : Int32) (zp : Nat → Int32) (zs : Nat → Int32) (zb : Nat → Int32) (zz : Int32) (zl : Nat → Int32) (zo : Nat → Int32) (zc : Int32) (zr : Int32) (zu : Int32) (zv : Int32) (zq : Int32) (zi : Int32) (zk : Nat → Int32) (zm : Nat → Int32) (zd : Int32) (zg : Nat → Int32) (a1 : Int32) (post : Int32 → Prop) : Prop := wp_ZM_half zw a1 (fun r_1 : Int32 => post r_1)
abbrev rm_ZM_across : Room := { frames := 1, cells := 0, slots := 0, locals := 23 }
set_option maxHeartbeats 4000000 in
set_option maxRecDepth 100000 in
theorem kt_ZM_across (l : Launch) (dC : Nat → ClassId) (dI : Nat → Nat → Nat) (cI : ClassId) (om ozp ozs ozb ozl ozo ozk ozm ozg : Nat) (zt : Int32) (zw : Int32) (zh : Int32) (zp : Nat → Int32) (zs : Nat → Int32) (zb : Nat → Int32) (zz : Int32) (zl : Nat → Int32) (zo : Nat → Int32) (zc : Int32) (zr : Int32) (zu : Int32) (zv : Int32) (zq : Int32) (zi : Int32) (zk : Nat → Int32) (zm : Nat → Int32) (zd : Int32) (zg : Nat → Int32) (a1 : Int32) (post : Int32 → Prop) (hw : wp_ZM_across zt zw zh zp zs zb zz zl zo zc zr zu zv zq zi zk zm zd zg a1 post) : Met l yZM_across wsZM_across rm_ZM_across (gr_Pc dC dI [(cI, .int)] [.ref om, .int a1] [(om, .inr (6, [.int zt, .int zw, .int zh, .ref ozp, .ref ozs, .ref ozb, .int zz, .ref ozl, .ref ozo, .int zc, .int zr, .int zu, .int zv, .int zq, .int zi, .ref ozk, .ref ozm, .int zd, .ref ozg])), (ozp, .inl (cI, 1600, .inl zp)), (ozs, .inl (cI, 320, .inl zs)), (ozb, .inl (cI, 256, .inl zb)), (ozl, .inl (cI, 64, .inl zl)), (ozo, .inl (cI, 64, .inl zo)), (ozk, .inl (cI, 320, .inl zk)), (ozm, .inl (cI, 40, .inl zm)), (ozg, .inl (cI, 64, .inl zg))]) (vp_Si post) 0 0 (fun _ => False) := by
  refine Met.ofW (cc := cZM_across) (maxL := 2) (ret := (some .int)) (by decide) rfl ?_
  intro p e s m args below meth c s₁ B hml hv
  obtain ⟨ha9, hP, hK, hE⟩ := hv
  have hx := B.exec
  have hb := B.bytes
  have hr := B.returns
  have hts0 := atoms_spec (ws := wsZM_across) B.pre
  have hts : ∀ w ∈ tbg, w.before args s = true := fun w h => hts0 w (List.mem_cons_of_mem _ h)
  have hown : s.vm.findClass RZM = some m.cls := findClass_of_methodNamed B.named
  have hlocks := B.notSynchronized
  refine gx_Q (fun Q9 hQ9 => ?_)
  have hl := lv_entry ([.ref om, .int a1]) (n := 2) (Nat.le_of_ble_eq_true rfl)
  have he9 : entryFrame m args 2 = F0 m 0 ((lg_sl [.ref om, .int a1] ++ List.replicate (2 - (lg_sl ([.ref om, .int a1] : List Value)).length) Slot.unset).toArray) [] := by rw [ha9]; exact lg_entry_eq m [.ref om, .int a1] 2
  rw [he9]
  generalize (lg_sl ([.ref om, .int a1] : List Value) ++ List.replicate (2 - (lg_sl ([.ref om, .int a1] : List Value)).length) Slot.unset).toArray = ls at hl ⊢
  have hl : lv_has ls 2 [(0, .ref om), (1, .int a1)] := hl
  refine lv_aload_n hx hb dZM_across_0 rfl (lv_at hl 0 rfl) ?_
  refine va_get (D := (dC, dI)) (ci := 6) (v := .int zw) (C := RZM) (T := TZM) (N := 19) hx hb hts inZM hown hK hP 0 rfl rfl 1 (by decide) (hts _ mm_619) (fun _ h9 => h9) rfl dZM_across_1 ?_
  refine lv_iload_n hx hb dZM_across_4 rfl (lv_at hl 1 rfl) ?_
  have hPc := hP.sub (ws' := []) [] rfl
  refine vp_callSi (va_runS (As := [.int zw, .int a1]) (rest := []) ⟨hx, hb, hml, hown, hts⟩ (kt_ZM_half l dC dI cI  zw a1 _ hw) (va_cwS 2 hts (tb_S mm_708 mm_709 mm_8 mm_710) rfl rfl rfl (by decide +kernel) ⟨Nat.le_of_ble_eq_true rfl, Nat.le_of_ble_eq_true rfl⟩) ⟨gr_blind, fun U hU hW => gr_pre hPc hK hE hU hW⟩ rfl rfl hl.1 rfl (lv_room (Nat.le_of_ble_eq_true rfl)) dZM_across_5 ⟨Nat.le_of_ble_eq_true rfl, Nat.le_of_ble_eq_true rfl⟩).run (fun r_1 hw => ?_)
  subst hQ9
  exact W.iret (v := r_1) hx hb hr (fun t ht hW => ⟨r_1, rfl, hw, ht⟩) (fun q h => nomatch h) dZM_across_8
theorem dZM_down_0 : decode cZM_down 0 = .ok (.aload_n 0, 1) := by decide +kernel
theorem dZM_down_1 : decode cZM_down 1 = .ok (.getfield 42, 3) := by decide +kernel
theorem dZM_down_4 : decode cZM_down 4 = .ok (.iload_n 1, 1) := by decide +kernel
theorem dZM_down_5 : decode cZM_down 5 = .ok (.invokestatic 64, 3) := by decide +kernel
theorem dZM_down_8 : decode cZM_down 8 = .ok (.ireturn, 1) := by decide +kernel
abbrev wsZM_down : List Cond := .code yZM_down cZM_down 2 (some .int) :: tbg
def wp_ZM_down (zt : Int32) (zw : Int32) (zh : Int32) (zp : Nat → Int32) (zs : Nat → Int32) (zb : Nat → Int32) (zz : Int32) (zl : Nat → Int32) (zo : Nat → Int32) (zc : Int32) (zr : Int32) (zu : Int32) (zv : Int32) (zq : Int32) (zi : Int32) (zk : Nat → Int32) (zm : Nat → Int32) (zd : Int32) (zg : Nat → Int32) (a1 : Int32) (post : Int32 → Prop) : Prop := wp_ZM_half zh a1 (fun r_1 : Int32 => post r_1)
abbrev rm_ZM_down : Room := { frames := 1, cells := 0, slots := 0, locals := 23 }
set_option maxHeartbeats 4000000 in
set_option maxRecDepth 100000 in
theorem kt_ZM_down (l : Launch) (dC : Nat → ClassId) (dI : Nat → Nat → Nat) (cI : ClassId) (om ozp ozs ozb ozl ozo ozk ozm ozg : Nat) (zt : Int32) (zw : Int32) (zh : Int32) (zp : Nat → Int32) (zs : Nat → Int32) (zb : Nat → Int32) (zz : Int32) (zl : Nat → Int32) (zo : Nat → Int32) (zc : Int32) (zr : Int32) (zu : Int32) (zv : Int32) (zq : Int32) (zi : Int32) (zk : Nat → Int32) (zm : Nat → Int32) (zd : Int32) (zg : Nat → Int32) (a1 : Int32) (post : Int32 → Prop) (hw : wp_ZM_down zt zw zh zp zs zb zz zl zo zc zr zu zv zq zi zk zm zd zg a1 post) : Met l yZM_down wsZM_down rm_ZM_down (gr_Pc dC dI [(cI, .int)] [.ref om, .int a1] [(om, .inr (6, [.int zt, .int zw, .int zh, .ref ozp, .ref ozs, .ref ozb, .int zz, .ref ozl, .ref ozo, .int zc, .int zr, .int zu, .int zv, .int zq, .int zi, .ref ozk, .ref ozm, .int zd, .ref ozg])), (ozp, .inl (cI, 1600, .inl zp)), (ozs, .inl (cI, 320, .inl zs)), (ozb, .inl (cI, 256, .inl zb)), (ozl, .inl (cI, 64, .inl zl)), (ozo, .inl (cI, 64, .inl zo)), (ozk, .inl (cI, 320, .inl zk)), (ozm, .inl (cI, 40, .inl zm)), (ozg, .inl (cI, 64, .inl zg))]) (vp_Si post) 0 0 (fun _ => False) := by
  refine Met.ofW (cc := cZM_down) (maxL := 2) (ret := (some .int)) (by decide) rfl ?_
  intro p e s m args below meth c s₁ B hml hv
  obtain ⟨ha9, hP, hK, hE⟩ := hv
  have hx := B.exec
  have hb := B.bytes
  have hr := B.returns
  have hts0 := atoms_spec (ws := wsZM_down) B.pre
  have hts : ∀ w ∈ tbg, w.before args s = true := fun w h => hts0 w (List.mem_cons_of_mem _ h)
  have hown : s.vm.findClass RZM = some m.cls := findClass_of_methodNamed B.named
  have hlocks := B.notSynchronized
  refine gx_Q (fun Q9 hQ9 => ?_)
  have hl := lv_entry ([.ref om, .int a1]) (n := 2) (Nat.le_of_ble_eq_true rfl)
  have he9 : entryFrame m args 2 = F0 m 0 ((lg_sl [.ref om, .int a1] ++ List.replicate (2 - (lg_sl ([.ref om, .int a1] : List Value)).length) Slot.unset).toArray) [] := by rw [ha9]; exact lg_entry_eq m [.ref om, .int a1] 2
  rw [he9]
  generalize (lg_sl ([.ref om, .int a1] : List Value) ++ List.replicate (2 - (lg_sl ([.ref om, .int a1] : List Value)).length) Slot.unset).toArray = ls at hl ⊢
  have hl : lv_has ls 2 [(0, .ref om), (1, .int a1)] := hl
  refine lv_aload_n hx hb dZM_down_0 rfl (lv_at hl 0 rfl) ?_
  refine va_get (D := (dC, dI)) (ci := 6) (v := .int zh) (C := RZM) (T := TZM) (N := 19) hx hb hts inZM hown hK hP 0 rfl rfl 2 (by decide) (hts _ mm_620) (fun _ h9 => h9) rfl dZM_down_1 ?_
  refine lv_iload_n hx hb dZM_down_4 rfl (lv_at hl 1 rfl) ?_
  have hPc := hP.sub (ws' := []) [] rfl
  refine vp_callSi (va_runS (As := [.int zh, .int a1]) (rest := []) ⟨hx, hb, hml, hown, hts⟩ (kt_ZM_half l dC dI cI  zh a1 _ hw) (va_cwS 2 hts (tb_S mm_708 mm_709 mm_8 mm_710) rfl rfl rfl (by decide +kernel) ⟨Nat.le_of_ble_eq_true rfl, Nat.le_of_ble_eq_true rfl⟩) ⟨gr_blind, fun U hU hW => gr_pre hPc hK hE hU hW⟩ rfl rfl hl.1 rfl (lv_room (Nat.le_of_ble_eq_true rfl)) dZM_down_5 ⟨Nat.le_of_ble_eq_true rfl, Nat.le_of_ble_eq_true rfl⟩).run (fun r_1 hw => ?_)
  subst hQ9
  exact W.iret (v := r_1) hx hb hr (fun t ht hW => ⟨r_1, rfl, hw, ht⟩) (fun q h => nomatch h) dZM_down_8
theorem dZM_isAt_0 : decode cZM_isAt 0 = .ok (.aload_n 0, 1) := by decide +kernel
theorem dZM_isAt_1 : decode cZM_isAt 1 = .ok (.iload_n 1, 1) := by decide +kernel
theorem dZM_isAt_2 : decode cZM_isAt 2 = .ok (.invokevirtual 76, 3) := by decide +kernel
theorem dZM_isAt_5 : decode cZM_isAt 5 = .ok (.ifCond .eq 37, 3) := by decide +kernel
theorem dZM_isAt_8 : decode cZM_isAt 8 = .ok (.iload_n 2, 1) := by decide +kernel
theorem dZM_isAt_9 : decode cZM_isAt 9 = .ok (.iconst 0, 1) := by decide +kernel
theorem dZM_isAt_10 : decode cZM_isAt 10 = .ok (.aload_n 0, 1) := by decide +kernel
theorem dZM_isAt_11 : decode cZM_isAt 11 = .ok (.iload_n 1, 1) := by decide +kernel
theorem dZM_isAt_12 : decode cZM_isAt 12 = .ok (.invokevirtual 79, 3) := by decide +kernel
theorem dZM_isAt_15 : decode cZM_isAt 15 = .ok (.iconst 1, 1) := by decide +kernel
theorem dZM_isAt_16 : decode cZM_isAt 16 = .ok (.isub, 1) := by decide +kernel
theorem dZM_isAt_17 : decode cZM_isAt 17 = .ok (.invokestatic 48, 3) := by decide +kernel
theorem dZM_isAt_20 : decode cZM_isAt 20 = .ok (.ifCond .eq 22, 3) := by decide +kernel
theorem dZM_isAt_23 : decode cZM_isAt 23 = .ok (.iload_n 3, 1) := by decide +kernel
theorem dZM_isAt_24 : decode cZM_isAt 24 = .ok (.iconst 0, 1) := by decide +kernel
theorem dZM_isAt_25 : decode cZM_isAt 25 = .ok (.aload_n 0, 1) := by decide +kernel
theorem dZM_isAt_26 : decode cZM_isAt 26 = .ok (.iload_n 1, 1) := by decide +kernel
theorem dZM_isAt_27 : decode cZM_isAt 27 = .ok (.invokevirtual 82, 3) := by decide +kernel
theorem dZM_isAt_30 : decode cZM_isAt 30 = .ok (.iconst 1, 1) := by decide +kernel
theorem dZM_isAt_31 : decode cZM_isAt 31 = .ok (.isub, 1) := by decide +kernel
theorem dZM_isAt_32 : decode cZM_isAt 32 = .ok (.invokestatic 48, 3) := by decide +kernel
theorem dZM_isAt_35 : decode cZM_isAt 35 = .ok (.ifCond .eq 7, 3) := by decide +kernel
theorem dZM_isAt_38 : decode cZM_isAt 38 = .ok (.iconst 1, 1) := by decide +kernel
theorem dZM_isAt_39 : decode cZM_isAt 39 = .ok (.goto 4, 3) := by decide +kernel
theorem dZM_isAt_42 : decode cZM_isAt 42 = .ok (.iconst 0, 1) := by decide +kernel
theorem dZM_isAt_43 : decode cZM_isAt 43 = .ok (.ireturn, 1) := by decide +kernel
abbrev wsZM_isAt : List Cond := .code yZM_isAt cZM_isAt 4 (some .boolean) :: tbg
def wp_ZM_isAt (zt : Int32) (zw : Int32) (zh : Int32) (zp : Nat → Int32) (zs : Nat → Int32) (zb : Nat → Int32) (zz : Int32) (zl : Nat → Int32) (zo : Nat → Int32) (zc : Int32) (zr : Int32) (zu : Int32) (zv : Int32) (zq : Int32) (zi : Int32) (zk : Nat → Int32) (zm : Nat → Int32) (zd : Int32) (zg : Nat → Int32) (a1 : Int32) (a2 : Int32) (a3 : Int32) (post : Int32 → Prop) : Prop := wp_ZM_isLevel zt zw zh zp zs zb zz zl zo zc zr zu zv zq zi zk zm zd zg a1 (fun r_1 : Int32 => ((r_1 = (0 : Int32) → (post (0 : Int32))) ∧ (¬ r_1 = (0 : Int32) → (wp_ZM_across zt zw zh zp zs zb zz zl zo zc zr zu zv zq zi zk zm zd zg a1 (fun r_3 : Int32 => wp_ZM_in a2 (0 : Int32) (r_3 - (1 : Int32)) (fun r_4 : Int32 => ((r_4 = (0 : Int32) → (post (0 : Int32))) ∧ (¬ r_4 = (0 : Int32) → (wp_ZM_down zt zw zh zp zs zb zz zl zo zc zr zu zv zq zi zk zm zd zg a1 (fun r_6 : Int32 => wp_ZM_in a3 (0 : Int32) (r_6 - (1 : Int32)) (fun r_7 : Int32 => ((r_7 = (0 : Int32) → (post (0 : Int32))) ∧ (¬ r_7 = (0 : Int32) → (post (1 : Int32)))))))))))))))
abbrev rm_ZM_isAt : Room := { frames := 3, cells := 0, slots := 0, locals := 65 }
set_option maxHeartbeats 4000000 in
set_option maxRecDepth 100000 in
theorem kt_ZM_isAt (l : Launch) (dC : Nat → ClassId) (dI : Nat → Nat → Nat) (cI : ClassId) (om ozp ozs ozb ozl ozo ozk ozm ozg : Nat) (zt : Int32) (zw : Int32) (zh : Int32) (zp : Nat → Int32) (zs : Nat → Int32) (zb : Nat → Int32) (zz : Int32) (zl : Nat → Int32) (zo : Nat → Int32) (zc : Int32) (zr : Int32) (zu : Int32) (zv : Int32) (zq : Int32) (zi : Int32) (zk : Nat → Int32) (zm : Nat → Int32) (zd : Int32) (zg : Nat → Int32) (a1 : Int32) (a2 : Int32) (a3 : Int32) (post : Int32 → Prop) (hw : wp_ZM_isAt zt zw zh zp zs zb zz zl zo zc zr zu zv zq zi zk zm zd zg a1 a2 a3 post) : Met l yZM_isAt wsZM_isAt rm_ZM_isAt (gr_Pc dC dI [(cI, .int)] [.ref om, .int a1, .int a2, .int a3] [(om, .inr (6, [.int zt, .int zw, .int zh, .ref ozp, .ref ozs, .ref ozb, .int zz, .ref ozl, .ref ozo, .int zc, .int zr, .int zu, .int zv, .int zq, .int zi, .ref ozk, .ref ozm, .int zd, .ref ozg])), (ozp, .inl (cI, 1600, .inl zp)), (ozs, .inl (cI, 320, .inl zs)), (ozb, .inl (cI, 256, .inl zb)), (ozl, .inl (cI, 64, .inl zl)), (ozo, .inl (cI, 64, .inl zo)), (ozk, .inl (cI, 320, .inl zk)), (ozm, .inl (cI, 40, .inl zm)), (ozg, .inl (cI, 64, .inl zg))]) (vp_Si post) 0 0 (fun _ => False) := by
  refine Met.ofW (cc := cZM_isAt) (maxL := 4) (ret := (some .boolean)) (by decide) rfl ?_
  intro p e s m args below meth c s₁ B hml hv
  obtain ⟨ha9, hP, hK, hE⟩ := hv
  have hx := B.exec
  have hb := B.bytes
  have hr := B.returns
  have hts0 := atoms_spec (ws := wsZM_isAt) B.pre
  have hts : ∀ w ∈ tbg, w.before args s = true := fun w h => hts0 w (List.mem_cons_of_mem _ h)
  have hown : s.vm.findClass RZM = some m.cls := findClass_of_methodNamed B.named
  have hlocks := B.notSynchronized
  refine gx_Q (fun Q9 hQ9 => ?_)
  have hl := lv_entry ([.ref om, .int a1, .int a2, .int a3]) (n := 4) (Nat.le_of_ble_eq_true rfl)
  have he9 : entryFrame m args 4 = F0 m 0 ((lg_sl [.ref om, .int a1, .int a2, .int a3] ++ List.replicate (4 - (lg_sl ([.ref om, .int a1, .int a2, .int a3] : List Value)).length) Slot.unset).toArray) [] := by rw [ha9]; exact lg_entry_eq m [.ref om, .int a1, .int a2, .int a3] 4
  rw [he9]
  generalize (lg_sl ([.ref om, .int a1, .int a2, .int a3] : List Value) ++ List.replicate (4 - (lg_sl ([.ref om, .int a1, .int a2, .int a3] : List Value)).length) Slot.unset).toArray = ls at hl ⊢
  have hl : lv_has ls 4 [(0, .ref om), (1, .int a1), (2, .int a2), (3, .int a3)] := hl
  refine lv_aload_n hx hb dZM_isAt_0 rfl (lv_at hl 0 rfl) ?_
  refine lv_iload_n hx hb dZM_isAt_1 rfl (lv_at hl 1 rfl) ?_
  refine vp_callSi (va_runV (As := [.int a1]) (rest := []) ⟨hx, hb, hml, hown, hts⟩ (kt_ZM_isLevel l dC dI cI om ozp ozs ozb ozl ozo ozk ozm ozg zt zw zh zp zs zb zz zl zo zc zr zu zv zq zi zk zm zd zg a1 _ hw) (cwV 1 hts (tb_V mm_719 mm_721 mp_7 mm_8 mm_722) rfl rfl rfl (by decide +kernel) ⟨Nat.le_of_ble_eq_true rfl, Nat.le_of_ble_eq_true rfl⟩) ⟨gr_blind, va_recv hK hP (ci := 6) (q0 := 0) rfl rfl, fun U hU hW => gr_pre hP hK hE hU hW⟩ rfl rfl hl.1 rfl (lv_room (Nat.le_of_ble_eq_true rfl)) dZM_isAt_2 ⟨Nat.le_of_ble_eq_true rfl, Nat.le_of_ble_eq_true rfl⟩).run (fun r_1 hw => ?_)
  refine lv_if_eq (tgt := 42) hx hb dZM_isAt_5 (by decide) (fun c_2 => ?_) (fun c_2 => ?_)
  · have hw := hw.1 c_2
    refine lv_iconst (v := (0 : Int32)) hx hb dZM_isAt_42 (by decide) ?_
    subst hQ9
    exact W.zret (v := (0 : Int32)) (ty := .boolean) hx hb hr rfl (fun t ht hW => ⟨(0 : Int32), rfl, hw, ht⟩) (fun q h => nomatch h) dZM_isAt_43
  · have hw := hw.2 c_2
    refine lv_iload_n hx hb dZM_isAt_8 rfl (lv_at hl 2 rfl) ?_
    refine lv_iconst (v := (0 : Int32)) hx hb dZM_isAt_9 (by decide) ?_
    refine lv_aload_n hx hb dZM_isAt_10 rfl (lv_at hl 0 rfl) ?_
    refine lv_iload_n hx hb dZM_isAt_11 rfl (lv_at hl 1 rfl) ?_
    refine vp_callSi (va_runV (As := [.int a1]) (rest := [.int (0 : Int32), .int a2]) ⟨hx, hb, hml, hown, hts⟩ (kt_ZM_across l dC dI cI om ozp ozs ozb ozl ozo ozk ozm ozg zt zw zh zp zs zb zz zl zo zc zr zu zv zq zi zk zm zd zg a1 _ hw) (cwV 1 hts (tb_V mm_723 mm_725 mp_8 mm_8 mm_726) rfl rfl rfl (by decide +kernel) ⟨Nat.le_of_ble_eq_true rfl, Nat.le_of_ble_eq_true rfl⟩) ⟨gr_blind, va_recv hK hP (ci := 6) (q0 := 0) rfl rfl, fun U hU hW => gr_pre hP hK hE hU hW⟩ rfl rfl hl.1 rfl (lv_room (Nat.le_of_ble_eq_true rfl)) dZM_isAt_12 ⟨Nat.le_of_ble_eq_true rfl, Nat.le_of_ble_eq_true rfl⟩).run (fun r_3 hw => ?_)
    refine lv_iconst (v := (1 : Int32)) hx hb dZM_isAt_15 (by decide) ?_
    refine lv_isub hx hb dZM_isAt_16 ?_
    have hPc := hP.sub (ws' := []) [] rfl
    refine vp_callSi (va_runS (As := [.int a2, .int (0 : Int32), .int (r_3 - (1 : Int32))]) (rest := []) ⟨hx, hb, hml, hown, hts⟩ (kt_ZM_in l dC dI cI  a2 (0 : Int32) (r_3 - (1 : Int32)) _ hw) (va_cwS 3 hts (tb_S mm_687 mm_688 mm_8 mm_689) rfl rfl rfl (by decide +kernel) ⟨Nat.le_of_ble_eq_true rfl, Nat.le_of_ble_eq_true rfl⟩) ⟨gr_blind, fun U hU hW => gr_pre hPc hK hE hU hW⟩ rfl rfl hl.1 rfl (lv_room (Nat.le_of_ble_eq_true rfl)) dZM_isAt_17 ⟨Nat.le_of_ble_eq_true rfl, Nat.le_of_ble_eq_true rfl⟩).run (fun r_4 hw => ?_)
    refine lv_if_eq (tgt := 42) hx hb dZM_isAt_20 (by decide) (fun c_5 => ?_) (fun c_5 => ?_)
    · have hw := hw.1 c_5
      refine lv_iconst (v := (0 : Int32)) hx hb dZM_isAt_42 (by decide) ?_
      subst hQ9
      exact W.zret (v := (0 : Int32)) (ty := .boolean) hx hb hr rfl (fun t ht hW => ⟨(0 : Int32), rfl, hw, ht⟩) (fun q h => nomatch h) dZM_isAt_43
    · have hw := hw.2 c_5
      refine lv_iload_n hx hb dZM_isAt_23 rfl (lv_at hl 3 rfl) ?_
      refine lv_iconst (v := (0 : Int32)) hx hb dZM_isAt_24 (by decide) ?_
      refine lv_aload_n hx hb dZM_isAt_25 rfl (lv_at hl 0 rfl) ?_
      refine lv_iload_n hx hb dZM_isAt_26 rfl (lv_at hl 1 rfl) ?_
      refine vp_callSi (va_runV (As := [.int a1]) (rest := [.int (0 : Int32), .int a3]) ⟨hx, hb, hml, hown, hts⟩ (kt_ZM_down l dC dI cI om ozp ozs ozb ozl ozo ozk ozm ozg zt zw zh zp zs zb zz zl zo zc zr zu zv zq zi zk zm zd zg a1 _ hw) (cwV 1 hts (tb_V mm_727 mm_729 mp_9 mm_8 mm_730) rfl rfl rfl (by decide +kernel) ⟨Nat.le_of_ble_eq_true rfl, Nat.le_of_ble_eq_true rfl⟩) ⟨gr_blind, va_recv hK hP (ci := 6) (q0 := 0) rfl rfl, fun U hU hW => gr_pre hP hK hE hU hW⟩ rfl rfl hl.1 rfl (lv_room (Nat.le_of_ble_eq_true rfl)) dZM_isAt_27 ⟨Nat.le_of_ble_eq_true rfl, Nat.le_of_ble_eq_true rfl⟩).run (fun r_6 hw => ?_)
      refine lv_iconst (v := (1 : Int32)) hx hb dZM_isAt_30 (by decide) ?_
      refine lv_isub hx hb dZM_isAt_31 ?_
      have hPc := hP.sub (ws' := []) [] rfl
      refine vp_callSi (va_runS (As := [.int a3, .int (0 : Int32), .int (r_6 - (1 : Int32))]) (rest := []) ⟨hx, hb, hml, hown, hts⟩ (kt_ZM_in l dC dI cI  a3 (0 : Int32) (r_6 - (1 : Int32)) _ hw) (va_cwS 3 hts (tb_S mm_687 mm_688 mm_8 mm_689) rfl rfl rfl (by decide +kernel) ⟨Nat.le_of_ble_eq_true rfl, Nat.le_of_ble_eq_true rfl⟩) ⟨gr_blind, fun U hU hW => gr_pre hPc hK hE hU hW⟩ rfl rfl hl.1 rfl (lv_room (Nat.le_of_ble_eq_true rfl)) dZM_isAt_32 ⟨Nat.le_of_ble_eq_true rfl, Nat.le_of_ble_eq_true rfl⟩).run (fun r_7 hw => ?_)
      refine lv_if_eq (tgt := 42) hx hb dZM_isAt_35 (by decide) (fun c_8 => ?_) (fun c_8 => ?_)
      · have hw := hw.1 c_8
        refine lv_iconst (v := (0 : Int32)) hx hb dZM_isAt_42 (by decide) ?_
        subst hQ9
        exact W.zret (v := (0 : Int32)) (ty := .boolean) hx hb hr rfl (fun t ht hW => ⟨(0 : Int32), rfl, hw, ht⟩) (fun q h => nomatch h) dZM_isAt_43
      · have hw := hw.2 c_8
        refine lv_iconst (v := (1 : Int32)) hx hb dZM_isAt_38 (by decide) ?_
        refine lv_goto (tgt := 43) hx hb dZM_isAt_39 (by decide) ?_
        subst hQ9
        exact W.zret (v := (1 : Int32)) (ty := .boolean) hx hb hr rfl (fun t ht hW => ⟨(1 : Int32), rfl, hw, ht⟩) (fun q h => nomatch h) dZM_isAt_43
theorem dZM_under_0 : decode cZM_under 0 = .ok (.iload_n 1, 1) := by decide +kernel
theorem dZM_under_1 : decode cZM_under 1 = .ok (.iload_n 2, 1) := by decide +kernel
theorem dZM_under_2 : decode cZM_under 2 = .ok (.ishl, 1) := by decide +kernel
theorem dZM_under_3 : decode cZM_under 3 = .ok (.istore 4, 2) := by decide +kernel
theorem dZM_under_5 : decode cZM_under 5 = .ok (.iload_n 1, 1) := by decide +kernel
theorem dZM_under_6 : decode cZM_under 6 = .ok (.iconst 1, 1) := by decide +kernel
theorem dZM_under_7 : decode cZM_under 7 = .ok (.iadd, 1) := by decide +kernel
theorem dZM_under_8 : decode cZM_under 8 = .ok (.iload_n 2, 1) := by decide +kernel
theorem dZM_under_9 : decode cZM_under 9 = .ok (.ishl, 1) := by decide +kernel
theorem dZM_under_10 : decode cZM_under 10 = .ok (.istore 5, 2) := by decide +kernel
theorem dZM_under_12 : decode cZM_under 12 = .ok (.iload 5, 2) := by decide +kernel
theorem dZM_under_14 : decode cZM_under 14 = .ok (.iload_n 3, 1) := by decide +kernel
theorem dZM_under_15 : decode cZM_under 15 = .ok (.if_icmp .ge 8, 3) := by decide +kernel
theorem dZM_under_18 : decode cZM_under 18 = .ok (.iload 5, 2) := by decide +kernel
theorem dZM_under_20 : decode cZM_under 20 = .ok (.goto 4, 3) := by decide +kernel
theorem dZM_under_23 : decode cZM_under 23 = .ok (.iload_n 3, 1) := by decide +kernel
theorem dZM_under_24 : decode cZM_under 24 = .ok (.iload 4, 2) := by decide +kernel
theorem dZM_under_26 : decode cZM_under 26 = .ok (.isub, 1) := by decide +kernel
theorem dZM_under_27 : decode cZM_under 27 = .ok (.ireturn, 1) := by decide +kernel
abbrev wsZM_under : List Cond := .code yZM_under cZM_under 6 (some .int) :: tbg
def wp_ZM_under (zt : Int32) (zw : Int32) (zh : Int32) (zp : Nat → Int32) (zs : Nat → Int32) (zb : Nat → Int32) (zz : Int32) (zl : Nat → Int32) (zo : Nat → Int32) (zc : Int32) (zr : Int32) (zu : Int32) (zv : Int32) (zq : Int32) (zi : Int32) (zk : Nat → Int32) (zm : Nat → Int32) (zd : Int32) (zg : Nat → Int32) (a1 : Int32) (a2 : Int32) (a3 : Int32) (post : Int32 → Prop) : Prop := ((a3 ≤ ((a1 + (1 : Int32)) <<< (a2 &&& 31)) → (post (a3 - (a1 <<< (a2 &&& 31))))) ∧ (¬ a3 ≤ ((a1 + (1 : Int32)) <<< (a2 &&& 31)) → (post (((a1 + (1 : Int32)) <<< (a2 &&& 31)) - (a1 <<< (a2 &&& 31))))))
abbrev rm_ZM_under : Room := { frames := 0, cells := 0, slots := 0, locals := 0 }
set_option maxHeartbeats 4000000 in
set_option maxRecDepth 100000 in
theorem kt_ZM_under (l : Launch) (dC : Nat → ClassId) (dI : Nat → Nat → Nat) (cI : ClassId) (om ozp ozs ozb ozl ozo ozk ozm ozg : Nat) (zt : Int32) (zw : Int32) (zh : Int32) (zp : Nat → Int32) (zs : Nat → Int32) (zb : Nat → Int32) (zz : Int32) (zl : Nat → Int32) (zo : Nat → Int32) (zc : Int32) (zr : Int32) (zu : Int32) (zv : Int32) (zq : Int32) (zi : Int32) (zk : Nat → Int32) (zm : Nat → Int32) (zd : Int32) (zg : Nat → Int32) (a1 : Int32) (a2 : Int32) (a3 : Int32) (post : Int32 → Prop) (hw : wp_ZM_under zt zw zh zp zs zb zz zl zo zc zr zu zv zq zi zk zm zd zg a1 a2 a3 post) : Met l yZM_under wsZM_under rm_ZM_under (gr_Pc dC dI [(cI, .int)] [.ref om, .int a1, .int a2, .int a3] [(om, .inr (6, [.int zt, .int zw, .int zh, .ref ozp, .ref ozs, .ref ozb, .int zz, .ref ozl, .ref ozo, .int zc, .int zr, .int zu, .int zv, .int zq, .int zi, .ref ozk, .ref ozm, .int zd, .ref ozg])), (ozp, .inl (cI, 1600, .inl zp)), (ozs, .inl (cI, 320, .inl zs)), (ozb, .inl (cI, 256, .inl zb)), (ozl, .inl (cI, 64, .inl zl)), (ozo, .inl (cI, 64, .inl zo)), (ozk, .inl (cI, 320, .inl zk)), (ozm, .inl (cI, 40, .inl zm)), (ozg, .inl (cI, 64, .inl zg))]) (vp_Si post) 0 0 (fun _ => False) := by
  refine Met.ofW (cc := cZM_under) (maxL := 6) (ret := (some .int)) (by decide) rfl ?_
  intro p e s m args below meth c s₁ B hml hv
  obtain ⟨ha9, hP, hK, hE⟩ := hv
  have hx := B.exec
  have hb := B.bytes
  have hr := B.returns
  have hts0 := atoms_spec (ws := wsZM_under) B.pre
  have hts : ∀ w ∈ tbg, w.before args s = true := fun w h => hts0 w (List.mem_cons_of_mem _ h)
  have hown : s.vm.findClass RZM = some m.cls := findClass_of_methodNamed B.named
  have hlocks := B.notSynchronized
  refine gx_Q (fun Q9 hQ9 => ?_)
  have hl := lv_entry ([.ref om, .int a1, .int a2, .int a3]) (n := 6) (Nat.le_of_ble_eq_true rfl)
  have he9 : entryFrame m args 6 = F0 m 0 ((lg_sl [.ref om, .int a1, .int a2, .int a3] ++ List.replicate (6 - (lg_sl ([.ref om, .int a1, .int a2, .int a3] : List Value)).length) Slot.unset).toArray) [] := by rw [ha9]; exact lg_entry_eq m [.ref om, .int a1, .int a2, .int a3] 6
  rw [he9]
  generalize (lg_sl ([.ref om, .int a1, .int a2, .int a3] : List Value) ++ List.replicate (6 - (lg_sl ([.ref om, .int a1, .int a2, .int a3] : List Value)).length) Slot.unset).toArray = ls at hl ⊢
  have hl : lv_has ls 6 [(0, .ref om), (1, .int a1), (2, .int a2), (3, .int a3)] := hl
  refine lv_iload_n hx hb dZM_under_0 rfl (lv_at hl 1 rfl) ?_
  refine lv_iload_n hx hb dZM_under_1 rfl (lv_at hl 2 rfl) ?_
  refine lv_ishl hx hb dZM_under_2 ?_
  refine lv_istore (lv' := [(4, .int (a1 <<< (a2 &&& 31))), (0, .ref om), (1, .int a1), (2, .int a2), (3, .int a3)]) hx hb dZM_under_3 hl (by decide) rfl (fun ls hl => ?_)
  refine lv_iload_n hx hb dZM_under_5 rfl (lv_at hl 2 rfl) ?_
  refine lv_iconst (v := (1 : Int32)) hx hb dZM_under_6 (by decide) ?_
  refine lv_iadd hx hb dZM_under_7 ?_
  refine lv_iload_n hx hb dZM_under_8 rfl (lv_at hl 3 rfl) ?_
  refine lv_ishl hx hb dZM_under_9 ?_
  refine lv_istore (lv' := [(5, .int ((a1 + (1 : Int32)) <<< (a2 &&& 31))), (4, .int (a1 <<< (a2 &&& 31))), (0, .ref om), (1, .int a1), (2, .int a2), (3, .int a3)]) hx hb dZM_under_10 hl (by decide) rfl (fun ls hl => ?_)
  refine lv_iload hx hb dZM_under_12 (lv_at hl 0 rfl) ?_
  refine lv_iload_n hx hb dZM_under_14 rfl (lv_at hl 5 rfl) ?_
  refine lv_icmp_ge (tgt := 23) hx hb dZM_under_15 (by decide) (fun c_1 => ?_) (fun c_1 => ?_)
  · have hw := hw.1 c_1
    refine lv_iload_n hx hb dZM_under_23 rfl (lv_at hl 5 rfl) ?_
    refine lv_iload hx hb dZM_under_24 (lv_at hl 1 rfl) ?_
    refine lv_isub hx hb dZM_under_26 ?_
    subst hQ9
    exact W.iret (v := a3 - (a1 <<< (a2 &&& 31))) hx hb hr (fun t ht hW => ⟨a3 - (a1 <<< (a2 &&& 31)), rfl, hw, ht⟩) (fun q h => nomatch h) dZM_under_27
  · have hw := hw.2 c_1
    refine lv_iload hx hb dZM_under_18 (lv_at hl 0 rfl) ?_
    refine lv_goto (tgt := 24) hx hb dZM_under_20 (by decide) ?_
    refine lv_iload hx hb dZM_under_24 (lv_at hl 1 rfl) ?_
    refine lv_isub hx hb dZM_under_26 ?_
    subst hQ9
    exact W.iret (v := ((a1 + (1 : Int32)) <<< (a2 &&& 31)) - (a1 <<< (a2 &&& 31))) hx hb hr (fun t ht hW => ⟨((a1 + (1 : Int32)) <<< (a2 &&& 31)) - (a1 <<< (a2 &&& 31)), rfl, hw, ht⟩) (fun q h => nomatch h) dZM_under_27
theorem dZM_sumUnder_0 : decode cZM_sumUnder 0 = .ok (.iconst 0, 1) := by decide +kernel
theorem dZM_sumUnder_1 : decode cZM_sumUnder 1 = .ok (.istore 4, 2) := by decide +kernel
theorem dZM_sumUnder_3 : decode cZM_sumUnder 3 = .ok (.aload_n 0, 1) := by decide +kernel
theorem dZM_sumUnder_4 : decode cZM_sumUnder 4 = .ok (.iload_n 2, 1) := by decide +kernel
theorem dZM_sumUnder_5 : decode cZM_sumUnder 5 = .ok (.iload_n 1, 1) := by decide +kernel
theorem dZM_sumUnder_6 : decode cZM_sumUnder 6 = .ok (.aload_n 0, 1) := by decide +kernel
theorem dZM_sumUnder_7 : decode cZM_sumUnder 7 = .ok (.getfield 38, 3) := by decide +kernel
theorem dZM_sumUnder_10 : decode cZM_sumUnder 10 = .ok (.invokevirtual 85, 3) := by decide +kernel
theorem dZM_sumUnder_13 : decode cZM_sumUnder 13 = .ok (.istore 5, 2) := by decide +kernel
theorem dZM_sumUnder_15 : decode cZM_sumUnder 15 = .ok (.aload_n 0, 1) := by decide +kernel
theorem dZM_sumUnder_16 : decode cZM_sumUnder 16 = .ok (.iload_n 3, 1) := by decide +kernel
theorem dZM_sumUnder_17 : decode cZM_sumUnder 17 = .ok (.iload_n 1, 1) := by decide +kernel
theorem dZM_sumUnder_18 : decode cZM_sumUnder 18 = .ok (.aload_n 0, 1) := by decide +kernel
theorem dZM_sumUnder_19 : decode cZM_sumUnder 19 = .ok (.getfield 42, 3) := by decide +kernel
theorem dZM_sumUnder_22 : decode cZM_sumUnder 22 = .ok (.invokevirtual 85, 3) := by decide +kernel
theorem dZM_sumUnder_25 : decode cZM_sumUnder 25 = .ok (.istore 6, 2) := by decide +kernel
theorem dZM_sumUnder_27 : decode cZM_sumUnder 27 = .ok (.iconst 0, 1) := by decide +kernel
theorem dZM_sumUnder_28 : decode cZM_sumUnder 28 = .ok (.istore 7, 2) := by decide +kernel
theorem dZM_sumUnder_30 : decode cZM_sumUnder 30 = .ok (.iload 7, 2) := by decide +kernel
theorem dZM_sumUnder_32 : decode cZM_sumUnder 32 = .ok (.iload 5, 2) := by decide +kernel
theorem dZM_sumUnder_34 : decode cZM_sumUnder 34 = .ok (.iload 6, 2) := by decide +kernel
theorem dZM_sumUnder_36 : decode cZM_sumUnder 36 = .ok (.imul, 1) := by decide +kernel
theorem dZM_sumUnder_37 : decode cZM_sumUnder 37 = .ok (.if_icmp .ge 41, 3) := by decide +kernel
theorem dZM_sumUnder_40 : decode cZM_sumUnder 40 = .ok (.iload 4, 2) := by decide +kernel
theorem dZM_sumUnder_42 : decode cZM_sumUnder 42 = .ok (.aload_n 0, 1) := by decide +kernel
theorem dZM_sumUnder_43 : decode cZM_sumUnder 43 = .ok (.getfield 7, 3) := by decide +kernel
theorem dZM_sumUnder_46 : decode cZM_sumUnder 46 = .ok (.bipush 40, 2) := by decide +kernel
theorem dZM_sumUnder_48 : decode cZM_sumUnder 48 = .ok (.iload_n 3, 1) := by decide +kernel
theorem dZM_sumUnder_49 : decode cZM_sumUnder 49 = .ok (.iload_n 1, 1) := by decide +kernel
theorem dZM_sumUnder_50 : decode cZM_sumUnder 50 = .ok (.ishl, 1) := by decide +kernel
theorem dZM_sumUnder_51 : decode cZM_sumUnder 51 = .ok (.iload 7, 2) := by decide +kernel
theorem dZM_sumUnder_53 : decode cZM_sumUnder 53 = .ok (.iload 5, 2) := by decide +kernel
theorem dZM_sumUnder_55 : decode cZM_sumUnder 55 = .ok (.idiv, 1) := by decide +kernel
theorem dZM_sumUnder_56 : decode cZM_sumUnder 56 = .ok (.iadd, 1) := by decide +kernel
theorem dZM_sumUnder_57 : decode cZM_sumUnder 57 = .ok (.imul, 1) := by decide +kernel
theorem dZM_sumUnder_58 : decode cZM_sumUnder 58 = .ok (.iload_n 2, 1) := by decide +kernel
theorem dZM_sumUnder_59 : decode cZM_sumUnder 59 = .ok (.iload_n 1, 1) := by decide +kernel
theorem dZM_sumUnder_60 : decode cZM_sumUnder 60 = .ok (.ishl, 1) := by decide +kernel
theorem dZM_sumUnder_61 : decode cZM_sumUnder 61 = .ok (.iadd, 1) := by decide +kernel
theorem dZM_sumUnder_62 : decode cZM_sumUnder 62 = .ok (.iload 7, 2) := by decide +kernel
theorem dZM_sumUnder_64 : decode cZM_sumUnder 64 = .ok (.iload 5, 2) := by decide +kernel
theorem dZM_sumUnder_66 : decode cZM_sumUnder 66 = .ok (.irem, 1) := by decide +kernel
theorem dZM_sumUnder_67 : decode cZM_sumUnder 67 = .ok (.iadd, 1) := by decide +kernel
theorem dZM_sumUnder_68 : decode cZM_sumUnder 68 = .ok (.iaload, 1) := by decide +kernel
theorem dZM_sumUnder_69 : decode cZM_sumUnder 69 = .ok (.iadd, 1) := by decide +kernel
theorem dZM_sumUnder_70 : decode cZM_sumUnder 70 = .ok (.istore 4, 2) := by decide +kernel
theorem dZM_sumUnder_72 : decode cZM_sumUnder 72 = .ok (.iinc 7 1, 3) := by decide +kernel
theorem dZM_sumUnder_75 : decode cZM_sumUnder 75 = .ok (.goto (-45), 3) := by decide +kernel
theorem dZM_sumUnder_78 : decode cZM_sumUnder 78 = .ok (.iload 4, 2) := by decide +kernel
theorem dZM_sumUnder_80 : decode cZM_sumUnder 80 = .ok (.ireturn, 1) := by decide +kernel
abbrev wsZM_sumUnder : List Cond := .code yZM_sumUnder cZM_sumUnder 8 (some .int) :: tbg
def lp_ZM_sumUnder_30 (zt : Int32) (zw : Int32) (zh : Int32) (zp : Nat → Int32) (zs : Nat → Int32) (zb : Nat → Int32) (zz : Int32) (zl : Nat → Int32) (zo : Nat → Int32) (zc : Int32) (zr : Int32) (zu : Int32) (zv : Int32) (zq : Int32) (zi : Int32) (zk : Nat → Int32) (zm : Nat → Int32) (zd : Int32) (zg : Nat → Int32) (a1 : Int32) (a2 : Int32) (a3 : Int32) (r_1 : Int32) (r_2 : Int32) (post : Int32 → Prop) (K30 : Int32 → Int32 → Prop) (n : Nat) : Int32 → Int32 → Prop := Nat.rec (motive := fun _ => Int32 → Int32 → Prop) (fun (x4_30 : Int32) (x7_30 : Int32) => False) (fun _ ih30 (x4_30 : Int32) (x7_30 : Int32) => (((r_1 * r_2) ≤ x7_30 → (K30 x4_30 x7_30)) ∧ (¬ (r_1 * r_2) ≤ x7_30 → (¬ r_1 = 0 ∧ (¬ r_1 = 0 ∧ (vp_in ((((40 : Int32) * ((a3 <<< (a1 &&& 31)) + (x7_30 / r_1))) + (a2 <<< (a1 &&& 31))) + (x7_30 - x7_30 / r_1 * r_1)) 1600 ∧ (ih30 (x4_30 + (zp ((((40 : Int32) * ((a3 <<< (a1 &&& 31)) + (x7_30 / r_1))) + (a2 <<< (a1 &&& 31))) + (x7_30 - x7_30 / r_1 * r_1)).toNatClampNeg)) (x7_30 + (1 : Int32))))))))) n
def wp_ZM_sumUnder (zt : Int32) (zw : Int32) (zh : Int32) (zp : Nat → Int32) (zs : Nat → Int32) (zb : Nat → Int32) (zz : Int32) (zl : Nat → Int32) (zo : Nat → Int32) (zc : Int32) (zr : Int32) (zu : Int32) (zv : Int32) (zq : Int32) (zi : Int32) (zk : Nat → Int32) (zm : Nat → Int32) (zd : Int32) (zg : Nat → Int32) (a1 : Int32) (a2 : Int32) (a3 : Int32) (post : Int32 → Prop) : Prop := wp_ZM_under zt zw zh zp zs zb zz zl zo zc zr zu zv zq zi zk zm zd zg a2 a1 zw (fun r_1 : Int32 => wp_ZM_under zt zw zh zp zs zb zz zl zo zc zr zu zv zq zi zk zm zd zg a3 a1 zh (fun r_2 : Int32 => ∃ n : Nat, lp_ZM_sumUnder_30 zt zw zh zp zs zb zz zl zo zc zr zu zv zq zi zk zm zd zg a1 a2 a3 r_1 r_2 post (fun (x4_30e : Int32) (x7_30e : Int32) => post x4_30e) n (0 : Int32) (0 : Int32)))
abbrev rm_ZM_sumUnder : Room := { frames := 1, cells := 0, slots := 0, locals := 25 }
set_option maxHeartbeats 4000000 in
set_option maxRecDepth 100000 in
theorem kt_ZM_sumUnder (l : Launch) (dC : Nat → ClassId) (dI : Nat → Nat → Nat) (cI : ClassId) (om ozp ozs ozb ozl ozo ozk ozm ozg : Nat) (zt : Int32) (zw : Int32) (zh : Int32) (zp : Nat → Int32) (zs : Nat → Int32) (zb : Nat → Int32) (zz : Int32) (zl : Nat → Int32) (zo : Nat → Int32) (zc : Int32) (zr : Int32) (zu : Int32) (zv : Int32) (zq : Int32) (zi : Int32) (zk : Nat → Int32) (zm : Nat → Int32) (zd : Int32) (zg : Nat → Int32) (a1 : Int32) (a2 : Int32) (a3 : Int32) (post : Int32 → Prop) (hw : wp_ZM_sumUnder zt zw zh zp zs zb zz zl zo zc zr zu zv zq zi zk zm zd zg a1 a2 a3 post) : Met l yZM_sumUnder wsZM_sumUnder rm_ZM_sumUnder (gr_Pc dC dI [(cI, .int)] [.ref om, .int a1, .int a2, .int a3] [(om, .inr (6, [.int zt, .int zw, .int zh, .ref ozp, .ref ozs, .ref ozb, .int zz, .ref ozl, .ref ozo, .int zc, .int zr, .int zu, .int zv, .int zq, .int zi, .ref ozk, .ref ozm, .int zd, .ref ozg])), (ozp, .inl (cI, 1600, .inl zp)), (ozs, .inl (cI, 320, .inl zs)), (ozb, .inl (cI, 256, .inl zb)), (ozl, .inl (cI, 64, .inl zl)), (ozo, .inl (cI, 64, .inl zo)), (ozk, .inl (cI, 320, .inl zk)), (ozm, .inl (cI, 40, .inl zm)), (ozg, .inl (cI, 64, .inl zg))]) (vp_Si post) 0 0 (fun _ => False) := by
  refine Met.ofW (cc := cZM_sumUnder) (maxL := 8) (ret := (some .int)) (by decide) rfl ?_
  intro p e s m args below meth c s₁ B hml hv
  obtain ⟨ha9, hP, hK, hE⟩ := hv
  have hx := B.exec
  have hb := B.bytes
  have hr := B.returns
  have hts0 := atoms_spec (ws := wsZM_sumUnder) B.pre
  have hts : ∀ w ∈ tbg, w.before args s = true := fun w h => hts0 w (List.mem_cons_of_mem _ h)
  have hown : s.vm.findClass RZM = some m.cls := findClass_of_methodNamed B.named
  have hlocks := B.notSynchronized
  refine gx_Q (fun Q9 hQ9 => ?_)
  have hl := lv_entry ([.ref om, .int a1, .int a2, .int a3]) (n := 8) (Nat.le_of_ble_eq_true rfl)
  have he9 : entryFrame m args 8 = F0 m 0 ((lg_sl [.ref om, .int a1, .int a2, .int a3] ++ List.replicate (8 - (lg_sl ([.ref om, .int a1, .int a2, .int a3] : List Value)).length) Slot.unset).toArray) [] := by rw [ha9]; exact lg_entry_eq m [.ref om, .int a1, .int a2, .int a3] 8
  rw [he9]
  generalize (lg_sl ([.ref om, .int a1, .int a2, .int a3] : List Value) ++ List.replicate (8 - (lg_sl ([.ref om, .int a1, .int a2, .int a3] : List Value)).length) Slot.unset).toArray = ls at hl ⊢
  have hl : lv_has ls 8 [(0, .ref om), (1, .int a1), (2, .int a2), (3, .int a3)] := hl
  refine lv_iconst (v := (0 : Int32)) hx hb dZM_sumUnder_0 (by decide) ?_
  refine lv_istore (lv' := [(4, .int (0 : Int32)), (0, .ref om), (1, .int a1), (2, .int a2), (3, .int a3)]) hx hb dZM_sumUnder_1 hl (by decide) rfl (fun ls hl => ?_)
  refine lv_aload_n hx hb dZM_sumUnder_3 rfl (lv_at hl 1 rfl) ?_
  refine lv_iload_n hx hb dZM_sumUnder_4 rfl (lv_at hl 3 rfl) ?_
  refine lv_iload_n hx hb dZM_sumUnder_5 rfl (lv_at hl 2 rfl) ?_
  refine lv_aload_n hx hb dZM_sumUnder_6 rfl (lv_at hl 1 rfl) ?_
  refine va_get (D := (dC, dI)) (ci := 6) (v := .int zw) (C := RZM) (T := TZM) (N := 19) hx hb hts inZM hown hK hP 0 rfl rfl 1 (by decide) (hts _ mm_619) (fun _ h9 => h9) rfl dZM_sumUnder_7 ?_
  refine vp_callSi (va_runV (As := [.int a2, .int a1, .int zw]) (rest := []) ⟨hx, hb, hml, hown, hts⟩ (kt_ZM_under l dC dI cI om ozp ozs ozb ozl ozo ozk ozm ozg zt zw zh zp zs zb zz zl zo zc zr zu zv zq zi zk zm zd zg a2 a1 zw _ hw) (cwV 3 hts (tb_V mm_747 mm_749 mp_13 mm_8 mm_750) rfl rfl rfl (by decide +kernel) ⟨Nat.le_of_ble_eq_true rfl, Nat.le_of_ble_eq_true rfl⟩) ⟨gr_blind, va_recv hK hP (ci := 6) (q0 := 0) rfl rfl, fun U hU hW => gr_pre hP hK hE hU hW⟩ rfl rfl hl.1 rfl (lv_room (Nat.le_of_ble_eq_true rfl)) dZM_sumUnder_10 ⟨Nat.le_of_ble_eq_true rfl, Nat.le_of_ble_eq_true rfl⟩).run (fun r_1 hw => ?_)
  refine lv_istore (lv' := [(5, .int r_1), (4, .int (0 : Int32)), (0, .ref om), (1, .int a1), (2, .int a2), (3, .int a3)]) hx hb dZM_sumUnder_13 hl (by decide) rfl (fun ls hl => ?_)
  refine lv_aload_n hx hb dZM_sumUnder_15 rfl (lv_at hl 2 rfl) ?_
  refine lv_iload_n hx hb dZM_sumUnder_16 rfl (lv_at hl 5 rfl) ?_
  refine lv_iload_n hx hb dZM_sumUnder_17 rfl (lv_at hl 3 rfl) ?_
  refine lv_aload_n hx hb dZM_sumUnder_18 rfl (lv_at hl 2 rfl) ?_
  refine va_get (D := (dC, dI)) (ci := 6) (v := .int zh) (C := RZM) (T := TZM) (N := 19) hx hb hts inZM hown hK hP 0 rfl rfl 2 (by decide) (hts _ mm_620) (fun _ h9 => h9) rfl dZM_sumUnder_19 ?_
  refine vp_callSi (va_runV (As := [.int a3, .int a1, .int zh]) (rest := []) ⟨hx, hb, hml, hown, hts⟩ (kt_ZM_under l dC dI cI om ozp ozs ozb ozl ozo ozk ozm ozg zt zw zh zp zs zb zz zl zo zc zr zu zv zq zi zk zm zd zg a3 a1 zh _ hw) (cwV 3 hts (tb_V mm_747 mm_749 mp_13 mm_8 mm_750) rfl rfl rfl (by decide +kernel) ⟨Nat.le_of_ble_eq_true rfl, Nat.le_of_ble_eq_true rfl⟩) ⟨gr_blind, va_recv hK hP (ci := 6) (q0 := 0) rfl rfl, fun U hU hW => gr_pre hP hK hE hU hW⟩ rfl rfl hl.1 rfl (lv_room (Nat.le_of_ble_eq_true rfl)) dZM_sumUnder_22 ⟨Nat.le_of_ble_eq_true rfl, Nat.le_of_ble_eq_true rfl⟩).run (fun r_2 hw => ?_)
  refine lv_istore (lv' := [(6, .int r_2), (5, .int r_1), (4, .int (0 : Int32)), (0, .ref om), (1, .int a1), (2, .int a2), (3, .int a3)]) hx hb dZM_sumUnder_25 hl (by decide) rfl (fun ls hl => ?_)
  refine lv_iconst (v := (0 : Int32)) hx hb dZM_sumUnder_27 (by decide) ?_
  refine lv_istore (lv' := [(7, .int (0 : Int32)), (6, .int r_2), (5, .int r_1), (4, .int (0 : Int32)), (0, .ref om), (1, .int a1), (2, .int a2), (3, .int a3)]) hx hb dZM_sumUnder_28 hl (by decide) rfl (fun ls hl => ?_)
  have lp30 : ∀ K30 : Int32 → Int32 → Prop, (∀ (x4_30 : Int32) (x7_30 : Int32), K30 x4_30 x7_30 → ∀ ls : Array Slot, lv_has ls 8 [(7, .int x7_30), (6, .int r_2), (5, .int r_1), (4, .int x4_30), (0, .ref om), (1, .int a1), (2, .int a2), (3, .int a3)] → W p l e (headSpec wsZM_sumUnder rm_ZM_sumUnder).room s m args below meth c s.heap [] 0 0 Q9 (F0 m 78 ls [])) → ∀ (n : Nat) (x4_30 : Int32) (x7_30 : Int32), lp_ZM_sumUnder_30 zt zw zh zp zs zb zz zl zo zc zr zu zv zq zi zk zm zd zg a1 a2 a3 r_1 r_2 post K30 n x4_30 x7_30 → ∀ ls : Array Slot, lv_has ls 8 [(7, .int x7_30), (6, .int r_2), (5, .int r_1), (4, .int x4_30), (0, .ref om), (1, .int a1), (2, .int a2), (3, .int a3)] → W p l e (headSpec wsZM_sumUnder rm_ZM_sumUnder).room s m args below meth c s.heap [] 0 0 Q9 (F0 m 30 ls []) := by
    intro K30 aft30 n
    induction n with
    | zero => intro x4_30 x7_30 hw; exact False.elim hw
    | succ n ih30 =>
      intro x4_30 x7_30 hw ls hl
      refine lv_iload hx hb dZM_sumUnder_30 (lv_at hl 0 rfl) ?_
      refine lv_iload hx hb dZM_sumUnder_32 (lv_at hl 2 rfl) ?_
      refine lv_iload hx hb dZM_sumUnder_34 (lv_at hl 1 rfl) ?_
      refine lv_imul hx hb dZM_sumUnder_36 ?_
      refine lv_icmp_ge (tgt := 78) hx hb dZM_sumUnder_37 (by decide) (fun c_3 => ?_) (fun c_3 => ?_)
      · have hw := hw.1 c_3
        exact aft30 x4_30 x7_30 hw ls (lv_sub hl [0, 1, 2, 3, 4, 5, 6, 7] rfl)
      · have hw := hw.2 c_3
        refine lv_iload hx hb dZM_sumUnder_40 (lv_at hl 3 rfl) ?_
        refine lv_aload_n hx hb dZM_sumUnder_42 rfl (lv_at hl 4 rfl) ?_
        refine va_get (D := (dC, dI)) (ci := 6) (v := .ref ozp) (C := RZM) (T := TZM) (N := 19) hx hb hts inZM hown hK hP 0 rfl rfl 3 (by decide) (hts _ mm_621) (fun _ h9 => h9) rfl dZM_sumUnder_43 ?_
        refine lv_bipush (v := (40 : Int32)) hx hb dZM_sumUnder_46 (by decide) ?_
        refine lv_iload_n hx hb dZM_sumUnder_48 rfl (lv_at hl 7 rfl) ?_
        refine lv_iload_n hx hb dZM_sumUnder_49 rfl (lv_at hl 5 rfl) ?_
        refine lv_ishl hx hb dZM_sumUnder_50 ?_
        refine lv_iload hx hb dZM_sumUnder_51 (lv_at hl 0 rfl) ?_
        refine lv_iload hx hb dZM_sumUnder_53 (lv_at hl 2 rfl) ?_
        obtain ⟨h_4, hw⟩ := hw
        refine lv_idiv hx hb dZM_sumUnder_55 h_4 ?_
        refine lv_iadd hx hb dZM_sumUnder_56 ?_
        refine lv_imul hx hb dZM_sumUnder_57 ?_
        refine lv_iload_n hx hb dZM_sumUnder_58 rfl (lv_at hl 6 rfl) ?_
        refine lv_iload_n hx hb dZM_sumUnder_59 rfl (lv_at hl 5 rfl) ?_
        refine lv_ishl hx hb dZM_sumUnder_60 ?_
        refine lv_iadd hx hb dZM_sumUnder_61 ?_
        refine lv_iload hx hb dZM_sumUnder_62 (lv_at hl 0 rfl) ?_
        refine lv_iload hx hb dZM_sumUnder_64 (lv_at hl 2 rfl) ?_
        obtain ⟨h_5, hw⟩ := hw
        refine lv_irem hx hb dZM_sumUnder_66 h_5 ?_
        refine lv_iadd hx hb dZM_sumUnder_67 ?_
        obtain ⟨h_6, hw⟩ := hw
        refine va_iald hx hb hK hP 1 0 rfl rfl h_6 dZM_sumUnder_68 ?_
        refine lv_iadd hx hb dZM_sumUnder_69 ?_
        refine lv_istore (lv' := [(4, .int (x4_30 + (zp ((((40 : Int32) * ((a3 <<< (a1 &&& 31)) + (x7_30 / r_1))) + (a2 <<< (a1 &&& 31))) + (x7_30 - x7_30 / r_1 * r_1)).toNatClampNeg))), (7, .int x7_30), (6, .int r_2), (5, .int r_1), (0, .ref om), (1, .int a1), (2, .int a2), (3, .int a3)]) hx hb dZM_sumUnder_70 hl (by decide) rfl (fun ls hl => ?_)
        refine lv_iinc (v := x7_30 + (1 : Int32)) (lv' := [(7, .int (x7_30 + (1 : Int32))), (4, .int (x4_30 + (zp ((((40 : Int32) * ((a3 <<< (a1 &&& 31)) + (x7_30 / r_1))) + (a2 <<< (a1 &&& 31))) + (x7_30 - x7_30 / r_1 * r_1)).toNatClampNeg))), (6, .int r_2), (5, .int r_1), (0, .ref om), (1, .int a1), (2, .int a2), (3, .int a3)]) hx hb dZM_sumUnder_72 hl (k := 1) rfl rfl (by decide) rfl (fun ls hl => ?_)
        refine lv_goto (tgt := 30) hx hb dZM_sumUnder_75 (by decide) ?_
        exact ih30 (x4_30 + (zp ((((40 : Int32) * ((a3 <<< (a1 &&& 31)) + (x7_30 / r_1))) + (a2 <<< (a1 &&& 31))) + (x7_30 - x7_30 / r_1 * r_1)).toNatClampNeg)) (x7_30 + (1 : Int32)) hw ls (lv_sub hl [0, 2, 3, 1, 4, 5, 6, 7] rfl)
  obtain ⟨n30, hw⟩ := hw
  refine lp30 _ (fun x4_30e x7_30e hw ls hl => ?_) n30 (0 : Int32) (0 : Int32) hw ls (lv_sub hl [0, 1, 2, 3, 4, 5, 6, 7] rfl)
  refine lv_iload hx hb dZM_sumUnder_78 (lv_at hl 3 rfl) ?_
  subst hQ9
  exact W.iret (v := x4_30e) hx hb hr (fun t ht hW => ⟨x4_30e, rfl, hw, ht⟩) (fun q h => nomatch h) dZM_sumUnder_80
theorem dZM_countUnder_0 : decode cZM_countUnder 0 = .ok (.aload_n 0, 1) := by decide +kernel
theorem dZM_countUnder_1 : decode cZM_countUnder 1 = .ok (.iload_n 2, 1) := by decide +kernel
theorem dZM_countUnder_2 : decode cZM_countUnder 2 = .ok (.iload_n 1, 1) := by decide +kernel
theorem dZM_countUnder_3 : decode cZM_countUnder 3 = .ok (.aload_n 0, 1) := by decide +kernel
theorem dZM_countUnder_4 : decode cZM_countUnder 4 = .ok (.getfield 38, 3) := by decide +kernel
theorem dZM_countUnder_7 : decode cZM_countUnder 7 = .ok (.invokevirtual 85, 3) := by decide +kernel
theorem dZM_countUnder_10 : decode cZM_countUnder 10 = .ok (.aload_n 0, 1) := by decide +kernel
theorem dZM_countUnder_11 : decode cZM_countUnder 11 = .ok (.iload_n 3, 1) := by decide +kernel
theorem dZM_countUnder_12 : decode cZM_countUnder 12 = .ok (.iload_n 1, 1) := by decide +kernel
theorem dZM_countUnder_13 : decode cZM_countUnder 13 = .ok (.aload_n 0, 1) := by decide +kernel
theorem dZM_countUnder_14 : decode cZM_countUnder 14 = .ok (.getfield 42, 3) := by decide +kernel
theorem dZM_countUnder_17 : decode cZM_countUnder 17 = .ok (.invokevirtual 85, 3) := by decide +kernel
theorem dZM_countUnder_20 : decode cZM_countUnder 20 = .ok (.imul, 1) := by decide +kernel
theorem dZM_countUnder_21 : decode cZM_countUnder 21 = .ok (.ireturn, 1) := by decide +kernel
abbrev wsZM_countUnder : List Cond := .code yZM_countUnder cZM_countUnder 4 (some .int) :: tbg
def wp_ZM_countUnder (zt : Int32) (zw : Int32) (zh : Int32) (zp : Nat → Int32) (zs : Nat → Int32) (zb : Nat → Int32) (zz : Int32) (zl : Nat → Int32) (zo : Nat → Int32) (zc : Int32) (zr : Int32) (zu : Int32) (zv : Int32) (zq : Int32) (zi : Int32) (zk : Nat → Int32) (zm : Nat → Int32) (zd : Int32) (zg : Nat → Int32) (a1 : Int32) (a2 : Int32) (a3 : Int32) (post : Int32 → Prop) : Prop := wp_ZM_under zt zw zh zp zs zb zz zl zo zc zr zu zv zq zi zk zm zd zg a2 a1 zw (fun r_1 : Int32 => wp_ZM_under zt zw zh zp zs zb zz zl zo zc zr zu zv zq zi zk zm zd zg a3 a1 zh (fun r_2 : Int32 => post (r_1 * r_2)))
abbrev rm_ZM_countUnder : Room := { frames := 1, cells := 0, slots := 0, locals := 25 }
set_option maxHeartbeats 4000000 in
set_option maxRecDepth 100000 in
theorem kt_ZM_countUnder (l : Launch) (dC : Nat → ClassId) (dI : Nat → Nat → Nat) (cI : ClassId) (om ozp ozs ozb ozl ozo ozk ozm ozg : Nat) (zt : Int32) (zw : Int32) (zh : Int32) (zp : Nat → Int32) (zs : Nat → Int32) (zb : Nat → Int32) (zz : Int32) (zl : Nat → Int32) (zo : Nat → Int32) (zc : Int32) (zr : Int32) (zu : Int32) (zv : Int32) (zq : Int32) (zi : Int32) (zk : Nat → Int32) (zm : Nat → Int32) (zd : Int32) (zg : Nat → Int32) (a1 : Int32) (a2 : Int32) (a3 : Int32) (post : Int32 → Prop) (hw : wp_ZM_countUnder zt zw zh zp zs zb zz zl zo zc zr zu zv zq zi zk zm zd zg a1 a2 a3 post) : Met l yZM_countUnder wsZM_countUnder rm_ZM_countUnder (gr_Pc dC dI [(cI, .int)] [.ref om, .int a1, .int a2, .int a3] [(om, .inr (6, [.int zt, .int zw, .int zh, .ref ozp, .ref ozs, .ref ozb, .int zz, .ref ozl, .ref ozo, .int zc, .int zr, .int zu, .int zv, .int zq, .int zi, .ref ozk, .ref ozm, .int zd, .ref ozg])), (ozp, .inl (cI, 1600, .inl zp)), (ozs, .inl (cI, 320, .inl zs)), (ozb, .inl (cI, 256, .inl zb)), (ozl, .inl (cI, 64, .inl zl)), (ozo, .inl (cI, 64, .inl zo)), (ozk, .inl (cI, 320, .inl zk)), (ozm, .inl (cI, 40, .inl zm)), (ozg, .inl (cI, 64, .inl zg))]) (vp_Si post) 0 0 (fun _ => False) := by
  refine Met.ofW (cc := cZM_countUnder) (maxL := 4) (ret := (some .int)) (by decide) rfl ?_
  intro p e s m args below meth c s₁ B hml hv
  obtain ⟨ha9, hP, hK, hE⟩ := hv
  have hx := B.exec
  have hb := B.bytes
  have hr := B.returns
  have hts0 := atoms_spec (ws := wsZM_countUnder) B.pre
  have hts : ∀ w ∈ tbg, w.before args s = true := fun w h => hts0 w (List.mem_cons_of_mem _ h)
  have hown : s.vm.findClass RZM = some m.cls := findClass_of_methodNamed B.named
  have hlocks := B.notSynchronized
  refine gx_Q (fun Q9 hQ9 => ?_)
  have hl := lv_entry ([.ref om, .int a1, .int a2, .int a3]) (n := 4) (Nat.le_of_ble_eq_true rfl)
  have he9 : entryFrame m args 4 = F0 m 0 ((lg_sl [.ref om, .int a1, .int a2, .int a3] ++ List.replicate (4 - (lg_sl ([.ref om, .int a1, .int a2, .int a3] : List Value)).length) Slot.unset).toArray) [] := by rw [ha9]; exact lg_entry_eq m [.ref om, .int a1, .int a2, .int a3] 4
  rw [he9]
  generalize (lg_sl ([.ref om, .int a1, .int a2, .int a3] : List Value) ++ List.replicate (4 - (lg_sl ([.ref om, .int a1, .int a2, .int a3] : List Value)).length) Slot.unset).toArray = ls at hl ⊢
  have hl : lv_has ls 4 [(0, .ref om), (1, .int a1), (2, .int a2), (3, .int a3)] := hl
  refine lv_aload_n hx hb dZM_countUnder_0 rfl (lv_at hl 0 rfl) ?_
  refine lv_iload_n hx hb dZM_countUnder_1 rfl (lv_at hl 2 rfl) ?_
  refine lv_iload_n hx hb dZM_countUnder_2 rfl (lv_at hl 1 rfl) ?_
  refine lv_aload_n hx hb dZM_countUnder_3 rfl (lv_at hl 0 rfl) ?_
  refine va_get (D := (dC, dI)) (ci := 6) (v := .int zw) (C := RZM) (T := TZM) (N := 19) hx hb hts inZM hown hK hP 0 rfl rfl 1 (by decide) (hts _ mm_619) (fun _ h9 => h9) rfl dZM_countUnder_4 ?_
  refine vp_callSi (va_runV (As := [.int a2, .int a1, .int zw]) (rest := []) ⟨hx, hb, hml, hown, hts⟩ (kt_ZM_under l dC dI cI om ozp ozs ozb ozl ozo ozk ozm ozg zt zw zh zp zs zb zz zl zo zc zr zu zv zq zi zk zm zd zg a2 a1 zw _ hw) (cwV 3 hts (tb_V mm_747 mm_749 mp_13 mm_8 mm_750) rfl rfl rfl (by decide +kernel) ⟨Nat.le_of_ble_eq_true rfl, Nat.le_of_ble_eq_true rfl⟩) ⟨gr_blind, va_recv hK hP (ci := 6) (q0 := 0) rfl rfl, fun U hU hW => gr_pre hP hK hE hU hW⟩ rfl rfl hl.1 rfl (lv_room (Nat.le_of_ble_eq_true rfl)) dZM_countUnder_7 ⟨Nat.le_of_ble_eq_true rfl, Nat.le_of_ble_eq_true rfl⟩).run (fun r_1 hw => ?_)
  refine lv_aload_n hx hb dZM_countUnder_10 rfl (lv_at hl 0 rfl) ?_
  refine lv_iload_n hx hb dZM_countUnder_11 rfl (lv_at hl 3 rfl) ?_
  refine lv_iload_n hx hb dZM_countUnder_12 rfl (lv_at hl 1 rfl) ?_
  refine lv_aload_n hx hb dZM_countUnder_13 rfl (lv_at hl 0 rfl) ?_
  refine va_get (D := (dC, dI)) (ci := 6) (v := .int zh) (C := RZM) (T := TZM) (N := 19) hx hb hts inZM hown hK hP 0 rfl rfl 2 (by decide) (hts _ mm_620) (fun _ h9 => h9) rfl dZM_countUnder_14 ?_
  refine vp_callSi (va_runV (As := [.int a3, .int a1, .int zh]) (rest := [.int r_1]) ⟨hx, hb, hml, hown, hts⟩ (kt_ZM_under l dC dI cI om ozp ozs ozb ozl ozo ozk ozm ozg zt zw zh zp zs zb zz zl zo zc zr zu zv zq zi zk zm zd zg a3 a1 zh _ hw) (cwV 3 hts (tb_V mm_747 mm_749 mp_13 mm_8 mm_750) rfl rfl rfl (by decide +kernel) ⟨Nat.le_of_ble_eq_true rfl, Nat.le_of_ble_eq_true rfl⟩) ⟨gr_blind, va_recv hK hP (ci := 6) (q0 := 0) rfl rfl, fun U hU hW => gr_pre hP hK hE hU hW⟩ rfl rfl hl.1 rfl (lv_room (Nat.le_of_ble_eq_true rfl)) dZM_countUnder_17 ⟨Nat.le_of_ble_eq_true rfl, Nat.le_of_ble_eq_true rfl⟩).run (fun r_2 hw => ?_)
  refine lv_imul hx hb dZM_countUnder_20 ?_
  subst hQ9
  exact W.iret (v := r_1 * r_2) hx hb hr (fun t ht hW => ⟨r_1 * r_2, rfl, hw, ht⟩) (fun q h => nomatch h) dZM_countUnder_21
theorem dZM_sample_0 : decode cZM_sample 0 = .ok (.aload_n 0, 1) := by decide +kernel
theorem dZM_sample_1 : decode cZM_sample 1 = .ok (.iload_n 1, 1) := by decide +kernel
theorem dZM_sample_2 : decode cZM_sample 2 = .ok (.iload_n 2, 1) := by decide +kernel
theorem dZM_sample_3 : decode cZM_sample 3 = .ok (.iload_n 3, 1) := by decide +kernel
theorem dZM_sample_4 : decode cZM_sample 4 = .ok (.invokevirtual 89, 3) := by decide +kernel
theorem dZM_sample_7 : decode cZM_sample 7 = .ok (.istore 4, 2) := by decide +kernel
theorem dZM_sample_9 : decode cZM_sample 9 = .ok (.iconst 2, 1) := by decide +kernel
theorem dZM_sample_10 : decode cZM_sample 10 = .ok (.aload_n 0, 1) := by decide +kernel
theorem dZM_sample_11 : decode cZM_sample 11 = .ok (.iload_n 1, 1) := by decide +kernel
theorem dZM_sample_12 : decode cZM_sample 12 = .ok (.iload_n 2, 1) := by decide +kernel
theorem dZM_sample_13 : decode cZM_sample 13 = .ok (.iload_n 3, 1) := by decide +kernel
theorem dZM_sample_14 : decode cZM_sample 14 = .ok (.invokevirtual 92, 3) := by decide +kernel
theorem dZM_sample_17 : decode cZM_sample 17 = .ok (.imul, 1) := by decide +kernel
theorem dZM_sample_18 : decode cZM_sample 18 = .ok (.iload 4, 2) := by decide +kernel
theorem dZM_sample_20 : decode cZM_sample 20 = .ok (.iadd, 1) := by decide +kernel
theorem dZM_sample_21 : decode cZM_sample 21 = .ok (.iconst 2, 1) := by decide +kernel
theorem dZM_sample_22 : decode cZM_sample 22 = .ok (.iload 4, 2) := by decide +kernel
theorem dZM_sample_24 : decode cZM_sample 24 = .ok (.imul, 1) := by decide +kernel
theorem dZM_sample_25 : decode cZM_sample 25 = .ok (.idiv, 1) := by decide +kernel
theorem dZM_sample_26 : decode cZM_sample 26 = .ok (.ireturn, 1) := by decide +kernel
abbrev wsZM_sample : List Cond := .code yZM_sample cZM_sample 5 (some .int) :: tbg
def wp_ZM_sample (zt : Int32) (zw : Int32) (zh : Int32) (zp : Nat → Int32) (zs : Nat → Int32) (zb : Nat → Int32) (zz : Int32) (zl : Nat → Int32) (zo : Nat → Int32) (zc : Int32) (zr : Int32) (zu : Int32) (zv : Int32) (zq : Int32) (zi : Int32) (zk : Nat → Int32) (zm : Nat → Int32) (zd : Int32) (zg : Nat → Int32) (a1 : Int32) (a2 : Int32) (a3 : Int32) (post : Int32 → Prop) : Prop := wp_ZM_countUnder zt zw zh zp zs zb zz zl zo zc zr zu zv zq zi zk zm zd zg a1 a2 a3 (fun r_1 : Int32 => wp_ZM_sumUnder zt zw zh zp zs zb zz zl zo zc zr zu zv zq zi zk zm zd zg a1 a2 a3 (fun r_2 : Int32 => ¬ ((2 : Int32) * r_1) = 0 ∧ (post ((((2 : Int32) * r_2) + r_1) / ((2 : Int32) * r_1)))))
abbrev rm_ZM_sample : Room := { frames := 2, cells := 0, slots := 0, locals := 52 }
set_option maxHeartbeats 4000000 in
set_option maxRecDepth 100000 in
theorem kt_ZM_sample (l : Launch) (dC : Nat → ClassId) (dI : Nat → Nat → Nat) (cI : ClassId) (om ozp ozs ozb ozl ozo ozk ozm ozg : Nat) (zt : Int32) (zw : Int32) (zh : Int32) (zp : Nat → Int32) (zs : Nat → Int32) (zb : Nat → Int32) (zz : Int32) (zl : Nat → Int32) (zo : Nat → Int32) (zc : Int32) (zr : Int32) (zu : Int32) (zv : Int32) (zq : Int32) (zi : Int32) (zk : Nat → Int32) (zm : Nat → Int32) (zd : Int32) (zg : Nat → Int32) (a1 : Int32) (a2 : Int32) (a3 : Int32) (post : Int32 → Prop) (hw : wp_ZM_sample zt zw zh zp zs zb zz zl zo zc zr zu zv zq zi zk zm zd zg a1 a2 a3 post) : Met l yZM_sample wsZM_sample rm_ZM_sample (gr_Pc dC dI [(cI, .int)] [.ref om, .int a1, .int a2, .int a3] [(om, .inr (6, [.int zt, .int zw, .int zh, .ref ozp, .ref ozs, .ref ozb, .int zz, .ref ozl, .ref ozo, .int zc, .int zr, .int zu, .int zv, .int zq, .int zi, .ref ozk, .ref ozm, .int zd, .ref ozg])), (ozp, .inl (cI, 1600, .inl zp)), (ozs, .inl (cI, 320, .inl zs)), (ozb, .inl (cI, 256, .inl zb)), (ozl, .inl (cI, 64, .inl zl)), (ozo, .inl (cI, 64, .inl zo)), (ozk, .inl (cI, 320, .inl zk)), (ozm, .inl (cI, 40, .inl zm)), (ozg, .inl (cI, 64, .inl zg))]) (vp_Si post) 0 0 (fun _ => False) := by
  refine Met.ofW (cc := cZM_sample) (maxL := 5) (ret := (some .int)) (by decide) rfl ?_
  intro p e s m args below meth c s₁ B hml hv
  obtain ⟨ha9, hP, hK, hE⟩ := hv
  have hx := B.exec
  have hb := B.bytes
  have hr := B.returns
  have hts0 := atoms_spec (ws := wsZM_sample) B.pre
  have hts : ∀ w ∈ tbg, w.before args s = true := fun w h => hts0 w (List.mem_cons_of_mem _ h)
  have hown : s.vm.findClass RZM = some m.cls := findClass_of_methodNamed B.named
  have hlocks := B.notSynchronized
  refine gx_Q (fun Q9 hQ9 => ?_)
  have hl := lv_entry ([.ref om, .int a1, .int a2, .int a3]) (n := 5) (Nat.le_of_ble_eq_true rfl)
  have he9 : entryFrame m args 5 = F0 m 0 ((lg_sl [.ref om, .int a1, .int a2, .int a3] ++ List.replicate (5 - (lg_sl ([.ref om, .int a1, .int a2, .int a3] : List Value)).length) Slot.unset).toArray) [] := by rw [ha9]; exact lg_entry_eq m [.ref om, .int a1, .int a2, .int a3] 5
  rw [he9]
  generalize (lg_sl ([.ref om, .int a1, .int a2, .int a3] : List Value) ++ List.replicate (5 - (lg_sl ([.ref om, .int a1, .int a2, .int a3] : List Value)).length) Slot.unset).toArray = ls at hl ⊢
  have hl : lv_has ls 5 [(0, .ref om), (1, .int a1), (2, .int a2), (3, .int a3)] := hl
  refine lv_aload_n hx hb dZM_sample_0 rfl (lv_at hl 0 rfl) ?_
  refine lv_iload_n hx hb dZM_sample_1 rfl (lv_at hl 1 rfl) ?_
  refine lv_iload_n hx hb dZM_sample_2 rfl (lv_at hl 2 rfl) ?_
  refine lv_iload_n hx hb dZM_sample_3 rfl (lv_at hl 3 rfl) ?_
  refine vp_callSi (va_runV (As := [.int a1, .int a2, .int a3]) (rest := []) ⟨hx, hb, hml, hown, hts⟩ (kt_ZM_countUnder l dC dI cI om ozp ozs ozb ozl ozo ozk ozm ozg zt zw zh zp zs zb zz zl zo zc zr zu zv zq zi zk zm zd zg a1 a2 a3 _ hw) (cwV 3 hts (tb_V mm_743 mm_745 mp_12 mm_8 mm_746) rfl rfl rfl (by decide +kernel) ⟨Nat.le_of_ble_eq_true rfl, Nat.le_of_ble_eq_true rfl⟩) ⟨gr_blind, va_recv hK hP (ci := 6) (q0 := 0) rfl rfl, fun U hU hW => gr_pre hP hK hE hU hW⟩ rfl rfl hl.1 rfl (lv_room (Nat.le_of_ble_eq_true rfl)) dZM_sample_4 ⟨Nat.le_of_ble_eq_true rfl, Nat.le_of_ble_eq_true rfl⟩).run (fun r_1 hw => ?_)
  refine lv_istore (lv' := [(4, .int r_1), (0, .ref om), (1, .int a1), (2, .int a2), (3, .int a3)]) hx hb dZM_sample_7 hl (by decide) rfl (fun ls hl => ?_)
  refine lv_iconst (v := (2 : Int32)) hx hb dZM_sample_9 (by decide) ?_
  refine lv_aload_n hx hb dZM_sample_10 rfl (lv_at hl 1 rfl) ?_
  refine lv_iload_n hx hb dZM_sample_11 rfl (lv_at hl 2 rfl) ?_
  refine lv_iload_n hx hb dZM_sample_12 rfl (lv_at hl 3 rfl) ?_
  refine lv_iload_n hx hb dZM_sample_13 rfl (lv_at hl 4 rfl) ?_
  refine vp_callSi (va_runV (As := [.int a1, .int a2, .int a3]) (rest := [.int (2 : Int32)]) ⟨hx, hb, hml, hown, hts⟩ (kt_ZM_sumUnder l dC dI cI om ozp ozs ozb ozl ozo ozk ozm ozg zt zw zh zp zs zb zz zl zo zc zr zu zv zq zi zk zm zd zg a1 a2 a3 _ hw) (cwV 3 hts (tb_V mm_751 mm_753 mp_14 mm_8 mm_754) rfl rfl rfl (by decide +kernel) ⟨Nat.le_of_ble_eq_true rfl, Nat.le_of_ble_eq_true rfl⟩) ⟨gr_blind, va_recv hK hP (ci := 6) (q0 := 0) rfl rfl, fun U hU hW => gr_pre hP hK hE hU hW⟩ rfl rfl hl.1 rfl (lv_room (Nat.le_of_ble_eq_true rfl)) dZM_sample_14 ⟨Nat.le_of_ble_eq_true rfl, Nat.le_of_ble_eq_true rfl⟩).run (fun r_2 hw => ?_)
  refine lv_imul hx hb dZM_sample_17 ?_
  refine lv_iload hx hb dZM_sample_18 (lv_at hl 0 rfl) ?_
  refine lv_iadd hx hb dZM_sample_20 ?_
  refine lv_iconst (v := (2 : Int32)) hx hb dZM_sample_21 (by decide) ?_
  refine lv_iload hx hb dZM_sample_22 (lv_at hl 0 rfl) ?_
  refine lv_imul hx hb dZM_sample_24 ?_
  obtain ⟨h_3, hw⟩ := hw
  refine lv_idiv hx hb dZM_sample_25 h_3 ?_
  subst hQ9
  exact W.iret (v := (((2 : Int32) * r_2) + r_1) / ((2 : Int32) * r_1)) hx hb hr (fun t ht hW => ⟨(((2 : Int32) * r_2) + r_1) / ((2 : Int32) * r_1), rfl, hw, ht⟩) (fun q h => nomatch h) dZM_sample_26
theorem dZM_isTile_0 : decode cZM_isTile 0 = .ok (.aload_n 0, 1) := by decide +kernel
theorem dZM_isTile_1 : decode cZM_isTile 1 = .ok (.iload_n 1, 1) := by decide +kernel
theorem dZM_isTile_2 : decode cZM_isTile 2 = .ok (.invokevirtual 76, 3) := by decide +kernel
theorem dZM_isTile_5 : decode cZM_isTile 5 = .ok (.ifCond .eq 43, 3) := by decide +kernel
theorem dZM_isTile_8 : decode cZM_isTile 8 = .ok (.iload_n 2, 1) := by decide +kernel
theorem dZM_isTile_9 : decode cZM_isTile 9 = .ok (.iconst 0, 1) := by decide +kernel
theorem dZM_isTile_10 : decode cZM_isTile 10 = .ok (.aload_n 0, 1) := by decide +kernel
theorem dZM_isTile_11 : decode cZM_isTile 11 = .ok (.iload_n 1, 1) := by decide +kernel
theorem dZM_isTile_12 : decode cZM_isTile 12 = .ok (.invokevirtual 79, 3) := by decide +kernel
theorem dZM_isTile_15 : decode cZM_isTile 15 = .ok (.iconst 1, 1) := by decide +kernel
theorem dZM_isTile_16 : decode cZM_isTile 16 = .ok (.isub, 1) := by decide +kernel
theorem dZM_isTile_17 : decode cZM_isTile 17 = .ok (.bipush 8, 2) := by decide +kernel
theorem dZM_isTile_19 : decode cZM_isTile 19 = .ok (.idiv, 1) := by decide +kernel
theorem dZM_isTile_20 : decode cZM_isTile 20 = .ok (.invokestatic 48, 3) := by decide +kernel
theorem dZM_isTile_23 : decode cZM_isTile 23 = .ok (.ifCond .eq 25, 3) := by decide +kernel
theorem dZM_isTile_26 : decode cZM_isTile 26 = .ok (.iload_n 3, 1) := by decide +kernel
theorem dZM_isTile_27 : decode cZM_isTile 27 = .ok (.iconst 0, 1) := by decide +kernel
theorem dZM_isTile_28 : decode cZM_isTile 28 = .ok (.aload_n 0, 1) := by decide +kernel
theorem dZM_isTile_29 : decode cZM_isTile 29 = .ok (.iload_n 1, 1) := by decide +kernel
theorem dZM_isTile_30 : decode cZM_isTile 30 = .ok (.invokevirtual 82, 3) := by decide +kernel
theorem dZM_isTile_33 : decode cZM_isTile 33 = .ok (.iconst 1, 1) := by decide +kernel
theorem dZM_isTile_34 : decode cZM_isTile 34 = .ok (.isub, 1) := by decide +kernel
theorem dZM_isTile_35 : decode cZM_isTile 35 = .ok (.bipush 8, 2) := by decide +kernel
theorem dZM_isTile_37 : decode cZM_isTile 37 = .ok (.idiv, 1) := by decide +kernel
theorem dZM_isTile_38 : decode cZM_isTile 38 = .ok (.invokestatic 48, 3) := by decide +kernel
theorem dZM_isTile_41 : decode cZM_isTile 41 = .ok (.ifCond .eq 7, 3) := by decide +kernel
theorem dZM_isTile_44 : decode cZM_isTile 44 = .ok (.iconst 1, 1) := by decide +kernel
theorem dZM_isTile_45 : decode cZM_isTile 45 = .ok (.goto 4, 3) := by decide +kernel
theorem dZM_isTile_48 : decode cZM_isTile 48 = .ok (.iconst 0, 1) := by decide +kernel
theorem dZM_isTile_49 : decode cZM_isTile 49 = .ok (.ireturn, 1) := by decide +kernel
abbrev wsZM_isTile : List Cond := .code yZM_isTile cZM_isTile 4 (some .boolean) :: tbg
def wp_ZM_isTile (zt : Int32) (zw : Int32) (zh : Int32) (zp : Nat → Int32) (zs : Nat → Int32) (zb : Nat → Int32) (zz : Int32) (zl : Nat → Int32) (zo : Nat → Int32) (zc : Int32) (zr : Int32) (zu : Int32) (zv : Int32) (zq : Int32) (zi : Int32) (zk : Nat → Int32) (zm : Nat → Int32) (zd : Int32) (zg : Nat → Int32) (a1 : Int32) (a2 : Int32) (a3 : Int32) (post : Int32 → Prop) : Prop := wp_ZM_isLevel zt zw zh zp zs zb zz zl zo zc zr zu zv zq zi zk zm zd zg a1 (fun r_1 : Int32 => ((r_1 = (0 : Int32) → (post (0 : Int32))) ∧ (¬ r_1 = (0 : Int32) → (wp_ZM_across zt zw zh zp zs zb zz zl zo zc zr zu zv zq zi zk zm zd zg a1 (fun r_3 : Int32 => wp_ZM_in a2 (0 : Int32) ((r_3 - (1 : Int32)) / (8 : Int32)) (fun r_4 : Int32 => ((r_4 = (0 : Int32) → (post (0 : Int32))) ∧ (¬ r_4 = (0 : Int32) → (wp_ZM_down zt zw zh zp zs zb zz zl zo zc zr zu zv zq zi zk zm zd zg a1 (fun r_6 : Int32 => wp_ZM_in a3 (0 : Int32) ((r_6 - (1 : Int32)) / (8 : Int32)) (fun r_7 : Int32 => ((r_7 = (0 : Int32) → (post (0 : Int32))) ∧ (¬ r_7 = (0 : Int32) → (post (1 : Int32)))))))))))))))
abbrev rm_ZM_isTile : Room := { frames := 3, cells := 0, slots := 0, locals := 65 }
set_option maxHeartbeats 4000000 in
set_option maxRecDepth 100000 in
theorem kt_ZM_isTile (l : Launch) (dC : Nat → ClassId) (dI : Nat → Nat → Nat) (cI : ClassId) (om ozp ozs ozb ozl ozo ozk ozm ozg : Nat) (zt : Int32) (zw : Int32) (zh : Int32) (zp : Nat → Int32) (zs : Nat → Int32) (zb : Nat → Int32) (zz : Int32) (zl : Nat → Int32) (zo : Nat → Int32) (zc : Int32) (zr : Int32) (zu : Int32) (zv : Int32) (zq : Int32) (zi : Int32) (zk : Nat → Int32) (zm : Nat → Int32) (zd : Int32) (zg : Nat → Int32) (a1 : Int32) (a2 : Int32) (a3 : Int32) (post : Int32 → Prop) (hw : wp_ZM_isTile zt zw zh zp zs zb zz zl zo zc zr zu zv zq zi zk zm zd zg a1 a2 a3 post) : Met l yZM_isTile wsZM_isTile rm_ZM_isTile (gr_Pc dC dI [(cI, .int)] [.ref om, .int a1, .int a2, .int a3] [(om, .inr (6, [.int zt, .int zw, .int zh, .ref ozp, .ref ozs, .ref ozb, .int zz, .ref ozl, .ref ozo, .int zc, .int zr, .int zu, .int zv, .int zq, .int zi, .ref ozk, .ref ozm, .int zd, .ref ozg])), (ozp, .inl (cI, 1600, .inl zp)), (ozs, .inl (cI, 320, .inl zs)), (ozb, .inl (cI, 256, .inl zb)), (ozl, .inl (cI, 64, .inl zl)), (ozo, .inl (cI, 64, .inl zo)), (ozk, .inl (cI, 320, .inl zk)), (ozm, .inl (cI, 40, .inl zm)), (ozg, .inl (cI, 64, .inl zg))]) (vp_Si post) 0 0 (fun _ => False) := by
  refine Met.ofW (cc := cZM_isTile) (maxL := 4) (ret := (some .boolean)) (by decide) rfl ?_
  intro p e s m args below meth c s₁ B hml hv
  obtain ⟨ha9, hP, hK, hE⟩ := hv
  have hx := B.exec
  have hb := B.bytes
  have hr := B.returns
  have hts0 := atoms_spec (ws := wsZM_isTile) B.pre
  have hts : ∀ w ∈ tbg, w.before args s = true := fun w h => hts0 w (List.mem_cons_of_mem _ h)
  have hown : s.vm.findClass RZM = some m.cls := findClass_of_methodNamed B.named
  have hlocks := B.notSynchronized
  refine gx_Q (fun Q9 hQ9 => ?_)
  have hl := lv_entry ([.ref om, .int a1, .int a2, .int a3]) (n := 4) (Nat.le_of_ble_eq_true rfl)
  have he9 : entryFrame m args 4 = F0 m 0 ((lg_sl [.ref om, .int a1, .int a2, .int a3] ++ List.replicate (4 - (lg_sl ([.ref om, .int a1, .int a2, .int a3] : List Value)).length) Slot.unset).toArray) [] := by rw [ha9]; exact lg_entry_eq m [.ref om, .int a1, .int a2, .int a3] 4
  rw [he9]
  generalize (lg_sl ([.ref om, .int a1, .int a2, .int a3] : List Value) ++ List.replicate (4 - (lg_sl ([.ref om, .int a1, .int a2, .int a3] : List Value)).length) Slot.unset).toArray = ls at hl ⊢
  have hl : lv_has ls 4 [(0, .ref om), (1, .int a1), (2, .int a2), (3, .int a3)] := hl
  refine lv_aload_n hx hb dZM_isTile_0 rfl (lv_at hl 0 rfl) ?_
  refine lv_iload_n hx hb dZM_isTile_1 rfl (lv_at hl 1 rfl) ?_
  refine vp_callSi (va_runV (As := [.int a1]) (rest := []) ⟨hx, hb, hml, hown, hts⟩ (kt_ZM_isLevel l dC dI cI om ozp ozs ozb ozl ozo ozk ozm ozg zt zw zh zp zs zb zz zl zo zc zr zu zv zq zi zk zm zd zg a1 _ hw) (cwV 1 hts (tb_V mm_719 mm_721 mp_7 mm_8 mm_722) rfl rfl rfl (by decide +kernel) ⟨Nat.le_of_ble_eq_true rfl, Nat.le_of_ble_eq_true rfl⟩) ⟨gr_blind, va_recv hK hP (ci := 6) (q0 := 0) rfl rfl, fun U hU hW => gr_pre hP hK hE hU hW⟩ rfl rfl hl.1 rfl (lv_room (Nat.le_of_ble_eq_true rfl)) dZM_isTile_2 ⟨Nat.le_of_ble_eq_true rfl, Nat.le_of_ble_eq_true rfl⟩).run (fun r_1 hw => ?_)
  refine lv_if_eq (tgt := 48) hx hb dZM_isTile_5 (by decide) (fun c_2 => ?_) (fun c_2 => ?_)
  · have hw := hw.1 c_2
    refine lv_iconst (v := (0 : Int32)) hx hb dZM_isTile_48 (by decide) ?_
    subst hQ9
    exact W.zret (v := (0 : Int32)) (ty := .boolean) hx hb hr rfl (fun t ht hW => ⟨(0 : Int32), rfl, hw, ht⟩) (fun q h => nomatch h) dZM_isTile_49
  · have hw := hw.2 c_2
    refine lv_iload_n hx hb dZM_isTile_8 rfl (lv_at hl 2 rfl) ?_
    refine lv_iconst (v := (0 : Int32)) hx hb dZM_isTile_9 (by decide) ?_
    refine lv_aload_n hx hb dZM_isTile_10 rfl (lv_at hl 0 rfl) ?_
    refine lv_iload_n hx hb dZM_isTile_11 rfl (lv_at hl 1 rfl) ?_
    refine vp_callSi (va_runV (As := [.int a1]) (rest := [.int (0 : Int32), .int a2]) ⟨hx, hb, hml, hown, hts⟩ (kt_ZM_across l dC dI cI om ozp ozs ozb ozl ozo ozk ozm ozg zt zw zh zp zs zb zz zl zo zc zr zu zv zq zi zk zm zd zg a1 _ hw) (cwV 1 hts (tb_V mm_723 mm_725 mp_8 mm_8 mm_726) rfl rfl rfl (by decide +kernel) ⟨Nat.le_of_ble_eq_true rfl, Nat.le_of_ble_eq_true rfl⟩) ⟨gr_blind, va_recv hK hP (ci := 6) (q0 := 0) rfl rfl, fun U hU hW => gr_pre hP hK hE hU hW⟩ rfl rfl hl.1 rfl (lv_room (Nat.le_of_ble_eq_true rfl)) dZM_isTile_12 ⟨Nat.le_of_ble_eq_true rfl, Nat.le_of_ble_eq_true rfl⟩).run (fun r_3 hw => ?_)
    refine lv_iconst (v := (1 : Int32)) hx hb dZM_isTile_15 (by decide) ?_
    refine lv_isub hx hb dZM_isTile_16 ?_
    refine lv_bipush (v := (8 : Int32)) hx hb dZM_isTile_17 (by decide) ?_
    refine lv_idiv hx hb dZM_isTile_19 (by decide) ?_
    have hPc := hP.sub (ws' := []) [] rfl
    refine vp_callSi (va_runS (As := [.int a2, .int (0 : Int32), .int ((r_3 - (1 : Int32)) / (8 : Int32))]) (rest := []) ⟨hx, hb, hml, hown, hts⟩ (kt_ZM_in l dC dI cI  a2 (0 : Int32) ((r_3 - (1 : Int32)) / (8 : Int32)) _ hw) (va_cwS 3 hts (tb_S mm_687 mm_688 mm_8 mm_689) rfl rfl rfl (by decide +kernel) ⟨Nat.le_of_ble_eq_true rfl, Nat.le_of_ble_eq_true rfl⟩) ⟨gr_blind, fun U hU hW => gr_pre hPc hK hE hU hW⟩ rfl rfl hl.1 rfl (lv_room (Nat.le_of_ble_eq_true rfl)) dZM_isTile_20 ⟨Nat.le_of_ble_eq_true rfl, Nat.le_of_ble_eq_true rfl⟩).run (fun r_4 hw => ?_)
    refine lv_if_eq (tgt := 48) hx hb dZM_isTile_23 (by decide) (fun c_5 => ?_) (fun c_5 => ?_)
    · have hw := hw.1 c_5
      refine lv_iconst (v := (0 : Int32)) hx hb dZM_isTile_48 (by decide) ?_
      subst hQ9
      exact W.zret (v := (0 : Int32)) (ty := .boolean) hx hb hr rfl (fun t ht hW => ⟨(0 : Int32), rfl, hw, ht⟩) (fun q h => nomatch h) dZM_isTile_49
    · have hw := hw.2 c_5
      refine lv_iload_n hx hb dZM_isTile_26 rfl (lv_at hl 3 rfl) ?_
      refine lv_iconst (v := (0 : Int32)) hx hb dZM_isTile_27 (by decide) ?_
      refine lv_aload_n hx hb dZM_isTile_28 rfl (lv_at hl 0 rfl) ?_
      refine lv_iload_n hx hb dZM_isTile_29 rfl (lv_at hl 1 rfl) ?_
      refine vp_callSi (va_runV (As := [.int a1]) (rest := [.int (0 : Int32), .int a3]) ⟨hx, hb, hml, hown, hts⟩ (kt_ZM_down l dC dI cI om ozp ozs ozb ozl ozo ozk ozm ozg zt zw zh zp zs zb zz zl zo zc zr zu zv zq zi zk zm zd zg a1 _ hw) (cwV 1 hts (tb_V mm_727 mm_729 mp_9 mm_8 mm_730) rfl rfl rfl (by decide +kernel) ⟨Nat.le_of_ble_eq_true rfl, Nat.le_of_ble_eq_true rfl⟩) ⟨gr_blind, va_recv hK hP (ci := 6) (q0 := 0) rfl rfl, fun U hU hW => gr_pre hP hK hE hU hW⟩ rfl rfl hl.1 rfl (lv_room (Nat.le_of_ble_eq_true rfl)) dZM_isTile_30 ⟨Nat.le_of_ble_eq_true rfl, Nat.le_of_ble_eq_true rfl⟩).run (fun r_6 hw => ?_)
      refine lv_iconst (v := (1 : Int32)) hx hb dZM_isTile_33 (by decide) ?_
      refine lv_isub hx hb dZM_isTile_34 ?_
      refine lv_bipush (v := (8 : Int32)) hx hb dZM_isTile_35 (by decide) ?_
      refine lv_idiv hx hb dZM_isTile_37 (by decide) ?_
      have hPc := hP.sub (ws' := []) [] rfl
      refine vp_callSi (va_runS (As := [.int a3, .int (0 : Int32), .int ((r_6 - (1 : Int32)) / (8 : Int32))]) (rest := []) ⟨hx, hb, hml, hown, hts⟩ (kt_ZM_in l dC dI cI  a3 (0 : Int32) ((r_6 - (1 : Int32)) / (8 : Int32)) _ hw) (va_cwS 3 hts (tb_S mm_687 mm_688 mm_8 mm_689) rfl rfl rfl (by decide +kernel) ⟨Nat.le_of_ble_eq_true rfl, Nat.le_of_ble_eq_true rfl⟩) ⟨gr_blind, fun U hU hW => gr_pre hPc hK hE hU hW⟩ rfl rfl hl.1 rfl (lv_room (Nat.le_of_ble_eq_true rfl)) dZM_isTile_38 ⟨Nat.le_of_ble_eq_true rfl, Nat.le_of_ble_eq_true rfl⟩).run (fun r_7 hw => ?_)
      refine lv_if_eq (tgt := 48) hx hb dZM_isTile_41 (by decide) (fun c_8 => ?_) (fun c_8 => ?_)
      · have hw := hw.1 c_8
        refine lv_iconst (v := (0 : Int32)) hx hb dZM_isTile_48 (by decide) ?_
        subst hQ9
        exact W.zret (v := (0 : Int32)) (ty := .boolean) hx hb hr rfl (fun t ht hW => ⟨(0 : Int32), rfl, hw, ht⟩) (fun q h => nomatch h) dZM_isTile_49
      · have hw := hw.2 c_8
        refine lv_iconst (v := (1 : Int32)) hx hb dZM_isTile_44 (by decide) ?_
        refine lv_goto (tgt := 49) hx hb dZM_isTile_45 (by decide) ?_
        subst hQ9
        exact W.zret (v := (1 : Int32)) (ty := .boolean) hx hb hr rfl (fun t ht hW => ⟨(1 : Int32), rfl, hw, ht⟩) (fun q h => nomatch h) dZM_isTile_49
theorem dZM_sum_0 : decode cZM_sum 0 = .ok (.iconst 0, 1) := by decide +kernel
theorem dZM_sum_1 : decode cZM_sum 1 = .ok (.istore_n 2, 1) := by decide +kernel
theorem dZM_sum_2 : decode cZM_sum 2 = .ok (.iconst 0, 1) := by decide +kernel
theorem dZM_sum_3 : decode cZM_sum 3 = .ok (.istore_n 3, 1) := by decide +kernel
theorem dZM_sum_4 : decode cZM_sum 4 = .ok (.iload_n 3, 1) := by decide +kernel
theorem dZM_sum_5 : decode cZM_sum 5 = .ok (.iload_n 1, 1) := by decide +kernel
theorem dZM_sum_6 : decode cZM_sum 6 = .ok (.if_icmp .ge 27, 3) := by decide +kernel
theorem dZM_sum_9 : decode cZM_sum 9 = .ok (.sipush 257, 3) := by decide +kernel
theorem dZM_sum_12 : decode cZM_sum 12 = .ok (.iload_n 2, 1) := by decide +kernel
theorem dZM_sum_13 : decode cZM_sum 13 = .ok (.imul, 1) := by decide +kernel
theorem dZM_sum_14 : decode cZM_sum 14 = .ok (.aload_n 0, 1) := by decide +kernel
theorem dZM_sum_15 : decode cZM_sum 15 = .ok (.getfield 16, 3) := by decide +kernel
theorem dZM_sum_18 : decode cZM_sum 18 = .ok (.iload_n 3, 1) := by decide +kernel
theorem dZM_sum_19 : decode cZM_sum 19 = .ok (.iaload, 1) := by decide +kernel
theorem dZM_sum_20 : decode cZM_sum 20 = .ok (.iadd, 1) := by decide +kernel
theorem dZM_sum_21 : decode cZM_sum 21 = .ok (.iconst 1, 1) := by decide +kernel
theorem dZM_sum_22 : decode cZM_sum 22 = .ok (.iadd, 1) := by decide +kernel
theorem dZM_sum_23 : decode cZM_sum 23 = .ok (.ldc 104, 2) := by decide +kernel
theorem dZM_sum_25 : decode cZM_sum 25 = .ok (.irem, 1) := by decide +kernel
theorem dZM_sum_26 : decode cZM_sum 26 = .ok (.istore_n 2, 1) := by decide +kernel
theorem dZM_sum_27 : decode cZM_sum 27 = .ok (.iinc 3 1, 3) := by decide +kernel
theorem dZM_sum_30 : decode cZM_sum 30 = .ok (.goto (-26), 3) := by decide +kernel
theorem dZM_sum_33 : decode cZM_sum 33 = .ok (.iload_n 2, 1) := by decide +kernel
theorem dZM_sum_34 : decode cZM_sum 34 = .ok (.ireturn, 1) := by decide +kernel
abbrev wsZM_sum : List Cond := .code yZM_sum cZM_sum 4 (some .int) :: tbg
def lp_ZM_sum_4 (zt : Int32) (zw : Int32) (zh : Int32) (zp : Nat → Int32) (zs : Nat → Int32) (zb : Nat → Int32) (zz : Int32) (zl : Nat → Int32) (zo : Nat → Int32) (zc : Int32) (zr : Int32) (zu : Int32) (zv : Int32) (zq : Int32) (zi : Int32) (zk : Nat → Int32) (zm : Nat → Int32) (zd : Int32) (zg : Nat → Int32) (a1 : Int32) (post : Int32 → Prop) (K4 : Int32 → Int32 → Prop) (n : Nat) : Int32 → Int32 → Prop := Nat.rec (motive := fun _ => Int32 → Int32 → Prop) (fun (x2_4 : Int32) (x3_4 : Int32) => False) (fun _ ih4 (x2_4 : Int32) (x3_4 : Int32) => ((a1 ≤ x3_4 → (K4 x2_4 x3_4)) ∧ (¬ a1 ≤ x3_4 → (vp_in x3_4 256 ∧ (ih4 (((((257 : Int32) * x2_4) + (zb x3_4.toNatClampNeg)) + (1 : Int32)) - ((((257 : Int32) * x2_4) + (zb x3_4.toNatClampNeg)) + (1 : Int32)) / (65521 : Int32) * (65521 : Int32)) (x3_4 + (1 : Int32))))))) n
def wp_ZM_sum (zt : Int32) (zw : Int32) (zh : Int32) (zp : Nat → Int32) (zs : Nat → Int32) (zb : Nat → Int32) (zz : Int32) (zl : Nat → Int32) (zo : Nat → Int32) (zc : Int32) (zr : Int32) (zu : Int32) (zv : Int32) (zq : Int32) (zi : Int32) (zk : Nat → Int32) (zm : Nat → Int32) (zd : Int32) (zg : Nat → Int32) (a1 : Int32) (post : Int32 → Prop) : Prop := ∃ n : Nat, lp_ZM_sum_4 zt zw zh zp zs zb zz zl zo zc zr zu zv zq zi zk zm zd zg a1 post (fun (x2_4e : Int32) (x3_4e : Int32) => post x2_4e) n (0 : Int32) (0 : Int32)
abbrev rm_ZM_sum : Room := { frames := 0, cells := 0, slots := 0, locals := 0 }
set_option maxHeartbeats 4000000 in
set_option maxRecDepth 100000 in
theorem kt_ZM_sum (l : Launch) (dC : Nat → ClassId) (dI : Nat → Nat → Nat) (cI : ClassId) (om ozp ozs ozb ozl ozo ozk ozm ozg : Nat) (zt : Int32) (zw : Int32) (zh : Int32) (zp : Nat → Int32) (zs : Nat → Int32) (zb : Nat → Int32) (zz : Int32) (zl : Nat → Int32) (zo : Nat → Int32) (zc : Int32) (zr : Int32) (zu : Int32) (zv : Int32) (zq : Int32) (zi : Int32) (zk : Nat → Int32) (zm : Nat → Int32) (zd : Int32) (zg : Nat → Int32) (a1 : Int32) (post : Int32 → Prop) (hw : wp_ZM_sum zt zw zh zp zs zb zz zl zo zc zr zu zv zq zi zk zm zd zg a1 post) : Met l yZM_sum wsZM_sum rm_ZM_sum (gr_Pc dC dI [(cI, .int)] [.ref om, .int a1] [(om, .inr (6, [.int zt, .int zw, .int zh, .ref ozp, .ref ozs, .ref ozb, .int zz, .ref ozl, .ref ozo, .int zc, .int zr, .int zu, .int zv, .int zq, .int zi, .ref ozk, .ref ozm, .int zd, .ref ozg])), (ozp, .inl (cI, 1600, .inl zp)), (ozs, .inl (cI, 320, .inl zs)), (ozb, .inl (cI, 256, .inl zb)), (ozl, .inl (cI, 64, .inl zl)), (ozo, .inl (cI, 64, .inl zo)), (ozk, .inl (cI, 320, .inl zk)), (ozm, .inl (cI, 40, .inl zm)), (ozg, .inl (cI, 64, .inl zg))]) (vp_Si post) 0 0 (fun _ => False) := by
  refine Met.ofW (cc := cZM_sum) (maxL := 4) (ret := (some .int)) (by decide) rfl ?_
  intro p e s m args below meth c s₁ B hml hv
  obtain ⟨ha9, hP, hK, hE⟩ := hv
  have hx := B.exec
  have hb := B.bytes
  have hr := B.returns
  have hts0 := atoms_spec (ws := wsZM_sum) B.pre
  have hts : ∀ w ∈ tbg, w.before args s = true := fun w h => hts0 w (List.mem_cons_of_mem _ h)
  have hown : s.vm.findClass RZM = some m.cls := findClass_of_methodNamed B.named
  have hlocks := B.notSynchronized
  refine gx_Q (fun Q9 hQ9 => ?_)
  have hl := lv_entry ([.ref om, .int a1]) (n := 4) (Nat.le_of_ble_eq_true rfl)
  have he9 : entryFrame m args 4 = F0 m 0 ((lg_sl [.ref om, .int a1] ++ List.replicate (4 - (lg_sl ([.ref om, .int a1] : List Value)).length) Slot.unset).toArray) [] := by rw [ha9]; exact lg_entry_eq m [.ref om, .int a1] 4
  rw [he9]
  generalize (lg_sl ([.ref om, .int a1] : List Value) ++ List.replicate (4 - (lg_sl ([.ref om, .int a1] : List Value)).length) Slot.unset).toArray = ls at hl ⊢
  have hl : lv_has ls 4 [(0, .ref om), (1, .int a1)] := hl
  refine lv_iconst (v := (0 : Int32)) hx hb dZM_sum_0 (by decide) ?_
  refine lv_istore_n (lv' := [(2, .int (0 : Int32)), (0, .ref om), (1, .int a1)]) hx hb dZM_sum_1 rfl hl (by decide) rfl (fun ls hl => ?_)
  refine lv_iconst (v := (0 : Int32)) hx hb dZM_sum_2 (by decide) ?_
  refine lv_istore_n (lv' := [(3, .int (0 : Int32)), (2, .int (0 : Int32)), (0, .ref om), (1, .int a1)]) hx hb dZM_sum_3 rfl hl (by decide) rfl (fun ls hl => ?_)
  have lp4 : ∀ K4 : Int32 → Int32 → Prop, (∀ (x2_4 : Int32) (x3_4 : Int32), K4 x2_4 x3_4 → ∀ ls : Array Slot, lv_has ls 4 [(3, .int x3_4), (2, .int x2_4), (0, .ref om), (1, .int a1)] → W p l e (headSpec wsZM_sum rm_ZM_sum).room s m args below meth c s.heap [] 0 0 Q9 (F0 m 33 ls [])) → ∀ (n : Nat) (x2_4 : Int32) (x3_4 : Int32), lp_ZM_sum_4 zt zw zh zp zs zb zz zl zo zc zr zu zv zq zi zk zm zd zg a1 post K4 n x2_4 x3_4 → ∀ ls : Array Slot, lv_has ls 4 [(3, .int x3_4), (2, .int x2_4), (0, .ref om), (1, .int a1)] → W p l e (headSpec wsZM_sum rm_ZM_sum).room s m args below meth c s.heap [] 0 0 Q9 (F0 m 4 ls []) := by
    intro K4 aft4 n
    induction n with
    | zero => intro x2_4 x3_4 hw; exact False.elim hw
    | succ n ih4 =>
      intro x2_4 x3_4 hw ls hl
      refine lv_iload_n hx hb dZM_sum_4 rfl (lv_at hl 0 rfl) ?_
      refine lv_iload_n hx hb dZM_sum_5 rfl (lv_at hl 3 rfl) ?_
      refine lv_icmp_ge (tgt := 33) hx hb dZM_sum_6 (by decide) (fun c_1 => ?_) (fun c_1 => ?_)
      · have hw := hw.1 c_1
        exact aft4 x2_4 x3_4 hw ls (lv_sub hl [0, 1, 2, 3] rfl)
      · have hw := hw.2 c_1
        refine lv_sipush (v := (257 : Int32)) hx hb dZM_sum_9 (by decide) ?_
        refine lv_iload_n hx hb dZM_sum_12 rfl (lv_at hl 1 rfl) ?_
        refine lv_imul hx hb dZM_sum_13 ?_
        refine lv_aload_n hx hb dZM_sum_14 rfl (lv_at hl 2 rfl) ?_
        refine va_get (D := (dC, dI)) (ci := 6) (v := .ref ozb) (C := RZM) (T := TZM) (N := 19) hx hb hts inZM hown hK hP 0 rfl rfl 5 (by decide) (hts _ mm_623) (fun _ h9 => h9) rfl dZM_sum_15 ?_
        refine lv_iload_n hx hb dZM_sum_18 rfl (lv_at hl 0 rfl) ?_
        obtain ⟨h_2, hw⟩ := hw
        refine va_iald hx hb hK hP 3 0 rfl rfl h_2 dZM_sum_19 ?_
        refine lv_iadd hx hb dZM_sum_20 ?_
        refine lv_iconst (v := (1 : Int32)) hx hb dZM_sum_21 (by decide) ?_
        refine lv_iadd hx hb dZM_sum_22 ?_
        refine lv_ldc hx hb hown (hts _ mm_799) dZM_sum_23 ?_
        refine lv_irem hx hb dZM_sum_25 (by decide) ?_
        refine lv_istore_n (lv' := [(2, .int (((((257 : Int32) * x2_4) + (zb x3_4.toNatClampNeg)) + (1 : Int32)) - ((((257 : Int32) * x2_4) + (zb x3_4.toNatClampNeg)) + (1 : Int32)) / (65521 : Int32) * (65521 : Int32))), (3, .int x3_4), (0, .ref om), (1, .int a1)]) hx hb dZM_sum_26 rfl hl (by decide) rfl (fun ls hl => ?_)
        refine lv_iinc (v := x3_4 + (1 : Int32)) (lv' := [(3, .int (x3_4 + (1 : Int32))), (2, .int (((((257 : Int32) * x2_4) + (zb x3_4.toNatClampNeg)) + (1 : Int32)) - ((((257 : Int32) * x2_4) + (zb x3_4.toNatClampNeg)) + (1 : Int32)) / (65521 : Int32) * (65521 : Int32))), (0, .ref om), (1, .int a1)]) hx hb dZM_sum_27 hl (k := 1) rfl rfl (by decide) rfl (fun ls hl => ?_)
        refine lv_goto (tgt := 4) hx hb dZM_sum_30 (by decide) ?_
        exact ih4 (((((257 : Int32) * x2_4) + (zb x3_4.toNatClampNeg)) + (1 : Int32)) - ((((257 : Int32) * x2_4) + (zb x3_4.toNatClampNeg)) + (1 : Int32)) / (65521 : Int32) * (65521 : Int32)) (x3_4 + (1 : Int32)) hw ls (lv_sub hl [0, 1, 2, 3] rfl)
  obtain ⟨n4, hw⟩ := hw
  refine lp4 _ (fun x2_4e x3_4e hw ls hl => ?_) n4 (0 : Int32) (0 : Int32) hw ls (lv_sub hl [0, 1, 2, 3] rfl)
  refine lv_iload_n hx hb dZM_sum_33 rfl (lv_at hl 1 rfl) ?_
  subst hQ9
  exact W.iret (v := x2_4e) hx hb hr (fun t ht hW => ⟨x2_4e, rfl, hw, ht⟩) (fun q h => nomatch h) dZM_sum_34
theorem dZM_hasByte_0 : decode cZM_hasByte 0 = .ok (.iload_n 1, 1) := by decide +kernel
theorem dZM_hasByte_1 : decode cZM_hasByte 1 = .ok (.iconst 0, 1) := by decide +kernel
theorem dZM_hasByte_2 : decode cZM_hasByte 2 = .ok (.aload_n 0, 1) := by decide +kernel
theorem dZM_hasByte_3 : decode cZM_hasByte 3 = .ok (.getfield 101, 3) := by decide +kernel
theorem dZM_hasByte_6 : decode cZM_hasByte 6 = .ok (.iconst 1, 1) := by decide +kernel
theorem dZM_hasByte_7 : decode cZM_hasByte 7 = .ok (.isub, 1) := by decide +kernel
theorem dZM_hasByte_8 : decode cZM_hasByte 8 = .ok (.invokestatic 48, 3) := by decide +kernel
theorem dZM_hasByte_11 : decode cZM_hasByte 11 = .ok (.ireturn, 1) := by decide +kernel
abbrev wsZM_hasByte : List Cond := .code yZM_hasByte cZM_hasByte 2 (some .boolean) :: tbg
def wp_ZM_hasByte (zt : Int32) (zw : Int32) (zh : Int32) (zp : Nat → Int32) (zs : Nat → Int32) (zb : Nat → Int32) (zz : Int32) (zl : Nat → Int32) (zo : Nat → Int32) (zc : Int32) (zr : Int32) (zu : Int32) (zv : Int32) (zq : Int32) (zi : Int32) (zk : Nat → Int32) (zm : Nat → Int32) (zd : Int32) (zg : Nat → Int32) (a1 : Int32) (post : Int32 → Prop) : Prop := wp_ZM_in a1 (0 : Int32) (zz - (1 : Int32)) (fun r_1 : Int32 => narrow .boolean (.int r_1) = .int r_1 ∧ (post r_1))
abbrev rm_ZM_hasByte : Room := { frames := 1, cells := 0, slots := 0, locals := 22 }
set_option maxHeartbeats 4000000 in
set_option maxRecDepth 100000 in
theorem kt_ZM_hasByte (l : Launch) (dC : Nat → ClassId) (dI : Nat → Nat → Nat) (cI : ClassId) (om ozp ozs ozb ozl ozo ozk ozm ozg : Nat) (zt : Int32) (zw : Int32) (zh : Int32) (zp : Nat → Int32) (zs : Nat → Int32) (zb : Nat → Int32) (zz : Int32) (zl : Nat → Int32) (zo : Nat → Int32) (zc : Int32) (zr : Int32) (zu : Int32) (zv : Int32) (zq : Int32) (zi : Int32) (zk : Nat → Int32) (zm : Nat → Int32) (zd : Int32) (zg : Nat → Int32) (a1 : Int32) (post : Int32 → Prop) (hw : wp_ZM_hasByte zt zw zh zp zs zb zz zl zo zc zr zu zv zq zi zk zm zd zg a1 post) : Met l yZM_hasByte wsZM_hasByte rm_ZM_hasByte (gr_Pc dC dI [(cI, .int)] [.ref om, .int a1] [(om, .inr (6, [.int zt, .int zw, .int zh, .ref ozp, .ref ozs, .ref ozb, .int zz, .ref ozl, .ref ozo, .int zc, .int zr, .int zu, .int zv, .int zq, .int zi, .ref ozk, .ref ozm, .int zd, .ref ozg])), (ozp, .inl (cI, 1600, .inl zp)), (ozs, .inl (cI, 320, .inl zs)), (ozb, .inl (cI, 256, .inl zb)), (ozl, .inl (cI, 64, .inl zl)), (ozo, .inl (cI, 64, .inl zo)), (ozk, .inl (cI, 320, .inl zk)), (ozm, .inl (cI, 40, .inl zm)), (ozg, .inl (cI, 64, .inl zg))]) (vp_Si post) 0 0 (fun _ => False) := by
  refine Met.ofW (cc := cZM_hasByte) (maxL := 2) (ret := (some .boolean)) (by decide) rfl ?_
  intro p e s m args below meth c s₁ B hml hv
  obtain ⟨ha9, hP, hK, hE⟩ := hv
  have hx := B.exec
  have hb := B.bytes
  have hr := B.returns
  have hts0 := atoms_spec (ws := wsZM_hasByte) B.pre
  have hts : ∀ w ∈ tbg, w.before args s = true := fun w h => hts0 w (List.mem_cons_of_mem _ h)
  have hown : s.vm.findClass RZM = some m.cls := findClass_of_methodNamed B.named
  have hlocks := B.notSynchronized
  refine gx_Q (fun Q9 hQ9 => ?_)
  have hl := lv_entry ([.ref om, .int a1]) (n := 2) (Nat.le_of_ble_eq_true rfl)
  have he9 : entryFrame m args 2 = F0 m 0 ((lg_sl [.ref om, .int a1] ++ List.replicate (2 - (lg_sl ([.ref om, .int a1] : List Value)).length) Slot.unset).toArray) [] := by rw [ha9]; exact lg_entry_eq m [.ref om, .int a1] 2
  rw [he9]
  generalize (lg_sl ([.ref om, .int a1] : List Value) ++ List.replicate (2 - (lg_sl ([.ref om, .int a1] : List Value)).length) Slot.unset).toArray = ls at hl ⊢
  have hl : lv_has ls 2 [(0, .ref om), (1, .int a1)] := hl
  refine lv_iload_n hx hb dZM_hasByte_0 rfl (lv_at hl 1 rfl) ?_
  refine lv_iconst (v := (0 : Int32)) hx hb dZM_hasByte_1 (by decide) ?_
  refine lv_aload_n hx hb dZM_hasByte_2 rfl (lv_at hl 0 rfl) ?_
  refine va_get (D := (dC, dI)) (ci := 6) (v := .int zz) (C := RZM) (T := TZM) (N := 19) hx hb hts inZM hown hK hP 0 rfl rfl 6 (by decide) (hts _ mm_624) (fun _ h9 => h9) rfl dZM_hasByte_3 ?_
  refine lv_iconst (v := (1 : Int32)) hx hb dZM_hasByte_6 (by decide) ?_
  refine lv_isub hx hb dZM_hasByte_7 ?_
  have hPc := hP.sub (ws' := []) [] rfl
  refine vp_callSi (va_runS (As := [.int a1, .int (0 : Int32), .int (zz - (1 : Int32))]) (rest := []) ⟨hx, hb, hml, hown, hts⟩ (kt_ZM_in l dC dI cI  a1 (0 : Int32) (zz - (1 : Int32)) _ hw) (va_cwS 3 hts (tb_S mm_687 mm_688 mm_8 mm_689) rfl rfl rfl (by decide +kernel) ⟨Nat.le_of_ble_eq_true rfl, Nat.le_of_ble_eq_true rfl⟩) ⟨gr_blind, fun U hU hW => gr_pre hPc hK hE hU hW⟩ rfl rfl hl.1 rfl (lv_room (Nat.le_of_ble_eq_true rfl)) dZM_hasByte_8 ⟨Nat.le_of_ble_eq_true rfl, Nat.le_of_ble_eq_true rfl⟩).run (fun r_1 hw => ?_)
  obtain ⟨h_2, hw⟩ := hw
  subst hQ9
  exact W.zret (v := r_1) (ty := .boolean) hx hb hr h_2 (fun t ht hW => ⟨r_1, rfl, hw, ht⟩) (fun q h => nomatch h) dZM_hasByte_11
theorem dZM_bitAt_0 : decode cZM_bitAt 0 = .ok (.aload_n 0, 1) := by decide +kernel
theorem dZM_bitAt_1 : decode cZM_bitAt 1 = .ok (.getfield 16, 3) := by decide +kernel
theorem dZM_bitAt_4 : decode cZM_bitAt 4 = .ok (.aload_n 0, 1) := by decide +kernel
theorem dZM_bitAt_5 : decode cZM_bitAt 5 = .ok (.getfield 135, 3) := by decide +kernel
theorem dZM_bitAt_8 : decode cZM_bitAt 8 = .ok (.iload_n 1, 1) := by decide +kernel
theorem dZM_bitAt_9 : decode cZM_bitAt 9 = .ok (.bipush 8, 2) := by decide +kernel
theorem dZM_bitAt_11 : decode cZM_bitAt 11 = .ok (.idiv, 1) := by decide +kernel
theorem dZM_bitAt_12 : decode cZM_bitAt 12 = .ok (.iadd, 1) := by decide +kernel
theorem dZM_bitAt_13 : decode cZM_bitAt 13 = .ok (.iaload, 1) := by decide +kernel
theorem dZM_bitAt_14 : decode cZM_bitAt 14 = .ok (.iload_n 1, 1) := by decide +kernel
theorem dZM_bitAt_15 : decode cZM_bitAt 15 = .ok (.bipush 8, 2) := by decide +kernel
theorem dZM_bitAt_17 : decode cZM_bitAt 17 = .ok (.irem, 1) := by decide +kernel
theorem dZM_bitAt_18 : decode cZM_bitAt 18 = .ok (.ishr, 1) := by decide +kernel
theorem dZM_bitAt_19 : decode cZM_bitAt 19 = .ok (.iconst 1, 1) := by decide +kernel
theorem dZM_bitAt_20 : decode cZM_bitAt 20 = .ok (.iand, 1) := by decide +kernel
theorem dZM_bitAt_21 : decode cZM_bitAt 21 = .ok (.ireturn, 1) := by decide +kernel
abbrev wsZM_bitAt : List Cond := .code yZM_bitAt cZM_bitAt 2 (some .int) :: tbg
def wp_ZM_bitAt (zt : Int32) (zw : Int32) (zh : Int32) (zp : Nat → Int32) (zs : Nat → Int32) (zb : Nat → Int32) (zz : Int32) (zl : Nat → Int32) (zo : Nat → Int32) (zc : Int32) (zr : Int32) (zu : Int32) (zv : Int32) (zq : Int32) (zi : Int32) (zk : Nat → Int32) (zm : Nat → Int32) (zd : Int32) (zg : Nat → Int32) (a1 : Int32) (post : Int32 → Prop) : Prop := vp_in (zq + (a1 / (8 : Int32))) 256 ∧ (post (((zb (zq + (a1 / (8 : Int32))).toNatClampNeg) >>> ((a1 - a1 / (8 : Int32) * (8 : Int32)) &&& 31)) &&& (1 : Int32)))
abbrev rm_ZM_bitAt : Room := { frames := 0, cells := 0, slots := 0, locals := 0 }
set_option maxHeartbeats 4000000 in
set_option maxRecDepth 100000 in
theorem kt_ZM_bitAt (l : Launch) (dC : Nat → ClassId) (dI : Nat → Nat → Nat) (cI : ClassId) (om ozp ozs ozb ozl ozo ozk ozm ozg : Nat) (zt : Int32) (zw : Int32) (zh : Int32) (zp : Nat → Int32) (zs : Nat → Int32) (zb : Nat → Int32) (zz : Int32) (zl : Nat → Int32) (zo : Nat → Int32) (zc : Int32) (zr : Int32) (zu : Int32) (zv : Int32) (zq : Int32) (zi : Int32) (zk : Nat → Int32) (zm : Nat → Int32) (zd : Int32) (zg : Nat → Int32) (a1 : Int32) (post : Int32 → Prop) (hw : wp_ZM_bitAt zt zw zh zp zs zb zz zl zo zc zr zu zv zq zi zk zm zd zg a1 post) : Met l yZM_bitAt wsZM_bitAt rm_ZM_bitAt (gr_Pc dC dI [(cI, .int)] [.ref om, .int a1] [(om, .inr (6, [.int zt, .int zw, .int zh, .ref ozp, .ref ozs, .ref ozb, .int zz, .ref ozl, .ref ozo, .int zc, .int zr, .int zu, .int zv, .int zq, .int zi, .ref ozk, .ref ozm, .int zd, .ref ozg])), (ozp, .inl (cI, 1600, .inl zp)), (ozs, .inl (cI, 320, .inl zs)), (ozb, .inl (cI, 256, .inl zb)), (ozl, .inl (cI, 64, .inl zl)), (ozo, .inl (cI, 64, .inl zo)), (ozk, .inl (cI, 320, .inl zk)), (ozm, .inl (cI, 40, .inl zm)), (ozg, .inl (cI, 64, .inl zg))]) (vp_Si post) 0 0 (fun _ => False) := by
  refine Met.ofW (cc := cZM_bitAt) (maxL := 2) (ret := (some .int)) (by decide) rfl ?_
  intro p e s m args below meth c s₁ B hml hv
  obtain ⟨ha9, hP, hK, hE⟩ := hv
  have hx := B.exec
  have hb := B.bytes
  have hr := B.returns
  have hts0 := atoms_spec (ws := wsZM_bitAt) B.pre
  have hts : ∀ w ∈ tbg, w.before args s = true := fun w h => hts0 w (List.mem_cons_of_mem _ h)
  have hown : s.vm.findClass RZM = some m.cls := findClass_of_methodNamed B.named
  have hlocks := B.notSynchronized
  refine gx_Q (fun Q9 hQ9 => ?_)
  have hl := lv_entry ([.ref om, .int a1]) (n := 2) (Nat.le_of_ble_eq_true rfl)
  have he9 : entryFrame m args 2 = F0 m 0 ((lg_sl [.ref om, .int a1] ++ List.replicate (2 - (lg_sl ([.ref om, .int a1] : List Value)).length) Slot.unset).toArray) [] := by rw [ha9]; exact lg_entry_eq m [.ref om, .int a1] 2
  rw [he9]
  generalize (lg_sl ([.ref om, .int a1] : List Value) ++ List.replicate (2 - (lg_sl ([.ref om, .int a1] : List Value)).length) Slot.unset).toArray = ls at hl ⊢
  have hl : lv_has ls 2 [(0, .ref om), (1, .int a1)] := hl
  refine lv_aload_n hx hb dZM_bitAt_0 rfl (lv_at hl 0 rfl) ?_
  refine va_get (D := (dC, dI)) (ci := 6) (v := .ref ozb) (C := RZM) (T := TZM) (N := 19) hx hb hts inZM hown hK hP 0 rfl rfl 5 (by decide) (hts _ mm_623) (fun _ h9 => h9) rfl dZM_bitAt_1 ?_
  refine lv_aload_n hx hb dZM_bitAt_4 rfl (lv_at hl 0 rfl) ?_
  refine va_get (D := (dC, dI)) (ci := 6) (v := .int zq) (C := RZM) (T := TZM) (N := 19) hx hb hts inZM hown hK hP 0 rfl rfl 13 (by decide) (hts _ mm_631) (fun _ h9 => h9) rfl dZM_bitAt_5 ?_
  refine lv_iload_n hx hb dZM_bitAt_8 rfl (lv_at hl 1 rfl) ?_
  refine lv_bipush (v := (8 : Int32)) hx hb dZM_bitAt_9 (by decide) ?_
  refine lv_idiv hx hb dZM_bitAt_11 (by decide) ?_
  refine lv_iadd hx hb dZM_bitAt_12 ?_
  obtain ⟨h_1, hw⟩ := hw
  refine va_iald hx hb hK hP 3 0 rfl rfl h_1 dZM_bitAt_13 ?_
  refine lv_iload_n hx hb dZM_bitAt_14 rfl (lv_at hl 1 rfl) ?_
  refine lv_bipush (v := (8 : Int32)) hx hb dZM_bitAt_15 (by decide) ?_
  refine lv_irem hx hb dZM_bitAt_17 (by decide) ?_
  refine lv_ishr hx hb dZM_bitAt_18 ?_
  refine lv_iconst (v := (1 : Int32)) hx hb dZM_bitAt_19 (by decide) ?_
  refine lv_iand hx hb dZM_bitAt_20 ?_
  subst hQ9
  exact W.iret (v := ((zb (zq + (a1 / (8 : Int32))).toNatClampNeg) >>> ((a1 - a1 / (8 : Int32) * (8 : Int32)) &&& 31)) &&& (1 : Int32)) hx hb hr (fun t ht hW => ⟨((zb (zq + (a1 / (8 : Int32))).toNatClampNeg) >>> ((a1 - a1 / (8 : Int32) * (8 : Int32)) &&& 31)) &&& (1 : Int32), rfl, hw, ht⟩) (fun q h => nomatch h) dZM_bitAt_21
theorem dZM_costAt_0 : decode cZM_costAt 0 = .ok (.aload_n 0, 1) := by decide +kernel
theorem dZM_costAt_1 : decode cZM_costAt 1 = .ok (.getfield 7, 3) := by decide +kernel
theorem dZM_costAt_4 : decode cZM_costAt 4 = .ok (.bipush 40, 2) := by decide +kernel
theorem dZM_costAt_6 : decode cZM_costAt 6 = .ok (.iload_n 1, 1) := by decide +kernel
theorem dZM_costAt_7 : decode cZM_costAt 7 = .ok (.imul, 1) := by decide +kernel
theorem dZM_costAt_8 : decode cZM_costAt 8 = .ok (.aload_n 0, 1) := by decide +kernel
theorem dZM_costAt_9 : decode cZM_costAt 9 = .ok (.getfield 38, 3) := by decide +kernel
theorem dZM_costAt_12 : decode cZM_costAt 12 = .ok (.iadd, 1) := by decide +kernel
theorem dZM_costAt_13 : decode cZM_costAt 13 = .ok (.iload_n 3, 1) := by decide +kernel
theorem dZM_costAt_14 : decode cZM_costAt 14 = .ok (.isub, 1) := by decide +kernel
theorem dZM_costAt_15 : decode cZM_costAt 15 = .ok (.iload_n 2, 1) := by decide +kernel
theorem dZM_costAt_16 : decode cZM_costAt 16 = .ok (.iadd, 1) := by decide +kernel
theorem dZM_costAt_17 : decode cZM_costAt 17 = .ok (.iaload, 1) := by decide +kernel
theorem dZM_costAt_18 : decode cZM_costAt 18 = .ok (.aload_n 0, 1) := by decide +kernel
theorem dZM_costAt_19 : decode cZM_costAt 19 = .ok (.getfield 13, 3) := by decide +kernel
theorem dZM_costAt_22 : decode cZM_costAt 22 = .ok (.bipush 8, 2) := by decide +kernel
theorem dZM_costAt_24 : decode cZM_costAt 24 = .ok (.iload_n 1, 1) := by decide +kernel
theorem dZM_costAt_25 : decode cZM_costAt 25 = .ok (.imul, 1) := by decide +kernel
theorem dZM_costAt_26 : decode cZM_costAt 26 = .ok (.iload_n 2, 1) := by decide +kernel
theorem dZM_costAt_27 : decode cZM_costAt 27 = .ok (.iadd, 1) := by decide +kernel
theorem dZM_costAt_28 : decode cZM_costAt 28 = .ok (.iaload, 1) := by decide +kernel
theorem dZM_costAt_29 : decode cZM_costAt 29 = .ok (.isub, 1) := by decide +kernel
theorem dZM_costAt_30 : decode cZM_costAt 30 = .ok (.istore 4, 2) := by decide +kernel
theorem dZM_costAt_32 : decode cZM_costAt 32 = .ok (.iload 4, 2) := by decide +kernel
theorem dZM_costAt_34 : decode cZM_costAt 34 = .ok (.iload 4, 2) := by decide +kernel
theorem dZM_costAt_36 : decode cZM_costAt 36 = .ok (.imul, 1) := by decide +kernel
theorem dZM_costAt_37 : decode cZM_costAt 37 = .ok (.ireturn, 1) := by decide +kernel
abbrev wsZM_costAt : List Cond := .code yZM_costAt cZM_costAt 5 (some .int) :: tbg
def wp_ZM_costAt (zt : Int32) (zw : Int32) (zh : Int32) (zp : Nat → Int32) (zs : Nat → Int32) (zb : Nat → Int32) (zz : Int32) (zl : Nat → Int32) (zo : Nat → Int32) (zc : Int32) (zr : Int32) (zu : Int32) (zv : Int32) (zq : Int32) (zi : Int32) (zk : Nat → Int32) (zm : Nat → Int32) (zd : Int32) (zg : Nat → Int32) (a1 : Int32) (a2 : Int32) (a3 : Int32) (post : Int32 → Prop) : Prop := vp_in (((((40 : Int32) * a1) + zw) - a3) + a2) 1600 ∧ (vp_in (((8 : Int32) * a1) + a2) 320 ∧ (post (((zp (((((40 : Int32) * a1) + zw) - a3) + a2).toNatClampNeg) - (zs (((8 : Int32) * a1) + a2).toNatClampNeg)) * ((zp (((((40 : Int32) * a1) + zw) - a3) + a2).toNatClampNeg) - (zs (((8 : Int32) * a1) + a2).toNatClampNeg)))))
abbrev rm_ZM_costAt : Room := { frames := 0, cells := 0, slots := 0, locals := 0 }
set_option maxHeartbeats 4000000 in
set_option maxRecDepth 100000 in
theorem kt_ZM_costAt (l : Launch) (dC : Nat → ClassId) (dI : Nat → Nat → Nat) (cI : ClassId) (om ozp ozs ozb ozl ozo ozk ozm ozg : Nat) (zt : Int32) (zw : Int32) (zh : Int32) (zp : Nat → Int32) (zs : Nat → Int32) (zb : Nat → Int32) (zz : Int32) (zl : Nat → Int32) (zo : Nat → Int32) (zc : Int32) (zr : Int32) (zu : Int32) (zv : Int32) (zq : Int32) (zi : Int32) (zk : Nat → Int32) (zm : Nat → Int32) (zd : Int32) (zg : Nat → Int32) (a1 : Int32) (a2 : Int32) (a3 : Int32) (post : Int32 → Prop) (hw : wp_ZM_costAt zt zw zh zp zs zb zz zl zo zc zr zu zv zq zi zk zm zd zg a1 a2 a3 post) : Met l yZM_costAt wsZM_costAt rm_ZM_costAt (gr_Pc dC dI [(cI, .int)] [.ref om, .int a1, .int a2, .int a3] [(om, .inr (6, [.int zt, .int zw, .int zh, .ref ozp, .ref ozs, .ref ozb, .int zz, .ref ozl, .ref ozo, .int zc, .int zr, .int zu, .int zv, .int zq, .int zi, .ref ozk, .ref ozm, .int zd, .ref ozg])), (ozp, .inl (cI, 1600, .inl zp)), (ozs, .inl (cI, 320, .inl zs)), (ozb, .inl (cI, 256, .inl zb)), (ozl, .inl (cI, 64, .inl zl)), (ozo, .inl (cI, 64, .inl zo)), (ozk, .inl (cI, 320, .inl zk)), (ozm, .inl (cI, 40, .inl zm)), (ozg, .inl (cI, 64, .inl zg))]) (vp_Si post) 0 0 (fun _ => False) := by
  refine Met.ofW (cc := cZM_costAt) (maxL := 5) (ret := (some .int)) (by decide) rfl ?_
  intro p e s m args below meth c s₁ B hml hv
  obtain ⟨ha9, hP, hK, hE⟩ := hv
  have hx := B.exec
  have hb := B.bytes
  have hr := B.returns
  have hts0 := atoms_spec (ws := wsZM_costAt) B.pre
  have hts : ∀ w ∈ tbg, w.before args s = true := fun w h => hts0 w (List.mem_cons_of_mem _ h)
  have hown : s.vm.findClass RZM = some m.cls := findClass_of_methodNamed B.named
  have hlocks := B.notSynchronized
  refine gx_Q (fun Q9 hQ9 => ?_)
  have hl := lv_entry ([.ref om, .int a1, .int a2, .int a3]) (n := 5) (Nat.le_of_ble_eq_true rfl)
  have he9 : entryFrame m args 5 = F0 m 0 ((lg_sl [.ref om, .int a1, .int a2, .int a3] ++ List.replicate (5 - (lg_sl ([.ref om, .int a1, .int a2, .int a3] : List Value)).length) Slot.unset).toArray) [] := by rw [ha9]; exact lg_entry_eq m [.ref om, .int a1, .int a2, .int a3] 5
  rw [he9]
  generalize (lg_sl ([.ref om, .int a1, .int a2, .int a3] : List Value) ++ List.replicate (5 - (lg_sl ([.ref om, .int a1, .int a2, .int a3] : List Value)).length) Slot.unset).toArray = ls at hl ⊢
  have hl : lv_has ls 5 [(0, .ref om), (1, .int a1), (2, .int a2), (3, .int a3)] := hl
  refine lv_aload_n hx hb dZM_costAt_0 rfl (lv_at hl 0 rfl) ?_
  refine va_get (D := (dC, dI)) (ci := 6) (v := .ref ozp) (C := RZM) (T := TZM) (N := 19) hx hb hts inZM hown hK hP 0 rfl rfl 3 (by decide) (hts _ mm_621) (fun _ h9 => h9) rfl dZM_costAt_1 ?_
  refine lv_bipush (v := (40 : Int32)) hx hb dZM_costAt_4 (by decide) ?_
  refine lv_iload_n hx hb dZM_costAt_6 rfl (lv_at hl 1 rfl) ?_
  refine lv_imul hx hb dZM_costAt_7 ?_
  refine lv_aload_n hx hb dZM_costAt_8 rfl (lv_at hl 0 rfl) ?_
  refine va_get (D := (dC, dI)) (ci := 6) (v := .int zw) (C := RZM) (T := TZM) (N := 19) hx hb hts inZM hown hK hP 0 rfl rfl 1 (by decide) (hts _ mm_619) (fun _ h9 => h9) rfl dZM_costAt_9 ?_
  refine lv_iadd hx hb dZM_costAt_12 ?_
  refine lv_iload_n hx hb dZM_costAt_13 rfl (lv_at hl 3 rfl) ?_
  refine lv_isub hx hb dZM_costAt_14 ?_
  refine lv_iload_n hx hb dZM_costAt_15 rfl (lv_at hl 2 rfl) ?_
  refine lv_iadd hx hb dZM_costAt_16 ?_
  obtain ⟨h_1, hw⟩ := hw
  refine va_iald hx hb hK hP 1 0 rfl rfl h_1 dZM_costAt_17 ?_
  refine lv_aload_n hx hb dZM_costAt_18 rfl (lv_at hl 0 rfl) ?_
  refine va_get (D := (dC, dI)) (ci := 6) (v := .ref ozs) (C := RZM) (T := TZM) (N := 19) hx hb hts inZM hown hK hP 0 rfl rfl 4 (by decide) (hts _ mm_622) (fun _ h9 => h9) rfl dZM_costAt_19 ?_
  refine lv_bipush (v := (8 : Int32)) hx hb dZM_costAt_22 (by decide) ?_
  refine lv_iload_n hx hb dZM_costAt_24 rfl (lv_at hl 1 rfl) ?_
  refine lv_imul hx hb dZM_costAt_25 ?_
  refine lv_iload_n hx hb dZM_costAt_26 rfl (lv_at hl 2 rfl) ?_
  refine lv_iadd hx hb dZM_costAt_27 ?_
  obtain ⟨h_2, hw⟩ := hw
  refine va_iald hx hb hK hP 2 0 rfl rfl h_2 dZM_costAt_28 ?_
  refine lv_isub hx hb dZM_costAt_29 ?_
  refine lv_istore (lv' := [(4, .int ((zp (((((40 : Int32) * a1) + zw) - a3) + a2).toNatClampNeg) - (zs (((8 : Int32) * a1) + a2).toNatClampNeg))), (0, .ref om), (1, .int a1), (2, .int a2), (3, .int a3)]) hx hb dZM_costAt_30 hl (by decide) rfl (fun ls hl => ?_)
  refine lv_iload hx hb dZM_costAt_32 (lv_at hl 0 rfl) ?_
  refine lv_iload hx hb dZM_costAt_34 (lv_at hl 0 rfl) ?_
  refine lv_imul hx hb dZM_costAt_36 ?_
  subst hQ9
  exact W.iret (v := ((zp (((((40 : Int32) * a1) + zw) - a3) + a2).toNatClampNeg) - (zs (((8 : Int32) * a1) + a2).toNatClampNeg)) * ((zp (((((40 : Int32) * a1) + zw) - a3) + a2).toNatClampNeg) - (zs (((8 : Int32) * a1) + a2).toNatClampNeg))) hx hb hr (fun t ht hW => ⟨((zp (((((40 : Int32) * a1) + zw) - a3) + a2).toNatClampNeg) - (zs (((8 : Int32) * a1) + a2).toNatClampNeg)) * ((zp (((((40 : Int32) * a1) + zw) - a3) + a2).toNatClampNeg) - (zs (((8 : Int32) * a1) + a2).toNatClampNeg)), rfl, hw, ht⟩) (fun q h => nomatch h) dZM_costAt_37
theorem dZM_cost_0 : decode cZM_cost 0 = .ok (.iload_n 2, 1) := by decide +kernel
theorem dZM_cost_1 : decode cZM_cost 1 = .ok (.iconst 0, 1) := by decide +kernel
theorem dZM_cost_2 : decode cZM_cost 2 = .ok (.iload_n 3, 1) := by decide +kernel
theorem dZM_cost_3 : decode cZM_cost 3 = .ok (.iconst 1, 1) := by decide +kernel
theorem dZM_cost_4 : decode cZM_cost 4 = .ok (.isub, 1) := by decide +kernel
theorem dZM_cost_5 : decode cZM_cost 5 = .ok (.invokestatic 48, 3) := by decide +kernel
theorem dZM_cost_8 : decode cZM_cost 8 = .ok (.ifCond .eq 17, 3) := by decide +kernel
theorem dZM_cost_11 : decode cZM_cost 11 = .ok (.aload_n 0, 1) := by decide +kernel
theorem dZM_cost_12 : decode cZM_cost 12 = .ok (.getfield 25, 3) := by decide +kernel
theorem dZM_cost_15 : decode cZM_cost 15 = .ok (.bipush 8, 2) := by decide +kernel
theorem dZM_cost_17 : decode cZM_cost 17 = .ok (.iload_n 1, 1) := by decide +kernel
theorem dZM_cost_18 : decode cZM_cost 18 = .ok (.imul, 1) := by decide +kernel
theorem dZM_cost_19 : decode cZM_cost 19 = .ok (.iload_n 2, 1) := by decide +kernel
theorem dZM_cost_20 : decode cZM_cost 20 = .ok (.iadd, 1) := by decide +kernel
theorem dZM_cost_21 : decode cZM_cost 21 = .ok (.iaload, 1) := by decide +kernel
theorem dZM_cost_22 : decode cZM_cost 22 = .ok (.goto 5, 3) := by decide +kernel
theorem dZM_cost_25 : decode cZM_cost 25 = .ok (.ldc 156, 2) := by decide +kernel
theorem dZM_cost_27 : decode cZM_cost 27 = .ok (.ireturn, 1) := by decide +kernel
abbrev wsZM_cost : List Cond := .code yZM_cost cZM_cost 4 (some .int) :: tbg
def wp_ZM_cost (zt : Int32) (zw : Int32) (zh : Int32) (zp : Nat → Int32) (zs : Nat → Int32) (zb : Nat → Int32) (zz : Int32) (zl : Nat → Int32) (zo : Nat → Int32) (zc : Int32) (zr : Int32) (zu : Int32) (zv : Int32) (zq : Int32) (zi : Int32) (zk : Nat → Int32) (zm : Nat → Int32) (zd : Int32) (zg : Nat → Int32) (a1 : Int32) (a2 : Int32) (a3 : Int32) (post : Int32 → Prop) : Prop := wp_ZM_in a2 (0 : Int32) (a3 - (1 : Int32)) (fun r_1 : Int32 => ((r_1 = (0 : Int32) → (post (1000000000 : Int32))) ∧ (¬ r_1 = (0 : Int32) → (vp_in (((8 : Int32) * a1) + a2) 320 ∧ (post (zk (((8 : Int32) * a1) + a2).toNatClampNeg))))))
abbrev rm_ZM_cost : Room := { frames := 1, cells := 0, slots := 0, locals := 22 }
set_option maxHeartbeats 4000000 in
set_option maxRecDepth 100000 in
theorem kt_ZM_cost (l : Launch) (dC : Nat → ClassId) (dI : Nat → Nat → Nat) (cI : ClassId) (om ozp ozs ozb ozl ozo ozk ozm ozg : Nat) (zt : Int32) (zw : Int32) (zh : Int32) (zp : Nat → Int32) (zs : Nat → Int32) (zb : Nat → Int32) (zz : Int32) (zl : Nat → Int32) (zo : Nat → Int32) (zc : Int32) (zr : Int32) (zu : Int32) (zv : Int32) (zq : Int32) (zi : Int32) (zk : Nat → Int32) (zm : Nat → Int32) (zd : Int32) (zg : Nat → Int32) (a1 : Int32) (a2 : Int32) (a3 : Int32) (post : Int32 → Prop) (hw : wp_ZM_cost zt zw zh zp zs zb zz zl zo zc zr zu zv zq zi zk zm zd zg a1 a2 a3 post) : Met l yZM_cost wsZM_cost rm_ZM_cost (gr_Pc dC dI [(cI, .int)] [.ref om, .int a1, .int a2, .int a3] [(om, .inr (6, [.int zt, .int zw, .int zh, .ref ozp, .ref ozs, .ref ozb, .int zz, .ref ozl, .ref ozo, .int zc, .int zr, .int zu, .int zv, .int zq, .int zi, .ref ozk, .ref ozm, .int zd, .ref ozg])), (ozp, .inl (cI, 1600, .inl zp)), (ozs, .inl (cI, 320, .inl zs)), (ozb, .inl (cI, 256, .inl zb)), (ozl, .inl (cI, 64, .inl zl)), (ozo, .inl (cI, 64, .inl zo)), (ozk, .inl (cI, 320, .inl zk)), (ozm, .inl (cI, 40, .inl zm)), (ozg, .inl (cI, 64, .inl zg))]) (vp_Si post) 0 0 (fun _ => False) := by
  refine Met.ofW (cc := cZM_cost) (maxL := 4) (ret := (some .int)) (by decide) rfl ?_
  intro p e s m args below meth c s₁ B hml hv
  obtain ⟨ha9, hP, hK, hE⟩ := hv
  have hx := B.exec
  have hb := B.bytes
  have hr := B.returns
  have hts0 := atoms_spec (ws := wsZM_cost) B.pre
  have hts : ∀ w ∈ tbg, w.before args s = true := fun w h => hts0 w (List.mem_cons_of_mem _ h)
  have hown : s.vm.findClass RZM = some m.cls := findClass_of_methodNamed B.named
  have hlocks := B.notSynchronized
  refine gx_Q (fun Q9 hQ9 => ?_)
  have hl := lv_entry ([.ref om, .int a1, .int a2, .int a3]) (n := 4) (Nat.le_of_ble_eq_true rfl)
  have he9 : entryFrame m args 4 = F0 m 0 ((lg_sl [.ref om, .int a1, .int a2, .int a3] ++ List.replicate (4 - (lg_sl ([.ref om, .int a1, .int a2, .int a3] : List Value)).length) Slot.unset).toArray) [] := by rw [ha9]; exact lg_entry_eq m [.ref om, .int a1, .int a2, .int a3] 4
  rw [he9]
  generalize (lg_sl ([.ref om, .int a1, .int a2, .int a3] : List Value) ++ List.replicate (4 - (lg_sl ([.ref om, .int a1, .int a2, .int a3] : List Value)).length) Slot.unset).toArray = ls at hl ⊢
  have hl : lv_has ls 4 [(0, .ref om), (1, .int a1), (2, .int a2), (3, .int a3)] := hl
  refine lv_iload_n hx hb dZM_cost_0 rfl (lv_at hl 2 rfl) ?_
  refine lv_iconst (v := (0 : Int32)) hx hb dZM_cost_1 (by decide) ?_
  refine lv_iload_n hx hb dZM_cost_2 rfl (lv_at hl 3 rfl) ?_
  refine lv_iconst (v := (1 : Int32)) hx hb dZM_cost_3 (by decide) ?_
  refine lv_isub hx hb dZM_cost_4 ?_
  have hPc := hP.sub (ws' := []) [] rfl
  refine vp_callSi (va_runS (As := [.int a2, .int (0 : Int32), .int (a3 - (1 : Int32))]) (rest := []) ⟨hx, hb, hml, hown, hts⟩ (kt_ZM_in l dC dI cI  a2 (0 : Int32) (a3 - (1 : Int32)) _ hw) (va_cwS 3 hts (tb_S mm_687 mm_688 mm_8 mm_689) rfl rfl rfl (by decide +kernel) ⟨Nat.le_of_ble_eq_true rfl, Nat.le_of_ble_eq_true rfl⟩) ⟨gr_blind, fun U hU hW => gr_pre hPc hK hE hU hW⟩ rfl rfl hl.1 rfl (lv_room (Nat.le_of_ble_eq_true rfl)) dZM_cost_5 ⟨Nat.le_of_ble_eq_true rfl, Nat.le_of_ble_eq_true rfl⟩).run (fun r_1 hw => ?_)
  refine lv_if_eq (tgt := 25) hx hb dZM_cost_8 (by decide) (fun c_2 => ?_) (fun c_2 => ?_)
  · have hw := hw.1 c_2
    refine lv_ldc hx hb hown (hts _ mm_860) dZM_cost_25 ?_
    subst hQ9
    exact W.iret (v := (1000000000 : Int32)) hx hb hr (fun t ht hW => ⟨(1000000000 : Int32), rfl, hw, ht⟩) (fun q h => nomatch h) dZM_cost_27
  · have hw := hw.2 c_2
    refine lv_aload_n hx hb dZM_cost_11 rfl (lv_at hl 0 rfl) ?_
    refine va_get (D := (dC, dI)) (ci := 6) (v := .ref ozk) (C := RZM) (T := TZM) (N := 19) hx hb hts inZM hown hK hP 0 rfl rfl 15 (by decide) (hts _ mm_632) (fun _ h9 => h9) rfl dZM_cost_12 ?_
    refine lv_bipush (v := (8 : Int32)) hx hb dZM_cost_15 (by decide) ?_
    refine lv_iload_n hx hb dZM_cost_17 rfl (lv_at hl 1 rfl) ?_
    refine lv_imul hx hb dZM_cost_18 ?_
    refine lv_iload_n hx hb dZM_cost_19 rfl (lv_at hl 2 rfl) ?_
    refine lv_iadd hx hb dZM_cost_20 ?_
    obtain ⟨h_3, hw⟩ := hw
    refine va_iald hx hb hK hP 6 0 rfl rfl h_3 dZM_cost_21 ?_
    refine lv_goto (tgt := 27) hx hb dZM_cost_22 (by decide) ?_
    subst hQ9
    exact W.iret (v := zk (((8 : Int32) * a1) + a2).toNatClampNeg) hx hb hr (fun t ht hW => ⟨zk (((8 : Int32) * a1) + a2).toNatClampNeg, rfl, hw, ht⟩) (fun q h => nomatch h) dZM_cost_27
theorem dZM_leastAround_0 : decode cZM_leastAround 0 = .ok (.aload_n 0, 1) := by decide +kernel
theorem dZM_leastAround_1 : decode cZM_leastAround 1 = .ok (.iload_n 1, 1) := by decide +kernel
theorem dZM_leastAround_2 : decode cZM_leastAround 2 = .ok (.iload_n 2, 1) := by decide +kernel
theorem dZM_leastAround_3 : decode cZM_leastAround 3 = .ok (.iconst 1, 1) := by decide +kernel
theorem dZM_leastAround_4 : decode cZM_leastAround 4 = .ok (.isub, 1) := by decide +kernel
theorem dZM_leastAround_5 : decode cZM_leastAround 5 = .ok (.iload_n 3, 1) := by decide +kernel
theorem dZM_leastAround_6 : decode cZM_leastAround 6 = .ok (.invokevirtual 157, 3) := by decide +kernel
theorem dZM_leastAround_9 : decode cZM_leastAround 9 = .ok (.istore 4, 2) := by decide +kernel
theorem dZM_leastAround_11 : decode cZM_leastAround 11 = .ok (.iload_n 2, 1) := by decide +kernel
theorem dZM_leastAround_12 : decode cZM_leastAround 12 = .ok (.istore 5, 2) := by decide +kernel
theorem dZM_leastAround_14 : decode cZM_leastAround 14 = .ok (.iload 5, 2) := by decide +kernel
theorem dZM_leastAround_16 : decode cZM_leastAround 16 = .ok (.iload_n 2, 1) := by decide +kernel
theorem dZM_leastAround_17 : decode cZM_leastAround 17 = .ok (.iconst 2, 1) := by decide +kernel
theorem dZM_leastAround_18 : decode cZM_leastAround 18 = .ok (.iadd, 1) := by decide +kernel
theorem dZM_leastAround_19 : decode cZM_leastAround 19 = .ok (.if_icmp .ge 37, 3) := by decide +kernel
theorem dZM_leastAround_22 : decode cZM_leastAround 22 = .ok (.aload_n 0, 1) := by decide +kernel
theorem dZM_leastAround_23 : decode cZM_leastAround 23 = .ok (.iload_n 1, 1) := by decide +kernel
theorem dZM_leastAround_24 : decode cZM_leastAround 24 = .ok (.iload 5, 2) := by decide +kernel
theorem dZM_leastAround_26 : decode cZM_leastAround 26 = .ok (.iload_n 3, 1) := by decide +kernel
theorem dZM_leastAround_27 : decode cZM_leastAround 27 = .ok (.invokevirtual 157, 3) := by decide +kernel
theorem dZM_leastAround_30 : decode cZM_leastAround 30 = .ok (.iload 4, 2) := by decide +kernel
theorem dZM_leastAround_32 : decode cZM_leastAround 32 = .ok (.if_icmp .ge 14, 3) := by decide +kernel
theorem dZM_leastAround_35 : decode cZM_leastAround 35 = .ok (.aload_n 0, 1) := by decide +kernel
theorem dZM_leastAround_36 : decode cZM_leastAround 36 = .ok (.iload_n 1, 1) := by decide +kernel
theorem dZM_leastAround_37 : decode cZM_leastAround 37 = .ok (.iload 5, 2) := by decide +kernel
theorem dZM_leastAround_39 : decode cZM_leastAround 39 = .ok (.iload_n 3, 1) := by decide +kernel
theorem dZM_leastAround_40 : decode cZM_leastAround 40 = .ok (.invokevirtual 157, 3) := by decide +kernel
theorem dZM_leastAround_43 : decode cZM_leastAround 43 = .ok (.goto 5, 3) := by decide +kernel
theorem dZM_leastAround_46 : decode cZM_leastAround 46 = .ok (.iload 4, 2) := by decide +kernel
theorem dZM_leastAround_48 : decode cZM_leastAround 48 = .ok (.istore 4, 2) := by decide +kernel
theorem dZM_leastAround_50 : decode cZM_leastAround 50 = .ok (.iinc 5 1, 3) := by decide +kernel
theorem dZM_leastAround_53 : decode cZM_leastAround 53 = .ok (.goto (-39), 3) := by decide +kernel
theorem dZM_leastAround_56 : decode cZM_leastAround 56 = .ok (.iload 4, 2) := by decide +kernel
theorem dZM_leastAround_58 : decode cZM_leastAround 58 = .ok (.ireturn, 1) := by decide +kernel
abbrev wsZM_leastAround : List Cond := .code yZM_leastAround cZM_leastAround 6 (some .int) :: tbg
def lp_ZM_leastAround_14 (zt : Int32) (zw : Int32) (zh : Int32) (zp : Nat → Int32) (zs : Nat → Int32) (zb : Nat → Int32) (zz : Int32) (zl : Nat → Int32) (zo : Nat → Int32) (zc : Int32) (zr : Int32) (zu : Int32) (zv : Int32) (zq : Int32) (zi : Int32) (zk : Nat → Int32) (zm : Nat → Int32) (zd : Int32) (zg : Nat → Int32) (a1 : Int32) (a2 : Int32) (a3 : Int32) (r_1 : Int32) (post : Int32 → Prop) (K14 : Int32 → Int32 → Prop) (n : Nat) : Int32 → Int32 → Prop := Nat.rec (motive := fun _ => Int32 → Int32 → Prop) (fun (x4_14 : Int32) (x5_14 : Int32) => False) (fun _ ih14 (x4_14 : Int32) (x5_14 : Int32) => (((a2 + (2 : Int32)) ≤ x5_14 → (K14 x4_14 x5_14)) ∧ (¬ (a2 + (2 : Int32)) ≤ x5_14 → (wp_ZM_cost zt zw zh zp zs zb zz zl zo zc zr zu zv zq zi zk zm zd zg a1 x5_14 a3 (fun r_3 : Int32 => ((x4_14 ≤ r_3 → (ih14 x4_14 (x5_14 + (1 : Int32)))) ∧ (¬ x4_14 ≤ r_3 → (wp_ZM_cost zt zw zh zp zs zb zz zl zo zc zr zu zv zq zi zk zm zd zg a1 x5_14 a3 (fun r_5 : Int32 => ih14 r_5 (x5_14 + (1 : Int32))))))))))) n
def wp_ZM_leastAround (zt : Int32) (zw : Int32) (zh : Int32) (zp : Nat → Int32) (zs : Nat → Int32) (zb : Nat → Int32) (zz : Int32) (zl : Nat → Int32) (zo : Nat → Int32) (zc : Int32) (zr : Int32) (zu : Int32) (zv : Int32) (zq : Int32) (zi : Int32) (zk : Nat → Int32) (zm : Nat → Int32) (zd : Int32) (zg : Nat → Int32) (a1 : Int32) (a2 : Int32) (a3 : Int32) (post : Int32 → Prop) : Prop := wp_ZM_cost zt zw zh zp zs zb zz zl zo zc zr zu zv zq zi zk zm zd zg a1 (a2 - (1 : Int32)) a3 (fun r_1 : Int32 => ∃ n : Nat, lp_ZM_leastAround_14 zt zw zh zp zs zb zz zl zo zc zr zu zv zq zi zk zm zd zg a1 a2 a3 r_1 post (fun (x4_14e : Int32) (x5_14e : Int32) => post x4_14e) n r_1 a2)
abbrev rm_ZM_leastAround : Room := { frames := 2, cells := 0, slots := 0, locals := 45 }
set_option maxHeartbeats 4000000 in
set_option maxRecDepth 100000 in
theorem kt_ZM_leastAround (l : Launch) (dC : Nat → ClassId) (dI : Nat → Nat → Nat) (cI : ClassId) (om ozp ozs ozb ozl ozo ozk ozm ozg : Nat) (zt : Int32) (zw : Int32) (zh : Int32) (zp : Nat → Int32) (zs : Nat → Int32) (zb : Nat → Int32) (zz : Int32) (zl : Nat → Int32) (zo : Nat → Int32) (zc : Int32) (zr : Int32) (zu : Int32) (zv : Int32) (zq : Int32) (zi : Int32) (zk : Nat → Int32) (zm : Nat → Int32) (zd : Int32) (zg : Nat → Int32) (a1 : Int32) (a2 : Int32) (a3 : Int32) (post : Int32 → Prop) (hw : wp_ZM_leastAround zt zw zh zp zs zb zz zl zo zc zr zu zv zq zi zk zm zd zg a1 a2 a3 post) : Met l yZM_leastAround wsZM_leastAround rm_ZM_leastAround (gr_Pc dC dI [(cI, .int)] [.ref om, .int a1, .int a2, .int a3] [(om, .inr (6, [.int zt, .int zw, .int zh, .ref ozp, .ref ozs, .ref ozb, .int zz, .ref ozl, .ref ozo, .int zc, .int zr, .int zu, .int zv, .int zq, .int zi, .ref ozk, .ref ozm, .int zd, .ref ozg])), (ozp, .inl (cI, 1600, .inl zp)), (ozs, .inl (cI, 320, .inl zs)), (ozb, .inl (cI, 256, .inl zb)), (ozl, .inl (cI, 64, .inl zl)), (ozo, .inl (cI, 64, .inl zo)), (ozk, .inl (cI, 320, .inl zk)), (ozm, .inl (cI, 40, .inl zm)), (ozg, .inl (cI, 64, .inl zg))]) (vp_Si post) 0 0 (fun _ => False) := by
  refine Met.ofW (cc := cZM_leastAround) (maxL := 6) (ret := (some .int)) (by decide) rfl ?_
  intro p e s m args below meth c s₁ B hml hv
  obtain ⟨ha9, hP, hK, hE⟩ := hv
  have hx := B.exec
  have hb := B.bytes
  have hr := B.returns
  have hts0 := atoms_spec (ws := wsZM_leastAround) B.pre
  have hts : ∀ w ∈ tbg, w.before args s = true := fun w h => hts0 w (List.mem_cons_of_mem _ h)
  have hown : s.vm.findClass RZM = some m.cls := findClass_of_methodNamed B.named
  have hlocks := B.notSynchronized
  refine gx_Q (fun Q9 hQ9 => ?_)
  have hl := lv_entry ([.ref om, .int a1, .int a2, .int a3]) (n := 6) (Nat.le_of_ble_eq_true rfl)
  have he9 : entryFrame m args 6 = F0 m 0 ((lg_sl [.ref om, .int a1, .int a2, .int a3] ++ List.replicate (6 - (lg_sl ([.ref om, .int a1, .int a2, .int a3] : List Value)).length) Slot.unset).toArray) [] := by rw [ha9]; exact lg_entry_eq m [.ref om, .int a1, .int a2, .int a3] 6
  rw [he9]
  generalize (lg_sl ([.ref om, .int a1, .int a2, .int a3] : List Value) ++ List.replicate (6 - (lg_sl ([.ref om, .int a1, .int a2, .int a3] : List Value)).length) Slot.unset).toArray = ls at hl ⊢
  have hl : lv_has ls 6 [(0, .ref om), (1, .int a1), (2, .int a2), (3, .int a3)] := hl
  refine lv_aload_n hx hb dZM_leastAround_0 rfl (lv_at hl 0 rfl) ?_
  refine lv_iload_n hx hb dZM_leastAround_1 rfl (lv_at hl 1 rfl) ?_
  refine lv_iload_n hx hb dZM_leastAround_2 rfl (lv_at hl 2 rfl) ?_
  refine lv_iconst (v := (1 : Int32)) hx hb dZM_leastAround_3 (by decide) ?_
  refine lv_isub hx hb dZM_leastAround_4 ?_
  refine lv_iload_n hx hb dZM_leastAround_5 rfl (lv_at hl 3 rfl) ?_
  refine vp_callSi (va_runV (As := [.int a1, .int (a2 - (1 : Int32)), .int a3]) (rest := []) ⟨hx, hb, hml, hown, hts⟩ (kt_ZM_cost l dC dI cI om ozp ozs ozb ozl ozo ozk ozm ozg zt zw zh zp zs zb zz zl zo zc zr zu zv zq zi zk zm zd zg a1 (a2 - (1 : Int32)) a3 _ hw) (cwV 3 hts (tb_V mm_856 mm_858 mp_24 mm_8 mm_859) rfl rfl rfl (by decide +kernel) ⟨Nat.le_of_ble_eq_true rfl, Nat.le_of_ble_eq_true rfl⟩) ⟨gr_blind, va_recv hK hP (ci := 6) (q0 := 0) rfl rfl, fun U hU hW => gr_pre hP hK hE hU hW⟩ rfl rfl hl.1 rfl (lv_room (Nat.le_of_ble_eq_true rfl)) dZM_leastAround_6 ⟨Nat.le_of_ble_eq_true rfl, Nat.le_of_ble_eq_true rfl⟩).run (fun r_1 hw => ?_)
  refine lv_istore (lv' := [(4, .int r_1), (0, .ref om), (1, .int a1), (2, .int a2), (3, .int a3)]) hx hb dZM_leastAround_9 hl (by decide) rfl (fun ls hl => ?_)
  refine lv_iload_n hx hb dZM_leastAround_11 rfl (lv_at hl 3 rfl) ?_
  refine lv_istore (lv' := [(5, .int a2), (4, .int r_1), (0, .ref om), (1, .int a1), (2, .int a2), (3, .int a3)]) hx hb dZM_leastAround_12 hl (by decide) rfl (fun ls hl => ?_)
  have lp14 : ∀ K14 : Int32 → Int32 → Prop, (∀ (x4_14 : Int32) (x5_14 : Int32), K14 x4_14 x5_14 → ∀ ls : Array Slot, lv_has ls 6 [(5, .int x5_14), (4, .int x4_14), (0, .ref om), (1, .int a1), (2, .int a2), (3, .int a3)] → W p l e (headSpec wsZM_leastAround rm_ZM_leastAround).room s m args below meth c s.heap [] 0 0 Q9 (F0 m 56 ls [])) → ∀ (n : Nat) (x4_14 : Int32) (x5_14 : Int32), lp_ZM_leastAround_14 zt zw zh zp zs zb zz zl zo zc zr zu zv zq zi zk zm zd zg a1 a2 a3 r_1 post K14 n x4_14 x5_14 → ∀ ls : Array Slot, lv_has ls 6 [(5, .int x5_14), (4, .int x4_14), (0, .ref om), (1, .int a1), (2, .int a2), (3, .int a3)] → W p l e (headSpec wsZM_leastAround rm_ZM_leastAround).room s m args below meth c s.heap [] 0 0 Q9 (F0 m 14 ls []) := by
    intro K14 aft14 n
    induction n with
    | zero => intro x4_14 x5_14 hw; exact False.elim hw
    | succ n ih14 =>
      intro x4_14 x5_14 hw ls hl
      refine lv_iload hx hb dZM_leastAround_14 (lv_at hl 0 rfl) ?_
      refine lv_iload_n hx hb dZM_leastAround_16 rfl (lv_at hl 4 rfl) ?_
      refine lv_iconst (v := (2 : Int32)) hx hb dZM_leastAround_17 (by decide) ?_
      refine lv_iadd hx hb dZM_leastAround_18 ?_
      refine lv_icmp_ge (tgt := 56) hx hb dZM_leastAround_19 (by decide) (fun c_2 => ?_) (fun c_2 => ?_)
      · have hw := hw.1 c_2
        exact aft14 x4_14 x5_14 hw ls (lv_sub hl [0, 1, 2, 3, 4, 5] rfl)
      · have hw := hw.2 c_2
        refine lv_aload_n hx hb dZM_leastAround_22 rfl (lv_at hl 2 rfl) ?_
        refine lv_iload_n hx hb dZM_leastAround_23 rfl (lv_at hl 3 rfl) ?_
        refine lv_iload hx hb dZM_leastAround_24 (lv_at hl 0 rfl) ?_
        refine lv_iload_n hx hb dZM_leastAround_26 rfl (lv_at hl 5 rfl) ?_
        refine vp_callSi (va_runV (As := [.int a1, .int x5_14, .int a3]) (rest := []) ⟨hx, hb, hml, hown, hts⟩ (kt_ZM_cost l dC dI cI om ozp ozs ozb ozl ozo ozk ozm ozg zt zw zh zp zs zb zz zl zo zc zr zu zv zq zi zk zm zd zg a1 x5_14 a3 _ hw) (cwV 3 hts (tb_V mm_856 mm_858 mp_24 mm_8 mm_859) rfl rfl rfl (by decide +kernel) ⟨Nat.le_of_ble_eq_true rfl, Nat.le_of_ble_eq_true rfl⟩) ⟨gr_blind, va_recv hK hP (ci := 6) (q0 := 0) rfl rfl, fun U hU hW => gr_pre hP hK hE hU hW⟩ rfl rfl hl.1 rfl (lv_room (Nat.le_of_ble_eq_true rfl)) dZM_leastAround_27 ⟨Nat.le_of_ble_eq_true rfl, Nat.le_of_ble_eq_true rfl⟩).run (fun r_3 hw => ?_)
        refine lv_iload hx hb dZM_leastAround_30 (lv_at hl 1 rfl) ?_
        refine lv_icmp_ge (tgt := 46) hx hb dZM_leastAround_32 (by decide) (fun c_4 => ?_) (fun c_4 => ?_)
        · have hw := hw.1 c_4
          refine lv_iload hx hb dZM_leastAround_46 (lv_at hl 1 rfl) ?_
          refine lv_istore (lv' := [(4, .int x4_14), (5, .int x5_14), (0, .ref om), (1, .int a1), (2, .int a2), (3, .int a3)]) hx hb dZM_leastAround_48 hl (by decide) rfl (fun ls hl => ?_)
          refine lv_iinc (v := x5_14 + (1 : Int32)) (lv' := [(5, .int (x5_14 + (1 : Int32))), (4, .int x4_14), (0, .ref om), (1, .int a1), (2, .int a2), (3, .int a3)]) hx hb dZM_leastAround_50 hl (k := 1) rfl rfl (by decide) rfl (fun ls hl => ?_)
          refine lv_goto (tgt := 14) hx hb dZM_leastAround_53 (by decide) ?_
          exact ih14 x4_14 (x5_14 + (1 : Int32)) hw ls (lv_sub hl [0, 1, 2, 3, 4, 5] rfl)
        · have hw := hw.2 c_4
          refine lv_aload_n hx hb dZM_leastAround_35 rfl (lv_at hl 2 rfl) ?_
          refine lv_iload_n hx hb dZM_leastAround_36 rfl (lv_at hl 3 rfl) ?_
          refine lv_iload hx hb dZM_leastAround_37 (lv_at hl 0 rfl) ?_
          refine lv_iload_n hx hb dZM_leastAround_39 rfl (lv_at hl 5 rfl) ?_
          refine vp_callSi (va_runV (As := [.int a1, .int x5_14, .int a3]) (rest := []) ⟨hx, hb, hml, hown, hts⟩ (kt_ZM_cost l dC dI cI om ozp ozs ozb ozl ozo ozk ozm ozg zt zw zh zp zs zb zz zl zo zc zr zu zv zq zi zk zm zd zg a1 x5_14 a3 _ hw) (cwV 3 hts (tb_V mm_856 mm_858 mp_24 mm_8 mm_859) rfl rfl rfl (by decide +kernel) ⟨Nat.le_of_ble_eq_true rfl, Nat.le_of_ble_eq_true rfl⟩) ⟨gr_blind, va_recv hK hP (ci := 6) (q0 := 0) rfl rfl, fun U hU hW => gr_pre hP hK hE hU hW⟩ rfl rfl hl.1 rfl (lv_room (Nat.le_of_ble_eq_true rfl)) dZM_leastAround_40 ⟨Nat.le_of_ble_eq_true rfl, Nat.le_of_ble_eq_true rfl⟩).run (fun r_5 hw => ?_)
          refine lv_goto (tgt := 48) hx hb dZM_leastAround_43 (by decide) ?_
          refine lv_istore (lv' := [(4, .int r_5), (5, .int x5_14), (0, .ref om), (1, .int a1), (2, .int a2), (3, .int a3)]) hx hb dZM_leastAround_48 hl (by decide) rfl (fun ls hl => ?_)
          refine lv_iinc (v := x5_14 + (1 : Int32)) (lv' := [(5, .int (x5_14 + (1 : Int32))), (4, .int r_5), (0, .ref om), (1, .int a1), (2, .int a2), (3, .int a3)]) hx hb dZM_leastAround_50 hl (k := 1) rfl rfl (by decide) rfl (fun ls hl => ?_)
          refine lv_goto (tgt := 14) hx hb dZM_leastAround_53 (by decide) ?_
          exact ih14 r_5 (x5_14 + (1 : Int32)) hw ls (lv_sub hl [0, 1, 2, 3, 4, 5] rfl)
  obtain ⟨n14, hw⟩ := hw
  refine lp14 _ (fun x4_14e x5_14e hw ls hl => ?_) n14 r_1 a2 hw ls (lv_sub hl [0, 1, 2, 3, 4, 5] rfl)
  refine lv_iload hx hb dZM_leastAround_56 (lv_at hl 1 rfl) ?_
  subst hQ9
  exact W.iret (v := x4_14e) hx hb hr (fun t ht hW => ⟨x4_14e, rfl, hw, ht⟩) (fun q h => nomatch h) dZM_leastAround_58
