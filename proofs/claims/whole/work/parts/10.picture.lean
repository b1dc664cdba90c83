theorem dZP_sampleAt_0 : decode cZP_sampleAt 0 = .ok (.aload_n 0, 1) := by decide +kernel
theorem dZP_sampleAt_1 : decode cZP_sampleAt 1 = .ok (.getfield 16, 3) := by decide +kernel
theorem dZP_sampleAt_4 : decode cZP_sampleAt 4 = .ok (.iload_n 2, 1) := by decide +kernel
theorem dZP_sampleAt_5 : decode cZP_sampleAt 5 = .ok (.aload_n 0, 1) := by decide +kernel
theorem dZP_sampleAt_6 : decode cZP_sampleAt 6 = .ok (.getfield 7, 3) := by decide +kernel
theorem dZP_sampleAt_9 : decode cZP_sampleAt 9 = .ok (.imul, 1) := by decide +kernel
theorem dZP_sampleAt_10 : decode cZP_sampleAt 10 = .ok (.iload_n 1, 1) := by decide +kernel
theorem dZP_sampleAt_11 : decode cZP_sampleAt 11 = .ok (.iadd, 1) := by decide +kernel
theorem dZP_sampleAt_12 : decode cZP_sampleAt 12 = .ok (.iaload, 1) := by decide +kernel
theorem dZP_sampleAt_13 : decode cZP_sampleAt 13 = .ok (.ireturn, 1) := by decide +kernel
abbrev wsZP_sampleAt : List Cond := .code yZP_sampleAt cZP_sampleAt 3 (some .int) :: tbg
def wp_ZP_sampleAt (pw : Int32) (ph : Int32) (pn : Nat) (pf : Nat → Int32) (a1 : Int32) (a2 : Int32) (post : Int32 → Prop) : Prop := vp_in ((a2 * pw) + a1) pn ∧ (post (pf ((a2 * pw) + a1).toNatClampNeg))
abbrev rm_ZP_sampleAt : Room := { frames := 0, cells := 0, slots := 0, locals := 0 }
set_option maxHeartbeats 4000000 in
set_option maxRecDepth 100000 in
theorem kt_ZP_sampleAt (l : Launch) (dC : Nat → ClassId) (dI : Nat → Nat → Nat) (cI : ClassId) (op opa : Nat) (pw : Int32) (ph : Int32) (pn : Nat) (pf : Nat → Int32) (a1 : Int32) (a2 : Int32) (post : Int32 → Prop) (hw : wp_ZP_sampleAt pw ph pn pf a1 a2 post) : Met l yZP_sampleAt wsZP_sampleAt rm_ZP_sampleAt (gr_Pc dC dI [(cI, .int)] [.ref op, .int a1, .int a2] [(op, .inr (1, [.int pw, .int ph, .ref opa])), (opa, .inl (cI, pn, .inl pf))]) (vp_Si post) 0 0 (fun _ => False) := by
  refine Met.ofW (cc := cZP_sampleAt) (maxL := 3) (ret := (some .int)) (by decide) rfl ?_
  intro p e s m args below meth c s₁ B hml hv
  obtain ⟨ha9, hP, hK, hE⟩ := hv
  have hx := B.exec
  have hb := B.bytes
  have hr := B.returns
  have hts0 := atoms_spec (ws := wsZP_sampleAt) B.pre
  have hts : ∀ w ∈ tbg, w.before args s = true := fun w h => hts0 w (List.mem_cons_of_mem _ h)
  have hown : s.vm.findClass RZP = some m.cls := findClass_of_methodNamed B.named
  have hlocks := B.notSynchronized
  refine gx_Q (fun Q9 hQ9 => ?_)
  have hl := lv_entry ([.ref op, .int a1, .int a2]) (n := 3) (Nat.le_of_ble_eq_true rfl)
  have he9 : entryFrame m args 3 = F0 m 0 ((lg_sl [.ref op, .int a1, .int a2] ++ List.replicate (3 - (lg_sl ([.ref op, .int a1, .int a2] : List Value)).length) Slot.unset).toArray) [] := by rw [ha9]; exact lg_entry_eq m [.ref op, .int a1, .int a2] 3
  rw [he9]
  generalize (lg_sl ([.ref op, .int a1, .int a2] : List Value) ++ List.replicate (3 - (lg_sl ([.ref op, .int a1, .int a2] : List Value)).length) Slot.unset).toArray = ls at hl ⊢
  have hl : lv_has ls 3 [(0, .ref op), (1, .int a1), (2, .int a2)] := hl
  refine lv_aload_n hx hb dZP_sampleAt_0 rfl (lv_at hl 0 rfl) ?_
  refine va_get (D := (dC, dI)) (ci := 1) (v := .ref opa) (C := RZP) (T := TZP) (N := 3) hx hb hts inZP hown hK hP 0 rfl rfl 2 (by decide) (hts _ mm_45) (fun _ h9 => h9) rfl dZP_sampleAt_1 ?_
  refine lv_iload_n hx hb dZP_sampleAt_4 rfl (lv_at hl 2 rfl) ?_
  refine lv_aload_n hx hb dZP_sampleAt_5 rfl (lv_at hl 0 rfl) ?_
  refine va_get (D := (dC, dI)) (ci := 1) (v := .int pw) (C := RZP) (T := TZP) (N := 3) hx hb hts inZP hown hK hP 0 rfl rfl 0 (by decide) (hts _ mm_37) (fun _ h9 => h9) rfl dZP_sampleAt_6 ?_
  refine lv_imul hx hb dZP_sampleAt_9 ?_
  refine lv_iload_n hx hb dZP_sampleAt_10 rfl (lv_at hl 1 rfl) ?_
  refine lv_iadd hx hb dZP_sampleAt_11 ?_
  obtain ⟨h_1, hw⟩ := hw
  refine va_iald hx hb hK hP 1 0 rfl rfl h_1 dZP_sampleAt_12 ?_
  subst hQ9
  exact W.iret (v := pf ((a2 * pw) + a1).toNatClampNeg) hx hb hr (fun t ht hW => ⟨pf ((a2 * pw) + a1).toNatClampNeg, rfl, hw, ht⟩) (fun q h => nomatch h) dZP_sampleAt_13
theorem dZP_sumOfPart_0 : decode cZP_sumOfPart 0 = .ok (.iconst 0, 1) := by decide +kernel
theorem dZP_sumOfPart_1 : decode cZP_sumOfPart 1 = .ok (.istore 5, 2) := by decide +kernel
theorem dZP_sumOfPart_3 : decode cZP_sumOfPart 3 = .ok (.iload_n 2, 1) := by decide +kernel
theorem dZP_sumOfPart_4 : decode cZP_sumOfPart 4 = .ok (.istore 6, 2) := by decide +kernel
theorem dZP_sumOfPart_6 : decode cZP_sumOfPart 6 = .ok (.iload 6, 2) := by decide +kernel
theorem dZP_sumOfPart_8 : decode cZP_sumOfPart 8 = .ok (.iload_n 2, 1) := by decide +kernel
theorem dZP_sumOfPart_9 : decode cZP_sumOfPart 9 = .ok (.iload 4, 2) := by decide +kernel
theorem dZP_sumOfPart_11 : decode cZP_sumOfPart 11 = .ok (.iadd, 1) := by decide +kernel
theorem dZP_sumOfPart_12 : decode cZP_sumOfPart 12 = .ok (.if_icmp .ge 39, 3) := by decide +kernel
theorem dZP_sumOfPart_15 : decode cZP_sumOfPart 15 = .ok (.iload_n 1, 1) := by decide +kernel
theorem dZP_sumOfPart_16 : decode cZP_sumOfPart 16 = .ok (.istore 7, 2) := by decide +kernel
theorem dZP_sumOfPart_18 : decode cZP_sumOfPart 18 = .ok (.iload 7, 2) := by decide +kernel
theorem dZP_sumOfPart_20 : decode cZP_sumOfPart 20 = .ok (.iload_n 1, 1) := by decide +kernel
theorem dZP_sumOfPart_21 : decode cZP_sumOfPart 21 = .ok (.iload_n 3, 1) := by decide +kernel
theorem dZP_sumOfPart_22 : decode cZP_sumOfPart 22 = .ok (.iadd, 1) := by decide +kernel
theorem dZP_sumOfPart_23 : decode cZP_sumOfPart 23 = .ok (.if_icmp .ge 22, 3) := by decide +kernel
theorem dZP_sumOfPart_26 : decode cZP_sumOfPart 26 = .ok (.iload 5, 2) := by decide +kernel
theorem dZP_sumOfPart_28 : decode cZP_sumOfPart 28 = .ok (.aload_n 0, 1) := by decide +kernel
theorem dZP_sumOfPart_29 : decode cZP_sumOfPart 29 = .ok (.iload 7, 2) := by decide +kernel
theorem dZP_sumOfPart_31 : decode cZP_sumOfPart 31 = .ok (.iload 6, 2) := by decide +kernel
theorem dZP_sumOfPart_33 : decode cZP_sumOfPart 33 = .ok (.invokevirtual 24, 3) := by decide +kernel
theorem dZP_sumOfPart_36 : decode cZP_sumOfPart 36 = .ok (.iadd, 1) := by decide +kernel
theorem dZP_sumOfPart_37 : decode cZP_sumOfPart 37 = .ok (.istore 5, 2) := by decide +kernel
theorem dZP_sumOfPart_39 : decode cZP_sumOfPart 39 = .ok (.iinc 7 1, 3) := by decide +kernel
theorem dZP_sumOfPart_42 : decode cZP_sumOfPart 42 = .ok (.goto (-24), 3) := by decide +kernel
theorem dZP_sumOfPart_45 : decode cZP_sumOfPart 45 = .ok (.iinc 6 1, 3) := by decide +kernel
theorem dZP_sumOfPart_48 : decode cZP_sumOfPart 48 = .ok (.goto (-42), 3) := by decide +kernel
theorem dZP_sumOfPart_51 : decode cZP_sumOfPart 51 = .ok (.iload 5, 2) := by decide +kernel
theorem dZP_sumOfPart_53 : decode cZP_sumOfPart 53 = .ok (.ireturn, 1) := by decide +kernel
abbrev wsZP_sumOfPart : List Cond := .code yZP_sumOfPart cZP_sumOfPart 8 (some .int) :: tbg
def lp_ZP_sumOfPart_18 (pw : Int32) (ph : Int32) (pn : Nat) (pf : Nat → Int32) (a1 : Int32) (a2 : Int32) (a3 : Int32) (a4 : Int32) (x5_6 : Int32) (x6_6 : Int32) (post : Int32 → Prop) (K18 : Int32 → Int32 → Prop) (n : Nat) : Int32 → Int32 → Prop := Nat.rec (motive := fun _ => Int32 → Int32 → Prop) (fun (x5_18 : Int32) (x7_18 : Int32) => False) (fun _ ih18 (x5_18 : Int32) (x7_18 : Int32) => (((a1 + a3) ≤ x7_18 → (K18 x5_18 x7_18)) ∧ (¬ (a1 + a3) ≤ x7_18 → (wp_ZP_sampleAt pw ph pn pf x7_18 x6_6 (fun r_3 : Int32 => ih18 (x5_18 + r_3) (x7_18 + (1 : Int32))))))) n
def lp_ZP_sumOfPart_6 (pw : Int32) (ph : Int32) (pn : Nat) (pf : Nat → Int32) (a1 : Int32) (a2 : Int32) (a3 : Int32) (a4 : Int32) (post : Int32 → Prop) (K6 : Int32 → Int32 → Prop) (n : Nat) : Int32 → Int32 → Prop := Nat.rec (motive := fun _ => Int32 → Int32 → Prop) (fun (x5_6 : Int32) (x6_6 : Int32) => False) (fun _ ih6 (x5_6 : Int32) (x6_6 : Int32) => (((a2 + a4) ≤ x6_6 → (K6 x5_6 x6_6)) ∧ (¬ (a2 + a4) ≤ x6_6 → (∃ n : Nat, lp_ZP_sumOfPart_18 pw ph pn pf a1 a2 a3 a4 x5_6 x6_6 post (fun (x5_18e : Int32) (x7_18e : Int32) => ih6 x5_18e (x6_6 + (1 : Int32))) n x5_6 a1)))) n
def wp_ZP_sumOfPart (pw : Int32) (ph : Int32) (pn : Nat) (pf : Nat → Int32) (a1 : Int32) (a2 : Int32) (a3 : Int32) (a4 : Int32) (post : Int32 → Prop) : Prop := ∃ n : Nat, lp_ZP_sumOfPart_6 pw ph pn pf a1 a2 a3 a4 post (fun (x5_6e : Int32) (x6_6e : Int32) => post x5_6e) n (0 : Int32) a2
abbrev rm_ZP_sumOfPart : Room := { frames := 1, cells := 0, slots := 0, locals := 22 }
set_option maxHeartbeats 4000000 in
set_option maxRecDepth 100000 in
theorem kt_ZP_sumOfPart (l : Launch) (dC : Nat → ClassId) (dI : Nat → Nat → Nat) (cI : ClassId) (op opa : Nat) (pw : Int32) (ph : Int32) (pn : Nat) (pf : Nat → Int32) (a1 : Int32) (a2 : Int32) (a3 : Int32) (a4 : Int32) (post : Int32 → Prop) (hw : wp_ZP_sumOfPart pw ph pn pf a1 a2 a3 a4 post) : Met l yZP_sumOfPart wsZP_sumOfPart rm_ZP_sumOfPart (gr_Pc dC dI [(cI, .int)] [.ref op, .int a1, .int a2, .int a3, .int a4] [(op, .inr (1, [.int pw, .int ph, .ref opa])), (opa, .inl (cI, pn, .inl pf))]) (vp_Si post) 0 0 (fun _ => False) := by
  refine Met.ofW (cc := cZP_sumOfPart) (maxL := 8) (ret := (some .int)) (by decide) rfl ?_
  intro p e s m args below meth c s₁ B hml hv
  obtain ⟨ha9, hP, hK, hE⟩ := hv
  have hx := B.exec
  have hb := B.bytes
  have hr := B.returns
  have hts0 := atoms_spec (ws := wsZP_sumOfPart) B.pre
  have hts : ∀ w ∈ tbg, w.before args s = true := fun w h => hts0 w (List.mem_cons_of_mem _ h)
  have hown : s.vm.findClass RZP = some m.cls := findClass_of_methodNamed B.named
  have hlocks := B.notSynchronized
  refine gx_Q (fun Q9 hQ9 => ?_)
  have hl := lv_entry ([.ref op, .int a1, .int a2, .int a3, .int a4]) (n := 8) (Nat.le_of_ble_eq_true rfl)
  have he9 : entryFrame m args 8 = F0 m 0 ((lg_sl [.ref op, .int a1, .int a2, .int a3, .int a4] ++ List.replicate (8 - (lg_sl ([.ref op, .int a1, .int a2, .int a3, .int a4] : List Value)).length) Slot.unset).toArray) [] := by rw [ha9]; exact lg_entry_eq m [.ref op, .int a1, .int a2, .int a3, .int a4] 8
  rw [he9]
  generalize (lg_sl ([.ref op, .int a1, .int a2, .int a3, .int a4] : List Value) ++ List.replicate (8 - (lg_sl ([.ref op, .int a1, .int a2, .int a3, .int a4] : List Value)).length) Slot.unset).toArray = ls at hl ⊢
  have hl : lv_has ls 8 [(0, .ref op), (1, .int a1), (2, .int a2), (3, .int a3), (4, .int a4)] := hl
  refine lv_iconst (v := (0 : Int32)) hx hb dZP_sumOfPart_0 (by decide) ?_
  refine lv_istore (lv' := [(5, .int (0 : Int32)), (0, .ref op), (1, .int a1), (2, .int a2), (3, .int a3), (4, .int a4)]) hx hb dZP_sumOfPart_1 hl (by decide) rfl (fun ls hl => ?_)
  refine lv_iload_n hx hb dZP_sumOfPart_3 rfl (lv_at hl 3 rfl) ?_
  refine lv_istore (lv' := [(6, .int a2), (5, .int (0 : Int32)), (0, .ref op), (1, .int a1), (2, .int a2), (3, .int a3), (4, .int a4)]) hx hb dZP_sumOfPart_4 hl (by decide) rfl (fun ls hl => ?_)
  have lp6 : ∀ K6 : Int32 → Int32 → Prop, (∀ (x5_6 : Int32) (x6_6 : Int32), K6 x5_6 x6_6 → ∀ ls : Array Slot, lv_has ls 8 [(6, .int x6_6), (5, .int x5_6), (0, .ref op), (1, .int a1), (2, .int a2), (3, .int a3), (4, .int a4)] → W p l e (headSpec wsZP_sumOfPart rm_ZP_sumOfPart).room s m args below meth c s.heap [] 0 0 Q9 (F0 m 51 ls [])) → ∀ (n : Nat) (x5_6 : Int32) (x6_6 : Int32), lp_ZP_sumOfPart_6 pw ph pn pf a1 a2 a3 a4 post K6 n x5_6 x6_6 → ∀ ls : Array Slot, lv_has ls 8 [(6, .int x6_6), (5, .int x5_6), (0, .ref op), (1, .int a1), (2, .int a2), (3, .int a3), (4, .int a4)] → W p l e (headSpec wsZP_sumOfPart rm_ZP_sumOfPart).room s m args below meth c s.heap [] 0 0 Q9 (F0 m 6 ls []) := by
    intro K6 aft6 n
    induction n with
    | zero => intro x5_6 x6_6 hw; exact False.elim hw
    | succ n ih6 =>
      intro x5_6 x6_6 hw ls hl
      refine lv_iload hx hb dZP_sumOfPart_6 (lv_at hl 0 rfl) ?_
      refine lv_iload_n hx hb dZP_sumOfPart_8 rfl (lv_at hl 4 rfl) ?_
      refine lv_iload hx hb dZP_sumOfPart_9 (lv_at hl 6 rfl) ?_
      refine lv_iadd hx hb dZP_sumOfPart_11 ?_
      refine lv_icmp_ge (tgt := 51) hx hb dZP_sumOfPart_12 (by decide) (fun c_1 => ?_) (fun c_1 => ?_)
      · have hw := hw.1 c_1
        exact aft6 x5_6 x6_6 hw ls (lv_sub hl [0, 1, 2, 3, 4, 5, 6] rfl)
      · have hw := hw.2 c_1
        refine lv_iload_n hx hb dZP_sumOfPart_15 rfl (lv_at hl 3 rfl) ?_
        refine lv_istore (lv' := [(7, .int a1), (6, .int x6_6), (5, .int x5_6), (0, .ref op), (1, .int a1), (2, .int a2), (3, .int a3), (4, .int a4)]) hx hb dZP_sumOfPart_16 hl (by decide) rfl (fun ls hl => ?_)
        have lp18 : ∀ K18 : Int32 → Int32 → Prop, (∀ (x5_18 : Int32) (x7_18 : Int32), K18 x5_18 x7_18 → ∀ ls : Array Slot, lv_has ls 8 [(7, .int x7_18), (6, .int x6_6), (5, .int x5_18), (0, .ref op), (1, .int a1), (2, .int a2), (3, .int a3), (4, .int a4)] → W p l e (headSpec wsZP_sumOfPart rm_ZP_sumOfPart).room s m args below meth c s.heap [] 0 0 Q9 (F0 m 45 ls [])) → ∀ (n : Nat) (x5_18 : Int32) (x7_18 : Int32), lp_ZP_sumOfPart_18 pw ph pn pf a1 a2 a3 a4 x5_6 x6_6 post K18 n x5_18 x7_18 → ∀ ls : Array Slot, lv_has ls 8 [(7, .int x7_18), (6, .int x6_6), (5, .int x5_18), (0, .ref op), (1, .int a1), (2, .int a2), (3, .int a3), (4, .int a4)] → W p l e (headSpec wsZP_sumOfPart rm_ZP_sumOfPart).room s m args below meth c s.heap [] 0 0 Q9 (F0 m 18 ls []) := by
          intro K18 aft18 n
          induction n with
          | zero => intro x5_18 x7_18 hw; exact False.elim hw
          | succ n ih18 =>
            intro x5_18 x7_18 hw ls hl
            refine lv_iload hx hb dZP_sumOfPart_18 (lv_at hl 0 rfl) ?_
            refine lv_iload_n hx hb dZP_sumOfPart_20 rfl (lv_at hl 4 rfl) ?_
            refine lv_iload_n hx hb dZP_sumOfPart_21 rfl (lv_at hl 6 rfl) ?_
            refine lv_iadd hx hb dZP_sumOfPart_22 ?_
            refine lv_icmp_ge (tgt := 45) hx hb dZP_sumOfPart_23 (by decide) (fun c_2 => ?_) (fun c_2 => ?_)
            · have hw := hw.1 c_2
              exact aft18 x5_18 x7_18 hw ls (lv_sub hl [0, 1, 2, 3, 4, 5, 6, 7] rfl)
            · have hw := hw.2 c_2
              refine lv_iload hx hb dZP_sumOfPart_26 (lv_at hl 2 rfl) ?_
              refine lv_aload_n hx hb dZP_sumOfPart_28 rfl (lv_at hl 3 rfl) ?_
              refine lv_iload hx hb dZP_sumOfPart_29 (lv_at hl 0 rfl) ?_
              refine lv_iload hx hb dZP_sumOfPart_31 (lv_at hl 1 rfl) ?_
              refine vp_callSi (va_runV (As := [.int x7_18, .int x6_6]) (rest := [.int x5_18]) ⟨hx, hb, hml, hown, hts⟩ (kt_ZP_sampleAt l dC dI cI op opa pw ph pn pf x7_18 x6_6 _ hw) (cwV 2 hts (tb_V mm_419 mm_331 mm_332 mm_3 mm_333) rfl rfl rfl (by decide +kernel) ⟨Nat.le_of_ble_eq_true rfl, Nat.le_of_ble_eq_true rfl⟩) ⟨gr_blind, va_recv hK hP (ci := 1) (q0 := 0) rfl rfl, fun U hU hW => gr_pre hP hK hE hU hW⟩ rfl rfl hl.1 rfl (lv_room (Nat.le_of_ble_eq_true rfl)) dZP_sumOfPart_33 ⟨Nat.le_of_ble_eq_true rfl, Nat.le_of_ble_eq_true rfl⟩).run (fun r_3 hw => ?_)
              refine lv_iadd hx hb dZP_sumOfPart_36 ?_
              refine lv_istore (lv' := [(5, .int (x5_18 + r_3)), (7, .int x7_18), (6, .int x6_6), (0, .ref op), (1, .int a1), (2, .int a2), (3, .int a3), (4, .int a4)]) hx hb dZP_sumOfPart_37 hl (by decide) rfl (fun ls hl => ?_)
              refine lv_iinc (v := x7_18 + (1 : Int32)) (lv' := [(7, .int (x7_18 + (1 : Int32))), (5, .int (x5_18 + r_3)), (6, .int x6_6), (0, .ref op), (1, .int a1), (2, .int a2), (3, .int a3), (4, .int a4)]) hx hb dZP_sumOfPart_39 hl (k := 1) rfl rfl (by decide) rfl (fun ls hl => ?_)
              refine lv_goto (tgt := 18) hx hb dZP_sumOfPart_42 (by decide) ?_
              exact ih18 (x5_18 + r_3) (x7_18 + (1 : Int32)) hw ls (lv_sub hl [0, 2, 1, 3, 4, 5, 6, 7] rfl)
        obtain ⟨n18, hw⟩ := hw
        refine lp18 _ (fun x5_18e x7_18e hw ls hl => ?_) n18 x5_6 a1 hw ls (lv_sub hl [0, 1, 2, 3, 4, 5, 6, 7] rfl)
        refine lv_iinc (v := x6_6 + (1 : Int32)) (lv' := [(6, .int (x6_6 + (1 : Int32))), (7, .int x7_18e), (5, .int x5_18e), (0, .ref op), (1, .int a1), (2, .int a2), (3, .int a3), (4, .int a4)]) hx hb dZP_sumOfPart_45 hl (k := 1) rfl rfl (by decide) rfl (fun ls hl => ?_)
        refine lv_goto (tgt := 6) hx hb dZP_sumOfPart_48 (by decide) ?_
        exact ih6 x5_18e (x6_6 + (1 : Int32)) hw ls (lv_sub hl [0, 2, 3, 4, 5, 6, 7] rfl)
  obtain ⟨n6, hw⟩ := hw
  refine lp6 _ (fun x5_6e x6_6e hw ls hl => ?_) n6 (0 : Int32) a2 hw ls (lv_sub hl [0, 1, 2, 3, 4, 5, 6] rfl)
  refine lv_iload hx hb dZP_sumOfPart_51 (lv_at hl 1 rfl) ?_
  subst hQ9
  exact W.iret (v := x5_6e) hx hb hr (fun t ht hW => ⟨x5_6e, rfl, hw, ht⟩) (fun q h => nomatch h) dZP_sumOfPart_53
theorem dZP_setSample_0 : decode cZP_setSample 0 = .ok (.aload_n 0, 1) := by decide +kernel
theorem dZP_setSample_1 : decode cZP_setSample 1 = .ok (.getfield 16, 3) := by decide +kernel
theorem dZP_setSample_4 : decode cZP_setSample 4 = .ok (.iload_n 2, 1) := by decide +kernel
theorem dZP_setSample_5 : decode cZP_setSample 5 = .ok (.aload_n 0, 1) := by decide +kernel
theorem dZP_setSample_6 : decode cZP_setSample 6 = .ok (.getfield 7, 3) := by decide +kernel
theorem dZP_setSample_9 : decode cZP_setSample 9 = .ok (.imul, 1) := by decide +kernel
theorem dZP_setSample_10 : decode cZP_setSample 10 = .ok (.iload_n 1, 1) := by decide +kernel
theorem dZP_setSample_11 : decode cZP_setSample 11 = .ok (.iadd, 1) := by decide +kernel
theorem dZP_setSample_12 : decode cZP_setSample 12 = .ok (.iload_n 3, 1) := by decide +kernel
theorem dZP_setSample_13 : decode cZP_setSample 13 = .ok (.iastore, 1) := by decide +kernel
theorem dZP_setSample_14 : decode cZP_setSample 14 = .ok (.return_, 1) := by decide +kernel
abbrev wsZP_setSample : List Cond := .code yZP_setSample cZP_setSample 4 none :: tbg
def wp_ZP_setSample (pw : Int32) (ph : Int32) (pn : Nat) (pf : Nat → Int32) (a1 : Int32) (a2 : Int32) (a3 : Int32) (post : (Nat → Int32) → Prop) : Prop := vp_in ((a2 * pw) + a1) pn ∧ (post (upd pf ((a2 * pw) + a1).toNatClampNeg a3))
abbrev rm_ZP_setSample : Room := { frames := 0, cells := 0, slots := 0, locals := 0 }
set_option maxHeartbeats 4000000 in
set_option maxRecDepth 100000 in
theorem kt_ZP_setSample (l : Launch) (dC : Nat → ClassId) (dI : Nat → Nat → Nat) (cI : ClassId) (op opa : Nat) (sz : Nat) (pw : Int32) (ph : Int32) (pn : Nat) (pf : Nat → Int32) (a1 : Int32) (a2 : Int32) (a3 : Int32) (post : (Nat → Int32) → Prop) (hw : wp_ZP_setSample pw ph pn pf a1 a2 a3 post) : Met l yZP_setSample wsZP_setSample rm_ZP_setSample (gw_Pc dC dI [(cI, .int)] [.ref op, .int a1, .int a2, .int a3] [(op, .inr (1, [.int pw, .int ph, .ref opa])), (opa, .inl (cI, pn, .inl pf))] sz) (va_Qv (fun (u : (Nat → Int32)) => post u) (fun u t => gw_B dC dI [(cI, .int)] (va_A [(op, .inr (1, [.int pw, .int ph, .ref opa])), (opa, .inl (cI, pn, .inl pf))] sz) [(op, .inr (1, [.int pw, .int ph, .ref opa])), (opa, .inl (cI, pn, .inl u))] t) (va_A [(op, .inr (1, [.int pw, .int ph, .ref opa])), (opa, .inl (cI, pn, .inl pf))] sz)) 0 0 (va_A [(op, .inr (1, [.int pw, .int ph, .ref opa])), (opa, .inl (cI, pn, .inl pf))] sz) := by
  refine Met.ofW (cc := cZP_setSample) (maxL := 4) (ret := none) (by decide) rfl ?_
  intro p e s m args below meth c s₁ B hml hv
  obtain ⟨ha9, hsz, hP, hK, hE, hD0⟩ := hv
  have hx := B.exec
  have hb := B.bytes
  have hr := B.returns
  have hts0 := atoms_spec (ws := wsZP_setSample) B.pre
  have hts : ∀ w ∈ tbg, w.before args s = true := fun w h => hts0 w (List.mem_cons_of_mem _ h)
  have hown : s.vm.findClass RZP = some m.cls := findClass_of_methodNamed B.named
  have hlocks := B.notSynchronized
  subst hsz
  have hD := hD0.self (sz := s.heap.size)
  refine gx_Q (fun Q9 hQ9 => ?_)
  generalize hAe : va_A [(op, .inr (1, [.int pw, .int ph, .ref opa])), (opa, .inl (cI, pn, .inl pf))] s.heap.size = A at hD hQ9 ⊢
  have hA : ∀ q : Nat, s.heap.size ≤ q → A q := fun q h => by rw [← hAe]; exact Or.inr h
  have hS : va_S A s.heap s.heap [] := va_S.rf
  have hl := lv_entry ([.ref op, .int a1, .int a2, .int a3]) (n := 4) (Nat.le_of_ble_eq_true rfl)
  have he9 : entryFrame m args 4 = F0 m 0 ((lg_sl [.ref op, .int a1, .int a2, .int a3] ++ List.replicate (4 - (lg_sl ([.ref op, .int a1, .int a2, .int a3] : List Value)).length) Slot.unset).toArray) [] := by rw [ha9]; exact lg_entry_eq m [.ref op, .int a1, .int a2, .int a3] 4
  rw [he9]
  generalize (lg_sl ([.ref op, .int a1, .int a2, .int a3] : List Value) ++ List.replicate (4 - (lg_sl ([.ref op, .int a1, .int a2, .int a3] : List Value)).length) Slot.unset).toArray = ls at hl ⊢
  have hl : lv_has ls 4 [(0, .ref op), (1, .int a1), (2, .int a2), (3, .int a3)] := hl
  refine lv_aload_n hx hb dZP_setSample_0 rfl (lv_at hl 0 rfl) ?_
  refine va_get (D := (dC, dI)) (ci := 1) (v := .ref opa) (C := RZP) (T := TZP) (N := 3) hx hb hts inZP hown hK hP 0 rfl rfl 2 (by decide) (hts _ mm_45) (fun _ h9 => h9) rfl dZP_setSample_1 ?_
  refine lv_iload_n hx hb dZP_setSample_4 rfl (lv_at hl 2 rfl) ?_
  refine lv_aload_n hx hb dZP_setSample_5 rfl (lv_at hl 0 rfl) ?_
  refine va_get (D := (dC, dI)) (ci := 1) (v := .int pw) (C := RZP) (T := TZP) (N := 3) hx hb hts inZP hown hK hP 0 rfl rfl 0 (by decide) (hts _ mm_37) (fun _ h9 => h9) rfl dZP_setSample_6 ?_
  refine lv_imul hx hb dZP_setSample_9 ?_
  refine lv_iload_n hx hb dZP_setSample_10 rfl (lv_at hl 1 rfl) ?_
  refine lv_iadd hx hb dZP_setSample_11 ?_
  refine lv_iload_n hx hb dZP_setSample_12 rfl (lv_at hl 3 rfl) ?_
  obtain ⟨h_1, hw⟩ := hw
  refine va_iast hx hb hK hP hD hS 1 0 rfl rfl h_1 dZP_setSample_13 (fun H locs hP hD hS => ?_)
  have hP : va_P (dC, dI) vwCl [(op, .inr (1, [.int pw, .int ph, .ref opa])), (opa, .inl (cI, pn, .inl (upd pf ((a2 * pw) + a1).toNatClampNeg a3)))] H := hP
  have hD : va_D A [(op, .inr (1, [.int pw, .int ph, .ref opa])), (opa, .inl (cI, pn, .inl (upd pf ((a2 * pw) + a1).toNatClampNeg a3)))] := hD
  have hP9 := hP.sub (ws' := [(op, .inr (1, [.int pw, .int ph, .ref opa])), (opa, .inl (cI, pn, .inl (upd pf ((a2 * pw) + a1).toNatClampNeg a3)))]) [0, 1] rfl
  have hD9 := hD.sub (ws' := [(op, .inr (1, [.int pw, .int ph, .ref opa])), (opa, .inl (cI, pn, .inl (upd pf ((a2 * pw) + a1).toNatClampNeg a3)))]) [0, 1] (by decide) rfl
  subst hQ9
  exact W.vret hx hb hr (fun t ht hW => ⟨⟨upd pf ((a2 * pw) + a1).toNatClampNeg a3, rfl, hw, by rw [ht]; exact hP9, va_K.moved hW.alike hK, hD9⟩, hS.F ht⟩) hS.2.2 dZP_setSample_14
theorem dZP_fillPart_0 : decode cZP_fillPart 0 = .ok (.iload_n 2, 1) := by decide +kernel
theorem dZP_fillPart_1 : decode cZP_fillPart 1 = .ok (.istore 6, 2) := by decide +kernel
theorem dZP_fillPart_3 : decode cZP_fillPart 3 = .ok (.iload 6, 2) := by decide +kernel
theorem dZP_fillPart_5 : decode cZP_fillPart 5 = .ok (.iload_n 2, 1) := by decide +kernel
theorem dZP_fillPart_6 : decode cZP_fillPart 6 = .ok (.iload 4, 2) := by decide +kernel
theorem dZP_fillPart_8 : decode cZP_fillPart 8 = .ok (.iadd, 1) := by decide +kernel
theorem dZP_fillPart_9 : decode cZP_fillPart 9 = .ok (.if_icmp .ge 36, 3) := by decide +kernel
theorem dZP_fillPart_12 : decode cZP_fillPart 12 = .ok (.iload_n 1, 1) := by decide +kernel
theorem dZP_fillPart_13 : decode cZP_fillPart 13 = .ok (.istore 7, 2) := by decide +kernel
theorem dZP_fillPart_15 : decode cZP_fillPart 15 = .ok (.iload 7, 2) := by decide +kernel
theorem dZP_fillPart_17 : decode cZP_fillPart 17 = .ok (.iload_n 1, 1) := by decide +kernel
theorem dZP_fillPart_18 : decode cZP_fillPart 18 = .ok (.iload_n 3, 1) := by decide +kernel
theorem dZP_fillPart_19 : decode cZP_fillPart 19 = .ok (.iadd, 1) := by decide +kernel
theorem dZP_fillPart_20 : decode cZP_fillPart 20 = .ok (.if_icmp .ge 19, 3) := by decide +kernel
theorem dZP_fillPart_23 : decode cZP_fillPart 23 = .ok (.aload_n 0, 1) := by decide +kernel
theorem dZP_fillPart_24 : decode cZP_fillPart 24 = .ok (.iload 7, 2) := by decide +kernel
theorem dZP_fillPart_26 : decode cZP_fillPart 26 = .ok (.iload 6, 2) := by decide +kernel
theorem dZP_fillPart_28 : decode cZP_fillPart 28 = .ok (.iload 5, 2) := by decide +kernel
theorem dZP_fillPart_30 : decode cZP_fillPart 30 = .ok (.invokevirtual 20, 3) := by decide +kernel
theorem dZP_fillPart_33 : decode cZP_fillPart 33 = .ok (.iinc 7 1, 3) := by decide +kernel
theorem dZP_fillPart_36 : decode cZP_fillPart 36 = .ok (.goto (-21), 3) := by decide +kernel
theorem dZP_fillPart_39 : decode cZP_fillPart 39 = .ok (.iinc 6 1, 3) := by decide +kernel
theorem dZP_fillPart_42 : decode cZP_fillPart 42 = .ok (.goto (-39), 3) := by decide +kernel
theorem dZP_fillPart_45 : decode cZP_fillPart 45 = .ok (.return_, 1) := by decide +kernel
abbrev wsZP_fillPart : List Cond := .code yZP_fillPart cZP_fillPart 8 none :: tbg
def lp_ZP_fillPart_15 (pw : Int32) (ph : Int32) (pn : Nat) (pf : Nat → Int32) (a1 : Int32) (a2 : Int32) (a3 : Int32) (a4 : Int32) (a5 : Int32) (x6_3 : Int32) (f_3_opa : Nat → Int32) (post : (Nat → Int32) → Prop) (K15 : Int32 → (Nat → Int32) → Prop) (n : Nat) : Int32 → (Nat → Int32) → Prop := Nat.rec (motive := fun _ => Int32 → (Nat → Int32) → Prop) (fun (x7_15 : Int32) (f_15_opa : Nat → Int32) => False) (fun _ ih15 (x7_15 : Int32) (f_15_opa : Nat → Int32) => (((a1 + a3) ≤ x7_15 → (K15 x7_15 f_15_opa)) ∧ (¬ (a1 + a3) ≤ x7_15 → (wp_ZP_setSample pw ph pn f_15_opa x7_15 x6_3 a5 (fun (pf_3 : Nat → Int32) => ih15 (x7_15 + (1 : Int32)) pf_3))))) n
def lp_ZP_fillPart_3 (pw : Int32) (ph : Int32) (pn : Nat) (pf : Nat → Int32) (a1 : Int32) (a2 : Int32) (a3 : Int32) (a4 : Int32) (a5 : Int32) (post : (Nat → Int32) → Prop) (K3 : Int32 → (Nat → Int32) → Prop) (n : Nat) : Int32 → (Nat → Int32) → Prop := Nat.rec (motive := fun _ => Int32 → (Nat → Int32) → Prop) (fun (x6_3 : Int32) (f_3_opa : Nat → Int32) => False) (fun _ ih3 (x6_3 : Int32) (f_3_opa : Nat → Int32) => (((a2 + a4) ≤ x6_3 → (K3 x6_3 f_3_opa)) ∧ (¬ (a2 + a4) ≤ x6_3 → (∃ n : Nat, lp_ZP_fillPart_15 pw ph pn pf a1 a2 a3 a4 a5 x6_3 f_3_opa post (fun (x7_15e : Int32) (f_15e_opa : Nat → Int32) => ih3 (x6_3 + (1 : Int32)) f_15e_opa) n a1 f_3_opa)))) n
def wp_ZP_fillPart (pw : Int32) (ph : Int32) (pn : Nat) (pf : Nat → Int32) (a1 : Int32) (a2 : Int32) (a3 : Int32) (a4 : Int32) (a5 : Int32) (post : (Nat → Int32) → Prop) : Prop := ∃ n : Nat, lp_ZP_fillPart_3 pw ph pn pf a1 a2 a3 a4 a5 post (fun (x6_3e : Int32) (f_3e_opa : Nat → Int32) => post f_3e_opa) n a2 pf
abbrev rm_ZP_fillPart : Room := { frames := 1, cells := 0, slots := 0, locals := 23 }
set_option maxHeartbeats 4000000 in
set_option maxRecDepth 100000 in
theorem kt_ZP_fillPart (l : Launch) (dC : Nat → ClassId) (dI : Nat → Nat → Nat) (cI : ClassId) (op opa : Nat) (sz : Nat) (pw : Int32) (ph : Int32) (pn : Nat) (pf : Nat → Int32) (a1 : Int32) (a2 : Int32) (a3 : Int32) (a4 : Int32) (a5 : Int32) (post : (Nat → Int32) → Prop) (hw : wp_ZP_fillPart pw ph pn pf a1 a2 a3 a4 a5 post) : Met l yZP_fillPart wsZP_fillPart rm_ZP_fillPart (gw_Pc dC dI [(cI, .int)] [.ref op, .int a1, .int a2, .int a3, .int a4, .int a5] [(op, .inr (1, [.int pw, .int ph, .ref opa])), (opa, .inl (cI, pn, .inl pf))] sz) (va_Qv (fun (u : (Nat → Int32)) => post u) (fun u t => gw_B dC dI [(cI, .int)] (va_A [(op, .inr (1, [.int pw, .int ph, .ref opa])), (opa, .inl (cI, pn, .inl pf))] sz) [(op, .inr (1, [.int pw, .int ph, .ref opa])), (opa, .inl (cI, pn, .inl u))] t) (va_A [(op, .inr (1, [.int pw, .int ph, .ref opa])), (opa, .inl (cI, pn, .inl pf))] sz)) 0 0 (va_A [(op, .inr (1, [.int pw, .int ph, .ref opa])), (opa, .inl (cI, pn, .inl pf))] sz) := by
  refine Met.ofW (cc := cZP_fillPart) (maxL := 8) (ret := none) (by decide) rfl ?_
  intro p e s m args below meth c s₁ B hml hv
  obtain ⟨ha9, hsz, hP, hK, hE, hD0⟩ := hv
  have hx := B.exec
  have hb := B.bytes
  have hr := B.returns
  have hts0 := atoms_spec (ws := wsZP_fillPart) B.pre
  have hts : ∀ w ∈ tbg, w.before args s = true := fun w h => hts0 w (List.mem_cons_of_mem _ h)
  have hown : s.vm.findClass RZP = some m.cls := findClass_of_methodNamed B.named
  have hlocks := B.notSynchronized
  subst hsz
  have hD := hD0.self (sz := s.heap.size)
  refine gx_Q (fun Q9 hQ9 => ?_)
  generalize hAe : va_A [(op, .inr (1, [.int pw, .int ph, .ref opa])), (opa, .inl (cI, pn, .inl pf))] s.heap.size = A at hD hQ9 ⊢
  have hA : ∀ q : Nat, s.heap.size ≤ q → A q := fun q h => by rw [← hAe]; exact Or.inr h
  have hS : va_S A s.heap s.heap [] := va_S.rf
  have hl := lv_entry ([.ref op, .int a1, .int a2, .int a3, .int a4, .int a5]) (n := 8) (Nat.le_of_ble_eq_true rfl)
  have he9 : entryFrame m args 8 = F0 m 0 ((lg_sl [.ref op, .int a1, .int a2, .int a3, .int a4, .int a5] ++ List.replicate (8 - (lg_sl ([.ref op, .int a1, .int a2, .int a3, .int a4, .int a5] : List Value)).length) Slot.unset).toArray) [] := by rw [ha9]; exact lg_entry_eq m [.ref op, .int a1, .int a2, .int a3, .int a4, .int a5] 8
  rw [he9]
  generalize (lg_sl ([.ref op, .int a1, .int a2, .int a3, .int a4, .int a5] : List Value) ++ List.replicate (8 - (lg_sl ([.ref op, .int a1, .int a2, .int a3, .int a4, .int a5] : List Value)).length) Slot.unset).toArray = ls at hl ⊢
  have hl : lv_has ls 8 [(0, .ref op), (1, .int a1), (2, .int a2), (3, .int a3), (4, .int a4), (5, .int a5)] := hl
  refine lv_iload_n hx hb dZP_fillPart_0 rfl (lv_at hl 2 rfl) ?_
  refine lv_istore (lv' := [(6, .int a2), (0, .ref op), (1, .int a1), (2, .int a2), (3, .int a3), (4, .int a4), (5, .int a5)]) hx hb dZP_fillPart_1 hl (by decide) rfl (fun ls hl => ?_)
  have lp3 : ∀ K3 : Int32 → (Nat → Int32) → Prop, (∀ (x6_3 : Int32) (f_3_opa : Nat → Int32), K3 x6_3 f_3_opa → ∀ (H : Heap) (locs : List Loc), va_P (dC, dI) vwCl [(op, .inr (1, [.int pw, .int ph, .ref opa])), (opa, .inl (cI, pn, .inl f_3_opa))] H → va_D A [(op, .inr (1, [.int pw, .int ph, .ref opa])), (opa, .inl (cI, pn, .inl f_3_opa))] → va_S A s.heap H locs → ∀ ls : Array Slot, lv_has ls 8 [(6, .int x6_3), (0, .ref op), (1, .int a1), (2, .int a2), (3, .int a3), (4, .int a4), (5, .int a5)] → W p l e (headSpec wsZP_fillPart rm_ZP_fillPart).room s m args below meth c H locs 0 0 Q9 (F0 m 45 ls [])) → ∀ (n : Nat) (x6_3 : Int32) (f_3_opa : Nat → Int32), lp_ZP_fillPart_3 pw ph pn pf a1 a2 a3 a4 a5 post K3 n x6_3 f_3_opa → ∀ (H : Heap) (locs : List Loc), va_P (dC, dI) vwCl [(op, .inr (1, [.int pw, .int ph, .ref opa])), (opa, .inl (cI, pn, .inl f_3_opa))] H → va_D A [(op, .inr (1, [.int pw, .int ph, .ref opa])), (opa, .inl (cI, pn, .inl f_3_opa))] → va_S A s.heap H locs → ∀ ls : Array Slot, lv_has ls 8 [(6, .int x6_3), (0, .ref op), (1, .int a1), (2, .int a2), (3, .int a3), (4, .int a4), (5, .int a5)] → W p l e (headSpec wsZP_fillPart rm_ZP_fillPart).room s m args below meth c H locs 0 0 Q9 (F0 m 3 ls []) := by
    intro K3 aft3 n
    induction n with
    | zero => intro x6_3 f_3_opa hw; exact False.elim hw
    | succ n ih3 =>
      intro x6_3 f_3_opa hw H locs hP hD hS ls hl
      refine lv_iload hx hb dZP_fillPart_3 (lv_at hl 0 rfl) ?_
      refine lv_iload_n hx hb dZP_fillPart_5 rfl (lv_at hl 3 rfl) ?_
      refine lv_iload hx hb dZP_fillPart_6 (lv_at hl 5 rfl) ?_
      refine lv_iadd hx hb dZP_fillPart_8 ?_
      refine lv_icmp_ge (tgt := 45) hx hb dZP_fillPart_9 (by decide) (fun c_1 => ?_) (fun c_1 => ?_)
      · have hw := hw.1 c_1
        exact aft3 x6_3 f_3_opa hw _ _ (hP.sub [0, 1] rfl) (hD.sub [0, 1] (by decide) rfl) hS ls (lv_sub hl [0, 1, 2, 3, 4, 5, 6] rfl)
      · have hw := hw.2 c_1
        refine lv_iload_n hx hb dZP_fillPart_12 rfl (lv_at hl 2 rfl) ?_
        refine lv_istore (lv' := [(7, .int a1), (6, .int x6_3), (0, .ref op), (1, .int a1), (2, .int a2), (3, .int a3), (4, .int a4), (5, .int a5)]) hx hb dZP_fillPart_13 hl (by decide) rfl (fun ls hl => ?_)
        have lp15 : ∀ K15 : Int32 → (Nat → Int32) → Prop, (∀ (x7_15 : Int32) (f_15_opa : Nat → Int32), K15 x7_15 f_15_opa → ∀ (H : Heap) (locs : List Loc), va_P (dC, dI) vwCl [(op, .inr (1, [.int pw, .int ph, .ref opa])), (opa, .inl (cI, pn, .inl f_15_opa))] H → va_D A [(op, .inr (1, [.int pw, .int ph, .ref opa])), (opa, .inl (cI, pn, .inl f_15_opa))] → va_S A s.heap H locs → ∀ ls : Array Slot, lv_has ls 8 [(7, .int x7_15), (6, .int x6_3), (0, .ref op), (1, .int a1), (2, .int a2), (3, .int a3), (4, .int a4), (5, .int a5)] → W p l e (headSpec wsZP_fillPart rm_ZP_fillPart).room s m args below meth c H locs 0 0 Q9 (F0 m 39 ls [])) → ∀ (n : Nat) (x7_15 : Int32) (f_15_opa : Nat → Int32), lp_ZP_fillPart_15 pw ph pn pf a1 a2 a3 a4 a5 x6_3 f_3_opa post K15 n x7_15 f_15_opa → ∀ (H : Heap) (locs : List Loc), va_P (dC, dI) vwCl [(op, .inr (1, [.int pw, .int ph, .ref opa])), (opa, .inl (cI, pn, .inl f_15_opa))] H → va_D A [(op, .inr (1, [.int pw, .int ph, .ref opa])), (opa, .inl (cI, pn, .inl f_15_opa))] → va_S A s.heap H locs → ∀ ls : Array Slot, lv_has ls 8 [(7, .int x7_15), (6, .int x6_3), (0, .ref op), (1, .int a1), (2, .int a2), (3, .int a3), (4, .int a4), (5, .int a5)] → W p l e (headSpec wsZP_fillPart rm_ZP_fillPart).room s m args below meth c H locs 0 0 Q9 (F0 m 15 ls []) := by
          intro K15 aft15 n
          induction n with
          | zero => intro x7_15 f_15_opa hw; exact False.elim hw
          | succ n ih15 =>
            intro x7_15 f_15_opa hw H locs hP hD hS ls hl
            refine lv_iload hx hb dZP_fillPart_15 (lv_at hl 0 rfl) ?_
            refine lv_iload_n hx hb dZP_fillPart_17 rfl (lv_at hl 3 rfl) ?_
            refine lv_iload_n hx hb dZP_fillPart_18 rfl (lv_at hl 5 rfl) ?_
            refine lv_iadd hx hb dZP_fillPart_19 ?_
            refine lv_icmp_ge (tgt := 39) hx hb dZP_fillPart_20 (by decide) (fun c_2 => ?_) (fun c_2 => ?_)
            · have hw := hw.1 c_2
              exact aft15 x7_15 f_15_opa hw _ _ (hP.sub [0, 1] rfl) (hD.sub [0, 1] (by decide) rfl) hS ls (lv_sub hl [0, 1, 2, 3, 4, 5, 6, 7] rfl)
            · have hw := hw.2 c_2
              refine lv_aload_n hx hb dZP_fillPart_23 rfl (lv_at hl 2 rfl) ?_
              refine lv_iload hx hb dZP_fillPart_24 (lv_at hl 0 rfl) ?_
              refine lv_iload hx hb dZP_fillPart_26 (lv_at hl 1 rfl) ?_
              refine lv_iload hx hb dZP_fillPart_28 (lv_at hl 7 rfl) ?_
              have hPc := hP.sub (ws' := [(op, .inr (1, [.int pw, .int ph, .ref opa])), (opa, .inl (cI, pn, .inl f_15_opa))]) [0, 1] rfl
              have hDc := hD.sub (ws' := [(op, .inr (1, [.int pw, .int ph, .ref opa])), (opa, .inl (cI, pn, .inl f_15_opa))]) [0, 1] (by decide) rfl
              have hFc := va_free (wc := [(op, .inr (1, [.int pw, .int ph, .ref opa])), (opa, .inl (cI, pn, .inl f_15_opa))]) hD hS hA [0, 1] rfl
              refine va_callv (va_runV (As := [.int x7_15, .int x6_3, .int a5]) (rest := []) ⟨hx, hb, hml, hown, hts⟩ (kt_ZP_setSample l dC dI cI op opa _ pw ph pn f_15_opa x7_15 x6_3 a5 _ hw) (cwV 3 hts (tb_V mm_373 mm_335 mm_336 mm_3 mm_337) rfl rfl rfl (by decide +kernel) ⟨Nat.le_of_ble_eq_true rfl, Nat.le_of_ble_eq_true rfl⟩) ⟨gw_blind, va_recv hK hPc (ci := 1) (q0 := 0) rfl rfl, fun U hU hW => gw_pre hPc hDc hK hE hU hW⟩ rfl rfl hl.1 rfl (lv_room (Nat.le_of_ble_eq_true rfl)) dZP_fillPart_30 ⟨Nat.le_of_ble_eq_true rfl, Nat.le_of_ble_eq_true rfl⟩) hS (fun q _ h => hFc q h) hFc (fun pf_3 t H1 locs ht hvm hw hB hz1 hk1 hS => ?_)
              obtain ⟨hP1, hK1, hD1⟩ := hB
              rw [ht] at hP1
              try dsimp only at hw
              obtain ⟨hP, hD⟩ := va_join (wr := []) (w1 := [(op, .inr (1, [.int pw, .int ph, .ref opa])), (opa, .inl (cI, pn, .inl pf_3))]) hP hD [0, 1] [] rfl rfl (by decide) (by decide) hk1 hFc hP1 hD1
              generalize H1 = H at hP hS ⊢
              have hP : va_P (dC, dI) vwCl [(op, .inr (1, [.int pw, .int ph, .ref opa])), (opa, .inl (cI, pn, .inl pf_3))] H := hP
              have hD : va_D A [(op, .inr (1, [.int pw, .int ph, .ref opa])), (opa, .inl (cI, pn, .inl pf_3))] := hD
              refine lv_iinc (v := x7_15 + (1 : Int32)) (lv' := [(7, .int (x7_15 + (1 : Int32))), (6, .int x6_3), (0, .ref op), (1, .int a1), (2, .int a2), (3, .int a3), (4, .int a4), (5, .int a5)]) hx hb dZP_fillPart_33 hl (k := 0) rfl rfl (by decide) rfl (fun ls hl => ?_)
              refine lv_goto (tgt := 15) hx hb dZP_fillPart_36 (by decide) ?_
              exact ih15 (x7_15 + (1 : Int32)) pf_3 hw _ _ (hP.sub [0, 1] rfl) (hD.sub [0, 1] (by decide) rfl) hS ls (lv_sub hl [0, 1, 2, 3, 4, 5, 6, 7] rfl)
        obtain ⟨n15, hw⟩ := hw
        refine lp15 _ (fun x7_15e f_15e_opa hw H locs hP hD hS ls hl => ?_) n15 a1 f_3_opa hw _ _ (hP.sub [0, 1] rfl) (hD.sub [0, 1] (by decide) rfl) hS ls (lv_sub hl [0, 1, 2, 3, 4, 5, 6, 7] rfl)
        refine lv_iinc (v := x6_3 + (1 : Int32)) (lv' := [(6, .int (x6_3 + (1 : Int32))), (7, .int x7_15e), (0, .ref op), (1, .int a1), (2, .int a2), (3, .int a3), (4, .int a4), (5, .int a5)]) hx hb dZP_fillPart_39 hl (k := 1) rfl rfl (by decide) rfl (fun ls hl => ?_)
        refine lv_goto (tgt := 3) hx hb dZP_fillPart_42 (by decide) ?_
        exact ih3 (x6_3 + (1 : Int32)) f_15e_opa hw _ _ (hP.sub [0, 1] rfl) (hD.sub [0, 1] (by decide) rfl) hS ls (lv_sub hl [0, 2, 3, 4, 5, 6, 7] rfl)
  obtain ⟨n3, hw⟩ := hw
  refine lp3 _ (fun x6_3e f_3e_opa hw H locs hP hD hS ls hl => ?_) n3 a2 pf hw _ _ (hP.sub [0, 1] rfl) (hD.sub [0, 1] (by decide) rfl) hS ls (lv_sub hl [0, 1, 2, 3, 4, 5, 6] rfl)
  have hP9 := hP.sub (ws' := [(op, .inr (1, [.int pw, .int ph, .ref opa])), (opa, .inl (cI, pn, .inl f_3e_opa))]) [0, 1] rfl
  have hD9 := hD.sub (ws' := [(op, .inr (1, [.int pw, .int ph, .ref opa])), (opa, .inl (cI, pn, .inl f_3e_opa))]) [0, 1] (by decide) rfl
  subst hQ9
  exact W.vret hx hb hr (fun t ht hW => ⟨⟨f_3e_opa, rfl, hw, by rw [ht]; exact hP9, va_K.moved hW.alike hK, hD9⟩, hS.F ht⟩) hS.2.2 dZP_fillPart_45
theorem dZP_init_0 : decode cZP_init 0 = .ok (.aload_n 0, 1) := by decide +kernel
theorem dZP_init_1 : decode cZP_init 1 = .ok (.invokespecial 1, 3) := by decide +kernel
theorem dZP_init_4 : decode cZP_init 4 = .ok (.aload_n 0, 1) := by decide +kernel
theorem dZP_init_5 : decode cZP_init 5 = .ok (.iload_n 1, 1) := by decide +kernel
theorem dZP_init_6 : decode cZP_init 6 = .ok (.putfield 7, 3) := by decide +kernel
theorem dZP_init_9 : decode cZP_init 9 = .ok (.aload_n 0, 1) := by decide +kernel
theorem dZP_init_10 : decode cZP_init 10 = .ok (.iload_n 2, 1) := by decide +kernel
theorem dZP_init_11 : decode cZP_init 11 = .ok (.putfield 13, 3) := by decide +kernel
theorem dZP_init_14 : decode cZP_init 14 = .ok (.aload_n 0, 1) := by decide +kernel
theorem dZP_init_15 : decode cZP_init 15 = .ok (.iload_n 1, 1) := by decide +kernel
theorem dZP_init_16 : decode cZP_init 16 = .ok (.iload_n 2, 1) := by decide +kernel
theorem dZP_init_17 : decode cZP_init 17 = .ok (.imul, 1) := by decide +kernel
theorem dZP_init_18 : decode cZP_init 18 = .ok (.newarray .int, 2) := by decide +kernel
theorem dZP_init_20 : decode cZP_init 20 = .ok (.putfield 16, 3) := by decide +kernel
theorem dZP_init_23 : decode cZP_init 23 = .ok (.return_, 1) := by decide +kernel
abbrev wsZP_init : List Cond := .code yZP_init cZP_init 3 none :: tbg
def wp_ZP_init (a1 : Int32) (a2 : Int32) (post : Nat → (Nat → Int32) → Prop) : Prop := ¬ (a1 * a2) < 0 ∧ (a1 * a2).toNatClampNeg ≤ 1600 ∧ (post ((a1 * a2).toNatClampNeg) (fun _ => 0))
abbrev rm_ZP_init : Room := { frames := 1, cells := 1, slots := 1600, locals := 20 }
set_option maxHeartbeats 4000000 in
set_option maxRecDepth 100000 in
theorem kt_ZP_init (l : Launch) (dC : Nat → ClassId) (dI : Nat → Nat → Nat) (cI : ClassId) (op : Nat) (sz : Nat) (a1 : Int32) (a2 : Int32) (post : Nat → (Nat → Int32) → Prop) (hw : wp_ZP_init a1 a2 post) : Met l yZP_init wsZP_init rm_ZP_init (gw_Pc dC dI [(cI, .int)] [.ref op, .int a1, .int a2] [(op, .inr (1, [.int (0 : Int32), .int (0 : Int32), .null]))] sz) (va_Qv (fun (u : Nat × (Nat → Int32)) => post u.1 u.2) (fun u t => ∃ opa : Nat, gw_B dC dI [(cI, .int)] (va_A [(op, .inr (1, [.int (0 : Int32), .int (0 : Int32), .null]))] sz) [(op, .inr (1, [.int a1, .int a2, .ref opa])), (opa, .inl (cI, u.1, .inl u.2))] t) (va_A [(op, .inr (1, [.int (0 : Int32), .int (0 : Int32), .null]))] sz)) 1 1600 (va_A [(op, .inr (1, [.int (0 : Int32), .int (0 : Int32), .null]))] sz) := by
  refine Met.ofW (cc := cZP_init) (maxL := 3) (ret := none) (by decide) rfl ?_
  intro p e s m args below meth c s₁ B hml hv
  obtain ⟨ha9, hsz, hP, hK, hE, hD0⟩ := hv
  have hx := B.exec
  have hb := B.bytes
  have hr := B.returns
  have hts0 := atoms_spec (ws := wsZP_init) B.pre
  have hts : ∀ w ∈ tbg, w.before args s = true := fun w h => hts0 w (List.mem_cons_of_mem _ h)
  have hown : s.vm.findClass RZP = some m.cls := findClass_of_methodNamed B.named
  have hlocks := B.notSynchronized
  have hin : meth.name = "<init>" := (name_of_methodNamed B.named B.method).1
  subst hsz
  have hD := hD0.self (sz := s.heap.size)
  refine gx_Q (fun Q9 hQ9 => ?_)
  generalize hAe : va_A [(op, .inr (1, [.int (0 : Int32), .int (0 : Int32), .null]))] s.heap.size = A at hD hQ9 ⊢
  have hA : ∀ q : Nat, s.heap.size ≤ q → A q := fun q h => by rw [← hAe]; exact Or.inr h
  have hS : va_S A s.heap s.heap [] := va_S.rf
  have hl := lv_entry ([.ref op, .int a1, .int a2]) (n := 3) (Nat.le_of_ble_eq_true rfl)
  have he9 : entryFrame m args 3 = F0 m 0 ((lg_sl [.ref op, .int a1, .int a2] ++ List.replicate (3 - (lg_sl ([.ref op, .int a1, .int a2] : List Value)).length) Slot.unset).toArray) [] := by rw [ha9]; exact lg_entry_eq m [.ref op, .int a1, .int a2] 3
  rw [he9]
  generalize (lg_sl ([.ref op, .int a1, .int a2] : List Value) ++ List.replicate (3 - (lg_sl ([.ref op, .int a1, .int a2] : List Value)).length) Slot.unset).toArray = ls at hl ⊢
  have hl : lv_has ls 3 [(0, .ref op), (1, .int a1), (2, .int a2)] := hl
  refine lv_aload_n hx hb dZP_init_0 rfl (lv_at hl 0 rfl) ?_
  refine W.objInit hx hb hown (hts _ mm_36) (hts _ mm_23) (hts _ mm_24) rfl (by rw [hml]; exact hl.1) rfl dZP_init_1 (Nat.le_of_ble_eq_true rfl) (Nat.le_of_ble_eq_true rfl) ?_
  refine W.eq (g2 := F0 m 4 ls []) rfl ?_
  refine lv_aload_n hx hb dZP_init_4 rfl (lv_at hl 0 rfl) ?_
  refine lv_iload_n hx hb dZP_init_5 rfl (lv_at hl 1 rfl) ?_
  refine va_putF (D := (dC, dI)) (ci := 1) (v := .int a1) (ty := .int) (C := RZP) (T := TZP) (N := 3) hx hb hts inZP tyZP tyZP_ok nmZP hown hK hP hD hS 0 rfl rfl 0 (by decide) (hts _ mm_37) (fun _ h9 => h9) rfl hin rfl (by decide +kernel) rfl rfl (Nat.le_of_ble_eq_true rfl) dZP_init_6 (fun H locs hP hD hS => ?_)
  have hP : va_P (dC, dI) vwCl [(op, .inr (1, [.int a1, .int (0 : Int32), .null]))] H := hP
  have hD : va_D A [(op, .inr (1, [.int a1, .int (0 : Int32), .null]))] := hD
  refine lv_aload_n hx hb dZP_init_9 rfl (lv_at hl 0 rfl) ?_
  refine lv_iload_n hx hb dZP_init_10 rfl (lv_at hl 2 rfl) ?_
  refine va_putF (D := (dC, dI)) (ci := 1) (v := .int a2) (ty := .int) (C := RZP) (T := TZP) (N := 3) hx hb hts inZP tyZP tyZP_ok nmZP hown hK hP hD hS 0 rfl rfl 1 (by decide) (hts _ mm_41) (fun _ h9 => h9) rfl hin rfl (by decide +kernel) rfl rfl (Nat.le_of_ble_eq_true rfl) dZP_init_11 (fun H locs hP hD hS => ?_)
  have hP : va_P (dC, dI) vwCl [(op, .inr (1, [.int a1, .int a2, .null]))] H := hP
  have hD : va_D A [(op, .inr (1, [.int a1, .int a2, .null]))] := hD
  refine lv_aload_n hx hb dZP_init_14 rfl (lv_at hl 0 rfl) ?_
  refine lv_iload_n hx hb dZP_init_15 rfl (lv_at hl 1 rfl) ?_
  refine lv_iload_n hx hb dZP_init_16 rfl (lv_at hl 2 rfl) ?_
  refine lv_imul hx hb dZP_init_17 ?_
  obtain ⟨h_2a, h_2b, hw⟩ := hw
  have h_2c : 0 + ((a1 * a2).toNatClampNeg) ≤ 1600 := by omega
  have h_2d : ((a1 * a2).toNatClampNeg) * 4 ≤ 536870912 := by omega
  refine va_newa (atype := .int) (N' := (a1 * a2).toNatClampNeg) (a0 := ((a1 * a2).toNatClampNeg, .inl (fun _ => 0))) (ty := .int) hx hb (hts _ mm_53) rfl hK hP hD hS hA (fun _ => rfl) h_2a rfl h_2d (Nat.le_of_ble_eq_true rfl) h_2c dZP_init_18 (fun q_1 cAq_1 H hK2 hP hD hS => ?_)
  have hc_q_1 : cAq_1 = cI := Option.some.inj ((va_nm_int (hK2.2 1 _ rfl).2).symm.trans (va_nm_int (hK.2 0 _ rfl).2))
  rw [hc_q_1] at hP hD
  refine W.widen (k := 1) (n := 1600) (by omega) (by omega) ?_
  have hP : va_P (dC, dI) vwCl [(op, .inr (1, [.int a1, .int a2, .null])), (q_1, .inl (cI, ((a1 * a2).toNatClampNeg), .inl (fun _ => 0)))] H := hP
  have hD : va_D A [(op, .inr (1, [.int a1, .int a2, .null])), (q_1, .inl (cI, ((a1 * a2).toNatClampNeg), .inl (fun _ => 0)))] := hD
  refine va_putF (D := (dC, dI)) (ci := 1) (v := .ref q_1) (ty := (.array .int)) (C := RZP) (T := TZP) (N := 3) hx hb hts inZP tyZP tyZP_ok nmZP hown hK hP hD hS 0 rfl rfl 2 (by decide) (hts _ mm_45) (fun _ h9 => h9) rfl hin rfl (by decide +kernel) rfl rfl (Nat.le_of_ble_eq_true rfl) dZP_init_20 (fun H locs hP hD hS => ?_)
  have hP : va_P (dC, dI) vwCl [(op, .inr (1, [.int a1, .int a2, .ref q_1])), (q_1, .inl (cI, ((a1 * a2).toNatClampNeg), .inl (fun _ => 0)))] H := hP
  have hD : va_D A [(op, .inr (1, [.int a1, .int a2, .ref q_1])), (q_1, .inl (cI, ((a1 * a2).toNatClampNeg), .inl (fun _ => 0)))] := hD
  have hP9 := hP.sub (ws' := [(op, .inr (1, [.int a1, .int a2, .ref q_1])), (q_1, .inl (cI, ((a1 * a2).toNatClampNeg), .inl (fun _ => 0)))]) [0, 1] rfl
  have hD9 := hD.sub (ws' := [(op, .inr (1, [.int a1, .int a2, .ref q_1])), (q_1, .inl (cI, ((a1 * a2).toNatClampNeg), .inl (fun _ => 0)))]) [0, 1] (by decide) rfl
  subst hQ9
  exact W.vret hx hb hr (fun t ht hW => ⟨⟨(((a1 * a2).toNatClampNeg), (fun _ => 0)), rfl, hw, q_1, by rw [ht]; exact hP9, va_K.moved hW.alike hK, hD9⟩, hS.F ht⟩) hS.2.2 dZP_init_23
