theorem dZB_isFull_0 : decode cZB_isFull 0 = .ok (.aload_n 0, 1) := by decide +kernel
theorem dZB_isFull_1 : decode cZB_isFull 1 = .ok (.getfield 15, 3) := by decide +kernel
theorem dZB_isFull_4 : decode cZB_isFull 4 = .ok (.sipush 256, 3) := by decide +kernel
theorem dZB_isFull_7 : decode cZB_isFull 7 = .ok (.if_icmp .lt 7, 3) := by decide +kernel
theorem dZB_isFull_10 : decode cZB_isFull 10 = .ok (.iconst 1, 1) := by decide +kernel
theorem dZB_isFull_11 : decode cZB_isFull 11 = .ok (.goto 4, 3) := by decide +kernel
theorem dZB_isFull_14 : decode cZB_isFull 14 = .ok (.iconst 0, 1) := by decide +kernel
theorem dZB_isFull_15 : decode cZB_isFull 15 = .ok (.ireturn, 1) := by decide +kernel
abbrev wsZB_isFull : List Cond := .code yZB_isFull cZB_isFull 1 (some .boolean) :: tbg
def wp_ZB_isFull (bl : Int32) (bf : Nat → Int32) (post : Int32 → Prop) : Prop := ((bl < (256 : Int32) → (post (0 : Int32))) ∧ (¬ bl < (256 : Int32) → (post (1 : Int32))))
abbrev rm_ZB_isFull : Room := { frames := 0, cells := 0, slots := 0, locals := 0 }
set_option maxHeartbeats 4000000 in
set_option maxRecDepth 100000 in
theorem kt_ZB_isFull (l : Launch) (dC : Nat → ClassId) (dI : Nat → Nat → Nat) (cI : ClassId) (ob oba : Nat) (bl : Int32) (bf : Nat → Int32) (post : Int32 → Prop) (hw : wp_ZB_isFull bl bf post) : Met l yZB_isFull wsZB_isFull rm_ZB_isFull (gr_Pc dC dI [(cI, .int)] [.ref ob] [(ob, .inr (0, [.ref oba, .int bl])), (oba, .inl (cI, 256, .inl bf))]) (vp_Si post) 0 0 (fun _ => False) := by
  refine Met.ofW (cc := cZB_isFull) (maxL := 1) (ret := (some .boolean)) (by decide) rfl ?_
  intro p e s m args below meth c s₁ B hml hv
  obtain ⟨ha9, hP, hK, hE⟩ := hv
  have hx := B.exec
  have hb := B.bytes
  have hr := B.returns
  have hts0 := atoms_spec (ws := wsZB_isFull) B.pre
  have hts : ∀ w ∈ tbg, w.before args s = true := fun w h => hts0 w (List.mem_cons_of_mem _ h)
  have hown : s.vm.findClass RZB = some m.cls := findClass_of_methodNamed B.named
  have hlocks := B.notSynchronized
  refine gx_Q (fun Q9 hQ9 => ?_)
  have hl := lv_entry ([.ref ob]) (n := 1) (Nat.le_of_ble_eq_true rfl)
  have he9 : entryFrame m args 1 = F0 m 0 ((lg_sl [.ref ob] ++ List.replicate (1 - (lg_sl ([.ref ob] : List Value)).length) Slot.unset).toArray) [] := by rw [ha9]; exact lg_entry_eq m [.ref ob] 1
  rw [he9]
  generalize (lg_sl ([.ref ob] : List Value) ++ List.replicate (1 - (lg_sl ([.ref ob] : List Value)).length) Slot.unset).toArray = ls at hl ⊢
  have hl : lv_has ls 1 [(0, .ref ob)] := hl
  refine lv_aload_n hx hb dZB_isFull_0 rfl (lv_at hl 0 rfl) ?_
  refine va_get (D := (dC, dI)) (ci := 0) (v := .int bl) (C := RZB) (T := TZB) (N := 2) hx hb hts inZB hown hK hP 0 rfl rfl 1 (by decide) (hts _ mm_78) (fun _ h9 => h9) rfl dZB_isFull_1 ?_
  refine lv_sipush (v := (256 : Int32)) hx hb dZB_isFull_4 (by decide) ?_
  refine lv_icmp_lt (tgt := 14) hx hb dZB_isFull_7 (by decide) (fun c_1 => ?_) (fun c_1 => ?_)
  · have hw := hw.1 c_1
    refine lv_iconst (v := (0 : Int32)) hx hb dZB_isFull_14 (by decide) ?_
    subst hQ9
    exact W.zret (v := (0 : Int32)) (ty := .boolean) hx hb hr rfl (fun t ht hW => ⟨(0 : Int32), rfl, hw, ht⟩) (fun q h => nomatch h) dZB_isFull_15
  · have hw := hw.2 c_1
    refine lv_iconst (v := (1 : Int32)) hx hb dZB_isFull_10 (by decide) ?_
    refine lv_goto (tgt := 15) hx hb dZB_isFull_11 (by decide) ?_
    subst hQ9
    exact W.zret (v := (1 : Int32)) (ty := .boolean) hx hb hr rfl (fun t ht hW => ⟨(1 : Int32), rfl, hw, ht⟩) (fun q h => nomatch h) dZB_isFull_15
theorem dZB_sumOfFirst_0 : decode cZB_sumOfFirst 0 = .ok (.iconst 0, 1) := by decide +kernel
theorem dZB_sumOfFirst_1 : decode cZB_sumOfFirst 1 = .ok (.istore_n 2, 1) := by decide +kernel
theorem dZB_sumOfFirst_2 : decode cZB_sumOfFirst 2 = .ok (.iconst 0, 1) := by decide +kernel
theorem dZB_sumOfFirst_3 : decode cZB_sumOfFirst 3 = .ok (.istore_n 3, 1) := by decide +kernel
theorem dZB_sumOfFirst_4 : decode cZB_sumOfFirst 4 = .ok (.iload_n 3, 1) := by decide +kernel
theorem dZB_sumOfFirst_5 : decode cZB_sumOfFirst 5 = .ok (.iload_n 1, 1) := by decide +kernel
theorem dZB_sumOfFirst_6 : decode cZB_sumOfFirst 6 = .ok (.if_icmp .ge 27, 3) := by decide +kernel
theorem dZB_sumOfFirst_9 : decode cZB_sumOfFirst 9 = .ok (.sipush 257, 3) := by decide +kernel
theorem dZB_sumOfFirst_12 : decode cZB_sumOfFirst 12 = .ok (.iload_n 2, 1) := by decide +kernel
theorem dZB_sumOfFirst_13 : decode cZB_sumOfFirst 13 = .ok (.imul, 1) := by decide +kernel
theorem dZB_sumOfFirst_14 : decode cZB_sumOfFirst 14 = .ok (.aload_n 0, 1) := by decide +kernel
theorem dZB_sumOfFirst_15 : decode cZB_sumOfFirst 15 = .ok (.getfield 9, 3) := by decide +kernel
theorem dZB_sumOfFirst_18 : decode cZB_sumOfFirst 18 = .ok (.iload_n 3, 1) := by decide +kernel
theorem dZB_sumOfFirst_19 : decode cZB_sumOfFirst 19 = .ok (.iaload, 1) := by decide +kernel
theorem dZB_sumOfFirst_20 : decode cZB_sumOfFirst 20 = .ok (.iadd, 1) := by decide +kernel
theorem dZB_sumOfFirst_21 : decode cZB_sumOfFirst 21 = .ok (.iconst 1, 1) := by decide +kernel
theorem dZB_sumOfFirst_22 : decode cZB_sumOfFirst 22 = .ok (.iadd, 1) := by decide +kernel
theorem dZB_sumOfFirst_23 : decode cZB_sumOfFirst 23 = .ok (.ldc 23, 2) := by decide +kernel
theorem dZB_sumOfFirst_25 : decode cZB_sumOfFirst 25 = .ok (.irem, 1) := by decide +kernel
theorem dZB_sumOfFirst_26 : decode cZB_sumOfFirst 26 = .ok (.istore_n 2, 1) := by decide +kernel
theorem dZB_sumOfFirst_27 : decode cZB_sumOfFirst 27 = .ok (.iinc 3 1, 3) := by decide +kernel
theorem dZB_sumOfFirst_30 : decode cZB_sumOfFirst 30 = .ok (.goto (-26), 3) := by decide +kernel
theorem dZB_sumOfFirst_33 : decode cZB_sumOfFirst 33 = .ok (.iload_n 2, 1) := by decide +kernel
theorem dZB_sumOfFirst_34 : decode cZB_sumOfFirst 34 = .ok (.ireturn, 1) := by decide +kernel
abbrev wsZB_sumOfFirst : List Cond := .code yZB_sumOfFirst cZB_sumOfFirst 4 (some .int) :: tbg
def lp_ZB_sumOfFirst_4 (bl : Int32) (bf : Nat → Int32) (a1 : Int32) (post : Int32 → Prop) (K4 : Int32 → Int32 → Prop) (n : Nat) : Int32 → Int32 → Prop := Nat.rec (motive := fun _ => Int32 → Int32 → Prop) (fun (x2_4 : Int32) (x3_4 : Int32) => False) (fun _ ih4 (x2_4 : Int32) (x3_4 : Int32) => ((a1 ≤ x3_4 → (K4 x2_4 x3_4)) ∧ (¬ a1 ≤ x3_4 → (vp_in x3_4 256 ∧ (ih4 (((((257 : Int32) * x2_4) + (bf x3_4.toNatClampNeg)) + (1 : Int32)) - ((((257 : Int32) * x2_4) + (bf x3_4.toNatClampNeg)) + (1 : Int32)) / (65521 : Int32) * (65521 : Int32)) (x3_4 + (1 : Int32))))))) n
def wp_ZB_sumOfFirst (bl : Int32) (bf : Nat → Int32) (a1 : Int32) (post : Int32 → Prop) : Prop := ∃ n : Nat, lp_ZB_sumOfFirst_4 bl bf a1 post (fun (x2_4e : Int32) (x3_4e : Int32) => post x2_4e) n (0 : Int32) (0 : Int32)
abbrev rm_ZB_sumOfFirst : Room := { frames := 0, cells := 0, slots := 0, locals := 0 }
set_option maxHeartbeats 4000000 in
set_option maxRecDepth 100000 in
theorem kt_ZB_sumOfFirst (l : Launch) (dC : Nat → ClassId) (dI : Nat → Nat → Nat) (cI : ClassId) (ob oba : Nat) (bl : Int32) (bf : Nat → Int32) (a1 : Int32) (post : Int32 → Prop) (hw : wp_ZB_sumOfFirst bl bf a1 post) : Met l yZB_sumOfFirst wsZB_sumOfFirst rm_ZB_sumOfFirst (gr_Pc dC dI [(cI, .int)] [.ref ob, .int a1] [(ob, .inr (0, [.ref oba, .int bl])), (oba, .inl (cI, 256, .inl bf))]) (vp_Si post) 0 0 (fun _ => False) := by
  refine Met.ofW (cc := cZB_sumOfFirst) (maxL := 4) (ret := (some .int)) (by decide) rfl ?_
  intro p e s m args below meth c s₁ B hml hv
  obtain ⟨ha9, hP, hK, hE⟩ := hv
  have hx := B.exec
  have hb := B.bytes
  have hr := B.returns
  have hts0 := atoms_spec (ws := wsZB_sumOfFirst) B.pre
  have hts : ∀ w ∈ tbg, w.before args s = true := fun w h => hts0 w (List.mem_cons_of_mem _ h)
  have hown : s.vm.findClass RZB = some m.cls := findClass_of_methodNamed B.named
  have hlocks := B.notSynchronized
  refine gx_Q (fun Q9 hQ9 => ?_)
  have hl := lv_entry ([.ref ob, .int a1]) (n := 4) (Nat.le_of_ble_eq_true rfl)
  have he9 : entryFrame m args 4 = F0 m 0 ((lg_sl [.ref ob, .int a1] ++ List.replicate (4 - (lg_sl ([.ref ob, .int a1] : List Value)).length) Slot.unset).toArray) [] := by rw [ha9]; exact lg_entry_eq m [.ref ob, .int a1] 4
  rw [he9]
  generalize (lg_sl ([.ref ob, .int a1] : List Value) ++ List.replicate (4 - (lg_sl ([.ref ob, .int a1] : List Value)).length) Slot.unset).toArray = ls at hl ⊢
  have hl : lv_has ls 4 [(0, .ref ob), (1, .int a1)] := hl
  refine lv_iconst (v := (0 : Int32)) hx hb dZB_sumOfFirst_0 (by decide) ?_
  refine lv_istore_n (lv' := [(2, .int (0 : Int32)), (0, .ref ob), (1, .int a1)]) hx hb dZB_sumOfFirst_1 rfl hl (by decide) rfl (fun ls hl => ?_)
  refine lv_iconst (v := (0 : Int32)) hx hb dZB_sumOfFirst_2 (by decide) ?_
  refine lv_istore_n (lv' := [(3, .int (0 : Int32)), (2, .int (0 : Int32)), (0, .ref ob), (1, .int a1)]) hx hb dZB_sumOfFirst_3 rfl hl (by decide) rfl (fun ls hl => ?_)
  have lp4 : ∀ K4 : Int32 → Int32 → Prop, (∀ (x2_4 : Int32) (x3_4 : Int32), K4 x2_4 x3_4 → ∀ ls : Array Slot, lv_has ls 4 [(3, .int x3_4), (2, .int x2_4), (0, .ref ob), (1, .int a1)] → W p l e (headSpec wsZB_sumOfFirst rm_ZB_sumOfFirst).room s m args below meth c s.heap [] 0 0 Q9 (F0 m 33 ls [])) → ∀ (n : Nat) (x2_4 : Int32) (x3_4 : Int32), lp_ZB_sumOfFirst_4 bl bf a1 post K4 n x2_4 x3_4 → ∀ ls : Array Slot, lv_has ls 4 [(3, .int x3_4), (2, .int x2_4), (0, .ref ob), (1, .int a1)] → W p l e (headSpec wsZB_sumOfFirst rm_ZB_sumOfFirst).room s m args below meth c s.heap [] 0 0 Q9 (F0 m 4 ls []) := by
    intro K4 aft4 n
    induction n with
    | zero => intro x2_4 x3_4 hw; exact False.elim hw
    | succ n ih4 =>
      intro x2_4 x3_4 hw ls hl
      refine lv_iload_n hx hb dZB_sumOfFirst_4 rfl (lv_at hl 0 rfl) ?_
      refine lv_iload_n hx hb dZB_sumOfFirst_5 rfl (lv_at hl 3 rfl) ?_
      refine lv_icmp_ge (tgt := 33) hx hb dZB_sumOfFirst_6 (by decide) (fun c_1 => ?_) (fun c_1 => ?_)
      · have hw := hw.1 c_1
        exact aft4 x2_4 x3_4 hw ls (lv_sub hl [0, 1, 2, 3] rfl)
      · have hw := hw.2 c_1
        refine lv_sipush (v := (257 : Int32)) hx hb dZB_sumOfFirst_9 (by decide) ?_
        refine lv_iload_n hx hb dZB_sumOfFirst_12 rfl (lv_at hl 1 rfl) ?_
        refine lv_imul hx hb dZB_sumOfFirst_13 ?_
        refine lv_aload_n hx hb dZB_sumOfFirst_14 rfl (lv_at hl 2 rfl) ?_
        refine va_get (D := (dC, dI)) (ci := 0) (v := .ref oba) (C := RZB) (T := TZB) (N := 2) hx hb hts inZB hown hK hP 0 rfl rfl 0 (by decide) (hts _ mm_75) (fun _ h9 => h9) rfl dZB_sumOfFirst_15 ?_
        refine lv_iload_n hx hb dZB_sumOfFirst_18 rfl (lv_at hl 0 rfl) ?_
        obtain ⟨h_2, hw⟩ := hw
        refine va_iald hx hb hK hP 1 0 rfl rfl h_2 dZB_sumOfFirst_19 ?_
        refine lv_iadd hx hb dZB_sumOfFirst_20 ?_
        refine lv_iconst (v := (1 : Int32)) hx hb dZB_sumOfFirst_21 (by decide) ?_
        refine lv_iadd hx hb dZB_sumOfFirst_22 ?_
        refine lv_ldc hx hb hown (hts _ mm_177) dZB_sumOfFirst_23 ?_
        refine lv_irem hx hb dZB_sumOfFirst_25 (by decide) ?_
        refine lv_istore_n (lv' := [(2, .int (((((257 : Int32) * x2_4) + (bf x3_4.toNatClampNeg)) + (1 : Int32)) - ((((257 : Int32) * x2_4) + (bf x3_4.toNatClampNeg)) + (1 : Int32)) / (65521 : Int32) * (65521 : Int32))), (3, .int x3_4), (0, .ref ob), (1, .int a1)]) hx hb dZB_sumOfFirst_26 rfl hl (by decide) rfl (fun ls hl => ?_)
        refine lv_iinc (v := x3_4 + (1 : Int32)) (lv' := [(3, .int (x3_4 + (1 : Int32))), (2, .int (((((257 : Int32) * x2_4) + (bf x3_4.toNatClampNeg)) + (1 : Int32)) - ((((257 : Int32) * x2_4) + (bf x3_4.toNatClampNeg)) + (1 : Int32)) / (65521 : Int32) * (65521 : Int32))), (0, .ref ob), (1, .int a1)]) hx hb dZB_sumOfFirst_27 hl (k := 1) rfl rfl (by decide) rfl (fun ls hl => ?_)
        refine lv_goto (tgt := 4) hx hb dZB_sumOfFirst_30 (by decide) ?_
        exact ih4 (((((257 : Int32) * x2_4) + (bf x3_4.toNatClampNeg)) + (1 : Int32)) - ((((257 : Int32) * x2_4) + (bf x3_4.toNatClampNeg)) + (1 : Int32)) / (65521 : Int32) * (65521 : Int32)) (x3_4 + (1 : Int32)) hw ls (lv_sub hl [0, 1, 2, 3] rfl)
  obtain ⟨n4, hw⟩ := hw
  refine lp4 _ (fun x2_4e x3_4e hw ls hl => ?_) n4 (0 : Int32) (0 : Int32) hw ls (lv_sub hl [0, 1, 2, 3] rfl)
  refine lv_iload_n hx hb dZB_sumOfFirst_33 rfl (lv_at hl 1 rfl) ?_
  subst hQ9
  exact W.iret (v := x2_4e) hx hb hr (fun t ht hW => ⟨x2_4e, rfl, hw, ht⟩) (fun q h => nomatch h) dZB_sumOfFirst_34
theorem dZB_bitsFrom_0 : decode cZB_bitsFrom 0 = .ok (.iconst 0, 1) := by decide +kernel
theorem dZB_bitsFrom_1 : decode cZB_bitsFrom 1 = .ok (.istore_n 3, 1) := by decide +kernel
theorem dZB_bitsFrom_2 : decode cZB_bitsFrom 2 = .ok (.iconst 0, 1) := by decide +kernel
theorem dZB_bitsFrom_3 : decode cZB_bitsFrom 3 = .ok (.istore 4, 2) := by decide +kernel
theorem dZB_bitsFrom_5 : decode cZB_bitsFrom 5 = .ok (.iload 4, 2) := by decide +kernel
theorem dZB_bitsFrom_7 : decode cZB_bitsFrom 7 = .ok (.iload_n 2, 1) := by decide +kernel
theorem dZB_bitsFrom_8 : decode cZB_bitsFrom 8 = .ok (.if_icmp .ge 39, 3) := by decide +kernel
theorem dZB_bitsFrom_11 : decode cZB_bitsFrom 11 = .ok (.iload_n 1, 1) := by decide +kernel
theorem dZB_bitsFrom_12 : decode cZB_bitsFrom 12 = .ok (.iload 4, 2) := by decide +kernel
theorem dZB_bitsFrom_14 : decode cZB_bitsFrom 14 = .ok (.iadd, 1) := by decide +kernel
theorem dZB_bitsFrom_15 : decode cZB_bitsFrom 15 = .ok (.istore 5, 2) := by decide +kernel
theorem dZB_bitsFrom_17 : decode cZB_bitsFrom 17 = .ok (.iload_n 3, 1) := by decide +kernel
theorem dZB_bitsFrom_18 : decode cZB_bitsFrom 18 = .ok (.aload_n 0, 1) := by decide +kernel
theorem dZB_bitsFrom_19 : decode cZB_bitsFrom 19 = .ok (.getfield 9, 3) := by decide +kernel
theorem dZB_bitsFrom_22 : decode cZB_bitsFrom 22 = .ok (.iload 5, 2) := by decide +kernel
theorem dZB_bitsFrom_24 : decode cZB_bitsFrom 24 = .ok (.bipush 8, 2) := by decide +kernel
theorem dZB_bitsFrom_26 : decode cZB_bitsFrom 26 = .ok (.idiv, 1) := by decide +kernel
theorem dZB_bitsFrom_27 : decode cZB_bitsFrom 27 = .ok (.iaload, 1) := by decide +kernel
theorem dZB_bitsFrom_28 : decode cZB_bitsFrom 28 = .ok (.iload 5, 2) := by decide +kernel
theorem dZB_bitsFrom_30 : decode cZB_bitsFrom 30 = .ok (.bipush 8, 2) := by decide +kernel
theorem dZB_bitsFrom_32 : decode cZB_bitsFrom 32 = .ok (.irem, 1) := by decide +kernel
theorem dZB_bitsFrom_33 : decode cZB_bitsFrom 33 = .ok (.ishr, 1) := by decide +kernel
theorem dZB_bitsFrom_34 : decode cZB_bitsFrom 34 = .ok (.iconst 1, 1) := by decide +kernel
theorem dZB_bitsFrom_35 : decode cZB_bitsFrom 35 = .ok (.iand, 1) := by decide +kernel
theorem dZB_bitsFrom_36 : decode cZB_bitsFrom 36 = .ok (.iload 4, 2) := by decide +kernel
theorem dZB_bitsFrom_38 : decode cZB_bitsFrom 38 = .ok (.ishl, 1) := by decide +kernel
theorem dZB_bitsFrom_39 : decode cZB_bitsFrom 39 = .ok (.ior, 1) := by decide +kernel
theorem dZB_bitsFrom_40 : decode cZB_bitsFrom 40 = .ok (.istore_n 3, 1) := by decide +kernel
theorem dZB_bitsFrom_41 : decode cZB_bitsFrom 41 = .ok (.iinc 4 1, 3) := by decide +kernel
theorem dZB_bitsFrom_44 : decode cZB_bitsFrom 44 = .ok (.goto (-39), 3) := by decide +kernel
theorem dZB_bitsFrom_47 : decode cZB_bitsFrom 47 = .ok (.iload_n 3, 1) := by decide +kernel
theorem dZB_bitsFrom_48 : decode cZB_bitsFrom 48 = .ok (.ireturn, 1) := by decide +kernel
abbrev wsZB_bitsFrom : List Cond := .code yZB_bitsFrom cZB_bitsFrom 6 (some .int) :: tbg
def lp_ZB_bitsFrom_5 (bl : Int32) (bf : Nat → Int32) (a1 : Int32) (a2 : Int32) (post : Int32 → Prop) (K5 : Int32 → Int32 → Prop) (n : Nat) : Int32 → Int32 → Prop := Nat.rec (motive := fun _ => Int32 → Int32 → Prop) (fun (x3_5 : Int32) (x4_5 : Int32) => False) (fun _ ih5 (x3_5 : Int32) (x4_5 : Int32) => ((a2 ≤ x4_5 → (K5 x3_5 x4_5)) ∧ (¬ a2 ≤ x4_5 → (vp_in ((a1 + x4_5) / (8 : Int32)) 256 ∧ (ih5 (x3_5 ||| ((((bf ((a1 + x4_5) / (8 : Int32)).toNatClampNeg) >>> (((a1 + x4_5) - (a1 + x4_5) / (8 : Int32) * (8 : Int32)) &&& 31)) &&& (1 : Int32)) <<< (x4_5 &&& 31))) (x4_5 + (1 : Int32))))))) n
def wp_ZB_bitsFrom (bl : Int32) (bf : Nat → Int32) (a1 : Int32) (a2 : Int32) (post : Int32 → Prop) : Prop := ∃ n : Nat, lp_ZB_bitsFrom_5 bl bf a1 a2 post (fun (x3_5e : Int32) (x4_5e : Int32) => post x3_5e) n (0 : Int32) (0 : Int32)
abbrev rm_ZB_bitsFrom : Room := { frames := 0, cells := 0, slots := 0, locals := 0 }
set_option maxHeartbeats 4000000 in
set_option maxRecDepth 100000 in
theorem kt_ZB_bitsFrom (l : Launch) (dC : Nat → ClassId) (dI : Nat → Nat → Nat) (cI : ClassId) (ob oba : Nat) (bl : Int32) (bf : Nat → Int32) (a1 : Int32) (a2 : Int32) (post : Int32 → Prop) (hw : wp_ZB_bitsFrom bl bf a1 a2 post) : Met l yZB_bitsFrom wsZB_bitsFrom rm_ZB_bitsFrom (gr_Pc dC dI [(cI, .int)] [.ref ob, .int a1, .int a2] [(ob, .inr (0, [.ref oba, .int bl])), (oba, .inl (cI, 256, .inl bf))]) (vp_Si post) 0 0 (fun _ => False) := by
  refine Met.ofW (cc := cZB_bitsFrom) (maxL := 6) (ret := (some .int)) (by decide) rfl ?_
  intro p e s m args below meth c s₁ B hml hv
  obtain ⟨ha9, hP, hK, hE⟩ := hv
  have hx := B.exec
  have hb := B.bytes
  have hr := B.returns
  have hts0 := atoms_spec (ws := wsZB_bitsFrom) B.pre
  have hts : ∀ w ∈ tbg, w.before args s = true := fun w h => hts0 w (List.mem_cons_of_mem _ h)
  have hown : s.vm.findClass RZB = some m.cls := findClass_of_methodNamed B.named
  have hlocks := B.notSynchronized
  refine gx_Q (fun Q9 hQ9 => ?_)
  have hl := lv_entry ([.ref ob, .int a1, .int a2]) (n := 6) (Nat.le_of_ble_eq_true rfl)
  have he9 : entryFrame m args 6 = F0 m 0 ((lg_sl [.ref ob, .int a1, .int a2] ++ List.replicate (6 - (lg_sl ([.ref ob, .int a1, .int a2] : List Value)).length) Slot.unset).toArray) [] := by rw [ha9]; exact lg_entry_eq m [.ref ob, .int a1, .int a2] 6
  rw [he9]
  generalize (lg_sl ([.ref ob, .int a1, .int a2] : List Value) ++ List.replicate (6 - (lg_sl ([.ref ob, .int a1, .int a2] : List Value)).length) Slot.unset).toArray = ls at hl ⊢
  have hl : lv_has ls 6 [(0, .ref ob), (1, .int a1), (2, .int a2)] := hl
  refine lv_iconst (v := (0 : Int32)) hx hb dZB_bitsFrom_0 (by decide) ?_
  refine lv_istore_n (lv' := [(3, .int (0 : Int32)), (0, .ref ob), (1, .int a1), (2, .int a2)]) hx hb dZB_bitsFrom_1 rfl hl (by decide) rfl (fun ls hl => ?_)
  refine lv_iconst (v := (0 : Int32)) hx hb dZB_bitsFrom_2 (by decide) ?_
  refine lv_istore (lv' := [(4, .int (0 : Int32)), (3, .int (0 : Int32)), (0, .ref ob), (1, .int a1), (2, .int a2)]) hx hb dZB_bitsFrom_3 hl (by decide) rfl (fun ls hl => ?_)
  have lp5 : ∀ K5 : Int32 → Int32 → Prop, (∀ (x3_5 : Int32) (x4_5 : Int32), K5 x3_5 x4_5 → ∀ ls : Array Slot, lv_has ls 6 [(4, .int x4_5), (3, .int x3_5), (0, .ref ob), (1, .int a1), (2, .int a2)] → W p l e (headSpec wsZB_bitsFrom rm_ZB_bitsFrom).room s m args below meth c s.heap [] 0 0 Q9 (F0 m 47 ls [])) → ∀ (n : Nat) (x3_5 : Int32) (x4_5 : Int32), lp_ZB_bitsFrom_5 bl bf a1 a2 post K5 n x3_5 x4_5 → ∀ ls : Array Slot, lv_has ls 6 [(4, .int x4_5), (3, .int x3_5), (0, .ref ob), (1, .int a1), (2, .int a2)] → W p l e (headSpec wsZB_bitsFrom rm_ZB_bitsFrom).room s m args below meth c s.heap [] 0 0 Q9 (F0 m 5 ls []) := by
    intro K5 aft5 n
    induction n with
    | zero => intro x3_5 x4_5 hw; exact False.elim hw
    | succ n ih5 =>
      intro x3_5 x4_5 hw ls hl
      refine lv_iload hx hb dZB_bitsFrom_5 (lv_at hl 0 rfl) ?_
      refine lv_iload_n hx hb dZB_bitsFrom_7 rfl (lv_at hl 4 rfl) ?_
      refine lv_icmp_ge (tgt := 47) hx hb dZB_bitsFrom_8 (by decide) (fun c_1 => ?_) (fun c_1 => ?_)
      · have hw := hw.1 c_1
        exact aft5 x3_5 x4_5 hw ls (lv_sub hl [0, 1, 2, 3, 4] rfl)
      · have hw := hw.2 c_1
        refine lv_iload_n hx hb dZB_bitsFrom_11 rfl (lv_at hl 3 rfl) ?_
        refine lv_iload hx hb dZB_bitsFrom_12 (lv_at hl 0 rfl) ?_
        refine lv_iadd hx hb dZB_bitsFrom_14 ?_
        refine lv_istore (lv' := [(5, .int (a1 + x4_5)), (4, .int x4_5), (3, .int x3_5), (0, .ref ob), (1, .int a1), (2, .int a2)]) hx hb dZB_bitsFrom_15 hl (by decide) rfl (fun ls hl => ?_)
        refine lv_iload_n hx hb dZB_bitsFrom_17 rfl (lv_at hl 2 rfl) ?_
        refine lv_aload_n hx hb dZB_bitsFrom_18 rfl (lv_at hl 3 rfl) ?_
        refine va_get (D := (dC, dI)) (ci := 0) (v := .ref oba) (C := RZB) (T := TZB) (N := 2) hx hb hts inZB hown hK hP 0 rfl rfl 0 (by decide) (hts _ mm_75) (fun _ h9 => h9) rfl dZB_bitsFrom_19 ?_
        refine lv_iload hx hb dZB_bitsFrom_22 (lv_at hl 0 rfl) ?_
        refine lv_bipush (v := (8 : Int32)) hx hb dZB_bitsFrom_24 (by decide) ?_
        refine lv_idiv hx hb dZB_bitsFrom_26 (by decide) ?_
        obtain ⟨h_2, hw⟩ := hw
        refine va_iald hx hb hK hP 1 0 rfl rfl h_2 dZB_bitsFrom_27 ?_
        refine lv_iload hx hb dZB_bitsFrom_28 (lv_at hl 0 rfl) ?_
        refine lv_bipush (v := (8 : Int32)) hx hb dZB_bitsFrom_30 (by decide) ?_
        refine lv_irem hx hb dZB_bitsFrom_32 (by decide) ?_
        refine lv_ishr hx hb dZB_bitsFrom_33 ?_
        refine lv_iconst (v := (1 : Int32)) hx hb dZB_bitsFrom_34 (by decide) ?_
        refine lv_iand hx hb dZB_bitsFrom_35 ?_
        refine lv_iload hx hb dZB_bitsFrom_36 (lv_at hl 1 rfl) ?_
        refine lv_ishl hx hb dZB_bitsFrom_38 ?_
        refine lv_ior hx hb dZB_bitsFrom_39 ?_
        refine lv_istore_n (lv' := [(3, .int (x3_5 ||| ((((bf ((a1 + x4_5) / (8 : Int32)).toNatClampNeg) >>> (((a1 + x4_5) - (a1 + x4_5) / (8 : Int32) * (8 : Int32)) &&& 31)) &&& (1 : Int32)) <<< (x4_5 &&& 31)))), (5, .int (a1 + x4_5)), (4, .int x4_5), (0, .ref ob), (1, .int a1), (2, .int a2)]) hx hb dZB_bitsFrom_40 rfl hl (by decide) rfl (fun ls hl => ?_)
        refine lv_iinc (v := x4_5 + (1 : Int32)) (lv' := [(4, .int (x4_5 + (1 : Int32))), (3, .int (x3_5 ||| ((((bf ((a1 + x4_5) / (8 : Int32)).toNatClampNeg) >>> (((a1 + x4_5) - (a1 + x4_5) / (8 : Int32) * (8 : Int32)) &&& 31)) &&& (1 : Int32)) <<< (x4_5 &&& 31)))), (5, .int (a1 + x4_5)), (0, .ref ob), (1, .int a1), (2, .int a2)]) hx hb dZB_bitsFrom_41 hl (k := 2) rfl rfl (by decide) rfl (fun ls hl => ?_)
        refine lv_goto (tgt := 5) hx hb dZB_bitsFrom_44 (by decide) ?_
        exact ih5 (x3_5 ||| ((((bf ((a1 + x4_5) / (8 : Int32)).toNatClampNeg) >>> (((a1 + x4_5) - (a1 + x4_5) / (8 : Int32) * (8 : Int32)) &&& 31)) &&& (1 : Int32)) <<< (x4_5 &&& 31))) (x4_5 + (1 : Int32)) hw ls (lv_sub hl [0, 1, 3, 4, 5] rfl)
  obtain ⟨n5, hw⟩ := hw
  refine lp5 _ (fun x3_5e x4_5e hw ls hl => ?_) n5 (0 : Int32) (0 : Int32) hw ls (lv_sub hl [0, 1, 2, 3, 4] rfl)
  refine lv_iload_n hx hb dZB_bitsFrom_47 rfl (lv_at hl 1 rfl) ?_
  subst hQ9
  exact W.iret (v := x3_5e) hx hb hr (fun t ht hW => ⟨x3_5e, rfl, hw, ht⟩) (fun q h => nomatch h) dZB_bitsFrom_48
theorem dZB_append_0 : decode cZB_append 0 = .ok (.aload_n 0, 1) := by decide +kernel
theorem dZB_append_1 : decode cZB_append 1 = .ok (.invokevirtual 19, 3) := by decide +kernel
theorem dZB_append_4 : decode cZB_append 4 = .ok (.ifCond .ne 23, 3) := by decide +kernel
theorem dZB_append_7 : decode cZB_append 7 = .ok (.aload_n 0, 1) := by decide +kernel
theorem dZB_append_8 : decode cZB_append 8 = .ok (.getfield 9, 3) := by decide +kernel
theorem dZB_append_11 : decode cZB_append 11 = .ok (.aload_n 0, 1) := by decide +kernel
theorem dZB_append_12 : decode cZB_append 12 = .ok (.getfield 15, 3) := by decide +kernel
theorem dZB_append_15 : decode cZB_append 15 = .ok (.iload_n 1, 1) := by decide +kernel
theorem dZB_append_16 : decode cZB_append 16 = .ok (.iastore, 1) := by decide +kernel
theorem dZB_append_17 : decode cZB_append 17 = .ok (.aload_n 0, 1) := by decide +kernel
theorem dZB_append_18 : decode cZB_append 18 = .ok (.dup, 1) := by decide +kernel
theorem dZB_append_19 : decode cZB_append 19 = .ok (.getfield 15, 3) := by decide +kernel
theorem dZB_append_22 : decode cZB_append 22 = .ok (.iconst 1, 1) := by decide +kernel
theorem dZB_append_23 : decode cZB_append 23 = .ok (.iadd, 1) := by decide +kernel
theorem dZB_append_24 : decode cZB_append 24 = .ok (.putfield 15, 3) := by decide +kernel
theorem dZB_append_27 : decode cZB_append 27 = .ok (.return_, 1) := by decide +kernel
abbrev wsZB_append : List Cond := .code yZB_append cZB_append 2 none :: tbg
def wp_ZB_append (bl : Int32) (bf : Nat → Int32) (a1 : Int32) (post : Int32 → (Nat → Int32) → Prop) : Prop := wp_ZB_isFull bl bf (fun r_1 : Int32 => ((r_1 = (0 : Int32) → (vp_in bl 256 ∧ (post (bl + (1 : Int32)) (upd bf bl.toNatClampNeg a1)))) ∧ (¬ r_1 = (0 : Int32) → (post bl bf))))
abbrev rm_ZB_append : Room := { frames := 1, cells := 0, slots := 0, locals := 20 }
set_option maxHeartbeats 4000000 in
set_option maxRecDepth 100000 in
theorem kt_ZB_append (l : Launch) (dC : Nat → ClassId) (dI : Nat → Nat → Nat) (cI : ClassId) (ob oba : Nat) (sz : Nat) (bl : Int32) (bf : Nat → Int32) (a1 : Int32) (post : Int32 → (Nat → Int32) → Prop) (hw : wp_ZB_append bl bf a1 post) : Met l yZB_append wsZB_append rm_ZB_append (gw_Pc dC dI [(cI, .int)] [.ref ob, .int a1] [(ob, .inr (0, [.ref oba, .int bl])), (oba, .inl (cI, 256, .inl bf))] sz) (va_Qv (fun (u : Int32 × (Nat → Int32)) => post u.1 u.2) (fun u t => gw_B dC dI [(cI, .int)] (va_A [(ob, .inr (0, [.ref oba, .int bl])), (oba, .inl (cI, 256, .inl bf))] sz) [(ob, .inr (0, [.ref oba, .int u.1])), (oba, .inl (cI, 256, .inl u.2))] t) (va_A [(ob, .inr (0, [.ref oba, .int bl])), (oba, .inl (cI, 256, .inl bf))] sz)) 0 0 (va_A [(ob, .inr (0, [.ref oba, .int bl])), (oba, .inl (cI, 256, .inl bf))] sz) := by
  refine Met.ofW (cc := cZB_append) (maxL := 2) (ret := none) (by decide) rfl ?_
  intro p e s m args below meth c s₁ B hml hv
  obtain ⟨ha9, hsz, hP, hK, hE, hD0⟩ := hv
  have hx := B.exec
  have hb := B.bytes
  have hr := B.returns
  have hts0 := atoms_spec (ws := wsZB_append) B.pre
  have hts : ∀ w ∈ tbg, w.before args s = true := fun w h => hts0 w (List.mem_cons_of_mem _ h)
  have hown : s.vm.findClass RZB = some m.cls := findClass_of_methodNamed B.named
  have hlocks := B.notSynchronized
  subst hsz
  have hD := hD0.self (sz := s.heap.size)
  refine gx_Q (fun Q9 hQ9 => ?_)
  generalize hAe : va_A [(ob, .inr (0, [.ref oba, .int bl])), (oba, .inl (cI, 256, .inl bf))] s.heap.size = A at hD hQ9 ⊢
  have hA : ∀ q : Nat, s.heap.size ≤ q → A q := fun q h => by rw [← hAe]; exact Or.inr h
  have hS : va_S A s.heap s.heap [] := va_S.rf
  have hl := lv_entry ([.ref ob, .int a1]) (n := 2) (Nat.le_of_ble_eq_true rfl)
  have he9 : entryFrame m args 2 = F0 m 0 ((lg_sl [.ref ob, .int a1] ++ List.replicate (2 - (lg_sl ([.ref ob, .int a1] : List Value)).length) Slot.unset).toArray) [] := by rw [ha9]; exact lg_entry_eq m [.ref ob, .int a1] 2
  rw [he9]
  generalize (lg_sl ([.ref ob, .int a1] : List Value) ++ List.replicate (2 - (lg_sl ([.ref ob, .int a1] : List Value)).length) Slot.unset).toArray = ls at hl ⊢
  have hl : lv_has ls 2 [(0, .ref ob), (1, .int a1)] := hl
  refine lv_aload_n hx hb dZB_append_0 rfl (lv_at hl 0 rfl) ?_
  refine vp_callSi (va_runV (As := []) (rest := []) ⟨hx, hb, hml, hown, hts⟩ (kt_ZB_isFull l dC dI cI ob oba bl bf _ hw) (cwV 0 hts (tb_V mm_485 mm_486 mm_487 mm_5 mm_488) rfl rfl rfl (by decide +kernel) ⟨Nat.le_of_ble_eq_true rfl, Nat.le_of_ble_eq_true rfl⟩) ⟨gr_blind, va_recv hK hP (ci := 0) (q0 := 0) rfl rfl, fun U hU hW => gr_pre hP hK hE hU hW⟩ rfl rfl hl.1 rfl (lv_room (Nat.le_of_ble_eq_true rfl)) dZB_append_1 ⟨Nat.le_of_ble_eq_true rfl, Nat.le_of_ble_eq_true rfl⟩).run (fun r_1 hw => ?_)
  refine lv_if_ne (tgt := 27) hx hb dZB_append_4 (by decide) (fun c_2 => ?_) (fun c_2 => ?_)
  · have hw := hw.2 c_2
    have hP9 := hP.sub (ws' := [(ob, .inr (0, [.ref oba, .int bl])), (oba, .inl (cI, 256, .inl bf))]) [0, 1] rfl
    have hD9 := hD.sub (ws' := [(ob, .inr (0, [.ref oba, .int bl])), (oba, .inl (cI, 256, .inl bf))]) [0, 1] (by decide) rfl
    subst hQ9
    exact W.vret hx hb hr (fun t ht hW => ⟨⟨(bl, bf), rfl, hw, by rw [ht]; exact hP9, va_K.moved hW.alike hK, hD9⟩, hS.F ht⟩) hS.2.2 dZB_append_27
  · have hw := hw.1 c_2
    refine lv_aload_n hx hb dZB_append_7 rfl (lv_at hl 0 rfl) ?_
    refine va_get (D := (dC, dI)) (ci := 0) (v := .ref oba) (C := RZB) (T := TZB) (N := 2) hx hb hts inZB hown hK hP 0 rfl rfl 0 (by decide) (hts _ mm_75) (fun _ h9 => h9) rfl dZB_append_8 ?_
    refine lv_aload_n hx hb dZB_append_11 rfl (lv_at hl 0 rfl) ?_
    refine va_get (D := (dC, dI)) (ci := 0) (v := .int bl) (C := RZB) (T := TZB) (N := 2) hx hb hts inZB hown hK hP 0 rfl rfl 1 (by decide) (hts _ mm_78) (fun _ h9 => h9) rfl dZB_append_12 ?_
    refine lv_iload_n hx hb dZB_append_15 rfl (lv_at hl 1 rfl) ?_
    obtain ⟨h_3, hw⟩ := hw
    refine va_iast hx hb hK hP hD hS 1 0 rfl rfl h_3 dZB_append_16 (fun H locs hP hD hS => ?_)
    have hP : va_P (dC, dI) vwCl [(ob, .inr (0, [.ref oba, .int bl])), (oba, .inl (cI, 256, .inl (upd bf bl.toNatClampNeg a1)))] H := hP
    have hD : va_D A [(ob, .inr (0, [.ref oba, .int bl])), (oba, .inl (cI, 256, .inl (upd bf bl.toNatClampNeg a1)))] := hD
    refine lv_aload_n hx hb dZB_append_17 rfl (lv_at hl 0 rfl) ?_
    refine lv_dup hx hb dZB_append_18 rfl ?_
    refine va_get (D := (dC, dI)) (ci := 0) (v := .int bl) (C := RZB) (T := TZB) (N := 2) hx hb hts inZB hown hK hP 0 rfl rfl 1 (by decide) (hts _ mm_78) (fun _ h9 => h9) rfl dZB_append_19 ?_
    refine lv_iconst (v := (1 : Int32)) hx hb dZB_append_22 (by decide) ?_
    refine lv_iadd hx hb dZB_append_23 ?_
    refine va_put (D := (dC, dI)) (ci := 0) (v := .int (bl + (1 : Int32))) (ty := .int) (C := RZB) (T := TZB) (N := 2) hx hb hts inZB tyZB tyZB_ok nmZB hown hK hP hD hS 0 rfl rfl 1 (by decide) (hts _ mm_78) (fun _ h9 => h9) rfl (by decide +kernel) rfl rfl (Nat.le_of_ble_eq_true rfl) dZB_append_24 (fun H locs hP hD hS => ?_)
    have hP : va_P (dC, dI) vwCl [(ob, .inr (0, [.ref oba, .int (bl + (1 : Int32))])), (oba, .inl (cI, 256, .inl (upd bf bl.toNatClampNeg a1)))] H := hP
    have hD : va_D A [(ob, .inr (0, [.ref oba, .int (bl + (1 : Int32))])), (oba, .inl (cI, 256, .inl (upd bf bl.toNatClampNeg a1)))] := hD
    have hP9 := hP.sub (ws' := [(ob, .inr (0, [.ref oba, .int (bl + (1 : Int32))])), (oba, .inl (cI, 256, .inl (upd bf bl.toNatClampNeg a1)))]) [0, 1] rfl
    have hD9 := hD.sub (ws' := [(ob, .inr (0, [.ref oba, .int (bl + (1 : Int32))])), (oba, .inl (cI, 256, .inl (upd bf bl.toNatClampNeg a1)))]) [0, 1] (by decide) rfl
    subst hQ9
    exact W.vret hx hb hr (fun t ht hW => ⟨⟨(bl + (1 : Int32), upd bf bl.toNatClampNeg a1), rfl, hw, by rw [ht]; exact hP9, va_K.moved hW.alike hK, hD9⟩, hS.F ht⟩) hS.2.2 dZB_append_27
theorem dZB_init_0 : decode cZB_init 0 = .ok (.aload_n 0, 1) := by decide +kernel
theorem dZB_init_1 : decode cZB_init 1 = .ok (.invokespecial 3, 3) := by decide +kernel
theorem dZB_init_4 : decode cZB_init 4 = .ok (.aload_n 0, 1) := by decide +kernel
theorem dZB_init_5 : decode cZB_init 5 = .ok (.sipush 256, 3) := by decide +kernel
theorem dZB_init_8 : decode cZB_init 8 = .ok (.newarray .int, 2) := by decide +kernel
theorem dZB_init_10 : decode cZB_init 10 = .ok (.putfield 9, 3) := by decide +kernel
theorem dZB_init_13 : decode cZB_init 13 = .ok (.return_, 1) := by decide +kernel
abbrev wsZB_init : List Cond := .code yZB_init cZB_init 1 none :: tbg
def wp_ZB_init (bl : Int32) (post : (Nat → Int32) → Prop) : Prop := post (fun _ => 0)
abbrev rm_ZB_init : Room := { frames := 1, cells := 1, slots := 256, locals := 20 }
set_option maxHeartbeats 4000000 in
set_option maxRecDepth 100000 in
theorem kt_ZB_init (l : Launch) (dC : Nat → ClassId) (dI : Nat → Nat → Nat) (cI : ClassId) (ob : Nat) (sz : Nat) (bl : Int32) (post : (Nat → Int32) → Prop) (hw : wp_ZB_init bl post) : Met l yZB_init wsZB_init rm_ZB_init (gw_Pc dC dI [(cI, .int)] [.ref ob] [(ob, .inr (0, [.null, .int bl]))] sz) (va_Qv (fun (u : (Nat → Int32)) => post u) (fun u t => ∃ oba : Nat, gw_B dC dI [(cI, .int)] (va_A [(ob, .inr (0, [.null, .int bl]))] sz) [(ob, .inr (0, [.ref oba, .int bl])), (oba, .inl (cI, 256, .inl u))] t) (va_A [(ob, .inr (0, [.null, .int bl]))] sz)) 1 256 (va_A [(ob, .inr (0, [.null, .int bl]))] sz) := by
  refine Met.ofW (cc := cZB_init) (maxL := 1) (ret := none) (by decide) rfl ?_
  intro p e s m args below meth c s₁ B hml hv
  obtain ⟨ha9, hsz, hP, hK, hE, hD0⟩ := hv
  have hx := B.exec
  have hb := B.bytes
  have hr := B.returns
  have hts0 := atoms_spec (ws := wsZB_init) B.pre
  have hts : ∀ w ∈ tbg, w.before args s = true := fun w h => hts0 w (List.mem_cons_of_mem _ h)
  have hown : s.vm.findClass RZB = some m.cls := findClass_of_methodNamed B.named
  have hlocks := B.notSynchronized
  have hin : meth.name = "<init>" := (name_of_methodNamed B.named B.method).1
  subst hsz
  have hD := hD0.self (sz := s.heap.size)
  refine gx_Q (fun Q9 hQ9 => ?_)
  generalize hAe : va_A [(ob, .inr (0, [.null, .int bl]))] s.heap.size = A at hD hQ9 ⊢
  have hA : ∀ q : Nat, s.heap.size ≤ q → A q := fun q h => by rw [← hAe]; exact Or.inr h
  have hS : va_S A s.heap s.heap [] := va_S.rf
  have hl := lv_entry ([.ref ob]) (n := 1) (Nat.le_of_ble_eq_true rfl)
  have he9 : entryFrame m args 1 = F0 m 0 ((lg_sl [.ref ob] ++ List.replicate (1 - (lg_sl ([.ref ob] : List Value)).length) Slot.unset).toArray) [] := by rw [ha9]; exact lg_entry_eq m [.ref ob] 1
  rw [he9]
  generalize (lg_sl ([.ref ob] : List Value) ++ List.replicate (1 - (lg_sl ([.ref ob] : List Value)).length) Slot.unset).toArray = ls at hl ⊢
  have hl : lv_has ls 1 [(0, .ref ob)] := hl
  refine lv_aload_n hx hb dZB_init_0 rfl (lv_at hl 0 rfl) ?_
  refine W.objInit hx hb hown (hts _ mm_74) (hts _ mm_23) (hts _ mm_24) rfl (by rw [hml]; exact hl.1) rfl dZB_init_1 (Nat.le_of_ble_eq_true rfl) (Nat.le_of_ble_eq_true rfl) ?_
  refine W.eq (g2 := F0 m 4 ls []) rfl ?_
  refine lv_aload_n hx hb dZB_init_4 rfl (lv_at hl 0 rfl) ?_
  refine lv_sipush (v := (256 : Int32)) hx hb dZB_init_5 (by decide) ?_
  refine va_newa (atype := .int) (N' := 256) (a0 := (256, .inl (fun _ => 0))) (ty := .int) hx hb (hts _ mm_53) rfl hK hP hD hS hA (fun _ => rfl) (by decide) (by decide) (Nat.le_of_ble_eq_true rfl) (Nat.le_of_ble_eq_true rfl) (Nat.le_of_ble_eq_true rfl) dZB_init_8 (fun q_1 cAq_1 H hK2 hP hD hS => ?_)
  have hc_q_1 : cAq_1 = cI := Option.some.inj ((va_nm_int (hK2.2 1 _ rfl).2).symm.trans (va_nm_int (hK.2 0 _ rfl).2))
  rw [hc_q_1] at hP hD
  refine W.widen (k := 1) (n := 256) (by omega) (by omega) ?_
  have hP : va_P (dC, dI) vwCl [(ob, .inr (0, [.null, .int bl])), (q_1, .inl (cI, 256, .inl (fun _ => 0)))] H := hP
  have hD : va_D A [(ob, .inr (0, [.null, .int bl])), (q_1, .inl (cI, 256, .inl (fun _ => 0)))] := hD
  refine va_putF (D := (dC, dI)) (ci := 0) (v := .ref q_1) (ty := (.array .int)) (C := RZB) (T := TZB) (N := 2) hx hb hts inZB tyZB tyZB_ok nmZB hown hK hP hD hS 0 rfl rfl 0 (by decide) (hts _ mm_75) (fun _ h9 => h9) rfl hin rfl (by decide +kernel) rfl rfl (Nat.le_of_ble_eq_true rfl) dZB_init_10 (fun H locs hP hD hS => ?_)
  have hP : va_P (dC, dI) vwCl [(ob, .inr (0, [.ref q_1, .int bl])), (q_1, .inl (cI, 256, .inl (fun _ => 0)))] H := hP
  have hD : va_D A [(ob, .inr (0, [.ref q_1, .int bl])), (q_1, .inl (cI, 256, .inl (fun _ => 0)))] := hD
  have hP9 := hP.sub (ws' := [(ob, .inr (0, [.ref q_1, .int bl])), (q_1, .inl (cI, 256, .inl (fun _ => 0)))]) [0, 1] rfl
  have hD9 := hD.sub (ws' := [(ob, .inr (0, [.ref q_1, .int bl])), (q_1, .inl (cI, 256, .inl (fun _ => 0)))]) [0, 1] (by decide) rfl
  subst hQ9
  exact W.vret hx hb hr (fun t ht hW => ⟨⟨(fun _ => 0), rfl, hw, q_1, by rw [ht]; exact hP9, va_K.moved hW.alike hK, hD9⟩, hS.F ht⟩) hS.2.2 dZB_init_13
