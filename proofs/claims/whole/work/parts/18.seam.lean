theorem dZS_cheapest_0 : decode cZS_cheapest 0 = .ok (.iload_n 2, 1) := by decide +kernel
theorem dZS_cheapest_1 : decode cZS_cheapest 1 = .ok (.istore 4, 2) := by decide +kernel
theorem dZS_cheapest_3 : decode cZS_cheapest 3 = .ok (.iload_n 2, 1) := by decide +kernel
theorem dZS_cheapest_4 : decode cZS_cheapest 4 = .ok (.iconst 1, 1) := by decide +kernel
theorem dZS_cheapest_5 : decode cZS_cheapest 5 = .ok (.iadd, 1) := by decide +kernel
theorem dZS_cheapest_6 : decode cZS_cheapest 6 = .ok (.istore 5, 2) := by decide +kernel
theorem dZS_cheapest_8 : decode cZS_cheapest 8 = .ok (.iload 5, 2) := by decide +kernel
theorem dZS_cheapest_10 : decode cZS_cheapest 10 = .ok (.iload_n 3, 1) := by decide +kernel
theorem dZS_cheapest_11 : decode cZS_cheapest 11 = .ok (.if_icmp .gt 40, 3) := by decide +kernel
theorem dZS_cheapest_14 : decode cZS_cheapest 14 = .ok (.aload_n 0, 1) := by decide +kernel
theorem dZS_cheapest_15 : decode cZS_cheapest 15 = .ok (.getfield 24, 3) := by decide +kernel
theorem dZS_cheapest_18 : decode cZS_cheapest 18 = .ok (.iload_n 1, 1) := by decide +kernel
theorem dZS_cheapest_19 : decode cZS_cheapest 19 = .ok (.bipush 8, 2) := by decide +kernel
theorem dZS_cheapest_21 : decode cZS_cheapest 21 = .ok (.imul, 1) := by decide +kernel
theorem dZS_cheapest_22 : decode cZS_cheapest 22 = .ok (.iload 5, 2) := by decide +kernel
theorem dZS_cheapest_24 : decode cZS_cheapest 24 = .ok (.iadd, 1) := by decide +kernel
theorem dZS_cheapest_25 : decode cZS_cheapest 25 = .ok (.iaload, 1) := by decide +kernel
theorem dZS_cheapest_26 : decode cZS_cheapest 26 = .ok (.aload_n 0, 1) := by decide +kernel
theorem dZS_cheapest_27 : decode cZS_cheapest 27 = .ok (.getfield 24, 3) := by decide +kernel
theorem dZS_cheapest_30 : decode cZS_cheapest 30 = .ok (.iload_n 1, 1) := by decide +kernel
theorem dZS_cheapest_31 : decode cZS_cheapest 31 = .ok (.bipush 8, 2) := by decide +kernel
theorem dZS_cheapest_33 : decode cZS_cheapest 33 = .ok (.imul, 1) := by decide +kernel
theorem dZS_cheapest_34 : decode cZS_cheapest 34 = .ok (.iload 4, 2) := by decide +kernel
theorem dZS_cheapest_36 : decode cZS_cheapest 36 = .ok (.iadd, 1) := by decide +kernel
theorem dZS_cheapest_37 : decode cZS_cheapest 37 = .ok (.iaload, 1) := by decide +kernel
theorem dZS_cheapest_38 : decode cZS_cheapest 38 = .ok (.if_icmp .ge 7, 3) := by decide +kernel
theorem dZS_cheapest_41 : decode cZS_cheapest 41 = .ok (.iload 5, 2) := by decide +kernel
theorem dZS_cheapest_43 : decode cZS_cheapest 43 = .ok (.istore 4, 2) := by decide +kernel
theorem dZS_cheapest_45 : decode cZS_cheapest 45 = .ok (.iinc 5 1, 3) := by decide +kernel
theorem dZS_cheapest_48 : decode cZS_cheapest 48 = .ok (.goto (-40), 3) := by decide +kernel
theorem dZS_cheapest_51 : decode cZS_cheapest 51 = .ok (.iload 4, 2) := by decide +kernel
theorem dZS_cheapest_53 : decode cZS_cheapest 53 = .ok (.ireturn, 1) := by decide +kernel
abbrev wsZS_cheapest : List Cond := .code yZS_cheapest cZS_cheapest 6 (some .int) :: tbg
def lp_ZS_cheapest_8 (kn : Nat) (kf : Nat → Int32) (sn : Nat) (sf : Nat → Int32) (sd : Int32) (pw : Int32) (ph : Int32) (pn : Nat) (pf : Nat → Int32) (gw : Int32) (gh : Int32) (gn : Nat) (gf : Nat → Int32) (a1 : Int32) (a2 : Int32) (a3 : Int32) (post : Int32 → Prop) (K8 : Int32 → Int32 → Prop) (n : Nat) : Int32 → Int32 → Prop := Nat.rec (motive := fun _ => Int32 → Int32 → Prop) (fun (x4_8 : Int32) (x5_8 : Int32) => False) (fun _ ih8 (x4_8 : Int32) (x5_8 : Int32) => ((a3 < x5_8 → (K8 x4_8 x5_8)) ∧ (¬ a3 < x5_8 → (vp_in ((a1 * (8 : Int32)) + x5_8) kn ∧ (vp_in ((a1 * (8 : Int32)) + x4_8) kn ∧ ((((kf ((a1 * (8 : Int32)) + x4_8).toNatClampNeg) ≤ (kf ((a1 * (8 : Int32)) + x5_8).toNatClampNeg) → (ih8 x4_8 (x5_8 + (1 : Int32)))) ∧ (¬ (kf ((a1 * (8 : Int32)) + x4_8).toNatClampNeg) ≤ (kf ((a1 * (8 : Int32)) + x5_8).toNatClampNeg) → (ih8 x5_8 (x5_8 + (1 : Int32))))))))))) n
def wp_ZS_cheapest (kn : Nat) (kf : Nat → Int32) (sn : Nat) (sf : Nat → Int32) (sd : Int32) (pw : Int32) (ph : Int32) (pn : Nat) (pf : Nat → Int32) (gw : Int32) (gh : Int32) (gn : Nat) (gf : Nat → Int32) (a1 : Int32) (a2 : Int32) (a3 : Int32) (post : Int32 → Prop) : Prop := ∃ n : Nat, lp_ZS_cheapest_8 kn kf sn sf sd pw ph pn pf gw gh gn gf a1 a2 a3 post (fun (x4_8e : Int32) (x5_8e : Int32) => post x4_8e) n a2 (a2 + (1 : Int32))
abbrev rm_ZS_cheapest : Room := { frames := 0, cells := 0, slots := 0, locals := 0 }
set_option maxHeartbeats 4000000 in
set_option maxRecDepth 100000 in
theorem kt_ZS_cheapest (l : Launch) (dC : Nat → ClassId) (dI : Nat → Nat → Nat) (cI : ClassId) (os osa osb op opa og oga : Nat) (kn : Nat) (kf : Nat → Int32) (sn : Nat) (sf : Nat → Int32) (sd : Int32) (pw : Int32) (ph : Int32) (pn : Nat) (pf : Nat → Int32) (gw : Int32) (gh : Int32) (gn : Nat) (gf : Nat → Int32) (a1 : Int32) (a2 : Int32) (a3 : Int32) (post : Int32 → Prop) (hw : wp_ZS_cheapest kn kf sn sf sd pw ph pn pf gw gh gn gf a1 a2 a3 post) : Met l yZS_cheapest wsZS_cheapest rm_ZS_cheapest (gr_Pc dC dI [(cI, .int)] [.ref os, .int a1, .int a2, .int a3] [(os, .inr (3, [.ref op, .ref og, .ref osa, .ref osb, .int sd])), (osa, .inl (cI, kn, .inl kf)), (osb, .inl (cI, sn, .inl sf)), (op, .inr (1, [.int pw, .int ph, .ref opa])), (opa, .inl (cI, pn, .inl pf)), (og, .inr (1, [.int gw, .int gh, .ref oga])), (oga, .inl (cI, gn, .inl gf))]) (vp_Si post) 0 0 (fun _ => False) := by
  refine Met.ofW (cc := cZS_cheapest) (maxL := 6) (ret := (some .int)) (by decide) rfl ?_
  intro p e s m args below meth c s₁ B hml hv
  obtain ⟨ha9, hP, hK, hE⟩ := hv
  have hx := B.exec
  have hb := B.bytes
  have hr := B.returns
  have hts0 := atoms_spec (ws := wsZS_cheapest) B.pre
  have hts : ∀ w ∈ tbg, w.before args s = true := fun w h => hts0 w (List.mem_cons_of_mem _ h)
  have hown : s.vm.findClass RZS = some m.cls := findClass_of_methodNamed B.named
  have hlocks := B.notSynchronized
  refine gx_Q (fun Q9 hQ9 => ?_)
  have hl := lv_entry ([.ref os, .int a1, .int a2, .int a3]) (n := 6) (Nat.le_of_ble_eq_true rfl)
  have he9 : entryFrame m args 6 = F0 m 0 ((lg_sl [.ref os, .int a1, .int a2, .int a3] ++ List.replicate (6 - (lg_sl ([.ref os, .int a1, .int a2, .int a3] : List Value)).length) Slot.unset).toArray) [] := by rw [ha9]; exact lg_entry_eq m [.ref os, .int a1, .int a2, .int a3] 6
  rw [he9]
  generalize (lg_sl ([.ref os, .int a1, .int a2, .int a3] : List Value) ++ List.replicate (6 - (lg_sl ([.ref os, .int a1, .int a2, .int a3] : List Value)).length) Slot.unset).toArray = ls at hl ⊢
  have hl : lv_has ls 6 [(0, .ref os), (1, .int a1), (2, .int a2), (3, .int a3)] := hl
  refine lv_iload_n hx hb dZS_cheapest_0 rfl (lv_at hl 2 rfl) ?_
  refine lv_istore (lv' := [(4, .int a2), (0, .ref os), (1, .int a1), (2, .int a2), (3, .int a3)]) hx hb dZS_cheapest_1 hl (by decide) rfl (fun ls hl => ?_)
  refine lv_iload_n hx hb dZS_cheapest_3 rfl (lv_at hl 3 rfl) ?_
  refine lv_iconst (v := (1 : Int32)) hx hb dZS_cheapest_4 (by decide) ?_
  refine lv_iadd hx hb dZS_cheapest_5 ?_
  refine lv_istore (lv' := [(5, .int (a2 + (1 : Int32))), (4, .int a2), (0, .ref os), (1, .int a1), (2, .int a2), (3, .int a3)]) hx hb dZS_cheapest_6 hl (by decide) rfl (fun ls hl => ?_)
  have lp8 : ∀ K8 : Int32 → Int32 → Prop, (∀ (x4_8 : Int32) (x5_8 : Int32), K8 x4_8 x5_8 → ∀ ls : Array Slot, lv_has ls 6 [(5, .int x5_8), (4, .int x4_8), (0, .ref os), (1, .int a1), (2, .int a2), (3, .int a3)] → W p l e (headSpec wsZS_cheapest rm_ZS_cheapest).room s m args below meth c s.heap [] 0 0 Q9 (F0 m 51 ls [])) → ∀ (n : Nat) (x4_8 : Int32) (x5_8 : Int32), lp_ZS_cheapest_8 kn kf sn sf sd pw ph pn pf gw gh gn gf a1 a2 a3 post K8 n x4_8 x5_8 → ∀ ls : Array Slot, lv_has ls 6 [(5, .int x5_8), (4, .int x4_8), (0, .ref os), (1, .int a1), (2, .int a2), (3, .int a3)] → W p l e (headSpec wsZS_cheapest rm_ZS_cheapest).room s m args below meth c s.heap [] 0 0 Q9 (F0 m 8 ls []) := by
    intro K8 aft8 n
    induction n with
    | zero => intro x4_8 x5_8 hw; exact False.elim hw
    | succ n ih8 =>
      intro x4_8 x5_8 hw ls hl
      refine lv_iload hx hb dZS_cheapest_8 (lv_at hl 0 rfl) ?_
      refine lv_iload_n hx hb dZS_cheapest_10 rfl (lv_at hl 5 rfl) ?_
      refine lv_icmp_gt (tgt := 51) hx hb dZS_cheapest_11 (by decide) (fun c_1 => ?_) (fun c_1 => ?_)
      · have hw := hw.1 c_1
        exact aft8 x4_8 x5_8 hw ls (lv_sub hl [0, 1, 2, 3, 4, 5] rfl)
      · have hw := hw.2 c_1
        refine lv_aload_n hx hb dZS_cheapest_14 rfl (lv_at hl 2 rfl) ?_
        refine va_get (D := (dC, dI)) (ci := 3) (v := .ref osa) (C := RZS) (T := TZS) (N := 5) hx hb hts inZS hown hK hP 0 rfl rfl 2 (by decide) (hts _ mm_95) (fun _ h9 => h9) rfl dZS_cheapest_15 ?_
        refine lv_iload_n hx hb dZS_cheapest_18 rfl (lv_at hl 3 rfl) ?_
        refine lv_bipush (v := (8 : Int32)) hx hb dZS_cheapest_19 (by decide) ?_
        refine lv_imul hx hb dZS_cheapest_21 ?_
        refine lv_iload hx hb dZS_cheapest_22 (lv_at hl 0 rfl) ?_
        refine lv_iadd hx hb dZS_cheapest_24 ?_
        obtain ⟨h_2, hw⟩ := hw
        refine va_iald hx hb hK hP 1 0 rfl rfl h_2 dZS_cheapest_25 ?_
        refine lv_aload_n hx hb dZS_cheapest_26 rfl (lv_at hl 2 rfl) ?_
        refine va_get (D := (dC, dI)) (ci := 3) (v := .ref osa) (C := RZS) (T := TZS) (N := 5) hx hb hts inZS hown hK hP 0 rfl rfl 2 (by decide) (hts _ mm_95) (fun _ h9 => h9) rfl dZS_cheapest_27 ?_
        refine lv_iload_n hx hb dZS_cheapest_30 rfl (lv_at hl 3 rfl) ?_
        refine lv_bipush (v := (8 : Int32)) hx hb dZS_cheapest_31 (by decide) ?_
        refine lv_imul hx hb dZS_cheapest_33 ?_
        refine lv_iload hx hb dZS_cheapest_34 (lv_at hl 1 rfl) ?_
        refine lv_iadd hx hb dZS_cheapest_36 ?_
        obtain ⟨h_3, hw⟩ := hw
        refine va_iald hx hb hK hP 1 0 rfl rfl h_3 dZS_cheapest_37 ?_
        refine lv_icmp_ge (tgt := 45) hx hb dZS_cheapest_38 (by decide) (fun c_4 => ?_) (fun c_4 => ?_)
        · have hw := hw.1 c_4
          refine lv_iinc (v := x5_8 + (1 : Int32)) (lv' := [(5, .int (x5_8 + (1 : Int32))), (4, .int x4_8), (0, .ref os), (1, .int a1), (2, .int a2), (3, .int a3)]) hx hb dZS_cheapest_45 hl (k := 0) rfl rfl (by decide) rfl (fun ls hl => ?_)
          refine lv_goto (tgt := 8) hx hb dZS_cheapest_48 (by decide) ?_
          exact ih8 x4_8 (x5_8 + (1 : Int32)) hw ls (lv_sub hl [0, 1, 2, 3, 4, 5] rfl)
        · have hw := hw.2 c_4
          refine lv_iload hx hb dZS_cheapest_41 (lv_at hl 0 rfl) ?_
          refine lv_istore (lv' := [(4, .int x5_8), (5, .int x5_8), (0, .ref os), (1, .int a1), (2, .int a2), (3, .int a3)]) hx hb dZS_cheapest_43 hl (by decide) rfl (fun ls hl => ?_)
          refine lv_iinc (v := x5_8 + (1 : Int32)) (lv' := [(5, .int (x5_8 + (1 : Int32))), (4, .int x5_8), (0, .ref os), (1, .int a1), (2, .int a2), (3, .int a3)]) hx hb dZS_cheapest_45 hl (k := 1) rfl rfl (by decide) rfl (fun ls hl => ?_)
          refine lv_goto (tgt := 8) hx hb dZS_cheapest_48 (by decide) ?_
          exact ih8 x5_8 (x5_8 + (1 : Int32)) hw ls (lv_sub hl [0, 1, 2, 3, 4, 5] rfl)
  obtain ⟨n8, hw⟩ := hw
  refine lp8 _ (fun x4_8e x5_8e hw ls hl => ?_) n8 a2 (a2 + (1 : Int32)) hw ls (lv_sub hl [0, 1, 2, 3, 4, 5] rfl)
  refine lv_iload hx hb dZS_cheapest_51 (lv_at hl 1 rfl) ?_
  subst hQ9
  exact W.iret (v := x4_8e) hx hb hr (fun t ht hW => ⟨x4_8e, rfl, hw, ht⟩) (fun q h => nomatch h) dZS_cheapest_53
theorem dZS_cheapestNear_0 : decode cZS_cheapestNear 0 = .ok (.aload_n 0, 1) := by decide +kernel
theorem dZS_cheapestNear_1 : decode cZS_cheapestNear 1 = .ok (.iload_n 1, 1) := by decide +kernel
theorem dZS_cheapestNear_2 : decode cZS_cheapestNear 2 = .ok (.iconst 0, 1) := by decide +kernel
theorem dZS_cheapestNear_3 : decode cZS_cheapestNear 3 = .ok (.iload_n 2, 1) := by decide +kernel
theorem dZS_cheapestNear_4 : decode cZS_cheapestNear 4 = .ok (.iconst 1, 1) := by decide +kernel
theorem dZS_cheapestNear_5 : decode cZS_cheapestNear 5 = .ok (.isub, 1) := by decide +kernel
theorem dZS_cheapestNear_6 : decode cZS_cheapestNear 6 = .ok (.invokestatic 53, 3) := by decide +kernel
theorem dZS_cheapestNear_9 : decode cZS_cheapestNear 9 = .ok (.iload_n 3, 1) := by decide +kernel
theorem dZS_cheapestNear_10 : decode cZS_cheapestNear 10 = .ok (.iconst 1, 1) := by decide +kernel
theorem dZS_cheapestNear_11 : decode cZS_cheapestNear 11 = .ok (.isub, 1) := by decide +kernel
theorem dZS_cheapestNear_12 : decode cZS_cheapestNear 12 = .ok (.iload_n 2, 1) := by decide +kernel
theorem dZS_cheapestNear_13 : decode cZS_cheapestNear 13 = .ok (.iconst 1, 1) := by decide +kernel
theorem dZS_cheapestNear_14 : decode cZS_cheapestNear 14 = .ok (.iadd, 1) := by decide +kernel
theorem dZS_cheapestNear_15 : decode cZS_cheapestNear 15 = .ok (.invokestatic 58, 3) := by decide +kernel
theorem dZS_cheapestNear_18 : decode cZS_cheapestNear 18 = .ok (.invokevirtual 35, 3) := by decide +kernel
theorem dZS_cheapestNear_21 : decode cZS_cheapestNear 21 = .ok (.ireturn, 1) := by decide +kernel
abbrev wsZS_cheapestNear : List Cond := .code yZS_cheapestNear cZS_cheapestNear 4 (some .int) :: tbg
def wp_ZS_cheapestNear (kn : Nat) (kf : Nat → Int32) (sn : Nat) (sf : Nat → Int32) (sd : Int32) (pw : Int32) (ph : Int32) (pn : Nat) (pf : Nat → Int32) (gw : Int32) (gh : Int32) (gn : Nat) (gf : Nat → Int32) (a1 : Int32) (a2 : Int32) (a3 : Int32) (post : Int32 → Prop) : Prop := wp_ZS_cheapest kn kf sn sf sd pw ph pn pf gw gh gn gf a1 (if (0 : Int32) < (a2 - (1 : Int32)) then (a2 - (1 : Int32)) else (0 : Int32)) (if (a2 + (1 : Int32)) < (a3 - (1 : Int32)) then (a2 + (1 : Int32)) else (a3 - (1 : Int32))) (fun r_1 : Int32 => post r_1)
abbrev rm_ZS_cheapestNear : Room := { frames := 1, cells := 0, slots := 0, locals := 25 }
set_option maxHeartbeats 4000000 in
set_option maxRecDepth 100000 in
theorem kt_ZS_cheapestNear (l : Launch) (dC : Nat → ClassId) (dI : Nat → Nat → Nat) (cI : ClassId) (os osa osb op opa og oga : Nat) (kn : Nat) (kf : Nat → Int32) (sn : Nat) (sf : Nat → Int32) (sd : Int32) (pw : Int32) (ph : Int32) (pn : Nat) (pf : Nat → Int32) (gw : Int32) (gh : Int32) (gn : Nat) (gf : Nat → Int32) (a1 : Int32) (a2 : Int32) (a3 : Int32) (post : Int32 → Prop) (hw : wp_ZS_cheapestNear kn kf sn sf sd pw ph pn pf gw gh gn gf a1 a2 a3 post) : Met l yZS_cheapestNear wsZS_cheapestNear rm_ZS_cheapestNear (gr_Pc dC dI [(cI, .int)] [.ref os, .int a1, .int a2, .int a3] [(os, .inr (3, [.ref op, .ref og, .ref osa, .ref osb, .int sd])), (osa, .inl (cI, kn, .inl kf)), (osb, .inl (cI, sn, .inl sf)), (op, .inr (1, [.int pw, .int ph, .ref opa])), (opa, .inl (cI, pn, .inl pf)), (og, .inr (1, [.int gw, .int gh, .ref oga])), (oga, .inl (cI, gn, .inl gf))]) (vp_Si post) 0 0 (fun _ => False) := by
  refine Met.ofW (cc := cZS_cheapestNear) (maxL := 4) (ret := (some .int)) (by decide) rfl ?_
  intro p e s m args below meth c s₁ B hml hv
  obtain ⟨ha9, hP, hK, hE⟩ := hv
  have hx := B.exec
  have hb := B.bytes
  have hr := B.returns
  have hts0 := atoms_spec (ws := wsZS_cheapestNear) B.pre
  have hts : ∀ w ∈ tbg, w.before args s = true := fun w h => hts0 w (List.mem_cons_of_mem _ h)
  have hown : s.vm.findClass RZS = some m.cls := findClass_of_methodNamed B.named
  have hlocks := B.notSynchronized
  refine gx_Q (fun Q9 hQ9 => ?_)
  have hl := lv_entry ([.ref os, .int a1, .int a2, .int a3]) (n := 4) (Nat.le_of_ble_eq_true rfl)
  have he9 : entryFrame m args 4 = F0 m 0 ((lg_sl [.ref os, .int a1, .int a2, .int a3] ++ List.replicate (4 - (lg_sl ([.ref os, .int a1, .int a2, .int a3] : List Value)).length) Slot.unset).toArray) [] := by rw [ha9]; exact lg_entry_eq m [.ref os, .int a1, .int a2, .int a3] 4
  rw [he9]
  generalize (lg_sl ([.ref os, .int a1, .int a2, .int a3] : List Value) ++ List.replicate (4 - (lg_sl ([.ref os, .int a1, .int a2, .int a3] : List Value)).length) Slot.unset).toArray = ls at hl ⊢
  have hl : lv_has ls 4 [(0, .ref os), (1, .int a1), (2, .int a2), (3, .int a3)] := hl
  refine lv_aload_n hx hb dZS_cheapestNear_0 rfl (lv_at hl 0 rfl) ?_
  refine lv_iload_n hx hb dZS_cheapestNear_1 rfl (lv_at hl 1 rfl) ?_
  refine lv_iconst (v := (0 : Int32)) hx hb dZS_cheapestNear_2 (by decide) ?_
  refine lv_iload_n hx hb dZS_cheapestNear_3 rfl (lv_at hl 2 rfl) ?_
  refine lv_iconst (v := (1 : Int32)) hx hb dZS_cheapestNear_4 (by decide) ?_
  refine lv_isub hx hb dZS_cheapestNear_5 ?_
  refine va_mmax hx hb (hml.trans hl.1.symm) hown (hts _ mm_596) (hts _ mm_29) (hts _ mm_2) (hts _ mm_30) (Nat.le_of_ble_eq_true rfl) (Nat.le_of_ble_eq_true rfl) (Nat.le_of_ble_eq_true rfl) (Nat.le_of_ble_eq_true rfl) dZS_cheapestNear_6 ?_
  refine lv_iload_n hx hb dZS_cheapestNear_9 rfl (lv_at hl 3 rfl) ?_
  refine lv_iconst (v := (1 : Int32)) hx hb dZS_cheapestNear_10 (by decide) ?_
  refine lv_isub hx hb dZS_cheapestNear_11 ?_
  refine lv_iload_n hx hb dZS_cheapestNear_12 rfl (lv_at hl 2 rfl) ?_
  refine lv_iconst (v := (1 : Int32)) hx hb dZS_cheapestNear_13 (by decide) ?_
  refine lv_iadd hx hb dZS_cheapestNear_14 ?_
  refine va_mmin hx hb (hml.trans hl.1.symm) hown (hts _ mm_597) (hts _ mm_26) (hts _ mm_2) (hts _ mm_27) (Nat.le_of_ble_eq_true rfl) (Nat.le_of_ble_eq_true rfl) (Nat.le_of_ble_eq_true rfl) (Nat.le_of_ble_eq_true rfl) dZS_cheapestNear_15 ?_
  refine vp_callSi (va_runV (As := [.int a1, .int (if (0 : Int32) < (a2 - (1 : Int32)) then (a2 - (1 : Int32)) else (0 : Int32)), .int (if (a2 + (1 : Int32)) < (a3 - (1 : Int32)) then (a2 + (1 : Int32)) else (a3 - (1 : Int32)))]) (rest := []) ⟨hx, hb, hml, hown, hts⟩ (kt_ZS_cheapest l dC dI cI os osa osb op opa og oga kn kf sn sf sd pw ph pn pf gw gh gn gf a1 (if (0 : Int32) < (a2 - (1 : Int32)) then (a2 - (1 : Int32)) else (0 : Int32)) (if (a2 + (1 : Int32)) < (a3 - (1 : Int32)) then (a2 + (1 : Int32)) else (a3 - (1 : Int32))) _ hw) (cwV 3 hts (tb_V mm_598 mm_600 mp_3 mm_6 mm_601) rfl rfl rfl (by decide +kernel) ⟨Nat.le_of_ble_eq_true rfl, Nat.le_of_ble_eq_true rfl⟩) ⟨gr_blind, va_recv hK hP (ci := 3) (q0 := 0) rfl rfl, fun U hU hW => gr_pre hP hK hE hU hW⟩ rfl rfl hl.1 rfl (lv_room (Nat.le_of_ble_eq_true rfl)) dZS_cheapestNear_18 ⟨Nat.le_of_ble_eq_true rfl, Nat.le_of_ble_eq_true rfl⟩).run (fun r_1 hw => ?_)
  subst hQ9
  exact W.iret (v := r_1) hx hb hr (fun t ht hW => ⟨r_1, rfl, hw, ht⟩) (fun q h => nomatch h) dZS_cheapestNear_21
theorem dZS_addUpRow_0 : decode cZS_addUpRow 0 = .ok (.iconst 0, 1) := by decide +kernel
theorem dZS_addUpRow_1 : decode cZS_addUpRow 1 = .ok (.istore_n 3, 1) := by decide +kernel
theorem dZS_addUpRow_2 : decode cZS_addUpRow 2 = .ok (.iload_n 3, 1) := by decide +kernel
theorem dZS_addUpRow_3 : decode cZS_addUpRow 3 = .ok (.iload_n 2, 1) := by decide +kernel
theorem dZS_addUpRow_4 : decode cZS_addUpRow 4 = .ok (.if_icmp .ge 93, 3) := by decide +kernel
theorem dZS_addUpRow_7 : decode cZS_addUpRow 7 = .ok (.aload_n 0, 1) := by decide +kernel
theorem dZS_addUpRow_8 : decode cZS_addUpRow 8 = .ok (.getfield 15, 3) := by decide +kernel
theorem dZS_addUpRow_11 : decode cZS_addUpRow 11 = .ok (.iload_n 3, 1) := by decide +kernel
theorem dZS_addUpRow_12 : decode cZS_addUpRow 12 = .ok (.iload_n 1, 1) := by decide +kernel
theorem dZS_addUpRow_13 : decode cZS_addUpRow 13 = .ok (.invokevirtual 46, 3) := by decide +kernel
theorem dZS_addUpRow_16 : decode cZS_addUpRow 16 = .ok (.aload_n 0, 1) := by decide +kernel
theorem dZS_addUpRow_17 : decode cZS_addUpRow 17 = .ok (.getfield 9, 3) := by decide +kernel
theorem dZS_addUpRow_20 : decode cZS_addUpRow 20 = .ok (.aload_n 0, 1) := by decide +kernel
theorem dZS_addUpRow_21 : decode cZS_addUpRow 21 = .ok (.getfield 9, 3) := by decide +kernel
theorem dZS_addUpRow_24 : decode cZS_addUpRow 24 = .ok (.getfield 50, 3) := by decide +kernel
theorem dZS_addUpRow_27 : decode cZS_addUpRow 27 = .ok (.iload_n 2, 1) := by decide +kernel
theorem dZS_addUpRow_28 : decode cZS_addUpRow 28 = .ok (.isub, 1) := by decide +kernel
theorem dZS_addUpRow_29 : decode cZS_addUpRow 29 = .ok (.iload_n 3, 1) := by decide +kernel
theorem dZS_addUpRow_30 : decode cZS_addUpRow 30 = .ok (.iadd, 1) := by decide +kernel
theorem dZS_addUpRow_31 : decode cZS_addUpRow 31 = .ok (.iload_n 1, 1) := by decide +kernel
theorem dZS_addUpRow_32 : decode cZS_addUpRow 32 = .ok (.invokevirtual 46, 3) := by decide +kernel
theorem dZS_addUpRow_35 : decode cZS_addUpRow 35 = .ok (.isub, 1) := by decide +kernel
theorem dZS_addUpRow_36 : decode cZS_addUpRow 36 = .ok (.istore 4, 2) := by decide +kernel
theorem dZS_addUpRow_38 : decode cZS_addUpRow 38 = .ok (.iconst 0, 1) := by decide +kernel
theorem dZS_addUpRow_39 : decode cZS_addUpRow 39 = .ok (.istore 5, 2) := by decide +kernel
theorem dZS_addUpRow_41 : decode cZS_addUpRow 41 = .ok (.iload_n 1, 1) := by decide +kernel
theorem dZS_addUpRow_42 : decode cZS_addUpRow 42 = .ok (.ifCond .le 30, 3) := by decide +kernel
theorem dZS_addUpRow_45 : decode cZS_addUpRow 45 = .ok (.aload_n 0, 1) := by decide +kernel
theorem dZS_addUpRow_46 : decode cZS_addUpRow 46 = .ok (.iload_n 1, 1) := by decide +kernel
theorem dZS_addUpRow_47 : decode cZS_addUpRow 47 = .ok (.iconst 1, 1) := by decide +kernel
theorem dZS_addUpRow_48 : decode cZS_addUpRow 48 = .ok (.isub, 1) := by decide +kernel
theorem dZS_addUpRow_49 : decode cZS_addUpRow 49 = .ok (.iload_n 3, 1) := by decide +kernel
theorem dZS_addUpRow_50 : decode cZS_addUpRow 50 = .ok (.iload_n 2, 1) := by decide +kernel
theorem dZS_addUpRow_51 : decode cZS_addUpRow 51 = .ok (.invokevirtual 39, 3) := by decide +kernel
theorem dZS_addUpRow_54 : decode cZS_addUpRow 54 = .ok (.istore 6, 2) := by decide +kernel
theorem dZS_addUpRow_56 : decode cZS_addUpRow 56 = .ok (.aload_n 0, 1) := by decide +kernel
theorem dZS_addUpRow_57 : decode cZS_addUpRow 57 = .ok (.getfield 24, 3) := by decide +kernel
theorem dZS_addUpRow_60 : decode cZS_addUpRow 60 = .ok (.iload_n 1, 1) := by decide +kernel
theorem dZS_addUpRow_61 : decode cZS_addUpRow 61 = .ok (.iconst 1, 1) := by decide +kernel
theorem dZS_addUpRow_62 : decode cZS_addUpRow 62 = .ok (.isub, 1) := by decide +kernel
theorem dZS_addUpRow_63 : decode cZS_addUpRow 63 = .ok (.bipush 8, 2) := by decide +kernel
theorem dZS_addUpRow_65 : decode cZS_addUpRow 65 = .ok (.imul, 1) := by decide +kernel
theorem dZS_addUpRow_66 : decode cZS_addUpRow 66 = .ok (.iload 6, 2) := by decide +kernel
theorem dZS_addUpRow_68 : decode cZS_addUpRow 68 = .ok (.iadd, 1) := by decide +kernel
theorem dZS_addUpRow_69 : decode cZS_addUpRow 69 = .ok (.iaload, 1) := by decide +kernel
theorem dZS_addUpRow_70 : decode cZS_addUpRow 70 = .ok (.istore 5, 2) := by decide +kernel
theorem dZS_addUpRow_72 : decode cZS_addUpRow 72 = .ok (.aload_n 0, 1) := by decide +kernel
theorem dZS_addUpRow_73 : decode cZS_addUpRow 73 = .ok (.getfield 24, 3) := by decide +kernel
theorem dZS_addUpRow_76 : decode cZS_addUpRow 76 = .ok (.iload_n 1, 1) := by decide +kernel
theorem dZS_addUpRow_77 : decode cZS_addUpRow 77 = .ok (.bipush 8, 2) := by decide +kernel
theorem dZS_addUpRow_79 : decode cZS_addUpRow 79 = .ok (.imul, 1) := by decide +kernel
theorem dZS_addUpRow_80 : decode cZS_addUpRow 80 = .ok (.iload_n 3, 1) := by decide +kernel
theorem dZS_addUpRow_81 : decode cZS_addUpRow 81 = .ok (.iadd, 1) := by decide +kernel
theorem dZS_addUpRow_82 : decode cZS_addUpRow 82 = .ok (.iload 5, 2) := by decide +kernel
theorem dZS_addUpRow_84 : decode cZS_addUpRow 84 = .ok (.iload 4, 2) := by decide +kernel
theorem dZS_addUpRow_86 : decode cZS_addUpRow 86 = .ok (.iload 4, 2) := by decide +kernel
theorem dZS_addUpRow_88 : decode cZS_addUpRow 88 = .ok (.imul, 1) := by decide +kernel
theorem dZS_addUpRow_89 : decode cZS_addUpRow 89 = .ok (.iadd, 1) := by decide +kernel
theorem dZS_addUpRow_90 : decode cZS_addUpRow 90 = .ok (.iastore, 1) := by decide +kernel
theorem dZS_addUpRow_91 : decode cZS_addUpRow 91 = .ok (.iinc 3 1, 3) := by decide +kernel
theorem dZS_addUpRow_94 : decode cZS_addUpRow 94 = .ok (.goto (-92), 3) := by decide +kernel
theorem dZS_addUpRow_97 : decode cZS_addUpRow 97 = .ok (.return_, 1) := by decide +kernel
abbrev wsZS_addUpRow : List Cond := .code yZS_addUpRow cZS_addUpRow 7 none :: tbg
def lp_ZS_addUpRow_2 (kn : Nat) (kf : Nat → Int32) (sn : Nat) (sf : Nat → Int32) (sd : Int32) (pw : Int32) (ph : Int32) (pn : Nat) (pf : Nat → Int32) (gw : Int32) (gh : Int32) (gn : Nat) (gf : Nat → Int32) (a1 : Int32) (a2 : Int32) (post : (Nat → Int32) → Prop) (K2 : Int32 → (Nat → Int32) → Prop) (n : Nat) : Int32 → (Nat → Int32) → Prop := Nat.rec (motive := fun _ => Int32 → (Nat → Int32) → Prop) (fun (x3_2 : Int32) (f_2_osa : Nat → Int32) => False) (fun _ ih2 (x3_2 : Int32) (f_2_osa : Nat → Int32) => ((a2 ≤ x3_2 → (K2 x3_2 f_2_osa)) ∧ (¬ a2 ≤ x3_2 → (wp_ZP_sampleAt gw gh gn gf x3_2 a1 (fun r_2 : Int32 => wp_ZP_sampleAt pw ph pn pf ((pw - a2) + x3_2) a1 (fun r_3 : Int32 => ∃ J72 : Int32 → Prop, (∀ (x5_j72 : Int32), J72 x5_j72 → vp_in ((a1 * (8 : Int32)) + x3_2) kn ∧ (ih2 (x3_2 + (1 : Int32)) (upd f_2_osa ((a1 * (8 : Int32)) + x3_2).toNatClampNeg (x5_j72 + ((r_2 - r_3) * (r_2 - r_3)))))) ∧ (((a1 ≤ (0 : Int32) → (J72 (0 : Int32))) ∧ (¬ a1 ≤ (0 : Int32) → (wp_ZS_cheapestNear kn f_2_osa sn sf sd pw ph pn pf gw gh gn gf (a1 - (1 : Int32)) x3_2 a2 (fun r_6 : Int32 => vp_in (((a1 - (1 : Int32)) * (8 : Int32)) + r_6) kn ∧ (J72 (f_2_osa (((a1 - (1 : Int32)) * (8 : Int32)) + r_6).toNatClampNeg))))))))))))) n
def wp_ZS_addUpRow (kn : Nat) (kf : Nat → Int32) (sn : Nat) (sf : Nat → Int32) (sd : Int32) (pw : Int32) (ph : Int32) (pn : Nat) (pf : Nat → Int32) (gw : Int32) (gh : Int32) (gn : Nat) (gf : Nat → Int32) (a1 : Int32) (a2 : Int32) (post : (Nat → Int32) → Prop) : Prop := ∃ n : Nat, lp_ZS_addUpRow_2 kn kf sn sf sd pw ph pn pf gw gh gn gf a1 a2 post (fun (x3_2e : Int32) (f_2e_osa : Nat → Int32) => post f_2e_osa) n (0 : Int32) kf
abbrev rm_ZS_addUpRow : Room := { frames := 2, cells := 0, slots := 0, locals := 48 }
set_option maxHeartbeats 4000000 in
set_option maxRecDepth 100000 in
theorem kt_ZS_addUpRow (l : Launch) (dC : Nat → ClassId) (dI : Nat → Nat → Nat) (cI : ClassId) (os osa osb op opa og oga : Nat) (sz : Nat) (kn : Nat) (kf : Nat → Int32) (sn : Nat) (sf : Nat → Int32) (sd : Int32) (pw : Int32) (ph : Int32) (pn : Nat) (pf : Nat → Int32) (gw : Int32) (gh : Int32) (gn : Nat) (gf : Nat → Int32) (a1 : Int32) (a2 : Int32) (post : (Nat → Int32) → Prop) (hw : wp_ZS_addUpRow kn kf sn sf sd pw ph pn pf gw gh gn gf a1 a2 post) : Met l yZS_addUpRow wsZS_addUpRow rm_ZS_addUpRow (gw_Pc dC dI [(cI, .int)] [.ref os, .int a1, .int a2] [(os, .inr (3, [.ref op, .ref og, .ref osa, .ref osb, .int sd])), (osa, .inl (cI, kn, .inl kf)), (osb, .inl (cI, sn, .inl sf)), (op, .inr (1, [.int pw, .int ph, .ref opa])), (opa, .inl (cI, pn, .inl pf)), (og, .inr (1, [.int gw, .int gh, .ref oga])), (oga, .inl (cI, gn, .inl gf))] sz) (va_Qv (fun (u : (Nat → Int32)) => post u) (fun u t => gw_B dC dI [(cI, .int)] (va_A [(os, .inr (3, [.ref op, .ref og, .ref osa, .ref osb, .int sd])), (osa, .inl (cI, kn, .inl kf)), (osb, .inl (cI, sn, .inl sf)), (op, .inr (1, [.int pw, .int ph, .ref opa])), (opa, .inl (cI, pn, .inl pf)), (og, .inr (1, [.int gw, .int gh, .ref oga])), (oga, .inl (cI, gn, .inl gf))] sz) [(os, .inr (3, [.ref op, .ref og, .ref osa, .ref osb, .int sd])), (osa, .inl (cI, kn, .inl u)), (osb, .inl (cI, sn, .inl sf)), (op, .inr (1, [.int pw, .int ph, .ref opa])), (opa, .inl (cI, pn, .inl pf)), (og, .inr (1, [.int gw, .int gh, .ref oga])), (oga, .inl (cI, gn, .inl gf))] t) (va_A [(os, .inr (3, [.ref op, .ref og, .ref osa, .ref osb, .int sd])), (osa, .inl (cI, kn, .inl kf)), (osb, .inl (cI, sn, .inl sf)), (op, .inr (1, [.int pw, .int ph, .ref opa])), (opa, .inl (cI, pn, .inl pf)), (og, .inr (1, [.int gw, .int gh, .ref oga])), (oga, .inl (cI, gn, .inl gf))] sz)) 0 0 (va_A [(os, .inr (3, [.ref op, .ref og, .ref osa, .ref osb, .int sd])), (osa, .inl (cI, kn, .inl kf)), (osb, .inl (cI, sn, .inl sf)), (op, .inr (1, [.int pw, .int ph, .ref opa])), (opa, .inl (cI, pn, .inl pf)), (og, .inr (1, [.int gw, .int gh, .ref oga])), (oga, .inl (cI, gn, .inl gf))] sz) := by
  refine Met.ofW (cc := cZS_addUpRow) (maxL := 7) (ret := none) (by decide) rfl ?_
  intro p e s m args below meth c s₁ B hml hv
  obtain ⟨ha9, hsz, hP, hK, hE, hD0⟩ := hv
  have hx := B.exec
  have hb := B.bytes
  have hr := B.returns
  have hts0 := atoms_spec (ws := wsZS_addUpRow) B.pre
  have hts : ∀ w ∈ tbg, w.before args s = true := fun w h => hts0 w (List.mem_cons_of_mem _ h)
  have hown : s.vm.findClass RZS = some m.cls := findClass_of_methodNamed B.named
  have hlocks := B.notSynchronized
  subst hsz
  have hD := hD0.self (sz := s.heap.size)
  refine gx_Q (fun Q9 hQ9 => ?_)
  generalize hAe : va_A [(os, .inr (3, [.ref op, .ref og, .ref osa, .ref osb, .int sd])), (osa, .inl (cI, kn, .inl kf)), (osb, .inl (cI, sn, .inl sf)), (op, .inr (1, [.int pw, .int ph, .ref opa])), (opa, .inl (cI, pn, .inl pf)), (og, .inr (1, [.int gw, .int gh, .ref oga])), (oga, .inl (cI, gn, .inl gf))] s.heap.size = A at hD hQ9 ⊢
  have hA : ∀ q : Nat, s.heap.size ≤ q → A q := fun q h => by rw [← hAe]; exact Or.inr h
  have hS : va_S A s.heap s.heap [] := va_S.rf
  have hl := lv_entry ([.ref os, .int a1, .int a2]) (n := 7) (Nat.le_of_ble_eq_true rfl)
  have he9 : entryFrame m args 7 = F0 m 0 ((lg_sl [.ref os, .int a1, .int a2] ++ List.replicate (7 - (lg_sl ([.ref os, .int a1, .int a2] : List Value)).length) Slot.unset).toArray) [] := by rw [ha9]; exact lg_entry_eq m [.ref os, .int a1, .int a2] 7
  rw [he9]
  generalize (lg_sl ([.ref os, .int a1, .int a2] : List Value) ++ List.replicate (7 - (lg_sl ([.ref os, .int a1, .int a2] : List Value)).length) Slot.unset).toArray = ls at hl ⊢
  have hl : lv_has ls 7 [(0, .ref os), (1, .int a1), (2, .int a2)] := hl
  refine lv_iconst (v := (0 : Int32)) hx hb dZS_addUpRow_0 (by decide) ?_
  refine lv_istore_n (lv' := [(3, .int (0 : Int32)), (0, .ref os), (1, .int a1), (2, .int a2)]) hx hb dZS_addUpRow_1 rfl hl (by decide) rfl (fun ls hl => ?_)
  have lp2 : ∀ K2 : Int32 → (Nat → Int32) → Prop, (∀ (x3_2 : Int32) (f_2_osa : Nat → Int32), K2 x3_2 f_2_osa → ∀ (H : Heap) (locs : List Loc), va_P (dC, dI) vwCl [(os, .inr (3, [.ref op, .ref og, .ref osa, .ref osb, .int sd])), (osa, .inl (cI, kn, .inl f_2_osa)), (osb, .inl (cI, sn, .inl sf)), (op, .inr (1, [.int pw, .int ph, .ref opa])), (opa, .inl (cI, pn, .inl pf)), (og, .inr (1, [.int gw, .int gh, .ref oga])), (oga, .inl (cI, gn, .inl gf))] H → va_D A [(os, .inr (3, [.ref op, .ref og, .ref osa, .ref osb, .int sd])), (osa, .inl (cI, kn, .inl f_2_osa)), (osb, .inl (cI, sn, .inl sf)), (op, .inr (1, [.int pw, .int ph, .ref opa])), (opa, .inl (cI, pn, .inl pf)), (og, .inr (1, [.int gw, .int gh, .ref oga])), (oga, .inl (cI, gn, .inl gf))] → va_S A s.heap H locs → ∀ ls : Array Slot, lv_has ls 7 [(3, .int x3_2), (0, .ref os), (1, .int a1), (2, .int a2)] → W p l e (headSpec wsZS_addUpRow rm_ZS_addUpRow).room s m args below meth c H locs 0 0 Q9 (F0 m 97 ls [])) → ∀ (n : Nat) (x3_2 : Int32) (f_2_osa : Nat → Int32), lp_ZS_addUpRow_2 kn kf sn sf sd pw ph pn pf gw gh gn gf a1 a2 post K2 n x3_2 f_2_osa → ∀ (H : Heap) (locs : List Loc), va_P (dC, dI) vwCl [(os, .inr (3, [.ref op, .ref og, .ref osa, .ref osb, .int sd])), (osa, .inl (cI, kn, .inl f_2_osa)), (osb, .inl (cI, sn, .inl sf)), (op, .inr (1, [.int pw, .int ph, .ref opa])), (opa, .inl (cI, pn, .inl pf)), (og, .inr (1, [.int gw, .int gh, .ref oga])), (oga, .inl (cI, gn, .inl gf))] H → va_D A [(os, .inr (3, [.ref op, .ref og, .ref osa, .ref osb, .int sd])), (osa, .inl (cI, kn, .inl f_2_osa)), (osb, .inl (cI, sn, .inl sf)), (op, .inr (1, [.int pw, .int ph, .ref opa])), (opa, .inl (cI, pn, .inl pf)), (og, .inr (1, [.int gw, .int gh, .ref oga])), (oga, .inl (cI, gn, .inl gf))] → va_S A s.heap H locs → ∀ ls : Array Slot, lv_has ls 7 [(3, .int x3_2), (0, .ref os), (1, .int a1), (2, .int a2)] → W p l e (headSpec wsZS_addUpRow rm_ZS_addUpRow).room s m args below meth c H locs 0 0 Q9 (F0 m 2 ls []) := by
    intro K2 aft2 n
    induction n with
    | zero => intro x3_2 f_2_osa hw; exact False.elim hw
    | succ n ih2 =>
      intro x3_2 f_2_osa hw H locs hP hD hS ls hl
      refine lv_iload_n hx hb dZS_addUpRow_2 rfl (lv_at hl 0 rfl) ?_
      refine lv_iload_n hx hb dZS_addUpRow_3 rfl (lv_at hl 3 rfl) ?_
      refine lv_icmp_ge (tgt := 97) hx hb dZS_addUpRow_4 (by decide) (fun c_1 => ?_) (fun c_1 => ?_)
      · have hw := hw.1 c_1
        exact aft2 x3_2 f_2_osa hw _ _ (hP.sub [0, 1, 2, 3, 4, 5, 6] rfl) (hD.sub [0, 1, 2, 3, 4, 5, 6] (by decide) rfl) hS ls (lv_sub hl [0, 1, 2, 3] rfl)
      · have hw := hw.2 c_1
        refine lv_aload_n hx hb dZS_addUpRow_7 rfl (lv_at hl 1 rfl) ?_
        refine va_get (D := (dC, dI)) (ci := 3) (v := .ref og) (C := RZS) (T := TZS) (N := 5) hx hb hts inZS hown hK hP 0 rfl rfl 1 (by decide) (hts _ mm_94) (fun _ h9 => h9) rfl dZS_addUpRow_8 ?_
        refine lv_iload_n hx hb dZS_addUpRow_11 rfl (lv_at hl 0 rfl) ?_
        refine lv_iload_n hx hb dZS_addUpRow_12 rfl (lv_at hl 2 rfl) ?_
        have hPc := hP.sub (ws' := [(og, .inr (1, [.int gw, .int gh, .ref oga])), (oga, .inl (cI, gn, .inl gf))]) [5, 6] rfl
        refine vp_callSi (va_runV (As := [.int x3_2, .int a1]) (rest := []) ⟨hx, hb, hml, hown, hts⟩ (kt_ZP_sampleAt l dC dI cI og oga gw gh gn gf x3_2 a1 _ hw) (cwV 2 hts (tb_V mm_591 mm_331 mm_332 mm_3 mm_333) rfl rfl rfl (by decide +kernel) ⟨Nat.le_of_ble_eq_true rfl, Nat.le_of_ble_eq_true rfl⟩) ⟨gr_blind, va_recv hK hPc (ci := 1) (q0 := 0) rfl rfl, fun U hU hW => gr_pre hPc hK hE hU hW⟩ rfl rfl hl.1 rfl (lv_room (Nat.le_of_ble_eq_true rfl)) dZS_addUpRow_13 ⟨Nat.le_of_ble_eq_true rfl, Nat.le_of_ble_eq_true rfl⟩).run (fun r_2 hw => ?_)
        refine lv_aload_n hx hb dZS_addUpRow_16 rfl (lv_at hl 1 rfl) ?_
        refine va_get (D := (dC, dI)) (ci := 3) (v := .ref op) (C := RZS) (T := TZS) (N := 5) hx hb hts inZS hown hK hP 0 rfl rfl 0 (by decide) (hts _ mm_93) (fun _ h9 => h9) rfl dZS_addUpRow_17 ?_
        refine lv_aload_n hx hb dZS_addUpRow_20 rfl (lv_at hl 1 rfl) ?_
        refine va_get (D := (dC, dI)) (ci := 3) (v := .ref op) (C := RZS) (T := TZS) (N := 5) hx hb hts inZS hown hK hP 0 rfl rfl 0 (by decide) (hts _ mm_93) (fun _ h9 => h9) rfl dZS_addUpRow_21 ?_
        refine va_get (D := (dC, dI)) (ci := 1) (v := .int pw) (C := RZP) (T := TZP) (N := 3) hx hb hts inZP hown hK hP 3 rfl rfl 0 (by decide) (hts _ mm_39) (fun _ h9 => h9) rfl dZS_addUpRow_24 ?_
        refine lv_iload_n hx hb dZS_addUpRow_27 rfl (lv_at hl 3 rfl) ?_
        refine lv_isub hx hb dZS_addUpRow_28 ?_
        refine lv_iload_n hx hb dZS_addUpRow_29 rfl (lv_at hl 0 rfl) ?_
        refine lv_iadd hx hb dZS_addUpRow_30 ?_
        refine lv_iload_n hx hb dZS_addUpRow_31 rfl (lv_at hl 2 rfl) ?_
        have hPc := hP.sub (ws' := [(op, .inr (1, [.int pw, .int ph, .ref opa])), (opa, .inl (cI, pn, .inl pf))]) [3, 4] rfl
        refine vp_callSi (va_runV (As := [.int ((pw - a2) + x3_2), .int a1]) (rest := [.int r_2]) ⟨hx, hb, hml, hown, hts⟩ (kt_ZP_sampleAt l dC dI cI op opa pw ph pn pf ((pw - a2) + x3_2) a1 _ hw) (cwV 2 hts (tb_V mm_591 mm_331 mm_332 mm_3 mm_333) rfl rfl rfl (by decide +kernel) ⟨Nat.le_of_ble_eq_true rfl, Nat.le_of_ble_eq_true rfl⟩) ⟨gr_blind, va_recv hK hPc (ci := 1) (q0 := 0) rfl rfl, fun U hU hW => gr_pre hPc hK hE hU hW⟩ rfl rfl hl.1 rfl (lv_room (Nat.le_of_ble_eq_true rfl)) dZS_addUpRow_32 ⟨Nat.le_of_ble_eq_true rfl, Nat.le_of_ble_eq_true rfl⟩).run (fun r_3 hw => ?_)
        refine lv_isub hx hb dZS_addUpRow_35 ?_
        refine lv_istore (lv' := [(4, .int (r_2 - r_3)), (3, .int x3_2), (0, .ref os), (1, .int a1), (2, .int a2)]) hx hb dZS_addUpRow_36 hl (by decide) rfl (fun ls hl => ?_)
        refine lv_iconst (v := (0 : Int32)) hx hb dZS_addUpRow_38 (by decide) ?_
        refine lv_istore (lv' := [(5, .int (0 : Int32)), (4, .int (r_2 - r_3)), (3, .int x3_2), (0, .ref os), (1, .int a1), (2, .int a2)]) hx hb dZS_addUpRow_39 hl (by decide) rfl (fun ls hl => ?_)
        refine lv_iload_n hx hb dZS_addUpRow_41 rfl (lv_at hl 4 rfl) ?_
        obtain ⟨J72, hJ72, hw⟩ := hw
        have j72 : ∀ (x5_j72 : Int32), J72 x5_j72 → ∀ (H : Heap) (locs : List Loc), va_P (dC, dI) vwCl [(os, .inr (3, [.ref op, .ref og, .ref osa, .ref osb, .int sd])), (osa, .inl (cI, kn, .inl f_2_osa)), (osb, .inl (cI, sn, .inl sf)), (op, .inr (1, [.int pw, .int ph, .ref opa])), (opa, .inl (cI, pn, .inl pf)), (og, .inr (1, [.int gw, .int gh, .ref oga])), (oga, .inl (cI, gn, .inl gf))] H → va_D A [(os, .inr (3, [.ref op, .ref og, .ref osa, .ref osb, .int sd])), (osa, .inl (cI, kn, .inl f_2_osa)), (osb, .inl (cI, sn, .inl sf)), (op, .inr (1, [.int pw, .int ph, .ref opa])), (opa, .inl (cI, pn, .inl pf)), (og, .inr (1, [.int gw, .int gh, .ref oga])), (oga, .inl (cI, gn, .inl gf))] → va_S A s.heap H locs → ∀ ls : Array Slot, lv_has ls 7 [(5, .int x5_j72), (4, .int (r_2 - r_3)), (3, .int x3_2), (0, .ref os), (1, .int a1), (2, .int a2)] → W p l e (headSpec wsZS_addUpRow rm_ZS_addUpRow).room s m args below meth c H locs 0 0 Q9 (F0 m 72 ls []) := by
          intro x5_j72 hw H locs hP hD hS ls hl
          have hw := hJ72 x5_j72 hw
          refine lv_aload_n hx hb dZS_addUpRow_72 rfl (lv_at hl 3 rfl) ?_
          refine va_get (D := (dC, dI)) (ci := 3) (v := .ref osa) (C := RZS) (T := TZS) (N := 5) hx hb hts inZS hown hK hP 0 rfl rfl 2 (by decide) (hts _ mm_95) (fun _ h9 => h9) rfl dZS_addUpRow_73 ?_
          refine lv_iload_n hx hb dZS_addUpRow_76 rfl (lv_at hl 4 rfl) ?_
          refine lv_bipush (v := (8 : Int32)) hx hb dZS_addUpRow_77 (by decide) ?_
          refine lv_imul hx hb dZS_addUpRow_79 ?_
          refine lv_iload_n hx hb dZS_addUpRow_80 rfl (lv_at hl 2 rfl) ?_
          refine lv_iadd hx hb dZS_addUpRow_81 ?_
          refine lv_iload hx hb dZS_addUpRow_82 (lv_at hl 0 rfl) ?_
          refine lv_iload hx hb dZS_addUpRow_84 (lv_at hl 1 rfl) ?_
          refine lv_iload hx hb dZS_addUpRow_86 (lv_at hl 1 rfl) ?_
          refine lv_imul hx hb dZS_addUpRow_88 ?_
          refine lv_iadd hx hb dZS_addUpRow_89 ?_
          obtain ⟨h_4, hw⟩ := hw
          refine va_iast hx hb hK hP hD hS 1 0 rfl rfl h_4 dZS_addUpRow_90 (fun H locs hP hD hS => ?_)
          have hP : va_P (dC, dI) vwCl [(os, .inr (3, [.ref op, .ref og, .ref osa, .ref osb, .int sd])), (osa, .inl (cI, kn, .inl (upd f_2_osa ((a1 * (8 : Int32)) + x3_2).toNatClampNeg (x5_j72 + ((r_2 - r_3) * (r_2 - r_3)))))), (osb, .inl (cI, sn, .inl sf)), (op, .inr (1, [.int pw, .int ph, .ref opa])), (opa, .inl (cI, pn, .inl pf)), (og, .inr (1, [.int gw, .int gh, .ref oga])), (oga, .inl (cI, gn, .inl gf))] H := hP
          have hD : va_D A [(os, .inr (3, [.ref op, .ref og, .ref osa, .ref osb, .int sd])), (osa, .inl (cI, kn, .inl (upd f_2_osa ((a1 * (8 : Int32)) + x3_2).toNatClampNeg (x5_j72 + ((r_2 - r_3) * (r_2 - r_3)))))), (osb, .inl (cI, sn, .inl sf)), (op, .inr (1, [.int pw, .int ph, .ref opa])), (opa, .inl (cI, pn, .inl pf)), (og, .inr (1, [.int gw, .int gh, .ref oga])), (oga, .inl (cI, gn, .inl gf))] := hD
          refine lv_iinc (v := x3_2 + (1 : Int32)) (lv' := [(3, .int (x3_2 + (1 : Int32))), (5, .int x5_j72), (4, .int (r_2 - r_3)), (0, .ref os), (1, .int a1), (2, .int a2)]) hx hb dZS_addUpRow_91 hl (k := 2) rfl rfl (by decide) rfl (fun ls hl => ?_)
          refine lv_goto (tgt := 2) hx hb dZS_addUpRow_94 (by decide) ?_
          exact ih2 (x3_2 + (1 : Int32)) (upd f_2_osa ((a1 * (8 : Int32)) + x3_2).toNatClampNeg (x5_j72 + ((r_2 - r_3) * (r_2 - r_3)))) hw _ _ (hP.sub [0, 1, 2, 3, 4, 5, 6] rfl) (hD.sub [0, 1, 2, 3, 4, 5, 6] (by decide) rfl) hS ls (lv_sub hl [0, 3, 4, 5] rfl)
        refine lv_if_le (tgt := 72) hx hb dZS_addUpRow_42 (by decide) (fun c_5 => ?_) (fun c_5 => ?_)
        · have hw := hw.1 c_5
          exact j72 (0 : Int32) hw _ _ (hP.sub [0, 1, 2, 3, 4, 5, 6] rfl) (hD.sub [0, 1, 2, 3, 4, 5, 6] (by decide) rfl) hS ls (lv_sub hl [0, 1, 2, 3, 4, 5] rfl)
        · have hw := hw.2 c_5
          refine lv_aload_n hx hb dZS_addUpRow_45 rfl (lv_at hl 3 rfl) ?_
          refine lv_iload_n hx hb dZS_addUpRow_46 rfl (lv_at hl 4 rfl) ?_
          refine lv_iconst (v := (1 : Int32)) hx hb dZS_addUpRow_47 (by decide) ?_
          refine lv_isub hx hb dZS_addUpRow_48 ?_
          refine lv_iload_n hx hb dZS_addUpRow_49 rfl (lv_at hl 2 rfl) ?_
          refine lv_iload_n hx hb dZS_addUpRow_50 rfl (lv_at hl 5 rfl) ?_
          refine vp_callSi (va_runV (As := [.int (a1 - (1 : Int32)), .int x3_2, .int a2]) (rest := []) ⟨hx, hb, hml, hown, hts⟩ (kt_ZS_cheapestNear l dC dI cI os osa osb op opa og oga kn f_2_osa sn sf sd pw ph pn pf gw gh gn gf (a1 - (1 : Int32)) x3_2 a2 _ hw) (cwV 3 hts (tb_V mm_592 mm_594 mp_2 mm_6 mm_595) rfl rfl rfl (by decide +kernel) ⟨Nat.le_of_ble_eq_true rfl, Nat.le_of_ble_eq_true rfl⟩) ⟨gr_blind, va_recv hK hP (ci := 3) (q0 := 0) rfl rfl, fun U hU hW => gr_pre hP hK hE hU hW⟩ rfl rfl hl.1 rfl (lv_room (Nat.le_of_ble_eq_true rfl)) dZS_addUpRow_51 ⟨Nat.le_of_ble_eq_true rfl, Nat.le_of_ble_eq_true rfl⟩).run (fun r_6 hw => ?_)
          refine lv_istore (lv' := [(6, .int r_6), (5, .int (0 : Int32)), (4, .int (r_2 - r_3)), (3, .int x3_2), (0, .ref os), (1, .int a1), (2, .int a2)]) hx hb dZS_addUpRow_54 hl (by decide) rfl (fun ls hl => ?_)
          refine lv_aload_n hx hb dZS_addUpRow_56 rfl (lv_at hl 4 rfl) ?_
          refine va_get (D := (dC, dI)) (ci := 3) (v := .ref osa) (C := RZS) (T := TZS) (N := 5) hx hb hts inZS hown hK hP 0 rfl rfl 2 (by decide) (hts _ mm_95) (fun _ h9 => h9) rfl dZS_addUpRow_57 ?_
          refine lv_iload_n hx hb dZS_addUpRow_60 rfl (lv_at hl 5 rfl) ?_
          refine lv_iconst (v := (1 : Int32)) hx hb dZS_addUpRow_61 (by decide) ?_
          refine lv_isub hx hb dZS_addUpRow_62 ?_
          refine lv_bipush (v := (8 : Int32)) hx hb dZS_addUpRow_63 (by decide) ?_
          refine lv_imul hx hb dZS_addUpRow_65 ?_
          refine lv_iload hx hb dZS_addUpRow_66 (lv_at hl 0 rfl) ?_
          refine lv_iadd hx hb dZS_addUpRow_68 ?_
          obtain ⟨h_7, hw⟩ := hw
          refine va_iald hx hb hK hP 1 0 rfl rfl h_7 dZS_addUpRow_69 ?_
          refine lv_istore (lv' := [(5, .int (f_2_osa (((a1 - (1 : Int32)) * (8 : Int32)) + r_6).toNatClampNeg)), (6, .int r_6), (4, .int (r_2 - r_3)), (3, .int x3_2), (0, .ref os), (1, .int a1), (2, .int a2)]) hx hb dZS_addUpRow_70 hl (by decide) rfl (fun ls hl => ?_)
          exact j72 (f_2_osa (((a1 - (1 : Int32)) * (8 : Int32)) + r_6).toNatClampNeg) hw _ _ (hP.sub [0, 1, 2, 3, 4, 5, 6] rfl) (hD.sub [0, 1, 2, 3, 4, 5, 6] (by decide) rfl) hS ls (lv_sub hl [0, 2, 3, 4, 5, 6] rfl)
  obtain ⟨n2, hw⟩ := hw
  refine lp2 _ (fun x3_2e f_2e_osa hw H locs hP hD hS ls hl => ?_) n2 (0 : Int32) kf hw _ _ (hP.sub [0, 1, 2, 3, 4, 5, 6] rfl) (hD.sub [0, 1, 2, 3, 4, 5, 6] (by decide) rfl) hS ls (lv_sub hl [0, 1, 2, 3] rfl)
  have hP9 := hP.sub (ws' := [(os, .inr (3, [.ref op, .ref og, .ref osa, .ref osb, .int sd])), (osa, .inl (cI, kn, .inl f_2e_osa)), (osb, .inl (cI, sn, .inl sf)), (op, .inr (1, [.int pw, .int ph, .ref opa])), (opa, .inl (cI, pn, .inl pf)), (og, .inr (1, [.int gw, .int gh, .ref oga])), (oga, .inl (cI, gn, .inl gf))]) [0, 1, 2, 3, 4, 5, 6] rfl
  have hD9 := hD.sub (ws' := [(os, .inr (3, [.ref op, .ref og, .ref osa, .ref osb, .int sd])), (osa, .inl (cI, kn, .inl f_2e_osa)), (osb, .inl (cI, sn, .inl sf)), (op, .inr (1, [.int pw, .int ph, .ref opa])), (opa, .inl (cI, pn, .inl pf)), (og, .inr (1, [.int gw, .int gh, .ref oga])), (oga, .inl (cI, gn, .inl gf))]) [0, 1, 2, 3, 4, 5, 6] (by decide) rfl
  subst hQ9
  exact W.vret hx hb hr (fun t ht hW => ⟨⟨f_2e_osa, rfl, hw, by rw [ht]; exact hP9, va_K.moved hW.alike hK, hD9⟩, hS.F ht⟩) hS.2.2 dZS_addUpRow_97
theorem dZS_findLeast_0 : decode cZS_findLeast 0 = .ok (.iconst 0, 1) := by decide +kernel
theorem dZS_findLeast_1 : decode cZS_findLeast 1 = .ok (.istore_n 2, 1) := by decide +kernel
theorem dZS_findLeast_2 : decode cZS_findLeast 2 = .ok (.iload_n 2, 1) := by decide +kernel
theorem dZS_findLeast_3 : decode cZS_findLeast 3 = .ok (.aload_n 0, 1) := by decide +kernel
theorem dZS_findLeast_4 : decode cZS_findLeast 4 = .ok (.getfield 9, 3) := by decide +kernel
theorem dZS_findLeast_7 : decode cZS_findLeast 7 = .ok (.getfield 18, 3) := by decide +kernel
theorem dZS_findLeast_10 : decode cZS_findLeast 10 = .ok (.if_icmp .ge 15, 3) := by decide +kernel
theorem dZS_findLeast_13 : decode cZS_findLeast 13 = .ok (.aload_n 0, 1) := by decide +kernel
theorem dZS_findLeast_14 : decode cZS_findLeast 14 = .ok (.iload_n 2, 1) := by decide +kernel
theorem dZS_findLeast_15 : decode cZS_findLeast 15 = .ok (.iload_n 1, 1) := by decide +kernel
theorem dZS_findLeast_16 : decode cZS_findLeast 16 = .ok (.invokevirtual 31, 3) := by decide +kernel
theorem dZS_findLeast_19 : decode cZS_findLeast 19 = .ok (.iinc 2 1, 3) := by decide +kernel
theorem dZS_findLeast_22 : decode cZS_findLeast 22 = .ok (.goto (-20), 3) := by decide +kernel
theorem dZS_findLeast_25 : decode cZS_findLeast 25 = .ok (.aload_n 0, 1) := by decide +kernel
theorem dZS_findLeast_26 : decode cZS_findLeast 26 = .ok (.getfield 9, 3) := by decide +kernel
theorem dZS_findLeast_29 : decode cZS_findLeast 29 = .ok (.getfield 18, 3) := by decide +kernel
theorem dZS_findLeast_32 : decode cZS_findLeast 32 = .ok (.iconst 1, 1) := by decide +kernel
theorem dZS_findLeast_33 : decode cZS_findLeast 33 = .ok (.isub, 1) := by decide +kernel
theorem dZS_findLeast_34 : decode cZS_findLeast 34 = .ok (.istore_n 2, 1) := by decide +kernel
theorem dZS_findLeast_35 : decode cZS_findLeast 35 = .ok (.aload_n 0, 1) := by decide +kernel
theorem dZS_findLeast_36 : decode cZS_findLeast 36 = .ok (.getfield 28, 3) := by decide +kernel
theorem dZS_findLeast_39 : decode cZS_findLeast 39 = .ok (.iload_n 2, 1) := by decide +kernel
theorem dZS_findLeast_40 : decode cZS_findLeast 40 = .ok (.aload_n 0, 1) := by decide +kernel
theorem dZS_findLeast_41 : decode cZS_findLeast 41 = .ok (.iload_n 2, 1) := by decide +kernel
theorem dZS_findLeast_42 : decode cZS_findLeast 42 = .ok (.iconst 0, 1) := by decide +kernel
theorem dZS_findLeast_43 : decode cZS_findLeast 43 = .ok (.iload_n 1, 1) := by decide +kernel
theorem dZS_findLeast_44 : decode cZS_findLeast 44 = .ok (.iconst 1, 1) := by decide +kernel
theorem dZS_findLeast_45 : decode cZS_findLeast 45 = .ok (.isub, 1) := by decide +kernel
theorem dZS_findLeast_46 : decode cZS_findLeast 46 = .ok (.invokevirtual 35, 3) := by decide +kernel
theorem dZS_findLeast_49 : decode cZS_findLeast 49 = .ok (.iastore, 1) := by decide +kernel
theorem dZS_findLeast_50 : decode cZS_findLeast 50 = .ok (.iload_n 2, 1) := by decide +kernel
theorem dZS_findLeast_51 : decode cZS_findLeast 51 = .ok (.iconst 1, 1) := by decide +kernel
theorem dZS_findLeast_52 : decode cZS_findLeast 52 = .ok (.isub, 1) := by decide +kernel
theorem dZS_findLeast_53 : decode cZS_findLeast 53 = .ok (.istore_n 3, 1) := by decide +kernel
theorem dZS_findLeast_54 : decode cZS_findLeast 54 = .ok (.iload_n 3, 1) := by decide +kernel
theorem dZS_findLeast_55 : decode cZS_findLeast 55 = .ok (.ifCond .lt 29, 3) := by decide +kernel
theorem dZS_findLeast_58 : decode cZS_findLeast 58 = .ok (.aload_n 0, 1) := by decide +kernel
theorem dZS_findLeast_59 : decode cZS_findLeast 59 = .ok (.getfield 28, 3) := by decide +kernel
theorem dZS_findLeast_62 : decode cZS_findLeast 62 = .ok (.iload_n 3, 1) := by decide +kernel
theorem dZS_findLeast_63 : decode cZS_findLeast 63 = .ok (.aload_n 0, 1) := by decide +kernel
theorem dZS_findLeast_64 : decode cZS_findLeast 64 = .ok (.iload_n 3, 1) := by decide +kernel
theorem dZS_findLeast_65 : decode cZS_findLeast 65 = .ok (.aload_n 0, 1) := by decide +kernel
theorem dZS_findLeast_66 : decode cZS_findLeast 66 = .ok (.getfield 28, 3) := by decide +kernel
theorem dZS_findLeast_69 : decode cZS_findLeast 69 = .ok (.iload_n 3, 1) := by decide +kernel
theorem dZS_findLeast_70 : decode cZS_findLeast 70 = .ok (.iconst 1, 1) := by decide +kernel
theorem dZS_findLeast_71 : decode cZS_findLeast 71 = .ok (.iadd, 1) := by decide +kernel
theorem dZS_findLeast_72 : decode cZS_findLeast 72 = .ok (.iaload, 1) := by decide +kernel
theorem dZS_findLeast_73 : decode cZS_findLeast 73 = .ok (.iload_n 1, 1) := by decide +kernel
theorem dZS_findLeast_74 : decode cZS_findLeast 74 = .ok (.invokevirtual 39, 3) := by decide +kernel
theorem dZS_findLeast_77 : decode cZS_findLeast 77 = .ok (.iastore, 1) := by decide +kernel
theorem dZS_findLeast_78 : decode cZS_findLeast 78 = .ok (.iinc 3 (-1), 3) := by decide +kernel
theorem dZS_findLeast_81 : decode cZS_findLeast 81 = .ok (.goto (-27), 3) := by decide +kernel
theorem dZS_findLeast_84 : decode cZS_findLeast 84 = .ok (.aload_n 0, 1) := by decide +kernel
theorem dZS_findLeast_85 : decode cZS_findLeast 85 = .ok (.iconst 1, 1) := by decide +kernel
theorem dZS_findLeast_86 : decode cZS_findLeast 86 = .ok (.putfield 42, 3) := by decide +kernel
theorem dZS_findLeast_89 : decode cZS_findLeast 89 = .ok (.aload_n 0, 1) := by decide +kernel
theorem dZS_findLeast_90 : decode cZS_findLeast 90 = .ok (.getfield 24, 3) := by decide +kernel
theorem dZS_findLeast_93 : decode cZS_findLeast 93 = .ok (.iload_n 2, 1) := by decide +kernel
theorem dZS_findLeast_94 : decode cZS_findLeast 94 = .ok (.bipush 8, 2) := by decide +kernel
theorem dZS_findLeast_96 : decode cZS_findLeast 96 = .ok (.imul, 1) := by decide +kernel
theorem dZS_findLeast_97 : decode cZS_findLeast 97 = .ok (.aload_n 0, 1) := by decide +kernel
theorem dZS_findLeast_98 : decode cZS_findLeast 98 = .ok (.getfield 28, 3) := by decide +kernel
theorem dZS_findLeast_101 : decode cZS_findLeast 101 = .ok (.iload_n 2, 1) := by decide +kernel
theorem dZS_findLeast_102 : decode cZS_findLeast 102 = .ok (.iaload, 1) := by decide +kernel
theorem dZS_findLeast_103 : decode cZS_findLeast 103 = .ok (.iadd, 1) := by decide +kernel
theorem dZS_findLeast_104 : decode cZS_findLeast 104 = .ok (.iaload, 1) := by decide +kernel
theorem dZS_findLeast_105 : decode cZS_findLeast 105 = .ok (.ireturn, 1) := by decide +kernel
abbrev wsZS_findLeast : List Cond := .code yZS_findLeast cZS_findLeast 4 (some .int) :: tbg
def lp_ZS_findLeast_2 (kn : Nat) (kf : Nat → Int32) (sn : Nat) (sf : Nat → Int32) (sd : Int32) (pw : Int32) (ph : Int32) (pn : Nat) (pf : Nat → Int32) (gw : Int32) (gh : Int32) (gn : Nat) (gf : Nat → Int32) (a1 : Int32) (post : Int32 → (Nat → Int32) → (Nat → Int32) → Int32 → Prop) (K2 : Int32 → (Nat → Int32) → Prop) (n : Nat) : Int32 → (Nat → Int32) → Prop := Nat.rec (motive := fun _ => Int32 → (Nat → Int32) → Prop) (fun (x2_2 : Int32) (f_2_osa : Nat → Int32) => False) (fun _ ih2 (x2_2 : Int32) (f_2_osa : Nat → Int32) => ((ph ≤ x2_2 → (K2 x2_2 f_2_osa)) ∧ (¬ ph ≤ x2_2 → (wp_ZS_addUpRow kn f_2_osa sn sf sd pw ph pn pf gw gh gn gf x2_2 a1 (fun (kf_2 : Nat → Int32) => ih2 (x2_2 + (1 : Int32)) kf_2))))) n
def lp_ZS_findLeast_54 (kn : Nat) (kf : Nat → Int32) (sn : Nat) (sf : Nat → Int32) (sd : Int32) (pw : Int32) (ph : Int32) (pn : Nat) (pf : Nat → Int32) (gw : Int32) (gh : Int32) (gn : Nat) (gf : Nat → Int32) (a1 : Int32) (x2_2e : Int32) (f_2e_osa : Nat → Int32) (r_3 : Int32) (post : Int32 → (Nat → Int32) → (Nat → Int32) → Int32 → Prop) (K54 : Int32 → (Nat → Int32) → Prop) (n : Nat) : Int32 → (Nat → Int32) → Prop := Nat.rec (motive := fun _ => Int32 → (Nat → Int32) → Prop) (fun (x3_54 : Int32) (f_54_osb : Nat → Int32) => False) (fun _ ih54 (x3_54 : Int32) (f_54_osb : Nat → Int32) => ((x3_54 < (0 : Int32) → (K54 x3_54 f_54_osb)) ∧ (¬ x3_54 < (0 : Int32) → (vp_in (x3_54 + (1 : Int32)) sn ∧ (wp_ZS_cheapestNear kn f_2e_osa sn f_54_osb sd pw ph pn pf gw gh gn gf x3_54 (f_54_osb (x3_54 + (1 : Int32)).toNatClampNeg) a1 (fun r_7 : Int32 => vp_in x3_54 sn ∧ (ih54 (x3_54 + (-1 : Int32)) (upd f_54_osb x3_54.toNatClampNeg r_7)))))))) n
def wp_ZS_findLeast (kn : Nat) (kf : Nat → Int32) (sn : Nat) (sf : Nat → Int32) (sd : Int32) (pw : Int32) (ph : Int32) (pn : Nat) (pf : Nat → Int32) (gw : Int32) (gh : Int32) (gn : Nat) (gf : Nat → Int32) (a1 : Int32) (post : Int32 → (Nat → Int32) → (Nat → Int32) → Int32 → Prop) : Prop := ∃ n : Nat, lp_ZS_findLeast_2 kn kf sn sf sd pw ph pn pf gw gh gn gf a1 post (fun (x2_2e : Int32) (f_2e_osa : Nat → Int32) => wp_ZS_cheapest kn f_2e_osa sn sf sd pw ph pn pf gw gh gn gf (ph - (1 : Int32)) (0 : Int32) (a1 - (1 : Int32)) (fun r_3 : Int32 => vp_in (ph - (1 : Int32)) sn ∧ (∃ n : Nat, lp_ZS_findLeast_54 kn kf sn sf sd pw ph pn pf gw gh gn gf a1 x2_2e f_2e_osa r_3 post (fun (x3_54e : Int32) (f_54e_osb : Nat → Int32) => vp_in (ph - (1 : Int32)) sn ∧ (vp_in (((ph - (1 : Int32)) * (8 : Int32)) + (f_54e_osb (ph - (1 : Int32)).toNatClampNeg)) kn ∧ (post (f_2e_osa (((ph - (1 : Int32)) * (8 : Int32)) + (f_54e_osb (ph - (1 : Int32)).toNatClampNeg)).toNatClampNeg) f_2e_osa f_54e_osb (1 : Int32)))) n ((ph - (1 : Int32)) - (1 : Int32)) (upd sf (ph - (1 : Int32)).toNatClampNeg r_3)))) n (0 : Int32) kf
abbrev rm_ZS_findLeast : Room := { frames := 3, cells := 0, slots := 0, locals := 74 }
set_option maxHeartbeats 4000000 in
set_option maxRecDepth 100000 in
theorem kt_ZS_findLeast (l : Launch) (dC : Nat → ClassId) (dI : Nat → Nat → Nat) (cI : ClassId) (os osa osb op opa og oga : Nat) (sz : Nat) (kn : Nat) (kf : Nat → Int32) (sn : Nat) (sf : Nat → Int32) (sd : Int32) (pw : Int32) (ph : Int32) (pn : Nat) (pf : Nat → Int32) (gw : Int32) (gh : Int32) (gn : Nat) (gf : Nat → Int32) (a1 : Int32) (post : Int32 → (Nat → Int32) → (Nat → Int32) → Int32 → Prop) (hw : wp_ZS_findLeast kn kf sn sf sd pw ph pn pf gw gh gn gf a1 post) : Met l yZS_findLeast wsZS_findLeast rm_ZS_findLeast (gw_Pc dC dI [(cI, .int)] [.ref os, .int a1] [(os, .inr (3, [.ref op, .ref og, .ref osa, .ref osb, .int sd])), (osa, .inl (cI, kn, .inl kf)), (osb, .inl (cI, sn, .inl sf)), (op, .inr (1, [.int pw, .int ph, .ref opa])), (opa, .inl (cI, pn, .inl pf)), (og, .inr (1, [.int gw, .int gh, .ref oga])), (oga, .inl (cI, gn, .inl gf))] sz) (va_Qi (fun (r : Int32) (u : (Nat → Int32) × (Nat → Int32) × Int32) => post r u.1 u.2.1 u.2.2) (fun u t => gw_B dC dI [(cI, .int)] (va_A [(os, .inr (3, [.ref op, .ref og, .ref osa, .ref osb, .int sd])), (osa, .inl (cI, kn, .inl kf)), (osb, .inl (cI, sn, .inl sf)), (op, .inr (1, [.int pw, .int ph, .ref opa])), (opa, .inl (cI, pn, .inl pf)), (og, .inr (1, [.int gw, .int gh, .ref oga])), (oga, .inl (cI, gn, .inl gf))] sz) [(os, .inr (3, [.ref op, .ref og, .ref osa, .ref osb, .int u.2.2])), (osa, .inl (cI, kn, .inl u.1)), (osb, .inl (cI, sn, .inl u.2.1)), (op, .inr (1, [.int pw, .int ph, .ref opa])), (opa, .inl (cI, pn, .inl pf)), (og, .inr (1, [.int gw, .int gh, .ref oga])), (oga, .inl (cI, gn, .inl gf))] t) (va_A [(os, .inr (3, [.ref op, .ref og, .ref osa, .ref osb, .int sd])), (osa, .inl (cI, kn, .inl kf)), (osb, .inl (cI, sn, .inl sf)), (op, .inr (1, [.int pw, .int ph, .ref opa])), (opa, .inl (cI, pn, .inl pf)), (og, .inr (1, [.int gw, .int gh, .ref oga])), (oga, .inl (cI, gn, .inl gf))] sz)) 0 0 (va_A [(os, .inr (3, [.ref op, .ref og, .ref osa, .ref osb, .int sd])), (osa, .inl (cI, kn, .inl kf)), (osb, .inl (cI, sn, .inl sf)), (op, .inr (1, [.int pw, .int ph, .ref opa])), (opa, .inl (cI, pn, .inl pf)), (og, .inr (1, [.int gw, .int gh, .ref oga])), (oga, .inl (cI, gn, .inl gf))] sz) := by
  refine Met.ofW (cc := cZS_findLeast) (maxL := 4) (ret := (some .int)) (by decide) rfl ?_
  intro p e s m args below meth c s₁ B hml hv
  obtain ⟨ha9, hsz, hP, hK, hE, hD0⟩ := hv
  have hx := B.exec
  have hb := B.bytes
  have hr := B.returns
  have hts0 := atoms_spec (ws := wsZS_findLeast) B.pre
  have hts : ∀ w ∈ tbg, w.before args s = true := fun w h => hts0 w (List.mem_cons_of_mem _ h)
  have hown : s.vm.findClass RZS = some m.cls := findClass_of_methodNamed B.named
  have hlocks := B.notSynchronized
  subst hsz
  have hD := hD0.self (sz := s.heap.size)
  refine gx_Q (fun Q9 hQ9 => ?_)
  generalize hAe : va_A [(os, .inr (3, [.ref op, .ref og, .ref osa, .ref osb, .int sd])), (osa, .inl (cI, kn, .inl kf)), (osb, .inl (cI, sn, .inl sf)), (op, .inr (1, [.int pw, .int ph, .ref opa])), (opa, .inl (cI, pn, .inl pf)), (og, .inr (1, [.int gw, .int gh, .ref oga])), (oga, .inl (cI, gn, .inl gf))] s.heap.size = A at hD hQ9 ⊢
  have hA : ∀ q : Nat, s.heap.size ≤ q → A q := fun q h => by rw [← hAe]; exact Or.inr h
  have hS : va_S A s.heap s.heap [] := va_S.rf
  have hl := lv_entry ([.ref os, .int a1]) (n := 4) (Nat.le_of_ble_eq_true rfl)
  have he9 : entryFrame m args 4 = F0 m 0 ((lg_sl [.ref os, .int a1] ++ List.replicate (4 - (lg_sl ([.ref os, .int a1] : List Value)).length) Slot.unset).toArray) [] := by rw [ha9]; exact lg_entry_eq m [.ref os, .int a1] 4
  rw [he9]
  generalize (lg_sl ([.ref os, .int a1] : List Value) ++ List.replicate (4 - (lg_sl ([.ref os, .int a1] : List Value)).length) Slot.unset).toArray = ls at hl ⊢
  have hl : lv_has ls 4 [(0, .ref os), (1, .int a1)] := hl
  refine lv_iconst (v := (0 : Int32)) hx hb dZS_findLeast_0 (by decide) ?_
  refine lv_istore_n (lv' := [(2, .int (0 : Int32)), (0, .ref os), (1, .int a1)]) hx hb dZS_findLeast_1 rfl hl (by decide) rfl (fun ls hl => ?_)
  have lp2 : ∀ K2 : Int32 → (Nat → Int32) → Prop, (∀ (x2_2 : Int32) (f_2_osa : Nat → Int32), K2 x2_2 f_2_osa → ∀ (H : Heap) (locs : List Loc), va_P (dC, dI) vwCl [(os, .inr (3, [.ref op, .ref og, .ref osa, .ref osb, .int sd])), (osa, .inl (cI, kn, .inl f_2_osa)), (osb, .inl (cI, sn, .inl sf)), (op, .inr (1, [.int pw, .int ph, .ref opa])), (opa, .inl (cI, pn, .inl pf)), (og, .inr (1, [.int gw, .int gh, .ref oga])), (oga, .inl (cI, gn, .inl gf))] H → va_D A [(os, .inr (3, [.ref op, .ref og, .ref osa, .ref osb, .int sd])), (osa, .inl (cI, kn, .inl f_2_osa)), (osb, .inl (cI, sn, .inl sf)), (op, .inr (1, [.int pw, .int ph, .ref opa])), (opa, .inl (cI, pn, .inl pf)), (og, .inr (1, [.int gw, .int gh, .ref oga])), (oga, .inl (cI, gn, .inl gf))] → va_S A s.heap H locs → ∀ ls : Array Slot, lv_has ls 4 [(2, .int x2_2), (0, .ref os), (1, .int a1)] → W p l e (headSpec wsZS_findLeast rm_ZS_findLeast).room s m args below meth c H locs 0 0 Q9 (F0 m 25 ls [])) → ∀ (n : Nat) (x2_2 : Int32) (f_2_osa : Nat → Int32), lp_ZS_findLeast_2 kn kf sn sf sd pw ph pn pf gw gh gn gf a1 post K2 n x2_2 f_2_osa → ∀ (H : Heap) (locs : List Loc), va_P (dC, dI) vwCl [(os, .inr (3, [.ref op, .ref og, .ref osa, .ref osb, .int sd])), (osa, .inl (cI, kn, .inl f_2_osa)), (osb, .inl (cI, sn, .inl sf)), (op, .inr (1, [.int pw, .int ph, .ref opa])), (opa, .inl (cI, pn, .inl pf)), (og, .inr (1, [.int gw, .int gh, .ref oga])), (oga, .inl (cI, gn, .inl gf))] H → va_D A [(os, .inr (3, [.ref op, .ref og, .ref osa, .ref osb, .int sd])), (osa, .inl (cI, kn, .inl f_2_osa)), (osb, .inl (cI, sn, .inl sf)), (op, .inr (1, [.int pw, .int ph, .ref opa])), (opa, .inl (cI, pn, .inl pf)), (og, .inr (1, [.int gw, .int gh, .ref oga])), (oga, .inl (cI, gn, .inl gf))] → va_S A s.heap H locs → ∀ ls : Array Slot, lv_has ls 4 [(2, .int x2_2), (0, .ref os), (1, .int a1)] → W p l e (headSpec wsZS_findLeast rm_ZS_findLeast).room s m args below meth c H locs 0 0 Q9 (F0 m 2 ls []) := by
    intro K2 aft2 n
    induction n with
    | zero => intro x2_2 f_2_osa hw; exact False.elim hw
    | succ n ih2 =>
      intro x2_2 f_2_osa hw H locs hP hD hS ls hl
      refine lv_iload_n hx hb dZS_findLeast_2 rfl (lv_at hl 0 rfl) ?_
      refine lv_aload_n hx hb dZS_findLeast_3 rfl (lv_at hl 1 rfl) ?_
      refine va_get (D := (dC, dI)) (ci := 3) (v := .ref op) (C := RZS) (T := TZS) (N := 5) hx hb hts inZS hown hK hP 0 rfl rfl 0 (by decide) (hts _ mm_93) (fun _ h9 => h9) rfl dZS_findLeast_4 ?_
      refine va_get (D := (dC, dI)) (ci := 1) (v := .int ph) (C := RZP) (T := TZP) (N := 3) hx hb hts inZP hown hK hP 3 rfl rfl 1 (by decide) (hts _ mm_43) (fun _ h9 => h9) rfl dZS_findLeast_7 ?_
      refine lv_icmp_ge (tgt := 25) hx hb dZS_findLeast_10 (by decide) (fun c_1 => ?_) (fun c_1 => ?_)
      · have hw := hw.1 c_1
        exact aft2 x2_2 f_2_osa hw _ _ (hP.sub [0, 1, 2, 3, 4, 5, 6] rfl) (hD.sub [0, 1, 2, 3, 4, 5, 6] (by decide) rfl) hS ls (lv_sub hl [0, 1, 2] rfl)
      · have hw := hw.2 c_1
        refine lv_aload_n hx hb dZS_findLeast_13 rfl (lv_at hl 1 rfl) ?_
        refine lv_iload_n hx hb dZS_findLeast_14 rfl (lv_at hl 0 rfl) ?_
        refine lv_iload_n hx hb dZS_findLeast_15 rfl (lv_at hl 2 rfl) ?_
        have hPc := hP.sub (ws' := [(os, .inr (3, [.ref op, .ref og, .ref osa, .ref osb, .int sd])), (osa, .inl (cI, kn, .inl f_2_osa)), (osb, .inl (cI, sn, .inl sf)), (op, .inr (1, [.int pw, .int ph, .ref opa])), (opa, .inl (cI, pn, .inl pf)), (og, .inr (1, [.int gw, .int gh, .ref oga])), (oga, .inl (cI, gn, .inl gf))]) [0, 1, 2, 3, 4, 5, 6] rfl
        have hDc := hD.sub (ws' := [(os, .inr (3, [.ref op, .ref og, .ref osa, .ref osb, .int sd])), (osa, .inl (cI, kn, .inl f_2_osa)), (osb, .inl (cI, sn, .inl sf)), (op, .inr (1, [.int pw, .int ph, .ref opa])), (opa, .inl (cI, pn, .inl pf)), (og, .inr (1, [.int gw, .int gh, .ref oga])), (oga, .inl (cI, gn, .inl gf))]) [0, 1, 2, 3, 4, 5, 6] (by decide) rfl
        have hFc := va_free (wc := [(os, .inr (3, [.ref op, .ref og, .ref osa, .ref osb, .int sd])), (osa, .inl (cI, kn, .inl f_2_osa)), (osb, .inl (cI, sn, .inl sf)), (op, .inr (1, [.int pw, .int ph, .ref opa])), (opa, .inl (cI, pn, .inl pf)), (og, .inr (1, [.int gw, .int gh, .ref oga])), (oga, .inl (cI, gn, .inl gf))]) hD hS hA [0, 1, 2, 3, 4, 5, 6] rfl
        refine va_callv (va_runV (As := [.int x2_2, .int a1]) (rest := []) ⟨hx, hb, hml, hown, hts⟩ (kt_ZS_addUpRow l dC dI cI os osa osb op opa og oga _ kn f_2_osa sn sf sd pw ph pn pf gw gh gn gf x2_2 a1 _ hw) (cwV 2 hts (tb_V mm_587 mm_589 mp_1 mm_6 mm_590) rfl rfl rfl (by decide +kernel) ⟨Nat.le_of_ble_eq_true rfl, Nat.le_of_ble_eq_true rfl⟩) ⟨gw_blind, va_recv hK hPc (ci := 3) (q0 := 0) rfl rfl, fun U hU hW => gw_pre hPc hDc hK hE hU hW⟩ rfl rfl hl.1 rfl (lv_room (Nat.le_of_ble_eq_true rfl)) dZS_findLeast_16 ⟨Nat.le_of_ble_eq_true rfl, Nat.le_of_ble_eq_true rfl⟩) hS (fun q _ h => hFc q h) hFc (fun kf_2 t H1 locs ht hvm hw hB hz1 hk1 hS => ?_)
        obtain ⟨hP1, hK1, hD1⟩ := hB
        rw [ht] at hP1
        try dsimp only at hw
        obtain ⟨hP, hD⟩ := va_join (wr := []) (w1 := [(os, .inr (3, [.ref op, .ref og, .ref osa, .ref osb, .int sd])), (osa, .inl (cI, kn, .inl kf_2)), (osb, .inl (cI, sn, .inl sf)), (op, .inr (1, [.int pw, .int ph, .ref opa])), (opa, .inl (cI, pn, .inl pf)), (og, .inr (1, [.int gw, .int gh, .ref oga])), (oga, .inl (cI, gn, .inl gf))]) hP hD [0, 1, 2, 3, 4, 5, 6] [] rfl rfl (by decide) (by decide) hk1 hFc hP1 hD1
        generalize H1 = H at hP hS ⊢
        have hP : va_P (dC, dI) vwCl [(os, .inr (3, [.ref op, .ref og, .ref osa, .ref osb, .int sd])), (osa, .inl (cI, kn, .inl kf_2)), (osb, .inl (cI, sn, .inl sf)), (op, .inr (1, [.int pw, .int ph, .ref opa])), (opa, .inl (cI, pn, .inl pf)), (og, .inr (1, [.int gw, .int gh, .ref oga])), (oga, .inl (cI, gn, .inl gf))] H := hP
        have hD : va_D A [(os, .inr (3, [.ref op, .ref og, .ref osa, .ref osb, .int sd])), (osa, .inl (cI, kn, .inl kf_2)), (osb, .inl (cI, sn, .inl sf)), (op, .inr (1, [.int pw, .int ph, .ref opa])), (opa, .inl (cI, pn, .inl pf)), (og, .inr (1, [.int gw, .int gh, .ref oga])), (oga, .inl (cI, gn, .inl gf))] := hD
        refine lv_iinc (v := x2_2 + (1 : Int32)) (lv' := [(2, .int (x2_2 + (1 : Int32))), (0, .ref os), (1, .int a1)]) hx hb dZS_findLeast_19 hl (k := 0) rfl rfl (by decide) rfl (fun ls hl => ?_)
        refine lv_goto (tgt := 2) hx hb dZS_findLeast_22 (by decide) ?_
        exact ih2 (x2_2 + (1 : Int32)) kf_2 hw _ _ (hP.sub [0, 1, 2, 3, 4, 5, 6] rfl) (hD.sub [0, 1, 2, 3, 4, 5, 6] (by decide) rfl) hS ls (lv_sub hl [0, 1, 2] rfl)
  obtain ⟨n2, hw⟩ := hw
  refine lp2 _ (fun x2_2e f_2e_osa hw H locs hP hD hS ls hl => ?_) n2 (0 : Int32) kf hw _ _ (hP.sub [0, 1, 2, 3, 4, 5, 6] rfl) (hD.sub [0, 1, 2, 3, 4, 5, 6] (by decide) rfl) hS ls (lv_sub hl [0, 1, 2] rfl)
  refine lv_aload_n hx hb dZS_findLeast_25 rfl (lv_at hl 1 rfl) ?_
  refine va_get (D := (dC, dI)) (ci := 3) (v := .ref op) (C := RZS) (T := TZS) (N := 5) hx hb hts inZS hown hK hP 0 rfl rfl 0 (by decide) (hts _ mm_93) (fun _ h9 => h9) rfl dZS_findLeast_26 ?_
  refine va_get (D := (dC, dI)) (ci := 1) (v := .int ph) (C := RZP) (T := TZP) (N := 3) hx hb hts inZP hown hK hP 3 rfl rfl 1 (by decide) (hts _ mm_43) (fun _ h9 => h9) rfl dZS_findLeast_29 ?_
  refine lv_iconst (v := (1 : Int32)) hx hb dZS_findLeast_32 (by decide) ?_
  refine lv_isub hx hb dZS_findLeast_33 ?_
  refine lv_istore_n (lv' := [(2, .int (ph - (1 : Int32))), (0, .ref os), (1, .int a1)]) hx hb dZS_findLeast_34 rfl hl (by decide) rfl (fun ls hl => ?_)
  refine lv_aload_n hx hb dZS_findLeast_35 rfl (lv_at hl 1 rfl) ?_
  refine va_get (D := (dC, dI)) (ci := 3) (v := .ref osb) (C := RZS) (T := TZS) (N := 5) hx hb hts inZS hown hK hP 0 rfl rfl 3 (by decide) (hts _ mm_96) (fun _ h9 => h9) rfl dZS_findLeast_36 ?_
  refine lv_iload_n hx hb dZS_findLeast_39 rfl (lv_at hl 0 rfl) ?_
  refine lv_aload_n hx hb dZS_findLeast_40 rfl (lv_at hl 1 rfl) ?_
  refine lv_iload_n hx hb dZS_findLeast_41 rfl (lv_at hl 0 rfl) ?_
  refine lv_iconst (v := (0 : Int32)) hx hb dZS_findLeast_42 (by decide) ?_
  refine lv_iload_n hx hb dZS_findLeast_43 rfl (lv_at hl 2 rfl) ?_
  refine lv_iconst (v := (1 : Int32)) hx hb dZS_findLeast_44 (by decide) ?_
  refine lv_isub hx hb dZS_findLeast_45 ?_
  refine vp_callSi (va_runV (As := [.int (ph - (1 : Int32)), .int (0 : Int32), .int (a1 - (1 : Int32))]) (rest := [.int (ph - (1 : Int32)), .ref osb]) ⟨hx, hb, hml, hown, hts⟩ (kt_ZS_cheapest l dC dI cI os osa osb op opa og oga kn f_2e_osa sn sf sd pw ph pn pf gw gh gn gf (ph - (1 : Int32)) (0 : Int32) (a1 - (1 : Int32)) _ hw) (cwV 3 hts (tb_V mm_598 mm_600 mp_3 mm_6 mm_601) rfl rfl rfl (by decide +kernel) ⟨Nat.le_of_ble_eq_true rfl, Nat.le_of_ble_eq_true rfl⟩) ⟨gr_blind, va_recv hK hP (ci := 3) (q0 := 0) rfl rfl, fun U hU hW => gr_pre hP hK hE hU hW⟩ rfl rfl hl.1 rfl (lv_room (Nat.le_of_ble_eq_true rfl)) dZS_findLeast_46 ⟨Nat.le_of_ble_eq_true rfl, Nat.le_of_ble_eq_true rfl⟩).run (fun r_3 hw => ?_)
  obtain ⟨h_4, hw⟩ := hw
  refine va_iast hx hb hK hP hD hS 2 0 rfl rfl h_4 dZS_findLeast_49 (fun H locs hP hD hS => ?_)
  have hP : va_P (dC, dI) vwCl [(os, .inr (3, [.ref op, .ref og, .ref osa, .ref osb, .int sd])), (osa, .inl (cI, kn, .inl f_2e_osa)), (osb, .inl (cI, sn, .inl (upd sf (ph - (1 : Int32)).toNatClampNeg r_3))), (op, .inr (1, [.int pw, .int ph, .ref opa])), (opa, .inl (cI, pn, .inl pf)), (og, .inr (1, [.int gw, .int gh, .ref oga])), (oga, .inl (cI, gn, .inl gf))] H := hP
  have hD : va_D A [(os, .inr (3, [.ref op, .ref og, .ref osa, .ref osb, .int sd])), (osa, .inl (cI, kn, .inl f_2e_osa)), (osb, .inl (cI, sn, .inl (upd sf (ph - (1 : Int32)).toNatClampNeg r_3))), (op, .inr (1, [.int pw, .int ph, .ref opa])), (opa, .inl (cI, pn, .inl pf)), (og, .inr (1, [.int gw, .int gh, .ref oga])), (oga, .inl (cI, gn, .inl gf))] := hD
  refine lv_iload_n hx hb dZS_findLeast_50 rfl (lv_at hl 0 rfl) ?_
  refine lv_iconst (v := (1 : Int32)) hx hb dZS_findLeast_51 (by decide) ?_
  refine lv_isub hx hb dZS_findLeast_52 ?_
  refine lv_istore_n (lv' := [(3, .int ((ph - (1 : Int32)) - (1 : Int32))), (2, .int (ph - (1 : Int32))), (0, .ref os), (1, .int a1)]) hx hb dZS_findLeast_53 rfl hl (by decide) rfl (fun ls hl => ?_)
  have lp54 : ∀ K54 : Int32 → (Nat → Int32) → Prop, (∀ (x3_54 : Int32) (f_54_osb : Nat → Int32), K54 x3_54 f_54_osb → ∀ (H : Heap) (locs : List Loc), va_P (dC, dI) vwCl [(os, .inr (3, [.ref op, .ref og, .ref osa, .ref osb, .int sd])), (osa, .inl (cI, kn, .inl f_2e_osa)), (osb, .inl (cI, sn, .inl f_54_osb)), (op, .inr (1, [.int pw, .int ph, .ref opa])), (opa, .inl (cI, pn, .inl pf)), (og, .inr (1, [.int gw, .int gh, .ref oga])), (oga, .inl (cI, gn, .inl gf))] H → va_D A [(os, .inr (3, [.ref op, .ref og, .ref osa, .ref osb, .int sd])), (osa, .inl (cI, kn, .inl f_2e_osa)), (osb, .inl (cI, sn, .inl f_54_osb)), (op, .inr (1, [.int pw, .int ph, .ref opa])), (opa, .inl (cI, pn, .inl pf)), (og, .inr (1, [.int gw, .int gh, .ref oga])), (oga, .inl (cI, gn, .inl gf))] → va_S A s.heap H locs → ∀ ls : Array Slot, lv_has ls 4 [(3, .int x3_54), (2, .int (ph - (1 : Int32))), (0, .ref os), (1, .int a1)] → W p l e (headSpec wsZS_findLeast rm_ZS_findLeast).room s m args below meth c H locs 0 0 Q9 (F0 m 84 ls [])) → ∀ (n : Nat) (x3_54 : Int32) (f_54_osb : Nat → Int32), lp_ZS_findLeast_54 kn kf sn sf sd pw ph pn pf gw gh gn gf a1 x2_2e f_2e_osa r_3 post K54 n x3_54 f_54_osb → ∀ (H : Heap) (locs : List Loc), va_P (dC, dI) vwCl [(os, .inr (3, [.ref op, .ref og, .ref osa, .ref osb, .int sd])), (osa, .inl (cI, kn, .inl f_2e_osa)), (osb, .inl (cI, sn, .inl f_54_osb)), (op, .inr (1, [.int pw, .int ph, .ref opa])), (opa, .inl (cI, pn, .inl pf)), (og, .inr (1, [.int gw, .int gh, .ref oga])), (oga, .inl (cI, gn, .inl gf))] H → va_D A [(os, .inr (3, [.ref op, .ref og, .ref osa, .ref osb, .int sd])), (osa, .inl (cI, kn, .inl f_2e_osa)), (osb, .inl (cI, sn, .inl f_54_osb)), (op, .inr (1, [.int pw, .int ph, .ref opa])), (opa, .inl (cI, pn, .inl pf)), (og, .inr (1, [.int gw, .int gh, .ref oga])), (oga, .inl (cI, gn, .inl gf))] → va_S A s.heap H locs → ∀ ls : Array Slot, lv_has ls 4 [(3, .int x3_54), (2, .int (ph - (1 : Int32))), (0, .ref os), (1, .int a1)] → W p l e (headSpec wsZS_findLeast rm_ZS_findLeast).room s m args below meth c H locs 0 0 Q9 (F0 m 54 ls []) := by
    intro K54 aft54 n
    induction n with
    | zero => intro x3_54 f_54_osb hw; exact False.elim hw
    | succ n ih54 =>
      intro x3_54 f_54_osb hw H locs hP hD hS ls hl
      refine lv_iload_n hx hb dZS_findLeast_54 rfl (lv_at hl 0 rfl) ?_
      refine lv_if_lt (tgt := 84) hx hb dZS_findLeast_55 (by decide) (fun c_5 => ?_) (fun c_5 => ?_)
      · have hw := hw.1 c_5
        exact aft54 x3_54 f_54_osb hw _ _ (hP.sub [0, 1, 2, 3, 4, 5, 6] rfl) (hD.sub [0, 1, 2, 3, 4, 5, 6] (by decide) rfl) hS ls (lv_sub hl [0, 1, 2, 3] rfl)
      · have hw := hw.2 c_5
        refine lv_aload_n hx hb dZS_findLeast_58 rfl (lv_at hl 2 rfl) ?_
        refine va_get (D := (dC, dI)) (ci := 3) (v := .ref osb) (C := RZS) (T := TZS) (N := 5) hx hb hts inZS hown hK hP 0 rfl rfl 3 (by decide) (hts _ mm_96) (fun _ h9 => h9) rfl dZS_findLeast_59 ?_
        refine lv_iload_n hx hb dZS_findLeast_62 rfl (lv_at hl 0 rfl) ?_
        refine lv_aload_n hx hb dZS_findLeast_63 rfl (lv_at hl 2 rfl) ?_
        refine lv_iload_n hx hb dZS_findLeast_64 rfl (lv_at hl 0 rfl) ?_
        refine lv_aload_n hx hb dZS_findLeast_65 rfl (lv_at hl 2 rfl) ?_
        refine va_get (D := (dC, dI)) (ci := 3) (v := .ref osb) (C := RZS) (T := TZS) (N := 5) hx hb hts inZS hown hK hP 0 rfl rfl 3 (by decide) (hts _ mm_96) (fun _ h9 => h9) rfl dZS_findLeast_66 ?_
        refine lv_iload_n hx hb dZS_findLeast_69 rfl (lv_at hl 0 rfl) ?_
        refine lv_iconst (v := (1 : Int32)) hx hb dZS_findLeast_70 (by decide) ?_
        refine lv_iadd hx hb dZS_findLeast_71 ?_
        obtain ⟨h_6, hw⟩ := hw
        refine va_iald hx hb hK hP 2 0 rfl rfl h_6 dZS_findLeast_72 ?_
        refine lv_iload_n hx hb dZS_findLeast_73 rfl (lv_at hl 3 rfl) ?_
        refine vp_callSi (va_runV (As := [.int x3_54, .int (f_54_osb (x3_54 + (1 : Int32)).toNatClampNeg), .int a1]) (rest := [.int x3_54, .ref osb]) ⟨hx, hb, hml, hown, hts⟩ (kt_ZS_cheapestNear l dC dI cI os osa osb op opa og oga kn f_2e_osa sn f_54_osb sd pw ph pn pf gw gh gn gf x3_54 (f_54_osb (x3_54 + (1 : Int32)).toNatClampNeg) a1 _ hw) (cwV 3 hts (tb_V mm_592 mm_594 mp_2 mm_6 mm_595) rfl rfl rfl (by decide +kernel) ⟨Nat.le_of_ble_eq_true rfl, Nat.le_of_ble_eq_true rfl⟩) ⟨gr_blind, va_recv hK hP (ci := 3) (q0 := 0) rfl rfl, fun U hU hW => gr_pre hP hK hE hU hW⟩ rfl rfl hl.1 rfl (lv_room (Nat.le_of_ble_eq_true rfl)) dZS_findLeast_74 ⟨Nat.le_of_ble_eq_true rfl, Nat.le_of_ble_eq_true rfl⟩).run (fun r_7 hw => ?_)
        obtain ⟨h_8, hw⟩ := hw
        refine va_iast hx hb hK hP hD hS 2 0 rfl rfl h_8 dZS_findLeast_77 (fun H locs hP hD hS => ?_)
        have hP : va_P (dC, dI) vwCl [(os, .inr (3, [.ref op, .ref og, .ref osa, .ref osb, .int sd])), (osa, .inl (cI, kn, .inl f_2e_osa)), (osb, .inl (cI, sn, .inl (upd f_54_osb x3_54.toNatClampNeg r_7))), (op, .inr (1, [.int pw, .int ph, .ref opa])), (opa, .inl (cI, pn, .inl pf)), (og, .inr (1, [.int gw, .int gh, .ref oga])), (oga, .inl (cI, gn, .inl gf))] H := hP
        have hD : va_D A [(os, .inr (3, [.ref op, .ref og, .ref osa, .ref osb, .int sd])), (osa, .inl (cI, kn, .inl f_2e_osa)), (osb, .inl (cI, sn, .inl (upd f_54_osb x3_54.toNatClampNeg r_7))), (op, .inr (1, [.int pw, .int ph, .ref opa])), (opa, .inl (cI, pn, .inl pf)), (og, .inr (1, [.int gw, .int gh, .ref oga])), (oga, .inl (cI, gn, .inl gf))] := hD
        refine lv_iinc (v := x3_54 + (-1 : Int32)) (lv' := [(3, .int (x3_54 + (-1 : Int32))), (2, .int (ph - (1 : Int32))), (0, .ref os), (1, .int a1)]) hx hb dZS_findLeast_78 hl (k := 0) rfl rfl (by decide) rfl (fun ls hl => ?_)
        refine lv_goto (tgt := 54) hx hb dZS_findLeast_81 (by decide) ?_
        exact ih54 (x3_54 + (-1 : Int32)) (upd f_54_osb x3_54.toNatClampNeg r_7) hw _ _ (hP.sub [0, 1, 2, 3, 4, 5, 6] rfl) (hD.sub [0, 1, 2, 3, 4, 5, 6] (by decide) rfl) hS ls (lv_sub hl [0, 1, 2, 3] rfl)
  obtain ⟨n54, hw⟩ := hw
  refine lp54 _ (fun x3_54e f_54e_osb hw H locs hP hD hS ls hl => ?_) n54 ((ph - (1 : Int32)) - (1 : Int32)) (upd sf (ph - (1 : Int32)).toNatClampNeg r_3) hw _ _ (hP.sub [0, 1, 2, 3, 4, 5, 6] rfl) (hD.sub [0, 1, 2, 3, 4, 5, 6] (by decide) rfl) hS ls (lv_sub hl [0, 1, 2, 3] rfl)
  refine lv_aload_n hx hb dZS_findLeast_84 rfl (lv_at hl 2 rfl) ?_
  refine lv_iconst (v := (1 : Int32)) hx hb dZS_findLeast_85 (by decide) ?_
  refine va_put (D := (dC, dI)) (ci := 3) (v := .int (1 : Int32)) (ty := .boolean) (C := RZS) (T := TZS) (N := 5) hx hb hts inZS tyZS tyZS_ok nmZS hown hK hP hD hS 0 rfl rfl 4 (by decide) (hts _ mm_98) (fun _ h9 => h9) rfl (by decide +kernel) rfl rfl (Nat.le_of_ble_eq_true rfl) dZS_findLeast_86 (fun H locs hP hD hS => ?_)
  have hP : va_P (dC, dI) vwCl [(os, .inr (3, [.ref op, .ref og, .ref osa, .ref osb, .int (1 : Int32)])), (osa, .inl (cI, kn, .inl f_2e_osa)), (osb, .inl (cI, sn, .inl f_54e_osb)), (op, .inr (1, [.int pw, .int ph, .ref opa])), (opa, .inl (cI, pn, .inl pf)), (og, .inr (1, [.int gw, .int gh, .ref oga])), (oga, .inl (cI, gn, .inl gf))] H := hP
  have hD : va_D A [(os, .inr (3, [.ref op, .ref og, .ref osa, .ref osb, .int (1 : Int32)])), (osa, .inl (cI, kn, .inl f_2e_osa)), (osb, .inl (cI, sn, .inl f_54e_osb)), (op, .inr (1, [.int pw, .int ph, .ref opa])), (opa, .inl (cI, pn, .inl pf)), (og, .inr (1, [.int gw, .int gh, .ref oga])), (oga, .inl (cI, gn, .inl gf))] := hD
  refine lv_aload_n hx hb dZS_findLeast_89 rfl (lv_at hl 2 rfl) ?_
  refine va_get (D := (dC, dI)) (ci := 3) (v := .ref osa) (C := RZS) (T := TZS) (N := 5) hx hb hts inZS hown hK hP 0 rfl rfl 2 (by decide) (hts _ mm_95) (fun _ h9 => h9) rfl dZS_findLeast_90 ?_
  refine lv_iload_n hx hb dZS_findLeast_93 rfl (lv_at hl 1 rfl) ?_
  refine lv_bipush (v := (8 : Int32)) hx hb dZS_findLeast_94 (by decide) ?_
  refine lv_imul hx hb dZS_findLeast_96 ?_
  refine lv_aload_n hx hb dZS_findLeast_97 rfl (lv_at hl 2 rfl) ?_
  refine va_get (D := (dC, dI)) (ci := 3) (v := .ref osb) (C := RZS) (T := TZS) (N := 5) hx hb hts inZS hown hK hP 0 rfl rfl 3 (by decide) (hts _ mm_96) (fun _ h9 => h9) rfl dZS_findLeast_98 ?_
  refine lv_iload_n hx hb dZS_findLeast_101 rfl (lv_at hl 1 rfl) ?_
  obtain ⟨h_9, hw⟩ := hw
  refine va_iald hx hb hK hP 2 0 rfl rfl h_9 dZS_findLeast_102 ?_
  refine lv_iadd hx hb dZS_findLeast_103 ?_
  obtain ⟨h_10, hw⟩ := hw
  refine va_iald hx hb hK hP 1 0 rfl rfl h_10 dZS_findLeast_104 ?_
  have hP9 := hP.sub (ws' := [(os, .inr (3, [.ref op, .ref og, .ref osa, .ref osb, .int (1 : Int32)])), (osa, .inl (cI, kn, .inl f_2e_osa)), (osb, .inl (cI, sn, .inl f_54e_osb)), (op, .inr (1, [.int pw, .int ph, .ref opa])), (opa, .inl (cI, pn, .inl pf)), (og, .inr (1, [.int gw, .int gh, .ref oga])), (oga, .inl (cI, gn, .inl gf))]) [0, 1, 2, 3, 4, 5, 6] rfl
  have hD9 := hD.sub (ws' := [(os, .inr (3, [.ref op, .ref og, .ref osa, .ref osb, .int (1 : Int32)])), (osa, .inl (cI, kn, .inl f_2e_osa)), (osb, .inl (cI, sn, .inl f_54e_osb)), (op, .inr (1, [.int pw, .int ph, .ref opa])), (opa, .inl (cI, pn, .inl pf)), (og, .inr (1, [.int gw, .int gh, .ref oga])), (oga, .inl (cI, gn, .inl gf))]) [0, 1, 2, 3, 4, 5, 6] (by decide) rfl
  subst hQ9
  exact W.iret (v := f_2e_osa (((ph - (1 : Int32)) * (8 : Int32)) + (f_54e_osb (ph - (1 : Int32)).toNatClampNeg)).toNatClampNeg) hx hb hr (fun t ht hW => ⟨⟨f_2e_osa (((ph - (1 : Int32)) * (8 : Int32)) + (f_54e_osb (ph - (1 : Int32)).toNatClampNeg)).toNatClampNeg, (f_2e_osa, f_54e_osb, (1 : Int32)), rfl, hw, by rw [ht]; exact hP9, va_K.moved hW.alike hK, hD9⟩, hS.F ht⟩) hS.2.2 dZS_findLeast_105
theorem dZS_init_0 : decode cZS_init 0 = .ok (.aload_n 0, 1) := by decide +kernel
theorem dZS_init_1 : decode cZS_init 1 = .ok (.invokespecial 3, 3) := by decide +kernel
theorem dZS_init_4 : decode cZS_init 4 = .ok (.aload_n 0, 1) := by decide +kernel
theorem dZS_init_5 : decode cZS_init 5 = .ok (.aload_n 1, 1) := by decide +kernel
theorem dZS_init_6 : decode cZS_init 6 = .ok (.putfield 9, 3) := by decide +kernel
theorem dZS_init_9 : decode cZS_init 9 = .ok (.aload_n 0, 1) := by decide +kernel
theorem dZS_init_10 : decode cZS_init 10 = .ok (.aload_n 2, 1) := by decide +kernel
theorem dZS_init_11 : decode cZS_init 11 = .ok (.putfield 15, 3) := by decide +kernel
theorem dZS_init_14 : decode cZS_init 14 = .ok (.aload_n 0, 1) := by decide +kernel
theorem dZS_init_15 : decode cZS_init 15 = .ok (.bipush 8, 2) := by decide +kernel
theorem dZS_init_17 : decode cZS_init 17 = .ok (.aload_n 1, 1) := by decide +kernel
theorem dZS_init_18 : decode cZS_init 18 = .ok (.getfield 18, 3) := by decide +kernel
theorem dZS_init_21 : decode cZS_init 21 = .ok (.imul, 1) := by decide +kernel
theorem dZS_init_22 : decode cZS_init 22 = .ok (.newarray .int, 2) := by decide +kernel
theorem dZS_init_24 : decode cZS_init 24 = .ok (.putfield 24, 3) := by decide +kernel
theorem dZS_init_27 : decode cZS_init 27 = .ok (.aload_n 0, 1) := by decide +kernel
theorem dZS_init_28 : decode cZS_init 28 = .ok (.aload_n 1, 1) := by decide +kernel
theorem dZS_init_29 : decode cZS_init 29 = .ok (.getfield 18, 3) := by decide +kernel
theorem dZS_init_32 : decode cZS_init 32 = .ok (.newarray .int, 2) := by decide +kernel
theorem dZS_init_34 : decode cZS_init 34 = .ok (.putfield 28, 3) := by decide +kernel
theorem dZS_init_37 : decode cZS_init 37 = .ok (.return_, 1) := by decide +kernel
abbrev wsZS_init : List Cond := .code yZS_init cZS_init 3 none :: tbg
def wp_ZS_init (sd : Int32) (pw : Int32) (ph : Int32) (pn : Nat) (pf : Nat → Int32) (gw : Int32) (gh : Int32) (gn : Nat) (gf : Nat → Int32) (post : Nat → (Nat → Int32) → Nat → (Nat → Int32) → Prop) : Prop := ¬ ((8 : Int32) * ph) < 0 ∧ ((8 : Int32) * ph).toNatClampNeg ≤ 320 ∧ (¬ ph < 0 ∧ ph.toNatClampNeg ≤ 40 ∧ (post (((8 : Int32) * ph).toNatClampNeg) (fun _ => 0) ph.toNatClampNeg (fun _ => 0)))
abbrev rm_ZS_init : Room := { frames := 1, cells := 2, slots := 360, locals := 20 }
set_option maxHeartbeats 4000000 in
set_option maxRecDepth 100000 in
theorem kt_ZS_init (l : Launch) (dC : Nat → ClassId) (dI : Nat → Nat → Nat) (cI : ClassId) (os op opa og oga : Nat) (sz : Nat) (sd : Int32) (pw : Int32) (ph : Int32) (pn : Nat) (pf : Nat → Int32) (gw : Int32) (gh : Int32) (gn : Nat) (gf : Nat → Int32) (post : Nat → (Nat → Int32) → Nat → (Nat → Int32) → Prop) (hw : wp_ZS_init sd pw ph pn pf gw gh gn gf post) : Met l yZS_init wsZS_init rm_ZS_init (gw_Pc dC dI [(cI, .int)] [.ref os, .ref op, .ref og] [(os, .inr (3, [.null, .null, .null, .null, .int sd])), (op, .inr (1, [.int pw, .int ph, .ref opa])), (opa, .inl (cI, pn, .inl pf)), (og, .inr (1, [.int gw, .int gh, .ref oga])), (oga, .inl (cI, gn, .inl gf))] sz) (va_Qv (fun (u : Nat × (Nat → Int32) × Nat × (Nat → Int32)) => post u.1 u.2.1 u.2.2.1 u.2.2.2) (fun u t => ∃ osa osb : Nat, gw_B dC dI [(cI, .int)] (va_A [(os, .inr (3, [.null, .null, .null, .null, .int sd])), (op, .inr (1, [.int pw, .int ph, .ref opa])), (opa, .inl (cI, pn, .inl pf)), (og, .inr (1, [.int gw, .int gh, .ref oga])), (oga, .inl (cI, gn, .inl gf))] sz) [(os, .inr (3, [.ref op, .ref og, .ref osa, .ref osb, .int sd])), (osa, .inl (cI, u.1, .inl u.2.1)), (osb, .inl (cI, u.2.2.1, .inl u.2.2.2)), (op, .inr (1, [.int pw, .int ph, .ref opa])), (opa, .inl (cI, pn, .inl pf)), (og, .inr (1, [.int gw, .int gh, .ref oga])), (oga, .inl (cI, gn, .inl gf))] t) (va_A [(os, .inr (3, [.null, .null, .null, .null, .int sd])), (op, .inr (1, [.int pw, .int ph, .ref opa])), (opa, .inl (cI, pn, .inl pf)), (og, .inr (1, [.int gw, .int gh, .ref oga])), (oga, .inl (cI, gn, .inl gf))] sz)) 2 360 (va_A [(os, .inr (3, [.null, .null, .null, .null, .int sd])), (op, .inr (1, [.int pw, .int ph, .ref opa])), (opa, .inl (cI, pn, .inl pf)), (og, .inr (1, [.int gw, .int gh, .ref oga])), (oga, .inl (cI, gn, .inl gf))] sz) := by
  refine Met.ofW (cc := cZS_init) (maxL := 3) (ret := none) (by decide) rfl ?_
  intro p e s m args below meth c s₁ B hml hv
  obtain ⟨ha9, hsz, hP, hK, hE, hD0⟩ := hv
  have hx := B.exec
  have hb := B.bytes
  have hr := B.returns
  have hts0 := atoms_spec (ws := wsZS_init) B.pre
  have hts : ∀ w ∈ tbg, w.before args s = true := fun w h => hts0 w (List.mem_cons_of_mem _ h)
  have hown : s.vm.findClass RZS = some m.cls := findClass_of_methodNamed B.named
  have hlocks := B.notSynchronized
  have hin : meth.name = "<init>" := (name_of_methodNamed B.named B.method).1
  subst hsz
  have hD := hD0.self (sz := s.heap.size)
  refine gx_Q (fun Q9 hQ9 => ?_)
  generalize hAe : va_A [(os, .inr (3, [.null, .null, .null, .null, .int sd])), (op, .inr (1, [.int pw, .int ph, .ref opa])), (opa, .inl (cI, pn, .inl pf)), (og, .inr (1, [.int gw, .int gh, .ref oga])), (oga, .inl (cI, gn, .inl gf))] s.heap.size = A at hD hQ9 ⊢
  have hA : ∀ q : Nat, s.heap.size ≤ q → A q := fun q h => by rw [← hAe]; exact Or.inr h
  have hS : va_S A s.heap s.heap [] := va_S.rf
  have hl := lv_entry ([.ref os, .ref op, .ref og]) (n := 3) (Nat.le_of_ble_eq_true rfl)
  have he9 : entryFrame m args 3 = F0 m 0 ((lg_sl [.ref os, .ref op, .ref og] ++ List.replicate (3 - (lg_sl ([.ref os, .ref op, .ref og] : List Value)).length) Slot.unset).toArray) [] := by rw [ha9]; exact lg_entry_eq m [.ref os, .ref op, .ref og] 3
  rw [he9]
  generalize (lg_sl ([.ref os, .ref op, .ref og] : List Value) ++ List.replicate (3 - (lg_sl ([.ref os, .ref op, .ref og] : List Value)).length) Slot.unset).toArray = ls at hl ⊢
  have hl : lv_has ls 3 [(0, .ref os), (1, .ref op), (2, .ref og)] := hl
  refine lv_aload_n hx hb dZS_init_0 rfl (lv_at hl 0 rfl) ?_
  refine W.objInit hx hb hown (hts _ mm_92) (hts _ mm_23) (hts _ mm_24) rfl (by rw [hml]; exact hl.1) rfl dZS_init_1 (Nat.le_of_ble_eq_true rfl) (Nat.le_of_ble_eq_true rfl) ?_
  refine W.eq (g2 := F0 m 4 ls []) rfl ?_
  refine lv_aload_n hx hb dZS_init_4 rfl (lv_at hl 0 rfl) ?_
  refine lv_aload_n hx hb dZS_init_5 rfl (lv_at hl 1 rfl) ?_
  refine va_putF (D := (dC, dI)) (ci := 3) (v := .ref op) (ty := (.object "TilePyramid$Picture")) (C := RZS) (T := TZS) (N := 5) hx hb hts inZS tyZS tyZS_ok nmZS hown hK hP hD hS 0 rfl rfl 0 (by decide) (hts _ mm_93) (fun _ h9 => h9) rfl hin rfl (by decide +kernel) rfl rfl (Nat.le_of_ble_eq_true rfl) dZS_init_6 (fun H locs hP hD hS => ?_)
  have hP : va_P (dC, dI) vwCl [(os, .inr (3, [.ref op, .null, .null, .null, .int sd])), (op, .inr (1, [.int pw, .int ph, .ref opa])), (opa, .inl (cI, pn, .inl pf)), (og, .inr (1, [.int gw, .int gh, .ref oga])), (oga, .inl (cI, gn, .inl gf))] H := hP
  have hD : va_D A [(os, .inr (3, [.ref op, .null, .null, .null, .int sd])), (op, .inr (1, [.int pw, .int ph, .ref opa])), (opa, .inl (cI, pn, .inl pf)), (og, .inr (1, [.int gw, .int gh, .ref oga])), (oga, .inl (cI, gn, .inl gf))] := hD
  refine lv_aload_n hx hb dZS_init_9 rfl (lv_at hl 0 rfl) ?_
  refine lv_aload_n hx hb dZS_init_10 rfl (lv_at hl 2 rfl) ?_
  refine va_putF (D := (dC, dI)) (ci := 3) (v := .ref og) (ty := (.object "TilePyramid$Picture")) (C := RZS) (T := TZS) (N := 5) hx hb hts inZS tyZS tyZS_ok nmZS hown hK hP hD hS 0 rfl rfl 1 (by decide) (hts _ mm_94) (fun _ h9 => h9) rfl hin rfl (by decide +kernel) rfl rfl (Nat.le_of_ble_eq_true rfl) dZS_init_11 (fun H locs hP hD hS => ?_)
  have hP : va_P (dC, dI) vwCl [(os, .inr (3, [.ref op, .ref og, .null, .null, .int sd])), (op, .inr (1, [.int pw, .int ph, .ref opa])), (opa, .inl (cI, pn, .inl pf)), (og, .inr (1, [.int gw, .int gh, .ref oga])), (oga, .inl (cI, gn, .inl gf))] H := hP
  have hD : va_D A [(os, .inr (3, [.ref op, .ref og, .null, .null, .int sd])), (op, .inr (1, [.int pw, .int ph, .ref opa])), (opa, .inl (cI, pn, .inl pf)), (og, .inr (1, [.int gw, .int gh, .ref oga])), (oga, .inl (cI, gn, .inl gf))] := hD
  refine lv_aload_n hx hb dZS_init_14 rfl (lv_at hl 0 rfl) ?_
  refine lv_bipush (v := (8 : Int32)) hx hb dZS_init_15 (by decide) ?_
  refine lv_aload_n hx hb dZS_init_17 rfl (lv_at hl 1 rfl) ?_
  refine va_get (D := (dC, dI)) (ci := 1) (v := .int ph) (C := RZP) (T := TZP) (N := 3) hx hb hts inZP hown hK hP 1 rfl rfl 1 (by decide) (hts _ mm_43) (fun _ h9 => h9) rfl dZS_init_18 ?_
  refine lv_imul hx hb dZS_init_21 ?_
  obtain ⟨h_2a, h_2b, hw⟩ := hw
  have h_2c : 0 + (((8 : Int32) * ph).toNatClampNeg) ≤ 360 := by omega
  have h_2d : (((8 : Int32) * ph).toNatClampNeg) * 4 ≤ 536870912 := by omega
  refine va_newa (atype := .int) (N' := ((8 : Int32) * ph).toNatClampNeg) (a0 := (((8 : Int32) * ph).toNatClampNeg, .inl (fun _ => 0))) (ty := .int) hx hb (hts _ mm_53) rfl hK hP hD hS hA (fun _ => rfl) h_2a rfl h_2d (Nat.le_of_ble_eq_true rfl) h_2c dZS_init_22 (fun q_1 cAq_1 H hK2 hP hD hS => ?_)
  have hc_q_1 : cAq_1 = cI := Option.some.inj ((va_nm_int (hK2.2 1 _ rfl).2).symm.trans (va_nm_int (hK.2 0 _ rfl).2))
  rw [hc_q_1] at hP hD
  refine W.widen (k := 1) (n := 320) (by omega) (by omega) ?_
  have hP : va_P (dC, dI) vwCl [(os, .inr (3, [.ref op, .ref og, .null, .null, .int sd])), (op, .inr (1, [.int pw, .int ph, .ref opa])), (opa, .inl (cI, pn, .inl pf)), (og, .inr (1, [.int gw, .int gh, .ref oga])), (oga, .inl (cI, gn, .inl gf)), (q_1, .inl (cI, (((8 : Int32) * ph).toNatClampNeg), .inl (fun _ => 0)))] H := hP
  have hD : va_D A [(os, .inr (3, [.ref op, .ref og, .null, .null, .int sd])), (op, .inr (1, [.int pw, .int ph, .ref opa])), (opa, .inl (cI, pn, .inl pf)), (og, .inr (1, [.int gw, .int gh, .ref oga])), (oga, .inl (cI, gn, .inl gf)), (q_1, .inl (cI, (((8 : Int32) * ph).toNatClampNeg), .inl (fun _ => 0)))] := hD
  refine va_putF (D := (dC, dI)) (ci := 3) (v := .ref q_1) (ty := (.array .int)) (C := RZS) (T := TZS) (N := 5) hx hb hts inZS tyZS tyZS_ok nmZS hown hK hP hD hS 0 rfl rfl 2 (by decide) (hts _ mm_95) (fun _ h9 => h9) rfl hin rfl (by decide +kernel) rfl rfl (Nat.le_of_ble_eq_true rfl) dZS_init_24 (fun H locs hP hD hS => ?_)
  have hP : va_P (dC, dI) vwCl [(os, .inr (3, [.ref op, .ref og, .ref q_1, .null, .int sd])), (op, .inr (1, [.int pw, .int ph, .ref opa])), (opa, .inl (cI, pn, .inl pf)), (og, .inr (1, [.int gw, .int gh, .ref oga])), (oga, .inl (cI, gn, .inl gf)), (q_1, .inl (cI, (((8 : Int32) * ph).toNatClampNeg), .inl (fun _ => 0)))] H := hP
  have hD : va_D A [(os, .inr (3, [.ref op, .ref og, .ref q_1, .null, .int sd])), (op, .inr (1, [.int pw, .int ph, .ref opa])), (opa, .inl (cI, pn, .inl pf)), (og, .inr (1, [.int gw, .int gh, .ref oga])), (oga, .inl (cI, gn, .inl gf)), (q_1, .inl (cI, (((8 : Int32) * ph).toNatClampNeg), .inl (fun _ => 0)))] := hD
  refine lv_aload_n hx hb dZS_init_27 rfl (lv_at hl 0 rfl) ?_
  refine lv_aload_n hx hb dZS_init_28 rfl (lv_at hl 1 rfl) ?_
  refine va_get (D := (dC, dI)) (ci := 1) (v := .int ph) (C := RZP) (T := TZP) (N := 3) hx hb hts inZP hown hK hP 1 rfl rfl 1 (by decide) (hts _ mm_43) (fun _ h9 => h9) rfl dZS_init_29 ?_
  obtain ⟨h_4a, h_4b, hw⟩ := hw
  have h_4c : 320 + ph.toNatClampNeg ≤ 360 := by omega
  have h_4d : ph.toNatClampNeg * 4 ≤ 536870912 := by omega
  refine va_newa (atype := .int) (N' := ph.toNatClampNeg) (a0 := (ph.toNatClampNeg, .inl (fun _ => 0))) (ty := .int) hx hb (hts _ mm_53) rfl hK hP hD hS hA (fun _ => rfl) h_4a rfl h_4d (Nat.le_of_ble_eq_true rfl) h_4c dZS_init_32 (fun q_3 cAq_3 H hK2 hP hD hS => ?_)
  have hc_q_3 : cAq_3 = cI := Option.some.inj ((va_nm_int (hK2.2 1 _ rfl).2).symm.trans (va_nm_int (hK.2 0 _ rfl).2))
  rw [hc_q_3] at hP hD
  refine W.widen (k := 2) (n := 360) (by omega) (by omega) ?_
  have hP : va_P (dC, dI) vwCl [(os, .inr (3, [.ref op, .ref og, .ref q_1, .null, .int sd])), (op, .inr (1, [.int pw, .int ph, .ref opa])), (opa, .inl (cI, pn, .inl pf)), (og, .inr (1, [.int gw, .int gh, .ref oga])), (oga, .inl (cI, gn, .inl gf)), (q_1, .inl (cI, (((8 : Int32) * ph).toNatClampNeg), .inl (fun _ => 0))), (q_3, .inl (cI, ph.toNatClampNeg, .inl (fun _ => 0)))] H := hP
  have hD : va_D A [(os, .inr (3, [.ref op, .ref og, .ref q_1, .null, .int sd])), (op, .inr (1, [.int pw, .int ph, .ref opa])), (opa, .inl (cI, pn, .inl pf)), (og, .inr (1, [.int gw, .int gh, .ref oga])), (oga, .inl (cI, gn, .inl gf)), (q_1, .inl (cI, (((8 : Int32) * ph).toNatClampNeg), .inl (fun _ => 0))), (q_3, .inl (cI, ph.toNatClampNeg, .inl (fun _ => 0)))] := hD
  refine va_putF (D := (dC, dI)) (ci := 3) (v := .ref q_3) (ty := (.array .int)) (C := RZS) (T := TZS) (N := 5) hx hb hts inZS tyZS tyZS_ok nmZS hown hK hP hD hS 0 rfl rfl 3 (by decide) (hts _ mm_96) (fun _ h9 => h9) rfl hin rfl (by decide +kernel) rfl rfl (Nat.le_of_ble_eq_true rfl) dZS_init_34 (fun H locs hP hD hS => ?_)
  have hP : va_P (dC, dI) vwCl [(os, .inr (3, [.ref op, .ref og, .ref q_1, .ref q_3, .int sd])), (op, .inr (1, [.int pw, .int ph, .ref opa])), (opa, .inl (cI, pn, .inl pf)), (og, .inr (1, [.int gw, .int gh, .ref oga])), (oga, .inl (cI, gn, .inl gf)), (q_1, .inl (cI, (((8 : Int32) * ph).toNatClampNeg), .inl (fun _ => 0))), (q_3, .inl (cI, ph.toNatClampNeg, .inl (fun _ => 0)))] H := hP
  have hD : va_D A [(os, .inr (3, [.ref op, .ref og, .ref q_1, .ref q_3, .int sd])), (op, .inr (1, [.int pw, .int ph, .ref opa])), (opa, .inl (cI, pn, .inl pf)), (og, .inr (1, [.int gw, .int gh, .ref oga])), (oga, .inl (cI, gn, .inl gf)), (q_1, .inl (cI, (((8 : Int32) * ph).toNatClampNeg), .inl (fun _ => 0))), (q_3, .inl (cI, ph.toNatClampNeg, .inl (fun _ => 0)))] := hD
  have hP9 := hP.sub (ws' := [(os, .inr (3, [.ref op, .ref og, .ref q_1, .ref q_3, .int sd])), (q_1, .inl (cI, (((8 : Int32) * ph).toNatClampNeg), .inl (fun _ => 0))), (q_3, .inl (cI, ph.toNatClampNeg, .inl (fun _ => 0))), (op, .inr (1, [.int pw, .int ph, .ref opa])), (opa, .inl (cI, pn, .inl pf)), (og, .inr (1, [.int gw, .int gh, .ref oga])), (oga, .inl (cI, gn, .inl gf))]) [0, 5, 6, 1, 2, 3, 4] rfl
  have hD9 := hD.sub (ws' := [(os, .inr (3, [.ref op, .ref og, .ref q_1, .ref q_3, .int sd])), (q_1, .inl (cI, (((8 : Int32) * ph).toNatClampNeg), .inl (fun _ => 0))), (q_3, .inl (cI, ph.toNatClampNeg, .inl (fun _ => 0))), (op, .inr (1, [.int pw, .int ph, .ref opa])), (opa, .inl (cI, pn, .inl pf)), (og, .inr (1, [.int gw, .int gh, .ref oga])), (oga, .inl (cI, gn, .inl gf))]) [0, 5, 6, 1, 2, 3, 4] (by decide) rfl
  subst hQ9
  exact W.vret hx hb hr (fun t ht hW => ⟨⟨((((8 : Int32) * ph).toNatClampNeg), (fun _ => 0), ph.toNatClampNeg, (fun _ => 0)), rfl, hw, q_1, q_3, by rw [ht]; exact hP9, va_K.moved hW.alike hK, hD9⟩, hS.F ht⟩) hS.2.2 dZS_init_37
