theorem dZQ_open_0 : decode cZQ_open 0 = .ok (.aload_n 0, 1) := by decide +kernel
theorem dZQ_open_1 : decode cZQ_open 1 = .ok (.getfield 42, 3) := by decide +kernel
theorem dZQ_open_4 : decode cZQ_open 4 = .ok (.invokestatic 178, 3) := by decide +kernel
theorem dZQ_open_7 : decode cZQ_open 7 = .ok (.ifCond .ne 5, 3) := by decide +kernel
theorem dZQ_open_10 : decode cZQ_open 10 = .ok (.iconst 0, 1) := by decide +kernel
theorem dZQ_open_11 : decode cZQ_open 11 = .ok (.ireturn, 1) := by decide +kernel
theorem dZQ_open_12 : decode cZQ_open 12 = .ok (.aload_n 0, 1) := by decide +kernel
theorem dZQ_open_13 : decode cZQ_open 13 = .ok (.getfield 42, 3) := by decide +kernel
theorem dZQ_open_16 : decode cZQ_open 16 = .ok (.aload_n 0, 1) := by decide +kernel
theorem dZQ_open_17 : decode cZQ_open 17 = .ok (.getfield 62, 3) := by decide +kernel
theorem dZQ_open_20 : decode cZQ_open 20 = .ok (.invokestatic 184, 3) := by decide +kernel
theorem dZQ_open_23 : decode cZQ_open 23 = .ok (.ifCond .ne 5, 3) := by decide +kernel
theorem dZQ_open_26 : decode cZQ_open 26 = .ok (.iconst (-1), 1) := by decide +kernel
theorem dZQ_open_27 : decode cZQ_open 27 = .ok (.ireturn, 1) := by decide +kernel
theorem dZQ_open_28 : decode cZQ_open 28 = .ok (.aload_n 0, 1) := by decide +kernel
theorem dZQ_open_29 : decode cZQ_open 29 = .ok (.getfield 58, 3) := by decide +kernel
theorem dZQ_open_32 : decode cZQ_open 32 = .ok (.astore_n 1, 1) := by decide +kernel
theorem dZQ_open_33 : decode cZQ_open 33 = .ok (.aload_n 0, 1) := by decide +kernel
theorem dZQ_open_34 : decode cZQ_open 34 = .ok (.aload_n 0, 1) := by decide +kernel
theorem dZQ_open_35 : decode cZQ_open 35 = .ok (.getfield 62, 3) := by decide +kernel
theorem dZQ_open_38 : decode cZQ_open 38 = .ok (.putfield 58, 3) := by decide +kernel
theorem dZQ_open_41 : decode cZQ_open 41 = .ok (.aload_n 0, 1) := by decide +kernel
theorem dZQ_open_42 : decode cZQ_open 42 = .ok (.aload_n 1, 1) := by decide +kernel
theorem dZQ_open_43 : decode cZQ_open 43 = .ok (.putfield 62, 3) := by decide +kernel
theorem dZQ_open_46 : decode cZQ_open 46 = .ok (.aload_n 0, 1) := by decide +kernel
theorem dZQ_open_47 : decode cZQ_open 47 = .ok (.getfield 58, 3) := by decide +kernel
theorem dZQ_open_50 : decode cZQ_open 50 = .ok (.invokevirtual 188, 3) := by decide +kernel
theorem dZQ_open_53 : decode cZQ_open 53 = .ok (.ireturn, 1) := by decide +kernel
abbrev wsZQ_open : List Cond := .code yZQ_open cZQ_open 2 (some .int) :: tbg
def wp_ZQ_open (pw : Int32) (ph : Int32) (pn : Nat) (pf : Nat → Int32) (gw : Int32) (gh : Int32) (gn : Nat) (gf : Nat → Int32) (yk : Int32) (bl : Int32) (bf : Nat → Int32) (kn : Nat) (kf : Nat → Int32) (sn : Nat) (sf : Nat → Int32) (sd : Int32) (tw : Int32) (th : Int32) (tf : Nat → Int32) (uw : Int32) (uh : Int32) (uf : Nat → Int32) (post : Int32 → Int32 → Int32 → (Nat → Int32) → Int32 → Int32 → (Nat → Int32) → Prop) : Prop := wp_ZO_isSumRight bl bf (fun r_1 : Int32 => ((r_1 = (0 : Int32) → (post (0 : Int32) tw th tf uw uh uf)) ∧ (¬ r_1 = (0 : Int32) → (wp_ZO_openTile bl bf uw uh uf (fun (r_6 : Int32) (tw_3 : Int32) (th_4 : Int32) (tf_5 : Nat → Int32) => ((r_6 = (0 : Int32) → (post (-1 : Int32) tw th tf tw_3 th_4 tf_5)) ∧ (¬ r_6 = (0 : Int32) → (wp_ZT_sampleCount tw_3 th_4 tf_5 (fun r_8 : Int32 => post r_8 tw_3 th_4 tf_5 tw th tf)))))))))
abbrev rm_ZQ_open : Room := { frames := 4, cells := 0, slots := 0, locals := 100 }
set_option maxHeartbeats 4000000 in
set_option maxRecDepth 100000 in
theorem kt_ZQ_open (l : Launch) (dC : Nat → ClassId) (dI : Nat → Nat → Nat) (cI : ClassId) (o0 op opa og oga oy ob oba os osa osb ot ota ou oua : Nat) (sz : Nat) (pw : Int32) (ph : Int32) (pn : Nat) (pf : Nat → Int32) (gw : Int32) (gh : Int32) (gn : Nat) (gf : Nat → Int32) (yk : Int32) (bl : Int32) (bf : Nat → Int32) (kn : Nat) (kf : Nat → Int32) (sn : Nat) (sf : Nat → Int32) (sd : Int32) (tw : Int32) (th : Int32) (tf : Nat → Int32) (uw : Int32) (uh : Int32) (uf : Nat → Int32) (post : Int32 → Int32 → Int32 → (Nat → Int32) → Int32 → Int32 → (Nat → Int32) → Prop) (hw : wp_ZQ_open pw ph pn pf gw gh gn gf yk bl bf kn kf sn sf sd tw th tf uw uh uf post) : Met l yZQ_open wsZQ_open rm_ZQ_open (gw_Pc dC dI [(cI, .int)] [.ref o0] [(o0, .inr (5, [.ref op, .ref og, .ref oy, .ref ob, .ref os, .ref ot, .ref ou])), (op, .inr (1, [.int pw, .int ph, .ref opa])), (opa, .inl (cI, pn, .inl pf)), (og, .inr (1, [.int gw, .int gh, .ref oga])), (oga, .inl (cI, gn, .inl gf)), (oy, .inr (2, [.ref op, .int yk])), (ob, .inr (0, [.ref oba, .int bl])), (oba, .inl (cI, 256, .inl bf)), (os, .inr (3, [.ref op, .ref og, .ref osa, .ref osb, .int sd])), (osa, .inl (cI, kn, .inl kf)), (osb, .inl (cI, sn, .inl sf)), (ot, .inr (4, [.ref ota, .int tw, .int th])), (ota, .inl (cI, 64, .inl tf)), (ou, .inr (4, [.ref oua, .int uw, .int uh])), (oua, .inl (cI, 64, .inl uf))] sz) (va_Qi (fun (r : Int32) (u : Int32 × Int32 × (Nat → Int32) × Int32 × Int32 × (Nat → Int32)) => post r u.1 u.2.1 u.2.2.1 u.2.2.2.1 u.2.2.2.2.1 u.2.2.2.2.2) (fun u t => ∃ ot2 ot2a ou2 ou2a : Nat, gw_B dC dI [(cI, .int)] (va_A [(o0, .inr (5, [.ref op, .ref og, .ref oy, .ref ob, .ref os, .ref ot, .ref ou])), (op, .inr (1, [.int pw, .int ph, .ref opa])), (opa, .inl (cI, pn, .inl pf)), (og, .inr (1, [.int gw, .int gh, .ref oga])), (oga, .inl (cI, gn, .inl gf)), (oy, .inr (2, [.ref op, .int yk])), (ob, .inr (0, [.ref oba, .int bl])), (oba, .inl (cI, 256, .inl bf)), (os, .inr (3, [.ref op, .ref og, .ref osa, .ref osb, .int sd])), (osa, .inl (cI, kn, .inl kf)), (osb, .inl (cI, sn, .inl sf)), (ot, .inr (4, [.ref ota, .int tw, .int th])), (ota, .inl (cI, 64, .inl tf)), (ou, .inr (4, [.ref oua, .int uw, .int uh])), (oua, .inl (cI, 64, .inl uf))] sz) [(o0, .inr (5, [.ref op, .ref og, .ref oy, .ref ob, .ref os, .ref ot2, .ref ou2])), (op, .inr (1, [.int pw, .int ph, .ref opa])), (opa, .inl (cI, pn, .inl pf)), (og, .inr (1, [.int gw, .int gh, .ref oga])), (oga, .inl (cI, gn, .inl gf)), (oy, .inr (2, [.ref op, .int yk])), (ob, .inr (0, [.ref oba, .int bl])), (oba, .inl (cI, 256, .inl bf)), (os, .inr (3, [.ref op, .ref og, .ref osa, .ref osb, .int sd])), (osa, .inl (cI, kn, .inl kf)), (osb, .inl (cI, sn, .inl sf)), (ot2, .inr (4, [.ref ot2a, .int u.1, .int u.2.1])), (ot2a, .inl (cI, 64, .inl u.2.2.1)), (ou2, .inr (4, [.ref ou2a, .int u.2.2.2.1, .int u.2.2.2.2.1])), (ou2a, .inl (cI, 64, .inl u.2.2.2.2.2))] t) (va_A [(o0, .inr (5, [.ref op, .ref og, .ref oy, .ref ob, .ref os, .ref ot, .ref ou])), (op, .inr (1, [.int pw, .int ph, .ref opa])), (opa, .inl (cI, pn, .inl pf)), (og, .inr (1, [.int gw, .int gh, .ref oga])), (oga, .inl (cI, gn, .inl gf)), (oy, .inr (2, [.ref op, .int yk])), (ob, .inr (0, [.ref oba, .int bl])), (oba, .inl (cI, 256, .inl bf)), (os, .inr (3, [.ref op, .ref og, .ref osa, .ref osb, .int sd])), (osa, .inl (cI, kn, .inl kf)), (osb, .inl (cI, sn, .inl sf)), (ot, .inr (4, [.ref ota, .int tw, .int th])), (ota, .inl (cI, 64, .inl tf)), (ou, .inr (4, [.ref oua, .int uw, .int uh])), (oua, .inl (cI, 64, .inl uf))] sz)) 0 0 (va_A [(o0, .inr (5, [.ref op, .ref og, .ref oy, .ref ob, .ref os, .ref ot, .ref ou])), (op, .inr (1, [.int pw, .int ph, .ref opa])), (opa, .inl (cI, pn, .inl pf)), (og, .inr (1, [.int gw, .int gh, .ref oga])), (oga, .inl (cI, gn, .inl gf)), (oy, .inr (2, [.ref op, .int yk])), (ob, .inr (0, [.ref oba, .int bl])), (oba, .inl (cI, 256, .inl bf)), (os, .inr (3, [.ref op, .ref og, .ref osa, .ref osb, .int sd])), (osa, .inl (cI, kn, .inl kf)), (osb, .inl (cI, sn, .inl sf)), (ot, .inr (4, [.ref ota, .int tw, .int th])), (ota, .inl (cI, 64, .inl tf)), (ou, .inr (4, [.ref oua, .int uw, .int uh])), (oua, .inl (cI, 64, .inl uf))] sz) := by
  refine Met.ofW (cc := cZQ_open) (maxL := 2) (ret := (some .int)) (by decide) rfl ?_
  intro p e s m args below meth c s₁ B hml hv
  obtain ⟨ha9, hsz, hP, hK, hE, hD0⟩ := hv
  have hx := B.exec
  have hb := B.bytes
  have hr := B.returns
  have hts0 := atoms_spec (ws := wsZQ_open) B.pre
  have hts : ∀ w ∈ tbg, w.before args s = true := fun w h => hts0 w (List.mem_cons_of_mem _ h)
  have hown : s.vm.findClass RZQ = some m.cls := findClass_of_methodNamed B.named
  have hlocks := B.notSynchronized
  subst hsz
  have hD := hD0.self (sz := s.heap.size)
  refine gx_Q (fun Q9 hQ9 => ?_)
  generalize hAe : va_A [(o0, .inr (5, [.ref op, .ref og, .ref oy, .ref ob, .ref os, .ref ot, .ref ou])), (op, .inr (1, [.int pw, .int ph, .ref opa])), (opa, .inl (cI, pn, .inl pf)), (og, .inr (1, [.int gw, .int gh, .ref oga])), (oga, .inl (cI, gn, .inl gf)), (oy, .inr (2, [.ref op, .int yk])), (ob, .inr (0, [.ref oba, .int bl])), (oba, .inl (cI, 256, .inl bf)), (os, .inr (3, [.ref op, .ref og, .ref osa, .ref osb, .int sd])), (osa, .inl (cI, kn, .inl kf)), (osb, .inl (cI, sn, .inl sf)), (ot, .inr (4, [.ref ota, .int tw, .int th])), (ota, .inl (cI, 64, .inl tf)), (ou, .inr (4, [.ref oua, .int uw, .int uh])), (oua, .inl (cI, 64, .inl uf))] s.heap.size = A at hD hQ9 ⊢
  have hA : ∀ q : Nat, s.heap.size ≤ q → A q := fun q h => by rw [← hAe]; exact Or.inr h
  have hS : va_S A s.heap s.heap [] := va_S.rf
  have hl := lv_entry ([.ref o0]) (n := 2) (Nat.le_of_ble_eq_true rfl)
  have he9 : entryFrame m args 2 = F0 m 0 ((lg_sl [.ref o0] ++ List.replicate (2 - (lg_sl ([.ref o0] : List Value)).length) Slot.unset).toArray) [] := by rw [ha9]; exact lg_entry_eq m [.ref o0] 2
  rw [he9]
  generalize (lg_sl ([.ref o0] : List Value) ++ List.replicate (2 - (lg_sl ([.ref o0] : List Value)).length) Slot.unset).toArray = ls at hl ⊢
  have hl : lv_has ls 2 [(0, .ref o0)] := hl
  refine lv_aload_n hx hb dZQ_open_0 rfl (lv_at hl 0 rfl) ?_
  refine va_get (D := (dC, dI)) (ci := 5) (v := .ref ob) (C := RZQ) (T := TZQ) (N := 7) hx hb hts inZQ hown hK hP 0 rfl rfl 3 (by decide) (hts _ mm_139) (fun _ h9 => h9) rfl dZQ_open_1 ?_
  have hPc := hP.sub (ws' := [(ob, .inr (0, [.ref oba, .int bl])), (oba, .inl (cI, 256, .inl bf))]) [6, 7] rfl
  refine vp_callSi (va_runS (As := [.ref ob]) (rest := []) ⟨hx, hb, hml, hown, hts⟩ (kt_ZO_isSumRight l dC dI cI ob oba bl bf _ hw) (va_cwS 1 hts (tb_S mm_170 mm_171 mm_16 mm_172) rfl rfl rfl (by decide +kernel) ⟨Nat.le_of_ble_eq_true rfl, Nat.le_of_ble_eq_true rfl⟩) ⟨gr_blind, fun U hU hW => gr_pre hPc hK hE hU hW⟩ rfl rfl hl.1 rfl (lv_room (Nat.le_of_ble_eq_true rfl)) dZQ_open_4 ⟨Nat.le_of_ble_eq_true rfl, Nat.le_of_ble_eq_true rfl⟩).run (fun r_1 hw => ?_)
  refine lv_if_ne (tgt := 12) hx hb dZQ_open_7 (by decide) (fun c_2 => ?_) (fun c_2 => ?_)
  · have hw := hw.2 c_2
    refine lv_aload_n hx hb dZQ_open_12 rfl (lv_at hl 0 rfl) ?_
    refine va_get (D := (dC, dI)) (ci := 5) (v := .ref ob) (C := RZQ) (T := TZQ) (N := 7) hx hb hts inZQ hown hK hP 0 rfl rfl 3 (by decide) (hts _ mm_139) (fun _ h9 => h9) rfl dZQ_open_13 ?_
    refine lv_aload_n hx hb dZQ_open_16 rfl (lv_at hl 0 rfl) ?_
    refine va_get (D := (dC, dI)) (ci := 5) (v := .ref ou) (C := RZQ) (T := TZQ) (N := 7) hx hb hts inZQ hown hK hP 0 rfl rfl 6 (by decide) (hts _ mm_142) (fun _ h9 => h9) rfl dZQ_open_17 ?_
    have hPc := hP.sub (ws' := [(ob, .inr (0, [.ref oba, .int bl])), (oba, .inl (cI, 256, .inl bf)), (ou, .inr (4, [.ref oua, .int uw, .int uh])), (oua, .inl (cI, 64, .inl uf))]) [6, 7, 13, 14] rfl
    have hDc := hD.sub (ws' := [(ob, .inr (0, [.ref oba, .int bl])), (oba, .inl (cI, 256, .inl bf)), (ou, .inr (4, [.ref oua, .int uw, .int uh])), (oua, .inl (cI, 64, .inl uf))]) [6, 7, 13, 14] (by decide) rfl
    have hFc := va_free (wc := [(ob, .inr (0, [.ref oba, .int bl])), (oba, .inl (cI, 256, .inl bf)), (ou, .inr (4, [.ref oua, .int uw, .int uh])), (oua, .inl (cI, 64, .inl uf))]) hD hS hA [6, 7, 13, 14] rfl
    refine va_calli (va_runS (As := [.ref ob, .ref ou]) (rest := []) ⟨hx, hb, hml, hown, hts⟩ (kt_ZO_openTile l dC dI cI ob oba ou oua _ bl bf uw uh uf _ hw) (va_cwS 2 hts (tb_S mm_178 mm_179 mm_16 mm_180) rfl rfl rfl (by decide +kernel) ⟨Nat.le_of_ble_eq_true rfl, Nat.le_of_ble_eq_true rfl⟩) ⟨gw_blind, fun U hU hW => gw_pre hPc hDc hK hE hU hW⟩ rfl rfl hl.1 rfl (lv_room (Nat.le_of_ble_eq_true rfl)) dZQ_open_20 ⟨Nat.le_of_ble_eq_true rfl, Nat.le_of_ble_eq_true rfl⟩) hS (fun q _ h => hFc q h) hFc (fun r_6 u t H1 locs ht hvm hw hB hz1 hk1 hS => ?_)
    obtain ⟨tw_3, th_4, tf_5⟩ := u
    obtain ⟨hP1, hK1, hD1⟩ := hB
    rw [ht] at hP1
    try dsimp only at hw
    obtain ⟨hP, hD⟩ := va_join (wr := [(o0, .inr (5, [.ref op, .ref og, .ref oy, .ref ob, .ref os, .ref ot, .ref ou])), (op, .inr (1, [.int pw, .int ph, .ref opa])), (opa, .inl (cI, pn, .inl pf)), (og, .inr (1, [.int gw, .int gh, .ref oga])), (oga, .inl (cI, gn, .inl gf)), (oy, .inr (2, [.ref op, .int yk])), (os, .inr (3, [.ref op, .ref og, .ref osa, .ref osb, .int sd])), (osa, .inl (cI, kn, .inl kf)), (osb, .inl (cI, sn, .inl sf)), (ot, .inr (4, [.ref ota, .int tw, .int th])), (ota, .inl (cI, 64, .inl tf))]) (w1 := [(ob, .inr (0, [.ref oba, .int bl])), (oba, .inl (cI, 256, .inl bf)), (ou, .inr (4, [.ref oua, .int tw_3, .int th_4])), (oua, .inl (cI, 64, .inl tf_5))]) hP hD [6, 7, 13, 14] [0, 1, 2, 3, 4, 5, 8, 9, 10, 11, 12] rfl rfl (by decide) (by decide) hk1 hFc hP1 hD1
    generalize H1 = H at hP hS ⊢
    have hP : va_P (dC, dI) vwCl [(o0, .inr (5, [.ref op, .ref og, .ref oy, .ref ob, .ref os, .ref ot, .ref ou])), (op, .inr (1, [.int pw, .int ph, .ref opa])), (opa, .inl (cI, pn, .inl pf)), (og, .inr (1, [.int gw, .int gh, .ref oga])), (oga, .inl (cI, gn, .inl gf)), (oy, .inr (2, [.ref op, .int yk])), (os, .inr (3, [.ref op, .ref og, .ref osa, .ref osb, .int sd])), (osa, .inl (cI, kn, .inl kf)), (osb, .inl (cI, sn, .inl sf)), (ot, .inr (4, [.ref ota, .int tw, .int th])), (ota, .inl (cI, 64, .inl tf)), (ob, .inr (0, [.ref oba, .int bl])), (oba, .inl (cI, 256, .inl bf)), (ou, .inr (4, [.ref oua, .int tw_3, .int th_4])), (oua, .inl (cI, 64, .inl tf_5))] H := hP
    have hD : va_D A [(o0, .inr (5, [.ref op, .ref og, .ref oy, .ref ob, .ref os, .ref ot, .ref ou])), (op, .inr (1, [.int pw, .int ph, .ref opa])), (opa, .inl (cI, pn, .inl pf)), (og, .inr (1, [.int gw, .int gh, .ref oga])), (oga, .inl (cI, gn, .inl gf)), (oy, .inr (2, [.ref op, .int yk])), (os, .inr (3, [.ref op, .ref og, .ref osa, .ref osb, .int sd])), (osa, .inl (cI, kn, .inl kf)), (osb, .inl (cI, sn, .inl sf)), (ot, .inr (4, [.ref ota, .int tw, .int th])), (ota, .inl (cI, 64, .inl tf)), (ob, .inr (0, [.ref oba, .int bl])), (oba, .inl (cI, 256, .inl bf)), (ou, .inr (4, [.ref oua, .int tw_3, .int th_4])), (oua, .inl (cI, 64, .inl tf_5))] := hD
    refine lv_if_ne (tgt := 28) hx hb dZQ_open_23 (by decide) (fun c_7 => ?_) (fun c_7 => ?_)
    · have hw := hw.2 c_7
      refine lv_aload_n hx hb dZQ_open_28 rfl (lv_at hl 0 rfl) ?_
      refine va_get (D := (dC, dI)) (ci := 5) (v := .ref ot) (C := RZQ) (T := TZQ) (N := 7) hx hb hts inZQ hown hK hP 0 rfl rfl 5 (by decide) (hts _ mm_141) (fun _ h9 => h9) rfl dZQ_open_29 ?_
      refine lv_astore_n (lv' := [(1, .ref ot), (0, .ref o0)]) hx hb dZQ_open_32 rfl hl (by decide) rfl (fun ls hl => ?_)
      refine lv_aload_n hx hb dZQ_open_33 rfl (lv_at hl 1 rfl) ?_
      refine lv_aload_n hx hb dZQ_open_34 rfl (lv_at hl 1 rfl) ?_
      refine va_get (D := (dC, dI)) (ci := 5) (v := .ref ou) (C := RZQ) (T := TZQ) (N := 7) hx hb hts inZQ hown hK hP 0 rfl rfl 6 (by decide) (hts _ mm_142) (fun _ h9 => h9) rfl dZQ_open_35 ?_
      refine va_put (D := (dC, dI)) (ci := 5) (v := .ref ou) (ty := (.object "TilePyramid$Tile")) (C := RZQ) (T := TZQ) (N := 7) hx hb hts inZQ tyZQ tyZQ_ok nmZQ hown hK hP hD hS 0 rfl rfl 5 (by decide) (hts _ mm_141) (fun _ h9 => h9) rfl (by decide +kernel) rfl rfl (Nat.le_of_ble_eq_true rfl) dZQ_open_38 (fun H locs hP hD hS => ?_)
      have hP : va_P (dC, dI) vwCl [(o0, .inr (5, [.ref op, .ref og, .ref oy, .ref ob, .ref os, .ref ou, .ref ou])), (op, .inr (1, [.int pw, .int ph, .ref opa])), (opa, .inl (cI, pn, .inl pf)), (og, .inr (1, [.int gw, .int gh, .ref oga])), (oga, .inl (cI, gn, .inl gf)), (oy, .inr (2, [.ref op, .int yk])), (os, .inr (3, [.ref op, .ref og, .ref osa, .ref osb, .int sd])), (osa, .inl (cI, kn, .inl kf)), (osb, .inl (cI, sn, .inl sf)), (ot, .inr (4, [.ref ota, .int tw, .int th])), (ota, .inl (cI, 64, .inl tf)), (ob, .inr (0, [.ref oba, .int bl])), (oba, .inl (cI, 256, .inl bf)), (ou, .inr (4, [.ref oua, .int tw_3, .int th_4])), (oua, .inl (cI, 64, .inl tf_5))] H := hP
      have hD : va_D A [(o0, .inr (5, [.ref op, .ref og, .ref oy, .ref ob, .ref os, .ref ou, .ref ou])), (op, .inr (1, [.int pw, .int ph, .ref opa])), (opa, .inl (cI, pn, .inl pf)), (og, .inr (1, [.int gw, .int gh, .ref oga])), (oga, .inl (cI, gn, .inl gf)), (oy, .inr (2, [.ref op, .int yk])), (os, .inr (3, [.ref op, .ref og, .ref osa, .ref osb, .int sd])), (osa, .inl (cI, kn, .inl kf)), (osb, .inl (cI, sn, .inl sf)), (ot, .inr (4, [.ref ota, .int tw, .int th])), (ota, .inl (cI, 64, .inl tf)), (ob, .inr (0, [.ref oba, .int bl])), (oba, .inl (cI, 256, .inl bf)), (ou, .inr (4, [.ref oua, .int tw_3, .int th_4])), (oua, .inl (cI, 64, .inl tf_5))] := hD
      refine lv_aload_n hx hb dZQ_open_41 rfl (lv_at hl 1 rfl) ?_
      refine lv_aload_n hx hb dZQ_open_42 rfl (lv_at hl 0 rfl) ?_
      refine va_put (D := (dC, dI)) (ci := 5) (v := .ref ot) (ty := (.object "TilePyramid$Tile")) (C := RZQ) (T := TZQ) (N := 7) hx hb hts inZQ tyZQ tyZQ_ok nmZQ hown hK hP hD hS 0 rfl rfl 6 (by decide) (hts _ mm_142) (fun _ h9 => h9) rfl (by decide +kernel) rfl rfl (Nat.le_of_ble_eq_true rfl) dZQ_open_43 (fun H locs hP hD hS => ?_)
      have hP : va_P (dC, dI) vwCl [(o0, .inr (5, [.ref op, .ref og, .ref oy, .ref ob, .ref os, .ref ou, .ref ot])), (op, .inr (1, [.int pw, .int ph, .ref opa])), (opa, .inl (cI, pn, .inl pf)), (og, .inr (1, [.int gw, .int gh, .ref oga])), (oga, .inl (cI, gn, .inl gf)), (oy, .inr (2, [.ref op, .int yk])), (os, .inr (3, [.ref op, .ref og, .ref osa, .ref osb, .int sd])), (osa, .inl (cI, kn, .inl kf)), (osb, .inl (cI, sn, .inl sf)), (ot, .inr (4, [.ref ota, .int tw, .int th])), (ota, .inl (cI, 64, .inl tf)), (ob, .inr (0, [.ref oba, .int bl])), (oba, .inl (cI, 256, .inl bf)), (ou, .inr (4, [.ref oua, .int tw_3, .int th_4])), (oua, .inl (cI, 64, .inl tf_5))] H := hP
      have hD : va_D A [(o0, .inr (5, [.ref op, .ref og, .ref oy, .ref ob, .ref os, .ref ou, .ref ot])), (op, .inr (1, [.int pw, .int ph, .ref opa])), (opa, .inl (cI, pn, .inl pf)), (og, .inr (1, [.int gw, .int gh, .ref oga])), (oga, .inl (cI, gn, .inl gf)), (oy, .inr (2, [.ref op, .int yk])), (os, .inr (3, [.ref op, .ref og, .ref osa, .ref osb, .int sd])), (osa, .inl (cI, kn, .inl kf)), (osb, .inl (cI, sn, .inl sf)), (ot, .inr (4, [.ref ota, .int tw, .int th])), (ota, .inl (cI, 64, .inl tf)), (ob, .inr (0, [.ref oba, .int bl])), (oba, .inl (cI, 256, .inl bf)), (ou, .inr (4, [.ref oua, .int tw_3, .int th_4])), (oua, .inl (cI, 64, .inl tf_5))] := hD
      refine lv_aload_n hx hb dZQ_open_46 rfl (lv_at hl 1 rfl) ?_
      refine va_get (D := (dC, dI)) (ci := 5) (v := .ref ou) (C := RZQ) (T := TZQ) (N := 7) hx hb hts inZQ hown hK hP 0 rfl rfl 5 (by decide) (hts _ mm_141) (fun _ h9 => h9) rfl dZQ_open_47 ?_
      have hPc := hP.sub (ws' := [(ou, .inr (4, [.ref oua, .int tw_3, .int th_4])), (oua, .inl (cI, 64, .inl tf_5))]) [13, 14] rfl
      refine vp_callSi (va_runV (As := []) (rest := []) ⟨hx, hb, hml, hown, hts⟩ (kt_ZT_sampleCount l dC dI cI ou oua tw_3 th_4 tf_5 _ hw) (cwV 0 hts (tb_V mm_217 mm_218 mm_219 mm_7 mm_220) rfl rfl rfl (by decide +kernel) ⟨Nat.le_of_ble_eq_true rfl, Nat.le_of_ble_eq_true rfl⟩) ⟨gr_blind, va_recv hK hPc (ci := 4) (q0 := 0) rfl rfl, fun U hU hW => gr_pre hPc hK hE hU hW⟩ rfl rfl hl.1 rfl (lv_room (Nat.le_of_ble_eq_true rfl)) dZQ_open_50 ⟨Nat.le_of_ble_eq_true rfl, Nat.le_of_ble_eq_true rfl⟩).run (fun r_8 hw => ?_)
      have hP9 := hP.sub (ws' := [(o0, .inr (5, [.ref op, .ref og, .ref oy, .ref ob, .ref os, .ref ou, .ref ot])), (op, .inr (1, [.int pw, .int ph, .ref opa])), (opa, .inl (cI, pn, .inl pf)), (og, .inr (1, [.int gw, .int gh, .ref oga])), (oga, .inl (cI, gn, .inl gf)), (oy, .inr (2, [.ref op, .int yk])), (ob, .inr (0, [.ref oba, .int bl])), (oba, .inl (cI, 256, .inl bf)), (os, .inr (3, [.ref op, .ref og, .ref osa, .ref osb, .int sd])), (osa, .inl (cI, kn, .inl kf)), (osb, .inl (cI, sn, .inl sf)), (ou, .inr (4, [.ref oua, .int tw_3, .int th_4])), (oua, .inl (cI, 64, .inl tf_5)), (ot, .inr (4, [.ref ota, .int tw, .int th])), (ota, .inl (cI, 64, .inl tf))]) [0, 1, 2, 3, 4, 5, 11, 12, 6, 7, 8, 13, 14, 9, 10] rfl
      have hD9 := hD.sub (ws' := [(o0, .inr (5, [.ref op, .ref og, .ref oy, .ref ob, .ref os, .ref ou, .ref ot])), (op, .inr (1, [.int pw, .int ph, .ref opa])), (opa, .inl (cI, pn, .inl pf)), (og, .inr (1, [.int gw, .int gh, .ref oga])), (oga, .inl (cI, gn, .inl gf)), (oy, .inr (2, [.ref op, .int yk])), (ob, .inr (0, [.ref oba, .int bl])), (oba, .inl (cI, 256, .inl bf)), (os, .inr (3, [.ref op, .ref og, .ref osa, .ref osb, .int sd])), (osa, .inl (cI, kn, .inl kf)), (osb, .inl (cI, sn, .inl sf)), (ou, .inr (4, [.ref oua, .int tw_3, .int th_4])), (oua, .inl (cI, 64, .inl tf_5)), (ot, .inr (4, [.ref ota, .int tw, .int th])), (ota, .inl (cI, 64, .inl tf))]) [0, 1, 2, 3, 4, 5, 11, 12, 6, 7, 8, 13, 14, 9, 10] (by decide) rfl
      subst hQ9
      exact W.iret (v := r_8) hx hb hr (fun t ht hW => ⟨⟨r_8, (tw_3, th_4, tf_5, tw, th, tf), rfl, hw, ou, oua, ot, ota, by rw [ht]; exact hP9, va_K.moved hW.alike hK, hD9⟩, hS.F ht⟩) hS.2.2 dZQ_open_53
    · have hw := hw.1 c_7
      refine lv_iconst (v := (-1 : Int32)) hx hb dZQ_open_26 (by decide) ?_
      have hP9 := hP.sub (ws' := [(o0, .inr (5, [.ref op, .ref og, .ref oy, .ref ob, .ref os, .ref ot, .ref ou])), (op, .inr (1, [.int pw, .int ph, .ref opa])), (opa, .inl (cI, pn, .inl pf)), (og, .inr (1, [.int gw, .int gh, .ref oga])), (oga, .inl (cI, gn, .inl gf)), (oy, .inr (2, [.ref op, .int yk])), (ob, .inr (0, [.ref oba, .int bl])), (oba, .inl (cI, 256, .inl bf)), (os, .inr (3, [.ref op, .ref og, .ref osa, .ref osb, .int sd])), (osa, .inl (cI, kn, .inl kf)), (osb, .inl (cI, sn, .inl sf)), (ot, .inr (4, [.ref ota, .int tw, .int th])), (ota, .inl (cI, 64, .inl tf)), (ou, .inr (4, [.ref oua, .int tw_3, .int th_4])), (oua, .inl (cI, 64, .inl tf_5))]) [0, 1, 2, 3, 4, 5, 11, 12, 6, 7, 8, 9, 10, 13, 14] rfl
      have hD9 := hD.sub (ws' := [(o0, .inr (5, [.ref op, .ref og, .ref oy, .ref ob, .ref os, .ref ot, .ref ou])), (op, .inr (1, [.int pw, .int ph, .ref opa])), (opa, .inl (cI, pn, .inl pf)), (og, .inr (1, [.int gw, .int gh, .ref oga])), (oga, .inl (cI, gn, .inl gf)), (oy, .inr (2, [.ref op, .int yk])), (ob, .inr (0, [.ref oba, .int bl])), (oba, .inl (cI, 256, .inl bf)), (os, .inr (3, [.ref op, .ref og, .ref osa, .ref osb, .int sd])), (osa, .inl (cI, kn, .inl kf)), (osb, .inl (cI, sn, .inl sf)), (ot, .inr (4, [.ref ota, .int tw, .int th])), (ota, .inl (cI, 64, .inl tf)), (ou, .inr (4, [.ref oua, .int tw_3, .int th_4])), (oua, .inl (cI, 64, .inl tf_5))]) [0, 1, 2, 3, 4, 5, 11, 12, 6, 7, 8, 9, 10, 13, 14] (by decide) rfl
      subst hQ9
      exact W.iret (v := (-1 : Int32)) hx hb hr (fun t ht hW => ⟨⟨(-1 : Int32), (tw, th, tf, tw_3, th_4, tf_5), rfl, hw, ot, ota, ou, oua, by rw [ht]; exact hP9, va_K.moved hW.alike hK, hD9⟩, hS.F ht⟩) hS.2.2 dZQ_open_27
  · have hw := hw.1 c_2
    refine lv_iconst (v := (0 : Int32)) hx hb dZQ_open_10 (by decide) ?_
    have hP9 := hP.sub (ws' := [(o0, .inr (5, [.ref op, .ref og, .ref oy, .ref ob, .ref os, .ref ot, .ref ou])), (op, .inr (1, [.int pw, .int ph, .ref opa])), (opa, .inl (cI, pn, .inl pf)), (og, .inr (1, [.int gw, .int gh, .ref oga])), (oga, .inl (cI, gn, .inl gf)), (oy, .inr (2, [.ref op, .int yk])), (ob, .inr (0, [.ref oba, .int bl])), (oba, .inl (cI, 256, .inl bf)), (os, .inr (3, [.ref op, .ref og, .ref osa, .ref osb, .int sd])), (osa, .inl (cI, kn, .inl kf)), (osb, .inl (cI, sn, .inl sf)), (ot, .inr (4, [.ref ota, .int tw, .int th])), (ota, .inl (cI, 64, .inl tf)), (ou, .inr (4, [.ref oua, .int uw, .int uh])), (oua, .inl (cI, 64, .inl uf))]) [0, 1, 2, 3, 4, 5, 6, 7, 8, 9, 10, 11, 12, 13, 14] rfl
    have hD9 := hD.sub (ws' := [(o0, .inr (5, [.ref op, .ref og, .ref oy, .ref ob, .ref os, .ref ot, .ref ou])), (op, .inr (1, [.int pw, .int ph, .ref opa])), (opa, .inl (cI, pn, .inl pf)), (og, .inr (1, [.int gw, .int gh, .ref oga])), (oga, .inl (cI, gn, .inl gf)), (oy, .inr (2, [.ref op, .int yk])), (ob, .inr (0, [.ref oba, .int bl])), (oba, .inl (cI, 256, .inl bf)), (os, .inr (3, [.ref op, .ref og, .ref osa, .ref osb, .int sd])), (osa, .inl (cI, kn, .inl kf)), (osb, .inl (cI, sn, .inl sf)), (ot, .inr (4, [.ref ota, .int tw, .int th])), (ota, .inl (cI, 64, .inl tf)), (ou, .inr (4, [.ref oua, .int uw, .int uh])), (oua, .inl (cI, 64, .inl uf))]) [0, 1, 2, 3, 4, 5, 6, 7, 8, 9, 10, 11, 12, 13, 14] (by decide) rfl
    subst hQ9
    exact W.iret (v := (0 : Int32)) hx hb hr (fun t ht hW => ⟨⟨(0 : Int32), (tw, th, tf, uw, uh, uf), rfl, hw, ot, ota, ou, oua, by rw [ht]; exact hP9, va_K.moved hW.alike hK, hD9⟩, hS.F ht⟩) hS.2.2 dZQ_open_11
theorem dZQ_opened_0 : decode cZQ_opened 0 = .ok (.iload_n 1, 1) := by decide +kernel
theorem dZQ_opened_1 : decode cZQ_opened 1 = .ok (.aload_n 0, 1) := by decide +kernel
theorem dZQ_opened_2 : decode cZQ_opened 2 = .ok (.getfield 58, 3) := by decide +kernel
theorem dZQ_opened_5 : decode cZQ_opened 5 = .ok (.invokevirtual 188, 3) := by decide +kernel
theorem dZQ_opened_8 : decode cZQ_opened 8 = .ok (.invokestatic 97, 3) := by decide +kernel
theorem dZQ_opened_11 : decode cZQ_opened 11 = .ok (.invokestatic 73, 3) := by decide +kernel
theorem dZQ_opened_14 : decode cZQ_opened 14 = .ok (.aload_n 0, 1) := by decide +kernel
theorem dZQ_opened_15 : decode cZQ_opened 15 = .ok (.getfield 58, 3) := by decide +kernel
theorem dZQ_opened_18 : decode cZQ_opened 18 = .ok (.getfield 192, 3) := by decide +kernel
theorem dZQ_opened_21 : decode cZQ_opened 21 = .ok (.iload_n 1, 1) := by decide +kernel
theorem dZQ_opened_22 : decode cZQ_opened 22 = .ok (.iaload, 1) := by decide +kernel
theorem dZQ_opened_23 : decode cZQ_opened 23 = .ok (.ireturn, 1) := by decide +kernel
abbrev wsZQ_opened : List Cond := .code yZQ_opened cZQ_opened 2 (some .int) :: tbg
def wp_ZQ_opened (pw : Int32) (ph : Int32) (pn : Nat) (pf : Nat → Int32) (gw : Int32) (gh : Int32) (gn : Nat) (gf : Nat → Int32) (yk : Int32) (bl : Int32) (bf : Nat → Int32) (kn : Nat) (kf : Nat → Int32) (sn : Nat) (sf : Nat → Int32) (sd : Int32) (tw : Int32) (th : Int32) (tf : Nat → Int32) (uw : Int32) (uh : Int32) (uf : Nat → Int32) (a1 : Int32) (post : Int32 → Prop) : Prop := wp_ZT_sampleCount tw th tf (fun r_1 : Int32 => wp_ZQ_isWithin a1 r_1 (fun r_2 : Int32 => wp_ZQ_requirePlace r_2 (vp_in a1 64 ∧ (post (tf a1.toNatClampNeg)))))
abbrev rm_ZQ_opened : Room := { frames := 1, cells := 0, slots := 0, locals := 21 }
set_option maxHeartbeats 4000000 in
set_option maxRecDepth 100000 in
theorem kt_ZQ_opened (l : Launch) (dC : Nat → ClassId) (dI : Nat → Nat → Nat) (cI : ClassId) (o0 op opa og oga oy ob oba os osa osb ot ota ou oua : Nat) (pw : Int32) (ph : Int32) (pn : Nat) (pf : Nat → Int32) (gw : Int32) (gh : Int32) (gn : Nat) (gf : Nat → Int32) (yk : Int32) (bl : Int32) (bf : Nat → Int32) (kn : Nat) (kf : Nat → Int32) (sn : Nat) (sf : Nat → Int32) (sd : Int32) (tw : Int32) (th : Int32) (tf : Nat → Int32) (uw : Int32) (uh : Int32) (uf : Nat → Int32) (a1 : Int32) (post : Int32 → Prop) (hw : wp_ZQ_opened pw ph pn pf gw gh gn gf yk bl bf kn kf sn sf sd tw th tf uw uh uf a1 post) : Met l yZQ_opened wsZQ_opened rm_ZQ_opened (gr_Pc dC dI [(cI, .int)] [.ref o0, .int a1] [(o0, .inr (5, [.ref op, .ref og, .ref oy, .ref ob, .ref os, .ref ot, .ref ou])), (op, .inr (1, [.int pw, .int ph, .ref opa])), (opa, .inl (cI, pn, .inl pf)), (og, .inr (1, [.int gw, .int gh, .ref oga])), (oga, .inl (cI, gn, .inl gf)), (oy, .inr (2, [.ref op, .int yk])), (ob, .inr (0, [.ref oba, .int bl])), (oba, .inl (cI, 256, .inl bf)), (os, .inr (3, [.ref op, .ref og, .ref osa, .ref osb, .int sd])), (osa, .inl (cI, kn, .inl kf)), (osb, .inl (cI, sn, .inl sf)), (ot, .inr (4, [.ref ota, .int tw, .int th])), (ota, .inl (cI, 64, .inl tf)), (ou, .inr (4, [.ref oua, .int uw, .int uh])), (oua, .inl (cI, 64, .inl uf))]) (vp_Si post) 0 0 (fun _ => False) := by
  refine Met.ofW (cc := cZQ_opened) (maxL := 2) (ret := (some .int)) (by decide) rfl ?_
  intro p e s m args below meth c s₁ B hml hv
  obtain ⟨ha9, hP, hK, hE⟩ := hv
  have hx := B.exec
  have hb := B.bytes
  have hr := B.returns
  have hts0 := atoms_spec (ws := wsZQ_opened) B.pre
  have hts : ∀ w ∈ tbg, w.before args s = true := fun w h => hts0 w (List.mem_cons_of_mem _ h)
  have hown : s.vm.findClass RZQ = some m.cls := findClass_of_methodNamed B.named
  have hlocks := B.notSynchronized
  refine gx_Q (fun Q9 hQ9 => ?_)
  have hl := lv_entry ([.ref o0, .int a1]) (n := 2) (Nat.le_of_ble_eq_true rfl)
  have he9 : entryFrame m args 2 = F0 m 0 ((lg_sl [.ref o0, .int a1] ++ List.replicate (2 - (lg_sl ([.ref o0, .int a1] : List Value)).length) Slot.unset).toArray) [] := by rw [ha9]; exact lg_entry_eq m [.ref o0, .int a1] 2
  rw [he9]
  generalize (lg_sl ([.ref o0, .int a1] : List Value) ++ List.replicate (2 - (lg_sl ([.ref o0, .int a1] : List Value)).length) Slot.unset).toArray = ls at hl ⊢
  have hl : lv_has ls 2 [(0, .ref o0), (1, .int a1)] := hl
  refine lv_iload_n hx hb dZQ_opened_0 rfl (lv_at hl 1 rfl) ?_
  refine lv_aload_n hx hb dZQ_opened_1 rfl (lv_at hl 0 rfl) ?_
  refine va_get (D := (dC, dI)) (ci := 5) (v := .ref ot) (C := RZQ) (T := TZQ) (N := 7) hx hb hts inZQ hown hK hP 0 rfl rfl 5 (by decide) (hts _ mm_141) (fun _ h9 => h9) rfl dZQ_opened_2 ?_
  have hPc := hP.sub (ws' := [(ot, .inr (4, [.ref ota, .int tw, .int th])), (ota, .inl (cI, 64, .inl tf))]) [11, 12] rfl
  refine vp_callSi (va_runV (As := []) (rest := [.int a1]) ⟨hx, hb, hml, hown, hts⟩ (kt_ZT_sampleCount l dC dI cI ot ota tw th tf _ hw) (cwV 0 hts (tb_V mm_217 mm_218 mm_219 mm_7 mm_220) rfl rfl rfl (by decide +kernel) ⟨Nat.le_of_ble_eq_true rfl, Nat.le_of_ble_eq_true rfl⟩) ⟨gr_blind, va_recv hK hPc (ci := 4) (q0 := 0) rfl rfl, fun U hU hW => gr_pre hPc hK hE hU hW⟩ rfl rfl hl.1 rfl (lv_room (Nat.le_of_ble_eq_true rfl)) dZQ_opened_5 ⟨Nat.le_of_ble_eq_true rfl, Nat.le_of_ble_eq_true rfl⟩).run (fun r_1 hw => ?_)
  have hPc := hP.sub (ws' := []) [] rfl
  refine vp_callSi (va_runS (As := [.int a1, .int r_1]) (rest := []) ⟨hx, hb, hml, hown, hts⟩ (kt_ZQ_isWithin l dC dI cI  a1 r_1 _ hw) (va_cwS 2 hts (tb_S mm_236 mm_237 mm_1 mm_238) rfl rfl rfl (by decide +kernel) ⟨Nat.le_of_ble_eq_true rfl, Nat.le_of_ble_eq_true rfl⟩) ⟨gr_blind, fun U hU hW => gr_pre hPc hK hE hU hW⟩ rfl rfl hl.1 rfl (lv_room (Nat.le_of_ble_eq_true rfl)) dZQ_opened_8 ⟨Nat.le_of_ble_eq_true rfl, Nat.le_of_ble_eq_true rfl⟩).run (fun r_2 hw => ?_)
  have hPc := hP.sub (ws' := []) [] rfl
  refine va_csv (va_runS (As := [.int r_2]) (rest := []) ⟨hx, hb, hml, hown, hts⟩ (kt_ZQ_requirePlace l dC dI cI  r_2 _ hw) (va_cwS 1 hts (tb_S mm_239 mm_240 mm_1 mm_241) rfl rfl rfl (by decide +kernel) ⟨Nat.le_of_ble_eq_true rfl, Nat.le_of_ble_eq_true rfl⟩) ⟨gr_blind, fun U hU hW => gr_pre hPc hK hE hU hW⟩ rfl rfl hl.1 rfl (lv_room (Nat.le_of_ble_eq_true rfl)) dZQ_opened_11 ⟨Nat.le_of_ble_eq_true rfl, Nat.le_of_ble_eq_true rfl⟩).run (fun hw => ?_)
  refine lv_aload_n hx hb dZQ_opened_14 rfl (lv_at hl 0 rfl) ?_
  refine va_get (D := (dC, dI)) (ci := 5) (v := .ref ot) (C := RZQ) (T := TZQ) (N := 7) hx hb hts inZQ hown hK hP 0 rfl rfl 5 (by decide) (hts _ mm_141) (fun _ h9 => h9) rfl dZQ_opened_15 ?_
  refine va_get (D := (dC, dI)) (ci := 4) (v := .ref ota) (C := RZT) (T := TZT) (N := 3) hx hb hts inZT hown hK hP 11 rfl rfl 0 (by decide) (hts _ mm_118) (fun _ h9 => h9) rfl dZQ_opened_18 ?_
  refine lv_iload_n hx hb dZQ_opened_21 rfl (lv_at hl 1 rfl) ?_
  obtain ⟨h_4, hw⟩ := hw
  refine va_iald hx hb hK hP 12 0 rfl rfl h_4 dZQ_opened_22 ?_
  subst hQ9
  exact W.iret (v := tf a1.toNatClampNeg) hx hb hr (fun t ht hW => ⟨tf a1.toNatClampNeg, rfl, hw, ht⟩) (fun q h => nomatch h) dZQ_opened_23
def xp_ZQ_opened_I (pw : Int32) (ph : Int32) (pn : Nat) (pf : Nat → Int32) (gw : Int32) (gh : Int32) (gn : Nat) (gf : Nat → Int32) (yk : Int32) (bl : Int32) (bf : Nat → Int32) (kn : Nat) (kf : Nat → Int32) (sn : Nat) (sf : Nat → Int32) (sd : Int32) (tw : Int32) (th : Int32) (tf : Nat → Int32) (uw : Int32) (uh : Int32) (uf : Nat → Int32) (a1 : Int32) : Prop := wp_ZT_sampleCount tw th tf (fun r_1 : Int32 => wp_ZQ_isWithin a1 r_1 (fun r_2 : Int32 => (xp_ZQ_requirePlace_I r_2) ∨ (wp_ZQ_requirePlace r_2 (vp_in a1 64 ∧ (False)))))
abbrev rm_ZQ_opened_I : Room := { frames := 7, cells := 1, slots := 6, locals := 111 }
set_option maxHeartbeats 4000000 in
set_option maxRecDepth 100000 in
theorem kx_ZQ_opened_I (l : Launch) (hl9 : l.stackTraces = false) (dC : Nat → ClassId) (dI : Nat → Nat → Nat) (cI : ClassId) (o0 op opa og oga oy ob oba os osa osb ot ota ou oua : Nat) (H0 : Heap) (pw : Int32) (ph : Int32) (pn : Nat) (pf : Nat → Int32) (gw : Int32) (gh : Int32) (gn : Nat) (gf : Nat → Int32) (yk : Int32) (bl : Int32) (bf : Nat → Int32) (kn : Nat) (kf : Nat → Int32) (sn : Nat) (sf : Nat → Int32) (sd : Int32) (tw : Int32) (th : Int32) (tf : Nat → Int32) (uw : Int32) (uh : Int32) (uf : Nat → Int32) (a1 : Int32) (hw : xp_ZQ_opened_I pw ph pn pf gw gh gn gf yk bl bf kn kf sn sf sd tw th tf uw uh uf a1) : tx_Met l yZQ_opened wsZQ_opened rm_ZQ_opened_I (tr_Pc H0 dC dI [(cI, .int)] [.ref o0, .int a1] [(o0, .inr (5, [.ref op, .ref og, .ref oy, .ref ob, .ref os, .ref ot, .ref ou])), (op, .inr (1, [.int pw, .int ph, .ref opa])), (opa, .inl (cI, pn, .inl pf)), (og, .inr (1, [.int gw, .int gh, .ref oga])), (oga, .inl (cI, gn, .inl gf)), (oy, .inr (2, [.ref op, .int yk])), (ob, .inr (0, [.ref oba, .int bl])), (oba, .inl (cI, 256, .inl bf)), (os, .inr (3, [.ref op, .ref og, .ref osa, .ref osb, .int sd])), (osa, .inl (cI, kn, .inl kf)), (osb, .inl (cI, sn, .inl sf)), (ot, .inr (4, [.ref ota, .int tw, .int th])), (ota, .inl (cI, 64, .inl tf)), (ou, .inr (4, [.ref oua, .int uw, .int uh])), (oua, .inl (cI, 64, .inl uf))]) "java/lang/IndexOutOfBoundsException" := by
  refine tx_ofW (cc := cZQ_opened) (maxL := 2) (ret := (some .int)) (by decide) rfl ?_
  intro p e s m args below meth c s₁ B hml hnX hv
  obtain ⟨ha9, hP, hK, hE, hT⟩ := hv
  have hx := B.exec
  have hb := B.bytes
  have hr := B.returns
  have hts0 := atoms_spec (ws := wsZQ_opened) B.pre
  have hts : ∀ w ∈ tbg, w.before args s = true := fun w h => hts0 w (List.mem_cons_of_mem _ h)
  have hown : s.vm.findClass RZQ = some m.cls := findClass_of_methodNamed B.named
  have hlocks := B.notSynchronized
  refine gx_Q (fun Q9 hQ9 => ?_)
  have hl := lv_entry ([.ref o0, .int a1]) (n := 2) (Nat.le_of_ble_eq_true rfl)
  have he9 : entryFrame m args 2 = F0 m 0 ((lg_sl [.ref o0, .int a1] ++ List.replicate (2 - (lg_sl ([.ref o0, .int a1] : List Value)).length) Slot.unset).toArray) [] := by rw [ha9]; exact lg_entry_eq m [.ref o0, .int a1] 2
  rw [he9]
  generalize (lg_sl ([.ref o0, .int a1] : List Value) ++ List.replicate (2 - (lg_sl ([.ref o0, .int a1] : List Value)).length) Slot.unset).toArray = ls at hl ⊢
  have hl : lv_has ls 2 [(0, .ref o0), (1, .int a1)] := hl
  refine lv_iload_n hx hb dZQ_opened_0 rfl (lv_at hl 1 rfl) ?_
  refine lv_aload_n hx hb dZQ_opened_1 rfl (lv_at hl 0 rfl) ?_
  refine va_get (D := (dC, dI)) (ci := 5) (v := .ref ot) (C := RZQ) (T := TZQ) (N := 7) hx hb hts inZQ hown hK hP 0 rfl rfl 5 (by decide) (hts _ mm_141) (fun _ h9 => h9) rfl dZQ_opened_2 ?_
  have hPc := hP.sub (ws' := [(ot, .inr (4, [.ref ota, .int tw, .int th])), (ota, .inl (cI, 64, .inl tf))]) [11, 12] rfl
  refine vp_callSi (va_runV (As := []) (rest := [.int a1]) ⟨hx, hb, hml, hown, hts⟩ (kt_ZT_sampleCount l dC dI cI ot ota tw th tf _ hw) (cwV 0 hts (tb_V mm_217 mm_218 mm_219 mm_7 mm_220) rfl rfl rfl (by decide +kernel) ⟨Nat.le_of_ble_eq_true rfl, Nat.le_of_ble_eq_true rfl⟩) ⟨gr_blind, va_recv hK hPc (ci := 4) (q0 := 0) rfl rfl, fun U hU hW => gr_pre hPc hK hE hU hW⟩ rfl rfl hl.1 rfl (lv_room (Nat.le_of_ble_eq_true rfl)) dZQ_opened_5 ⟨Nat.le_of_ble_eq_true rfl, Nat.le_of_ble_eq_true rfl⟩).run (fun r_1 hw => ?_)
  have hPc := hP.sub (ws' := []) [] rfl
  refine vp_callSi (va_runS (As := [.int a1, .int r_1]) (rest := []) ⟨hx, hb, hml, hown, hts⟩ (kt_ZQ_isWithin l dC dI cI  a1 r_1 _ hw) (va_cwS 2 hts (tb_S mm_236 mm_237 mm_1 mm_238) rfl rfl rfl (by decide +kernel) ⟨Nat.le_of_ble_eq_true rfl, Nat.le_of_ble_eq_true rfl⟩) ⟨gr_blind, fun U hU hW => gr_pre hPc hK hE hU hW⟩ rfl rfl hl.1 rfl (lv_room (Nat.le_of_ble_eq_true rfl)) dZQ_opened_8 ⟨Nat.le_of_ble_eq_true rfl, Nat.le_of_ble_eq_true rfl⟩).run (fun r_2 hw => ?_)
  rcases hw with hw | hw
  · subst hQ9
    have hPx := hP.sub (ws' := []) [] rfl
    exact tx_callS (As := [.int r_2]) (rest := []) ⟨hx, hb, hml, hown, hts⟩ (kx_ZQ_requirePlace_I l hl9 dC dI cI  H0 r_2 hw) (va_cwS 1 hts (tb_S mm_239 mm_240 mm_1 mm_241) rfl rfl rfl (by decide +kernel) ⟨Nat.le_of_ble_eq_true rfl, Nat.le_of_ble_eq_true rfl⟩) ⟨tr_blind, fun U hU hW => tr_pre hPx hK hE hT hT.1 hU hW⟩ rfl hl.1 rfl (Nat.le_of_ble_eq_true rfl) dZQ_opened_11 hnX hlocks ⟨Nat.le_of_ble_eq_true rfl, Nat.le_of_ble_eq_true rfl⟩
  have hPc := hP.sub (ws' := []) [] rfl
  refine va_csv (va_runS (As := [.int r_2]) (rest := []) ⟨hx, hb, hml, hown, hts⟩ (kt_ZQ_requirePlace l dC dI cI  r_2 _ hw) (va_cwS 1 hts (tb_S mm_239 mm_240 mm_1 mm_241) rfl rfl rfl (by decide +kernel) ⟨Nat.le_of_ble_eq_true rfl, Nat.le_of_ble_eq_true rfl⟩) ⟨gr_blind, fun U hU hW => gr_pre hPc hK hE hU hW⟩ rfl rfl hl.1 rfl (lv_room (Nat.le_of_ble_eq_true rfl)) dZQ_opened_11 ⟨Nat.le_of_ble_eq_true rfl, Nat.le_of_ble_eq_true rfl⟩).run (fun hw => ?_)
  refine lv_aload_n hx hb dZQ_opened_14 rfl (lv_at hl 0 rfl) ?_
  refine va_get (D := (dC, dI)) (ci := 5) (v := .ref ot) (C := RZQ) (T := TZQ) (N := 7) hx hb hts inZQ hown hK hP 0 rfl rfl 5 (by decide) (hts _ mm_141) (fun _ h9 => h9) rfl dZQ_opened_15 ?_
  refine va_get (D := (dC, dI)) (ci := 4) (v := .ref ota) (C := RZT) (T := TZT) (N := 3) hx hb hts inZT hown hK hP 11 rfl rfl 0 (by decide) (hts _ mm_118) (fun _ h9 => h9) rfl dZQ_opened_18 ?_
  refine lv_iload_n hx hb dZQ_opened_21 rfl (lv_at hl 1 rfl) ?_
  obtain ⟨h_4, hw⟩ := hw
  refine va_iald hx hb hK hP 12 0 rfl rfl h_4 dZQ_opened_22 ?_
  exact False.elim hw
theorem dZQ_restore_0 : decode cZQ_restore 0 = .ok (.aload_n 0, 1) := by decide +kernel
theorem dZQ_restore_1 : decode cZQ_restore 1 = .ok (.getfield 35, 3) := by decide +kernel
theorem dZQ_restore_4 : decode cZQ_restore 4 = .ok (.iconst 0, 1) := by decide +kernel
theorem dZQ_restore_5 : decode cZQ_restore 5 = .ok (.iload_n 1, 1) := by decide +kernel
theorem dZQ_restore_6 : decode cZQ_restore 6 = .ok (.iload_n 2, 1) := by decide +kernel
theorem dZQ_restore_7 : decode cZQ_restore 7 = .ok (.invokevirtual 137, 3) := by decide +kernel
theorem dZQ_restore_10 : decode cZQ_restore 10 = .ok (.invokestatic 73, 3) := by decide +kernel
theorem dZQ_restore_13 : decode cZQ_restore 13 = .ok (.aload_n 0, 1) := by decide +kernel
theorem dZQ_restore_14 : decode cZQ_restore 14 = .ok (.getfield 58, 3) := by decide +kernel
theorem dZQ_restore_17 : decode cZQ_restore 17 = .ok (.invokevirtual 188, 3) := by decide +kernel
theorem dZQ_restore_20 : decode cZQ_restore 20 = .ok (.ifCond .ne 13, 3) := by decide +kernel
theorem dZQ_restore_23 : decode cZQ_restore 23 = .ok (.new 157, 3) := by decide +kernel
theorem dZQ_restore_26 : decode cZQ_restore 26 = .ok (.dup, 1) := by decide +kernel
theorem dZQ_restore_27 : decode cZQ_restore 27 = .ok (.ldc 195, 2) := by decide +kernel
theorem dZQ_restore_29 : decode cZQ_restore 29 = .ok (.invokespecial 161, 3) := by decide +kernel
theorem dZQ_restore_32 : decode cZQ_restore 32 = .ok (.athrow, 1) := by decide +kernel
theorem dZQ_restore_33 : decode cZQ_restore 33 = .ok (.aload_n 0, 1) := by decide +kernel
theorem dZQ_restore_34 : decode cZQ_restore 34 = .ok (.getfield 58, 3) := by decide +kernel
theorem dZQ_restore_37 : decode cZQ_restore 37 = .ok (.getfield 197, 3) := by decide +kernel
theorem dZQ_restore_40 : decode cZQ_restore 40 = .ok (.aload_n 0, 1) := by decide +kernel
theorem dZQ_restore_41 : decode cZQ_restore 41 = .ok (.getfield 35, 3) := by decide +kernel
theorem dZQ_restore_44 : decode cZQ_restore 44 = .ok (.iconst 0, 1) := by decide +kernel
theorem dZQ_restore_45 : decode cZQ_restore 45 = .ok (.iload_n 1, 1) := by decide +kernel
theorem dZQ_restore_46 : decode cZQ_restore 46 = .ok (.invokevirtual 198, 3) := by decide +kernel
theorem dZQ_restore_49 : decode cZQ_restore 49 = .ok (.if_icmp .ne 26, 3) := by decide +kernel
theorem dZQ_restore_52 : decode cZQ_restore 52 = .ok (.aload_n 0, 1) := by decide +kernel
theorem dZQ_restore_53 : decode cZQ_restore 53 = .ok (.getfield 58, 3) := by decide +kernel
theorem dZQ_restore_56 : decode cZQ_restore 56 = .ok (.getfield 201, 3) := by decide +kernel
theorem dZQ_restore_59 : decode cZQ_restore 59 = .ok (.aload_n 0, 1) := by decide +kernel
theorem dZQ_restore_60 : decode cZQ_restore 60 = .ok (.getfield 35, 3) := by decide +kernel
theorem dZQ_restore_63 : decode cZQ_restore 63 = .ok (.iconst 0, 1) := by decide +kernel
theorem dZQ_restore_64 : decode cZQ_restore 64 = .ok (.iload_n 2, 1) := by decide +kernel
theorem dZQ_restore_65 : decode cZQ_restore 65 = .ok (.invokevirtual 202, 3) := by decide +kernel
theorem dZQ_restore_68 : decode cZQ_restore 68 = .ok (.if_icmp .ne 7, 3) := by decide +kernel
theorem dZQ_restore_71 : decode cZQ_restore 71 = .ok (.iconst 1, 1) := by decide +kernel
theorem dZQ_restore_72 : decode cZQ_restore 72 = .ok (.goto 4, 3) := by decide +kernel
theorem dZQ_restore_75 : decode cZQ_restore 75 = .ok (.iconst 0, 1) := by decide +kernel
theorem dZQ_restore_76 : decode cZQ_restore 76 = .ok (.istore_n 3, 1) := by decide +kernel
theorem dZQ_restore_77 : decode cZQ_restore 77 = .ok (.iload_n 3, 1) := by decide +kernel
theorem dZQ_restore_78 : decode cZQ_restore 78 = .ok (.ifCond .eq 16, 3) := by decide +kernel
theorem dZQ_restore_81 : decode cZQ_restore 81 = .ok (.aload_n 0, 1) := by decide +kernel
theorem dZQ_restore_82 : decode cZQ_restore 82 = .ok (.getfield 35, 3) := by decide +kernel
theorem dZQ_restore_85 : decode cZQ_restore 85 = .ok (.iload_n 1, 1) := by decide +kernel
theorem dZQ_restore_86 : decode cZQ_restore 86 = .ok (.iload_n 2, 1) := by decide +kernel
theorem dZQ_restore_87 : decode cZQ_restore 87 = .ok (.aload_n 0, 1) := by decide +kernel
theorem dZQ_restore_88 : decode cZQ_restore 88 = .ok (.getfield 58, 3) := by decide +kernel
theorem dZQ_restore_91 : decode cZQ_restore 91 = .ok (.invokevirtual 205, 3) := by decide +kernel
theorem dZQ_restore_94 : decode cZQ_restore 94 = .ok (.iload_n 3, 1) := by decide +kernel
theorem dZQ_restore_95 : decode cZQ_restore 95 = .ok (.ireturn, 1) := by decide +kernel
abbrev wsZQ_restore : List Cond := .code yZQ_restore cZQ_restore 4 (some .boolean) :: tbg
def wp_ZQ_restore (pw : Int32) (ph : Int32) (pn : Nat) (pf : Nat → Int32) (gw : Int32) (gh : Int32) (gn : Nat) (gf : Nat → Int32) (yk : Int32) (bl : Int32) (bf : Nat → Int32) (kn : Nat) (kf : Nat → Int32) (sn : Nat) (sf : Nat → Int32) (sd : Int32) (tw : Int32) (th : Int32) (tf : Nat → Int32) (uw : Int32) (uh : Int32) (uf : Nat → Int32) (a1 : Int32) (a2 : Int32) (post : Int32 → (Nat → Int32) → Prop) : Prop := wp_ZY_hasTile yk pw ph pn pf (0 : Int32) a1 a2 (fun r_1 : Int32 => wp_ZQ_requirePlace r_1 (wp_ZT_sampleCount tw th tf (fun r_3 : Int32 => ((r_3 = (0 : Int32) → False) ∧ (¬ r_3 = (0 : Int32) → (wp_ZY_tileColumns yk pw ph pn pf (0 : Int32) a1 (fun r_5 : Int32 => ∃ J76 : Int32 → Prop, (∀ (t0_j76 : Int32), J76 t0_j76 → ((t0_j76 = (0 : Int32) → (narrow .boolean (.int t0_j76) = .int t0_j76 ∧ (post t0_j76 pf))) ∧ (¬ t0_j76 = (0 : Int32) → (wp_ZY_layTile yk pw ph pn pf tw th tf a1 a2 (fun (pf_8 : Nat → Int32) => narrow .boolean (.int t0_j76) = .int t0_j76 ∧ (post t0_j76 pf_8)))))) ∧ (((tw = r_5 → (wp_ZY_tileRows yk pw ph pn pf (0 : Int32) a2 (fun r_11 : Int32 => ((th = r_11 → (J76 (1 : Int32))) ∧ (¬ th = r_11 → (J76 (0 : Int32))))))) ∧ (¬ tw = r_5 → (J76 (0 : Int32))))))))))))
abbrev rm_ZQ_restore : Room := { frames := 3, cells := 0, slots := 0, locals := 65 }
set_option maxHeartbeats 4000000 in
set_option maxRecDepth 100000 in
theorem kt_ZQ_restore (l : Launch) (dC : Nat → ClassId) (dI : Nat → Nat → Nat) (cI : ClassId) (o0 op opa og oga oy ob oba os osa osb ot ota ou oua : Nat) (sz : Nat) (pw : Int32) (ph : Int32) (pn : Nat) (pf : Nat → Int32) (gw : Int32) (gh : Int32) (gn : Nat) (gf : Nat → Int32) (yk : Int32) (bl : Int32) (bf : Nat → Int32) (kn : Nat) (kf : Nat → Int32) (sn : Nat) (sf : Nat → Int32) (sd : Int32) (tw : Int32) (th : Int32) (tf : Nat → Int32) (uw : Int32) (uh : Int32) (uf : Nat → Int32) (a1 : Int32) (a2 : Int32) (post : Int32 → (Nat → Int32) → Prop) (hw : wp_ZQ_restore pw ph pn pf gw gh gn gf yk bl bf kn kf sn sf sd tw th tf uw uh uf a1 a2 post) : Met l yZQ_restore wsZQ_restore rm_ZQ_restore (gw_Pc dC dI [(cI, .int)] [.ref o0, .int a1, .int a2] [(o0, .inr (5, [.ref op, .ref og, .ref oy, .ref ob, .ref os, .ref ot, .ref ou])), (op, .inr (1, [.int pw, .int ph, .ref opa])), (opa, .inl (cI, pn, .inl pf)), (og, .inr (1, [.int gw, .int gh, .ref oga])), (oga, .inl (cI, gn, .inl gf)), (oy, .inr (2, [.ref op, .int yk])), (ob, .inr (0, [.ref oba, .int bl])), (oba, .inl (cI, 256, .inl bf)), (os, .inr (3, [.ref op, .ref og, .ref osa, .ref osb, .int sd])), (osa, .inl (cI, kn, .inl kf)), (osb, .inl (cI, sn, .inl sf)), (ot, .inr (4, [.ref ota, .int tw, .int th])), (ota, .inl (cI, 64, .inl tf)), (ou, .inr (4, [.ref oua, .int uw, .int uh])), (oua, .inl (cI, 64, .inl uf))] sz) (va_Qi (fun (r : Int32) (u : (Nat → Int32)) => post r u) (fun u t => gw_B dC dI [(cI, .int)] (va_A [(o0, .inr (5, [.ref op, .ref og, .ref oy, .ref ob, .ref os, .ref ot, .ref ou])), (op, .inr (1, [.int pw, .int ph, .ref opa])), (opa, .inl (cI, pn, .inl pf)), (og, .inr (1, [.int gw, .int gh, .ref oga])), (oga, .inl (cI, gn, .inl gf)), (oy, .inr (2, [.ref op, .int yk])), (ob, .inr (0, [.ref oba, .int bl])), (oba, .inl (cI, 256, .inl bf)), (os, .inr (3, [.ref op, .ref og, .ref osa, .ref osb, .int sd])), (osa, .inl (cI, kn, .inl kf)), (osb, .inl (cI, sn, .inl sf)), (ot, .inr (4, [.ref ota, .int tw, .int th])), (ota, .inl (cI, 64, .inl tf)), (ou, .inr (4, [.ref oua, .int uw, .int uh])), (oua, .inl (cI, 64, .inl uf))] sz) [(o0, .inr (5, [.ref op, .ref og, .ref oy, .ref ob, .ref os, .ref ot, .ref ou])), (op, .inr (1, [.int pw, .int ph, .ref opa])), (opa, .inl (cI, pn, .inl u)), (og, .inr (1, [.int gw, .int gh, .ref oga])), (oga, .inl (cI, gn, .inl gf)), (oy, .inr (2, [.ref op, .int yk])), (ob, .inr (0, [.ref oba, .int bl])), (oba, .inl (cI, 256, .inl bf)), (os, .inr (3, [.ref op, .ref og, .ref osa, .ref osb, .int sd])), (osa, .inl (cI, kn, .inl kf)), (osb, .inl (cI, sn, .inl sf)), (ot, .inr (4, [.ref ota, .int tw, .int th])), (ota, .inl (cI, 64, .inl tf)), (ou, .inr (4, [.ref oua, .int uw, .int uh])), (oua, .inl (cI, 64, .inl uf))] t) (va_A [(o0, .inr (5, [.ref op, .ref og, .ref oy, .ref ob, .ref os, .ref ot, .ref ou])), (op, .inr (1, [.int pw, .int ph, .ref opa])), (opa, .inl (cI, pn, .inl pf)), (og, .inr (1, [.int gw, .int gh, .ref oga])), (oga, .inl (cI, gn, .inl gf)), (oy, .inr (2, [.ref op, .int yk])), (ob, .inr (0, [.ref oba, .int bl])), (oba, .inl (cI, 256, .inl bf)), (os, .inr (3, [.ref op, .ref og, .ref osa, .ref osb, .int sd])), (osa, .inl (cI, kn, .inl kf)), (osb, .inl (cI, sn, .inl sf)), (ot, .inr (4, [.ref ota, .int tw, .int th])), (ota, .inl (cI, 64, .inl tf)), (ou, .inr (4, [.ref oua, .int uw, .int uh])), (oua, .inl (cI, 64, .inl uf))] sz)) 0 0 (va_A [(o0, .inr (5, [.ref op, .ref og, .ref oy, .ref ob, .ref os, .ref ot, .ref ou])), (op, .inr (1, [.int pw, .int ph, .ref opa])), (opa, .inl (cI, pn, .inl pf)), (og, .inr (1, [.int gw, .int gh, .ref oga])), (oga, .inl (cI, gn, .inl gf)), (oy, .inr (2, [.ref op, .int yk])), (ob, .inr (0, [.ref oba, .int bl])), (oba, .inl (cI, 256, .inl bf)), (os, .inr (3, [.ref op, .ref og, .ref osa, .ref osb, .int sd])), (osa, .inl (cI, kn, .inl kf)), (osb, .inl (cI, sn, .inl sf)), (ot, .inr (4, [.ref ota, .int tw, .int th])), (ota, .inl (cI, 64, .inl tf)), (ou, .inr (4, [.ref oua, .int uw, .int uh])), (oua, .inl (cI, 64, .inl uf))] sz) := by
  refine Met.ofW (cc := cZQ_restore) (maxL := 4) (ret := (some .boolean)) (by decide) rfl ?_
  intro p e s m args below meth c s₁ B hml hv
  obtain ⟨ha9, hsz, hP, hK, hE, hD0⟩ := hv
  have hx := B.exec
  have hb := B.bytes
  have hr := B.returns
  have hts0 := atoms_spec (ws := wsZQ_restore) B.pre
  have hts : ∀ w ∈ tbg, w.before args s = true := fun w h => hts0 w (List.mem_cons_of_mem _ h)
  have hown : s.vm.findClass RZQ = some m.cls := findClass_of_methodNamed B.named
  have hlocks := B.notSynchronized
  subst hsz
  have hD := hD0.self (sz := s.heap.size)
  refine gx_Q (fun Q9 hQ9 => ?_)
  generalize hAe : va_A [(o0, .inr (5, [.ref op, .ref og, .ref oy, .ref ob, .ref os, .ref ot, .ref ou])), (op, .inr (1, [.int pw, .int ph, .ref opa])), (opa, .inl (cI, pn, .inl pf)), (og, .inr (1, [.int gw, .int gh, .ref oga])), (oga, .inl (cI, gn, .inl gf)), (oy, .inr (2, [.ref op, .int yk])), (ob, .inr (0, [.ref oba, .int bl])), (oba, .inl (cI, 256, .inl bf)), (os, .inr (3, [.ref op, .ref og, .ref osa, .ref osb, .int sd])), (osa, .inl (cI, kn, .inl kf)), (osb, .inl (cI, sn, .inl sf)), (ot, .inr (4, [.ref ota, .int tw, .int th])), (ota, .inl (cI, 64, .inl tf)), (ou, .inr (4, [.ref oua, .int uw, .int uh])), (oua, .inl (cI, 64, .inl uf))] s.heap.size = A at hD hQ9 ⊢
  have hA : ∀ q : Nat, s.heap.size ≤ q → A q := fun q h => by rw [← hAe]; exact Or.inr h
  have hS : va_S A s.heap s.heap [] := va_S.rf
  have hl := lv_entry ([.ref o0, .int a1, .int a2]) (n := 4) (Nat.le_of_ble_eq_true rfl)
  have he9 : entryFrame m args 4 = F0 m 0 ((lg_sl [.ref o0, .int a1, .int a2] ++ List.replicate (4 - (lg_sl ([.ref o0, .int a1, .int a2] : List Value)).length) Slot.unset).toArray) [] := by rw [ha9]; exact lg_entry_eq m [.ref o0, .int a1, .int a2] 4
  rw [he9]
  generalize (lg_sl ([.ref o0, .int a1, .int a2] : List Value) ++ List.replicate (4 - (lg_sl ([.ref o0, .int a1, .int a2] : List Value)).length) Slot.unset).toArray = ls at hl ⊢
  have hl : lv_has ls 4 [(0, .ref o0), (1, .int a1), (2, .int a2)] := hl
  refine lv_aload_n hx hb dZQ_restore_0 rfl (lv_at hl 0 rfl) ?_
  refine va_get (D := (dC, dI)) (ci := 5) (v := .ref oy) (C := RZQ) (T := TZQ) (N := 7) hx hb hts inZQ hown hK hP 0 rfl rfl 2 (by decide) (hts _ mm_138) (fun _ h9 => h9) rfl dZQ_restore_1 ?_
  refine lv_iconst (v := (0 : Int32)) hx hb dZQ_restore_4 (by decide) ?_
  refine lv_iload_n hx hb dZQ_restore_5 rfl (lv_at hl 1 rfl) ?_
  refine lv_iload_n hx hb dZQ_restore_6 rfl (lv_at hl 2 rfl) ?_
  have hPc := hP.sub (ws' := [(oy, .inr (2, [.ref op, .int yk])), (op, .inr (1, [.int pw, .int ph, .ref opa])), (opa, .inl (cI, pn, .inl pf))]) [5, 1, 2] rfl
  refine vp_callSi (va_runV (As := [.int (0 : Int32), .int a1, .int a2]) (rest := []) ⟨hx, hb, hml, hown, hts⟩ (kt_ZY_hasTile l dC dI cI oy op opa yk pw ph pn pf (0 : Int32) a1 a2 _ hw) (cwV 3 hts (tb_V mm_456 mm_457 mm_458 mm_4 mm_459) rfl rfl rfl (by decide +kernel) ⟨Nat.le_of_ble_eq_true rfl, Nat.le_of_ble_eq_true rfl⟩) ⟨gr_blind, va_recv hK hPc (ci := 2) (q0 := 0) rfl rfl, fun U hU hW => gr_pre hPc hK hE hU hW⟩ rfl rfl hl.1 rfl (lv_room (Nat.le_of_ble_eq_true rfl)) dZQ_restore_7 ⟨Nat.le_of_ble_eq_true rfl, Nat.le_of_ble_eq_true rfl⟩).run (fun r_1 hw => ?_)
  have hPc := hP.sub (ws' := []) [] rfl
  refine va_csv (va_runS (As := [.int r_1]) (rest := []) ⟨hx, hb, hml, hown, hts⟩ (kt_ZQ_requirePlace l dC dI cI  r_1 _ hw) (va_cwS 1 hts (tb_S mm_239 mm_240 mm_1 mm_241) rfl rfl rfl (by decide +kernel) ⟨Nat.le_of_ble_eq_true rfl, Nat.le_of_ble_eq_true rfl⟩) ⟨gr_blind, fun U hU hW => gr_pre hPc hK hE hU hW⟩ rfl rfl hl.1 rfl (lv_room (Nat.le_of_ble_eq_true rfl)) dZQ_restore_10 ⟨Nat.le_of_ble_eq_true rfl, Nat.le_of_ble_eq_true rfl⟩).run (fun hw => ?_)
  refine lv_aload_n hx hb dZQ_restore_13 rfl (lv_at hl 0 rfl) ?_
  refine va_get (D := (dC, dI)) (ci := 5) (v := .ref ot) (C := RZQ) (T := TZQ) (N := 7) hx hb hts inZQ hown hK hP 0 rfl rfl 5 (by decide) (hts _ mm_141) (fun _ h9 => h9) rfl dZQ_restore_14 ?_
  have hPc := hP.sub (ws' := [(ot, .inr (4, [.ref ota, .int tw, .int th])), (ota, .inl (cI, 64, .inl tf))]) [11, 12] rfl
  refine vp_callSi (va_runV (As := []) (rest := []) ⟨hx, hb, hml, hown, hts⟩ (kt_ZT_sampleCount l dC dI cI ot ota tw th tf _ hw) (cwV 0 hts (tb_V mm_217 mm_218 mm_219 mm_7 mm_220) rfl rfl rfl (by decide +kernel) ⟨Nat.le_of_ble_eq_true rfl, Nat.le_of_ble_eq_true rfl⟩) ⟨gr_blind, va_recv hK hPc (ci := 4) (q0 := 0) rfl rfl, fun U hU hW => gr_pre hPc hK hE hU hW⟩ rfl rfl hl.1 rfl (lv_room (Nat.le_of_ble_eq_true rfl)) dZQ_restore_17 ⟨Nat.le_of_ble_eq_true rfl, Nat.le_of_ble_eq_true rfl⟩).run (fun r_3 hw => ?_)
  refine lv_if_ne (tgt := 33) hx hb dZQ_restore_20 (by decide) (fun c_4 => ?_) (fun c_4 => ?_)
  · have hw := hw.2 c_4
    refine lv_aload_n hx hb dZQ_restore_33 rfl (lv_at hl 0 rfl) ?_
    refine va_get (D := (dC, dI)) (ci := 5) (v := .ref ot) (C := RZQ) (T := TZQ) (N := 7) hx hb hts inZQ hown hK hP 0 rfl rfl 5 (by decide) (hts _ mm_141) (fun _ h9 => h9) rfl dZQ_restore_34 ?_
    refine va_get (D := (dC, dI)) (ci := 4) (v := .int tw) (C := RZT) (T := TZT) (N := 3) hx hb hts inZT hown hK hP 11 rfl rfl 1 (by decide) (hts _ mm_123) (fun _ h9 => h9) rfl dZQ_restore_37 ?_
    refine lv_aload_n hx hb dZQ_restore_40 rfl (lv_at hl 0 rfl) ?_
    refine va_get (D := (dC, dI)) (ci := 5) (v := .ref oy) (C := RZQ) (T := TZQ) (N := 7) hx hb hts inZQ hown hK hP 0 rfl rfl 2 (by decide) (hts _ mm_138) (fun _ h9 => h9) rfl dZQ_restore_41 ?_
    refine lv_iconst (v := (0 : Int32)) hx hb dZQ_restore_44 (by decide) ?_
    refine lv_iload_n hx hb dZQ_restore_45 rfl (lv_at hl 1 rfl) ?_
    have hPc := hP.sub (ws' := [(oy, .inr (2, [.ref op, .int yk])), (op, .inr (1, [.int pw, .int ph, .ref opa])), (opa, .inl (cI, pn, .inl pf))]) [5, 1, 2] rfl
    refine vp_callSi (va_runV (As := [.int (0 : Int32), .int a1]) (rest := [.int tw]) ⟨hx, hb, hml, hown, hts⟩ (kt_ZY_tileColumns l dC dI cI oy op opa yk pw ph pn pf (0 : Int32) a1 _ hw) (cwV 2 hts (tb_V mm_560 mm_468 mm_469 mm_4 mm_470) rfl rfl rfl (by decide +kernel) ⟨Nat.le_of_ble_eq_true rfl, Nat.le_of_ble_eq_true rfl⟩) ⟨gr_blind, va_recv hK hPc (ci := 2) (q0 := 0) rfl rfl, fun U hU hW => gr_pre hPc hK hE hU hW⟩ rfl rfl hl.1 rfl (lv_room (Nat.le_of_ble_eq_true rfl)) dZQ_restore_46 ⟨Nat.le_of_ble_eq_true rfl, Nat.le_of_ble_eq_true rfl⟩).run (fun r_5 hw => ?_)
    obtain ⟨J76, hJ76, hw⟩ := hw
    have j76 : ∀ (t0_j76 : Int32), J76 t0_j76 → ∀ (H : Heap) (locs : List Loc), va_P (dC, dI) vwCl [(o0, .inr (5, [.ref op, .ref og, .ref oy, .ref ob, .ref os, .ref ot, .ref ou])), (op, .inr (1, [.int pw, .int ph, .ref opa])), (opa, .inl (cI, pn, .inl pf)), (og, .inr (1, [.int gw, .int gh, .ref oga])), (oga, .inl (cI, gn, .inl gf)), (oy, .inr (2, [.ref op, .int yk])), (ob, .inr (0, [.ref oba, .int bl])), (oba, .inl (cI, 256, .inl bf)), (os, .inr (3, [.ref op, .ref og, .ref osa, .ref osb, .int sd])), (osa, .inl (cI, kn, .inl kf)), (osb, .inl (cI, sn, .inl sf)), (ot, .inr (4, [.ref ota, .int tw, .int th])), (ota, .inl (cI, 64, .inl tf)), (ou, .inr (4, [.ref oua, .int uw, .int uh])), (oua, .inl (cI, 64, .inl uf))] H → va_D A [(o0, .inr (5, [.ref op, .ref og, .ref oy, .ref ob, .ref os, .ref ot, .ref ou])), (op, .inr (1, [.int pw, .int ph, .ref opa])), (opa, .inl (cI, pn, .inl pf)), (og, .inr (1, [.int gw, .int gh, .ref oga])), (oga, .inl (cI, gn, .inl gf)), (oy, .inr (2, [.ref op, .int yk])), (ob, .inr (0, [.ref oba, .int bl])), (oba, .inl (cI, 256, .inl bf)), (os, .inr (3, [.ref op, .ref og, .ref osa, .ref osb, .int sd])), (osa, .inl (cI, kn, .inl kf)), (osb, .inl (cI, sn, .inl sf)), (ot, .inr (4, [.ref ota, .int tw, .int th])), (ota, .inl (cI, 64, .inl tf)), (ou, .inr (4, [.ref oua, .int uw, .int uh])), (oua, .inl (cI, 64, .inl uf))] → va_S A s.heap H locs → ∀ ls : Array Slot, lv_has ls 4 [(0, .ref o0), (1, .int a1), (2, .int a2)] → W p l e (headSpec wsZQ_restore rm_ZQ_restore).room s m args below meth c H locs 0 0 Q9 (F0 m 76 ls [.int t0_j76]) := by
      intro t0_j76 hw H locs hP hD hS ls hl
      have hw := hJ76 t0_j76 hw
      refine lv_istore_n (lv' := [(3, .int t0_j76), (0, .ref o0), (1, .int a1), (2, .int a2)]) hx hb dZQ_restore_76 rfl hl (by decide) rfl (fun ls hl => ?_)
      refine lv_iload_n hx hb dZQ_restore_77 rfl (lv_at hl 0 rfl) ?_
      refine lv_if_eq (tgt := 94) hx hb dZQ_restore_78 (by decide) (fun c_6 => ?_) (fun c_6 => ?_)
      · have hw := hw.1 c_6
        refine lv_iload_n hx hb dZQ_restore_94 rfl (lv_at hl 0 rfl) ?_
        obtain ⟨h_7, hw⟩ := hw
        have hP9 := hP.sub (ws' := [(o0, .inr (5, [.ref op, .ref og, .ref oy, .ref ob, .ref os, .ref ot, .ref ou])), (op, .inr (1, [.int pw, .int ph, .ref opa])), (opa, .inl (cI, pn, .inl pf)), (og, .inr (1, [.int gw, .int gh, .ref oga])), (oga, .inl (cI, gn, .inl gf)), (oy, .inr (2, [.ref op, .int yk])), (ob, .inr (0, [.ref oba, .int bl])), (oba, .inl (cI, 256, .inl bf)), (os, .inr (3, [.ref op, .ref og, .ref osa, .ref osb, .int sd])), (osa, .inl (cI, kn, .inl kf)), (osb, .inl (cI, sn, .inl sf)), (ot, .inr (4, [.ref ota, .int tw, .int th])), (ota, .inl (cI, 64, .inl tf)), (ou, .inr (4, [.ref oua, .int uw, .int uh])), (oua, .inl (cI, 64, .inl uf))]) [0, 1, 2, 3, 4, 5, 6, 7, 8, 9, 10, 11, 12, 13, 14] rfl
        have hD9 := hD.sub (ws' := [(o0, .inr (5, [.ref op, .ref og, .ref oy, .ref ob, .ref os, .ref ot, .ref ou])), (op, .inr (1, [.int pw, .int ph, .ref opa])), (opa, .inl (cI, pn, .inl pf)), (og, .inr (1, [.int gw, .int gh, .ref oga])), (oga, .inl (cI, gn, .inl gf)), (oy, .inr (2, [.ref op, .int yk])), (ob, .inr (0, [.ref oba, .int bl])), (oba, .inl (cI, 256, .inl bf)), (os, .inr (3, [.ref op, .ref og, .ref osa, .ref osb, .int sd])), (osa, .inl (cI, kn, .inl kf)), (osb, .inl (cI, sn, .inl sf)), (ot, .inr (4, [.ref ota, .int tw, .int th])), (ota, .inl (cI, 64, .inl tf)), (ou, .inr (4, [.ref oua, .int uw, .int uh])), (oua, .inl (cI, 64, .inl uf))]) [0, 1, 2, 3, 4, 5, 6, 7, 8, 9, 10, 11, 12, 13, 14] (by decide) rfl
        subst hQ9
        exact W.zret (v := t0_j76) (ty := .boolean) hx hb hr h_7 (fun t ht hW => ⟨⟨t0_j76, pf, rfl, hw, by rw [ht]; exact hP9, va_K.moved hW.alike hK, hD9⟩, hS.F ht⟩) hS.2.2 dZQ_restore_95
      · have hw := hw.2 c_6
        refine lv_aload_n hx hb dZQ_restore_81 rfl (lv_at hl 1 rfl) ?_
        refine va_get (D := (dC, dI)) (ci := 5) (v := .ref oy) (C := RZQ) (T := TZQ) (N := 7) hx hb hts inZQ hown hK hP 0 rfl rfl 2 (by decide) (hts _ mm_138) (fun _ h9 => h9) rfl dZQ_restore_82 ?_
        refine lv_iload_n hx hb dZQ_restore_85 rfl (lv_at hl 2 rfl) ?_
        refine lv_iload_n hx hb dZQ_restore_86 rfl (lv_at hl 3 rfl) ?_
        refine lv_aload_n hx hb dZQ_restore_87 rfl (lv_at hl 1 rfl) ?_
        refine va_get (D := (dC, dI)) (ci := 5) (v := .ref ot) (C := RZQ) (T := TZQ) (N := 7) hx hb hts inZQ hown hK hP 0 rfl rfl 5 (by decide) (hts _ mm_141) (fun _ h9 => h9) rfl dZQ_restore_88 ?_
        have hPc := hP.sub (ws' := [(oy, .inr (2, [.ref op, .int yk])), (op, .inr (1, [.int pw, .int ph, .ref opa])), (opa, .inl (cI, pn, .inl pf)), (ot, .inr (4, [.ref ota, .int tw, .int th])), (ota, .inl (cI, 64, .inl tf))]) [5, 1, 2, 11, 12] rfl
        have hDc := hD.sub (ws' := [(oy, .inr (2, [.ref op, .int yk])), (op, .inr (1, [.int pw, .int ph, .ref opa])), (opa, .inl (cI, pn, .inl pf)), (ot, .inr (4, [.ref ota, .int tw, .int th])), (ota, .inl (cI, 64, .inl tf))]) [5, 1, 2, 11, 12] (by decide) rfl
        have hFc := va_free (wc := [(oy, .inr (2, [.ref op, .int yk])), (op, .inr (1, [.int pw, .int ph, .ref opa])), (opa, .inl (cI, pn, .inl pf)), (ot, .inr (4, [.ref ota, .int tw, .int th])), (ota, .inl (cI, 64, .inl tf))]) hD hS hA [5, 1, 2, 11, 12] rfl
        refine va_callv (va_runV (As := [.int a1, .int a2, .ref ot]) (rest := []) ⟨hx, hb, hml, hown, hts⟩ (kt_ZY_layTile l dC dI cI oy op opa ot ota _ yk pw ph pn pf tw th tf a1 a2 _ hw) (cwV 3 hts (tb_V mm_562 mm_563 mm_564 mm_4 mm_565) rfl rfl rfl (by decide +kernel) ⟨Nat.le_of_ble_eq_true rfl, Nat.le_of_ble_eq_true rfl⟩) ⟨gw_blind, va_recv hK hPc (ci := 2) (q0 := 0) rfl rfl, fun U hU hW => gw_pre hPc hDc hK hE hU hW⟩ rfl rfl hl.1 rfl (lv_room (Nat.le_of_ble_eq_true rfl)) dZQ_restore_91 ⟨Nat.le_of_ble_eq_true rfl, Nat.le_of_ble_eq_true rfl⟩) hS (fun q _ h => hFc q h) hFc (fun pf_8 t H1 locs ht hvm hw hB hz1 hk1 hS => ?_)
        obtain ⟨hP1, hK1, hD1⟩ := hB
        rw [ht] at hP1
        try dsimp only at hw
        obtain ⟨hP, hD⟩ := va_join (wr := [(o0, .inr (5, [.ref op, .ref og, .ref oy, .ref ob, .ref os, .ref ot, .ref ou])), (og, .inr (1, [.int gw, .int gh, .ref oga])), (oga, .inl (cI, gn, .inl gf)), (ob, .inr (0, [.ref oba, .int bl])), (oba, .inl (cI, 256, .inl bf)), (os, .inr (3, [.ref op, .ref og, .ref osa, .ref osb, .int sd])), (osa, .inl (cI, kn, .inl kf)), (osb, .inl (cI, sn, .inl sf)), (ou, .inr (4, [.ref oua, .int uw, .int uh])), (oua, .inl (cI, 64, .inl uf))]) (w1 := [(oy, .inr (2, [.ref op, .int yk])), (op, .inr (1, [.int pw, .int ph, .ref opa])), (opa, .inl (cI, pn, .inl pf_8)), (ot, .inr (4, [.ref ota, .int tw, .int th])), (ota, .inl (cI, 64, .inl tf))]) hP hD [5, 1, 2, 11, 12] [0, 3, 4, 6, 7, 8, 9, 10, 13, 14] rfl rfl (by decide) (by decide) hk1 hFc hP1 hD1
        generalize H1 = H at hP hS ⊢
        have hP : va_P (dC, dI) vwCl [(o0, .inr (5, [.ref op, .ref og, .ref oy, .ref ob, .ref os, .ref ot, .ref ou])), (og, .inr (1, [.int gw, .int gh, .ref oga])), (oga, .inl (cI, gn, .inl gf)), (ob, .inr (0, [.ref oba, .int bl])), (oba, .inl (cI, 256, .inl bf)), (os, .inr (3, [.ref op, .ref og, .ref osa, .ref osb, .int sd])), (osa, .inl (cI, kn, .inl kf)), (osb, .inl (cI, sn, .inl sf)), (ou, .inr (4, [.ref oua, .int uw, .int uh])), (oua, .inl (cI, 64, .inl uf)), (oy, .inr (2, [.ref op, .int yk])), (op, .inr (1, [.int pw, .int ph, .ref opa])), (opa, .inl (cI, pn, .inl pf_8)), (ot, .inr (4, [.ref ota, .int tw, .int th])), (ota, .inl (cI, 64, .inl tf))] H := hP
        have hD : va_D A [(o0, .inr (5, [.ref op, .ref og, .ref oy, .ref ob, .ref os, .ref ot, .ref ou])), (og, .inr (1, [.int gw, .int gh, .ref oga])), (oga, .inl (cI, gn, .inl gf)), (ob, .inr (0, [.ref oba, .int bl])), (oba, .inl (cI, 256, .inl bf)), (os, .inr (3, [.ref op, .ref og, .ref osa, .ref osb, .int sd])), (osa, .inl (cI, kn, .inl kf)), (osb, .inl (cI, sn, .inl sf)), (ou, .inr (4, [.ref oua, .int uw, .int uh])), (oua, .inl (cI, 64, .inl uf)), (oy, .inr (2, [.ref op, .int yk])), (op, .inr (1, [.int pw, .int ph, .ref opa])), (opa, .inl (cI, pn, .inl pf_8)), (ot, .inr (4, [.ref ota, .int tw, .int th])), (ota, .inl (cI, 64, .inl tf))] := hD
        refine lv_iload_n hx hb dZQ_restore_94 rfl (lv_at hl 0 rfl) ?_
        obtain ⟨h_9, hw⟩ := hw
        have hP9 := hP.sub (ws' := [(o0, .inr (5, [.ref op, .ref og, .ref oy, .ref ob, .ref os, .ref ot, .ref ou])), (op, .inr (1, [.int pw, .int ph, .ref opa])), (opa, .inl (cI, pn, .inl pf_8)), (og, .inr (1, [.int gw, .int gh, .ref oga])), (oga, .inl (cI, gn, .inl gf)), (oy, .inr (2, [.ref op, .int yk])), (ob, .inr (0, [.ref oba, .int bl])), (oba, .inl (cI, 256, .inl bf)), (os, .inr (3, [.ref op, .ref og, .ref osa, .ref osb, .int sd])), (osa, .inl (cI, kn, .inl kf)), (osb, .inl (cI, sn, .inl sf)), (ot, .inr (4, [.ref ota, .int tw, .int th])), (ota, .inl (cI, 64, .inl tf)), (ou, .inr (4, [.ref oua, .int uw, .int uh])), (oua, .inl (cI, 64, .inl uf))]) [0, 11, 12, 1, 2, 10, 3, 4, 5, 6, 7, 13, 14, 8, 9] rfl
        have hD9 := hD.sub (ws' := [(o0, .inr (5, [.ref op, .ref og, .ref oy, .ref ob, .ref os, .ref ot, .ref ou])), (op, .inr (1, [.int pw, .int ph, .ref opa])), (opa, .inl (cI, pn, .inl pf_8)), (og, .inr (1, [.int gw, .int gh, .ref oga])), (oga, .inl (cI, gn, .inl gf)), (oy, .inr (2, [.ref op, .int yk])), (ob, .inr (0, [.ref oba, .int bl])), (oba, .inl (cI, 256, .inl bf)), (os, .inr (3, [.ref op, .ref og, .ref osa, .ref osb, .int sd])), (osa, .inl (cI, kn, .inl kf)), (osb, .inl (cI, sn, .inl sf)), (ot, .inr (4, [.ref ota, .int tw, .int th])), (ota, .inl (cI, 64, .inl tf)), (ou, .inr (4, [.ref oua, .int uw, .int uh])), (oua, .inl (cI, 64, .inl uf))]) [0, 11, 12, 1, 2, 10, 3, 4, 5, 6, 7, 13, 14, 8, 9] (by decide) rfl
        subst hQ9
        exact W.zret (v := t0_j76) (ty := .boolean) hx hb hr h_9 (fun t ht hW => ⟨⟨t0_j76, pf_8, rfl, hw, by rw [ht]; exact hP9, va_K.moved hW.alike hK, hD9⟩, hS.F ht⟩) hS.2.2 dZQ_restore_95
    refine lv_icmp_ne (tgt := 75) hx hb dZQ_restore_49 (by decide) (fun c_10 => ?_) (fun c_10 => ?_)
    · have hw := hw.2 c_10
      refine lv_iconst (v := (0 : Int32)) hx hb dZQ_restore_75 (by decide) ?_
      exact j76 (0 : Int32) hw _ _ (hP.sub [0, 1, 2, 3, 4, 5, 6, 7, 8, 9, 10, 11, 12, 13, 14] rfl) (hD.sub [0, 1, 2, 3, 4, 5, 6, 7, 8, 9, 10, 11, 12, 13, 14] (by decide) rfl) hS ls (lv_sub hl [0, 1, 2] rfl)
    · have hw := hw.1 c_10
      refine lv_aload_n hx hb dZQ_restore_52 rfl (lv_at hl 0 rfl) ?_
      refine va_get (D := (dC, dI)) (ci := 5) (v := .ref ot) (C := RZQ) (T := TZQ) (N := 7) hx hb hts inZQ hown hK hP 0 rfl rfl 5 (by decide) (hts _ mm_141) (fun _ h9 => h9) rfl dZQ_restore_53 ?_
      refine va_get (D := (dC, dI)) (ci := 4) (v := .int th) (C := RZT) (T := TZT) (N := 3) hx hb hts inZT hown hK hP 11 rfl rfl 2 (by decide) (hts _ mm_128) (fun _ h9 => h9) rfl dZQ_restore_56 ?_
      refine lv_aload_n hx hb dZQ_restore_59 rfl (lv_at hl 0 rfl) ?_
      refine va_get (D := (dC, dI)) (ci := 5) (v := .ref oy) (C := RZQ) (T := TZQ) (N := 7) hx hb hts inZQ hown hK hP 0 rfl rfl 2 (by decide) (hts _ mm_138) (fun _ h9 => h9) rfl dZQ_restore_60 ?_
      refine lv_iconst (v := (0 : Int32)) hx hb dZQ_restore_63 (by decide) ?_
      refine lv_iload_n hx hb dZQ_restore_64 rfl (lv_at hl 2 rfl) ?_
      have hPc := hP.sub (ws' := [(oy, .inr (2, [.ref op, .int yk])), (op, .inr (1, [.int pw, .int ph, .ref opa])), (opa, .inl (cI, pn, .inl pf))]) [5, 1, 2] rfl
      refine vp_callSi (va_runV (As := [.int (0 : Int32), .int a2]) (rest := [.int th]) ⟨hx, hb, hml, hown, hts⟩ (kt_ZY_tileRows l dC dI cI oy op opa yk pw ph pn pf (0 : Int32) a2 _ hw) (cwV 2 hts (tb_V mm_561 mm_472 mm_473 mm_4 mm_474) rfl rfl rfl (by decide +kernel) ⟨Nat.le_of_ble_eq_true rfl, Nat.le_of_ble_eq_true rfl⟩) ⟨gr_blind, va_recv hK hPc (ci := 2) (q0 := 0) rfl rfl, fun U hU hW => gr_pre hPc hK hE hU hW⟩ rfl rfl hl.1 rfl (lv_room (Nat.le_of_ble_eq_true rfl)) dZQ_restore_65 ⟨Nat.le_of_ble_eq_true rfl, Nat.le_of_ble_eq_true rfl⟩).run (fun r_11 hw => ?_)
      refine lv_icmp_ne (tgt := 75) hx hb dZQ_restore_68 (by decide) (fun c_12 => ?_) (fun c_12 => ?_)
      · have hw := hw.2 c_12
        refine lv_iconst (v := (0 : Int32)) hx hb dZQ_restore_75 (by decide) ?_
        exact j76 (0 : Int32) hw _ _ (hP.sub [0, 1, 2, 3, 4, 5, 6, 7, 8, 9, 10, 11, 12, 13, 14] rfl) (hD.sub [0, 1, 2, 3, 4, 5, 6, 7, 8, 9, 10, 11, 12, 13, 14] (by decide) rfl) hS ls (lv_sub hl [0, 1, 2] rfl)
      · have hw := hw.1 c_12
        refine lv_iconst (v := (1 : Int32)) hx hb dZQ_restore_71 (by decide) ?_
        refine lv_goto (tgt := 76) hx hb dZQ_restore_72 (by decide) ?_
        exact j76 (1 : Int32) hw _ _ (hP.sub [0, 1, 2, 3, 4, 5, 6, 7, 8, 9, 10, 11, 12, 13, 14] rfl) (hD.sub [0, 1, 2, 3, 4, 5, 6, 7, 8, 9, 10, 11, 12, 13, 14] (by decide) rfl) hS ls (lv_sub hl [0, 1, 2] rfl)
  · have hw := hw.1 c_4
    exact False.elim hw
def xp_ZQ_restore_I (pw : Int32) (ph : Int32) (pn : Nat) (pf : Nat → Int32) (gw : Int32) (gh : Int32) (gn : Nat) (gf : Nat → Int32) (yk : Int32) (bl : Int32) (bf : Nat → Int32) (kn : Nat) (kf : Nat → Int32) (sn : Nat) (sf : Nat → Int32) (sd : Int32) (tw : Int32) (th : Int32) (tf : Nat → Int32) (uw : Int32) (uh : Int32) (uf : Nat → Int32) (a1 : Int32) (a2 : Int32) : Prop := wp_ZY_hasTile yk pw ph pn pf (0 : Int32) a1 a2 (fun r_1 : Int32 => (xp_ZQ_requirePlace_I r_1) ∨ (wp_ZQ_requirePlace r_1 (wp_ZT_sampleCount tw th tf (fun r_3 : Int32 => ((r_3 = (0 : Int32) → False) ∧ (¬ r_3 = (0 : Int32) → (wp_ZY_tileColumns yk pw ph pn pf (0 : Int32) a1 (fun r_5 : Int32 => ∃ J76 : Int32 → Prop, (∀ (t0_j76 : Int32), J76 t0_j76 → ((t0_j76 = (0 : Int32) → False) ∧ (¬ t0_j76 = (0 : Int32) → False))) ∧ (((tw = r_5 → (wp_ZY_tileRows yk pw ph pn pf (0 : Int32) a2 (fun r_8 : Int32 => ((th = r_8 → (J76 (1 : Int32))) ∧ (¬ th = r_8 → (J76 (0 : Int32))))))) ∧ (¬ tw = r_5 → (J76 (0 : Int32)))))))))))))
abbrev rm_ZQ_restore_I : Room := { frames := 7, cells := 1, slots := 6, locals := 111 }
set_option maxHeartbeats 4000000 in
set_option maxRecDepth 100000 in
theorem kx_ZQ_restore_I (l : Launch) (hl9 : l.stackTraces = false) (dC : Nat → ClassId) (dI : Nat → Nat → Nat) (cI : ClassId) (o0 op opa og oga oy ob oba os osa osb ot ota ou oua : Nat) (H0 : Heap) (pw : Int32) (ph : Int32) (pn : Nat) (pf : Nat → Int32) (gw : Int32) (gh : Int32) (gn : Nat) (gf : Nat → Int32) (yk : Int32) (bl : Int32) (bf : Nat → Int32) (kn : Nat) (kf : Nat → Int32) (sn : Nat) (sf : Nat → Int32) (sd : Int32) (tw : Int32) (th : Int32) (tf : Nat → Int32) (uw : Int32) (uh : Int32) (uf : Nat → Int32) (a1 : Int32) (a2 : Int32) (hw : xp_ZQ_restore_I pw ph pn pf gw gh gn gf yk bl bf kn kf sn sf sd tw th tf uw uh uf a1 a2) : tx_Met l yZQ_restore wsZQ_restore rm_ZQ_restore_I (tr_Pc H0 dC dI [(cI, .int)] [.ref o0, .int a1, .int a2] [(o0, .inr (5, [.ref op, .ref og, .ref oy, .ref ob, .ref os, .ref ot, .ref ou])), (op, .inr (1, [.int pw, .int ph, .ref opa])), (opa, .inl (cI, pn, .inl pf)), (og, .inr (1, [.int gw, .int gh, .ref oga])), (oga, .inl (cI, gn, .inl gf)), (oy, .inr (2, [.ref op, .int yk])), (ob, .inr (0, [.ref oba, .int bl])), (oba, .inl (cI, 256, .inl bf)), (os, .inr (3, [.ref op, .ref og, .ref osa, .ref osb, .int sd])), (osa, .inl (cI, kn, .inl kf)), (osb, .inl (cI, sn, .inl sf)), (ot, .inr (4, [.ref ota, .int tw, .int th])), (ota, .inl (cI, 64, .inl tf)), (ou, .inr (4, [.ref oua, .int uw, .int uh])), (oua, .inl (cI, 64, .inl uf))]) "java/lang/IndexOutOfBoundsException" := by
  refine tx_ofW (cc := cZQ_restore) (maxL := 4) (ret := (some .boolean)) (by decide) rfl ?_
  intro p e s m args below meth c s₁ B hml hnX hv
  obtain ⟨ha9, hP, hK, hE, hT⟩ := hv
  have hx := B.exec
  have hb := B.bytes
  have hr := B.returns
  have hts0 := atoms_spec (ws := wsZQ_restore) B.pre
  have hts : ∀ w ∈ tbg, w.before args s = true := fun w h => hts0 w (List.mem_cons_of_mem _ h)
  have hown : s.vm.findClass RZQ = some m.cls := findClass_of_methodNamed B.named
  have hlocks := B.notSynchronized
  refine gx_Q (fun Q9 hQ9 => ?_)
  have hl := lv_entry ([.ref o0, .int a1, .int a2]) (n := 4) (Nat.le_of_ble_eq_true rfl)
  have he9 : entryFrame m args 4 = F0 m 0 ((lg_sl [.ref o0, .int a1, .int a2] ++ List.replicate (4 - (lg_sl ([.ref o0, .int a1, .int a2] : List Value)).length) Slot.unset).toArray) [] := by rw [ha9]; exact lg_entry_eq m [.ref o0, .int a1, .int a2] 4
  rw [he9]
  generalize (lg_sl ([.ref o0, .int a1, .int a2] : List Value) ++ List.replicate (4 - (lg_sl ([.ref o0, .int a1, .int a2] : List Value)).length) Slot.unset).toArray = ls at hl ⊢
  have hl : lv_has ls 4 [(0, .ref o0), (1, .int a1), (2, .int a2)] := hl
  refine lv_aload_n hx hb dZQ_restore_0 rfl (lv_at hl 0 rfl) ?_
  refine va_get (D := (dC, dI)) (ci := 5) (v := .ref oy) (C := RZQ) (T := TZQ) (N := 7) hx hb hts inZQ hown hK hP 0 rfl rfl 2 (by decide) (hts _ mm_138) (fun _ h9 => h9) rfl dZQ_restore_1 ?_
  refine lv_iconst (v := (0 : Int32)) hx hb dZQ_restore_4 (by decide) ?_
  refine lv_iload_n hx hb dZQ_restore_5 rfl (lv_at hl 1 rfl) ?_
  refine lv_iload_n hx hb dZQ_restore_6 rfl (lv_at hl 2 rfl) ?_
  have hPc := hP.sub (ws' := [(oy, .inr (2, [.ref op, .int yk])), (op, .inr (1, [.int pw, .int ph, .ref opa])), (opa, .inl (cI, pn, .inl pf))]) [5, 1, 2] rfl
  refine vp_callSi (va_runV (As := [.int (0 : Int32), .int a1, .int a2]) (rest := []) ⟨hx, hb, hml, hown, hts⟩ (kt_ZY_hasTile l dC dI cI oy op opa yk pw ph pn pf (0 : Int32) a1 a2 _ hw) (cwV 3 hts (tb_V mm_456 mm_457 mm_458 mm_4 mm_459) rfl rfl rfl (by decide +kernel) ⟨Nat.le_of_ble_eq_true rfl, Nat.le_of_ble_eq_true rfl⟩) ⟨gr_blind, va_recv hK hPc (ci := 2) (q0 := 0) rfl rfl, fun U hU hW => gr_pre hPc hK hE hU hW⟩ rfl rfl hl.1 rfl (lv_room (Nat.le_of_ble_eq_true rfl)) dZQ_restore_7 ⟨Nat.le_of_ble_eq_true rfl, Nat.le_of_ble_eq_true rfl⟩).run (fun r_1 hw => ?_)
  rcases hw with hw | hw
  · subst hQ9
    have hPx := hP.sub (ws' := []) [] rfl
    exact tx_callS (As := [.int r_1]) (rest := []) ⟨hx, hb, hml, hown, hts⟩ (kx_ZQ_requirePlace_I l hl9 dC dI cI  H0 r_1 hw) (va_cwS 1 hts (tb_S mm_239 mm_240 mm_1 mm_241) rfl rfl rfl (by decide +kernel) ⟨Nat.le_of_ble_eq_true rfl, Nat.le_of_ble_eq_true rfl⟩) ⟨tr_blind, fun U hU hW => tr_pre hPx hK hE hT hT.1 hU hW⟩ rfl hl.1 rfl (Nat.le_of_ble_eq_true rfl) dZQ_restore_10 hnX hlocks ⟨Nat.le_of_ble_eq_true rfl, Nat.le_of_ble_eq_true rfl⟩
  have hPc := hP.sub (ws' := []) [] rfl
  refine va_csv (va_runS (As := [.int r_1]) (rest := []) ⟨hx, hb, hml, hown, hts⟩ (kt_ZQ_requirePlace l dC dI cI  r_1 _ hw) (va_cwS 1 hts (tb_S mm_239 mm_240 mm_1 mm_241) rfl rfl rfl (by decide +kernel) ⟨Nat.le_of_ble_eq_true rfl, Nat.le_of_ble_eq_true rfl⟩) ⟨gr_blind, fun U hU hW => gr_pre hPc hK hE hU hW⟩ rfl rfl hl.1 rfl (lv_room (Nat.le_of_ble_eq_true rfl)) dZQ_restore_10 ⟨Nat.le_of_ble_eq_true rfl, Nat.le_of_ble_eq_true rfl⟩).run (fun hw => ?_)
  refine lv_aload_n hx hb dZQ_restore_13 rfl (lv_at hl 0 rfl) ?_
  refine va_get (D := (dC, dI)) (ci := 5) (v := .ref ot) (C := RZQ) (T := TZQ) (N := 7) hx hb hts inZQ hown hK hP 0 rfl rfl 5 (by decide) (hts _ mm_141) (fun _ h9 => h9) rfl dZQ_restore_14 ?_
  have hPc := hP.sub (ws' := [(ot, .inr (4, [.ref ota, .int tw, .int th])), (ota, .inl (cI, 64, .inl tf))]) [11, 12] rfl
  refine vp_callSi (va_runV (As := []) (rest := []) ⟨hx, hb, hml, hown, hts⟩ (kt_ZT_sampleCount l dC dI cI ot ota tw th tf _ hw) (cwV 0 hts (tb_V mm_217 mm_218 mm_219 mm_7 mm_220) rfl rfl rfl (by decide +kernel) ⟨Nat.le_of_ble_eq_true rfl, Nat.le_of_ble_eq_true rfl⟩) ⟨gr_blind, va_recv hK hPc (ci := 4) (q0 := 0) rfl rfl, fun U hU hW => gr_pre hPc hK hE hU hW⟩ rfl rfl hl.1 rfl (lv_room (Nat.le_of_ble_eq_true rfl)) dZQ_restore_17 ⟨Nat.le_of_ble_eq_true rfl, Nat.le_of_ble_eq_true rfl⟩).run (fun r_3 hw => ?_)
  refine lv_if_ne (tgt := 33) hx hb dZQ_restore_20 (by decide) (fun c_4 => ?_) (fun c_4 => ?_)
  · have hw := hw.2 c_4
    refine lv_aload_n hx hb dZQ_restore_33 rfl (lv_at hl 0 rfl) ?_
    refine va_get (D := (dC, dI)) (ci := 5) (v := .ref ot) (C := RZQ) (T := TZQ) (N := 7) hx hb hts inZQ hown hK hP 0 rfl rfl 5 (by decide) (hts _ mm_141) (fun _ h9 => h9) rfl dZQ_restore_34 ?_
    refine va_get (D := (dC, dI)) (ci := 4) (v := .int tw) (C := RZT) (T := TZT) (N := 3) hx hb hts inZT hown hK hP 11 rfl rfl 1 (by decide) (hts _ mm_123) (fun _ h9 => h9) rfl dZQ_restore_37 ?_
    refine lv_aload_n hx hb dZQ_restore_40 rfl (lv_at hl 0 rfl) ?_
    refine va_get (D := (dC, dI)) (ci := 5) (v := .ref oy) (C := RZQ) (T := TZQ) (N := 7) hx hb hts inZQ hown hK hP 0 rfl rfl 2 (by decide) (hts _ mm_138) (fun _ h9 => h9) rfl dZQ_restore_41 ?_
    refine lv_iconst (v := (0 : Int32)) hx hb dZQ_restore_44 (by decide) ?_
    refine lv_iload_n hx hb dZQ_restore_45 rfl (lv_at hl 1 rfl) ?_
    have hPc := hP.sub (ws' := [(oy, .inr (2, [.ref op, .int yk])), (op, .inr (1, [.int pw, .int ph, .ref opa])), (opa, .inl (cI, pn, .inl pf))]) [5, 1, 2] rfl
    refine vp_callSi (va_runV (As := [.int (0 : Int32), .int a1]) (rest := [.int tw]) ⟨hx, hb, hml, hown, hts⟩ (kt_ZY_tileColumns l dC dI cI oy op opa yk pw ph pn pf (0 : Int32) a1 _ hw) (cwV 2 hts (tb_V mm_560 mm_468 mm_469 mm_4 mm_470) rfl rfl rfl (by decide +kernel) ⟨Nat.le_of_ble_eq_true rfl, Nat.le_of_ble_eq_true rfl⟩) ⟨gr_blind, va_recv hK hPc (ci := 2) (q0 := 0) rfl rfl, fun U hU hW => gr_pre hPc hK hE hU hW⟩ rfl rfl hl.1 rfl (lv_room (Nat.le_of_ble_eq_true rfl)) dZQ_restore_46 ⟨Nat.le_of_ble_eq_true rfl, Nat.le_of_ble_eq_true rfl⟩).run (fun r_5 hw => ?_)
    obtain ⟨J76, hJ76, hw⟩ := hw
    have j76 : ∀ (t0_j76 : Int32), J76 t0_j76 → ∀ ls : Array Slot, lv_has ls 4 [(0, .ref o0), (1, .int a1), (2, .int a2)] → W p l e (headSpec wsZQ_restore rm_ZQ_restore_I).room s m args below meth c s.heap [] 0 0 Q9 (F0 m 76 ls [.int t0_j76]) := by
      intro t0_j76 hw ls hl
      have hw := hJ76 t0_j76 hw
      refine lv_istore_n (lv' := [(3, .int t0_j76), (0, .ref o0), (1, .int a1), (2, .int a2)]) hx hb dZQ_restore_76 rfl hl (by decide) rfl (fun ls hl => ?_)
      refine lv_iload_n hx hb dZQ_restore_77 rfl (lv_at hl 0 rfl) ?_
      refine lv_if_eq (tgt := 94) hx hb dZQ_restore_78 (by decide) (fun c_6 => ?_) (fun c_6 => ?_)
      · have hw := hw.1 c_6
        refine lv_iload_n hx hb dZQ_restore_94 rfl (lv_at hl 0 rfl) ?_
        exact False.elim hw
      · have hw := hw.2 c_6
        refine lv_aload_n hx hb dZQ_restore_81 rfl (lv_at hl 1 rfl) ?_
        refine va_get (D := (dC, dI)) (ci := 5) (v := .ref oy) (C := RZQ) (T := TZQ) (N := 7) hx hb hts inZQ hown hK hP 0 rfl rfl 2 (by decide) (hts _ mm_138) (fun _ h9 => h9) rfl dZQ_restore_82 ?_
        refine lv_iload_n hx hb dZQ_restore_85 rfl (lv_at hl 2 rfl) ?_
        refine lv_iload_n hx hb dZQ_restore_86 rfl (lv_at hl 3 rfl) ?_
        refine lv_aload_n hx hb dZQ_restore_87 rfl (lv_at hl 1 rfl) ?_
        refine va_get (D := (dC, dI)) (ci := 5) (v := .ref ot) (C := RZQ) (T := TZQ) (N := 7) hx hb hts inZQ hown hK hP 0 rfl rfl 5 (by decide) (hts _ mm_141) (fun _ h9 => h9) rfl dZQ_restore_88 ?_
        exact False.elim hw
    refine lv_icmp_ne (tgt := 75) hx hb dZQ_restore_49 (by decide) (fun c_7 => ?_) (fun c_7 => ?_)
    · have hw := hw.2 c_7
      refine lv_iconst (v := (0 : Int32)) hx hb dZQ_restore_75 (by decide) ?_
      exact j76 (0 : Int32) hw ls (lv_sub hl [0, 1, 2] rfl)
    · have hw := hw.1 c_7
      refine lv_aload_n hx hb dZQ_restore_52 rfl (lv_at hl 0 rfl) ?_
      refine va_get (D := (dC, dI)) (ci := 5) (v := .ref ot) (C := RZQ) (T := TZQ) (N := 7) hx hb hts inZQ hown hK hP 0 rfl rfl 5 (by decide) (hts _ mm_141) (fun _ h9 => h9) rfl dZQ_restore_53 ?_
      refine va_get (D := (dC, dI)) (ci := 4) (v := .int th) (C := RZT) (T := TZT) (N := 3) hx hb hts inZT hown hK hP 11 rfl rfl 2 (by decide) (hts _ mm_128) (fun _ h9 => h9) rfl dZQ_restore_56 ?_
      refine lv_aload_n hx hb dZQ_restore_59 rfl (lv_at hl 0 rfl) ?_
      refine va_get (D := (dC, dI)) (ci := 5) (v := .ref oy) (C := RZQ) (T := TZQ) (N := 7) hx hb hts inZQ hown hK hP 0 rfl rfl 2 (by decide) (hts _ mm_138) (fun _ h9 => h9) rfl dZQ_restore_60 ?_
      refine lv_iconst (v := (0 : Int32)) hx hb dZQ_restore_63 (by decide) ?_
      refine lv_iload_n hx hb dZQ_restore_64 rfl (lv_at hl 2 rfl) ?_
      have hPc := hP.sub (ws' := [(oy, .inr (2, [.ref op, .int yk])), (op, .inr (1, [.int pw, .int ph, .ref opa])), (opa, .inl (cI, pn, .inl pf))]) [5, 1, 2] rfl
      refine vp_callSi (va_runV (As := [.int (0 : Int32), .int a2]) (rest := [.int th]) ⟨hx, hb, hml, hown, hts⟩ (kt_ZY_tileRows l dC dI cI oy op opa yk pw ph pn pf (0 : Int32) a2 _ hw) (cwV 2 hts (tb_V mm_561 mm_472 mm_473 mm_4 mm_474) rfl rfl rfl (by decide +kernel) ⟨Nat.le_of_ble_eq_true rfl, Nat.le_of_ble_eq_true rfl⟩) ⟨gr_blind, va_recv hK hPc (ci := 2) (q0 := 0) rfl rfl, fun U hU hW => gr_pre hPc hK hE hU hW⟩ rfl rfl hl.1 rfl (lv_room (Nat.le_of_ble_eq_true rfl)) dZQ_restore_65 ⟨Nat.le_of_ble_eq_true rfl, Nat.le_of_ble_eq_true rfl⟩).run (fun r_8 hw => ?_)
      refine lv_icmp_ne (tgt := 75) hx hb dZQ_restore_68 (by decide) (fun c_9 => ?_) (fun c_9 => ?_)
      · have hw := hw.2 c_9
        refine lv_iconst (v := (0 : Int32)) hx hb dZQ_restore_75 (by decide) ?_
        exact j76 (0 : Int32) hw ls (lv_sub hl [0, 1, 2] rfl)
      · have hw := hw.1 c_9
        refine lv_iconst (v := (1 : Int32)) hx hb dZQ_restore_71 (by decide) ?_
        refine lv_goto (tgt := 76) hx hb dZQ_restore_72 (by decide) ?_
        exact j76 (1 : Int32) hw ls (lv_sub hl [0, 1, 2] rfl)
  · have hw := hw.1 c_4
    exact False.elim hw
def xp_ZQ_restore_S (pw : Int32) (ph : Int32) (pn : Nat) (pf : Nat → Int32) (gw : Int32) (gh : Int32) (gn : Nat) (gf : Nat → Int32) (yk : Int32) (bl : Int32) (bf : Nat → Int32) (kn : Nat) (kf : Nat → Int32) (sn : Nat) (sf : Nat → Int32) (sd : Int32) (tw : Int32) (th : Int32) (tf : Nat → Int32) (uw : Int32) (uh : Int32) (uf : Nat → Int32) (a1 : Int32) (a2 : Int32) : Prop := wp_ZY_hasTile yk pw ph pn pf (0 : Int32) a1 a2 (fun r_1 : Int32 => wp_ZQ_requirePlace r_1 (wp_ZT_sampleCount tw th tf (fun r_3 : Int32 => ((r_3 = (0 : Int32) → True) ∧ (¬ r_3 = (0 : Int32) → (wp_ZY_tileColumns yk pw ph pn pf (0 : Int32) a1 (fun r_5 : Int32 => ∃ J76 : Int32 → Prop, (∀ (t0_j76 : Int32), J76 t0_j76 → ((t0_j76 = (0 : Int32) → False) ∧ (¬ t0_j76 = (0 : Int32) → False))) ∧ (((tw = r_5 → (wp_ZY_tileRows yk pw ph pn pf (0 : Int32) a2 (fun r_8 : Int32 => ((th = r_8 → (J76 (1 : Int32))) ∧ (¬ th = r_8 → (J76 (0 : Int32))))))) ∧ (¬ tw = r_5 → (J76 (0 : Int32))))))))))))
abbrev rm_ZQ_restore_S : Room := { frames := 6, cells := 1, slots := 6, locals := 91 }
set_option maxHeartbeats 4000000 in
set_option maxRecDepth 100000 in
theorem kx_ZQ_restore_S (l : Launch) (hl9 : l.stackTraces = false) (dC : Nat → ClassId) (dI : Nat → Nat → Nat) (cI : ClassId) (o0 op opa og oga oy ob oba os osa osb ot ota ou oua : Nat) (H0 : Heap) (pw : Int32) (ph : Int32) (pn : Nat) (pf : Nat → Int32) (gw : Int32) (gh : Int32) (gn : Nat) (gf : Nat → Int32) (yk : Int32) (bl : Int32) (bf : Nat → Int32) (kn : Nat) (kf : Nat → Int32) (sn : Nat) (sf : Nat → Int32) (sd : Int32) (tw : Int32) (th : Int32) (tf : Nat → Int32) (uw : Int32) (uh : Int32) (uf : Nat → Int32) (a1 : Int32) (a2 : Int32) (hw : xp_ZQ_restore_S pw ph pn pf gw gh gn gf yk bl bf kn kf sn sf sd tw th tf uw uh uf a1 a2) : tx_Met l yZQ_restore wsZQ_restore rm_ZQ_restore_S (tr_Pc H0 dC dI [(cI, .int)] [.ref o0, .int a1, .int a2] [(o0, .inr (5, [.ref op, .ref og, .ref oy, .ref ob, .ref os, .ref ot, .ref ou])), (op, .inr (1, [.int pw, .int ph, .ref opa])), (opa, .inl (cI, pn, .inl pf)), (og, .inr (1, [.int gw, .int gh, .ref oga])), (oga, .inl (cI, gn, .inl gf)), (oy, .inr (2, [.ref op, .int yk])), (ob, .inr (0, [.ref oba, .int bl])), (oba, .inl (cI, 256, .inl bf)), (os, .inr (3, [.ref op, .ref og, .ref osa, .ref osb, .int sd])), (osa, .inl (cI, kn, .inl kf)), (osb, .inl (cI, sn, .inl sf)), (ot, .inr (4, [.ref ota, .int tw, .int th])), (ota, .inl (cI, 64, .inl tf)), (ou, .inr (4, [.ref oua, .int uw, .int uh])), (oua, .inl (cI, 64, .inl uf))]) "java/lang/IllegalStateException" := by
  refine tx_ofW (cc := cZQ_restore) (maxL := 4) (ret := (some .boolean)) (by decide) rfl ?_
  intro p e s m args below meth c s₁ B hml hnX hv
  obtain ⟨ha9, hP, hK, hE, hT⟩ := hv
  have hx := B.exec
  have hb := B.bytes
  have hr := B.returns
  have hts0 := atoms_spec (ws := wsZQ_restore) B.pre
  have hts : ∀ w ∈ tbg, w.before args s = true := fun w h => hts0 w (List.mem_cons_of_mem _ h)
  have hown : s.vm.findClass RZQ = some m.cls := findClass_of_methodNamed B.named
  have hlocks := B.notSynchronized
  refine gx_Q (fun Q9 hQ9 => ?_)
  have hl := lv_entry ([.ref o0, .int a1, .int a2]) (n := 4) (Nat.le_of_ble_eq_true rfl)
  have he9 : entryFrame m args 4 = F0 m 0 ((lg_sl [.ref o0, .int a1, .int a2] ++ List.replicate (4 - (lg_sl ([.ref o0, .int a1, .int a2] : List Value)).length) Slot.unset).toArray) [] := by rw [ha9]; exact lg_entry_eq m [.ref o0, .int a1, .int a2] 4
  rw [he9]
  generalize (lg_sl ([.ref o0, .int a1, .int a2] : List Value) ++ List.replicate (4 - (lg_sl ([.ref o0, .int a1, .int a2] : List Value)).length) Slot.unset).toArray = ls at hl ⊢
  have hl : lv_has ls 4 [(0, .ref o0), (1, .int a1), (2, .int a2)] := hl
  refine lv_aload_n hx hb dZQ_restore_0 rfl (lv_at hl 0 rfl) ?_
  refine va_get (D := (dC, dI)) (ci := 5) (v := .ref oy) (C := RZQ) (T := TZQ) (N := 7) hx hb hts inZQ hown hK hP 0 rfl rfl 2 (by decide) (hts _ mm_138) (fun _ h9 => h9) rfl dZQ_restore_1 ?_
  refine lv_iconst (v := (0 : Int32)) hx hb dZQ_restore_4 (by decide) ?_
  refine lv_iload_n hx hb dZQ_restore_5 rfl (lv_at hl 1 rfl) ?_
  refine lv_iload_n hx hb dZQ_restore_6 rfl (lv_at hl 2 rfl) ?_
  have hPc := hP.sub (ws' := [(oy, .inr (2, [.ref op, .int yk])), (op, .inr (1, [.int pw, .int ph, .ref opa])), (opa, .inl (cI, pn, .inl pf))]) [5, 1, 2] rfl
  refine vp_callSi (va_runV (As := [.int (0 : Int32), .int a1, .int a2]) (rest := []) ⟨hx, hb, hml, hown, hts⟩ (kt_ZY_hasTile l dC dI cI oy op opa yk pw ph pn pf (0 : Int32) a1 a2 _ hw) (cwV 3 hts (tb_V mm_456 mm_457 mm_458 mm_4 mm_459) rfl rfl rfl (by decide +kernel) ⟨Nat.le_of_ble_eq_true rfl, Nat.le_of_ble_eq_true rfl⟩) ⟨gr_blind, va_recv hK hPc (ci := 2) (q0 := 0) rfl rfl, fun U hU hW => gr_pre hPc hK hE hU hW⟩ rfl rfl hl.1 rfl (lv_room (Nat.le_of_ble_eq_true rfl)) dZQ_restore_7 ⟨Nat.le_of_ble_eq_true rfl, Nat.le_of_ble_eq_true rfl⟩).run (fun r_1 hw => ?_)
  have hPc := hP.sub (ws' := []) [] rfl
  refine va_csv (va_runS (As := [.int r_1]) (rest := []) ⟨hx, hb, hml, hown, hts⟩ (kt_ZQ_requirePlace l dC dI cI  r_1 _ hw) (va_cwS 1 hts (tb_S mm_239 mm_240 mm_1 mm_241) rfl rfl rfl (by decide +kernel) ⟨Nat.le_of_ble_eq_true rfl, Nat.le_of_ble_eq_true rfl⟩) ⟨gr_blind, fun U hU hW => gr_pre hPc hK hE hU hW⟩ rfl rfl hl.1 rfl (lv_room (Nat.le_of_ble_eq_true rfl)) dZQ_restore_10 ⟨Nat.le_of_ble_eq_true rfl, Nat.le_of_ble_eq_true rfl⟩).run (fun hw => ?_)
  refine lv_aload_n hx hb dZQ_restore_13 rfl (lv_at hl 0 rfl) ?_
  refine va_get (D := (dC, dI)) (ci := 5) (v := .ref ot) (C := RZQ) (T := TZQ) (N := 7) hx hb hts inZQ hown hK hP 0 rfl rfl 5 (by decide) (hts _ mm_141) (fun _ h9 => h9) rfl dZQ_restore_14 ?_
  have hPc := hP.sub (ws' := [(ot, .inr (4, [.ref ota, .int tw, .int th])), (ota, .inl (cI, 64, .inl tf))]) [11, 12] rfl
  refine vp_callSi (va_runV (As := []) (rest := []) ⟨hx, hb, hml, hown, hts⟩ (kt_ZT_sampleCount l dC dI cI ot ota tw th tf _ hw) (cwV 0 hts (tb_V mm_217 mm_218 mm_219 mm_7 mm_220) rfl rfl rfl (by decide +kernel) ⟨Nat.le_of_ble_eq_true rfl, Nat.le_of_ble_eq_true rfl⟩) ⟨gr_blind, va_recv hK hPc (ci := 4) (q0 := 0) rfl rfl, fun U hU hW => gr_pre hPc hK hE hU hW⟩ rfl rfl hl.1 rfl (lv_room (Nat.le_of_ble_eq_true rfl)) dZQ_restore_17 ⟨Nat.le_of_ble_eq_true rfl, Nat.le_of_ble_eq_true rfl⟩).run (fun r_3 hw => ?_)
  refine lv_if_ne (tgt := 33) hx hb dZQ_restore_20 (by decide) (fun c_4 => ?_) (fun c_4 => ?_)
  · have hw := hw.2 c_4
    refine lv_aload_n hx hb dZQ_restore_33 rfl (lv_at hl 0 rfl) ?_
    refine va_get (D := (dC, dI)) (ci := 5) (v := .ref ot) (C := RZQ) (T := TZQ) (N := 7) hx hb hts inZQ hown hK hP 0 rfl rfl 5 (by decide) (hts _ mm_141) (fun _ h9 => h9) rfl dZQ_restore_34 ?_
    refine va_get (D := (dC, dI)) (ci := 4) (v := .int tw) (C := RZT) (T := TZT) (N := 3) hx hb hts inZT hown hK hP 11 rfl rfl 1 (by decide) (hts _ mm_123) (fun _ h9 => h9) rfl dZQ_restore_37 ?_
    refine lv_aload_n hx hb dZQ_restore_40 rfl (lv_at hl 0 rfl) ?_
    refine va_get (D := (dC, dI)) (ci := 5) (v := .ref oy) (C := RZQ) (T := TZQ) (N := 7) hx hb hts inZQ hown hK hP 0 rfl rfl 2 (by decide) (hts _ mm_138) (fun _ h9 => h9) rfl dZQ_restore_41 ?_
    refine lv_iconst (v := (0 : Int32)) hx hb dZQ_restore_44 (by decide) ?_
    refine lv_iload_n hx hb dZQ_restore_45 rfl (lv_at hl 1 rfl) ?_
    have hPc := hP.sub (ws' := [(oy, .inr (2, [.ref op, .int yk])), (op, .inr (1, [.int pw, .int ph, .ref opa])), (opa, .inl (cI, pn, .inl pf))]) [5, 1, 2] rfl
    refine vp_callSi (va_runV (As := [.int (0 : Int32), .int a1]) (rest := [.int tw]) ⟨hx, hb, hml, hown, hts⟩ (kt_ZY_tileColumns l dC dI cI oy op opa yk pw ph pn pf (0 : Int32) a1 _ hw) (cwV 2 hts (tb_V mm_560 mm_468 mm_469 mm_4 mm_470) rfl rfl rfl (by decide +kernel) ⟨Nat.le_of_ble_eq_true rfl, Nat.le_of_ble_eq_true rfl⟩) ⟨gr_blind, va_recv hK hPc (ci := 2) (q0 := 0) rfl rfl, fun U hU hW => gr_pre hPc hK hE hU hW⟩ rfl rfl hl.1 rfl (lv_room (Nat.le_of_ble_eq_true rfl)) dZQ_restore_46 ⟨Nat.le_of_ble_eq_true rfl, Nat.le_of_ble_eq_true rfl⟩).run (fun r_5 hw => ?_)
    obtain ⟨J76, hJ76, hw⟩ := hw
    have j76 : ∀ (t0_j76 : Int32), J76 t0_j76 → ∀ ls : Array Slot, lv_has ls 4 [(0, .ref o0), (1, .int a1), (2, .int a2)] → W p l e (headSpec wsZQ_restore rm_ZQ_restore_S).room s m args below meth c s.heap [] 0 0 Q9 (F0 m 76 ls [.int t0_j76]) := by
      intro t0_j76 hw ls hl
      have hw := hJ76 t0_j76 hw
      refine lv_istore_n (lv' := [(3, .int t0_j76), (0, .ref o0), (1, .int a1), (2, .int a2)]) hx hb dZQ_restore_76 rfl hl (by decide) rfl (fun ls hl => ?_)
      refine lv_iload_n hx hb dZQ_restore_77 rfl (lv_at hl 0 rfl) ?_
      refine lv_if_eq (tgt := 94) hx hb dZQ_restore_78 (by decide) (fun c_6 => ?_) (fun c_6 => ?_)
      · have hw := hw.1 c_6
        refine lv_iload_n hx hb dZQ_restore_94 rfl (lv_at hl 0 rfl) ?_
        exact False.elim hw
      · have hw := hw.2 c_6
        refine lv_aload_n hx hb dZQ_restore_81 rfl (lv_at hl 1 rfl) ?_
        refine va_get (D := (dC, dI)) (ci := 5) (v := .ref oy) (C := RZQ) (T := TZQ) (N := 7) hx hb hts inZQ hown hK hP 0 rfl rfl 2 (by decide) (hts _ mm_138) (fun _ h9 => h9) rfl dZQ_restore_82 ?_
        refine lv_iload_n hx hb dZQ_restore_85 rfl (lv_at hl 2 rfl) ?_
        refine lv_iload_n hx hb dZQ_restore_86 rfl (lv_at hl 3 rfl) ?_
        refine lv_aload_n hx hb dZQ_restore_87 rfl (lv_at hl 1 rfl) ?_
        refine va_get (D := (dC, dI)) (ci := 5) (v := .ref ot) (C := RZQ) (T := TZQ) (N := 7) hx hb hts inZQ hown hK hP 0 rfl rfl 5 (by decide) (hts _ mm_141) (fun _ h9 => h9) rfl dZQ_restore_88 ?_
        exact False.elim hw
    refine lv_icmp_ne (tgt := 75) hx hb dZQ_restore_49 (by decide) (fun c_7 => ?_) (fun c_7 => ?_)
    · have hw := hw.2 c_7
      refine lv_iconst (v := (0 : Int32)) hx hb dZQ_restore_75 (by decide) ?_
      exact j76 (0 : Int32) hw ls (lv_sub hl [0, 1, 2] rfl)
    · have hw := hw.1 c_7
      refine lv_aload_n hx hb dZQ_restore_52 rfl (lv_at hl 0 rfl) ?_
      refine va_get (D := (dC, dI)) (ci := 5) (v := .ref ot) (C := RZQ) (T := TZQ) (N := 7) hx hb hts inZQ hown hK hP 0 rfl rfl 5 (by decide) (hts _ mm_141) (fun _ h9 => h9) rfl dZQ_restore_53 ?_
      refine va_get (D := (dC, dI)) (ci := 4) (v := .int th) (C := RZT) (T := TZT) (N := 3) hx hb hts inZT hown hK hP 11 rfl rfl 2 (by decide) (hts _ mm_128) (fun _ h9 => h9) rfl dZQ_restore_56 ?_
      refine lv_aload_n hx hb dZQ_restore_59 rfl (lv_at hl 0 rfl) ?_
      refine va_get (D := (dC, dI)) (ci := 5) (v := .ref oy) (C := RZQ) (T := TZQ) (N := 7) hx hb hts inZQ hown hK hP 0 rfl rfl 2 (by decide) (hts _ mm_138) (fun _ h9 => h9) rfl dZQ_restore_60 ?_
      refine lv_iconst (v := (0 : Int32)) hx hb dZQ_restore_63 (by decide) ?_
      refine lv_iload_n hx hb dZQ_restore_64 rfl (lv_at hl 2 rfl) ?_
      have hPc := hP.sub (ws' := [(oy, .inr (2, [.ref op, .int yk])), (op, .inr (1, [.int pw, .int ph, .ref opa])), (opa, .inl (cI, pn, .inl pf))]) [5, 1, 2] rfl
      refine vp_callSi (va_runV (As := [.int (0 : Int32), .int a2]) (rest := [.int th]) ⟨hx, hb, hml, hown, hts⟩ (kt_ZY_tileRows l dC dI cI oy op opa yk pw ph pn pf (0 : Int32) a2 _ hw) (cwV 2 hts (tb_V mm_561 mm_472 mm_473 mm_4 mm_474) rfl rfl rfl (by decide +kernel) ⟨Nat.le_of_ble_eq_true rfl, Nat.le_of_ble_eq_true rfl⟩) ⟨gr_blind, va_recv hK hPc (ci := 2) (q0 := 0) rfl rfl, fun U hU hW => gr_pre hPc hK hE hU hW⟩ rfl rfl hl.1 rfl (lv_room (Nat.le_of_ble_eq_true rfl)) dZQ_restore_65 ⟨Nat.le_of_ble_eq_true rfl, Nat.le_of_ble_eq_true rfl⟩).run (fun r_8 hw => ?_)
      refine lv_icmp_ne (tgt := 75) hx hb dZQ_restore_68 (by decide) (fun c_9 => ?_) (fun c_9 => ?_)
      · have hw := hw.2 c_9
        refine lv_iconst (v := (0 : Int32)) hx hb dZQ_restore_75 (by decide) ?_
        exact j76 (0 : Int32) hw ls (lv_sub hl [0, 1, 2] rfl)
      · have hw := hw.1 c_9
        refine lv_iconst (v := (1 : Int32)) hx hb dZQ_restore_71 (by decide) ?_
        refine lv_goto (tgt := 76) hx hb dZQ_restore_72 (by decide) ?_
        exact j76 (1 : Int32) hw ls (lv_sub hl [0, 1, 2] rfl)
  · have hw := hw.1 c_4
    obtain ⟨sa9, hst9⟩ := gxE_20 hE
    subst hQ9
    exact tx_throw (own := RZQ) (cls := "java/lang/IllegalStateException") (names := ["java/lang/RuntimeException", "java/lang/Exception"]) hx hb hl9 hown (by decide +kernel) (by decide +kernel) (hts _ mm_512) (hts _ mm_15) (hts _ mm_513) hst9 (ax_2 hts hE hT) (hl.1.trans hml.symm) dZQ_restore_23 dZQ_restore_26 dZQ_restore_27 dZQ_restore_29 dZQ_restore_32 hnX (Nat.le_of_ble_eq_true rfl) (Nat.le_of_ble_eq_true rfl) (Nat.le_of_ble_eq_true rfl) (Nat.le_of_ble_eq_true rfl) hlocks
theorem dZQ_strip_0 : decode cZQ_strip 0 = .ok (.aload_n 0, 1) := by decide +kernel
theorem dZQ_strip_1 : decode cZQ_strip 1 = .ok (.getfield 27, 3) := by decide +kernel
theorem dZQ_strip_4 : decode cZQ_strip 4 = .ok (.iload_n 1, 1) := by decide +kernel
theorem dZQ_strip_5 : decode cZQ_strip 5 = .ok (.iload_n 2, 1) := by decide +kernel
theorem dZQ_strip_6 : decode cZQ_strip 6 = .ok (.iload_n 3, 1) := by decide +kernel
theorem dZQ_strip_7 : decode cZQ_strip 7 = .ok (.invokestatic 65, 3) := by decide +kernel
theorem dZQ_strip_10 : decode cZQ_strip 10 = .ok (.ireturn, 1) := by decide +kernel
abbrev wsZQ_strip : List Cond := .code yZQ_strip cZQ_strip 4 (some .int) :: tbg
def wp_ZQ_strip (pw : Int32) (ph : Int32) (pn : Nat) (pf : Nat → Int32) (gw : Int32) (gh : Int32) (gn : Nat) (gf : Nat → Int32) (yk : Int32) (bl : Int32) (bf : Nat → Int32) (kn : Nat) (kf : Nat → Int32) (sn : Nat) (sf : Nat → Int32) (sd : Int32) (tw : Int32) (th : Int32) (tf : Nat → Int32) (uw : Int32) (uh : Int32) (uf : Nat → Int32) (a1 : Int32) (a2 : Int32) (a3 : Int32) (post : Int32 → (Nat → Int32) → Prop) : Prop := wp_ZQ_replaceSample gw gh gn gf a1 a2 a3 (fun (r_2 : Int32) (pf_1 : Nat → Int32) => post r_2 pf_1)
abbrev rm_ZQ_strip : Room := { frames := 3, cells := 0, slots := 0, locals := 64 }
set_option maxHeartbeats 4000000 in
set_option maxRecDepth 100000 in
theorem kt_ZQ_strip (l : Launch) (dC : Nat → ClassId) (dI : Nat → Nat → Nat) (cI : ClassId) (o0 op opa og oga oy ob oba os osa osb ot ota ou oua : Nat) (sz : Nat) (pw : Int32) (ph : Int32) (pn : Nat) (pf : Nat → Int32) (gw : Int32) (gh : Int32) (gn : Nat) (gf : Nat → Int32) (yk : Int32) (bl : Int32) (bf : Nat → Int32) (kn : Nat) (kf : Nat → Int32) (sn : Nat) (sf : Nat → Int32) (sd : Int32) (tw : Int32) (th : Int32) (tf : Nat → Int32) (uw : Int32) (uh : Int32) (uf : Nat → Int32) (a1 : Int32) (a2 : Int32) (a3 : Int32) (post : Int32 → (Nat → Int32) → Prop) (hw : wp_ZQ_strip pw ph pn pf gw gh gn gf yk bl bf kn kf sn sf sd tw th tf uw uh uf a1 a2 a3 post) : Met l yZQ_strip wsZQ_strip rm_ZQ_strip (gw_Pc dC dI [(cI, .int)] [.ref o0, .int a1, .int a2, .int a3] [(o0, .inr (5, [.ref op, .ref og, .ref oy, .ref ob, .ref os, .ref ot, .ref ou])), (op, .inr (1, [.int pw, .int ph, .ref opa])), (opa, .inl (cI, pn, .inl pf)), (og, .inr (1, [.int gw, .int gh, .ref oga])), (oga, .inl (cI, gn, .inl gf)), (oy, .inr (2, [.ref op, .int yk])), (ob, .inr (0, [.ref oba, .int bl])), (oba, .inl (cI, 256, .inl bf)), (os, .inr (3, [.ref op, .ref og, .ref osa, .ref osb, .int sd])), (osa, .inl (cI, kn, .inl kf)), (osb, .inl (cI, sn, .inl sf)), (ot, .inr (4, [.ref ota, .int tw, .int th])), (ota, .inl (cI, 64, .inl tf)), (ou, .inr (4, [.ref oua, .int uw, .int uh])), (oua, .inl (cI, 64, .inl uf))] sz) (va_Qi (fun (r : Int32) (u : (Nat → Int32)) => post r u) (fun u t => gw_B dC dI [(cI, .int)] (va_A [(o0, .inr (5, [.ref op, .ref og, .ref oy, .ref ob, .ref os, .ref ot, .ref ou])), (op, .inr (1, [.int pw, .int ph, .ref opa])), (opa, .inl (cI, pn, .inl pf)), (og, .inr (1, [.int gw, .int gh, .ref oga])), (oga, .inl (cI, gn, .inl gf)), (oy, .inr (2, [.ref op, .int yk])), (ob, .inr (0, [.ref oba, .int bl])), (oba, .inl (cI, 256, .inl bf)), (os, .inr (3, [.ref op, .ref og, .ref osa, .ref osb, .int sd])), (osa, .inl (cI, kn, .inl kf)), (osb, .inl (cI, sn, .inl sf)), (ot, .inr (4, [.ref ota, .int tw, .int th])), (ota, .inl (cI, 64, .inl tf)), (ou, .inr (4, [.ref oua, .int uw, .int uh])), (oua, .inl (cI, 64, .inl uf))] sz) [(o0, .inr (5, [.ref op, .ref og, .ref oy, .ref ob, .ref os, .ref ot, .ref ou])), (op, .inr (1, [.int pw, .int ph, .ref opa])), (opa, .inl (cI, pn, .inl pf)), (og, .inr (1, [.int gw, .int gh, .ref oga])), (oga, .inl (cI, gn, .inl u)), (oy, .inr (2, [.ref op, .int yk])), (ob, .inr (0, [.ref oba, .int bl])), (oba, .inl (cI, 256, .inl bf)), (os, .inr (3, [.ref op, .ref og, .ref osa, .ref osb, .int sd])), (osa, .inl (cI, kn, .inl kf)), (osb, .inl (cI, sn, .inl sf)), (ot, .inr (4, [.ref ota, .int tw, .int th])), (ota, .inl (cI, 64, .inl tf)), (ou, .inr (4, [.ref oua, .int uw, .int uh])), (oua, .inl (cI, 64, .inl uf))] t) (va_A [(o0, .inr (5, [.ref op, .ref og, .ref oy, .ref ob, .ref os, .ref ot, .ref ou])), (op, .inr (1, [.int pw, .int ph, .ref opa])), (opa, .inl (cI, pn, .inl pf)), (og, .inr (1, [.int gw, .int gh, .ref oga])), (oga, .inl (cI, gn, .inl gf)), (oy, .inr (2, [.ref op, .int yk])), (ob, .inr (0, [.ref oba, .int bl])), (oba, .inl (cI, 256, .inl bf)), (os, .inr (3, [.ref op, .ref og, .ref osa, .ref osb, .int sd])), (osa, .inl (cI, kn, .inl kf)), (osb, .inl (cI, sn, .inl sf)), (ot, .inr (4, [.ref ota, .int tw, .int th])), (ota, .inl (cI, 64, .inl tf)), (ou, .inr (4, [.ref oua, .int uw, .int uh])), (oua, .inl (cI, 64, .inl uf))] sz)) 0 0 (va_A [(o0, .inr (5, [.ref op, .ref og, .ref oy, .ref ob, .ref os, .ref ot, .ref ou])), (op, .inr (1, [.int pw, .int ph, .ref opa])), (opa, .inl (cI, pn, .inl pf)), (og, .inr (1, [.int gw, .int gh, .ref oga])), (oga, .inl (cI, gn, .inl gf)), (oy, .inr (2, [.ref op, .int yk])), (ob, .inr (0, [.ref oba, .int bl])), (oba, .inl (cI, 256, .inl bf)), (os, .inr (3, [.ref op, .ref og, .ref osa, .ref osb, .int sd])), (osa, .inl (cI, kn, .inl kf)), (osb, .inl (cI, sn, .inl sf)), (ot, .inr (4, [.ref ota, .int tw, .int th])), (ota, .inl (cI, 64, .inl tf)), (ou, .inr (4, [.ref oua, .int uw, .int uh])), (oua, .inl (cI, 64, .inl uf))] sz) := by
  refine Met.ofW (cc := cZQ_strip) (maxL := 4) (ret := (some .int)) (by decide) rfl ?_
  intro p e s m args below meth c s₁ B hml hv
  obtain ⟨ha9, hsz, hP, hK, hE, hD0⟩ := hv
  have hx := B.exec
  have hb := B.bytes
  have hr := B.returns
  have hts0 := atoms_spec (ws := wsZQ_strip) B.pre
  have hts : ∀ w ∈ tbg, w.before args s = true := fun w h => hts0 w (List.mem_cons_of_mem _ h)
  have hown : s.vm.findClass RZQ = some m.cls := findClass_of_methodNamed B.named
  have hlocks := B.notSynchronized
  subst hsz
  have hD := hD0.self (sz := s.heap.size)
  refine gx_Q (fun Q9 hQ9 => ?_)
  generalize hAe : va_A [(o0, .inr (5, [.ref op, .ref og, .ref oy, .ref ob, .ref os, .ref ot, .ref ou])), (op, .inr (1, [.int pw, .int ph, .ref opa])), (opa, .inl (cI, pn, .inl pf)), (og, .inr (1, [.int gw, .int gh, .ref oga])), (oga, .inl (cI, gn, .inl gf)), (oy, .inr (2, [.ref op, .int yk])), (ob, .inr (0, [.ref oba, .int bl])), (oba, .inl (cI, 256, .inl bf)), (os, .inr (3, [.ref op, .ref og, .ref osa, .ref osb, .int sd])), (osa, .inl (cI, kn, .inl kf)), (osb, .inl (cI, sn, .inl sf)), (ot, .inr (4, [.ref ota, .int tw, .int th])), (ota, .inl (cI, 64, .inl tf)), (ou, .inr (4, [.ref oua, .int uw, .int uh])), (oua, .inl (cI, 64, .inl uf))] s.heap.size = A at hD hQ9 ⊢
  have hA : ∀ q : Nat, s.heap.size ≤ q → A q := fun q h => by rw [← hAe]; exact Or.inr h
  have hS : va_S A s.heap s.heap [] := va_S.rf
  have hl := lv_entry ([.ref o0, .int a1, .int a2, .int a3]) (n := 4) (Nat.le_of_ble_eq_true rfl)
  have he9 : entryFrame m args 4 = F0 m 0 ((lg_sl [.ref o0, .int a1, .int a2, .int a3] ++ List.replicate (4 - (lg_sl ([.ref o0, .int a1, .int a2, .int a3] : List Value)).length) Slot.unset).toArray) [] := by rw [ha9]; exact lg_entry_eq m [.ref o0, .int a1, .int a2, .int a3] 4
  rw [he9]
  generalize (lg_sl ([.ref o0, .int a1, .int a2, .int a3] : List Value) ++ List.replicate (4 - (lg_sl ([.ref o0, .int a1, .int a2, .int a3] : List Value)).length) Slot.unset).toArray = ls at hl ⊢
  have hl : lv_has ls 4 [(0, .ref o0), (1, .int a1), (2, .int a2), (3, .int a3)] := hl
  refine lv_aload_n hx hb dZQ_strip_0 rfl (lv_at hl 0 rfl) ?_
  refine va_get (D := (dC, dI)) (ci := 5) (v := .ref og) (C := RZQ) (T := TZQ) (N := 7) hx hb hts inZQ hown hK hP 0 rfl rfl 1 (by decide) (hts _ mm_137) (fun _ h9 => h9) rfl dZQ_strip_1 ?_
  refine lv_iload_n hx hb dZQ_strip_4 rfl (lv_at hl 1 rfl) ?_
  refine lv_iload_n hx hb dZQ_strip_5 rfl (lv_at hl 2 rfl) ?_
  refine lv_iload_n hx hb dZQ_strip_6 rfl (lv_at hl 3 rfl) ?_
  have hPc := hP.sub (ws' := [(og, .inr (1, [.int gw, .int gh, .ref oga])), (oga, .inl (cI, gn, .inl gf))]) [3, 4] rfl
  have hDc := hD.sub (ws' := [(og, .inr (1, [.int gw, .int gh, .ref oga])), (oga, .inl (cI, gn, .inl gf))]) [3, 4] (by decide) rfl
  have hFc := va_free (wc := [(og, .inr (1, [.int gw, .int gh, .ref oga])), (oga, .inl (cI, gn, .inl gf))]) hD hS hA [3, 4] rfl
  refine va_calli (va_runS (As := [.ref og, .int a1, .int a2, .int a3]) (rest := []) ⟨hx, hb, hml, hown, hts⟩ (kt_ZQ_replaceSample l dC dI cI og oga _ gw gh gn gf a1 a2 a3 _ hw) (va_cwS 4 hts (tb_S mm_233 mm_234 mm_1 mm_235) rfl rfl rfl (by decide +kernel) ⟨Nat.le_of_ble_eq_true rfl, Nat.le_of_ble_eq_true rfl⟩) ⟨gw_blind, fun U hU hW => gw_pre hPc hDc hK hE hU hW⟩ rfl rfl hl.1 rfl (lv_room (Nat.le_of_ble_eq_true rfl)) dZQ_strip_7 ⟨Nat.le_of_ble_eq_true rfl, Nat.le_of_ble_eq_true rfl⟩) hS (fun q _ h => hFc q h) hFc (fun r_2 pf_1 t H1 locs ht hvm hw hB hz1 hk1 hS => ?_)
  obtain ⟨hP1, hK1, hD1⟩ := hB
  rw [ht] at hP1
  try dsimp only at hw
  obtain ⟨hP, hD⟩ := va_join (wr := [(o0, .inr (5, [.ref op, .ref og, .ref oy, .ref ob, .ref os, .ref ot, .ref ou])), (op, .inr (1, [.int pw, .int ph, .ref opa])), (opa, .inl (cI, pn, .inl pf)), (oy, .inr (2, [.ref op, .int yk])), (ob, .inr (0, [.ref oba, .int bl])), (oba, .inl (cI, 256, .inl bf)), (os, .inr (3, [.ref op, .ref og, .ref osa, .ref osb, .int sd])), (osa, .inl (cI, kn, .inl kf)), (osb, .inl (cI, sn, .inl sf)), (ot, .inr (4, [.ref ota, .int tw, .int th])), (ota, .inl (cI, 64, .inl tf)), (ou, .inr (4, [.ref oua, .int uw, .int uh])), (oua, .inl (cI, 64, .inl uf))]) (w1 := [(og, .inr (1, [.int gw, .int gh, .ref oga])), (oga, .inl (cI, gn, .inl pf_1))]) hP hD [3, 4] [0, 1, 2, 5, 6, 7, 8, 9, 10, 11, 12, 13, 14] rfl rfl (by decide) (by decide) hk1 hFc hP1 hD1
  generalize H1 = H at hP hS ⊢
  have hP : va_P (dC, dI) vwCl [(o0, .inr (5, [.ref op, .ref og, .ref oy, .ref ob, .ref os, .ref ot, .ref ou])), (op, .inr (1, [.int pw, .int ph, .ref opa])), (opa, .inl (cI, pn, .inl pf)), (oy, .inr (2, [.ref op, .int yk])), (ob, .inr (0, [.ref oba, .int bl])), (oba, .inl (cI, 256, .inl bf)), (os, .inr (3, [.ref op, .ref og, .ref osa, .ref osb, .int sd])), (osa, .inl (cI, kn, .inl kf)), (osb, .inl (cI, sn, .inl sf)), (ot, .inr (4, [.ref ota, .int tw, .int th])), (ota, .inl (cI, 64, .inl tf)), (ou, .inr (4, [.ref oua, .int uw, .int uh])), (oua, .inl (cI, 64, .inl uf)), (og, .inr (1, [.int gw, .int gh, .ref oga])), (oga, .inl (cI, gn, .inl pf_1))] H := hP
  have hD : va_D A [(o0, .inr (5, [.ref op, .ref og, .ref oy, .ref ob, .ref os, .ref ot, .ref ou])), (op, .inr (1, [.int pw, .int ph, .ref opa])), (opa, .inl (cI, pn, .inl pf)), (oy, .inr (2, [.ref op, .int yk])), (ob, .inr (0, [.ref oba, .int bl])), (oba, .inl (cI, 256, .inl bf)), (os, .inr (3, [.ref op, .ref og, .ref osa, .ref osb, .int sd])), (osa, .inl (cI, kn, .inl kf)), (osb, .inl (cI, sn, .inl sf)), (ot, .inr (4, [.ref ota, .int tw, .int th])), (ota, .inl (cI, 64, .inl tf)), (ou, .inr (4, [.ref oua, .int uw, .int uh])), (oua, .inl (cI, 64, .inl uf)), (og, .inr (1, [.int gw, .int gh, .ref oga])), (oga, .inl (cI, gn, .inl pf_1))] := hD
  have hP9 := hP.sub (ws' := [(o0, .inr (5, [.ref op, .ref og, .ref oy, .ref ob, .ref os, .ref ot, .ref ou])), (op, .inr (1, [.int pw, .int ph, .ref opa])), (opa, .inl (cI, pn, .inl pf)), (og, .inr (1, [.int gw, .int gh, .ref oga])), (oga, .inl (cI, gn, .inl pf_1)), (oy, .inr (2, [.ref op, .int yk])), (ob, .inr (0, [.ref oba, .int bl])), (oba, .inl (cI, 256, .inl bf)), (os, .inr (3, [.ref op, .ref og, .ref osa, .ref osb, .int sd])), (osa, .inl (cI, kn, .inl kf)), (osb, .inl (cI, sn, .inl sf)), (ot, .inr (4, [.ref ota, .int tw, .int th])), (ota, .inl (cI, 64, .inl tf)), (ou, .inr (4, [.ref oua, .int uw, .int uh])), (oua, .inl (cI, 64, .inl uf))]) [0, 1, 2, 13, 14, 3, 4, 5, 6, 7, 8, 9, 10, 11, 12] rfl
  have hD9 := hD.sub (ws' := [(o0, .inr (5, [.ref op, .ref og, .ref oy, .ref ob, .ref os, .ref ot, .ref ou])), (op, .inr (1, [.int pw, .int ph, .ref opa])), (opa, .inl (cI, pn, .inl pf)), (og, .inr (1, [.int gw, .int gh, .ref oga])), (oga, .inl (cI, gn, .inl pf_1)), (oy, .inr (2, [.ref op, .int yk])), (ob, .inr (0, [.ref oba, .int bl])), (oba, .inl (cI, 256, .inl bf)), (os, .inr (3, [.ref op, .ref og, .ref osa, .ref osb, .int sd])), (osa, .inl (cI, kn, .inl kf)), (osb, .inl (cI, sn, .inl sf)), (ot, .inr (4, [.ref ota, .int tw, .int th])), (ota, .inl (cI, 64, .inl tf)), (ou, .inr (4, [.ref oua, .int uw, .int uh])), (oua, .inl (cI, 64, .inl uf))]) [0, 1, 2, 13, 14, 3, 4, 5, 6, 7, 8, 9, 10, 11, 12] (by decide) rfl
  subst hQ9
  exact W.iret (v := r_2) hx hb hr (fun t ht hW => ⟨⟨r_2, pf_1, rfl, hw, by rw [ht]; exact hP9, va_K.moved hW.alike hK, hD9⟩, hS.F ht⟩) hS.2.2 dZQ_strip_10
def xp_ZQ_strip_I (pw : Int32) (ph : Int32) (pn : Nat) (pf : Nat → Int32) (gw : Int32) (gh : Int32) (gn : Nat) (gf : Nat → Int32) (yk : Int32) (bl : Int32) (bf : Nat → Int32) (kn : Nat) (kf : Nat → Int32) (sn : Nat) (sf : Nat → Int32) (sd : Int32) (tw : Int32) (th : Int32) (tf : Nat → Int32) (uw : Int32) (uh : Int32) (uf : Nat → Int32) (a1 : Int32) (a2 : Int32) (a3 : Int32) : Prop := xp_ZQ_replaceSample_I gw gh gn gf a1 a2 a3
abbrev rm_ZQ_strip_I : Room := { frames := 8, cells := 1, slots := 6, locals := 135 }
set_option maxHeartbeats 4000000 in
set_option maxRecDepth 100000 in
theorem kx_ZQ_strip_I (l : Launch) (hl9 : l.stackTraces = false) (dC : Nat → ClassId) (dI : Nat → Nat → Nat) (cI : ClassId) (o0 op opa og oga oy ob oba os osa osb ot ota ou oua : Nat) (H0 : Heap) (pw : Int32) (ph : Int32) (pn : Nat) (pf : Nat → Int32) (gw : Int32) (gh : Int32) (gn : Nat) (gf : Nat → Int32) (yk : Int32) (bl : Int32) (bf : Nat → Int32) (kn : Nat) (kf : Nat → Int32) (sn : Nat) (sf : Nat → Int32) (sd : Int32) (tw : Int32) (th : Int32) (tf : Nat → Int32) (uw : Int32) (uh : Int32) (uf : Nat → Int32) (a1 : Int32) (a2 : Int32) (a3 : Int32) (hw : xp_ZQ_strip_I pw ph pn pf gw gh gn gf yk bl bf kn kf sn sf sd tw th tf uw uh uf a1 a2 a3) : tx_Met l yZQ_strip wsZQ_strip rm_ZQ_strip_I (tr_Pc H0 dC dI [(cI, .int)] [.ref o0, .int a1, .int a2, .int a3] [(o0, .inr (5, [.ref op, .ref og, .ref oy, .ref ob, .ref os, .ref ot, .ref ou])), (op, .inr (1, [.int pw, .int ph, .ref opa])), (opa, .inl (cI, pn, .inl pf)), (og, .inr (1, [.int gw, .int gh, .ref oga])), (oga, .inl (cI, gn, .inl gf)), (oy, .inr (2, [.ref op, .int yk])), (ob, .inr (0, [.ref oba, .int bl])), (oba, .inl (cI, 256, .inl bf)), (os, .inr (3, [.ref op, .ref og, .ref osa, .ref osb, .int sd])), (osa, .inl (cI, kn, .inl kf)), (osb, .inl (cI, sn, .inl sf)), (ot, .inr (4, [.ref ota, .int tw, .int th])), (ota, .inl (cI, 64, .inl tf)), (ou, .inr (4, [.ref oua, .int uw, .int uh])), (oua, .inl (cI, 64, .inl uf))]) "java/lang/IndexOutOfBoundsException" := by
  refine tx_ofW (cc := cZQ_strip) (maxL := 4) (ret := (some .int)) (by decide) rfl ?_
  intro p e s m args below meth c s₁ B hml hnX hv
  obtain ⟨ha9, hP, hK, hE, hT⟩ := hv
  have hx := B.exec
  have hb := B.bytes
  have hr := B.returns
  have hts0 := atoms_spec (ws := wsZQ_strip) B.pre
  have hts : ∀ w ∈ tbg, w.before args s = true := fun w h => hts0 w (List.mem_cons_of_mem _ h)
  have hown : s.vm.findClass RZQ = some m.cls := findClass_of_methodNamed B.named
  have hlocks := B.notSynchronized
  refine gx_Q (fun Q9 hQ9 => ?_)
  have hl := lv_entry ([.ref o0, .int a1, .int a2, .int a3]) (n := 4) (Nat.le_of_ble_eq_true rfl)
  have he9 : entryFrame m args 4 = F0 m 0 ((lg_sl [.ref o0, .int a1, .int a2, .int a3] ++ List.replicate (4 - (lg_sl ([.ref o0, .int a1, .int a2, .int a3] : List Value)).length) Slot.unset).toArray) [] := by rw [ha9]; exact lg_entry_eq m [.ref o0, .int a1, .int a2, .int a3] 4
  rw [he9]
  generalize (lg_sl ([.ref o0, .int a1, .int a2, .int a3] : List Value) ++ List.replicate (4 - (lg_sl ([.ref o0, .int a1, .int a2, .int a3] : List Value)).length) Slot.unset).toArray = ls at hl ⊢
  have hl : lv_has ls 4 [(0, .ref o0), (1, .int a1), (2, .int a2), (3, .int a3)] := hl
  refine lv_aload_n hx hb dZQ_strip_0 rfl (lv_at hl 0 rfl) ?_
  refine va_get (D := (dC, dI)) (ci := 5) (v := .ref og) (C := RZQ) (T := TZQ) (N := 7) hx hb hts inZQ hown hK hP 0 rfl rfl 1 (by decide) (hts _ mm_137) (fun _ h9 => h9) rfl dZQ_strip_1 ?_
  refine lv_iload_n hx hb dZQ_strip_4 rfl (lv_at hl 1 rfl) ?_
  refine lv_iload_n hx hb dZQ_strip_5 rfl (lv_at hl 2 rfl) ?_
  refine lv_iload_n hx hb dZQ_strip_6 rfl (lv_at hl 3 rfl) ?_
  subst hQ9
  have hPx := hP.sub (ws' := [(og, .inr (1, [.int gw, .int gh, .ref oga])), (oga, .inl (cI, gn, .inl gf))]) [3, 4] rfl
  exact tx_callS (As := [.ref og, .int a1, .int a2, .int a3]) (rest := []) ⟨hx, hb, hml, hown, hts⟩ (kx_ZQ_replaceSample_I l hl9 dC dI cI og oga H0 gw gh gn gf a1 a2 a3 hw) (va_cwS 4 hts (tb_S mm_233 mm_234 mm_1 mm_235) rfl rfl rfl (by decide +kernel) ⟨Nat.le_of_ble_eq_true rfl, Nat.le_of_ble_eq_true rfl⟩) ⟨tr_blind, fun U hU hW => tr_pre hPx hK hE hT hT.1 hU hW⟩ rfl hl.1 rfl (Nat.le_of_ble_eq_true rfl) dZQ_strip_7 hnX hlocks ⟨Nat.le_of_ble_eq_true rfl, Nat.le_of_ble_eq_true rfl⟩
def xp_ZQ_strip_A (pw : Int32) (ph : Int32) (pn : Nat) (pf : Nat → Int32) (gw : Int32) (gh : Int32) (gn : Nat) (gf : Nat → Int32) (yk : Int32) (bl : Int32) (bf : Nat → Int32) (kn : Nat) (kf : Nat → Int32) (sn : Nat) (sf : Nat → Int32) (sd : Int32) (tw : Int32) (th : Int32) (tf : Nat → Int32) (uw : Int32) (uh : Int32) (uf : Nat → Int32) (a1 : Int32) (a2 : Int32) (a3 : Int32) : Prop := xp_ZQ_replaceSample_A gw gh gn gf a1 a2 a3
abbrev rm_ZQ_strip_A : Room := { frames := 8, cells := 1, slots := 6, locals := 135 }
set_option maxHeartbeats 4000000 in
set_option maxRecDepth 100000 in
theorem kx_ZQ_strip_A (l : Launch) (hl9 : l.stackTraces = false) (dC : Nat → ClassId) (dI : Nat → Nat → Nat) (cI : ClassId) (o0 op opa og oga oy ob oba os osa osb ot ota ou oua : Nat) (H0 : Heap) (pw : Int32) (ph : Int32) (pn : Nat) (pf : Nat → Int32) (gw : Int32) (gh : Int32) (gn : Nat) (gf : Nat → Int32) (yk : Int32) (bl : Int32) (bf : Nat → Int32) (kn : Nat) (kf : Nat → Int32) (sn : Nat) (sf : Nat → Int32) (sd : Int32) (tw : Int32) (th : Int32) (tf : Nat → Int32) (uw : Int32) (uh : Int32) (uf : Nat → Int32) (a1 : Int32) (a2 : Int32) (a3 : Int32) (hw : xp_ZQ_strip_A pw ph pn pf gw gh gn gf yk bl bf kn kf sn sf sd tw th tf uw uh uf a1 a2 a3) : tx_Met l yZQ_strip wsZQ_strip rm_ZQ_strip_A (tr_Pc H0 dC dI [(cI, .int)] [.ref o0, .int a1, .int a2, .int a3] [(o0, .inr (5, [.ref op, .ref og, .ref oy, .ref ob, .ref os, .ref ot, .ref ou])), (op, .inr (1, [.int pw, .int ph, .ref opa])), (opa, .inl (cI, pn, .inl pf)), (og, .inr (1, [.int gw, .int gh, .ref oga])), (oga, .inl (cI, gn, .inl gf)), (oy, .inr (2, [.ref op, .int yk])), (ob, .inr (0, [.ref oba, .int bl])), (oba, .inl (cI, 256, .inl bf)), (os, .inr (3, [.ref op, .ref og, .ref osa, .ref osb, .int sd])), (osa, .inl (cI, kn, .inl kf)), (osb, .inl (cI, sn, .inl sf)), (ot, .inr (4, [.ref ota, .int tw, .int th])), (ota, .inl (cI, 64, .inl tf)), (ou, .inr (4, [.ref oua, .int uw, .int uh])), (oua, .inl (cI, 64, .inl uf))]) "java/lang/IllegalArgumentException" := by
  refine tx_ofW (cc := cZQ_strip) (maxL := 4) (ret := (some .int)) (by decide) rfl ?_
  intro p e s m args below meth c s₁ B hml hnX hv
  obtain ⟨ha9, hP, hK, hE, hT⟩ := hv
  have hx := B.exec
  have hb := B.bytes
  have hr := B.returns
  have hts0 := atoms_spec (ws := wsZQ_strip) B.pre
  have hts : ∀ w ∈ tbg, w.before args s = true := fun w h => hts0 w (List.mem_cons_of_mem _ h)
  have hown : s.vm.findClass RZQ = some m.cls := findClass_of_methodNamed B.named
  have hlocks := B.notSynchronized
  refine gx_Q (fun Q9 hQ9 => ?_)
  have hl := lv_entry ([.ref o0, .int a1, .int a2, .int a3]) (n := 4) (Nat.le_of_ble_eq_true rfl)
  have he9 : entryFrame m args 4 = F0 m 0 ((lg_sl [.ref o0, .int a1, .int a2, .int a3] ++ List.replicate (4 - (lg_sl ([.ref o0, .int a1, .int a2, .int a3] : List Value)).length) Slot.unset).toArray) [] := by rw [ha9]; exact lg_entry_eq m [.ref o0, .int a1, .int a2, .int a3] 4
  rw [he9]
  generalize (lg_sl ([.ref o0, .int a1, .int a2, .int a3] : List Value) ++ List.replicate (4 - (lg_sl ([.ref o0, .int a1, .int a2, .int a3] : List Value)).length) Slot.unset).toArray = ls at hl ⊢
  have hl : lv_has ls 4 [(0, .ref o0), (1, .int a1), (2, .int a2), (3, .int a3)] := hl
  refine lv_aload_n hx hb dZQ_strip_0 rfl (lv_at hl 0 rfl) ?_
  refine va_get (D := (dC, dI)) (ci := 5) (v := .ref og) (C := RZQ) (T := TZQ) (N := 7) hx hb hts inZQ hown hK hP 0 rfl rfl 1 (by decide) (hts _ mm_137) (fun _ h9 => h9) rfl dZQ_strip_1 ?_
  refine lv_iload_n hx hb dZQ_strip_4 rfl (lv_at hl 1 rfl) ?_
  refine lv_iload_n hx hb dZQ_strip_5 rfl (lv_at hl 2 rfl) ?_
  refine lv_iload_n hx hb dZQ_strip_6 rfl (lv_at hl 3 rfl) ?_
  subst hQ9
  have hPx := hP.sub (ws' := [(og, .inr (1, [.int gw, .int gh, .ref oga])), (oga, .inl (cI, gn, .inl gf))]) [3, 4] rfl
  exact tx_callS (As := [.ref og, .int a1, .int a2, .int a3]) (rest := []) ⟨hx, hb, hml, hown, hts⟩ (kx_ZQ_replaceSample_A l hl9 dC dI cI og oga H0 gw gh gn gf a1 a2 a3 hw) (va_cwS 4 hts (tb_S mm_233 mm_234 mm_1 mm_235) rfl rfl rfl (by decide +kernel) ⟨Nat.le_of_ble_eq_true rfl, Nat.le_of_ble_eq_true rfl⟩) ⟨tr_blind, fun U hU hW => tr_pre hPx hK hE hT hT.1 hU hW⟩ rfl hl.1 rfl (Nat.le_of_ble_eq_true rfl) dZQ_strip_7 hnX hlocks ⟨Nat.le_of_ble_eq_true rfl, Nat.le_of_ble_eq_true rfl⟩
theorem dZQ_seam_0 : decode cZQ_seam 0 = .ok (.iload_n 1, 1) := by decide +kernel
theorem dZQ_seam_1 : decode cZQ_seam 1 = .ok (.iconst 1, 1) := by decide +kernel
theorem dZQ_seam_2 : decode cZQ_seam 2 = .ok (.if_icmp .lt 20, 3) := by decide +kernel
theorem dZQ_seam_5 : decode cZQ_seam 5 = .ok (.iload_n 1, 1) := by decide +kernel
theorem dZQ_seam_6 : decode cZQ_seam 6 = .ok (.bipush 8, 2) := by decide +kernel
theorem dZQ_seam_8 : decode cZQ_seam 8 = .ok (.if_icmp .gt 14, 3) := by decide +kernel
theorem dZQ_seam_11 : decode cZQ_seam 11 = .ok (.iload_n 1, 1) := by decide +kernel
theorem dZQ_seam_12 : decode cZQ_seam 12 = .ok (.aload_n 0, 1) := by decide +kernel
theorem dZQ_seam_13 : decode cZQ_seam 13 = .ok (.getfield 23, 3) := by decide +kernel
theorem dZQ_seam_16 : decode cZQ_seam 16 = .ok (.getfield 131, 3) := by decide +kernel
theorem dZQ_seam_19 : decode cZQ_seam 19 = .ok (.if_icmp .le 13, 3) := by decide +kernel
theorem dZQ_seam_22 : decode cZQ_seam 22 = .ok (.new 164, 3) := by decide +kernel
theorem dZQ_seam_25 : decode cZQ_seam 25 = .ok (.dup, 1) := by decide +kernel
theorem dZQ_seam_26 : decode cZQ_seam 26 = .ok (.ldc 209, 2) := by decide +kernel
theorem dZQ_seam_28 : decode cZQ_seam 28 = .ok (.invokespecial 168, 3) := by decide +kernel
theorem dZQ_seam_31 : decode cZQ_seam 31 = .ok (.athrow, 1) := by decide +kernel
theorem dZQ_seam_32 : decode cZQ_seam 32 = .ok (.aload_n 0, 1) := by decide +kernel
theorem dZQ_seam_33 : decode cZQ_seam 33 = .ok (.getfield 51, 3) := by decide +kernel
theorem dZQ_seam_36 : decode cZQ_seam 36 = .ok (.iload_n 1, 1) := by decide +kernel
theorem dZQ_seam_37 : decode cZQ_seam 37 = .ok (.invokevirtual 211, 3) := by decide +kernel
theorem dZQ_seam_40 : decode cZQ_seam 40 = .ok (.ireturn, 1) := by decide +kernel
abbrev wsZQ_seam : List Cond := .code yZQ_seam cZQ_seam 2 (some .int) :: tbg
def wp_ZQ_seam (pw : Int32) (ph : Int32) (pn : Nat) (pf : Nat → Int32) (gw : Int32) (gh : Int32) (gn : Nat) (gf : Nat → Int32) (yk : Int32) (bl : Int32) (bf : Nat → Int32) (kn : Nat) (kf : Nat → Int32) (sn : Nat) (sf : Nat → Int32) (sd : Int32) (tw : Int32) (th : Int32) (tf : Nat → Int32) (uw : Int32) (uh : Int32) (uf : Nat → Int32) (a1 : Int32) (post : Int32 → (Nat → Int32) → (Nat → Int32) → Int32 → Prop) : Prop := ((a1 < (1 : Int32) → False) ∧ (¬ a1 < (1 : Int32) → (((8 : Int32) < a1 → False) ∧ (¬ (8 : Int32) < a1 → ((a1 ≤ pw → (wp_ZS_findLeast kn kf sn sf sd pw ph pn pf gw gh gn gf a1 (fun (r_7 : Int32) (kf_4 : Nat → Int32) (sf_5 : Nat → Int32) (sd_6 : Int32) => post r_7 kf_4 sf_5 sd_6))) ∧ (¬ a1 ≤ pw → False))))))
abbrev rm_ZQ_seam : Room := { frames := 4, cells := 0, slots := 0, locals := 97 }
set_option maxHeartbeats 4000000 in
set_option maxRecDepth 100000 in
theorem kt_ZQ_seam (l : Launch) (dC : Nat → ClassId) (dI : Nat → Nat → Nat) (cI : ClassId) (o0 op opa og oga oy ob oba os osa osb ot ota ou oua : Nat) (sz : Nat) (pw : Int32) (ph : Int32) (pn : Nat) (pf : Nat → Int32) (gw : Int32) (gh : Int32) (gn : Nat) (gf : Nat → Int32) (yk : Int32) (bl : Int32) (bf : Nat → Int32) (kn : Nat) (kf : Nat → Int32) (sn : Nat) (sf : Nat → Int32) (sd : Int32) (tw : Int32) (th : Int32) (tf : Nat → Int32) (uw : Int32) (uh : Int32) (uf : Nat → Int32) (a1 : Int32) (post : Int32 → (Nat → Int32) → (Nat → Int32) → Int32 → Prop) (hw : wp_ZQ_seam pw ph pn pf gw gh gn gf yk bl bf kn kf sn sf sd tw th tf uw uh uf a1 post) : Met l yZQ_seam wsZQ_seam rm_ZQ_seam (gw_Pc dC dI [(cI, .int)] [.ref o0, .int a1] [(o0, .inr (5, [.ref op, .ref og, .ref oy, .ref ob, .ref os, .ref ot, .ref ou])), (op, .inr (1, [.int pw, .int ph, .ref opa])), (opa, .inl (cI, pn, .inl pf)), (og, .inr (1, [.int gw, .int gh, .ref oga])), (oga, .inl (cI, gn, .inl gf)), (oy, .inr (2, [.ref op, .int yk])), (ob, .inr (0, [.ref oba, .int bl])), (oba, .inl (cI, 256, .inl bf)), (os, .inr (3, [.ref op, .ref og, .ref osa, .ref osb, .int sd])), (osa, .inl (cI, kn, .inl kf)), (osb, .inl (cI, sn, .inl sf)), (ot, .inr (4, [.ref ota, .int tw, .int th])), (ota, .inl (cI, 64, .inl tf)), (ou, .inr (4, [.ref oua, .int uw, .int uh])), (oua, .inl (cI, 64, .inl uf))] sz) (va_Qi (fun (r : Int32) (u : (Nat → Int32) × (Nat → Int32) × Int32) => post r u.1 u.2.1 u.2.2) (fun u t => gw_B dC dI [(cI, .int)] (va_A [(o0, .inr (5, [.ref op, .ref og, .ref oy, .ref ob, .ref os, .ref ot, .ref ou])), (op, .inr (1, [.int pw, .int ph, .ref opa])), (opa, .inl (cI, pn, .inl pf)), (og, .inr (1, [.int gw, .int gh, .ref oga])), (oga, .inl (cI, gn, .inl gf)), (oy, .inr (2, [.ref op, .int yk])), (ob, .inr (0, [.ref oba, .int bl])), (oba, .inl (cI, 256, .inl bf)), (os, .inr (3, [.ref op, .ref og, .ref osa, .ref osb, .int sd])), (osa, .inl (cI, kn, .inl kf)), (osb, .inl (cI, sn, .inl sf)), (ot, .inr (4, [.ref ota, .int tw, .int th])), (ota, .inl (cI, 64, .inl tf)), (ou, .inr (4, [.ref oua, .int uw, .int uh])), (oua, .inl (cI, 64, .inl uf))] sz) [(o0, .inr (5, [.ref op, .ref og, .ref oy, .ref ob, .ref os, .ref ot, .ref ou])), (op, .inr (1, [.int pw, .int ph, .ref opa])), (opa, .inl (cI, pn, .inl pf)), (og, .inr (1, [.int gw, .int gh, .ref oga])), (oga, .inl (cI, gn, .inl gf)), (oy, .inr (2, [.ref op, .int yk])), (ob, .inr (0, [.ref oba, .int bl])), (oba, .inl (cI, 256, .inl bf)), (os, .inr (3, [.ref op, .ref og, .ref osa, .ref osb, .int u.2.2])), (osa, .inl (cI, kn, .inl u.1)), (osb, .inl (cI, sn, .inl u.2.1)), (ot, .inr (4, [.ref ota, .int tw, .int th])), (ota, .inl (cI, 64, .inl tf)), (ou, .inr (4, [.ref oua, .int uw, .int uh])), (oua, .inl (cI, 64, .inl uf))] t) (va_A [(o0, .inr (5, [.ref op, .ref og, .ref oy, .ref ob, .ref os, .ref ot, .ref ou])), (op, .inr (1, [.int pw, .int ph, .ref opa])), (opa, .inl (cI, pn, .inl pf)), (og, .inr (1, [.int gw, .int gh, .ref oga])), (oga, .inl (cI, gn, .inl gf)), (oy, .inr (2, [.ref op, .int yk])), (ob, .inr (0, [.ref oba, .int bl])), (oba, .inl (cI, 256, .inl bf)), (os, .inr (3, [.ref op, .ref og, .ref osa, .ref osb, .int sd])), (osa, .inl (cI, kn, .inl kf)), (osb, .inl (cI, sn, .inl sf)), (ot, .inr (4, [.ref ota, .int tw, .int th])), (ota, .inl (cI, 64, .inl tf)), (ou, .inr (4, [.ref oua, .int uw, .int uh])), (oua, .inl (cI, 64, .inl uf))] sz)) 0 0 (va_A [(o0, .inr (5, [.ref op, .ref og, .ref oy, .ref ob, .ref os, .ref ot, .ref ou])), (op, .inr (1, [.int pw, .int ph, .ref opa])), (opa, .inl (cI, pn, .inl pf)), (og, .inr (1, [.int gw, .int gh, .ref oga])), (oga, .inl (cI, gn, .inl gf)), (oy, .inr (2, [.ref op, .int yk])), (ob, .inr (0, [.ref oba, .int bl])), (oba, .inl (cI, 256, .inl bf)), (os, .inr (3, [.ref op, .ref og, .ref osa, .ref osb, .int sd])), (osa, .inl (cI, kn, .inl kf)), (osb, .inl (cI, sn, .inl sf)), (ot, .inr (4, [.ref ota, .int tw, .int th])), (ota, .inl (cI, 64, .inl tf)), (ou, .inr (4, [.ref oua, .int uw, .int uh])), (oua, .inl (cI, 64, .inl uf))] sz) := by
  refine Met.ofW (cc := cZQ_seam) (maxL := 2) (ret := (some .int)) (by decide) rfl ?_
  intro p e s m args below meth c s₁ B hml hv
  obtain ⟨ha9, hsz, hP, hK, hE, hD0⟩ := hv
  have hx := B.exec
  have hb := B.bytes
  have hr := B.returns
  have hts0 := atoms_spec (ws := wsZQ_seam) B.pre
  have hts : ∀ w ∈ tbg, w.before args s = true := fun w h => hts0 w (List.mem_cons_of_mem _ h)
  have hown : s.vm.findClass RZQ = some m.cls := findClass_of_methodNamed B.named
  have hlocks := B.notSynchronized
  subst hsz
  have hD := hD0.self (sz := s.heap.size)
  refine gx_Q (fun Q9 hQ9 => ?_)
  generalize hAe : va_A [(o0, .inr (5, [.ref op, .ref og, .ref oy, .ref ob, .ref os, .ref ot, .ref ou])), (op, .inr (1, [.int pw, .int ph, .ref opa])), (opa, .inl (cI, pn, .inl pf)), (og, .inr (1, [.int gw, .int gh, .ref oga])), (oga, .inl (cI, gn, .inl gf)), (oy, .inr (2, [.ref op, .int yk])), (ob, .inr (0, [.ref oba, .int bl])), (oba, .inl (cI, 256, .inl bf)), (os, .inr (3, [.ref op, .ref og, .ref osa, .ref osb, .int sd])), (osa, .inl (cI, kn, .inl kf)), (osb, .inl (cI, sn, .inl sf)), (ot, .inr (4, [.ref ota, .int tw, .int th])), (ota, .inl (cI, 64, .inl tf)), (ou, .inr (4, [.ref oua, .int uw, .int uh])), (oua, .inl (cI, 64, .inl uf))] s.heap.size = A at hD hQ9 ⊢
  have hA : ∀ q : Nat, s.heap.size ≤ q → A q := fun q h => by rw [← hAe]; exact Or.inr h
  have hS : va_S A s.heap s.heap [] := va_S.rf
  have hl := lv_entry ([.ref o0, .int a1]) (n := 2) (Nat.le_of_ble_eq_true rfl)
  have he9 : entryFrame m args 2 = F0 m 0 ((lg_sl [.ref o0, .int a1] ++ List.replicate (2 - (lg_sl ([.ref o0, .int a1] : List Value)).length) Slot.unset).toArray) [] := by rw [ha9]; exact lg_entry_eq m [.ref o0, .int a1] 2
  rw [he9]
  generalize (lg_sl ([.ref o0, .int a1] : List Value) ++ List.replicate (2 - (lg_sl ([.ref o0, .int a1] : List Value)).length) Slot.unset).toArray = ls at hl ⊢
  have hl : lv_has ls 2 [(0, .ref o0), (1, .int a1)] := hl
  refine lv_iload_n hx hb dZQ_seam_0 rfl (lv_at hl 1 rfl) ?_
  refine lv_iconst (v := (1 : Int32)) hx hb dZQ_seam_1 (by decide) ?_
  refine lv_icmp_lt (tgt := 22) hx hb dZQ_seam_2 (by decide) (fun c_1 => ?_) (fun c_1 => ?_)
  · have hw := hw.1 c_1
    exact False.elim hw
  · have hw := hw.2 c_1
    refine lv_iload_n hx hb dZQ_seam_5 rfl (lv_at hl 1 rfl) ?_
    refine lv_bipush (v := (8 : Int32)) hx hb dZQ_seam_6 (by decide) ?_
    refine lv_icmp_gt (tgt := 22) hx hb dZQ_seam_8 (by decide) (fun c_2 => ?_) (fun c_2 => ?_)
    · have hw := hw.1 c_2
      exact False.elim hw
    · have hw := hw.2 c_2
      refine lv_iload_n hx hb dZQ_seam_11 rfl (lv_at hl 1 rfl) ?_
      refine lv_aload_n hx hb dZQ_seam_12 rfl (lv_at hl 0 rfl) ?_
      refine va_get (D := (dC, dI)) (ci := 5) (v := .ref op) (C := RZQ) (T := TZQ) (N := 7) hx hb hts inZQ hown hK hP 0 rfl rfl 0 (by decide) (hts _ mm_136) (fun _ h9 => h9) rfl dZQ_seam_13 ?_
      refine va_get (D := (dC, dI)) (ci := 1) (v := .int pw) (C := RZP) (T := TZP) (N := 3) hx hb hts inZP hown hK hP 1 rfl rfl 0 (by decide) (hts _ mm_40) (fun _ h9 => h9) rfl dZQ_seam_16 ?_
      refine lv_icmp_le (tgt := 32) hx hb dZQ_seam_19 (by decide) (fun c_3 => ?_) (fun c_3 => ?_)
      · have hw := hw.1 c_3
        refine lv_aload_n hx hb dZQ_seam_32 rfl (lv_at hl 0 rfl) ?_
        refine va_get (D := (dC, dI)) (ci := 5) (v := .ref os) (C := RZQ) (T := TZQ) (N := 7) hx hb hts inZQ hown hK hP 0 rfl rfl 4 (by decide) (hts _ mm_140) (fun _ h9 => h9) rfl dZQ_seam_33 ?_
        refine lv_iload_n hx hb dZQ_seam_36 rfl (lv_at hl 1 rfl) ?_
        have hPc := hP.sub (ws' := [(os, .inr (3, [.ref op, .ref og, .ref osa, .ref osb, .int sd])), (osa, .inl (cI, kn, .inl kf)), (osb, .inl (cI, sn, .inl sf)), (op, .inr (1, [.int pw, .int ph, .ref opa])), (opa, .inl (cI, pn, .inl pf)), (og, .inr (1, [.int gw, .int gh, .ref oga])), (oga, .inl (cI, gn, .inl gf))]) [8, 9, 10, 1, 2, 3, 4] rfl
        have hDc := hD.sub (ws' := [(os, .inr (3, [.ref op, .ref og, .ref osa, .ref osb, .int sd])), (osa, .inl (cI, kn, .inl kf)), (osb, .inl (cI, sn, .inl sf)), (op, .inr (1, [.int pw, .int ph, .ref opa])), (opa, .inl (cI, pn, .inl pf)), (og, .inr (1, [.int gw, .int gh, .ref oga])), (oga, .inl (cI, gn, .inl gf))]) [8, 9, 10, 1, 2, 3, 4] (by decide) rfl
        have hFc := va_free (wc := [(os, .inr (3, [.ref op, .ref og, .ref osa, .ref osb, .int sd])), (osa, .inl (cI, kn, .inl kf)), (osb, .inl (cI, sn, .inl sf)), (op, .inr (1, [.int pw, .int ph, .ref opa])), (opa, .inl (cI, pn, .inl pf)), (og, .inr (1, [.int gw, .int gh, .ref oga])), (oga, .inl (cI, gn, .inl gf))]) hD hS hA [8, 9, 10, 1, 2, 3, 4] rfl
        refine va_calli (va_runV (As := [.int a1]) (rest := []) ⟨hx, hb, hml, hown, hts⟩ (kt_ZS_findLeast l dC dI cI os osa osb op opa og oga _ kn kf sn sf sd pw ph pn pf gw gh gn gf a1 _ hw) (cwV 1 hts (tb_V mm_583 mm_584 mm_585 mm_6 mm_586) rfl rfl rfl (by decide +kernel) ⟨Nat.le_of_ble_eq_true rfl, Nat.le_of_ble_eq_true rfl⟩) ⟨gw_blind, va_recv hK hPc (ci := 3) (q0 := 0) rfl rfl, fun U hU hW => gw_pre hPc hDc hK hE hU hW⟩ rfl rfl hl.1 rfl (lv_room (Nat.le_of_ble_eq_true rfl)) dZQ_seam_37 ⟨Nat.le_of_ble_eq_true rfl, Nat.le_of_ble_eq_true rfl⟩) hS (fun q _ h => hFc q h) hFc (fun r_7 u t H1 locs ht hvm hw hB hz1 hk1 hS => ?_)
        obtain ⟨kf_4, sf_5, sd_6⟩ := u
        obtain ⟨hP1, hK1, hD1⟩ := hB
        rw [ht] at hP1
        try dsimp only at hw
        obtain ⟨hP, hD⟩ := va_join (wr := [(o0, .inr (5, [.ref op, .ref og, .ref oy, .ref ob, .ref os, .ref ot, .ref ou])), (oy, .inr (2, [.ref op, .int yk])), (ob, .inr (0, [.ref oba, .int bl])), (oba, .inl (cI, 256, .inl bf)), (ot, .inr (4, [.ref ota, .int tw, .int th])), (ota, .inl (cI, 64, .inl tf)), (ou, .inr (4, [.ref oua, .int uw, .int uh])), (oua, .inl (cI, 64, .inl uf))]) (w1 := [(os, .inr (3, [.ref op, .ref og, .ref osa, .ref osb, .int sd_6])), (osa, .inl (cI, kn, .inl kf_4)), (osb, .inl (cI, sn, .inl sf_5)), (op, .inr (1, [.int pw, .int ph, .ref opa])), (opa, .inl (cI, pn, .inl pf)), (og, .inr (1, [.int gw, .int gh, .ref oga])), (oga, .inl (cI, gn, .inl gf))]) hP hD [8, 9, 10, 1, 2, 3, 4] [0, 5, 6, 7, 11, 12, 13, 14] rfl rfl (by decide) (by decide) hk1 hFc hP1 hD1
        generalize H1 = H at hP hS ⊢
        have hP : va_P (dC, dI) vwCl [(o0, .inr (5, [.ref op, .ref og, .ref oy, .ref ob, .ref os, .ref ot, .ref ou])), (oy, .inr (2, [.ref op, .int yk])), (ob, .inr (0, [.ref oba, .int bl])), (oba, .inl (cI, 256, .inl bf)), (ot, .inr (4, [.ref ota, .int tw, .int th])), (ota, .inl (cI, 64, .inl tf)), (ou, .inr (4, [.ref oua, .int uw, .int uh])), (oua, .inl (cI, 64, .inl uf)), (os, .inr (3, [.ref op, .ref og, .ref osa, .ref osb, .int sd_6])), (osa, .inl (cI, kn, .inl kf_4)), (osb, .inl (cI, sn, .inl sf_5)), (op, .inr (1, [.int pw, .int ph, .ref opa])), (opa, .inl (cI, pn, .inl pf)), (og, .inr (1, [.int gw, .int gh, .ref oga])), (oga, .inl (cI, gn, .inl gf))] H := hP
        have hD : va_D A [(o0, .inr (5, [.ref op, .ref og, .ref oy, .ref ob, .ref os, .ref ot, .ref ou])), (oy, .inr (2, [.ref op, .int yk])), (ob, .inr (0, [.ref oba, .int bl])), (oba, .inl (cI, 256, .inl bf)), (ot, .inr (4, [.ref ota, .int tw, .int th])), (ota, .inl (cI, 64, .inl tf)), (ou, .inr (4, [.ref oua, .int uw, .int uh])), (oua, .inl (cI, 64, .inl uf)), (os, .inr (3, [.ref op, .ref og, .ref osa, .ref osb, .int sd_6])), (osa, .inl (cI, kn, .inl kf_4)), (osb, .inl (cI, sn, .inl sf_5)), (op, .inr (1, [.int pw, .int ph, .ref opa])), (opa, .inl (cI, pn, .inl pf)), (og, .inr (1, [.int gw, .int gh, .ref oga])), (oga, .inl (cI, gn, .inl gf))] := hD
        have hP9 := hP.sub (ws' := [(o0, .inr (5, [.ref op, .ref og, .ref oy, .ref ob, .ref os, .ref ot, .ref ou])), (op, .inr (1, [.int pw, .int ph, .ref opa])), (opa, .inl (cI, pn, .inl pf)), (og, .inr (1, [.int gw, .int gh, .ref oga])), (oga, .inl (cI, gn, .inl gf)), (oy, .inr (2, [.ref op, .int yk])), (ob, .inr (0, [.ref oba, .int bl])), (oba, .inl (cI, 256, .inl bf)), (os, .inr (3, [.ref op, .ref og, .ref osa, .ref osb, .int sd_6])), (osa, .inl (cI, kn, .inl kf_4)), (osb, .inl (cI, sn, .inl sf_5)), (ot, .inr (4, [.ref ota, .int tw, .int th])), (ota, .inl (cI, 64, .inl tf)), (ou, .inr (4, [.ref oua, .int uw, .int uh])), (oua, .inl (cI, 64, .inl uf))]) [0, 11, 12, 13, 14, 1, 2, 3, 8, 9, 10, 4, 5, 6, 7] rfl
        have hD9 := hD.sub (ws' := [(o0, .inr (5, [.ref op, .ref og, .ref oy, .ref ob, .ref os, .ref ot, .ref ou])), (op, .inr (1, [.int pw, .int ph, .ref opa])), (opa, .inl (cI, pn, .inl pf)), (og, .inr (1, [.int gw, .int gh, .ref oga])), (oga, .inl (cI, gn, .inl gf)), (oy, .inr (2, [.ref op, .int yk])), (ob, .inr (0, [.ref oba, .int bl])), (oba, .inl (cI, 256, .inl bf)), (os, .inr (3, [.ref op, .ref og, .ref osa, .ref osb, .int sd_6])), (osa, .inl (cI, kn, .inl kf_4)), (osb, .inl (cI, sn, .inl sf_5)), (ot, .inr (4, [.ref ota, .int tw, .int th])), (ota, .inl (cI, 64, .inl tf)), (ou, .inr (4, [.ref oua, .int uw, .int uh])), (oua, .inl (cI, 64, .inl uf))]) [0, 11, 12, 13, 14, 1, 2, 3, 8, 9, 10, 4, 5, 6, 7] (by decide) rfl
        subst hQ9
        exact W.iret (v := r_7) hx hb hr (fun t ht hW => ⟨⟨r_7, (kf_4, sf_5, sd_6), rfl, hw, by rw [ht]; exact hP9, va_K.moved hW.alike hK, hD9⟩, hS.F ht⟩) hS.2.2 dZQ_seam_40
      · have hw := hw.2 c_3
        exact False.elim hw
def xp_ZQ_seam_A (pw : Int32) (ph : Int32) (pn : Nat) (pf : Nat → Int32) (gw : Int32) (gh : Int32) (gn : Nat) (gf : Nat → Int32) (yk : Int32) (bl : Int32) (bf : Nat → Int32) (kn : Nat) (kf : Nat → Int32) (sn : Nat) (sf : Nat → Int32) (sd : Int32) (tw : Int32) (th : Int32) (tf : Nat → Int32) (uw : Int32) (uh : Int32) (uf : Nat → Int32) (a1 : Int32) : Prop := ((a1 < (1 : Int32) → True) ∧ (¬ a1 < (1 : Int32) → (((8 : Int32) < a1 → True) ∧ (¬ (8 : Int32) < a1 → ((a1 ≤ pw → False) ∧ (¬ a1 ≤ pw → True))))))
abbrev rm_ZQ_seam_A : Room := { frames := 6, cells := 1, slots := 6, locals := 97 }
set_option maxHeartbeats 4000000 in
set_option maxRecDepth 100000 in
theorem kx_ZQ_seam_A (l : Launch) (hl9 : l.stackTraces = false) (dC : Nat → ClassId) (dI : Nat → Nat → Nat) (cI : ClassId) (o0 op opa og oga oy ob oba os osa osb ot ota ou oua : Nat) (H0 : Heap) (pw : Int32) (ph : Int32) (pn : Nat) (pf : Nat → Int32) (gw : Int32) (gh : Int32) (gn : Nat) (gf : Nat → Int32) (yk : Int32) (bl : Int32) (bf : Nat → Int32) (kn : Nat) (kf : Nat → Int32) (sn : Nat) (sf : Nat → Int32) (sd : Int32) (tw : Int32) (th : Int32) (tf : Nat → Int32) (uw : Int32) (uh : Int32) (uf : Nat → Int32) (a1 : Int32) (hw : xp_ZQ_seam_A pw ph pn pf gw gh gn gf yk bl bf kn kf sn sf sd tw th tf uw uh uf a1) : tx_Met l yZQ_seam wsZQ_seam rm_ZQ_seam_A (tr_Pc H0 dC dI [(cI, .int)] [.ref o0, .int a1] [(o0, .inr (5, [.ref op, .ref og, .ref oy, .ref ob, .ref os, .ref ot, .ref ou])), (op, .inr (1, [.int pw, .int ph, .ref opa])), (opa, .inl (cI, pn, .inl pf)), (og, .inr (1, [.int gw, .int gh, .ref oga])), (oga, .inl (cI, gn, .inl gf)), (oy, .inr (2, [.ref op, .int yk])), (ob, .inr (0, [.ref oba, .int bl])), (oba, .inl (cI, 256, .inl bf)), (os, .inr (3, [.ref op, .ref og, .ref osa, .ref osb, .int sd])), (osa, .inl (cI, kn, .inl kf)), (osb, .inl (cI, sn, .inl sf)), (ot, .inr (4, [.ref ota, .int tw, .int th])), (ota, .inl (cI, 64, .inl tf)), (ou, .inr (4, [.ref oua, .int uw, .int uh])), (oua, .inl (cI, 64, .inl uf))]) "java/lang/IllegalArgumentException" := by
  refine tx_ofW (cc := cZQ_seam) (maxL := 2) (ret := (some .int)) (by decide) rfl ?_
  intro p e s m args below meth c s₁ B hml hnX hv
  obtain ⟨ha9, hP, hK, hE, hT⟩ := hv
  have hx := B.exec
  have hb := B.bytes
  have hr := B.returns
  have hts0 := atoms_spec (ws := wsZQ_seam) B.pre
  have hts : ∀ w ∈ tbg, w.before args s = true := fun w h => hts0 w (List.mem_cons_of_mem _ h)
  have hown : s.vm.findClass RZQ = some m.cls := findClass_of_methodNamed B.named
  have hlocks := B.notSynchronized
  refine gx_Q (fun Q9 hQ9 => ?_)
  have hl := lv_entry ([.ref o0, .int a1]) (n := 2) (Nat.le_of_ble_eq_true rfl)
  have he9 : entryFrame m args 2 = F0 m 0 ((lg_sl [.ref o0, .int a1] ++ List.replicate (2 - (lg_sl ([.ref o0, .int a1] : List Value)).length) Slot.unset).toArray) [] := by rw [ha9]; exact lg_entry_eq m [.ref o0, .int a1] 2
  rw [he9]
  generalize (lg_sl ([.ref o0, .int a1] : List Value) ++ List.replicate (2 - (lg_sl ([.ref o0, .int a1] : List Value)).length) Slot.unset).toArray = ls at hl ⊢
  have hl : lv_has ls 2 [(0, .ref o0), (1, .int a1)] := hl
  refine lv_iload_n hx hb dZQ_seam_0 rfl (lv_at hl 1 rfl) ?_
  refine lv_iconst (v := (1 : Int32)) hx hb dZQ_seam_1 (by decide) ?_
  refine lv_icmp_lt (tgt := 22) hx hb dZQ_seam_2 (by decide) (fun c_1 => ?_) (fun c_1 => ?_)
  · have hw := hw.1 c_1
    obtain ⟨sa9, hst9⟩ := gxE_21 hE
    subst hQ9
    exact tx_throw (own := RZQ) (cls := "java/lang/IllegalArgumentException") (names := ["java/lang/RuntimeException", "java/lang/Exception"]) hx hb hl9 hown (by decide +kernel) (by decide +kernel) (hts _ mm_314) (hts _ mm_13) (hts _ mm_315) hst9 (ax_1 hts hE hT) (hl.1.trans hml.symm) dZQ_seam_22 dZQ_seam_25 dZQ_seam_26 dZQ_seam_28 dZQ_seam_31 hnX (Nat.le_of_ble_eq_true rfl) (Nat.le_of_ble_eq_true rfl) (Nat.le_of_ble_eq_true rfl) (Nat.le_of_ble_eq_true rfl) hlocks
  · have hw := hw.2 c_1
    refine lv_iload_n hx hb dZQ_seam_5 rfl (lv_at hl 1 rfl) ?_
    refine lv_bipush (v := (8 : Int32)) hx hb dZQ_seam_6 (by decide) ?_
    refine lv_icmp_gt (tgt := 22) hx hb dZQ_seam_8 (by decide) (fun c_2 => ?_) (fun c_2 => ?_)
    · have hw := hw.1 c_2
      obtain ⟨sa9, hst9⟩ := gxE_21 hE
      subst hQ9
      exact tx_throw (own := RZQ) (cls := "java/lang/IllegalArgumentException") (names := ["java/lang/RuntimeException", "java/lang/Exception"]) hx hb hl9 hown (by decide +kernel) (by decide +kernel) (hts _ mm_314) (hts _ mm_13) (hts _ mm_315) hst9 (ax_1 hts hE hT) (hl.1.trans hml.symm) dZQ_seam_22 dZQ_seam_25 dZQ_seam_26 dZQ_seam_28 dZQ_seam_31 hnX (Nat.le_of_ble_eq_true rfl) (Nat.le_of_ble_eq_true rfl) (Nat.le_of_ble_eq_true rfl) (Nat.le_of_ble_eq_true rfl) hlocks
    · have hw := hw.2 c_2
      refine lv_iload_n hx hb dZQ_seam_11 rfl (lv_at hl 1 rfl) ?_
      refine lv_aload_n hx hb dZQ_seam_12 rfl (lv_at hl 0 rfl) ?_
      refine va_get (D := (dC, dI)) (ci := 5) (v := .ref op) (C := RZQ) (T := TZQ) (N := 7) hx hb hts inZQ hown hK hP 0 rfl rfl 0 (by decide) (hts _ mm_136) (fun _ h9 => h9) rfl dZQ_seam_13 ?_
      refine va_get (D := (dC, dI)) (ci := 1) (v := .int pw) (C := RZP) (T := TZP) (N := 3) hx hb hts inZP hown hK hP 1 rfl rfl 0 (by decide) (hts _ mm_40) (fun _ h9 => h9) rfl dZQ_seam_16 ?_
      refine lv_icmp_le (tgt := 32) hx hb dZQ_seam_19 (by decide) (fun c_3 => ?_) (fun c_3 => ?_)
      · have hw := hw.1 c_3
        refine lv_aload_n hx hb dZQ_seam_32 rfl (lv_at hl 0 rfl) ?_
        refine va_get (D := (dC, dI)) (ci := 5) (v := .ref os) (C := RZQ) (T := TZQ) (N := 7) hx hb hts inZQ hown hK hP 0 rfl rfl 4 (by decide) (hts _ mm_140) (fun _ h9 => h9) rfl dZQ_seam_33 ?_
        refine lv_iload_n hx hb dZQ_seam_36 rfl (lv_at hl 1 rfl) ?_
        exact False.elim hw
      · have hw := hw.2 c_3
        obtain ⟨sa9, hst9⟩ := gxE_21 hE
        subst hQ9
        exact tx_throw (own := RZQ) (cls := "java/lang/IllegalArgumentException") (names := ["java/lang/RuntimeException", "java/lang/Exception"]) hx hb hl9 hown (by decide +kernel) (by decide +kernel) (hts _ mm_314) (hts _ mm_13) (hts _ mm_315) hst9 (ax_1 hts hE hT) (hl.1.trans hml.symm) dZQ_seam_22 dZQ_seam_25 dZQ_seam_26 dZQ_seam_28 dZQ_seam_31 hnX (Nat.le_of_ble_eq_true rfl) (Nat.le_of_ble_eq_true rfl) (Nat.le_of_ble_eq_true rfl) (Nat.le_of_ble_eq_true rfl) hlocks
theorem dZQ_seamAt_0 : decode cZQ_seamAt 0 = .ok (.aload_n 0, 1) := by decide +kernel
theorem dZQ_seamAt_1 : decode cZQ_seamAt 1 = .ok (.getfield 51, 3) := by decide +kernel
theorem dZQ_seamAt_4 : decode cZQ_seamAt 4 = .ok (.getfield 214, 3) := by decide +kernel
theorem dZQ_seamAt_7 : decode cZQ_seamAt 7 = .ok (.ifCond .eq 21, 3) := by decide +kernel
theorem dZQ_seamAt_10 : decode cZQ_seamAt 10 = .ok (.iload_n 1, 1) := by decide +kernel
theorem dZQ_seamAt_11 : decode cZQ_seamAt 11 = .ok (.aload_n 0, 1) := by decide +kernel
theorem dZQ_seamAt_12 : decode cZQ_seamAt 12 = .ok (.getfield 23, 3) := by decide +kernel
theorem dZQ_seamAt_15 : decode cZQ_seamAt 15 = .ok (.getfield 128, 3) := by decide +kernel
theorem dZQ_seamAt_18 : decode cZQ_seamAt 18 = .ok (.invokestatic 97, 3) := by decide +kernel
theorem dZQ_seamAt_21 : decode cZQ_seamAt 21 = .ok (.ifCond .eq 7, 3) := by decide +kernel
theorem dZQ_seamAt_24 : decode cZQ_seamAt 24 = .ok (.iconst 1, 1) := by decide +kernel
theorem dZQ_seamAt_25 : decode cZQ_seamAt 25 = .ok (.goto 4, 3) := by decide +kernel
theorem dZQ_seamAt_28 : decode cZQ_seamAt 28 = .ok (.iconst 0, 1) := by decide +kernel
theorem dZQ_seamAt_29 : decode cZQ_seamAt 29 = .ok (.invokestatic 73, 3) := by decide +kernel
theorem dZQ_seamAt_32 : decode cZQ_seamAt 32 = .ok (.aload_n 0, 1) := by decide +kernel
theorem dZQ_seamAt_33 : decode cZQ_seamAt 33 = .ok (.getfield 51, 3) := by decide +kernel
theorem dZQ_seamAt_36 : decode cZQ_seamAt 36 = .ok (.getfield 218, 3) := by decide +kernel
theorem dZQ_seamAt_39 : decode cZQ_seamAt 39 = .ok (.iload_n 1, 1) := by decide +kernel
theorem dZQ_seamAt_40 : decode cZQ_seamAt 40 = .ok (.iaload, 1) := by decide +kernel
theorem dZQ_seamAt_41 : decode cZQ_seamAt 41 = .ok (.ireturn, 1) := by decide +kernel
abbrev wsZQ_seamAt : List Cond := .code yZQ_seamAt cZQ_seamAt 2 (some .int) :: tbg
def wp_ZQ_seamAt (pw : Int32) (ph : Int32) (pn : Nat) (pf : Nat → Int32) (gw : Int32) (gh : Int32) (gn : Nat) (gf : Nat → Int32) (yk : Int32) (bl : Int32) (bf : Nat → Int32) (kn : Nat) (kf : Nat → Int32) (sn : Nat) (sf : Nat → Int32) (sd : Int32) (tw : Int32) (th : Int32) (tf : Nat → Int32) (uw : Int32) (uh : Int32) (uf : Nat → Int32) (a1 : Int32) (post : Int32 → Prop) : Prop := ∃ J29 : Int32 → Prop, (∀ (t0_j29 : Int32), J29 t0_j29 → wp_ZQ_requirePlace t0_j29 (vp_in a1 sn ∧ (post (sf a1.toNatClampNeg)))) ∧ (((sd = (0 : Int32) → (J29 (0 : Int32))) ∧ (¬ sd = (0 : Int32) → (wp_ZQ_isWithin a1 ph (fun r_4 : Int32 => ((r_4 = (0 : Int32) → (J29 (0 : Int32))) ∧ (¬ r_4 = (0 : Int32) → (J29 (1 : Int32)))))))))
abbrev rm_ZQ_seamAt : Room := { frames := 1, cells := 0, slots := 0, locals := 21 }
set_option maxHeartbeats 4000000 in
set_option maxRecDepth 100000 in
theorem kt_ZQ_seamAt (l : Launch) (dC : Nat → ClassId) (dI : Nat → Nat → Nat) (cI : ClassId) (o0 op opa og oga oy ob oba os osa osb ot ota ou oua : Nat) (pw : Int32) (ph : Int32) (pn : Nat) (pf : Nat → Int32) (gw : Int32) (gh : Int32) (gn : Nat) (gf : Nat → Int32) (yk : Int32) (bl : Int32) (bf : Nat → Int32) (kn : Nat) (kf : Nat → Int32) (sn : Nat) (sf : Nat → Int32) (sd : Int32) (tw : Int32) (th : Int32) (tf : Nat → Int32) (uw : Int32) (uh : Int32) (uf : Nat → Int32) (a1 : Int32) (post : Int32 → Prop) (hw : wp_ZQ_seamAt pw ph pn pf gw gh gn gf yk bl bf kn kf sn sf sd tw th tf uw uh uf a1 post) : Met l yZQ_seamAt wsZQ_seamAt rm_ZQ_seamAt (gr_Pc dC dI [(cI, .int)] [.ref o0, .int a1] [(o0, .inr (5, [.ref op, .ref og, .ref oy, .ref ob, .ref os, .ref ot, .ref ou])), (op, .inr (1, [.int pw, .int ph, .ref opa])), (opa, .inl (cI, pn, .inl pf)), (og, .inr (1, [.int gw, .int gh, .ref oga])), (oga, .inl (cI, gn, .inl gf)), (oy, .inr (2, [.ref op, .int yk])), (ob, .inr (0, [.ref oba, .int bl])), (oba, .inl (cI, 256, .inl bf)), (os, .inr (3, [.ref op, .ref og, .ref osa, .ref osb, .int sd])), (osa, .inl (cI, kn, .inl kf)), (osb, .inl (cI, sn, .inl sf)), (ot, .inr (4, [.ref ota, .int tw, .int th])), (ota, .inl (cI, 64, .inl tf)), (ou, .inr (4, [.ref oua, .int uw, .int uh])), (oua, .inl (cI, 64, .inl uf))]) (vp_Si post) 0 0 (fun _ => False) := by
  refine Met.ofW (cc := cZQ_seamAt) (maxL := 2) (ret := (some .int)) (by decide) rfl ?_
  intro p e s m args below meth c s₁ B hml hv
  obtain ⟨ha9, hP, hK, hE⟩ := hv
  have hx := B.exec
  have hb := B.bytes
  have hr := B.returns
  have hts0 := atoms_spec (ws := wsZQ_seamAt) B.pre
  have hts : ∀ w ∈ tbg, w.before args s = true := fun w h => hts0 w (List.mem_cons_of_mem _ h)
  have hown : s.vm.findClass RZQ = some m.cls := findClass_of_methodNamed B.named
  have hlocks := B.notSynchronized
  refine gx_Q (fun Q9 hQ9 => ?_)
  have hl := lv_entry ([.ref o0, .int a1]) (n := 2) (Nat.le_of_ble_eq_true rfl)
  have he9 : entryFrame m args 2 = F0 m 0 ((lg_sl [.ref o0, .int a1] ++ List.replicate (2 - (lg_sl ([.ref o0, .int a1] : List Value)).length) Slot.unset).toArray) [] := by rw [ha9]; exact lg_entry_eq m [.ref o0, .int a1] 2
  rw [he9]
  generalize (lg_sl ([.ref o0, .int a1] : List Value) ++ List.replicate (2 - (lg_sl ([.ref o0, .int a1] : List Value)).length) Slot.unset).toArray = ls at hl ⊢
  have hl : lv_has ls 2 [(0, .ref o0), (1, .int a1)] := hl
  refine lv_aload_n hx hb dZQ_seamAt_0 rfl (lv_at hl 0 rfl) ?_
  refine va_get (D := (dC, dI)) (ci := 5) (v := .ref os) (C := RZQ) (T := TZQ) (N := 7) hx hb hts inZQ hown hK hP 0 rfl rfl 4 (by decide) (hts _ mm_140) (fun _ h9 => h9) rfl dZQ_seamAt_1 ?_
  refine va_get (D := (dC, dI)) (ci := 3) (v := .int sd) (C := RZS) (T := TZS) (N := 5) hx hb hts inZS hown hK hP 8 rfl rfl 4 (by decide) (hts _ mm_99) (fun _ h9 => h9) rfl dZQ_seamAt_4 ?_
  obtain ⟨J29, hJ29, hw⟩ := hw
  have j29 : ∀ (t0_j29 : Int32), J29 t0_j29 → ∀ ls : Array Slot, lv_has ls 2 [(0, .ref o0), (1, .int a1)] → W p l e (headSpec wsZQ_seamAt rm_ZQ_seamAt).room s m args below meth c s.heap [] 0 0 Q9 (F0 m 29 ls [.int t0_j29]) := by
    intro t0_j29 hw ls hl
    have hw := hJ29 t0_j29 hw
    have hPc := hP.sub (ws' := []) [] rfl
    refine va_csv (va_runS (As := [.int t0_j29]) (rest := []) ⟨hx, hb, hml, hown, hts⟩ (kt_ZQ_requirePlace l dC dI cI  t0_j29 _ hw) (va_cwS 1 hts (tb_S mm_239 mm_240 mm_1 mm_241) rfl rfl rfl (by decide +kernel) ⟨Nat.le_of_ble_eq_true rfl, Nat.le_of_ble_eq_true rfl⟩) ⟨gr_blind, fun U hU hW => gr_pre hPc hK hE hU hW⟩ rfl rfl hl.1 rfl (lv_room (Nat.le_of_ble_eq_true rfl)) dZQ_seamAt_29 ⟨Nat.le_of_ble_eq_true rfl, Nat.le_of_ble_eq_true rfl⟩).run (fun hw => ?_)
    refine lv_aload_n hx hb dZQ_seamAt_32 rfl (lv_at hl 0 rfl) ?_
    refine va_get (D := (dC, dI)) (ci := 5) (v := .ref os) (C := RZQ) (T := TZQ) (N := 7) hx hb hts inZQ hown hK hP 0 rfl rfl 4 (by decide) (hts _ mm_140) (fun _ h9 => h9) rfl dZQ_seamAt_33 ?_
    refine va_get (D := (dC, dI)) (ci := 3) (v := .ref osb) (C := RZS) (T := TZS) (N := 5) hx hb hts inZS hown hK hP 8 rfl rfl 3 (by decide) (hts _ mm_97) (fun _ h9 => h9) rfl dZQ_seamAt_36 ?_
    refine lv_iload_n hx hb dZQ_seamAt_39 rfl (lv_at hl 1 rfl) ?_
    obtain ⟨h_2, hw⟩ := hw
    refine va_iald hx hb hK hP 10 0 rfl rfl h_2 dZQ_seamAt_40 ?_
    subst hQ9
    exact W.iret (v := sf a1.toNatClampNeg) hx hb hr (fun t ht hW => ⟨sf a1.toNatClampNeg, rfl, hw, ht⟩) (fun q h => nomatch h) dZQ_seamAt_41
  refine lv_if_eq (tgt := 28) hx hb dZQ_seamAt_7 (by decide) (fun c_3 => ?_) (fun c_3 => ?_)
  · have hw := hw.1 c_3
    refine lv_iconst (v := (0 : Int32)) hx hb dZQ_seamAt_28 (by decide) ?_
    exact j29 (0 : Int32) hw ls (lv_sub hl [0, 1] rfl)
  · have hw := hw.2 c_3
    refine lv_iload_n hx hb dZQ_seamAt_10 rfl (lv_at hl 1 rfl) ?_
    refine lv_aload_n hx hb dZQ_seamAt_11 rfl (lv_at hl 0 rfl) ?_
    refine va_get (D := (dC, dI)) (ci := 5) (v := .ref op) (C := RZQ) (T := TZQ) (N := 7) hx hb hts inZQ hown hK hP 0 rfl rfl 0 (by decide) (hts _ mm_136) (fun _ h9 => h9) rfl dZQ_seamAt_12 ?_
    refine va_get (D := (dC, dI)) (ci := 1) (v := .int ph) (C := RZP) (T := TZP) (N := 3) hx hb hts inZP hown hK hP 1 rfl rfl 1 (by decide) (hts _ mm_44) (fun _ h9 => h9) rfl dZQ_seamAt_15 ?_
    have hPc := hP.sub (ws' := []) [] rfl
    refine vp_callSi (va_runS (As := [.int a1, .int ph]) (rest := []) ⟨hx, hb, hml, hown, hts⟩ (kt_ZQ_isWithin l dC dI cI  a1 ph _ hw) (va_cwS 2 hts (tb_S mm_236 mm_237 mm_1 mm_238) rfl rfl rfl (by decide +kernel) ⟨Nat.le_of_ble_eq_true rfl, Nat.le_of_ble_eq_true rfl⟩) ⟨gr_blind, fun U hU hW => gr_pre hPc hK hE hU hW⟩ rfl rfl hl.1 rfl (lv_room (Nat.le_of_ble_eq_true rfl)) dZQ_seamAt_18 ⟨Nat.le_of_ble_eq_true rfl, Nat.le_of_ble_eq_true rfl⟩).run (fun r_4 hw => ?_)
    refine lv_if_eq (tgt := 28) hx hb dZQ_seamAt_21 (by decide) (fun c_5 => ?_) (fun c_5 => ?_)
    · have hw := hw.1 c_5
      refine lv_iconst (v := (0 : Int32)) hx hb dZQ_seamAt_28 (by decide) ?_
      exact j29 (0 : Int32) hw ls (lv_sub hl [0, 1] rfl)
    · have hw := hw.2 c_5
      refine lv_iconst (v := (1 : Int32)) hx hb dZQ_seamAt_24 (by decide) ?_
      refine lv_goto (tgt := 29) hx hb dZQ_seamAt_25 (by decide) ?_
      exact j29 (1 : Int32) hw ls (lv_sub hl [0, 1] rfl)
def xp_ZQ_seamAt_I (pw : Int32) (ph : Int32) (pn : Nat) (pf : Nat → Int32) (gw : Int32) (gh : Int32) (gn : Nat) (gf : Nat → Int32) (yk : Int32) (bl : Int32) (bf : Nat → Int32) (kn : Nat) (kf : Nat → Int32) (sn : Nat) (sf : Nat → Int32) (sd : Int32) (tw : Int32) (th : Int32) (tf : Nat → Int32) (uw : Int32) (uh : Int32) (uf : Nat → Int32) (a1 : Int32) : Prop := ∃ J29 : Int32 → Prop, (∀ (t0_j29 : Int32), J29 t0_j29 → (xp_ZQ_requirePlace_I t0_j29) ∨ (wp_ZQ_requirePlace t0_j29 (vp_in a1 sn ∧ (False)))) ∧ (((sd = (0 : Int32) → (J29 (0 : Int32))) ∧ (¬ sd = (0 : Int32) → (wp_ZQ_isWithin a1 ph (fun r_4 : Int32 => ((r_4 = (0 : Int32) → (J29 (0 : Int32))) ∧ (¬ r_4 = (0 : Int32) → (J29 (1 : Int32)))))))))
abbrev rm_ZQ_seamAt_I : Room := { frames := 7, cells := 1, slots := 6, locals := 111 }
set_option maxHeartbeats 4000000 in
set_option maxRecDepth 100000 in
theorem kx_ZQ_seamAt_I (l : Launch) (hl9 : l.stackTraces = false) (dC : Nat → ClassId) (dI : Nat → Nat → Nat) (cI : ClassId) (o0 op opa og oga oy ob oba os osa osb ot ota ou oua : Nat) (H0 : Heap) (pw : Int32) (ph : Int32) (pn : Nat) (pf : Nat → Int32) (gw : Int32) (gh : Int32) (gn : Nat) (gf : Nat → Int32) (yk : Int32) (bl : Int32) (bf : Nat → Int32) (kn : Nat) (kf : Nat → Int32) (sn : Nat) (sf : Nat → Int32) (sd : Int32) (tw : Int32) (th : Int32) (tf : Nat → Int32) (uw : Int32) (uh : Int32) (uf : Nat → Int32) (a1 : Int32) (hw : xp_ZQ_seamAt_I pw ph pn pf gw gh gn gf yk bl bf kn kf sn sf sd tw th tf uw uh uf a1) : tx_Met l yZQ_seamAt wsZQ_seamAt rm_ZQ_seamAt_I (tr_Pc H0 dC dI [(cI, .int)] [.ref o0, .int a1] [(o0, .inr (5, [.ref op, .ref og, .ref oy, .ref ob, .ref os, .ref ot, .ref ou])), (op, .inr (1, [.int pw, .int ph, .ref opa])), (opa, .inl (cI, pn, .inl pf)), (og, .inr (1, [.int gw, .int gh, .ref oga])), (oga, .inl (cI, gn, .inl gf)), (oy, .inr (2, [.ref op, .int yk])), (ob, .inr (0, [.ref oba, .int bl])), (oba, .inl (cI, 256, .inl bf)), (os, .inr (3, [.ref op, .ref og, .ref osa, .ref osb, .int sd])), (osa, .inl (cI, kn, .inl kf)), (osb, .inl (cI, sn, .inl sf)), (ot, .inr (4, [.ref ota, .int tw, .int th])), (ota, .inl (cI, 64, .inl tf)), (ou, .inr (4, [.ref oua, .int uw, .int uh])), (oua, .inl (cI, 64, .inl uf))]) "java/lang/IndexOutOfBoundsException" := by
  refine tx_ofW (cc := cZQ_seamAt) (maxL := 2) (ret := (some .int)) (by decide) rfl ?_
  intro p e s m args below meth c s₁ B hml hnX hv
  obtain ⟨ha9, hP, hK, hE, hT⟩ := hv
  have hx := B.exec
  have hb := B.bytes
  have hr := B.returns
  have hts0 := atoms_spec (ws := wsZQ_seamAt) B.pre
  have hts : ∀ w ∈ tbg, w.before args s = true := fun w h => hts0 w (List.mem_cons_of_mem _ h)
  have hown : s.vm.findClass RZQ = some m.cls := findClass_of_methodNamed B.named
  have hlocks := B.notSynchronized
  refine gx_Q (fun Q9 hQ9 => ?_)
  have hl := lv_entry ([.ref o0, .int a1]) (n := 2) (Nat.le_of_ble_eq_true rfl)
  have he9 : entryFrame m args 2 = F0 m 0 ((lg_sl [.ref o0, .int a1] ++ List.replicate (2 - (lg_sl ([.ref o0, .int a1] : List Value)).length) Slot.unset).toArray) [] := by rw [ha9]; exact lg_entry_eq m [.ref o0, .int a1] 2
  rw [he9]
  generalize (lg_sl ([.ref o0, .int a1] : List Value) ++ List.replicate (2 - (lg_sl ([.ref o0, .int a1] : List Value)).length) Slot.unset).toArray = ls at hl ⊢
  have hl : lv_has ls 2 [(0, .ref o0), (1, .int a1)] := hl
  refine lv_aload_n hx hb dZQ_seamAt_0 rfl (lv_at hl 0 rfl) ?_
  refine va_get (D := (dC, dI)) (ci := 5) (v := .ref os) (C := RZQ) (T := TZQ) (N := 7) hx hb hts inZQ hown hK hP 0 rfl rfl 4 (by decide) (hts _ mm_140) (fun _ h9 => h9) rfl dZQ_seamAt_1 ?_
  refine va_get (D := (dC, dI)) (ci := 3) (v := .int sd) (C := RZS) (T := TZS) (N := 5) hx hb hts inZS hown hK hP 8 rfl rfl 4 (by decide) (hts _ mm_99) (fun _ h9 => h9) rfl dZQ_seamAt_4 ?_
  obtain ⟨J29, hJ29, hw⟩ := hw
  have j29 : ∀ (t0_j29 : Int32), J29 t0_j29 → ∀ ls : Array Slot, lv_has ls 2 [(0, .ref o0), (1, .int a1)] → W p l e (headSpec wsZQ_seamAt rm_ZQ_seamAt_I).room s m args below meth c s.heap [] 0 0 Q9 (F0 m 29 ls [.int t0_j29]) := by
    intro t0_j29 hw ls hl
    have hw := hJ29 t0_j29 hw
    rcases hw with hw | hw
    · subst hQ9
      have hPx := hP.sub (ws' := []) [] rfl
      exact tx_callS (As := [.int t0_j29]) (rest := []) ⟨hx, hb, hml, hown, hts⟩ (kx_ZQ_requirePlace_I l hl9 dC dI cI  H0 t0_j29 hw) (va_cwS 1 hts (tb_S mm_239 mm_240 mm_1 mm_241) rfl rfl rfl (by decide +kernel) ⟨Nat.le_of_ble_eq_true rfl, Nat.le_of_ble_eq_true rfl⟩) ⟨tr_blind, fun U hU hW => tr_pre hPx hK hE hT hT.1 hU hW⟩ rfl hl.1 rfl (Nat.le_of_ble_eq_true rfl) dZQ_seamAt_29 hnX hlocks ⟨Nat.le_of_ble_eq_true rfl, Nat.le_of_ble_eq_true rfl⟩
    have hPc := hP.sub (ws' := []) [] rfl
    refine va_csv (va_runS (As := [.int t0_j29]) (rest := []) ⟨hx, hb, hml, hown, hts⟩ (kt_ZQ_requirePlace l dC dI cI  t0_j29 _ hw) (va_cwS 1 hts (tb_S mm_239 mm_240 mm_1 mm_241) rfl rfl rfl (by decide +kernel) ⟨Nat.le_of_ble_eq_true rfl, Nat.le_of_ble_eq_true rfl⟩) ⟨gr_blind, fun U hU hW => gr_pre hPc hK hE hU hW⟩ rfl rfl hl.1 rfl (lv_room (Nat.le_of_ble_eq_true rfl)) dZQ_seamAt_29 ⟨Nat.le_of_ble_eq_true rfl, Nat.le_of_ble_eq_true rfl⟩).run (fun hw => ?_)
    refine lv_aload_n hx hb dZQ_seamAt_32 rfl (lv_at hl 0 rfl) ?_
    refine va_get (D := (dC, dI)) (ci := 5) (v := .ref os) (C := RZQ) (T := TZQ) (N := 7) hx hb hts inZQ hown hK hP 0 rfl rfl 4 (by decide) (hts _ mm_140) (fun _ h9 => h9) rfl dZQ_seamAt_33 ?_
    refine va_get (D := (dC, dI)) (ci := 3) (v := .ref osb) (C := RZS) (T := TZS) (N := 5) hx hb hts inZS hown hK hP 8 rfl rfl 3 (by decide) (hts _ mm_97) (fun _ h9 => h9) rfl dZQ_seamAt_36 ?_
    refine lv_iload_n hx hb dZQ_seamAt_39 rfl (lv_at hl 1 rfl) ?_
    obtain ⟨h_2, hw⟩ := hw
    refine va_iald hx hb hK hP 10 0 rfl rfl h_2 dZQ_seamAt_40 ?_
    exact False.elim hw
  refine lv_if_eq (tgt := 28) hx hb dZQ_seamAt_7 (by decide) (fun c_3 => ?_) (fun c_3 => ?_)
  · have hw := hw.1 c_3
    refine lv_iconst (v := (0 : Int32)) hx hb dZQ_seamAt_28 (by decide) ?_
    exact j29 (0 : Int32) hw ls (lv_sub hl [0, 1] rfl)
  · have hw := hw.2 c_3
    refine lv_iload_n hx hb dZQ_seamAt_10 rfl (lv_at hl 1 rfl) ?_
    refine lv_aload_n hx hb dZQ_seamAt_11 rfl (lv_at hl 0 rfl) ?_
    refine va_get (D := (dC, dI)) (ci := 5) (v := .ref op) (C := RZQ) (T := TZQ) (N := 7) hx hb hts inZQ hown hK hP 0 rfl rfl 0 (by decide) (hts _ mm_136) (fun _ h9 => h9) rfl dZQ_seamAt_12 ?_
    refine va_get (D := (dC, dI)) (ci := 1) (v := .int ph) (C := RZP) (T := TZP) (N := 3) hx hb hts inZP hown hK hP 1 rfl rfl 1 (by decide) (hts _ mm_44) (fun _ h9 => h9) rfl dZQ_seamAt_15 ?_
    have hPc := hP.sub (ws' := []) [] rfl
    refine vp_callSi (va_runS (As := [.int a1, .int ph]) (rest := []) ⟨hx, hb, hml, hown, hts⟩ (kt_ZQ_isWithin l dC dI cI  a1 ph _ hw) (va_cwS 2 hts (tb_S mm_236 mm_237 mm_1 mm_238) rfl rfl rfl (by decide +kernel) ⟨Nat.le_of_ble_eq_true rfl, Nat.le_of_ble_eq_true rfl⟩) ⟨gr_blind, fun U hU hW => gr_pre hPc hK hE hU hW⟩ rfl rfl hl.1 rfl (lv_room (Nat.le_of_ble_eq_true rfl)) dZQ_seamAt_18 ⟨Nat.le_of_ble_eq_true rfl, Nat.le_of_ble_eq_true rfl⟩).run (fun r_4 hw => ?_)
    refine lv_if_eq (tgt := 28) hx hb dZQ_seamAt_21 (by decide) (fun c_5 => ?_) (fun c_5 => ?_)
    · have hw := hw.1 c_5
      refine lv_iconst (v := (0 : Int32)) hx hb dZQ_seamAt_28 (by decide) ?_
      exact j29 (0 : Int32) hw ls (lv_sub hl [0, 1] rfl)
    · have hw := hw.2 c_5
      refine lv_iconst (v := (1 : Int32)) hx hb dZQ_seamAt_24 (by decide) ?_
      refine lv_goto (tgt := 29) hx hb dZQ_seamAt_25 (by decide) ?_
      exact j29 (1 : Int32) hw ls (lv_sub hl [0, 1] rfl)
theorem dZQ_init_0 : decode cZQ_init 0 = .ok (.aload_n 0, 1) := by decide +kernel
theorem dZQ_init_1 : decode cZQ_init 1 = .ok (.invokespecial 1, 3) := by decide +kernel
theorem dZQ_init_4 : decode cZQ_init 4 = .ok (.iconst 1, 1) := by decide +kernel
theorem dZQ_init_5 : decode cZQ_init 5 = .ok (.bipush 40, 2) := by decide +kernel
theorem dZQ_init_7 : decode cZQ_init 7 = .ok (.iload_n 1, 1) := by decide +kernel
theorem dZQ_init_8 : decode cZQ_init 8 = .ok (.invokestatic 9, 3) := by decide +kernel
theorem dZQ_init_11 : decode cZQ_init 11 = .ok (.invokestatic 15, 3) := by decide +kernel
theorem dZQ_init_14 : decode cZQ_init 14 = .ok (.istore_n 3, 1) := by decide +kernel
theorem dZQ_init_15 : decode cZQ_init 15 = .ok (.iconst 1, 1) := by decide +kernel
theorem dZQ_init_16 : decode cZQ_init 16 = .ok (.bipush 40, 2) := by decide +kernel
theorem dZQ_init_18 : decode cZQ_init 18 = .ok (.iload_n 2, 1) := by decide +kernel
theorem dZQ_init_19 : decode cZQ_init 19 = .ok (.invokestatic 9, 3) := by decide +kernel
theorem dZQ_init_22 : decode cZQ_init 22 = .ok (.invokestatic 15, 3) := by decide +kernel
theorem dZQ_init_25 : decode cZQ_init 25 = .ok (.istore 4, 2) := by decide +kernel
theorem dZQ_init_27 : decode cZQ_init 27 = .ok (.aload_n 0, 1) := by decide +kernel
theorem dZQ_init_28 : decode cZQ_init 28 = .ok (.new 18, 3) := by decide +kernel
theorem dZQ_init_31 : decode cZQ_init 31 = .ok (.dup, 1) := by decide +kernel
theorem dZQ_init_32 : decode cZQ_init 32 = .ok (.iload_n 3, 1) := by decide +kernel
theorem dZQ_init_33 : decode cZQ_init 33 = .ok (.iload 4, 2) := by decide +kernel
theorem dZQ_init_35 : decode cZQ_init 35 = .ok (.invokespecial 20, 3) := by decide +kernel
theorem dZQ_init_38 : decode cZQ_init 38 = .ok (.putfield 23, 3) := by decide +kernel
theorem dZQ_init_41 : decode cZQ_init 41 = .ok (.aload_n 0, 1) := by decide +kernel
theorem dZQ_init_42 : decode cZQ_init 42 = .ok (.new 18, 3) := by decide +kernel
theorem dZQ_init_45 : decode cZQ_init 45 = .ok (.dup, 1) := by decide +kernel
theorem dZQ_init_46 : decode cZQ_init 46 = .ok (.bipush 8, 2) := by decide +kernel
theorem dZQ_init_48 : decode cZQ_init 48 = .ok (.iload 4, 2) := by decide +kernel
theorem dZQ_init_50 : decode cZQ_init 50 = .ok (.invokespecial 20, 3) := by decide +kernel
theorem dZQ_init_53 : decode cZQ_init 53 = .ok (.putfield 27, 3) := by decide +kernel
theorem dZQ_init_56 : decode cZQ_init 56 = .ok (.aload_n 0, 1) := by decide +kernel
theorem dZQ_init_57 : decode cZQ_init 57 = .ok (.new 30, 3) := by decide +kernel
theorem dZQ_init_60 : decode cZQ_init 60 = .ok (.dup, 1) := by decide +kernel
theorem dZQ_init_61 : decode cZQ_init 61 = .ok (.aload_n 0, 1) := by decide +kernel
theorem dZQ_init_62 : decode cZQ_init 62 = .ok (.getfield 23, 3) := by decide +kernel
theorem dZQ_init_65 : decode cZQ_init 65 = .ok (.invokespecial 32, 3) := by decide +kernel
theorem dZQ_init_68 : decode cZQ_init 68 = .ok (.putfield 35, 3) := by decide +kernel
theorem dZQ_init_71 : decode cZQ_init 71 = .ok (.aload_n 0, 1) := by decide +kernel
theorem dZQ_init_72 : decode cZQ_init 72 = .ok (.new 39, 3) := by decide +kernel
theorem dZQ_init_75 : decode cZQ_init 75 = .ok (.dup, 1) := by decide +kernel
theorem dZQ_init_76 : decode cZQ_init 76 = .ok (.invokespecial 41, 3) := by decide +kernel
theorem dZQ_init_79 : decode cZQ_init 79 = .ok (.putfield 42, 3) := by decide +kernel
theorem dZQ_init_82 : decode cZQ_init 82 = .ok (.aload_n 0, 1) := by decide +kernel
theorem dZQ_init_83 : decode cZQ_init 83 = .ok (.new 46, 3) := by decide +kernel
theorem dZQ_init_86 : decode cZQ_init 86 = .ok (.dup, 1) := by decide +kernel
theorem dZQ_init_87 : decode cZQ_init 87 = .ok (.aload_n 0, 1) := by decide +kernel
theorem dZQ_init_88 : decode cZQ_init 88 = .ok (.getfield 23, 3) := by decide +kernel
theorem dZQ_init_91 : decode cZQ_init 91 = .ok (.aload_n 0, 1) := by decide +kernel
theorem dZQ_init_92 : decode cZQ_init 92 = .ok (.getfield 27, 3) := by decide +kernel
theorem dZQ_init_95 : decode cZQ_init 95 = .ok (.invokespecial 48, 3) := by decide +kernel
theorem dZQ_init_98 : decode cZQ_init 98 = .ok (.putfield 51, 3) := by decide +kernel
theorem dZQ_init_101 : decode cZQ_init 101 = .ok (.aload_n 0, 1) := by decide +kernel
theorem dZQ_init_102 : decode cZQ_init 102 = .ok (.new 55, 3) := by decide +kernel
theorem dZQ_init_105 : decode cZQ_init 105 = .ok (.dup, 1) := by decide +kernel
theorem dZQ_init_106 : decode cZQ_init 106 = .ok (.invokespecial 57, 3) := by decide +kernel
theorem dZQ_init_109 : decode cZQ_init 109 = .ok (.putfield 58, 3) := by decide +kernel
theorem dZQ_init_112 : decode cZQ_init 112 = .ok (.aload_n 0, 1) := by decide +kernel
theorem dZQ_init_113 : decode cZQ_init 113 = .ok (.new 55, 3) := by decide +kernel
theorem dZQ_init_116 : decode cZQ_init 116 = .ok (.dup, 1) := by decide +kernel
theorem dZQ_init_117 : decode cZQ_init 117 = .ok (.invokespecial 57, 3) := by decide +kernel
theorem dZQ_init_120 : decode cZQ_init 120 = .ok (.putfield 62, 3) := by decide +kernel
theorem dZQ_init_123 : decode cZQ_init 123 = .ok (.return_, 1) := by decide +kernel
abbrev wsZQ_init : List Cond := .code yZQ_init cZQ_init 5 none :: tbg
def wp_ZQ_init (a1 : Int32) (a2 : Int32) (post : Int32 → Int32 → Nat → (Nat → Int32) → Int32 → Int32 → Nat → (Nat → Int32) → Int32 → Int32 → (Nat → Int32) → Nat → (Nat → Int32) → Nat → (Nat → Int32) → Int32 → Int32 → Int32 → (Nat → Int32) → Int32 → Int32 → (Nat → Int32) → Prop) : Prop := wp_ZP_init (if (1 : Int32) < (if a1 < (40 : Int32) then a1 else (40 : Int32)) then (if a1 < (40 : Int32) then a1 else (40 : Int32)) else (1 : Int32)) (if (1 : Int32) < (if a2 < (40 : Int32) then a2 else (40 : Int32)) then (if a2 < (40 : Int32) then a2 else (40 : Int32)) else (1 : Int32)) (fun (pn_2 : Nat) (pf_3 : Nat → Int32) => wp_ZP_init (8 : Int32) (if (1 : Int32) < (if a2 < (40 : Int32) then a2 else (40 : Int32)) then (if a2 < (40 : Int32) then a2 else (40 : Int32)) else (1 : Int32)) (fun (pn_6 : Nat) (pf_7 : Nat → Int32) => wp_ZY_init (if (1 : Int32) < (if a1 < (40 : Int32) then a1 else (40 : Int32)) then (if a1 < (40 : Int32) then a1 else (40 : Int32)) else (1 : Int32)) (if (1 : Int32) < (if a2 < (40 : Int32) then a2 else (40 : Int32)) then (if a2 < (40 : Int32) then a2 else (40 : Int32)) else (1 : Int32)) pn_2 pf_3 (fun (yk_10 : Int32) => wp_ZB_init (0 : Int32) (fun (bf_12 : Nat → Int32) => wp_ZS_init (0 : Int32) (if (1 : Int32) < (if a1 < (40 : Int32) then a1 else (40 : Int32)) then (if a1 < (40 : Int32) then a1 else (40 : Int32)) else (1 : Int32)) (if (1 : Int32) < (if a2 < (40 : Int32) then a2 else (40 : Int32)) then (if a2 < (40 : Int32) then a2 else (40 : Int32)) else (1 : Int32)) pn_2 pf_3 (8 : Int32) (if (1 : Int32) < (if a2 < (40 : Int32) then a2 else (40 : Int32)) then (if a2 < (40 : Int32) then a2 else (40 : Int32)) else (1 : Int32)) pn_6 pf_7 (fun (kn_15 : Nat) (kf_16 : Nat → Int32) (sn_17 : Nat) (sf_18 : Nat → Int32) => wp_ZT_init (0 : Int32) (0 : Int32) (fun (tf_22 : Nat → Int32) => wp_ZT_init (0 : Int32) (0 : Int32) (fun (tf_25 : Nat → Int32) => post (if (1 : Int32) < (if a1 < (40 : Int32) then a1 else (40 : Int32)) then (if a1 < (40 : Int32) then a1 else (40 : Int32)) else (1 : Int32)) (if (1 : Int32) < (if a2 < (40 : Int32) then a2 else (40 : Int32)) then (if a2 < (40 : Int32) then a2 else (40 : Int32)) else (1 : Int32)) pn_2 pf_3 (8 : Int32) (if (1 : Int32) < (if a2 < (40 : Int32) then a2 else (40 : Int32)) then (if a2 < (40 : Int32) then a2 else (40 : Int32)) else (1 : Int32)) pn_6 pf_7 yk_10 (0 : Int32) bf_12 kn_15 kf_16 sn_17 sf_18 (0 : Int32) (0 : Int32) (0 : Int32) tf_22 (0 : Int32) (0 : Int32) tf_25)))))))
abbrev rm_ZQ_init : Room := { frames := 2, cells := 14, slots := 3965, locals := 45 }
set_option maxHeartbeats 4000000 in
set_option maxRecDepth 100000 in
theorem kt_ZQ_init (l : Launch) (dC : Nat → ClassId) (dI : Nat → Nat → Nat) (cI : ClassId) (o0 : Nat) (sz : Nat) (a1 : Int32) (a2 : Int32) (post : Int32 → Int32 → Nat → (Nat → Int32) → Int32 → Int32 → Nat → (Nat → Int32) → Int32 → Int32 → (Nat → Int32) → Nat → (Nat → Int32) → Nat → (Nat → Int32) → Int32 → Int32 → Int32 → (Nat → Int32) → Int32 → Int32 → (Nat → Int32) → Prop) (hw : wp_ZQ_init a1 a2 post) : Met l yZQ_init wsZQ_init rm_ZQ_init (gw_Pc dC dI [(cI, .int)] [.ref o0, .int a1, .int a2] [(o0, .inr (5, [.null, .null, .null, .null, .null, .null, .null]))] sz) (va_Qv (fun (u : Int32 × Int32 × Nat × (Nat → Int32) × Int32 × Int32 × Nat × (Nat → Int32) × Int32 × Int32 × (Nat → Int32) × Nat × (Nat → Int32) × Nat × (Nat → Int32) × Int32 × Int32 × Int32 × (Nat → Int32) × Int32 × Int32 × (Nat → Int32)) => post u.1 u.2.1 u.2.2.1 u.2.2.2.1 u.2.2.2.2.1 u.2.2.2.2.2.1 u.2.2.2.2.2.2.1 u.2.2.2.2.2.2.2.1 u.2.2.2.2.2.2.2.2.1 u.2.2.2.2.2.2.2.2.2.1 u.2.2.2.2.2.2.2.2.2.2.1 u.2.2.2.2.2.2.2.2.2.2.2.1 u.2.2.2.2.2.2.2.2.2.2.2.2.1 u.2.2.2.2.2.2.2.2.2.2.2.2.2.1 u.2.2.2.2.2.2.2.2.2.2.2.2.2.2.1 u.2.2.2.2.2.2.2.2.2.2.2.2.2.2.2.1 u.2.2.2.2.2.2.2.2.2.2.2.2.2.2.2.2.1 u.2.2.2.2.2.2.2.2.2.2.2.2.2.2.2.2.2.1 u.2.2.2.2.2.2.2.2.2.2.2.2.2.2.2.2.2.2.1 u.2.2.2.2.2.2.2.2.2.2.2.2.2.2.2.2.2.2.2.1 u.2.2.2.2.2.2.2.2.2.2.2.2.2.2.2.2.2.2.2.2.1 u.2.2.2.2.2.2.2.2.2.2.2.2.2.2.2.2.2.2.2.2.2) (fun u t => ∃ op opa og oga oy ob oba os osa osb ot ota ou oua : Nat, gw_B dC dI [(cI, .int)] (va_A [(o0, .inr (5, [.null, .null, .null, .null, .null, .null, .null]))] sz) [(o0, .inr (5, [.ref op, .ref og, .ref oy, .ref ob, .ref os, .ref ot, .ref ou])), (op, .inr (1, [.int u.1, .int u.2.1, .ref opa])), (opa, .inl (cI, u.2.2.1, .inl u.2.2.2.1)), (og, .inr (1, [.int u.2.2.2.2.1, .int u.2.2.2.2.2.1, .ref oga])), (oga, .inl (cI, u.2.2.2.2.2.2.1, .inl u.2.2.2.2.2.2.2.1)), (oy, .inr (2, [.ref op, .int u.2.2.2.2.2.2.2.2.1])), (ob, .inr (0, [.ref oba, .int u.2.2.2.2.2.2.2.2.2.1])), (oba, .inl (cI, 256, .inl u.2.2.2.2.2.2.2.2.2.2.1)), (os, .inr (3, [.ref op, .ref og, .ref osa, .ref osb, .int u.2.2.2.2.2.2.2.2.2.2.2.2.2.2.2.1])), (osa, .inl (cI, u.2.2.2.2.2.2.2.2.2.2.2.1, .inl u.2.2.2.2.2.2.2.2.2.2.2.2.1)), (osb, .inl (cI, u.2.2.2.2.2.2.2.2.2.2.2.2.2.1, .inl u.2.2.2.2.2.2.2.2.2.2.2.2.2.2.1)), (ot, .inr (4, [.ref ota, .int u.2.2.2.2.2.2.2.2.2.2.2.2.2.2.2.2.1, .int u.2.2.2.2.2.2.2.2.2.2.2.2.2.2.2.2.2.1])), (ota, .inl (cI, 64, .inl u.2.2.2.2.2.2.2.2.2.2.2.2.2.2.2.2.2.2.1)), (ou, .inr (4, [.ref oua, .int u.2.2.2.2.2.2.2.2.2.2.2.2.2.2.2.2.2.2.2.1, .int u.2.2.2.2.2.2.2.2.2.2.2.2.2.2.2.2.2.2.2.2.1])), (oua, .inl (cI, 64, .inl u.2.2.2.2.2.2.2.2.2.2.2.2.2.2.2.2.2.2.2.2.2))] t) (va_A [(o0, .inr (5, [.null, .null, .null, .null, .null, .null, .null]))] sz)) 14 3965 (va_A [(o0, .inr (5, [.null, .null, .null, .null, .null, .null, .null]))] sz) := by
  refine Met.ofW (cc := cZQ_init) (maxL := 5) (ret := none) (by decide) rfl ?_
  intro p e s m args below meth c s₁ B hml hv
  obtain ⟨ha9, hsz, hP, hK, hE, hD0⟩ := hv
  have hx := B.exec
  have hb := B.bytes
  have hr := B.returns
  have hts0 := atoms_spec (ws := wsZQ_init) B.pre
  have hts : ∀ w ∈ tbg, w.before args s = true := fun w h => hts0 w (List.mem_cons_of_mem _ h)
  have hown : s.vm.findClass RZQ = some m.cls := findClass_of_methodNamed B.named
  have hlocks := B.notSynchronized
  have hin : meth.name = "<init>" := (name_of_methodNamed B.named B.method).1
  subst hsz
  have hD := hD0.self (sz := s.heap.size)
  refine gx_Q (fun Q9 hQ9 => ?_)
  generalize hAe : va_A [(o0, .inr (5, [.null, .null, .null, .null, .null, .null, .null]))] s.heap.size = A at hD hQ9 ⊢
  have hA : ∀ q : Nat, s.heap.size ≤ q → A q := fun q h => by rw [← hAe]; exact Or.inr h
  have hS : va_S A s.heap s.heap [] := va_S.rf
  have hl := lv_entry ([.ref o0, .int a1, .int a2]) (n := 5) (Nat.le_of_ble_eq_true rfl)
  have he9 : entryFrame m args 5 = F0 m 0 ((lg_sl [.ref o0, .int a1, .int a2] ++ List.replicate (5 - (lg_sl ([.ref o0, .int a1, .int a2] : List Value)).length) Slot.unset).toArray) [] := by rw [ha9]; exact lg_entry_eq m [.ref o0, .int a1, .int a2] 5
  rw [he9]
  generalize (lg_sl ([.ref o0, .int a1, .int a2] : List Value) ++ List.replicate (5 - (lg_sl ([.ref o0, .int a1, .int a2] : List Value)).length) Slot.unset).toArray = ls at hl ⊢
  have hl : lv_has ls 5 [(0, .ref o0), (1, .int a1), (2, .int a2)] := hl
  refine lv_aload_n hx hb dZQ_init_0 rfl (lv_at hl 0 rfl) ?_
  refine W.objInit hx hb hown (hts _ mm_22) (hts _ mm_23) (hts _ mm_24) rfl (by rw [hml]; exact hl.1) rfl dZQ_init_1 (Nat.le_of_ble_eq_true rfl) (Nat.le_of_ble_eq_true rfl) ?_
  refine W.eq (g2 := F0 m 4 ls []) rfl ?_
  refine lv_iconst (v := (1 : Int32)) hx hb dZQ_init_4 (by decide) ?_
  refine lv_bipush (v := (40 : Int32)) hx hb dZQ_init_5 (by decide) ?_
  refine lv_iload_n hx hb dZQ_init_7 rfl (lv_at hl 1 rfl) ?_
  refine va_mmin hx hb (hml.trans hl.1.symm) hown (hts _ mm_25) (hts _ mm_26) (hts _ mm_2) (hts _ mm_27) (Nat.le_of_ble_eq_true rfl) (Nat.le_of_ble_eq_true rfl) (Nat.le_of_ble_eq_true rfl) (Nat.le_of_ble_eq_true rfl) dZQ_init_8 ?_
  refine va_mmax hx hb (hml.trans hl.1.symm) hown (hts _ mm_28) (hts _ mm_29) (hts _ mm_2) (hts _ mm_30) (Nat.le_of_ble_eq_true rfl) (Nat.le_of_ble_eq_true rfl) (Nat.le_of_ble_eq_true rfl) (Nat.le_of_ble_eq_true rfl) dZQ_init_11 ?_
  refine lv_istore_n (lv' := [(3, .int (if (1 : Int32) < (if a1 < (40 : Int32) then a1 else (40 : Int32)) then (if a1 < (40 : Int32) then a1 else (40 : Int32)) else (1 : Int32))), (0, .ref o0), (1, .int a1), (2, .int a2)]) hx hb dZQ_init_14 rfl hl (by decide) rfl (fun ls hl => ?_)
  refine lv_iconst (v := (1 : Int32)) hx hb dZQ_init_15 (by decide) ?_
  refine lv_bipush (v := (40 : Int32)) hx hb dZQ_init_16 (by decide) ?_
  refine lv_iload_n hx hb dZQ_init_18 rfl (lv_at hl 3 rfl) ?_
  refine va_mmin hx hb (hml.trans hl.1.symm) hown (hts _ mm_25) (hts _ mm_26) (hts _ mm_2) (hts _ mm_27) (Nat.le_of_ble_eq_true rfl) (Nat.le_of_ble_eq_true rfl) (Nat.le_of_ble_eq_true rfl) (Nat.le_of_ble_eq_true rfl) dZQ_init_19 ?_
  refine va_mmax hx hb (hml.trans hl.1.symm) hown (hts _ mm_28) (hts _ mm_29) (hts _ mm_2) (hts _ mm_30) (Nat.le_of_ble_eq_true rfl) (Nat.le_of_ble_eq_true rfl) (Nat.le_of_ble_eq_true rfl) (Nat.le_of_ble_eq_true rfl) dZQ_init_22 ?_
  refine lv_istore (lv' := [(4, .int (if (1 : Int32) < (if a2 < (40 : Int32) then a2 else (40 : Int32)) then (if a2 < (40 : Int32) then a2 else (40 : Int32)) else (1 : Int32))), (3, .int (if (1 : Int32) < (if a1 < (40 : Int32) then a1 else (40 : Int32)) then (if a1 < (40 : Int32) then a1 else (40 : Int32)) else (1 : Int32))), (0, .ref o0), (1, .int a1), (2, .int a2)]) hx hb dZQ_init_25 hl (by decide) rfl (fun ls hl => ?_)
  refine lv_aload_n hx hb dZQ_init_27 rfl (lv_at hl 2 rfl) ?_
  refine va_new (ci := 1) (fs := [.int (0 : Int32), .int (0 : Int32), .null]) (C := RZP) (T := TZP) (N := 3) hx hb hts inZP tyZP tyZP_ok hown (hts _ mm_31) (hts _ mm_32) (hts _ mm_3) hK hP hD hS hA rfl (fun j hj => by rcases (show j = 0 ∨ j = 1 ∨ j = 2 by omega) with rfl | rfl | rfl <;> rfl) (Nat.le_of_ble_eq_true rfl) (Nat.le_of_ble_eq_true rfl) dZQ_init_28 (fun q_1 H hP hD hS => ?_)
  refine W.widen (k := 1) (n := 3) (by omega) (by omega) ?_
  have hP : va_P (dC, dI) vwCl [(o0, .inr (5, [.null, .null, .null, .null, .null, .null, .null])), (q_1, .inr (1, [.int (0 : Int32), .int (0 : Int32), .null]))] H := hP
  have hD : va_D A [(o0, .inr (5, [.null, .null, .null, .null, .null, .null, .null])), (q_1, .inr (1, [.int (0 : Int32), .int (0 : Int32), .null]))] := hD
  refine lv_dup hx hb dZQ_init_31 rfl ?_
  refine lv_iload_n hx hb dZQ_init_32 rfl (lv_at hl 1 rfl) ?_
  refine lv_iload hx hb dZQ_init_33 (lv_at hl 0 rfl) ?_
  have hPc := hP.sub (ws' := [(q_1, .inr (1, [.int (0 : Int32), .int (0 : Int32), .null]))]) [1] rfl
  have hDc := hD.sub (ws' := [(q_1, .inr (1, [.int (0 : Int32), .int (0 : Int32), .null]))]) [1] (by decide) rfl
  have hFc := va_free (wc := [(q_1, .inr (1, [.int (0 : Int32), .int (0 : Int32), .null]))]) hD hS hA [1] rfl
  refine va_callv (va_runI (As := [.int (if (1 : Int32) < (if a1 < (40 : Int32) then a1 else (40 : Int32)) then (if a1 < (40 : Int32) then a1 else (40 : Int32)) else (1 : Int32)), .int (if (1 : Int32) < (if a2 < (40 : Int32) then a2 else (40 : Int32)) then (if a2 < (40 : Int32) then a2 else (40 : Int32)) else (1 : Int32))]) (rest := [.ref q_1, .ref o0]) ⟨hx, hb, hml, hown, hts⟩ (kt_ZP_init l dC dI cI q_1 _ (if (1 : Int32) < (if a1 < (40 : Int32) then a1 else (40 : Int32)) then (if a1 < (40 : Int32) then a1 else (40 : Int32)) else (1 : Int32)) (if (1 : Int32) < (if a2 < (40 : Int32) then a2 else (40 : Int32)) then (if a2 < (40 : Int32) then a2 else (40 : Int32)) else (1 : Int32)) _ hw) (cwI 2 hts (tb_0 mm_35) rfl rfl rfl (hts _ mm_3) (hts _ mm_33) (hts _ mm_34) rfl (by decide +kernel) ⟨Nat.le_of_ble_eq_true rfl, Nat.le_of_ble_eq_true rfl⟩) ⟨gw_blind, fun U hU hW => gw_pre hPc hDc hK hE hU hW⟩ rfl rfl hl.1 rfl (lv_room (Nat.le_of_ble_eq_true rfl)) dZQ_init_35 ⟨Nat.le_of_ble_eq_true rfl, Nat.le_of_ble_eq_true rfl⟩) hS (fun q _ h => hFc q h) hFc (fun u t H1 locs ht hvm hw hB hz1 hk1 hS => ?_)
  obtain ⟨pn_2, pf_3⟩ := u
  obtain ⟨q_4, hP1, hK1, hD1⟩ := hB
  rw [ht] at hP1
  try dsimp only at hw
  obtain ⟨hP, hD⟩ := va_join (wr := [(o0, .inr (5, [.null, .null, .null, .null, .null, .null, .null]))]) (w1 := [(q_1, .inr (1, [.int (if (1 : Int32) < (if a1 < (40 : Int32) then a1 else (40 : Int32)) then (if a1 < (40 : Int32) then a1 else (40 : Int32)) else (1 : Int32)), .int (if (1 : Int32) < (if a2 < (40 : Int32) then a2 else (40 : Int32)) then (if a2 < (40 : Int32) then a2 else (40 : Int32)) else (1 : Int32)), .ref q_4])), (q_4, .inl (cI, pn_2, .inl pf_3))]) hP hD [1] [0] rfl rfl (by decide) (by decide) hk1 hFc hP1 hD1
  generalize H1 = H at hP hS ⊢
  have hP : va_P (dC, dI) vwCl [(o0, .inr (5, [.null, .null, .null, .null, .null, .null, .null])), (q_1, .inr (1, [.int (if (1 : Int32) < (if a1 < (40 : Int32) then a1 else (40 : Int32)) then (if a1 < (40 : Int32) then a1 else (40 : Int32)) else (1 : Int32)), .int (if (1 : Int32) < (if a2 < (40 : Int32) then a2 else (40 : Int32)) then (if a2 < (40 : Int32) then a2 else (40 : Int32)) else (1 : Int32)), .ref q_4])), (q_4, .inl (cI, pn_2, .inl pf_3))] H := hP
  have hD : va_D A [(o0, .inr (5, [.null, .null, .null, .null, .null, .null, .null])), (q_1, .inr (1, [.int (if (1 : Int32) < (if a1 < (40 : Int32) then a1 else (40 : Int32)) then (if a1 < (40 : Int32) then a1 else (40 : Int32)) else (1 : Int32)), .int (if (1 : Int32) < (if a2 < (40 : Int32) then a2 else (40 : Int32)) then (if a2 < (40 : Int32) then a2 else (40 : Int32)) else (1 : Int32)), .ref q_4])), (q_4, .inl (cI, pn_2, .inl pf_3))] := hD
  refine W.widen (k := 2) (n := 1603) (by omega) (by omega) ?_
  refine va_putF (D := (dC, dI)) (ci := 5) (v := .ref q_1) (ty := (.object "TilePyramid$Picture")) (C := RZQ) (T := TZQ) (N := 7) hx hb hts inZQ tyZQ tyZQ_ok nmZQ hown hK hP hD hS 0 rfl rfl 0 (by decide) (hts _ mm_136) (fun _ h9 => h9) rfl hin rfl (by decide +kernel) rfl rfl (Nat.le_of_ble_eq_true rfl) dZQ_init_38 (fun H locs hP hD hS => ?_)
  have hP : va_P (dC, dI) vwCl [(o0, .inr (5, [.ref q_1, .null, .null, .null, .null, .null, .null])), (q_1, .inr (1, [.int (if (1 : Int32) < (if a1 < (40 : Int32) then a1 else (40 : Int32)) then (if a1 < (40 : Int32) then a1 else (40 : Int32)) else (1 : Int32)), .int (if (1 : Int32) < (if a2 < (40 : Int32) then a2 else (40 : Int32)) then (if a2 < (40 : Int32) then a2 else (40 : Int32)) else (1 : Int32)), .ref q_4])), (q_4, .inl (cI, pn_2, .inl pf_3))] H := hP
  have hD : va_D A [(o0, .inr (5, [.ref q_1, .null, .null, .null, .null, .null, .null])), (q_1, .inr (1, [.int (if (1 : Int32) < (if a1 < (40 : Int32) then a1 else (40 : Int32)) then (if a1 < (40 : Int32) then a1 else (40 : Int32)) else (1 : Int32)), .int (if (1 : Int32) < (if a2 < (40 : Int32) then a2 else (40 : Int32)) then (if a2 < (40 : Int32) then a2 else (40 : Int32)) else (1 : Int32)), .ref q_4])), (q_4, .inl (cI, pn_2, .inl pf_3))] := hD
  refine lv_aload_n hx hb dZQ_init_41 rfl (lv_at hl 2 rfl) ?_
  refine va_new (ci := 1) (fs := [.int (0 : Int32), .int (0 : Int32), .null]) (C := RZP) (T := TZP) (N := 3) hx hb hts inZP tyZP tyZP_ok hown (hts _ mm_31) (hts _ mm_32) (hts _ mm_3) hK hP hD hS hA rfl (fun j hj => by rcases (show j = 0 ∨ j = 1 ∨ j = 2 by omega) with rfl | rfl | rfl <;> rfl) (Nat.le_of_ble_eq_true rfl) (Nat.le_of_ble_eq_true rfl) dZQ_init_42 (fun q_5 H hP hD hS => ?_)
  refine W.widen (k := 3) (n := 1606) (by omega) (by omega) ?_
  have hP : va_P (dC, dI) vwCl [(o0, .inr (5, [.ref q_1, .null, .null, .null, .null, .null, .null])), (q_1, .inr (1, [.int (if (1 : Int32) < (if a1 < (40 : Int32) then a1 else (40 : Int32)) then (if a1 < (40 : Int32) then a1 else (40 : Int32)) else (1 : Int32)), .int (if (1 : Int32) < (if a2 < (40 : Int32) then a2 else (40 : Int32)) then (if a2 < (40 : Int32) then a2 else (40 : Int32)) else (1 : Int32)), .ref q_4])), (q_4, .inl (cI, pn_2, .inl pf_3)), (q_5, .inr (1, [.int (0 : Int32), .int (0 : Int32), .null]))] H := hP
  have hD : va_D A [(o0, .inr (5, [.ref q_1, .null, .null, .null, .null, .null, .null])), (q_1, .inr (1, [.int (if (1 : Int32) < (if a1 < (40 : Int32) then a1 else (40 : Int32)) then (if a1 < (40 : Int32) then a1 else (40 : Int32)) else (1 : Int32)), .int (if (1 : Int32) < (if a2 < (40 : Int32) then a2 else (40 : Int32)) then (if a2 < (40 : Int32) then a2 else (40 : Int32)) else (1 : Int32)), .ref q_4])), (q_4, .inl (cI, pn_2, .inl pf_3)), (q_5, .inr (1, [.int (0 : Int32), .int (0 : Int32), .null]))] := hD
  refine lv_dup hx hb dZQ_init_45 rfl ?_
  refine lv_bipush (v := (8 : Int32)) hx hb dZQ_init_46 (by decide) ?_
  refine lv_iload hx hb dZQ_init_48 (lv_at hl 0 rfl) ?_
  have hPc := hP.sub (ws' := [(q_5, .inr (1, [.int (0 : Int32), .int (0 : Int32), .null]))]) [3] rfl
  have hDc := hD.sub (ws' := [(q_5, .inr (1, [.int (0 : Int32), .int (0 : Int32), .null]))]) [3] (by decide) rfl
  have hFc := va_free (wc := [(q_5, .inr (1, [.int (0 : Int32), .int (0 : Int32), .null]))]) hD hS hA [3] rfl
  refine va_callv (va_runI (As := [.int (8 : Int32), .int (if (1 : Int32) < (if a2 < (40 : Int32) then a2 else (40 : Int32)) then (if a2 < (40 : Int32) then a2 else (40 : Int32)) else (1 : Int32))]) (rest := [.ref q_5, .ref o0]) ⟨hx, hb, hml, hown, hts⟩ (kt_ZP_init l dC dI cI q_5 _ (8 : Int32) (if (1 : Int32) < (if a2 < (40 : Int32) then a2 else (40 : Int32)) then (if a2 < (40 : Int32) then a2 else (40 : Int32)) else (1 : Int32)) _ hw) (cwI 2 hts (tb_0 mm_35) rfl rfl rfl (hts _ mm_3) (hts _ mm_33) (hts _ mm_34) rfl (by decide +kernel) ⟨Nat.le_of_ble_eq_true rfl, Nat.le_of_ble_eq_true rfl⟩) ⟨gw_blind, fun U hU hW => gw_pre hPc hDc hK hE hU hW⟩ rfl rfl hl.1 rfl (lv_room (Nat.le_of_ble_eq_true rfl)) dZQ_init_50 ⟨Nat.le_of_ble_eq_true rfl, Nat.le_of_ble_eq_true rfl⟩) hS (fun q _ h => hFc q h) hFc (fun u t H1 locs ht hvm hw hB hz1 hk1 hS => ?_)
  obtain ⟨pn_6, pf_7⟩ := u
  obtain ⟨q_8, hP1, hK1, hD1⟩ := hB
  rw [ht] at hP1
  try dsimp only at hw
  obtain ⟨hP, hD⟩ := va_join (wr := [(o0, .inr (5, [.ref q_1, .null, .null, .null, .null, .null, .null])), (q_1, .inr (1, [.int (if (1 : Int32) < (if a1 < (40 : Int32) then a1 else (40 : Int32)) then (if a1 < (40 : Int32) then a1 else (40 : Int32)) else (1 : Int32)), .int (if (1 : Int32) < (if a2 < (40 : Int32) then a2 else (40 : Int32)) then (if a2 < (40 : Int32) then a2 else (40 : Int32)) else (1 : Int32)), .ref q_4])), (q_4, .inl (cI, pn_2, .inl pf_3))]) (w1 := [(q_5, .inr (1, [.int (8 : Int32), .int (if (1 : Int32) < (if a2 < (40 : Int32) then a2 else (40 : Int32)) then (if a2 < (40 : Int32) then a2 else (40 : Int32)) else (1 : Int32)), .ref q_8])), (q_8, .inl (cI, pn_6, .inl pf_7))]) hP hD [3] [0, 1, 2] rfl rfl (by decide) (by decide) hk1 hFc hP1 hD1
  generalize H1 = H at hP hS ⊢
  have hP : va_P (dC, dI) vwCl [(o0, .inr (5, [.ref q_1, .null, .null, .null, .null, .null, .null])), (q_1, .inr (1, [.int (if (1 : Int32) < (if a1 < (40 : Int32) then a1 else (40 : Int32)) then (if a1 < (40 : Int32) then a1 else (40 : Int32)) else (1 : Int32)), .int (if (1 : Int32) < (if a2 < (40 : Int32) then a2 else (40 : Int32)) then (if a2 < (40 : Int32) then a2 else (40 : Int32)) else (1 : Int32)), .ref q_4])), (q_4, .inl (cI, pn_2, .inl pf_3)), (q_5, .inr (1, [.int (8 : Int32), .int (if (1 : Int32) < (if a2 < (40 : Int32) then a2 else (40 : Int32)) then (if a2 < (40 : Int32) then a2 else (40 : Int32)) else (1 : Int32)), .ref q_8])), (q_8, .inl (cI, pn_6, .inl pf_7))] H := hP
  have hD : va_D A [(o0, .inr (5, [.ref q_1, .null, .null, .null, .null, .null, .null])), (q_1, .inr (1, [.int (if (1 : Int32) < (if a1 < (40 : Int32) then a1 else (40 : Int32)) then (if a1 < (40 : Int32) then a1 else (40 : Int32)) else (1 : Int32)), .int (if (1 : Int32) < (if a2 < (40 : Int32) then a2 else (40 : Int32)) then (if a2 < (40 : Int32) then a2 else (40 : Int32)) else (1 : Int32)), .ref q_4])), (q_4, .inl (cI, pn_2, .inl pf_3)), (q_5, .inr (1, [.int (8 : Int32), .int (if (1 : Int32) < (if a2 < (40 : Int32) then a2 else (40 : Int32)) then (if a2 < (40 : Int32) then a2 else (40 : Int32)) else (1 : Int32)), .ref q_8])), (q_8, .inl (cI, pn_6, .inl pf_7))] := hD
  refine W.widen (k := 4) (n := 3206) (by omega) (by omega) ?_
  refine va_putF (D := (dC, dI)) (ci := 5) (v := .ref q_5) (ty := (.object "TilePyramid$Picture")) (C := RZQ) (T := TZQ) (N := 7) hx hb hts inZQ tyZQ tyZQ_ok nmZQ hown hK hP hD hS 0 rfl rfl 1 (by decide) (hts _ mm_137) (fun _ h9 => h9) rfl hin rfl (by decide +kernel) rfl rfl (Nat.le_of_ble_eq_true rfl) dZQ_init_53 (fun H locs hP hD hS => ?_)
  have hP : va_P (dC, dI) vwCl [(o0, .inr (5, [.ref q_1, .ref q_5, .null, .null, .null, .null, .null])), (q_1, .inr (1, [.int (if (1 : Int32) < (if a1 < (40 : Int32) then a1 else (40 : Int32)) then (if a1 < (40 : Int32) then a1 else (40 : Int32)) else (1 : Int32)), .int (if (1 : Int32) < (if a2 < (40 : Int32) then a2 else (40 : Int32)) then (if a2 < (40 : Int32) then a2 else (40 : Int32)) else (1 : Int32)), .ref q_4])), (q_4, .inl (cI, pn_2, .inl pf_3)), (q_5, .inr (1, [.int (8 : Int32), .int (if (1 : Int32) < (if a2 < (40 : Int32) then a2 else (40 : Int32)) then (if a2 < (40 : Int32) then a2 else (40 : Int32)) else (1 : Int32)), .ref q_8])), (q_8, .inl (cI, pn_6, .inl pf_7))] H := hP
  have hD : va_D A [(o0, .inr (5, [.ref q_1, .ref q_5, .null, .null, .null, .null, .null])), (q_1, .inr (1, [.int (if (1 : Int32) < (if a1 < (40 : Int32) then a1 else (40 : Int32)) then (if a1 < (40 : Int32) then a1 else (40 : Int32)) else (1 : Int32)), .int (if (1 : Int32) < (if a2 < (40 : Int32) then a2 else (40 : Int32)) then (if a2 < (40 : Int32) then a2 else (40 : Int32)) else (1 : Int32)), .ref q_4])), (q_4, .inl (cI, pn_2, .inl pf_3)), (q_5, .inr (1, [.int (8 : Int32), .int (if (1 : Int32) < (if a2 < (40 : Int32) then a2 else (40 : Int32)) then (if a2 < (40 : Int32) then a2 else (40 : Int32)) else (1 : Int32)), .ref q_8])), (q_8, .inl (cI, pn_6, .inl pf_7))] := hD
  refine lv_aload_n hx hb dZQ_init_56 rfl (lv_at hl 2 rfl) ?_
  refine va_new (ci := 2) (fs := [.null, .int (0 : Int32)]) (C := RZY) (T := TZY) (N := 2) hx hb hts inZY tyZY tyZY_ok hown (hts _ mm_54) (hts _ mm_55) (hts _ mm_4) hK hP hD hS hA rfl (fun j hj => by rcases (show j = 0 ∨ j = 1 by omega) with rfl | rfl <;> rfl) (Nat.le_of_ble_eq_true rfl) (Nat.le_of_ble_eq_true rfl) dZQ_init_57 (fun q_9 H hP hD hS => ?_)
  refine W.widen (k := 5) (n := 3208) (by omega) (by omega) ?_
  have hP : va_P (dC, dI) vwCl [(o0, .inr (5, [.ref q_1, .ref q_5, .null, .null, .null, .null, .null])), (q_1, .inr (1, [.int (if (1 : Int32) < (if a1 < (40 : Int32) then a1 else (40 : Int32)) then (if a1 < (40 : Int32) then a1 else (40 : Int32)) else (1 : Int32)), .int (if (1 : Int32) < (if a2 < (40 : Int32) then a2 else (40 : Int32)) then (if a2 < (40 : Int32) then a2 else (40 : Int32)) else (1 : Int32)), .ref q_4])), (q_4, .inl (cI, pn_2, .inl pf_3)), (q_5, .inr (1, [.int (8 : Int32), .int (if (1 : Int32) < (if a2 < (40 : Int32) then a2 else (40 : Int32)) then (if a2 < (40 : Int32) then a2 else (40 : Int32)) else (1 : Int32)), .ref q_8])), (q_8, .inl (cI, pn_6, .inl pf_7)), (q_9, .inr (2, [.null, .int (0 : Int32)]))] H := hP
  have hD : va_D A [(o0, .inr (5, [.ref q_1, .ref q_5, .null, .null, .null, .null, .null])), (q_1, .inr (1, [.int (if (1 : Int32) < (if a1 < (40 : Int32) then a1 else (40 : Int32)) then (if a1 < (40 : Int32) then a1 else (40 : Int32)) else (1 : Int32)), .int (if (1 : Int32) < (if a2 < (40 : Int32) then a2 else (40 : Int32)) then (if a2 < (40 : Int32) then a2 else (40 : Int32)) else (1 : Int32)), .ref q_4])), (q_4, .inl (cI, pn_2, .inl pf_3)), (q_5, .inr (1, [.int (8 : Int32), .int (if (1 : Int32) < (if a2 < (40 : Int32) then a2 else (40 : Int32)) then (if a2 < (40 : Int32) then a2 else (40 : Int32)) else (1 : Int32)), .ref q_8])), (q_8, .inl (cI, pn_6, .inl pf_7)), (q_9, .inr (2, [.null, .int (0 : Int32)]))] := hD
  refine lv_dup hx hb dZQ_init_60 rfl ?_
  refine lv_aload_n hx hb dZQ_init_61 rfl (lv_at hl 2 rfl) ?_
  refine va_get (D := (dC, dI)) (ci := 5) (v := .ref q_1) (C := RZQ) (T := TZQ) (N := 7) hx hb hts inZQ hown hK hP 0 rfl rfl 0 (by decide) (hts _ mm_136) (fun _ h9 => h9) rfl dZQ_init_62 ?_
  have hPc := hP.sub (ws' := [(q_9, .inr (2, [.null, .int (0 : Int32)])), (q_1, .inr (1, [.int (if (1 : Int32) < (if a1 < (40 : Int32) then a1 else (40 : Int32)) then (if a1 < (40 : Int32) then a1 else (40 : Int32)) else (1 : Int32)), .int (if (1 : Int32) < (if a2 < (40 : Int32) then a2 else (40 : Int32)) then (if a2 < (40 : Int32) then a2 else (40 : Int32)) else (1 : Int32)), .ref q_4])), (q_4, .inl (cI, pn_2, .inl pf_3))]) [5, 1, 2] rfl
  have hDc := hD.sub (ws' := [(q_9, .inr (2, [.null, .int (0 : Int32)])), (q_1, .inr (1, [.int (if (1 : Int32) < (if a1 < (40 : Int32) then a1 else (40 : Int32)) then (if a1 < (40 : Int32) then a1 else (40 : Int32)) else (1 : Int32)), .int (if (1 : Int32) < (if a2 < (40 : Int32) then a2 else (40 : Int32)) then (if a2 < (40 : Int32) then a2 else (40 : Int32)) else (1 : Int32)), .ref q_4])), (q_4, .inl (cI, pn_2, .inl pf_3))]) [5, 1, 2] (by decide) rfl
  have hFc := va_free (wc := [(q_9, .inr (2, [.null, .int (0 : Int32)])), (q_1, .inr (1, [.int (if (1 : Int32) < (if a1 < (40 : Int32) then a1 else (40 : Int32)) then (if a1 < (40 : Int32) then a1 else (40 : Int32)) else (1 : Int32)), .int (if (1 : Int32) < (if a2 < (40 : Int32) then a2 else (40 : Int32)) then (if a2 < (40 : Int32) then a2 else (40 : Int32)) else (1 : Int32)), .ref q_4])), (q_4, .inl (cI, pn_2, .inl pf_3))]) hD hS hA [5, 1, 2] rfl
  refine va_callv (va_runI (As := [.ref q_1]) (rest := [.ref q_9, .ref o0]) ⟨hx, hb, hml, hown, hts⟩ (kt_ZY_init l dC dI cI q_9 q_1 q_4 _ (if (1 : Int32) < (if a1 < (40 : Int32) then a1 else (40 : Int32)) then (if a1 < (40 : Int32) then a1 else (40 : Int32)) else (1 : Int32)) (if (1 : Int32) < (if a2 < (40 : Int32) then a2 else (40 : Int32)) then (if a2 < (40 : Int32) then a2 else (40 : Int32)) else (1 : Int32)) pn_2 pf_3 _ hw) (cwI 1 hts (tb_0 mm_58) rfl rfl rfl (hts _ mm_4) (hts _ mm_56) (hts _ mm_57) rfl (by decide +kernel) ⟨Nat.le_of_ble_eq_true rfl, Nat.le_of_ble_eq_true rfl⟩) ⟨gw_blind, fun U hU hW => gw_pre hPc hDc hK hE hU hW⟩ rfl rfl hl.1 rfl (lv_room (Nat.le_of_ble_eq_true rfl)) dZQ_init_65 ⟨Nat.le_of_ble_eq_true rfl, Nat.le_of_ble_eq_true rfl⟩) hS (fun q _ h => hFc q h) hFc (fun yk_10 t H1 locs ht hvm hw hB hz1 hk1 hS => ?_)
  obtain ⟨hP1, hK1, hD1⟩ := hB
  rw [ht] at hP1
  try dsimp only at hw
  obtain ⟨hP, hD⟩ := va_join (wr := [(o0, .inr (5, [.ref q_1, .ref q_5, .null, .null, .null, .null, .null])), (q_5, .inr (1, [.int (8 : Int32), .int (if (1 : Int32) < (if a2 < (40 : Int32) then a2 else (40 : Int32)) then (if a2 < (40 : Int32) then a2 else (40 : Int32)) else (1 : Int32)), .ref q_8])), (q_8, .inl (cI, pn_6, .inl pf_7))]) (w1 := [(q_9, .inr (2, [.ref q_1, .int yk_10])), (q_1, .inr (1, [.int (if (1 : Int32) < (if a1 < (40 : Int32) then a1 else (40 : Int32)) then (if a1 < (40 : Int32) then a1 else (40 : Int32)) else (1 : Int32)), .int (if (1 : Int32) < (if a2 < (40 : Int32) then a2 else (40 : Int32)) then (if a2 < (40 : Int32) then a2 else (40 : Int32)) else (1 : Int32)), .ref q_4])), (q_4, .inl (cI, pn_2, .inl pf_3))]) hP hD [5, 1, 2] [0, 3, 4] rfl rfl (by decide) (by decide) hk1 hFc hP1 hD1
  generalize H1 = H at hP hS ⊢
  have hP : va_P (dC, dI) vwCl [(o0, .inr (5, [.ref q_1, .ref q_5, .null, .null, .null, .null, .null])), (q_5, .inr (1, [.int (8 : Int32), .int (if (1 : Int32) < (if a2 < (40 : Int32) then a2 else (40 : Int32)) then (if a2 < (40 : Int32) then a2 else (40 : Int32)) else (1 : Int32)), .ref q_8])), (q_8, .inl (cI, pn_6, .inl pf_7)), (q_9, .inr (2, [.ref q_1, .int yk_10])), (q_1, .inr (1, [.int (if (1 : Int32) < (if a1 < (40 : Int32) then a1 else (40 : Int32)) then (if a1 < (40 : Int32) then a1 else (40 : Int32)) else (1 : Int32)), .int (if (1 : Int32) < (if a2 < (40 : Int32) then a2 else (40 : Int32)) then (if a2 < (40 : Int32) then a2 else (40 : Int32)) else (1 : Int32)), .ref q_4])), (q_4, .inl (cI, pn_2, .inl pf_3))] H := hP
  have hD : va_D A [(o0, .inr (5, [.ref q_1, .ref q_5, .null, .null, .null, .null, .null])), (q_5, .inr (1, [.int (8 : Int32), .int (if (1 : Int32) < (if a2 < (40 : Int32) then a2 else (40 : Int32)) then (if a2 < (40 : Int32) then a2 else (40 : Int32)) else (1 : Int32)), .ref q_8])), (q_8, .inl (cI, pn_6, .inl pf_7)), (q_9, .inr (2, [.ref q_1, .int yk_10])), (q_1, .inr (1, [.int (if (1 : Int32) < (if a1 < (40 : Int32) then a1 else (40 : Int32)) then (if a1 < (40 : Int32) then a1 else (40 : Int32)) else (1 : Int32)), .int (if (1 : Int32) < (if a2 < (40 : Int32) then a2 else (40 : Int32)) then (if a2 < (40 : Int32) then a2 else (40 : Int32)) else (1 : Int32)), .ref q_4])), (q_4, .inl (cI, pn_2, .inl pf_3))] := hD
  refine va_putF (D := (dC, dI)) (ci := 5) (v := .ref q_9) (ty := (.object "TilePyramid$Pyramid")) (C := RZQ) (T := TZQ) (N := 7) hx hb hts inZQ tyZQ tyZQ_ok nmZQ hown hK hP hD hS 0 rfl rfl 2 (by decide) (hts _ mm_138) (fun _ h9 => h9) rfl hin rfl (by decide +kernel) rfl rfl (Nat.le_of_ble_eq_true rfl) dZQ_init_68 (fun H locs hP hD hS => ?_)
  have hP : va_P (dC, dI) vwCl [(o0, .inr (5, [.ref q_1, .ref q_5, .ref q_9, .null, .null, .null, .null])), (q_5, .inr (1, [.int (8 : Int32), .int (if (1 : Int32) < (if a2 < (40 : Int32) then a2 else (40 : Int32)) then (if a2 < (40 : Int32) then a2 else (40 : Int32)) else (1 : Int32)), .ref q_8])), (q_8, .inl (cI, pn_6, .inl pf_7)), (q_9, .inr (2, [.ref q_1, .int yk_10])), (q_1, .inr (1, [.int (if (1 : Int32) < (if a1 < (40 : Int32) then a1 else (40 : Int32)) then (if a1 < (40 : Int32) then a1 else (40 : Int32)) else (1 : Int32)), .int (if (1 : Int32) < (if a2 < (40 : Int32) then a2 else (40 : Int32)) then (if a2 < (40 : Int32) then a2 else (40 : Int32)) else (1 : Int32)), .ref q_4])), (q_4, .inl (cI, pn_2, .inl pf_3))] H := hP
  have hD : va_D A [(o0, .inr (5, [.ref q_1, .ref q_5, .ref q_9, .null, .null, .null, .null])), (q_5, .inr (1, [.int (8 : Int32), .int (if (1 : Int32) < (if a2 < (40 : Int32) then a2 else (40 : Int32)) then (if a2 < (40 : Int32) then a2 else (40 : Int32)) else (1 : Int32)), .ref q_8])), (q_8, .inl (cI, pn_6, .inl pf_7)), (q_9, .inr (2, [.ref q_1, .int yk_10])), (q_1, .inr (1, [.int (if (1 : Int32) < (if a1 < (40 : Int32) then a1 else (40 : Int32)) then (if a1 < (40 : Int32) then a1 else (40 : Int32)) else (1 : Int32)), .int (if (1 : Int32) < (if a2 < (40 : Int32) then a2 else (40 : Int32)) then (if a2 < (40 : Int32) then a2 else (40 : Int32)) else (1 : Int32)), .ref q_4])), (q_4, .inl (cI, pn_2, .inl pf_3))] := hD
  refine lv_aload_n hx hb dZQ_init_71 rfl (lv_at hl 2 rfl) ?_
  refine va_new (ci := 0) (fs := [.null, .int (0 : Int32)]) (C := RZB) (T := TZB) (N := 2) hx hb hts inZB tyZB tyZB_ok hown (hts _ mm_69) (hts _ mm_70) (hts _ mm_5) hK hP hD hS hA rfl (fun j hj => by rcases (show j = 0 ∨ j = 1 by omega) with rfl | rfl <;> rfl) (Nat.le_of_ble_eq_true rfl) (Nat.le_of_ble_eq_true rfl) dZQ_init_72 (fun q_11 H hP hD hS => ?_)
  refine W.widen (k := 6) (n := 3210) (by omega) (by omega) ?_
  have hP : va_P (dC, dI) vwCl [(o0, .inr (5, [.ref q_1, .ref q_5, .ref q_9, .null, .null, .null, .null])), (q_5, .inr (1, [.int (8 : Int32), .int (if (1 : Int32) < (if a2 < (40 : Int32) then a2 else (40 : Int32)) then (if a2 < (40 : Int32) then a2 else (40 : Int32)) else (1 : Int32)), .ref q_8])), (q_8, .inl (cI, pn_6, .inl pf_7)), (q_9, .inr (2, [.ref q_1, .int yk_10])), (q_1, .inr (1, [.int (if (1 : Int32) < (if a1 < (40 : Int32) then a1 else (40 : Int32)) then (if a1 < (40 : Int32) then a1 else (40 : Int32)) else (1 : Int32)), .int (if (1 : Int32) < (if a2 < (40 : Int32) then a2 else (40 : Int32)) then (if a2 < (40 : Int32) then a2 else (40 : Int32)) else (1 : Int32)), .ref q_4])), (q_4, .inl (cI, pn_2, .inl pf_3)), (q_11, .inr (0, [.null, .int (0 : Int32)]))] H := hP
  have hD : va_D A [(o0, .inr (5, [.ref q_1, .ref q_5, .ref q_9, .null, .null, .null, .null])), (q_5, .inr (1, [.int (8 : Int32), .int (if (1 : Int32) < (if a2 < (40 : Int32) then a2 else (40 : Int32)) then (if a2 < (40 : Int32) then a2 else (40 : Int32)) else (1 : Int32)), .ref q_8])), (q_8, .inl (cI, pn_6, .inl pf_7)), (q_9, .inr (2, [.ref q_1, .int yk_10])), (q_1, .inr (1, [.int (if (1 : Int32) < (if a1 < (40 : Int32) then a1 else (40 : Int32)) then (if a1 < (40 : Int32) then a1 else (40 : Int32)) else (1 : Int32)), .int (if (1 : Int32) < (if a2 < (40 : Int32) then a2 else (40 : Int32)) then (if a2 < (40 : Int32) then a2 else (40 : Int32)) else (1 : Int32)), .ref q_4])), (q_4, .inl (cI, pn_2, .inl pf_3)), (q_11, .inr (0, [.null, .int (0 : Int32)]))] := hD
  refine lv_dup hx hb dZQ_init_75 rfl ?_
  have hPc := hP.sub (ws' := [(q_11, .inr (0, [.null, .int (0 : Int32)]))]) [6] rfl
  have hDc := hD.sub (ws' := [(q_11, .inr (0, [.null, .int (0 : Int32)]))]) [6] (by decide) rfl
  have hFc := va_free (wc := [(q_11, .inr (0, [.null, .int (0 : Int32)]))]) hD hS hA [6] rfl
  refine va_callv (va_runIN (As := []) (rest := [.ref q_11, .ref o0]) ⟨hx, hb, hml, hown, hts⟩ (kt_ZB_init l dC dI cI q_11 _ (0 : Int32) _ hw) ⟨(va_cnB 0 hts (tb_0 mm_73) rfl rfl rfl (gxE_0 hE) (hts _ mm_5) (by decide +kernel) ⟨Nat.le_of_ble_eq_true rfl, Nat.le_of_ble_eq_true rfl⟩), rfl, hts _ mm_72⟩ ⟨gw_blind, fun U hU hW => gw_pre hPc hDc hK hE hU hW⟩ rfl rfl hl.1 rfl (lv_room (Nat.le_of_ble_eq_true rfl)) dZQ_init_76 ⟨Nat.le_of_ble_eq_true rfl, Nat.le_of_ble_eq_true rfl⟩) hS (fun q _ h => hFc q h) hFc (fun bf_12 t H1 locs ht hvm hw hB hz1 hk1 hS => ?_)
  obtain ⟨q_13, hP1, hK1, hD1⟩ := hB
  rw [ht] at hP1
  try dsimp only at hw
  obtain ⟨hP, hD⟩ := va_join (wr := [(o0, .inr (5, [.ref q_1, .ref q_5, .ref q_9, .null, .null, .null, .null])), (q_5, .inr (1, [.int (8 : Int32), .int (if (1 : Int32) < (if a2 < (40 : Int32) then a2 else (40 : Int32)) then (if a2 < (40 : Int32) then a2 else (40 : Int32)) else (1 : Int32)), .ref q_8])), (q_8, .inl (cI, pn_6, .inl pf_7)), (q_9, .inr (2, [.ref q_1, .int yk_10])), (q_1, .inr (1, [.int (if (1 : Int32) < (if a1 < (40 : Int32) then a1 else (40 : Int32)) then (if a1 < (40 : Int32) then a1 else (40 : Int32)) else (1 : Int32)), .int (if (1 : Int32) < (if a2 < (40 : Int32) then a2 else (40 : Int32)) then (if a2 < (40 : Int32) then a2 else (40 : Int32)) else (1 : Int32)), .ref q_4])), (q_4, .inl (cI, pn_2, .inl pf_3))]) (w1 := [(q_11, .inr (0, [.ref q_13, .int (0 : Int32)])), (q_13, .inl (cI, 256, .inl bf_12))]) hP hD [6] [0, 1, 2, 3, 4, 5] rfl rfl (by decide) (by decide) hk1 hFc hP1 hD1
  generalize H1 = H at hP hS ⊢
  have hP : va_P (dC, dI) vwCl [(o0, .inr (5, [.ref q_1, .ref q_5, .ref q_9, .null, .null, .null, .null])), (q_5, .inr (1, [.int (8 : Int32), .int (if (1 : Int32) < (if a2 < (40 : Int32) then a2 else (40 : Int32)) then (if a2 < (40 : Int32) then a2 else (40 : Int32)) else (1 : Int32)), .ref q_8])), (q_8, .inl (cI, pn_6, .inl pf_7)), (q_9, .inr (2, [.ref q_1, .int yk_10])), (q_1, .inr (1, [.int (if (1 : Int32) < (if a1 < (40 : Int32) then a1 else (40 : Int32)) then (if a1 < (40 : Int32) then a1 else (40 : Int32)) else (1 : Int32)), .int (if (1 : Int32) < (if a2 < (40 : Int32) then a2 else (40 : Int32)) then (if a2 < (40 : Int32) then a2 else (40 : Int32)) else (1 : Int32)), .ref q_4])), (q_4, .inl (cI, pn_2, .inl pf_3)), (q_11, .inr (0, [.ref q_13, .int (0 : Int32)])), (q_13, .inl (cI, 256, .inl bf_12))] H := hP
  have hD : va_D A [(o0, .inr (5, [.ref q_1, .ref q_5, .ref q_9, .null, .null, .null, .null])), (q_5, .inr (1, [.int (8 : Int32), .int (if (1 : Int32) < (if a2 < (40 : Int32) then a2 else (40 : Int32)) then (if a2 < (40 : Int32) then a2 else (40 : Int32)) else (1 : Int32)), .ref q_8])), (q_8, .inl (cI, pn_6, .inl pf_7)), (q_9, .inr (2, [.ref q_1, .int yk_10])), (q_1, .inr (1, [.int (if (1 : Int32) < (if a1 < (40 : Int32) then a1 else (40 : Int32)) then (if a1 < (40 : Int32) then a1 else (40 : Int32)) else (1 : Int32)), .int (if (1 : Int32) < (if a2 < (40 : Int32) then a2 else (40 : Int32)) then (if a2 < (40 : Int32) then a2 else (40 : Int32)) else (1 : Int32)), .ref q_4])), (q_4, .inl (cI, pn_2, .inl pf_3)), (q_11, .inr (0, [.ref q_13, .int (0 : Int32)])), (q_13, .inl (cI, 256, .inl bf_12))] := hD
  refine W.widen (k := 7) (n := 3466) (by omega) (by omega) ?_
  refine va_putF (D := (dC, dI)) (ci := 5) (v := .ref q_11) (ty := (.object "TilePyramid$ByteRow")) (C := RZQ) (T := TZQ) (N := 7) hx hb hts inZQ tyZQ tyZQ_ok nmZQ hown hK hP hD hS 0 rfl rfl 3 (by decide) (hts _ mm_139) (fun _ h9 => h9) rfl hin rfl (by decide +kernel) rfl rfl (Nat.le_of_ble_eq_true rfl) dZQ_init_79 (fun H locs hP hD hS => ?_)
  have hP : va_P (dC, dI) vwCl [(o0, .inr (5, [.ref q_1, .ref q_5, .ref q_9, .ref q_11, .null, .null, .null])), (q_5, .inr (1, [.int (8 : Int32), .int (if (1 : Int32) < (if a2 < (40 : Int32) then a2 else (40 : Int32)) then (if a2 < (40 : Int32) then a2 else (40 : Int32)) else (1 : Int32)), .ref q_8])), (q_8, .inl (cI, pn_6, .inl pf_7)), (q_9, .inr (2, [.ref q_1, .int yk_10])), (q_1, .inr (1, [.int (if (1 : Int32) < (if a1 < (40 : Int32) then a1 else (40 : Int32)) then (if a1 < (40 : Int32) then a1 else (40 : Int32)) else (1 : Int32)), .int (if (1 : Int32) < (if a2 < (40 : Int32) then a2 else (40 : Int32)) then (if a2 < (40 : Int32) then a2 else (40 : Int32)) else (1 : Int32)), .ref q_4])), (q_4, .inl (cI, pn_2, .inl pf_3)), (q_11, .inr (0, [.ref q_13, .int (0 : Int32)])), (q_13, .inl (cI, 256, .inl bf_12))] H := hP
  have hD : va_D A [(o0, .inr (5, [.ref q_1, .ref q_5, .ref q_9, .ref q_11, .null, .null, .null])), (q_5, .inr (1, [.int (8 : Int32), .int (if (1 : Int32) < (if a2 < (40 : Int32) then a2 else (40 : Int32)) then (if a2 < (40 : Int32) then a2 else (40 : Int32)) else (1 : Int32)), .ref q_8])), (q_8, .inl (cI, pn_6, .inl pf_7)), (q_9, .inr (2, [.ref q_1, .int yk_10])), (q_1, .inr (1, [.int (if (1 : Int32) < (if a1 < (40 : Int32) then a1 else (40 : Int32)) then (if a1 < (40 : Int32) then a1 else (40 : Int32)) else (1 : Int32)), .int (if (1 : Int32) < (if a2 < (40 : Int32) then a2 else (40 : Int32)) then (if a2 < (40 : Int32) then a2 else (40 : Int32)) else (1 : Int32)), .ref q_4])), (q_4, .inl (cI, pn_2, .inl pf_3)), (q_11, .inr (0, [.ref q_13, .int (0 : Int32)])), (q_13, .inl (cI, 256, .inl bf_12))] := hD
  refine lv_aload_n hx hb dZQ_init_82 rfl (lv_at hl 2 rfl) ?_
  refine va_new (ci := 3) (fs := [.null, .null, .null, .null, .int (0 : Int32)]) (C := RZS) (T := TZS) (N := 5) hx hb hts inZS tyZS tyZS_ok hown (hts _ mm_87) (hts _ mm_88) (hts _ mm_6) hK hP hD hS hA rfl (fun j hj => by rcases (show j = 0 ∨ j = 1 ∨ j = 2 ∨ j = 3 ∨ j = 4 by omega) with rfl | rfl | rfl | rfl | rfl <;> rfl) (Nat.le_of_ble_eq_true rfl) (Nat.le_of_ble_eq_true rfl) dZQ_init_83 (fun q_14 H hP hD hS => ?_)
  refine W.widen (k := 8) (n := 3471) (by omega) (by omega) ?_
  have hP : va_P (dC, dI) vwCl [(o0, .inr (5, [.ref q_1, .ref q_5, .ref q_9, .ref q_11, .null, .null, .null])), (q_5, .inr (1, [.int (8 : Int32), .int (if (1 : Int32) < (if a2 < (40 : Int32) then a2 else (40 : Int32)) then (if a2 < (40 : Int32) then a2 else (40 : Int32)) else (1 : Int32)), .ref q_8])), (q_8, .inl (cI, pn_6, .inl pf_7)), (q_9, .inr (2, [.ref q_1, .int yk_10])), (q_1, .inr (1, [.int (if (1 : Int32) < (if a1 < (40 : Int32) then a1 else (40 : Int32)) then (if a1 < (40 : Int32) then a1 else (40 : Int32)) else (1 : Int32)), .int (if (1 : Int32) < (if a2 < (40 : Int32) then a2 else (40 : Int32)) then (if a2 < (40 : Int32) then a2 else (40 : Int32)) else (1 : Int32)), .ref q_4])), (q_4, .inl (cI, pn_2, .inl pf_3)), (q_11, .inr (0, [.ref q_13, .int (0 : Int32)])), (q_13, .inl (cI, 256, .inl bf_12)), (q_14, .inr (3, [.null, .null, .null, .null, .int (0 : Int32)]))] H := hP
  have hD : va_D A [(o0, .inr (5, [.ref q_1, .ref q_5, .ref q_9, .ref q_11, .null, .null, .null])), (q_5, .inr (1, [.int (8 : Int32), .int (if (1 : Int32) < (if a2 < (40 : Int32) then a2 else (40 : Int32)) then (if a2 < (40 : Int32) then a2 else (40 : Int32)) else (1 : Int32)), .ref q_8])), (q_8, .inl (cI, pn_6, .inl pf_7)), (q_9, .inr (2, [.ref q_1, .int yk_10])), (q_1, .inr (1, [.int (if (1 : Int32) < (if a1 < (40 : Int32) then a1 else (40 : Int32)) then (if a1 < (40 : Int32) then a1 else (40 : Int32)) else (1 : Int32)), .int (if (1 : Int32) < (if a2 < (40 : Int32) then a2 else (40 : Int32)) then (if a2 < (40 : Int32) then a2 else (40 : Int32)) else (1 : Int32)), .ref q_4])), (q_4, .inl (cI, pn_2, .inl pf_3)), (q_11, .inr (0, [.ref q_13, .int (0 : Int32)])), (q_13, .inl (cI, 256, .inl bf_12)), (q_14, .inr (3, [.null, .null, .null, .null, .int (0 : Int32)]))] := hD
  refine lv_dup hx hb dZQ_init_86 rfl ?_
  refine lv_aload_n hx hb dZQ_init_87 rfl (lv_at hl 2 rfl) ?_
  refine va_get (D := (dC, dI)) (ci := 5) (v := .ref q_1) (C := RZQ) (T := TZQ) (N := 7) hx hb hts inZQ hown hK hP 0 rfl rfl 0 (by decide) (hts _ mm_136) (fun _ h9 => h9) rfl dZQ_init_88 ?_
  refine lv_aload_n hx hb dZQ_init_91 rfl (lv_at hl 2 rfl) ?_
  refine va_get (D := (dC, dI)) (ci := 5) (v := .ref q_5) (C := RZQ) (T := TZQ) (N := 7) hx hb hts inZQ hown hK hP 0 rfl rfl 1 (by decide) (hts _ mm_137) (fun _ h9 => h9) rfl dZQ_init_92 ?_
  have hPc := hP.sub (ws' := [(q_14, .inr (3, [.null, .null, .null, .null, .int (0 : Int32)])), (q_1, .inr (1, [.int (if (1 : Int32) < (if a1 < (40 : Int32) then a1 else (40 : Int32)) then (if a1 < (40 : Int32) then a1 else (40 : Int32)) else (1 : Int32)), .int (if (1 : Int32) < (if a2 < (40 : Int32) then a2 else (40 : Int32)) then (if a2 < (40 : Int32) then a2 else (40 : Int32)) else (1 : Int32)), .ref q_4])), (q_4, .inl (cI, pn_2, .inl pf_3)), (q_5, .inr (1, [.int (8 : Int32), .int (if (1 : Int32) < (if a2 < (40 : Int32) then a2 else (40 : Int32)) then (if a2 < (40 : Int32) then a2 else (40 : Int32)) else (1 : Int32)), .ref q_8])), (q_8, .inl (cI, pn_6, .inl pf_7))]) [8, 4, 5, 1, 2] rfl
  have hDc := hD.sub (ws' := [(q_14, .inr (3, [.null, .null, .null, .null, .int (0 : Int32)])), (q_1, .inr (1, [.int (if (1 : Int32) < (if a1 < (40 : Int32) then a1 else (40 : Int32)) then (if a1 < (40 : Int32) then a1 else (40 : Int32)) else (1 : Int32)), .int (if (1 : Int32) < (if a2 < (40 : Int32) then a2 else (40 : Int32)) then (if a2 < (40 : Int32) then a2 else (40 : Int32)) else (1 : Int32)), .ref q_4])), (q_4, .inl (cI, pn_2, .inl pf_3)), (q_5, .inr (1, [.int (8 : Int32), .int (if (1 : Int32) < (if a2 < (40 : Int32) then a2 else (40 : Int32)) then (if a2 < (40 : Int32) then a2 else (40 : Int32)) else (1 : Int32)), .ref q_8])), (q_8, .inl (cI, pn_6, .inl pf_7))]) [8, 4, 5, 1, 2] (by decide) rfl
  have hFc := va_free (wc := [(q_14, .inr (3, [.null, .null, .null, .null, .int (0 : Int32)])), (q_1, .inr (1, [.int (if (1 : Int32) < (if a1 < (40 : Int32) then a1 else (40 : Int32)) then (if a1 < (40 : Int32) then a1 else (40 : Int32)) else (1 : Int32)), .int (if (1 : Int32) < (if a2 < (40 : Int32) then a2 else (40 : Int32)) then (if a2 < (40 : Int32) then a2 else (40 : Int32)) else (1 : Int32)), .ref q_4])), (q_4, .inl (cI, pn_2, .inl pf_3)), (q_5, .inr (1, [.int (8 : Int32), .int (if (1 : Int32) < (if a2 < (40 : Int32) then a2 else (40 : Int32)) then (if a2 < (40 : Int32) then a2 else (40 : Int32)) else (1 : Int32)), .ref q_8])), (q_8, .inl (cI, pn_6, .inl pf_7))]) hD hS hA [8, 4, 5, 1, 2] rfl
  refine va_callv (va_runI (As := [.ref q_1, .ref q_5]) (rest := [.ref q_14, .ref o0]) ⟨hx, hb, hml, hown, hts⟩ (kt_ZS_init l dC dI cI q_14 q_1 q_4 q_5 q_8 _ (0 : Int32) (if (1 : Int32) < (if a1 < (40 : Int32) then a1 else (40 : Int32)) then (if a1 < (40 : Int32) then a1 else (40 : Int32)) else (1 : Int32)) (if (1 : Int32) < (if a2 < (40 : Int32) then a2 else (40 : Int32)) then (if a2 < (40 : Int32) then a2 else (40 : Int32)) else (1 : Int32)) pn_2 pf_3 (8 : Int32) (if (1 : Int32) < (if a2 < (40 : Int32) then a2 else (40 : Int32)) then (if a2 < (40 : Int32) then a2 else (40 : Int32)) else (1 : Int32)) pn_6 pf_7 _ hw) (cwI 2 hts (tb_0 mm_91) rfl rfl rfl (hts _ mm_6) (hts _ mm_89) (hts _ mm_90) rfl (by decide +kernel) ⟨Nat.le_of_ble_eq_true rfl, Nat.le_of_ble_eq_true rfl⟩) ⟨gw_blind, fun U hU hW => gw_pre hPc hDc hK hE hU hW⟩ rfl rfl hl.1 rfl (lv_room (Nat.le_of_ble_eq_true rfl)) dZQ_init_95 ⟨Nat.le_of_ble_eq_true rfl, Nat.le_of_ble_eq_true rfl⟩) hS (fun q _ h => hFc q h) hFc (fun u t H1 locs ht hvm hw hB hz1 hk1 hS => ?_)
  obtain ⟨kn_15, kf_16, sn_17, sf_18⟩ := u
  obtain ⟨q_19, q_20, hP1, hK1, hD1⟩ := hB
  rw [ht] at hP1
  try dsimp only at hw
  obtain ⟨hP, hD⟩ := va_join (wr := [(o0, .inr (5, [.ref q_1, .ref q_5, .ref q_9, .ref q_11, .null, .null, .null])), (q_9, .inr (2, [.ref q_1, .int yk_10])), (q_11, .inr (0, [.ref q_13, .int (0 : Int32)])), (q_13, .inl (cI, 256, .inl bf_12))]) (w1 := [(q_14, .inr (3, [.ref q_1, .ref q_5, .ref q_19, .ref q_20, .int (0 : Int32)])), (q_19, .inl (cI, kn_15, .inl kf_16)), (q_20, .inl (cI, sn_17, .inl sf_18)), (q_1, .inr (1, [.int (if (1 : Int32) < (if a1 < (40 : Int32) then a1 else (40 : Int32)) then (if a1 < (40 : Int32) then a1 else (40 : Int32)) else (1 : Int32)), .int (if (1 : Int32) < (if a2 < (40 : Int32) then a2 else (40 : Int32)) then (if a2 < (40 : Int32) then a2 else (40 : Int32)) else (1 : Int32)), .ref q_4])), (q_4, .inl (cI, pn_2, .inl pf_3)), (q_5, .inr (1, [.int (8 : Int32), .int (if (1 : Int32) < (if a2 < (40 : Int32) then a2 else (40 : Int32)) then (if a2 < (40 : Int32) then a2 else (40 : Int32)) else (1 : Int32)), .ref q_8])), (q_8, .inl (cI, pn_6, .inl pf_7))]) hP hD [8, 4, 5, 1, 2] [0, 3, 6, 7] rfl rfl (by decide) (by decide) hk1 hFc hP1 hD1
  generalize H1 = H at hP hS ⊢
  have hP : va_P (dC, dI) vwCl [(o0, .inr (5, [.ref q_1, .ref q_5, .ref q_9, .ref q_11, .null, .null, .null])), (q_9, .inr (2, [.ref q_1, .int yk_10])), (q_11, .inr (0, [.ref q_13, .int (0 : Int32)])), (q_13, .inl (cI, 256, .inl bf_12)), (q_14, .inr (3, [.ref q_1, .ref q_5, .ref q_19, .ref q_20, .int (0 : Int32)])), (q_19, .inl (cI, kn_15, .inl kf_16)), (q_20, .inl (cI, sn_17, .inl sf_18)), (q_1, .inr (1, [.int (if (1 : Int32) < (if a1 < (40 : Int32) then a1 else (40 : Int32)) then (if a1 < (40 : Int32) then a1 else (40 : Int32)) else (1 : Int32)), .int (if (1 : Int32) < (if a2 < (40 : Int32) then a2 else (40 : Int32)) then (if a2 < (40 : Int32) then a2 else (40 : Int32)) else (1 : Int32)), .ref q_4])), (q_4, .inl (cI, pn_2, .inl pf_3)), (q_5, .inr (1, [.int (8 : Int32), .int (if (1 : Int32) < (if a2 < (40 : Int32) then a2 else (40 : Int32)) then (if a2 < (40 : Int32) then a2 else (40 : Int32)) else (1 : Int32)), .ref q_8])), (q_8, .inl (cI, pn_6, .inl pf_7))] H := hP
  have hD : va_D A [(o0, .inr (5, [.ref q_1, .ref q_5, .ref q_9, .ref q_11, .null, .null, .null])), (q_9, .inr (2, [.ref q_1, .int yk_10])), (q_11, .inr (0, [.ref q_13, .int (0 : Int32)])), (q_13, .inl (cI, 256, .inl bf_12)), (q_14, .inr (3, [.ref q_1, .ref q_5, .ref q_19, .ref q_20, .int (0 : Int32)])), (q_19, .inl (cI, kn_15, .inl kf_16)), (q_20, .inl (cI, sn_17, .inl sf_18)), (q_1, .inr (1, [.int (if (1 : Int32) < (if a1 < (40 : Int32) then a1 else (40 : Int32)) then (if a1 < (40 : Int32) then a1 else (40 : Int32)) else (1 : Int32)), .int (if (1 : Int32) < (if a2 < (40 : Int32) then a2 else (40 : Int32)) then (if a2 < (40 : Int32) then a2 else (40 : Int32)) else (1 : Int32)), .ref q_4])), (q_4, .inl (cI, pn_2, .inl pf_3)), (q_5, .inr (1, [.int (8 : Int32), .int (if (1 : Int32) < (if a2 < (40 : Int32) then a2 else (40 : Int32)) then (if a2 < (40 : Int32) then a2 else (40 : Int32)) else (1 : Int32)), .ref q_8])), (q_8, .inl (cI, pn_6, .inl pf_7))] := hD
  refine W.widen (k := 10) (n := 3831) (by omega) (by omega) ?_
  refine va_putF (D := (dC, dI)) (ci := 5) (v := .ref q_14) (ty := (.object "TilePyramid$SeamFinder")) (C := RZQ) (T := TZQ) (N := 7) hx hb hts inZQ tyZQ tyZQ_ok nmZQ hown hK hP hD hS 0 rfl rfl 4 (by decide) (hts _ mm_140) (fun _ h9 => h9) rfl hin rfl (by decide +kernel) rfl rfl (Nat.le_of_ble_eq_true rfl) dZQ_init_98 (fun H locs hP hD hS => ?_)
  have hP : va_P (dC, dI) vwCl [(o0, .inr (5, [.ref q_1, .ref q_5, .ref q_9, .ref q_11, .ref q_14, .null, .null])), (q_9, .inr (2, [.ref q_1, .int yk_10])), (q_11, .inr (0, [.ref q_13, .int (0 : Int32)])), (q_13, .inl (cI, 256, .inl bf_12)), (q_14, .inr (3, [.ref q_1, .ref q_5, .ref q_19, .ref q_20, .int (0 : Int32)])), (q_19, .inl (cI, kn_15, .inl kf_16)), (q_20, .inl (cI, sn_17, .inl sf_18)), (q_1, .inr (1, [.int (if (1 : Int32) < (if a1 < (40 : Int32) then a1 else (40 : Int32)) then (if a1 < (40 : Int32) then a1 else (40 : Int32)) else (1 : Int32)), .int (if (1 : Int32) < (if a2 < (40 : Int32) then a2 else (40 : Int32)) then (if a2 < (40 : Int32) then a2 else (40 : Int32)) else (1 : Int32)), .ref q_4])), (q_4, .inl (cI, pn_2, .inl pf_3)), (q_5, .inr (1, [.int (8 : Int32), .int (if (1 : Int32) < (if a2 < (40 : Int32) then a2 else (40 : Int32)) then (if a2 < (40 : Int32) then a2 else (40 : Int32)) else (1 : Int32)), .ref q_8])), (q_8, .inl (cI, pn_6, .inl pf_7))] H := hP
  have hD : va_D A [(o0, .inr (5, [.ref q_1, .ref q_5, .ref q_9, .ref q_11, .ref q_14, .null, .null])), (q_9, .inr (2, [.ref q_1, .int yk_10])), (q_11, .inr (0, [.ref q_13, .int (0 : Int32)])), (q_13, .inl (cI, 256, .inl bf_12)), (q_14, .inr (3, [.ref q_1, .ref q_5, .ref q_19, .ref q_20, .int (0 : Int32)])), (q_19, .inl (cI, kn_15, .inl kf_16)), (q_20, .inl (cI, sn_17, .inl sf_18)), (q_1, .inr (1, [.int (if (1 : Int32) < (if a1 < (40 : Int32) then a1 else (40 : Int32)) then (if a1 < (40 : Int32) then a1 else (40 : Int32)) else (1 : Int32)), .int (if (1 : Int32) < (if a2 < (40 : Int32) then a2 else (40 : Int32)) then (if a2 < (40 : Int32) then a2 else (40 : Int32)) else (1 : Int32)), .ref q_4])), (q_4, .inl (cI, pn_2, .inl pf_3)), (q_5, .inr (1, [.int (8 : Int32), .int (if (1 : Int32) < (if a2 < (40 : Int32) then a2 else (40 : Int32)) then (if a2 < (40 : Int32) then a2 else (40 : Int32)) else (1 : Int32)), .ref q_8])), (q_8, .inl (cI, pn_6, .inl pf_7))] := hD
  refine lv_aload_n hx hb dZQ_init_101 rfl (lv_at hl 2 rfl) ?_
  refine va_new (ci := 4) (fs := [.null, .int (0 : Int32), .int (0 : Int32)]) (C := RZT) (T := TZT) (N := 3) hx hb hts inZT tyZT tyZT_ok hown (hts _ mm_111) (hts _ mm_112) (hts _ mm_7) hK hP hD hS hA rfl (fun j hj => by rcases (show j = 0 ∨ j = 1 ∨ j = 2 by omega) with rfl | rfl | rfl <;> rfl) (Nat.le_of_ble_eq_true rfl) (Nat.le_of_ble_eq_true rfl) dZQ_init_102 (fun q_21 H hP hD hS => ?_)
  refine W.widen (k := 11) (n := 3834) (by omega) (by omega) ?_
  have hP : va_P (dC, dI) vwCl [(o0, .inr (5, [.ref q_1, .ref q_5, .ref q_9, .ref q_11, .ref q_14, .null, .null])), (q_9, .inr (2, [.ref q_1, .int yk_10])), (q_11, .inr (0, [.ref q_13, .int (0 : Int32)])), (q_13, .inl (cI, 256, .inl bf_12)), (q_14, .inr (3, [.ref q_1, .ref q_5, .ref q_19, .ref q_20, .int (0 : Int32)])), (q_19, .inl (cI, kn_15, .inl kf_16)), (q_20, .inl (cI, sn_17, .inl sf_18)), (q_1, .inr (1, [.int (if (1 : Int32) < (if a1 < (40 : Int32) then a1 else (40 : Int32)) then (if a1 < (40 : Int32) then a1 else (40 : Int32)) else (1 : Int32)), .int (if (1 : Int32) < (if a2 < (40 : Int32) then a2 else (40 : Int32)) then (if a2 < (40 : Int32) then a2 else (40 : Int32)) else (1 : Int32)), .ref q_4])), (q_4, .inl (cI, pn_2, .inl pf_3)), (q_5, .inr (1, [.int (8 : Int32), .int (if (1 : Int32) < (if a2 < (40 : Int32) then a2 else (40 : Int32)) then (if a2 < (40 : Int32) then a2 else (40 : Int32)) else (1 : Int32)), .ref q_8])), (q_8, .inl (cI, pn_6, .inl pf_7)), (q_21, .inr (4, [.null, .int (0 : Int32), .int (0 : Int32)]))] H := hP
  have hD : va_D A [(o0, .inr (5, [.ref q_1, .ref q_5, .ref q_9, .ref q_11, .ref q_14, .null, .null])), (q_9, .inr (2, [.ref q_1, .int yk_10])), (q_11, .inr (0, [.ref q_13, .int (0 : Int32)])), (q_13, .inl (cI, 256, .inl bf_12)), (q_14, .inr (3, [.ref q_1, .ref q_5, .ref q_19, .ref q_20, .int (0 : Int32)])), (q_19, .inl (cI, kn_15, .inl kf_16)), (q_20, .inl (cI, sn_17, .inl sf_18)), (q_1, .inr (1, [.int (if (1 : Int32) < (if a1 < (40 : Int32) then a1 else (40 : Int32)) then (if a1 < (40 : Int32) then a1 else (40 : Int32)) else (1 : Int32)), .int (if (1 : Int32) < (if a2 < (40 : Int32) then a2 else (40 : Int32)) then (if a2 < (40 : Int32) then a2 else (40 : Int32)) else (1 : Int32)), .ref q_4])), (q_4, .inl (cI, pn_2, .inl pf_3)), (q_5, .inr (1, [.int (8 : Int32), .int (if (1 : Int32) < (if a2 < (40 : Int32) then a2 else (40 : Int32)) then (if a2 < (40 : Int32) then a2 else (40 : Int32)) else (1 : Int32)), .ref q_8])), (q_8, .inl (cI, pn_6, .inl pf_7)), (q_21, .inr (4, [.null, .int (0 : Int32), .int (0 : Int32)]))] := hD
  refine lv_dup hx hb dZQ_init_105 rfl ?_
  have hPc := hP.sub (ws' := [(q_21, .inr (4, [.null, .int (0 : Int32), .int (0 : Int32)]))]) [11] rfl
  have hDc := hD.sub (ws' := [(q_21, .inr (4, [.null, .int (0 : Int32), .int (0 : Int32)]))]) [11] (by decide) rfl
  have hFc := va_free (wc := [(q_21, .inr (4, [.null, .int (0 : Int32), .int (0 : Int32)]))]) hD hS hA [11] rfl
  refine va_callv (va_runIN (As := []) (rest := [.ref q_21, .ref o0]) ⟨hx, hb, hml, hown, hts⟩ (kt_ZT_init l dC dI cI q_21 _ (0 : Int32) (0 : Int32) _ hw) ⟨(va_cnB 0 hts (tb_0 mm_115) rfl rfl rfl (gxE_1 hE) (hts _ mm_7) (by decide +kernel) ⟨Nat.le_of_ble_eq_true rfl, Nat.le_of_ble_eq_true rfl⟩), rfl, hts _ mm_114⟩ ⟨gw_blind, fun U hU hW => gw_pre hPc hDc hK hE hU hW⟩ rfl rfl hl.1 rfl (lv_room (Nat.le_of_ble_eq_true rfl)) dZQ_init_106 ⟨Nat.le_of_ble_eq_true rfl, Nat.le_of_ble_eq_true rfl⟩) hS (fun q _ h => hFc q h) hFc (fun tf_22 t H1 locs ht hvm hw hB hz1 hk1 hS => ?_)
  obtain ⟨q_23, hP1, hK1, hD1⟩ := hB
  rw [ht] at hP1
  try dsimp only at hw
  obtain ⟨hP, hD⟩ := va_join (wr := [(o0, .inr (5, [.ref q_1, .ref q_5, .ref q_9, .ref q_11, .ref q_14, .null, .null])), (q_9, .inr (2, [.ref q_1, .int yk_10])), (q_11, .inr (0, [.ref q_13, .int (0 : Int32)])), (q_13, .inl (cI, 256, .inl bf_12)), (q_14, .inr (3, [.ref q_1, .ref q_5, .ref q_19, .ref q_20, .int (0 : Int32)])), (q_19, .inl (cI, kn_15, .inl kf_16)), (q_20, .inl (cI, sn_17, .inl sf_18)), (q_1, .inr (1, [.int (if (1 : Int32) < (if a1 < (40 : Int32) then a1 else (40 : Int32)) then (if a1 < (40 : Int32) then a1 else (40 : Int32)) else (1 : Int32)), .int (if (1 : Int32) < (if a2 < (40 : Int32) then a2 else (40 : Int32)) then (if a2 < (40 : Int32) then a2 else (40 : Int32)) else (1 : Int32)), .ref q_4])), (q_4, .inl (cI, pn_2, .inl pf_3)), (q_5, .inr (1, [.int (8 : Int32), .int (if (1 : Int32) < (if a2 < (40 : Int32) then a2 else (40 : Int32)) then (if a2 < (40 : Int32) then a2 else (40 : Int32)) else (1 : Int32)), .ref q_8])), (q_8, .inl (cI, pn_6, .inl pf_7))]) (w1 := [(q_21, .inr (4, [.ref q_23, .int (0 : Int32), .int (0 : Int32)])), (q_23, .inl (cI, 64, .inl tf_22))]) hP hD [11] [0, 1, 2, 3, 4, 5, 6, 7, 8, 9, 10] rfl rfl (by decide) (by decide) hk1 hFc hP1 hD1
  generalize H1 = H at hP hS ⊢
  have hP : va_P (dC, dI) vwCl [(o0, .inr (5, [.ref q_1, .ref q_5, .ref q_9, .ref q_11, .ref q_14, .null, .null])), (q_9, .inr (2, [.ref q_1, .int yk_10])), (q_11, .inr (0, [.ref q_13, .int (0 : Int32)])), (q_13, .inl (cI, 256, .inl bf_12)), (q_14, .inr (3, [.ref q_1, .ref q_5, .ref q_19, .ref q_20, .int (0 : Int32)])), (q_19, .inl (cI, kn_15, .inl kf_16)), (q_20, .inl (cI, sn_17, .inl sf_18)), (q_1, .inr (1, [.int (if (1 : Int32) < (if a1 < (40 : Int32) then a1 else (40 : Int32)) then (if a1 < (40 : Int32) then a1 else (40 : Int32)) else (1 : Int32)), .int (if (1 : Int32) < (if a2 < (40 : Int32) then a2 else (40 : Int32)) then (if a2 < (40 : Int32) then a2 else (40 : Int32)) else (1 : Int32)), .ref q_4])), (q_4, .inl (cI, pn_2, .inl pf_3)), (q_5, .inr (1, [.int (8 : Int32), .int (if (1 : Int32) < (if a2 < (40 : Int32) then a2 else (40 : Int32)) then (if a2 < (40 : Int32) then a2 else (40 : Int32)) else (1 : Int32)), .ref q_8])), (q_8, .inl (cI, pn_6, .inl pf_7)), (q_21, .inr (4, [.ref q_23, .int (0 : Int32), .int (0 : Int32)])), (q_23, .inl (cI, 64, .inl tf_22))] H := hP
  have hD : va_D A [(o0, .inr (5, [.ref q_1, .ref q_5, .ref q_9, .ref q_11, .ref q_14, .null, .null])), (q_9, .inr (2, [.ref q_1, .int yk_10])), (q_11, .inr (0, [.ref q_13, .int (0 : Int32)])), (q_13, .inl (cI, 256, .inl bf_12)), (q_14, .inr (3, [.ref q_1, .ref q_5, .ref q_19, .ref q_20, .int (0 : Int32)])), (q_19, .inl (cI, kn_15, .inl kf_16)), (q_20, .inl (cI, sn_17, .inl sf_18)), (q_1, .inr (1, [.int (if (1 : Int32) < (if a1 < (40 : Int32) then a1 else (40 : Int32)) then (if a1 < (40 : Int32) then a1 else (40 : Int32)) else (1 : Int32)), .int (if (1 : Int32) < (if a2 < (40 : Int32) then a2 else (40 : Int32)) then (if a2 < (40 : Int32) then a2 else (40 : Int32)) else (1 : Int32)), .ref q_4])), (q_4, .inl (cI, pn_2, .inl pf_3)), (q_5, .inr (1, [.int (8 : Int32), .int (if (1 : Int32) < (if a2 < (40 : Int32) then a2 else (40 : Int32)) then (if a2 < (40 : Int32) then a2 else (40 : Int32)) else (1 : Int32)), .ref q_8])), (q_8, .inl (cI, pn_6, .inl pf_7)), (q_21, .inr (4, [.ref q_23, .int (0 : Int32), .int (0 : Int32)])), (q_23, .inl (cI, 64, .inl tf_22))] := hD
  refine W.widen (k := 12) (n := 3898) (by omega) (by omega) ?_
  refine va_put (D := (dC, dI)) (ci := 5) (v := .ref q_21) (ty := (.object "TilePyramid$Tile")) (C := RZQ) (T := TZQ) (N := 7) hx hb hts inZQ tyZQ tyZQ_ok nmZQ hown hK hP hD hS 0 rfl rfl 5 (by decide) (hts _ mm_141) (fun _ h9 => h9) rfl (by decide +kernel) rfl rfl (Nat.le_of_ble_eq_true rfl) dZQ_init_109 (fun H locs hP hD hS => ?_)
  have hP : va_P (dC, dI) vwCl [(o0, .inr (5, [.ref q_1, .ref q_5, .ref q_9, .ref q_11, .ref q_14, .ref q_21, .null])), (q_9, .inr (2, [.ref q_1, .int yk_10])), (q_11, .inr (0, [.ref q_13, .int (0 : Int32)])), (q_13, .inl (cI, 256, .inl bf_12)), (q_14, .inr (3, [.ref q_1, .ref q_5, .ref q_19, .ref q_20, .int (0 : Int32)])), (q_19, .inl (cI, kn_15, .inl kf_16)), (q_20, .inl (cI, sn_17, .inl sf_18)), (q_1, .inr (1, [.int (if (1 : Int32) < (if a1 < (40 : Int32) then a1 else (40 : Int32)) then (if a1 < (40 : Int32) then a1 else (40 : Int32)) else (1 : Int32)), .int (if (1 : Int32) < (if a2 < (40 : Int32) then a2 else (40 : Int32)) then (if a2 < (40 : Int32) then a2 else (40 : Int32)) else (1 : Int32)), .ref q_4])), (q_4, .inl (cI, pn_2, .inl pf_3)), (q_5, .inr (1, [.int (8 : Int32), .int (if (1 : Int32) < (if a2 < (40 : Int32) then a2 else (40 : Int32)) then (if a2 < (40 : Int32) then a2 else (40 : Int32)) else (1 : Int32)), .ref q_8])), (q_8, .inl (cI, pn_6, .inl pf_7)), (q_21, .inr (4, [.ref q_23, .int (0 : Int32), .int (0 : Int32)])), (q_23, .inl (cI, 64, .inl tf_22))] H := hP
  have hD : va_D A [(o0, .inr (5, [.ref q_1, .ref q_5, .ref q_9, .ref q_11, .ref q_14, .ref q_21, .null])), (q_9, .inr (2, [.ref q_1, .int yk_10])), (q_11, .inr (0, [.ref q_13, .int (0 : Int32)])), (q_13, .inl (cI, 256, .inl bf_12)), (q_14, .inr (3, [.ref q_1, .ref q_5, .ref q_19, .ref q_20, .int (0 : Int32)])), (q_19, .inl (cI, kn_15, .inl kf_16)), (q_20, .inl (cI, sn_17, .inl sf_18)), (q_1, .inr (1, [.int (if (1 : Int32) < (if a1 < (40 : Int32) then a1 else (40 : Int32)) then (if a1 < (40 : Int32) then a1 else (40 : Int32)) else (1 : Int32)), .int (if (1 : Int32) < (if a2 < (40 : Int32) then a2 else (40 : Int32)) then (if a2 < (40 : Int32) then a2 else (40 : Int32)) else (1 : Int32)), .ref q_4])), (q_4, .inl (cI, pn_2, .inl pf_3)), (q_5, .inr (1, [.int (8 : Int32), .int (if (1 : Int32) < (if a2 < (40 : Int32) then a2 else (40 : Int32)) then (if a2 < (40 : Int32) then a2 else (40 : Int32)) else (1 : Int32)), .ref q_8])), (q_8, .inl (cI, pn_6, .inl pf_7)), (q_21, .inr (4, [.ref q_23, .int (0 : Int32), .int (0 : Int32)])), (q_23, .inl (cI, 64, .inl tf_22))] := hD
  refine lv_aload_n hx hb dZQ_init_112 rfl (lv_at hl 2 rfl) ?_
  refine va_new (ci := 4) (fs := [.null, .int (0 : Int32), .int (0 : Int32)]) (C := RZT) (T := TZT) (N := 3) hx hb hts inZT tyZT tyZT_ok hown (hts _ mm_111) (hts _ mm_112) (hts _ mm_7) hK hP hD hS hA rfl (fun j hj => by rcases (show j = 0 ∨ j = 1 ∨ j = 2 by omega) with rfl | rfl | rfl <;> rfl) (Nat.le_of_ble_eq_true rfl) (Nat.le_of_ble_eq_true rfl) dZQ_init_113 (fun q_24 H hP hD hS => ?_)
  refine W.widen (k := 13) (n := 3901) (by omega) (by omega) ?_
  have hP : va_P (dC, dI) vwCl [(o0, .inr (5, [.ref q_1, .ref q_5, .ref q_9, .ref q_11, .ref q_14, .ref q_21, .null])), (q_9, .inr (2, [.ref q_1, .int yk_10])), (q_11, .inr (0, [.ref q_13, .int (0 : Int32)])), (q_13, .inl (cI, 256, .inl bf_12)), (q_14, .inr (3, [.ref q_1, .ref q_5, .ref q_19, .ref q_20, .int (0 : Int32)])), (q_19, .inl (cI, kn_15, .inl kf_16)), (q_20, .inl (cI, sn_17, .inl sf_18)), (q_1, .inr (1, [.int (if (1 : Int32) < (if a1 < (40 : Int32) then a1 else (40 : Int32)) then (if a1 < (40 : Int32) then a1 else (40 : Int32)) else (1 : Int32)), .int (if (1 : Int32) < (if a2 < (40 : Int32) then a2 else (40 : Int32)) then (if a2 < (40 : Int32) then a2 else (40 : Int32)) else (1 : Int32)), .ref q_4])), (q_4, .inl (cI, pn_2, .inl pf_3)), (q_5, .inr (1, [.int (8 : Int32), .int (if (1 : Int32) < (if a2 < (40 : Int32) then a2 else (40 : Int32)) then (if a2 < (40 : Int32) then a2 else (40 : Int32)) else (1 : Int32)), .ref q_8])), (q_8, .inl (cI, pn_6, .inl pf_7)), (q_21, .inr (4, [.ref q_23, .int (0 : Int32), .int (0 : Int32)])), (q_23, .inl (cI, 64, .inl tf_22)), (q_24, .inr (4, [.null, .int (0 : Int32), .int (0 : Int32)]))] H := hP
  have hD : va_D A [(o0, .inr (5, [.ref q_1, .ref q_5, .ref q_9, .ref q_11, .ref q_14, .ref q_21, .null])), (q_9, .inr (2, [.ref q_1, .int yk_10])), (q_11, .inr (0, [.ref q_13, .int (0 : Int32)])), (q_13, .inl (cI, 256, .inl bf_12)), (q_14, .inr (3, [.ref q_1, .ref q_5, .ref q_19, .ref q_20, .int (0 : Int32)])), (q_19, .inl (cI, kn_15, .inl kf_16)), (q_20, .inl (cI, sn_17, .inl sf_18)), (q_1, .inr (1, [.int (if (1 : Int32) < (if a1 < (40 : Int32) then a1 else (40 : Int32)) then (if a1 < (40 : Int32) then a1 else (40 : Int32)) else (1 : Int32)), .int (if (1 : Int32) < (if a2 < (40 : Int32) then a2 else (40 : Int32)) then (if a2 < (40 : Int32) then a2 else (40 : Int32)) else (1 : Int32)), .ref q_4])), (q_4, .inl (cI, pn_2, .inl pf_3)), (q_5, .inr (1, [.int (8 : Int32), .int (if (1 : Int32) < (if a2 < (40 : Int32) then a2 else (40 : Int32)) then (if a2 < (40 : Int32) then a2 else (40 : Int32)) else (1 : Int32)), .ref q_8])), (q_8, .inl (cI, pn_6, .inl pf_7)), (q_21, .inr (4, [.ref q_23, .int (0 : Int32), .int (0 : Int32)])), (q_23, .inl (cI, 64, .inl tf_22)), (q_24, .inr (4, [.null, .int (0 : Int32), .int (0 : Int32)]))] := hD
  refine lv_dup hx hb dZQ_init_116 rfl ?_
  have hPc := hP.sub (ws' := [(q_24, .inr (4, [.null, .int (0 : Int32), .int (0 : Int32)]))]) [13] rfl
  have hDc := hD.sub (ws' := [(q_24, .inr (4, [.null, .int (0 : Int32), .int (0 : Int32)]))]) [13] (by decide) rfl
  have hFc := va_free (wc := [(q_24, .inr (4, [.null, .int (0 : Int32), .int (0 : Int32)]))]) hD hS hA [13] rfl
  refine va_callv (va_runIN (As := []) (rest := [.ref q_24, .ref o0]) ⟨hx, hb, hml, hown, hts⟩ (kt_ZT_init l dC dI cI q_24 _ (0 : Int32) (0 : Int32) _ hw) ⟨(va_cnB 0 hts (tb_0 mm_115) rfl rfl rfl (gxE_1 hE) (hts _ mm_7) (by decide +kernel) ⟨Nat.le_of_ble_eq_true rfl, Nat.le_of_ble_eq_true rfl⟩), rfl, hts _ mm_114⟩ ⟨gw_blind, fun U hU hW => gw_pre hPc hDc hK hE hU hW⟩ rfl rfl hl.1 rfl (lv_room (Nat.le_of_ble_eq_true rfl)) dZQ_init_117 ⟨Nat.le_of_ble_eq_true rfl, Nat.le_of_ble_eq_true rfl⟩) hS (fun q _ h => hFc q h) hFc (fun tf_25 t H1 locs ht hvm hw hB hz1 hk1 hS => ?_)
  obtain ⟨q_26, hP1, hK1, hD1⟩ := hB
  rw [ht] at hP1
  try dsimp only at hw
  obtain ⟨hP, hD⟩ := va_join (wr := [(o0, .inr (5, [.ref q_1, .ref q_5, .ref q_9, .ref q_11, .ref q_14, .ref q_21, .null])), (q_9, .inr (2, [.ref q_1, .int yk_10])), (q_11, .inr (0, [.ref q_13, .int (0 : Int32)])), (q_13, .inl (cI, 256, .inl bf_12)), (q_14, .inr (3, [.ref q_1, .ref q_5, .ref q_19, .ref q_20, .int (0 : Int32)])), (q_19, .inl (cI, kn_15, .inl kf_16)), (q_20, .inl (cI, sn_17, .inl sf_18)), (q_1, .inr (1, [.int (if (1 : Int32) < (if a1 < (40 : Int32) then a1 else (40 : Int32)) then (if a1 < (40 : Int32) then a1 else (40 : Int32)) else (1 : Int32)), .int (if (1 : Int32) < (if a2 < (40 : Int32) then a2 else (40 : Int32)) then (if a2 < (40 : Int32) then a2 else (40 : Int32)) else (1 : Int32)), .ref q_4])), (q_4, .inl (cI, pn_2, .inl pf_3)), (q_5, .inr (1, [.int (8 : Int32), .int (if (1 : Int32) < (if a2 < (40 : Int32) then a2 else (40 : Int32)) then (if a2 < (40 : Int32) then a2 else (40 : Int32)) else (1 : Int32)), .ref q_8])), (q_8, .inl (cI, pn_6, .inl pf_7)), (q_21, .inr (4, [.ref q_23, .int (0 : Int32), .int (0 : Int32)])), (q_23, .inl (cI, 64, .inl tf_22))]) (w1 := [(q_24, .inr (4, [.ref q_26, .int (0 : Int32), .int (0 : Int32)])), (q_26, .inl (cI, 64, .inl tf_25))]) hP hD [13] [0, 1, 2, 3, 4, 5, 6, 7, 8, 9, 10, 11, 12] rfl rfl (by decide) (by decide) hk1 hFc hP1 hD1
  generalize H1 = H at hP hS ⊢
  have hP : va_P (dC, dI) vwCl [(o0, .inr (5, [.ref q_1, .ref q_5, .ref q_9, .ref q_11, .ref q_14, .ref q_21, .null])), (q_9, .inr (2, [.ref q_1, .int yk_10])), (q_11, .inr (0, [.ref q_13, .int (0 : Int32)])), (q_13, .inl (cI, 256, .inl bf_12)), (q_14, .inr (3, [.ref q_1, .ref q_5, .ref q_19, .ref q_20, .int (0 : Int32)])), (q_19, .inl (cI, kn_15, .inl kf_16)), (q_20, .inl (cI, sn_17, .inl sf_18)), (q_1, .inr (1, [.int (if (1 : Int32) < (if a1 < (40 : Int32) then a1 else (40 : Int32)) then (if a1 < (40 : Int32) then a1 else (40 : Int32)) else (1 : Int32)), .int (if (1 : Int32) < (if a2 < (40 : Int32) then a2 else (40 : Int32)) then (if a2 < (40 : Int32) then a2 else (40 : Int32)) else (1 : Int32)), .ref q_4])), (q_4, .inl (cI, pn_2, .inl pf_3)), (q_5, .inr (1, [.int (8 : Int32), .int (if (1 : Int32) < (if a2 < (40 : Int32) then a2 else (40 : Int32)) then (if a2 < (40 : Int32) then a2 else (40 : Int32)) else (1 : Int32)), .ref q_8])), (q_8, .inl (cI, pn_6, .inl pf_7)), (q_21, .inr (4, [.ref q_23, .int (0 : Int32), .int (0 : Int32)])), (q_23, .inl (cI, 64, .inl tf_22)), (q_24, .inr (4, [.ref q_26, .int (0 : Int32), .int (0 : Int32)])), (q_26, .inl (cI, 64, .inl tf_25))] H := hP
  have hD : va_D A [(o0, .inr (5, [.ref q_1, .ref q_5, .ref q_9, .ref q_11, .ref q_14, .ref q_21, .null])), (q_9, .inr (2, [.ref q_1, .int yk_10])), (q_11, .inr (0, [.ref q_13, .int (0 : Int32)])), (q_13, .inl (cI, 256, .inl bf_12)), (q_14, .inr (3, [.ref q_1, .ref q_5, .ref q_19, .ref q_20, .int (0 : Int32)])), (q_19, .inl (cI, kn_15, .inl kf_16)), (q_20, .inl (cI, sn_17, .inl sf_18)), (q_1, .inr (1, [.int (if (1 : Int32) < (if a1 < (40 : Int32) then a1 else (40 : Int32)) then (if a1 < (40 : Int32) then a1 else (40 : Int32)) else (1 : Int32)), .int (if (1 : Int32) < (if a2 < (40 : Int32) then a2 else (40 : Int32)) then (if a2 < (40 : Int32) then a2 else (40 : Int32)) else (1 : Int32)), .ref q_4])), (q_4, .inl (cI, pn_2, .inl pf_3)), (q_5, .inr (1, [.int (8 : Int32), .int (if (1 : Int32) < (if a2 < (40 : Int32) then a2 else (40 : Int32)) then (if a2 < (40 : Int32) then a2 else (40 : Int32)) else (1 : Int32)), .ref q_8])), (q_8, .inl (cI, pn_6, .inl pf_7)), (q_21, .inr (4, [.ref q_23, .int (0 : Int32), .int (0 : Int32)])), (q_23, .inl (cI, 64, .inl tf_22)), (q_24, .inr (4, [.ref q_26, .int (0 : Int32), .int (0 : Int32)])), (q_26, .inl (cI, 64, .inl tf_25))] := hD
  refine W.widen (k := 14) (n := 3965) (by omega) (by omega) ?_
  refine va_put (D := (dC, dI)) (ci := 5) (v := .ref q_24) (ty := (.object "TilePyramid$Tile")) (C := RZQ) (T := TZQ) (N := 7) hx hb hts inZQ tyZQ tyZQ_ok nmZQ hown hK hP hD hS 0 rfl rfl 6 (by decide) (hts _ mm_142) (fun _ h9 => h9) rfl (by decide +kernel) rfl rfl (Nat.le_of_ble_eq_true rfl) dZQ_init_120 (fun H locs hP hD hS => ?_)
  have hP : va_P (dC, dI) vwCl [(o0, .inr (5, [.ref q_1, .ref q_5, .ref q_9, .ref q_11, .ref q_14, .ref q_21, .ref q_24])), (q_9, .inr (2, [.ref q_1, .int yk_10])), (q_11, .inr (0, [.ref q_13, .int (0 : Int32)])), (q_13, .inl (cI, 256, .inl bf_12)), (q_14, .inr (3, [.ref q_1, .ref q_5, .ref q_19, .ref q_20, .int (0 : Int32)])), (q_19, .inl (cI, kn_15, .inl kf_16)), (q_20, .inl (cI, sn_17, .inl sf_18)), (q_1, .inr (1, [.int (if (1 : Int32) < (if a1 < (40 : Int32) then a1 else (40 : Int32)) then (if a1 < (40 : Int32) then a1 else (40 : Int32)) else (1 : Int32)), .int (if (1 : Int32) < (if a2 < (40 : Int32) then a2 else (40 : Int32)) then (if a2 < (40 : Int32) then a2 else (40 : Int32)) else (1 : Int32)), .ref q_4])), (q_4, .inl (cI, pn_2, .inl pf_3)), (q_5, .inr (1, [.int (8 : Int32), .int (if (1 : Int32) < (if a2 < (40 : Int32) then a2 else (40 : Int32)) then (if a2 < (40 : Int32) then a2 else (40 : Int32)) else (1 : Int32)), .ref q_8])), (q_8, .inl (cI, pn_6, .inl pf_7)), (q_21, .inr (4, [.ref q_23, .int (0 : Int32), .int (0 : Int32)])), (q_23, .inl (cI, 64, .inl tf_22)), (q_24, .inr (4, [.ref q_26, .int (0 : Int32), .int (0 : Int32)])), (q_26, .inl (cI, 64, .inl tf_25))] H := hP
  have hD : va_D A [(o0, .inr (5, [.ref q_1, .ref q_5, .ref q_9, .ref q_11, .ref q_14, .ref q_21, .ref q_24])), (q_9, .inr (2, [.ref q_1, .int yk_10])), (q_11, .inr (0, [.ref q_13, .int (0 : Int32)])), (q_13, .inl (cI, 256, .inl bf_12)), (q_14, .inr (3, [.ref q_1, .ref q_5, .ref q_19, .ref q_20, .int (0 : Int32)])), (q_19, .inl (cI, kn_15, .inl kf_16)), (q_20, .inl (cI, sn_17, .inl sf_18)), (q_1, .inr (1, [.int (if (1 : Int32) < (if a1 < (40 : Int32) then a1 else (40 : Int32)) then (if a1 < (40 : Int32) then a1 else (40 : Int32)) else (1 : Int32)), .int (if (1 : Int32) < (if a2 < (40 : Int32) then a2 else (40 : Int32)) then (if a2 < (40 : Int32) then a2 else (40 : Int32)) else (1 : Int32)), .ref q_4])), (q_4, .inl (cI, pn_2, .inl pf_3)), (q_5, .inr (1, [.int (8 : Int32), .int (if (1 : Int32) < (if a2 < (40 : Int32) then a2 else (40 : Int32)) then (if a2 < (40 : Int32) then a2 else (40 : Int32)) else (1 : Int32)), .ref q_8])), (q_8, .inl (cI, pn_6, .inl pf_7)), (q_21, .inr (4, [.ref q_23, .int (0 : Int32), .int (0 : Int32)])), (q_23, .inl (cI, 64, .inl tf_22)), (q_24, .inr (4, [.ref q_26, .int (0 : Int32), .int (0 : Int32)])), (q_26, .inl (cI, 64, .inl tf_25))] := hD
  have hP9 := hP.sub (ws' := [(o0, .inr (5, [.ref q_1, .ref q_5, .ref q_9, .ref q_11, .ref q_14, .ref q_21, .ref q_24])), (q_1, .inr (1, [.int (if (1 : Int32) < (if a1 < (40 : Int32) then a1 else (40 : Int32)) then (if a1 < (40 : Int32) then a1 else (40 : Int32)) else (1 : Int32)), .int (if (1 : Int32) < (if a2 < (40 : Int32) then a2 else (40 : Int32)) then (if a2 < (40 : Int32) then a2 else (40 : Int32)) else (1 : Int32)), .ref q_4])), (q_4, .inl (cI, pn_2, .inl pf_3)), (q_5, .inr (1, [.int (8 : Int32), .int (if (1 : Int32) < (if a2 < (40 : Int32) then a2 else (40 : Int32)) then (if a2 < (40 : Int32) then a2 else (40 : Int32)) else (1 : Int32)), .ref q_8])), (q_8, .inl (cI, pn_6, .inl pf_7)), (q_9, .inr (2, [.ref q_1, .int yk_10])), (q_11, .inr (0, [.ref q_13, .int (0 : Int32)])), (q_13, .inl (cI, 256, .inl bf_12)), (q_14, .inr (3, [.ref q_1, .ref q_5, .ref q_19, .ref q_20, .int (0 : Int32)])), (q_19, .inl (cI, kn_15, .inl kf_16)), (q_20, .inl (cI, sn_17, .inl sf_18)), (q_21, .inr (4, [.ref q_23, .int (0 : Int32), .int (0 : Int32)])), (q_23, .inl (cI, 64, .inl tf_22)), (q_24, .inr (4, [.ref q_26, .int (0 : Int32), .int (0 : Int32)])), (q_26, .inl (cI, 64, .inl tf_25))]) [0, 7, 8, 9, 10, 1, 2, 3, 4, 5, 6, 11, 12, 13, 14] rfl
  have hD9 := hD.sub (ws' := [(o0, .inr (5, [.ref q_1, .ref q_5, .ref q_9, .ref q_11, .ref q_14, .ref q_21, .ref q_24])), (q_1, .inr (1, [.int (if (1 : Int32) < (if a1 < (40 : Int32) then a1 else (40 : Int32)) then (if a1 < (40 : Int32) then a1 else (40 : Int32)) else (1 : Int32)), .int (if (1 : Int32) < (if a2 < (40 : Int32) then a2 else (40 : Int32)) then (if a2 < (40 : Int32) then a2 else (40 : Int32)) else (1 : Int32)), .ref q_4])), (q_4, .inl (cI, pn_2, .inl pf_3)), (q_5, .inr (1, [.int (8 : Int32), .int (if (1 : Int32) < (if a2 < (40 : Int32) then a2 else (40 : Int32)) then (if a2 < (40 : Int32) then a2 else (40 : Int32)) else (1 : Int32)), .ref q_8])), (q_8, .inl (cI, pn_6, .inl pf_7)), (q_9, .inr (2, [.ref q_1, .int yk_10])), (q_11, .inr (0, [.ref q_13, .int (0 : Int32)])), (q_13, .inl (cI, 256, .inl bf_12)), (q_14, .inr (3, [.ref q_1, .ref q_5, .ref q_19, .ref q_20, .int (0 : Int32)])), (q_19, .inl (cI, kn_15, .inl kf_16)), (q_20, .inl (cI, sn_17, .inl sf_18)), (q_21, .inr (4, [.ref q_23, .int (0 : Int32), .int (0 : Int32)])), (q_23, .inl (cI, 64, .inl tf_22)), (q_24, .inr (4, [.ref q_26, .int (0 : Int32), .int (0 : Int32)])), (q_26, .inl (cI, 64, .inl tf_25))]) [0, 7, 8, 9, 10, 1, 2, 3, 4, 5, 6, 11, 12, 13, 14] (by decide) rfl
  subst hQ9
  exact W.vret hx hb hr (fun t ht hW => ⟨⟨(if (1 : Int32) < (if a1 < (40 : Int32) then a1 else (40 : Int32)) then (if a1 < (40 : Int32) then a1 else (40 : Int32)) else (1 : Int32), if (1 : Int32) < (if a2 < (40 : Int32) then a2 else (40 : Int32)) then (if a2 < (40 : Int32) then a2 else (40 : Int32)) else (1 : Int32), pn_2, pf_3, (8 : Int32), if (1 : Int32) < (if a2 < (40 : Int32) then a2 else (40 : Int32)) then (if a2 < (40 : Int32) then a2 else (40 : Int32)) else (1 : Int32), pn_6, pf_7, yk_10, (0 : Int32), bf_12, kn_15, kf_16, sn_17, sf_18, (0 : Int32), (0 : Int32), (0 : Int32), tf_22, (0 : Int32), (0 : Int32), tf_25), rfl, hw, q_1, q_4, q_5, q_8, q_9, q_11, q_13, q_14, q_19, q_20, q_21, q_23, q_24, q_26, by rw [ht]; exact hP9, va_K.moved hW.alike hK, hD9⟩, hS.F ht⟩) hS.2.2 dZQ_init_123
