theorem dZQ_zoom_0 : decode cZQ_zoom 0 = .ok (.aload_n 0, 1) := by decide +kernel
theorem dZQ_zoom_1 : decode cZQ_zoom 1 = .ok (.getfield 35, 3) := by decide +kernel
theorem dZQ_zoom_4 : decode cZQ_zoom 4 = .ok (.iload_n 1, 1) := by decide +kernel
theorem dZQ_zoom_5 : decode cZQ_zoom 5 = .ok (.iload_n 2, 1) := by decide +kernel
theorem dZQ_zoom_6 : decode cZQ_zoom 6 = .ok (.iload_n 3, 1) := by decide +kernel
theorem dZQ_zoom_7 : decode cZQ_zoom 7 = .ok (.iload 4, 2) := by decide +kernel
theorem dZQ_zoom_9 : decode cZQ_zoom 9 = .ok (.iload 5, 2) := by decide +kernel
theorem dZQ_zoom_11 : decode cZQ_zoom 11 = .ok (.invokevirtual 69, 3) := by decide +kernel
theorem dZQ_zoom_14 : decode cZQ_zoom 14 = .ok (.invokestatic 73, 3) := by decide +kernel
theorem dZQ_zoom_17 : decode cZQ_zoom 17 = .ok (.iconst 0, 1) := by decide +kernel
theorem dZQ_zoom_18 : decode cZQ_zoom 18 = .ok (.istore 6, 2) := by decide +kernel
theorem dZQ_zoom_20 : decode cZQ_zoom 20 = .ok (.iload_n 3, 1) := by decide +kernel
theorem dZQ_zoom_21 : decode cZQ_zoom 21 = .ok (.istore 7, 2) := by decide +kernel
theorem dZQ_zoom_23 : decode cZQ_zoom 23 = .ok (.iload 7, 2) := by decide +kernel
theorem dZQ_zoom_25 : decode cZQ_zoom 25 = .ok (.iload_n 3, 1) := by decide +kernel
theorem dZQ_zoom_26 : decode cZQ_zoom 26 = .ok (.iload 5, 2) := by decide +kernel
theorem dZQ_zoom_28 : decode cZQ_zoom 28 = .ok (.iadd, 1) := by decide +kernel
theorem dZQ_zoom_29 : decode cZQ_zoom 29 = .ok (.if_icmp .ge 44, 3) := by decide +kernel
theorem dZQ_zoom_32 : decode cZQ_zoom 32 = .ok (.iload_n 2, 1) := by decide +kernel
theorem dZQ_zoom_33 : decode cZQ_zoom 33 = .ok (.istore 8, 2) := by decide +kernel
theorem dZQ_zoom_35 : decode cZQ_zoom 35 = .ok (.iload 8, 2) := by decide +kernel
theorem dZQ_zoom_37 : decode cZQ_zoom 37 = .ok (.iload_n 2, 1) := by decide +kernel
theorem dZQ_zoom_38 : decode cZQ_zoom 38 = .ok (.iload 4, 2) := by decide +kernel
theorem dZQ_zoom_40 : decode cZQ_zoom 40 = .ok (.iadd, 1) := by decide +kernel
theorem dZQ_zoom_41 : decode cZQ_zoom 41 = .ok (.if_icmp .ge 26, 3) := by decide +kernel
theorem dZQ_zoom_44 : decode cZQ_zoom 44 = .ok (.iload 6, 2) := by decide +kernel
theorem dZQ_zoom_46 : decode cZQ_zoom 46 = .ok (.aload_n 0, 1) := by decide +kernel
theorem dZQ_zoom_47 : decode cZQ_zoom 47 = .ok (.getfield 35, 3) := by decide +kernel
theorem dZQ_zoom_50 : decode cZQ_zoom 50 = .ok (.iload_n 1, 1) := by decide +kernel
theorem dZQ_zoom_51 : decode cZQ_zoom 51 = .ok (.iload 8, 2) := by decide +kernel
theorem dZQ_zoom_53 : decode cZQ_zoom 53 = .ok (.iload 7, 2) := by decide +kernel
theorem dZQ_zoom_55 : decode cZQ_zoom 55 = .ok (.invokevirtual 112, 3) := by decide +kernel
theorem dZQ_zoom_58 : decode cZQ_zoom 58 = .ok (.iadd, 1) := by decide +kernel
theorem dZQ_zoom_59 : decode cZQ_zoom 59 = .ok (.istore 6, 2) := by decide +kernel
theorem dZQ_zoom_61 : decode cZQ_zoom 61 = .ok (.iinc 8 1, 3) := by decide +kernel
theorem dZQ_zoom_64 : decode cZQ_zoom 64 = .ok (.goto (-29), 3) := by decide +kernel
theorem dZQ_zoom_67 : decode cZQ_zoom 67 = .ok (.iinc 7 1, 3) := by decide +kernel
theorem dZQ_zoom_70 : decode cZQ_zoom 70 = .ok (.goto (-47), 3) := by decide +kernel
theorem dZQ_zoom_73 : decode cZQ_zoom 73 = .ok (.iload 6, 2) := by decide +kernel
theorem dZQ_zoom_75 : decode cZQ_zoom 75 = .ok (.ireturn, 1) := by decide +kernel
abbrev wsZQ_zoom : List Cond := .code yZQ_zoom cZQ_zoom 9 (some .int) :: tbg
def lp_ZQ_zoom_35 (pw : Int32) (ph : Int32) (pn : Nat) (pf : Nat → Int32) (gw : Int32) (gh : Int32) (gn : Nat) (gf : Nat → Int32) (yk : Int32) (bl : Int32) (bf : Nat → Int32) (kn : Nat) (kf : Nat → Int32) (sn : Nat) (sf : Nat → Int32) (sd : Int32) (tw : Int32) (th : Int32) (tf : Nat → Int32) (uw : Int32) (uh : Int32) (uf : Nat → Int32) (a1 : Int32) (a2 : Int32) (a3 : Int32) (a4 : Int32) (a5 : Int32) (r_1 : Int32) (x6_23 : Int32) (x7_23 : Int32) (post : Int32 → Prop) (K35 : Int32 → Int32 → Prop) (n : Nat) : Int32 → Int32 → Prop := Nat.rec (motive := fun _ => Int32 → Int32 → Prop) (fun (x6_35 : Int32) (x8_35 : Int32) => False) (fun _ ih35 (x6_35 : Int32) (x8_35 : Int32) => (((a2 + a4) ≤ x8_35 → (K35 x6_35 x8_35)) ∧ (¬ (a2 + a4) ≤ x8_35 → (wp_ZY_roundedMean yk pw ph pn pf a1 x8_35 x7_23 (fun r_5 : Int32 => ih35 (x6_35 + r_5) (x8_35 + (1 : Int32))))))) n
def lp_ZQ_zoom_23 (pw : Int32) (ph : Int32) (pn : Nat) (pf : Nat → Int32) (gw : Int32) (gh : Int32) (gn : Nat) (gf : Nat → Int32) (yk : Int32) (bl : Int32) (bf : Nat → Int32) (kn : Nat) (kf : Nat → Int32) (sn : Nat) (sf : Nat → Int32) (sd : Int32) (tw : Int32) (th : Int32) (tf : Nat → Int32) (uw : Int32) (uh : Int32) (uf : Nat → Int32) (a1 : Int32) (a2 : Int32) (a3 : Int32) (a4 : Int32) (a5 : Int32) (r_1 : Int32) (post : Int32 → Prop) (K23 : Int32 → Int32 → Prop) (n : Nat) : Int32 → Int32 → Prop := Nat.rec (motive := fun _ => Int32 → Int32 → Prop) (fun (x6_23 : Int32) (x7_23 : Int32) => False) (fun _ ih23 (x6_23 : Int32) (x7_23 : Int32) => (((a3 + a5) ≤ x7_23 → (K23 x6_23 x7_23)) ∧ (¬ (a3 + a5) ≤ x7_23 → (∃ n : Nat, lp_ZQ_zoom_35 pw ph pn pf gw gh gn gf yk bl bf kn kf sn sf sd tw th tf uw uh uf a1 a2 a3 a4 a5 r_1 x6_23 x7_23 post (fun (x6_35e : Int32) (x8_35e : Int32) => ih23 x6_35e (x7_23 + (1 : Int32))) n x6_23 a2)))) n
def wp_ZQ_zoom (pw : Int32) (ph : Int32) (pn : Nat) (pf : Nat → Int32) (gw : Int32) (gh : Int32) (gn : Nat) (gf : Nat → Int32) (yk : Int32) (bl : Int32) (bf : Nat → Int32) (kn : Nat) (kf : Nat → Int32) (sn : Nat) (sf : Nat → Int32) (sd : Int32) (tw : Int32) (th : Int32) (tf : Nat → Int32) (uw : Int32) (uh : Int32) (uf : Nat → Int32) (a1 : Int32) (a2 : Int32) (a3 : Int32) (a4 : Int32) (a5 : Int32) (post : Int32 → Prop) : Prop := wp_ZY_hasPart yk pw ph pn pf a1 a2 a3 a4 a5 (fun r_1 : Int32 => wp_ZQ_requirePlace r_1 (∃ n : Nat, lp_ZQ_zoom_23 pw ph pn pf gw gh gn gf yk bl bf kn kf sn sf sd tw th tf uw uh uf a1 a2 a3 a4 a5 r_1 post (fun (x6_23e : Int32) (x7_23e : Int32) => post x6_23e) n (0 : Int32) a3))
abbrev rm_ZQ_zoom : Room := { frames := 4, cells := 0, slots := 0, locals := 96 }
set_option maxHeartbeats 4000000 in
set_option maxRecDepth 100000 in
theorem kt_ZQ_zoom (l : Launch) (dC : Nat → ClassId) (dI : Nat → Nat → Nat) (cI : ClassId) (o0 op opa og oga oy ob oba os osa osb ot ota ou oua : Nat) (pw : Int32) (ph : Int32) (pn : Nat) (pf : Nat → Int32) (gw : Int32) (gh : Int32) (gn : Nat) (gf : Nat → Int32) (yk : Int32) (bl : Int32) (bf : Nat → Int32) (kn : Nat) (kf : Nat → Int32) (sn : Nat) (sf : Nat → Int32) (sd : Int32) (tw : Int32) (th : Int32) (tf : Nat → Int32) (uw : Int32) (uh : Int32) (uf : Nat → Int32) (a1 : Int32) (a2 : Int32) (a3 : Int32) (a4 : Int32) (a5 : Int32) (post : Int32 → Prop) (hw : wp_ZQ_zoom pw ph pn pf gw gh gn gf yk bl bf kn kf sn sf sd tw th tf uw uh uf a1 a2 a3 a4 a5 post) : Met l yZQ_zoom wsZQ_zoom rm_ZQ_zoom (gr_Pc dC dI [(cI, .int)] [.ref o0, .int a1, .int a2, .int a3, .int a4, .int a5] [(o0, .inr (5, [.ref op, .ref og, .ref oy, .ref ob, .ref os, .ref ot, .ref ou])), (op, .inr (1, [.int pw, .int ph, .ref opa])), (opa, .inl (cI, pn, .inl pf)), (og, .inr (1, [.int gw, .int gh, .ref oga])), (oga, .inl (cI, gn, .inl gf)), (oy, .inr (2, [.ref op, .int yk])), (ob, .inr (0, [.ref oba, .int bl])), (oba, .inl (cI, 256, .inl bf)), (os, .inr (3, [.ref op, .ref og, .ref osa, .ref osb, .int sd])), (osa, .inl (cI, kn, .inl kf)), (osb, .inl (cI, sn, .inl sf)), (ot, .inr (4, [.ref ota, .int tw, .int th])), (ota, .inl (cI, 64, .inl tf)), (ou, .inr (4, [.ref oua, .int uw, .int uh])), (oua, .inl (cI, 64, .inl uf))]) (vp_Si post) 0 0 (fun _ => False) := by
  refine Met.ofW (cc := cZQ_zoom) (maxL := 9) (ret := (some .int)) (by decide) rfl ?_
  intro p e s m args below meth c s₁ B hml hv
  obtain ⟨ha9, hP, hK, hE⟩ := hv
  have hx := B.exec
  have hb := B.bytes
  have hr := B.returns
  have hts0 := atoms_spec (ws := wsZQ_zoom) B.pre
  have hts : ∀ w ∈ tbg, w.before args s = true := fun w h => hts0 w (List.mem_cons_of_mem _ h)
  have hown : s.vm.findClass RZQ = some m.cls := findClass_of_methodNamed B.named
  have hlocks := B.notSynchronized
  refine gx_Q (fun Q9 hQ9 => ?_)
  have hl := lv_entry ([.ref o0, .int a1, .int a2, .int a3, .int a4, .int a5]) (n := 9) (Nat.le_of_ble_eq_true rfl)
  have he9 : entryFrame m args 9 = F0 m 0 ((lg_sl [.ref o0, .int a1, .int a2, .int a3, .int a4, .int a5] ++ List.replicate (9 - (lg_sl ([.ref o0, .int a1, .int a2, .int a3, .int a4, .int a5] : List Value)).length) Slot.unset).toArray) [] := by rw [ha9]; exact lg_entry_eq m [.ref o0, .int a1, .int a2, .int a3, .int a4, .int a5] 9
  rw [he9]
  generalize (lg_sl ([.ref o0, .int a1, .int a2, .int a3, .int a4, .int a5] : List Value) ++ List.replicate (9 - (lg_sl ([.ref o0, .int a1, .int a2, .int a3, .int a4, .int a5] : List Value)).length) Slot.unset).toArray = ls at hl ⊢
  have hl : lv_has ls 9 [(0, .ref o0), (1, .int a1), (2, .int a2), (3, .int a3), (4, .int a4), (5, .int a5)] := hl
  refine lv_aload_n hx hb dZQ_zoom_0 rfl (lv_at hl 0 rfl) ?_
  refine va_get (D := (dC, dI)) (ci := 5) (v := .ref oy) (C := RZQ) (T := TZQ) (N := 7) hx hb hts inZQ hown hK hP 0 rfl rfl 2 (by decide) (hts _ mm_138) (fun _ h9 => h9) rfl dZQ_zoom_1 ?_
  refine lv_iload_n hx hb dZQ_zoom_4 rfl (lv_at hl 1 rfl) ?_
  refine lv_iload_n hx hb dZQ_zoom_5 rfl (lv_at hl 2 rfl) ?_
  refine lv_iload_n hx hb dZQ_zoom_6 rfl (lv_at hl 3 rfl) ?_
  refine lv_iload hx hb dZQ_zoom_7 (lv_at hl 4 rfl) ?_
  refine lv_iload hx hb dZQ_zoom_9 (lv_at hl 5 rfl) ?_
  have hPc := hP.sub (ws' := [(oy, .inr (2, [.ref op, .int yk])), (op, .inr (1, [.int pw, .int ph, .ref opa])), (opa, .inl (cI, pn, .inl pf))]) [5, 1, 2] rfl
  refine vp_callSi (va_runV (As := [.int a1, .int a2, .int a3, .int a4, .int a5]) (rest := []) ⟨hx, hb, hml, hown, hts⟩ (kt_ZY_hasPart l dC dI cI oy op opa yk pw ph pn pf a1 a2 a3 a4 a5 _ hw) (cwV 5 hts (tb_V mm_345 mm_346 mm_347 mm_4 mm_348) rfl rfl rfl (by decide +kernel) ⟨Nat.le_of_ble_eq_true rfl, Nat.le_of_ble_eq_true rfl⟩) ⟨gr_blind, va_recv hK hPc (ci := 2) (q0 := 0) rfl rfl, fun U hU hW => gr_pre hPc hK hE hU hW⟩ rfl rfl hl.1 rfl (lv_room (Nat.le_of_ble_eq_true rfl)) dZQ_zoom_11 ⟨Nat.le_of_ble_eq_true rfl, Nat.le_of_ble_eq_true rfl⟩).run (fun r_1 hw => ?_)
  have hPc := hP.sub (ws' := []) [] rfl
  refine va_csv (va_runS (As := [.int r_1]) (rest := []) ⟨hx, hb, hml, hown, hts⟩ (kt_ZQ_requirePlace l dC dI cI  r_1 _ hw) (va_cwS 1 hts (tb_S mm_239 mm_240 mm_1 mm_241) rfl rfl rfl (by decide +kernel) ⟨Nat.le_of_ble_eq_true rfl, Nat.le_of_ble_eq_true rfl⟩) ⟨gr_blind, fun U hU hW => gr_pre hPc hK hE hU hW⟩ rfl rfl hl.1 rfl (lv_room (Nat.le_of_ble_eq_true rfl)) dZQ_zoom_14 ⟨Nat.le_of_ble_eq_true rfl, Nat.le_of_ble_eq_true rfl⟩).run (fun hw => ?_)
  refine lv_iconst (v := (0 : Int32)) hx hb dZQ_zoom_17 (by decide) ?_
  refine lv_istore (lv' := [(6, .int (0 : Int32)), (0, .ref o0), (1, .int a1), (2, .int a2), (3, .int a3), (4, .int a4), (5, .int a5)]) hx hb dZQ_zoom_18 hl (by decide) rfl (fun ls hl => ?_)
  refine lv_iload_n hx hb dZQ_zoom_20 rfl (lv_at hl 4 rfl) ?_
  refine lv_istore (lv' := [(7, .int a3), (6, .int (0 : Int32)), (0, .ref o0), (1, .int a1), (2, .int a2), (3, .int a3), (4, .int a4), (5, .int a5)]) hx hb dZQ_zoom_21 hl (by decide) rfl (fun ls hl => ?_)
  have lp23 : ∀ K23 : Int32 → Int32 → Prop, (∀ (x6_23 : Int32) (x7_23 : Int32), K23 x6_23 x7_23 → ∀ ls : Array Slot, lv_has ls 9 [(7, .int x7_23), (6, .int x6_23), (0, .ref o0), (1, .int a1), (2, .int a2), (3, .int a3), (4, .int a4), (5, .int a5)] → W p l e (headSpec wsZQ_zoom rm_ZQ_zoom).room s m args below meth c s.heap [] 0 0 Q9 (F0 m 73 ls [])) → ∀ (n : Nat) (x6_23 : Int32) (x7_23 : Int32), lp_ZQ_zoom_23 pw ph pn pf gw gh gn gf yk bl bf kn kf sn sf sd tw th tf uw uh uf a1 a2 a3 a4 a5 r_1 post K23 n x6_23 x7_23 → ∀ ls : Array Slot, lv_has ls 9 [(7, .int x7_23), (6, .int x6_23), (0, .ref o0), (1, .int a1), (2, .int a2), (3, .int a3), (4, .int a4), (5, .int a5)] → W p l e (headSpec wsZQ_zoom rm_ZQ_zoom).room s m args below meth c s.heap [] 0 0 Q9 (F0 m 23 ls []) := by
    intro K23 aft23 n
    induction n with
    | zero => intro x6_23 x7_23 hw; exact False.elim hw
    | succ n ih23 =>
      intro x6_23 x7_23 hw ls hl
      refine lv_iload hx hb dZQ_zoom_23 (lv_at hl 0 rfl) ?_
      refine lv_iload_n hx hb dZQ_zoom_25 rfl (lv_at hl 5 rfl) ?_
      refine lv_iload hx hb dZQ_zoom_26 (lv_at hl 7 rfl) ?_
      refine lv_iadd hx hb dZQ_zoom_28 ?_
      refine lv_icmp_ge (tgt := 73) hx hb dZQ_zoom_29 (by decide) (fun c_3 => ?_) (fun c_3 => ?_)
      · have hw := hw.1 c_3
        exact aft23 x6_23 x7_23 hw ls (lv_sub hl [0, 1, 2, 3, 4, 5, 6, 7] rfl)
      · have hw := hw.2 c_3
        refine lv_iload_n hx hb dZQ_zoom_32 rfl (lv_at hl 4 rfl) ?_
        refine lv_istore (lv' := [(8, .int a2), (7, .int x7_23), (6, .int x6_23), (0, .ref o0), (1, .int a1), (2, .int a2), (3, .int a3), (4, .int a4), (5, .int a5)]) hx hb dZQ_zoom_33 hl (by decide) rfl (fun ls hl => ?_)
        have lp35 : ∀ K35 : Int32 → Int32 → Prop, (∀ (x6_35 : Int32) (x8_35 : Int32), K35 x6_35 x8_35 → ∀ ls : Array Slot, lv_has ls 9 [(8, .int x8_35), (7, .int x7_23), (6, .int x6_35), (0, .ref o0), (1, .int a1), (2, .int a2), (3, .int a3), (4, .int a4), (5, .int a5)] → W p l e (headSpec wsZQ_zoom rm_ZQ_zoom).room s m args below meth c s.heap [] 0 0 Q9 (F0 m 67 ls [])) → ∀ (n : Nat) (x6_35 : Int32) (x8_35 : Int32), lp_ZQ_zoom_35 pw ph pn pf gw gh gn gf yk bl bf kn kf sn sf sd tw th tf uw uh uf a1 a2 a3 a4 a5 r_1 x6_23 x7_23 post K35 n x6_35 x8_35 → ∀ ls : Array Slot, lv_has ls 9 [(8, .int x8_35), (7, .int x7_23), (6, .int x6_35), (0, .ref o0), (1, .int a1), (2, .int a2), (3, .int a3), (4, .int a4), (5, .int a5)] → W p l e (headSpec wsZQ_zoom rm_ZQ_zoom).room s m args below meth c s.heap [] 0 0 Q9 (F0 m 35 ls []) := by
          intro K35 aft35 n
          induction n with
          | zero => intro x6_35 x8_35 hw; exact False.elim hw
          | succ n ih35 =>
            intro x6_35 x8_35 hw ls hl
            refine lv_iload hx hb dZQ_zoom_35 (lv_at hl 0 rfl) ?_
            refine lv_iload_n hx hb dZQ_zoom_37 rfl (lv_at hl 5 rfl) ?_
            refine lv_iload hx hb dZQ_zoom_38 (lv_at hl 7 rfl) ?_
            refine lv_iadd hx hb dZQ_zoom_40 ?_
            refine lv_icmp_ge (tgt := 67) hx hb dZQ_zoom_41 (by decide) (fun c_4 => ?_) (fun c_4 => ?_)
            · have hw := hw.1 c_4
              exact aft35 x6_35 x8_35 hw ls (lv_sub hl [0, 1, 2, 3, 4, 5, 6, 7, 8] rfl)
            · have hw := hw.2 c_4
              refine lv_iload hx hb dZQ_zoom_44 (lv_at hl 2 rfl) ?_
              refine lv_aload_n hx hb dZQ_zoom_46 rfl (lv_at hl 3 rfl) ?_
              refine va_get (D := (dC, dI)) (ci := 5) (v := .ref oy) (C := RZQ) (T := TZQ) (N := 7) hx hb hts inZQ hown hK hP 0 rfl rfl 2 (by decide) (hts _ mm_138) (fun _ h9 => h9) rfl dZQ_zoom_47 ?_
              refine lv_iload_n hx hb dZQ_zoom_50 rfl (lv_at hl 4 rfl) ?_
              refine lv_iload hx hb dZQ_zoom_51 (lv_at hl 0 rfl) ?_
              refine lv_iload hx hb dZQ_zoom_53 (lv_at hl 1 rfl) ?_
              have hPc := hP.sub (ws' := [(oy, .inr (2, [.ref op, .int yk])), (op, .inr (1, [.int pw, .int ph, .ref opa])), (opa, .inl (cI, pn, .inl pf))]) [5, 1, 2] rfl
              refine vp_callSi (va_runV (As := [.int a1, .int x8_35, .int x7_23]) (rest := [.int x6_35]) ⟨hx, hb, hml, hown, hts⟩ (kt_ZY_roundedMean l dC dI cI oy op opa yk pw ph pn pf a1 x8_35 x7_23 _ hw) (cwV 3 hts (tb_V mm_399 mm_400 mm_401 mm_4 mm_402) rfl rfl rfl (by decide +kernel) ⟨Nat.le_of_ble_eq_true rfl, Nat.le_of_ble_eq_true rfl⟩) ⟨gr_blind, va_recv hK hPc (ci := 2) (q0 := 0) rfl rfl, fun U hU hW => gr_pre hPc hK hE hU hW⟩ rfl rfl hl.1 rfl (lv_room (Nat.le_of_ble_eq_true rfl)) dZQ_zoom_55 ⟨Nat.le_of_ble_eq_true rfl, Nat.le_of_ble_eq_true rfl⟩).run (fun r_5 hw => ?_)
              refine lv_iadd hx hb dZQ_zoom_58 ?_
              refine lv_istore (lv' := [(6, .int (x6_35 + r_5)), (8, .int x8_35), (7, .int x7_23), (0, .ref o0), (1, .int a1), (2, .int a2), (3, .int a3), (4, .int a4), (5, .int a5)]) hx hb dZQ_zoom_59 hl (by decide) rfl (fun ls hl => ?_)
              refine lv_iinc (v := x8_35 + (1 : Int32)) (lv' := [(8, .int (x8_35 + (1 : Int32))), (6, .int (x6_35 + r_5)), (7, .int x7_23), (0, .ref o0), (1, .int a1), (2, .int a2), (3, .int a3), (4, .int a4), (5, .int a5)]) hx hb dZQ_zoom_61 hl (k := 1) rfl rfl (by decide) rfl (fun ls hl => ?_)
              refine lv_goto (tgt := 35) hx hb dZQ_zoom_64 (by decide) ?_
              exact ih35 (x6_35 + r_5) (x8_35 + (1 : Int32)) hw ls (lv_sub hl [0, 2, 1, 3, 4, 5, 6, 7, 8] rfl)
        obtain ⟨n35, hw⟩ := hw
        refine lp35 _ (fun x6_35e x8_35e hw ls hl => ?_) n35 x6_23 a2 hw ls (lv_sub hl [0, 1, 2, 3, 4, 5, 6, 7, 8] rfl)
        refine lv_iinc (v := x7_23 + (1 : Int32)) (lv' := [(7, .int (x7_23 + (1 : Int32))), (8, .int x8_35e), (6, .int x6_35e), (0, .ref o0), (1, .int a1), (2, .int a2), (3, .int a3), (4, .int a4), (5, .int a5)]) hx hb dZQ_zoom_67 hl (k := 1) rfl rfl (by decide) rfl (fun ls hl => ?_)
        refine lv_goto (tgt := 23) hx hb dZQ_zoom_70 (by decide) ?_
        exact ih23 x6_35e (x7_23 + (1 : Int32)) hw ls (lv_sub hl [0, 2, 3, 4, 5, 6, 7, 8] rfl)
  obtain ⟨n23, hw⟩ := hw
  refine lp23 _ (fun x6_23e x7_23e hw ls hl => ?_) n23 (0 : Int32) a3 hw ls (lv_sub hl [0, 1, 2, 3, 4, 5, 6, 7] rfl)
  refine lv_iload hx hb dZQ_zoom_73 (lv_at hl 1 rfl) ?_
  subst hQ9
  exact W.iret (v := x6_23e) hx hb hr (fun t ht hW => ⟨x6_23e, rfl, hw, ht⟩) (fun q h => nomatch h) dZQ_zoom_75
def xp_ZQ_zoom_I (pw : Int32) (ph : Int32) (pn : Nat) (pf : Nat → Int32) (gw : Int32) (gh : Int32) (gn : Nat) (gf : Nat → Int32) (yk : Int32) (bl : Int32) (bf : Nat → Int32) (kn : Nat) (kf : Nat → Int32) (sn : Nat) (sf : Nat → Int32) (sd : Int32) (tw : Int32) (th : Int32) (tf : Nat → Int32) (uw : Int32) (uh : Int32) (uf : Nat → Int32) (a1 : Int32) (a2 : Int32) (a3 : Int32) (a4 : Int32) (a5 : Int32) : Prop := wp_ZY_hasPart yk pw ph pn pf a1 a2 a3 a4 a5 (fun r_1 : Int32 => (xp_ZQ_requirePlace_I r_1) ∨ (wp_ZQ_requirePlace r_1 (False)))
abbrev rm_ZQ_zoom_I : Room := { frames := 7, cells := 1, slots := 6, locals := 111 }
set_option maxHeartbeats 4000000 in
set_option maxRecDepth 100000 in
theorem kx_ZQ_zoom_I (l : Launch) (hl9 : l.stackTraces = false) (dC : Nat → ClassId) (dI : Nat → Nat → Nat) (cI : ClassId) (o0 op opa og oga oy ob oba os osa osb ot ota ou oua : Nat) (H0 : Heap) (pw : Int32) (ph : Int32) (pn : Nat) (pf : Nat → Int32) (gw : Int32) (gh : Int32) (gn : Nat) (gf : Nat → Int32) (yk : Int32) (bl : Int32) (bf : Nat → Int32) (kn : Nat) (kf : Nat → Int32) (sn : Nat) (sf : Nat → Int32) (sd : Int32) (tw : Int32) (th : Int32) (tf : Nat → Int32) (uw : Int32) (uh : Int32) (uf : Nat → Int32) (a1 : Int32) (a2 : Int32) (a3 : Int32) (a4 : Int32) (a5 : Int32) (hw : xp_ZQ_zoom_I pw ph pn pf gw gh gn gf yk bl bf kn kf sn sf sd tw th tf uw uh uf a1 a2 a3 a4 a5) : tx_Met l yZQ_zoom wsZQ_zoom rm_ZQ_zoom_I (tr_Pc H0 dC dI [(cI, .int)] [.ref o0, .int a1, .int a2, .int a3, .int a4, .int a5] [(o0, .inr (5, [.ref op, .ref og, .ref oy, .ref ob, .ref os, .ref ot, .ref ou])), (op, .inr (1, [.int pw, .int ph, .ref opa])), (opa, .inl (cI, pn, .inl pf)), (og, .inr (1, [.int gw, .int gh, .ref oga])), (oga, .inl (cI, gn, .inl gf)), (oy, .inr (2, [.ref op, .int yk])), (ob, .inr (0, [.ref oba, .int bl])), (oba, .inl (cI, 256, .inl bf)), (os, .inr (3, [.ref op, .ref og, .ref osa, .ref osb, .int sd])), (osa, .inl (cI, kn, .inl kf)), (osb, .inl (cI, sn, .inl sf)), (ot, .inr (4, [.ref ota, .int tw, .int th])), (ota, .inl (cI, 64, .inl tf)), (ou, .inr (4, [.ref oua, .int uw, .int uh])), (oua, .inl (cI, 64, .inl uf))]) "java/lang/IndexOutOfBoundsException" := by
  refine tx_ofW (cc := cZQ_zoom) (maxL := 9) (ret := (some .int)) (by decide) rfl ?_
  intro p e s m args below meth c s₁ B hml hnX hv
  obtain ⟨ha9, hP, hK, hE, hT⟩ := hv
  have hx := B.exec
  have hb := B.bytes
  have hr := B.returns
  have hts0 := atoms_spec (ws := wsZQ_zoom) B.pre
  have hts : ∀ w ∈ tbg, w.before args s = true := fun w h => hts0 w (List.mem_cons_of_mem _ h)
  have hown : s.vm.findClass RZQ = some m.cls := findClass_of_methodNamed B.named
  have hlocks := B.notSynchronized
  refine gx_Q (fun Q9 hQ9 => ?_)
  have hl := lv_entry ([.ref o0, .int a1, .int a2, .int a3, .int a4, .int a5]) (n := 9) (Nat.le_of_ble_eq_true rfl)
  have he9 : entryFrame m args 9 = F0 m 0 ((lg_sl [.ref o0, .int a1, .int a2, .int a3, .int a4, .int a5] ++ List.replicate (9 - (lg_sl ([.ref o0, .int a1, .int a2, .int a3, .int a4, .int a5] : List Value)).length) Slot.unset).toArray) [] := by rw [ha9]; exact lg_entry_eq m [.ref o0, .int a1, .int a2, .int a3, .int a4, .int a5] 9
  rw [he9]
  generalize (lg_sl ([.ref o0, .int a1, .int a2, .int a3, .int a4, .int a5] : List Value) ++ List.replicate (9 - (lg_sl ([.ref o0, .int a1, .int a2, .int a3, .int a4, .int a5] : List Value)).length) Slot.unset).toArray = ls at hl ⊢
  have hl : lv_has ls 9 [(0, .ref o0), (1, .int a1), (2, .int a2), (3, .int a3), (4, .int a4), (5, .int a5)] := hl
  refine lv_aload_n hx hb dZQ_zoom_0 rfl (lv_at hl 0 rfl) ?_
  refine va_get (D := (dC, dI)) (ci := 5) (v := .ref oy) (C := RZQ) (T := TZQ) (N := 7) hx hb hts inZQ hown hK hP 0 rfl rfl 2 (by decide) (hts _ mm_138) (fun _ h9 => h9) rfl dZQ_zoom_1 ?_
  refine lv_iload_n hx hb dZQ_zoom_4 rfl (lv_at hl 1 rfl) ?_
  refine lv_iload_n hx hb dZQ_zoom_5 rfl (lv_at hl 2 rfl) ?_
  refine lv_iload_n hx hb dZQ_zoom_6 rfl (lv_at hl 3 rfl) ?_
  refine lv_iload hx hb dZQ_zoom_7 (lv_at hl 4 rfl) ?_
  refine lv_iload hx hb dZQ_zoom_9 (lv_at hl 5 rfl) ?_
  have hPc := hP.sub (ws' := [(oy, .inr (2, [.ref op, .int yk])), (op, .inr (1, [.int pw, .int ph, .ref opa])), (opa, .inl (cI, pn, .inl pf))]) [5, 1, 2] rfl
  refine vp_callSi (va_runV (As := [.int a1, .int a2, .int a3, .int a4, .int a5]) (rest := []) ⟨hx, hb, hml, hown, hts⟩ (kt_ZY_hasPart l dC dI cI oy op opa yk pw ph pn pf a1 a2 a3 a4 a5 _ hw) (cwV 5 hts (tb_V mm_345 mm_346 mm_347 mm_4 mm_348) rfl rfl rfl (by decide +kernel) ⟨Nat.le_of_ble_eq_true rfl, Nat.le_of_ble_eq_true rfl⟩) ⟨gr_blind, va_recv hK hPc (ci := 2) (q0 := 0) rfl rfl, fun U hU hW => gr_pre hPc hK hE hU hW⟩ rfl rfl hl.1 rfl (lv_room (Nat.le_of_ble_eq_true rfl)) dZQ_zoom_11 ⟨Nat.le_of_ble_eq_true rfl, Nat.le_of_ble_eq_true rfl⟩).run (fun r_1 hw => ?_)
  rcases hw with hw | hw
  · subst hQ9
    have hPx := hP.sub (ws' := []) [] rfl
    exact tx_callS (As := [.int r_1]) (rest := []) ⟨hx, hb, hml, hown, hts⟩ (kx_ZQ_requirePlace_I l hl9 dC dI cI  H0 r_1 hw) (va_cwS 1 hts (tb_S mm_239 mm_240 mm_1 mm_241) rfl rfl rfl (by decide +kernel) ⟨Nat.le_of_ble_eq_true rfl, Nat.le_of_ble_eq_true rfl⟩) ⟨tr_blind, fun U hU hW => tr_pre hPx hK hE hT hT.1 hU hW⟩ rfl hl.1 rfl (Nat.le_of_ble_eq_true rfl) dZQ_zoom_14 hnX hlocks ⟨Nat.le_of_ble_eq_true rfl, Nat.le_of_ble_eq_true rfl⟩
  have hPc := hP.sub (ws' := []) [] rfl
  refine va_csv (va_runS (As := [.int r_1]) (rest := []) ⟨hx, hb, hml, hown, hts⟩ (kt_ZQ_requirePlace l dC dI cI  r_1 _ hw) (va_cwS 1 hts (tb_S mm_239 mm_240 mm_1 mm_241) rfl rfl rfl (by decide +kernel) ⟨Nat.le_of_ble_eq_true rfl, Nat.le_of_ble_eq_true rfl⟩) ⟨gr_blind, fun U hU hW => gr_pre hPc hK hE hU hW⟩ rfl rfl hl.1 rfl (lv_room (Nat.le_of_ble_eq_true rfl)) dZQ_zoom_14 ⟨Nat.le_of_ble_eq_true rfl, Nat.le_of_ble_eq_true rfl⟩).run (fun hw => ?_)
  refine lv_iconst (v := (0 : Int32)) hx hb dZQ_zoom_17 (by decide) ?_
  refine lv_istore (lv' := [(6, .int (0 : Int32)), (0, .ref o0), (1, .int a1), (2, .int a2), (3, .int a3), (4, .int a4), (5, .int a5)]) hx hb dZQ_zoom_18 hl (by decide) rfl (fun ls hl => ?_)
  refine lv_iload_n hx hb dZQ_zoom_20 rfl (lv_at hl 4 rfl) ?_
  refine lv_istore (lv' := [(7, .int a3), (6, .int (0 : Int32)), (0, .ref o0), (1, .int a1), (2, .int a2), (3, .int a3), (4, .int a4), (5, .int a5)]) hx hb dZQ_zoom_21 hl (by decide) rfl (fun ls hl => ?_)
  exact False.elim hw
theorem dZQ_turned_0 : decode cZQ_turned 0 = .ok (.iload_n 3, 1) := by decide +kernel
theorem dZQ_turned_1 : decode cZQ_turned 1 = .ok (.iconst 4, 1) := by decide +kernel
theorem dZQ_turned_2 : decode cZQ_turned 2 = .ok (.invokestatic 125, 3) := by decide +kernel
theorem dZQ_turned_5 : decode cZQ_turned 5 = .ok (.istore 4, 2) := by decide +kernel
theorem dZQ_turned_7 : decode cZQ_turned 7 = .ok (.iload 4, 2) := by decide +kernel
theorem dZQ_turned_9 : decode cZQ_turned 9 = .ok (.iconst 1, 1) := by decide +kernel
theorem dZQ_turned_10 : decode cZQ_turned 10 = .ok (.if_icmp .eq 9, 3) := by decide +kernel
theorem dZQ_turned_13 : decode cZQ_turned 13 = .ok (.iload 4, 2) := by decide +kernel
theorem dZQ_turned_15 : decode cZQ_turned 15 = .ok (.iconst 3, 1) := by decide +kernel
theorem dZQ_turned_16 : decode cZQ_turned 16 = .ok (.if_icmp .ne 7, 3) := by decide +kernel
theorem dZQ_turned_19 : decode cZQ_turned 19 = .ok (.iconst 1, 1) := by decide +kernel
theorem dZQ_turned_20 : decode cZQ_turned 20 = .ok (.goto 4, 3) := by decide +kernel
theorem dZQ_turned_23 : decode cZQ_turned 23 = .ok (.iconst 0, 1) := by decide +kernel
theorem dZQ_turned_24 : decode cZQ_turned 24 = .ok (.istore 5, 2) := by decide +kernel
theorem dZQ_turned_26 : decode cZQ_turned 26 = .ok (.iload 5, 2) := by decide +kernel
theorem dZQ_turned_28 : decode cZQ_turned 28 = .ok (.ifCond .eq 13, 3) := by decide +kernel
theorem dZQ_turned_31 : decode cZQ_turned 31 = .ok (.aload_n 0, 1) := by decide +kernel
theorem dZQ_turned_32 : decode cZQ_turned 32 = .ok (.getfield 23, 3) := by decide +kernel
theorem dZQ_turned_35 : decode cZQ_turned 35 = .ok (.getfield 128, 3) := by decide +kernel
theorem dZQ_turned_38 : decode cZQ_turned 38 = .ok (.goto 10, 3) := by decide +kernel
theorem dZQ_turned_41 : decode cZQ_turned 41 = .ok (.aload_n 0, 1) := by decide +kernel
theorem dZQ_turned_42 : decode cZQ_turned 42 = .ok (.getfield 23, 3) := by decide +kernel
theorem dZQ_turned_45 : decode cZQ_turned 45 = .ok (.getfield 131, 3) := by decide +kernel
theorem dZQ_turned_48 : decode cZQ_turned 48 = .ok (.istore 6, 2) := by decide +kernel
theorem dZQ_turned_50 : decode cZQ_turned 50 = .ok (.iload 5, 2) := by decide +kernel
theorem dZQ_turned_52 : decode cZQ_turned 52 = .ok (.ifCond .eq 13, 3) := by decide +kernel
theorem dZQ_turned_55 : decode cZQ_turned 55 = .ok (.aload_n 0, 1) := by decide +kernel
theorem dZQ_turned_56 : decode cZQ_turned 56 = .ok (.getfield 23, 3) := by decide +kernel
theorem dZQ_turned_59 : decode cZQ_turned 59 = .ok (.getfield 131, 3) := by decide +kernel
theorem dZQ_turned_62 : decode cZQ_turned 62 = .ok (.goto 10, 3) := by decide +kernel
theorem dZQ_turned_65 : decode cZQ_turned 65 = .ok (.aload_n 0, 1) := by decide +kernel
theorem dZQ_turned_66 : decode cZQ_turned 66 = .ok (.getfield 23, 3) := by decide +kernel
theorem dZQ_turned_69 : decode cZQ_turned 69 = .ok (.getfield 128, 3) := by decide +kernel
theorem dZQ_turned_72 : decode cZQ_turned 72 = .ok (.istore 7, 2) := by decide +kernel
theorem dZQ_turned_74 : decode cZQ_turned 74 = .ok (.iload_n 1, 1) := by decide +kernel
theorem dZQ_turned_75 : decode cZQ_turned 75 = .ok (.iload 6, 2) := by decide +kernel
theorem dZQ_turned_77 : decode cZQ_turned 77 = .ok (.invokestatic 97, 3) := by decide +kernel
theorem dZQ_turned_80 : decode cZQ_turned 80 = .ok (.ifCond .eq 16, 3) := by decide +kernel
theorem dZQ_turned_83 : decode cZQ_turned 83 = .ok (.iload_n 2, 1) := by decide +kernel
theorem dZQ_turned_84 : decode cZQ_turned 84 = .ok (.iload 7, 2) := by decide +kernel
theorem dZQ_turned_86 : decode cZQ_turned 86 = .ok (.invokestatic 97, 3) := by decide +kernel
theorem dZQ_turned_89 : decode cZQ_turned 89 = .ok (.ifCond .eq 7, 3) := by decide +kernel
theorem dZQ_turned_92 : decode cZQ_turned 92 = .ok (.iconst 1, 1) := by decide +kernel
theorem dZQ_turned_93 : decode cZQ_turned 93 = .ok (.goto 4, 3) := by decide +kernel
theorem dZQ_turned_96 : decode cZQ_turned 96 = .ok (.iconst 0, 1) := by decide +kernel
theorem dZQ_turned_97 : decode cZQ_turned 97 = .ok (.invokestatic 73, 3) := by decide +kernel
theorem dZQ_turned_100 : decode cZQ_turned 100 = .ok (.iload 4, 2) := by decide +kernel
theorem dZQ_turned_102 : decode cZQ_turned 102 = .ok (.tableswitch 76 1 3 #[26, 41, 61], 26) := by decide +kernel
theorem dZQ_turned_128 : decode cZQ_turned 128 = .ok (.aload_n 0, 1) := by decide +kernel
theorem dZQ_turned_129 : decode cZQ_turned 129 = .ok (.getfield 23, 3) := by decide +kernel
theorem dZQ_turned_132 : decode cZQ_turned 132 = .ok (.iload_n 2, 1) := by decide +kernel
theorem dZQ_turned_133 : decode cZQ_turned 133 = .ok (.iload 6, 2) := by decide +kernel
theorem dZQ_turned_135 : decode cZQ_turned 135 = .ok (.iconst 1, 1) := by decide +kernel
theorem dZQ_turned_136 : decode cZQ_turned 136 = .ok (.isub, 1) := by decide +kernel
theorem dZQ_turned_137 : decode cZQ_turned 137 = .ok (.iload_n 1, 1) := by decide +kernel
theorem dZQ_turned_138 : decode cZQ_turned 138 = .ok (.isub, 1) := by decide +kernel
theorem dZQ_turned_139 : decode cZQ_turned 139 = .ok (.invokevirtual 134, 3) := by decide +kernel
theorem dZQ_turned_142 : decode cZQ_turned 142 = .ok (.ireturn, 1) := by decide +kernel
theorem dZQ_turned_143 : decode cZQ_turned 143 = .ok (.aload_n 0, 1) := by decide +kernel
theorem dZQ_turned_144 : decode cZQ_turned 144 = .ok (.getfield 23, 3) := by decide +kernel
theorem dZQ_turned_147 : decode cZQ_turned 147 = .ok (.iload 6, 2) := by decide +kernel
theorem dZQ_turned_149 : decode cZQ_turned 149 = .ok (.iconst 1, 1) := by decide +kernel
theorem dZQ_turned_150 : decode cZQ_turned 150 = .ok (.isub, 1) := by decide +kernel
theorem dZQ_turned_151 : decode cZQ_turned 151 = .ok (.iload_n 1, 1) := by decide +kernel
theorem dZQ_turned_152 : decode cZQ_turned 152 = .ok (.isub, 1) := by decide +kernel
theorem dZQ_turned_153 : decode cZQ_turned 153 = .ok (.iload 7, 2) := by decide +kernel
theorem dZQ_turned_155 : decode cZQ_turned 155 = .ok (.iconst 1, 1) := by decide +kernel
theorem dZQ_turned_156 : decode cZQ_turned 156 = .ok (.isub, 1) := by decide +kernel
theorem dZQ_turned_157 : decode cZQ_turned 157 = .ok (.iload_n 2, 1) := by decide +kernel
theorem dZQ_turned_158 : decode cZQ_turned 158 = .ok (.isub, 1) := by decide +kernel
theorem dZQ_turned_159 : decode cZQ_turned 159 = .ok (.invokevirtual 134, 3) := by decide +kernel
theorem dZQ_turned_162 : decode cZQ_turned 162 = .ok (.ireturn, 1) := by decide +kernel
theorem dZQ_turned_163 : decode cZQ_turned 163 = .ok (.aload_n 0, 1) := by decide +kernel
theorem dZQ_turned_164 : decode cZQ_turned 164 = .ok (.getfield 23, 3) := by decide +kernel
theorem dZQ_turned_167 : decode cZQ_turned 167 = .ok (.iload 7, 2) := by decide +kernel
theorem dZQ_turned_169 : decode cZQ_turned 169 = .ok (.iconst 1, 1) := by decide +kernel
theorem dZQ_turned_170 : decode cZQ_turned 170 = .ok (.isub, 1) := by decide +kernel
theorem dZQ_turned_171 : decode cZQ_turned 171 = .ok (.iload_n 2, 1) := by decide +kernel
theorem dZQ_turned_172 : decode cZQ_turned 172 = .ok (.isub, 1) := by decide +kernel
theorem dZQ_turned_173 : decode cZQ_turned 173 = .ok (.iload_n 1, 1) := by decide +kernel
theorem dZQ_turned_174 : decode cZQ_turned 174 = .ok (.invokevirtual 134, 3) := by decide +kernel
theorem dZQ_turned_177 : decode cZQ_turned 177 = .ok (.ireturn, 1) := by decide +kernel
theorem dZQ_turned_178 : decode cZQ_turned 178 = .ok (.aload_n 0, 1) := by decide +kernel
theorem dZQ_turned_179 : decode cZQ_turned 179 = .ok (.getfield 23, 3) := by decide +kernel
theorem dZQ_turned_182 : decode cZQ_turned 182 = .ok (.iload_n 1, 1) := by decide +kernel
theorem dZQ_turned_183 : decode cZQ_turned 183 = .ok (.iload_n 2, 1) := by decide +kernel
theorem dZQ_turned_184 : decode cZQ_turned 184 = .ok (.invokevirtual 134, 3) := by decide +kernel
theorem dZQ_turned_187 : decode cZQ_turned 187 = .ok (.ireturn, 1) := by decide +kernel
abbrev wsZQ_turned : List Cond := .code yZQ_turned cZQ_turned 8 (some .int) :: tbg
def wp_ZQ_turned (pw : Int32) (ph : Int32) (pn : Nat) (pf : Nat → Int32) (gw : Int32) (gh : Int32) (gn : Nat) (gf : Nat → Int32) (yk : Int32) (bl : Int32) (bf : Nat → Int32) (kn : Nat) (kf : Nat → Int32) (sn : Nat) (sf : Nat → Int32) (sd : Int32) (tw : Int32) (th : Int32) (tf : Nat → Int32) (uw : Int32) (uh : Int32) (uf : Nat → Int32) (a1 : Int32) (a2 : Int32) (a3 : Int32) (post : Int32 → Prop) : Prop := wp_ZJ_floorMod a3 (4 : Int32) (fun r_1 : Int32 => ∃ J24 : Int32 → Prop, (∀ (t0_j24 : Int32), J24 t0_j24 → ∃ J48 : Int32 → Prop, (∀ (t0_j48 : Int32), J48 t0_j48 → ∃ J72 : Int32 → Prop, (∀ (t0_j72 : Int32), J72 t0_j72 → wp_ZQ_isWithin a1 t0_j48 (fun r_2 : Int32 => ∃ J97 : Int32 → Prop, (∀ (t0_j97 : Int32), J97 t0_j97 → wp_ZQ_requirePlace t0_j97 ((((r_1.toInt < 1 ∨ 3 < r_1.toInt) → (wp_ZP_sampleAt pw ph pn pf a1 a2 (fun r_5 : Int32 => post r_5))) ∧ (r_1.toInt = 1 → (wp_ZP_sampleAt pw ph pn pf a2 ((t0_j48 - (1 : Int32)) - a1) (fun r_6 : Int32 => post r_6))) ∧ (r_1.toInt = 2 → (wp_ZP_sampleAt pw ph pn pf ((t0_j48 - (1 : Int32)) - a1) ((t0_j72 - (1 : Int32)) - a2) (fun r_7 : Int32 => post r_7))) ∧ (r_1.toInt = 3 → (wp_ZP_sampleAt pw ph pn pf ((t0_j72 - (1 : Int32)) - a2) a1 (fun r_8 : Int32 => post r_8)))))) ∧ (((r_2 = (0 : Int32) → (J97 (0 : Int32))) ∧ (¬ r_2 = (0 : Int32) → (wp_ZQ_isWithin a2 t0_j72 (fun r_10 : Int32 => ((r_10 = (0 : Int32) → (J97 (0 : Int32))) ∧ (¬ r_10 = (0 : Int32) → (J97 (1 : Int32))))))))))) ∧ (((t0_j24 = (0 : Int32) → (J72 ph)) ∧ (¬ t0_j24 = (0 : Int32) → (J72 pw))))) ∧ (((t0_j24 = (0 : Int32) → (J48 pw)) ∧ (¬ t0_j24 = (0 : Int32) → (J48 ph))))) ∧ (((r_1 = (1 : Int32) → (J24 (1 : Int32))) ∧ (¬ r_1 = (1 : Int32) → ((r_1 = (3 : Int32) → (J24 (1 : Int32))) ∧ (¬ r_1 = (3 : Int32) → (J24 (0 : Int32))))))))
abbrev rm_ZQ_turned : Room := { frames := 1, cells := 0, slots := 0, locals := 22 }
set_option maxHeartbeats 4000000 in
set_option maxRecDepth 100000 in
theorem kt_ZQ_turned (l : Launch) (dC : Nat → ClassId) (dI : Nat → Nat → Nat) (cI : ClassId) (o0 op opa og oga oy ob oba os osa osb ot ota ou oua : Nat) (pw : Int32) (ph : Int32) (pn : Nat) (pf : Nat → Int32) (gw : Int32) (gh : Int32) (gn : Nat) (gf : Nat → Int32) (yk : Int32) (bl : Int32) (bf : Nat → Int32) (kn : Nat) (kf : Nat → Int32) (sn : Nat) (sf : Nat → Int32) (sd : Int32) (tw : Int32) (th : Int32) (tf : Nat → Int32) (uw : Int32) (uh : Int32) (uf : Nat → Int32) (a1 : Int32) (a2 : Int32) (a3 : Int32) (post : Int32 → Prop) (hw : wp_ZQ_turned pw ph pn pf gw gh gn gf yk bl bf kn kf sn sf sd tw th tf uw uh uf a1 a2 a3 post) : Met l yZQ_turned wsZQ_turned rm_ZQ_turned (gr_Pc dC dI [(cI, .int)] [.ref o0, .int a1, .int a2, .int a3] [(o0, .inr (5, [.ref op, .ref og, .ref oy, .ref ob, .ref os, .ref ot, .ref ou])), (op, .inr (1, [.int pw, .int ph, .ref opa])), (opa, .inl (cI, pn, .inl pf)), (og, .inr (1, [.int gw, .int gh, .ref oga])), (oga, .inl (cI, gn, .inl gf)), (oy, .inr (2, [.ref op, .int yk])), (ob, .inr (0, [.ref oba, .int bl])), (oba, .inl (cI, 256, .inl bf)), (os, .inr (3, [.ref op, .ref og, .ref osa, .ref osb, .int sd])), (osa, .inl (cI, kn, .inl kf)), (osb, .inl (cI, sn, .inl sf)), (ot, .inr (4, [.ref ota, .int tw, .int th])), (ota, .inl (cI, 64, .inl tf)), (ou, .inr (4, [.ref oua, .int uw, .int uh])), (oua, .inl (cI, 64, .inl uf))]) (vp_Si post) 0 0 (fun _ => False) := by
  refine Met.ofW (cc := cZQ_turned) (maxL := 8) (ret := (some .int)) (by decide) rfl ?_
  intro p e s m args below meth c s₁ B hml hv
  obtain ⟨ha9, hP, hK, hE⟩ := hv
  have hx := B.exec
  have hb := B.bytes
  have hr := B.returns
  have hts0 := atoms_spec (ws := wsZQ_turned) B.pre
  have hts : ∀ w ∈ tbg, w.before args s = true := fun w h => hts0 w (List.mem_cons_of_mem _ h)
  have hown : s.vm.findClass RZQ = some m.cls := findClass_of_methodNamed B.named
  have hlocks := B.notSynchronized
  refine gx_Q (fun Q9 hQ9 => ?_)
  have hl := lv_entry ([.ref o0, .int a1, .int a2, .int a3]) (n := 8) (Nat.le_of_ble_eq_true rfl)
  have he9 : entryFrame m args 8 = F0 m 0 ((lg_sl [.ref o0, .int a1, .int a2, .int a3] ++ List.replicate (8 - (lg_sl ([.ref o0, .int a1, .int a2, .int a3] : List Value)).length) Slot.unset).toArray) [] := by rw [ha9]; exact lg_entry_eq m [.ref o0, .int a1, .int a2, .int a3] 8
  rw [he9]
  generalize (lg_sl ([.ref o0, .int a1, .int a2, .int a3] : List Value) ++ List.replicate (8 - (lg_sl ([.ref o0, .int a1, .int a2, .int a3] : List Value)).length) Slot.unset).toArray = ls at hl ⊢
  have hl : lv_has ls 8 [(0, .ref o0), (1, .int a1), (2, .int a2), (3, .int a3)] := hl
  refine lv_iload_n hx hb dZQ_turned_0 rfl (lv_at hl 3 rfl) ?_
  refine lv_iconst (v := (4 : Int32)) hx hb dZQ_turned_1 (by decide) ?_
  have hPc := hP.sub (ws' := []) [] rfl
  refine vp_callSi (va_runS (As := [.int a3, .int (4 : Int32)]) (rest := []) ⟨hx, hb, hml, hown, hts⟩ (kt_ZJ_floorMod l dC dI cI  a3 (4 : Int32) _ hw) (va_cwS 2 hts (tb_S mm_446 mm_447 mm_2 mm_448) rfl rfl rfl (by decide +kernel) ⟨Nat.le_of_ble_eq_true rfl, Nat.le_of_ble_eq_true rfl⟩) ⟨gr_blind, fun U hU hW => gr_pre hPc hK hE hU hW⟩ rfl rfl hl.1 rfl (lv_room (Nat.le_of_ble_eq_true rfl)) dZQ_turned_2 ⟨Nat.le_of_ble_eq_true rfl, Nat.le_of_ble_eq_true rfl⟩).run (fun r_1 hw => ?_)
  refine lv_istore (lv' := [(4, .int r_1), (0, .ref o0), (1, .int a1), (2, .int a2), (3, .int a3)]) hx hb dZQ_turned_5 hl (by decide) rfl (fun ls hl => ?_)
  refine lv_iload hx hb dZQ_turned_7 (lv_at hl 0 rfl) ?_
  refine lv_iconst (v := (1 : Int32)) hx hb dZQ_turned_9 (by decide) ?_
  obtain ⟨J24, hJ24, hw⟩ := hw
  have j24 : ∀ (t0_j24 : Int32), J24 t0_j24 → ∀ ls : Array Slot, lv_has ls 8 [(4, .int r_1), (0, .ref o0), (1, .int a1), (2, .int a2), (3, .int a3)] → W p l e (headSpec wsZQ_turned rm_ZQ_turned).room s m args below meth c s.heap [] 0 0 Q9 (F0 m 24 ls [.int t0_j24]) := by
    intro t0_j24 hw ls hl
    have hw := hJ24 t0_j24 hw
    refine lv_istore (lv' := [(5, .int t0_j24), (4, .int r_1), (0, .ref o0), (1, .int a1), (2, .int a2), (3, .int a3)]) hx hb dZQ_turned_24 hl (by decide) rfl (fun ls hl => ?_)
    refine lv_iload hx hb dZQ_turned_26 (lv_at hl 0 rfl) ?_
    obtain ⟨J48, hJ48, hw⟩ := hw
    have j48 : ∀ (t0_j48 : Int32), J48 t0_j48 → ∀ ls : Array Slot, lv_has ls 8 [(5, .int t0_j24), (4, .int r_1), (0, .ref o0), (1, .int a1), (2, .int a2), (3, .int a3)] → W p l e (headSpec wsZQ_turned rm_ZQ_turned).room s m args below meth c s.heap [] 0 0 Q9 (F0 m 48 ls [.int t0_j48]) := by
      intro t0_j48 hw ls hl
      have hw := hJ48 t0_j48 hw
      refine lv_istore (lv' := [(6, .int t0_j48), (5, .int t0_j24), (4, .int r_1), (0, .ref o0), (1, .int a1), (2, .int a2), (3, .int a3)]) hx hb dZQ_turned_48 hl (by decide) rfl (fun ls hl => ?_)
      refine lv_iload hx hb dZQ_turned_50 (lv_at hl 1 rfl) ?_
      obtain ⟨J72, hJ72, hw⟩ := hw
      have j72 : ∀ (t0_j72 : Int32), J72 t0_j72 → ∀ ls : Array Slot, lv_has ls 8 [(6, .int t0_j48), (5, .int t0_j24), (4, .int r_1), (0, .ref o0), (1, .int a1), (2, .int a2), (3, .int a3)] → W p l e (headSpec wsZQ_turned rm_ZQ_turned).room s m args below meth c s.heap [] 0 0 Q9 (F0 m 72 ls [.int t0_j72]) := by
        intro t0_j72 hw ls hl
        have hw := hJ72 t0_j72 hw
        refine lv_istore (lv' := [(7, .int t0_j72), (6, .int t0_j48), (5, .int t0_j24), (4, .int r_1), (0, .ref o0), (1, .int a1), (2, .int a2), (3, .int a3)]) hx hb dZQ_turned_72 hl (by decide) rfl (fun ls hl => ?_)
        refine lv_iload_n hx hb dZQ_turned_74 rfl (lv_at hl 5 rfl) ?_
        refine lv_iload hx hb dZQ_turned_75 (lv_at hl 1 rfl) ?_
        have hPc := hP.sub (ws' := []) [] rfl
        refine vp_callSi (va_runS (As := [.int a1, .int t0_j48]) (rest := []) ⟨hx, hb, hml, hown, hts⟩ (kt_ZQ_isWithin l dC dI cI  a1 t0_j48 _ hw) (va_cwS 2 hts (tb_S mm_236 mm_237 mm_1 mm_238) rfl rfl rfl (by decide +kernel) ⟨Nat.le_of_ble_eq_true rfl, Nat.le_of_ble_eq_true rfl⟩) ⟨gr_blind, fun U hU hW => gr_pre hPc hK hE hU hW⟩ rfl rfl hl.1 rfl (lv_room (Nat.le_of_ble_eq_true rfl)) dZQ_turned_77 ⟨Nat.le_of_ble_eq_true rfl, Nat.le_of_ble_eq_true rfl⟩).run (fun r_2 hw => ?_)
        obtain ⟨J97, hJ97, hw⟩ := hw
        have j97 : ∀ (t0_j97 : Int32), J97 t0_j97 → ∀ ls : Array Slot, lv_has ls 8 [(7, .int t0_j72), (6, .int t0_j48), (5, .int t0_j24), (4, .int r_1), (0, .ref o0), (1, .int a1), (2, .int a2), (3, .int a3)] → W p l e (headSpec wsZQ_turned rm_ZQ_turned).room s m args below meth c s.heap [] 0 0 Q9 (F0 m 97 ls [.int t0_j97]) := by
          intro t0_j97 hw ls hl
          have hw := hJ97 t0_j97 hw
          have hPc := hP.sub (ws' := []) [] rfl
          refine va_csv (va_runS (As := [.int t0_j97]) (rest := []) ⟨hx, hb, hml, hown, hts⟩ (kt_ZQ_requirePlace l dC dI cI  t0_j97 _ hw) (va_cwS 1 hts (tb_S mm_239 mm_240 mm_1 mm_241) rfl rfl rfl (by decide +kernel) ⟨Nat.le_of_ble_eq_true rfl, Nat.le_of_ble_eq_true rfl⟩) ⟨gr_blind, fun U hU hW => gr_pre hPc hK hE hU hW⟩ rfl rfl hl.1 rfl (lv_room (Nat.le_of_ble_eq_true rfl)) dZQ_turned_97 ⟨Nat.le_of_ble_eq_true rfl, Nat.le_of_ble_eq_true rfl⟩).run (fun hw => ?_)
          refine lv_iload hx hb dZQ_turned_100 (lv_at hl 3 rfl) ?_
          rcases (show r_1.toInt < 1 ∨ 3 < r_1.toInt ∨ r_1.toInt = 1 ∨ r_1.toInt = 2 ∨ r_1.toInt = 3 by omega) with c_4 | c_4 | c_4 | c_4 | c_4
          · have hw := hw.1 (Or.inl c_4)
            refine lv_tableOut (tgt := 178) hx hb dZQ_turned_102 (Or.inl c_4) (by decide) ?_
            refine lv_aload_n hx hb dZQ_turned_178 rfl (lv_at hl 4 rfl) ?_
            refine va_get (D := (dC, dI)) (ci := 5) (v := .ref op) (C := RZQ) (T := TZQ) (N := 7) hx hb hts inZQ hown hK hP 0 rfl rfl 0 (by decide) (hts _ mm_136) (fun _ h9 => h9) rfl dZQ_turned_179 ?_
            refine lv_iload_n hx hb dZQ_turned_182 rfl (lv_at hl 5 rfl) ?_
            refine lv_iload_n hx hb dZQ_turned_183 rfl (lv_at hl 6 rfl) ?_
            have hPc := hP.sub (ws' := [(op, .inr (1, [.int pw, .int ph, .ref opa])), (opa, .inl (cI, pn, .inl pf))]) [1, 2] rfl
            refine vp_callSi (va_runV (As := [.int a1, .int a2]) (rest := []) ⟨hx, hb, hml, hown, hts⟩ (kt_ZP_sampleAt l dC dI cI op opa pw ph pn pf a1 a2 _ hw) (cwV 2 hts (tb_V mm_330 mm_331 mm_332 mm_3 mm_333) rfl rfl rfl (by decide +kernel) ⟨Nat.le_of_ble_eq_true rfl, Nat.le_of_ble_eq_true rfl⟩) ⟨gr_blind, va_recv hK hPc (ci := 1) (q0 := 0) rfl rfl, fun U hU hW => gr_pre hPc hK hE hU hW⟩ rfl rfl hl.1 rfl (lv_room (Nat.le_of_ble_eq_true rfl)) dZQ_turned_184 ⟨Nat.le_of_ble_eq_true rfl, Nat.le_of_ble_eq_true rfl⟩).run (fun r_5 hw => ?_)
            subst hQ9
            exact W.iret (v := r_5) hx hb hr (fun t ht hW => ⟨r_5, rfl, hw, ht⟩) (fun q h => nomatch h) dZQ_turned_187
          · have hw := hw.1 (Or.inr c_4)
            refine lv_tableOut (tgt := 178) hx hb dZQ_turned_102 (Or.inr c_4) (by decide) ?_
            refine lv_aload_n hx hb dZQ_turned_178 rfl (lv_at hl 4 rfl) ?_
            refine va_get (D := (dC, dI)) (ci := 5) (v := .ref op) (C := RZQ) (T := TZQ) (N := 7) hx hb hts inZQ hown hK hP 0 rfl rfl 0 (by decide) (hts _ mm_136) (fun _ h9 => h9) rfl dZQ_turned_179 ?_
            refine lv_iload_n hx hb dZQ_turned_182 rfl (lv_at hl 5 rfl) ?_
            refine lv_iload_n hx hb dZQ_turned_183 rfl (lv_at hl 6 rfl) ?_
            have hPc := hP.sub (ws' := [(op, .inr (1, [.int pw, .int ph, .ref opa])), (opa, .inl (cI, pn, .inl pf))]) [1, 2] rfl
            refine vp_callSi (va_runV (As := [.int a1, .int a2]) (rest := []) ⟨hx, hb, hml, hown, hts⟩ (kt_ZP_sampleAt l dC dI cI op opa pw ph pn pf a1 a2 _ hw) (cwV 2 hts (tb_V mm_330 mm_331 mm_332 mm_3 mm_333) rfl rfl rfl (by decide +kernel) ⟨Nat.le_of_ble_eq_true rfl, Nat.le_of_ble_eq_true rfl⟩) ⟨gr_blind, va_recv hK hPc (ci := 1) (q0 := 0) rfl rfl, fun U hU hW => gr_pre hPc hK hE hU hW⟩ rfl rfl hl.1 rfl (lv_room (Nat.le_of_ble_eq_true rfl)) dZQ_turned_184 ⟨Nat.le_of_ble_eq_true rfl, Nat.le_of_ble_eq_true rfl⟩).run (fun r_5 hw => ?_)
            subst hQ9
            exact W.iret (v := r_5) hx hb hr (fun t ht hW => ⟨r_5, rfl, hw, ht⟩) (fun q h => nomatch h) dZQ_turned_187
          · have hw := hw.2.1 c_4
            refine lv_tableIn (off := 26) (tgt := 128) hx hb dZQ_turned_102 (by omega) (by omega) (by rw [c_4]; rfl) (by decide) ?_
            refine lv_aload_n hx hb dZQ_turned_128 rfl (lv_at hl 4 rfl) ?_
            refine va_get (D := (dC, dI)) (ci := 5) (v := .ref op) (C := RZQ) (T := TZQ) (N := 7) hx hb hts inZQ hown hK hP 0 rfl rfl 0 (by decide) (hts _ mm_136) (fun _ h9 => h9) rfl dZQ_turned_129 ?_
            refine lv_iload_n hx hb dZQ_turned_132 rfl (lv_at hl 6 rfl) ?_
            refine lv_iload hx hb dZQ_turned_133 (lv_at hl 1 rfl) ?_
            refine lv_iconst (v := (1 : Int32)) hx hb dZQ_turned_135 (by decide) ?_
            refine lv_isub hx hb dZQ_turned_136 ?_
            refine lv_iload_n hx hb dZQ_turned_137 rfl (lv_at hl 5 rfl) ?_
            refine lv_isub hx hb dZQ_turned_138 ?_
            have hPc := hP.sub (ws' := [(op, .inr (1, [.int pw, .int ph, .ref opa])), (opa, .inl (cI, pn, .inl pf))]) [1, 2] rfl
            refine vp_callSi (va_runV (As := [.int a2, .int ((t0_j48 - (1 : Int32)) - a1)]) (rest := []) ⟨hx, hb, hml, hown, hts⟩ (kt_ZP_sampleAt l dC dI cI op opa pw ph pn pf a2 ((t0_j48 - (1 : Int32)) - a1) _ hw) (cwV 2 hts (tb_V mm_330 mm_331 mm_332 mm_3 mm_333) rfl rfl rfl (by decide +kernel) ⟨Nat.le_of_ble_eq_true rfl, Nat.le_of_ble_eq_true rfl⟩) ⟨gr_blind, va_recv hK hPc (ci := 1) (q0 := 0) rfl rfl, fun U hU hW => gr_pre hPc hK hE hU hW⟩ rfl rfl hl.1 rfl (lv_room (Nat.le_of_ble_eq_true rfl)) dZQ_turned_139 ⟨Nat.le_of_ble_eq_true rfl, Nat.le_of_ble_eq_true rfl⟩).run (fun r_6 hw => ?_)
            subst hQ9
            exact W.iret (v := r_6) hx hb hr (fun t ht hW => ⟨r_6, rfl, hw, ht⟩) (fun q h => nomatch h) dZQ_turned_142
          · have hw := hw.2.2.1 c_4
            refine lv_tableIn (off := 41) (tgt := 143) hx hb dZQ_turned_102 (by omega) (by omega) (by rw [c_4]; rfl) (by decide) ?_
            refine lv_aload_n hx hb dZQ_turned_143 rfl (lv_at hl 4 rfl) ?_
            refine va_get (D := (dC, dI)) (ci := 5) (v := .ref op) (C := RZQ) (T := TZQ) (N := 7) hx hb hts inZQ hown hK hP 0 rfl rfl 0 (by decide) (hts _ mm_136) (fun _ h9 => h9) rfl dZQ_turned_144 ?_
            refine lv_iload hx hb dZQ_turned_147 (lv_at hl 1 rfl) ?_
            refine lv_iconst (v := (1 : Int32)) hx hb dZQ_turned_149 (by decide) ?_
            refine lv_isub hx hb dZQ_turned_150 ?_
            refine lv_iload_n hx hb dZQ_turned_151 rfl (lv_at hl 5 rfl) ?_
            refine lv_isub hx hb dZQ_turned_152 ?_
            refine lv_iload hx hb dZQ_turned_153 (lv_at hl 0 rfl) ?_
            refine lv_iconst (v := (1 : Int32)) hx hb dZQ_turned_155 (by decide) ?_
            refine lv_isub hx hb dZQ_turned_156 ?_
            refine lv_iload_n hx hb dZQ_turned_157 rfl (lv_at hl 6 rfl) ?_
            refine lv_isub hx hb dZQ_turned_158 ?_
            have hPc := hP.sub (ws' := [(op, .inr (1, [.int pw, .int ph, .ref opa])), (opa, .inl (cI, pn, .inl pf))]) [1, 2] rfl
            refine vp_callSi (va_runV (As := [.int ((t0_j48 - (1 : Int32)) - a1), .int ((t0_j72 - (1 : Int32)) - a2)]) (rest := []) ⟨hx, hb, hml, hown, hts⟩ (kt_ZP_sampleAt l dC dI cI op opa pw ph pn pf ((t0_j48 - (1 : Int32)) - a1) ((t0_j72 - (1 : Int32)) - a2) _ hw) (cwV 2 hts (tb_V mm_330 mm_331 mm_332 mm_3 mm_333) rfl rfl rfl (by decide +kernel) ⟨Nat.le_of_ble_eq_true rfl, Nat.le_of_ble_eq_true rfl⟩) ⟨gr_blind, va_recv hK hPc (ci := 1) (q0 := 0) rfl rfl, fun U hU hW => gr_pre hPc hK hE hU hW⟩ rfl rfl hl.1 rfl (lv_room (Nat.le_of_ble_eq_true rfl)) dZQ_turned_159 ⟨Nat.le_of_ble_eq_true rfl, Nat.le_of_ble_eq_true rfl⟩).run (fun r_7 hw => ?_)
            subst hQ9
            exact W.iret (v := r_7) hx hb hr (fun t ht hW => ⟨r_7, rfl, hw, ht⟩) (fun q h => nomatch h) dZQ_turned_162
          · have hw := hw.2.2.2 c_4
            refine lv_tableIn (off := 61) (tgt := 163) hx hb dZQ_turned_102 (by omega) (by omega) (by rw [c_4]; rfl) (by decide) ?_
            refine lv_aload_n hx hb dZQ_turned_163 rfl (lv_at hl 4 rfl) ?_
            refine va_get (D := (dC, dI)) (ci := 5) (v := .ref op) (C := RZQ) (T := TZQ) (N := 7) hx hb hts inZQ hown hK hP 0 rfl rfl 0 (by decide) (hts _ mm_136) (fun _ h9 => h9) rfl dZQ_turned_164 ?_
            refine lv_iload hx hb dZQ_turned_167 (lv_at hl 0 rfl) ?_
            refine lv_iconst (v := (1 : Int32)) hx hb dZQ_turned_169 (by decide) ?_
            refine lv_isub hx hb dZQ_turned_170 ?_
            refine lv_iload_n hx hb dZQ_turned_171 rfl (lv_at hl 6 rfl) ?_
            refine lv_isub hx hb dZQ_turned_172 ?_
            refine lv_iload_n hx hb dZQ_turned_173 rfl (lv_at hl 5 rfl) ?_
            have hPc := hP.sub (ws' := [(op, .inr (1, [.int pw, .int ph, .ref opa])), (opa, .inl (cI, pn, .inl pf))]) [1, 2] rfl
            refine vp_callSi (va_runV (As := [.int ((t0_j72 - (1 : Int32)) - a2), .int a1]) (rest := []) ⟨hx, hb, hml, hown, hts⟩ (kt_ZP_sampleAt l dC dI cI op opa pw ph pn pf ((t0_j72 - (1 : Int32)) - a2) a1 _ hw) (cwV 2 hts (tb_V mm_330 mm_331 mm_332 mm_3 mm_333) rfl rfl rfl (by decide +kernel) ⟨Nat.le_of_ble_eq_true rfl, Nat.le_of_ble_eq_true rfl⟩) ⟨gr_blind, va_recv hK hPc (ci := 1) (q0 := 0) rfl rfl, fun U hU hW => gr_pre hPc hK hE hU hW⟩ rfl rfl hl.1 rfl (lv_room (Nat.le_of_ble_eq_true rfl)) dZQ_turned_174 ⟨Nat.le_of_ble_eq_true rfl, Nat.le_of_ble_eq_true rfl⟩).run (fun r_8 hw => ?_)
            subst hQ9
            exact W.iret (v := r_8) hx hb hr (fun t ht hW => ⟨r_8, rfl, hw, ht⟩) (fun q h => nomatch h) dZQ_turned_177
        refine lv_if_eq (tgt := 96) hx hb dZQ_turned_80 (by decide) (fun c_9 => ?_) (fun c_9 => ?_)
        · have hw := hw.1 c_9
          refine lv_iconst (v := (0 : Int32)) hx hb dZQ_turned_96 (by decide) ?_
          exact j97 (0 : Int32) hw ls (lv_sub hl [0, 1, 2, 3, 4, 5, 6, 7] rfl)
        · have hw := hw.2 c_9
          refine lv_iload_n hx hb dZQ_turned_83 rfl (lv_at hl 6 rfl) ?_
          refine lv_iload hx hb dZQ_turned_84 (lv_at hl 0 rfl) ?_
          have hPc := hP.sub (ws' := []) [] rfl
          refine vp_callSi (va_runS (As := [.int a2, .int t0_j72]) (rest := []) ⟨hx, hb, hml, hown, hts⟩ (kt_ZQ_isWithin l dC dI cI  a2 t0_j72 _ hw) (va_cwS 2 hts (tb_S mm_236 mm_237 mm_1 mm_238) rfl rfl rfl (by decide +kernel) ⟨Nat.le_of_ble_eq_true rfl, Nat.le_of_ble_eq_true rfl⟩) ⟨gr_blind, fun U hU hW => gr_pre hPc hK hE hU hW⟩ rfl rfl hl.1 rfl (lv_room (Nat.le_of_ble_eq_true rfl)) dZQ_turned_86 ⟨Nat.le_of_ble_eq_true rfl, Nat.le_of_ble_eq_true rfl⟩).run (fun r_10 hw => ?_)
          refine lv_if_eq (tgt := 96) hx hb dZQ_turned_89 (by decide) (fun c_11 => ?_) (fun c_11 => ?_)
          · have hw := hw.1 c_11
            refine lv_iconst (v := (0 : Int32)) hx hb dZQ_turned_96 (by decide) ?_
            exact j97 (0 : Int32) hw ls (lv_sub hl [0, 1, 2, 3, 4, 5, 6, 7] rfl)
          · have hw := hw.2 c_11
            refine lv_iconst (v := (1 : Int32)) hx hb dZQ_turned_92 (by decide) ?_
            refine lv_goto (tgt := 97) hx hb dZQ_turned_93 (by decide) ?_
            exact j97 (1 : Int32) hw ls (lv_sub hl [0, 1, 2, 3, 4, 5, 6, 7] rfl)
      refine lv_if_eq (tgt := 65) hx hb dZQ_turned_52 (by decide) (fun c_12 => ?_) (fun c_12 => ?_)
      · have hw := hw.1 c_12
        refine lv_aload_n hx hb dZQ_turned_65 rfl (lv_at hl 3 rfl) ?_
        refine va_get (D := (dC, dI)) (ci := 5) (v := .ref op) (C := RZQ) (T := TZQ) (N := 7) hx hb hts inZQ hown hK hP 0 rfl rfl 0 (by decide) (hts _ mm_136) (fun _ h9 => h9) rfl dZQ_turned_66 ?_
        refine va_get (D := (dC, dI)) (ci := 1) (v := .int ph) (C := RZP) (T := TZP) (N := 3) hx hb hts inZP hown hK hP 1 rfl rfl 1 (by decide) (hts _ mm_44) (fun _ h9 => h9) rfl dZQ_turned_69 ?_
        exact j72 ph hw ls (lv_sub hl [0, 1, 2, 3, 4, 5, 6] rfl)
      · have hw := hw.2 c_12
        refine lv_aload_n hx hb dZQ_turned_55 rfl (lv_at hl 3 rfl) ?_
        refine va_get (D := (dC, dI)) (ci := 5) (v := .ref op) (C := RZQ) (T := TZQ) (N := 7) hx hb hts inZQ hown hK hP 0 rfl rfl 0 (by decide) (hts _ mm_136) (fun _ h9 => h9) rfl dZQ_turned_56 ?_
        refine va_get (D := (dC, dI)) (ci := 1) (v := .int pw) (C := RZP) (T := TZP) (N := 3) hx hb hts inZP hown hK hP 1 rfl rfl 0 (by decide) (hts _ mm_40) (fun _ h9 => h9) rfl dZQ_turned_59 ?_
        refine lv_goto (tgt := 72) hx hb dZQ_turned_62 (by decide) ?_
        exact j72 pw hw ls (lv_sub hl [0, 1, 2, 3, 4, 5, 6] rfl)
    refine lv_if_eq (tgt := 41) hx hb dZQ_turned_28 (by decide) (fun c_13 => ?_) (fun c_13 => ?_)
    · have hw := hw.1 c_13
      refine lv_aload_n hx hb dZQ_turned_41 rfl (lv_at hl 2 rfl) ?_
      refine va_get (D := (dC, dI)) (ci := 5) (v := .ref op) (C := RZQ) (T := TZQ) (N := 7) hx hb hts inZQ hown hK hP 0 rfl rfl 0 (by decide) (hts _ mm_136) (fun _ h9 => h9) rfl dZQ_turned_42 ?_
      refine va_get (D := (dC, dI)) (ci := 1) (v := .int pw) (C := RZP) (T := TZP) (N := 3) hx hb hts inZP hown hK hP 1 rfl rfl 0 (by decide) (hts _ mm_40) (fun _ h9 => h9) rfl dZQ_turned_45 ?_
      exact j48 pw hw ls (lv_sub hl [0, 1, 2, 3, 4, 5] rfl)
    · have hw := hw.2 c_13
      refine lv_aload_n hx hb dZQ_turned_31 rfl (lv_at hl 2 rfl) ?_
      refine va_get (D := (dC, dI)) (ci := 5) (v := .ref op) (C := RZQ) (T := TZQ) (N := 7) hx hb hts inZQ hown hK hP 0 rfl rfl 0 (by decide) (hts _ mm_136) (fun _ h9 => h9) rfl dZQ_turned_32 ?_
      refine va_get (D := (dC, dI)) (ci := 1) (v := .int ph) (C := RZP) (T := TZP) (N := 3) hx hb hts inZP hown hK hP 1 rfl rfl 1 (by decide) (hts _ mm_44) (fun _ h9 => h9) rfl dZQ_turned_35 ?_
      refine lv_goto (tgt := 48) hx hb dZQ_turned_38 (by decide) ?_
      exact j48 ph hw ls (lv_sub hl [0, 1, 2, 3, 4, 5] rfl)
  refine lv_icmp_eq (tgt := 19) hx hb dZQ_turned_10 (by decide) (fun c_14 => ?_) (fun c_14 => ?_)
  · have hw := hw.1 c_14
    refine lv_iconst (v := (1 : Int32)) hx hb dZQ_turned_19 (by decide) ?_
    refine lv_goto (tgt := 24) hx hb dZQ_turned_20 (by decide) ?_
    exact j24 (1 : Int32) hw ls (lv_sub hl [0, 1, 2, 3, 4] rfl)
  · have hw := hw.2 c_14
    refine lv_iload hx hb dZQ_turned_13 (lv_at hl 0 rfl) ?_
    refine lv_iconst (v := (3 : Int32)) hx hb dZQ_turned_15 (by decide) ?_
    refine lv_icmp_ne (tgt := 23) hx hb dZQ_turned_16 (by decide) (fun c_15 => ?_) (fun c_15 => ?_)
    · have hw := hw.2 c_15
      refine lv_iconst (v := (0 : Int32)) hx hb dZQ_turned_23 (by decide) ?_
      exact j24 (0 : Int32) hw ls (lv_sub hl [0, 1, 2, 3, 4] rfl)
    · have hw := hw.1 c_15
      refine lv_iconst (v := (1 : Int32)) hx hb dZQ_turned_19 (by decide) ?_
      refine lv_goto (tgt := 24) hx hb dZQ_turned_20 (by decide) ?_
      exact j24 (1 : Int32) hw ls (lv_sub hl [0, 1, 2, 3, 4] rfl)
def xp_ZQ_turned_I (pw : Int32) (ph : Int32) (pn : Nat) (pf : Nat → Int32) (gw : Int32) (gh : Int32) (gn : Nat) (gf : Nat → Int32) (yk : Int32) (bl : Int32) (bf : Nat → Int32) (kn : Nat) (kf : Nat → Int32) (sn : Nat) (sf : Nat → Int32) (sd : Int32) (tw : Int32) (th : Int32) (tf : Nat → Int32) (uw : Int32) (uh : Int32) (uf : Nat → Int32) (a1 : Int32) (a2 : Int32) (a3 : Int32) : Prop := wp_ZJ_floorMod a3 (4 : Int32) (fun r_1 : Int32 => ∃ J24 : Int32 → Prop, (∀ (t0_j24 : Int32), J24 t0_j24 → ∃ J48 : Int32 → Prop, (∀ (t0_j48 : Int32), J48 t0_j48 → ∃ J72 : Int32 → Prop, (∀ (t0_j72 : Int32), J72 t0_j72 → wp_ZQ_isWithin a1 t0_j48 (fun r_2 : Int32 => ∃ J97 : Int32 → Prop, (∀ (t0_j97 : Int32), J97 t0_j97 → (xp_ZQ_requirePlace_I t0_j97) ∨ (wp_ZQ_requirePlace t0_j97 ((((r_1.toInt < 1 ∨ 3 < r_1.toInt) → (wp_ZP_sampleAt pw ph pn pf a1 a2 (fun r_5 : Int32 => False))) ∧ (r_1.toInt = 1 → (wp_ZP_sampleAt pw ph pn pf a2 ((t0_j48 - (1 : Int32)) - a1) (fun r_6 : Int32 => False))) ∧ (r_1.toInt = 2 → (wp_ZP_sampleAt pw ph pn pf ((t0_j48 - (1 : Int32)) - a1) ((t0_j72 - (1 : Int32)) - a2) (fun r_7 : Int32 => False))) ∧ (r_1.toInt = 3 → (wp_ZP_sampleAt pw ph pn pf ((t0_j72 - (1 : Int32)) - a2) a1 (fun r_8 : Int32 => False))))))) ∧ (((r_2 = (0 : Int32) → (J97 (0 : Int32))) ∧ (¬ r_2 = (0 : Int32) → (wp_ZQ_isWithin a2 t0_j72 (fun r_10 : Int32 => ((r_10 = (0 : Int32) → (J97 (0 : Int32))) ∧ (¬ r_10 = (0 : Int32) → (J97 (1 : Int32))))))))))) ∧ (((t0_j24 = (0 : Int32) → (J72 ph)) ∧ (¬ t0_j24 = (0 : Int32) → (J72 pw))))) ∧ (((t0_j24 = (0 : Int32) → (J48 pw)) ∧ (¬ t0_j24 = (0 : Int32) → (J48 ph))))) ∧ (((r_1 = (1 : Int32) → (J24 (1 : Int32))) ∧ (¬ r_1 = (1 : Int32) → ((r_1 = (3 : Int32) → (J24 (1 : Int32))) ∧ (¬ r_1 = (3 : Int32) → (J24 (0 : Int32))))))))
abbrev rm_ZQ_turned_I : Room := { frames := 7, cells := 1, slots := 6, locals := 111 }
set_option maxHeartbeats 4000000 in
set_option maxRecDepth 100000 in
theorem kx_ZQ_turned_I (l : Launch) (hl9 : l.stackTraces = false) (dC : Nat → ClassId) (dI : Nat → Nat → Nat) (cI : ClassId) (o0 op opa og oga oy ob oba os osa osb ot ota ou oua : Nat) (H0 : Heap) (pw : Int32) (ph : Int32) (pn : Nat) (pf : Nat → Int32) (gw : Int32) (gh : Int32) (gn : Nat) (gf : Nat → Int32) (yk : Int32) (bl : Int32) (bf : Nat → Int32) (kn : Nat) (kf : Nat → Int32) (sn : Nat) (sf : Nat → Int32) (sd : Int32) (tw : Int32) (th : Int32) (tf : Nat → Int32) (uw : Int32) (uh : Int32) (uf : Nat → Int32) (a1 : Int32) (a2 : Int32) (a3 : Int32) (hw : xp_ZQ_turned_I pw ph pn pf gw gh gn gf yk bl bf kn kf sn sf sd tw th tf uw uh uf a1 a2 a3) : tx_Met l yZQ_turned wsZQ_turned rm_ZQ_turned_I (tr_Pc H0 dC dI [(cI, .int)] [.ref o0, .int a1, .int a2, .int a3] [(o0, .inr (5, [.ref op, .ref og, .ref oy, .ref ob, .ref os, .ref ot, .ref ou])), (op, .inr (1, [.int pw, .int ph, .ref opa])), (opa, .inl (cI, pn, .inl pf)), (og, .inr (1, [.int gw, .int gh, .ref oga])), (oga, .inl (cI, gn, .inl gf)), (oy, .inr (2, [.ref op, .int yk])), (ob, .inr (0, [.ref oba, .int bl])), (oba, .inl (cI, 256, .inl bf)), (os, .inr (3, [.ref op, .ref og, .ref osa, .ref osb, .int sd])), (osa, .inl (cI, kn, .inl kf)), (osb, .inl (cI, sn, .inl sf)), (ot, .inr (4, [.ref ota, .int tw, .int th])), (ota, .inl (cI, 64, .inl tf)), (ou, .inr (4, [.ref oua, .int uw, .int uh])), (oua, .inl (cI, 64, .inl uf))]) "java/lang/IndexOutOfBoundsException" := by
  refine tx_ofW (cc := cZQ_turned) (maxL := 8) (ret := (some .int)) (by decide) rfl ?_
  intro p e s m args below meth c s₁ B hml hnX hv
  obtain ⟨ha9, hP, hK, hE, hT⟩ := hv
  have hx := B.exec
  have hb := B.bytes
  have hr := B.returns
  have hts0 := atoms_spec (ws := wsZQ_turned) B.pre
  have hts : ∀ w ∈ tbg, w.before args s = true := fun w h => hts0 w (List.mem_cons_of_mem _ h)
  have hown : s.vm.findClass RZQ = some m.cls := findClass_of_methodNamed B.named
  have hlocks := B.notSynchronized
  refine gx_Q (fun Q9 hQ9 => ?_)
  have hl := lv_entry ([.ref o0, .int a1, .int a2, .int a3]) (n := 8) (Nat.le_of_ble_eq_true rfl)
  have he9 : entryFrame m args 8 = F0 m 0 ((lg_sl [.ref o0, .int a1, .int a2, .int a3] ++ List.replicate (8 - (lg_sl ([.ref o0, .int a1, .int a2, .int a3] : List Value)).length) Slot.unset).toArray) [] := by rw [ha9]; exact lg_entry_eq m [.ref o0, .int a1, .int a2, .int a3] 8
  rw [he9]
  generalize (lg_sl ([.ref o0, .int a1, .int a2, .int a3] : List Value) ++ List.replicate (8 - (lg_sl ([.ref o0, .int a1, .int a2, .int a3] : List Value)).length) Slot.unset).toArray = ls at hl ⊢
  have hl : lv_has ls 8 [(0, .ref o0), (1, .int a1), (2, .int a2), (3, .int a3)] := hl
  refine lv_iload_n hx hb dZQ_turned_0 rfl (lv_at hl 3 rfl) ?_
  refine lv_iconst (v := (4 : Int32)) hx hb dZQ_turned_1 (by decide) ?_
  have hPc := hP.sub (ws' := []) [] rfl
  refine vp_callSi (va_runS (As := [.int a3, .int (4 : Int32)]) (rest := []) ⟨hx, hb, hml, hown, hts⟩ (kt_ZJ_floorMod l dC dI cI  a3 (4 : Int32) _ hw) (va_cwS 2 hts (tb_S mm_446 mm_447 mm_2 mm_448) rfl rfl rfl (by decide +kernel) ⟨Nat.le_of_ble_eq_true rfl, Nat.le_of_ble_eq_true rfl⟩) ⟨gr_blind, fun U hU hW => gr_pre hPc hK hE hU hW⟩ rfl rfl hl.1 rfl (lv_room (Nat.le_of_ble_eq_true rfl)) dZQ_turned_2 ⟨Nat.le_of_ble_eq_true rfl, Nat.le_of_ble_eq_true rfl⟩).run (fun r_1 hw => ?_)
  refine lv_istore (lv' := [(4, .int r_1), (0, .ref o0), (1, .int a1), (2, .int a2), (3, .int a3)]) hx hb dZQ_turned_5 hl (by decide) rfl (fun ls hl => ?_)
  refine lv_iload hx hb dZQ_turned_7 (lv_at hl 0 rfl) ?_
  refine lv_iconst (v := (1 : Int32)) hx hb dZQ_turned_9 (by decide) ?_
  obtain ⟨J24, hJ24, hw⟩ := hw
  have j24 : ∀ (t0_j24 : Int32), J24 t0_j24 → ∀ ls : Array Slot, lv_has ls 8 [(4, .int r_1), (0, .ref o0), (1, .int a1), (2, .int a2), (3, .int a3)] → W p l e (headSpec wsZQ_turned rm_ZQ_turned_I).room s m args below meth c s.heap [] 0 0 Q9 (F0 m 24 ls [.int t0_j24]) := by
    intro t0_j24 hw ls hl
    have hw := hJ24 t0_j24 hw
    refine lv_istore (lv' := [(5, .int t0_j24), (4, .int r_1), (0, .ref o0), (1, .int a1), (2, .int a2), (3, .int a3)]) hx hb dZQ_turned_24 hl (by decide) rfl (fun ls hl => ?_)
    refine lv_iload hx hb dZQ_turned_26 (lv_at hl 0 rfl) ?_
    obtain ⟨J48, hJ48, hw⟩ := hw
    have j48 : ∀ (t0_j48 : Int32), J48 t0_j48 → ∀ ls : Array Slot, lv_has ls 8 [(5, .int t0_j24), (4, .int r_1), (0, .ref o0), (1, .int a1), (2, .int a2), (3, .int a3)] → W p l e (headSpec wsZQ_turned rm_ZQ_turned_I).room s m args below meth c s.heap [] 0 0 Q9 (F0 m 48 ls [.int t0_j48]) := by
      intro t0_j48 hw ls hl
      have hw := hJ48 t0_j48 hw
      refine lv_istore (lv' := [(6, .int t0_j48), (5, .int t0_j24), (4, .int r_1), (0, .ref o0), (1, .int a1), (2, .int a2), (3, .int a3)]) hx hb dZQ_turned_48 hl (by decide) rfl (fun ls hl => ?_)
      refine lv_iload hx hb dZQ_turned_50 (lv_at hl 1 rfl) ?_
      obtain ⟨J72, hJ72, hw⟩ := hw
      have j72 : ∀ (t0_j72 : Int32), J72 t0_j72 → ∀ ls : Array Slot, lv_has ls 8 [(6, .int t0_j48), (5, .int t0_j24), (4, .int r_1), (0, .ref o0), (1, .int a1), (2, .int a2), (3, .int a3)] → W p l e (headSpec wsZQ_turned rm_ZQ_turned_I).room s m args below meth c s.heap [] 0 0 Q9 (F0 m 72 ls [.int t0_j72]) := by
        intro t0_j72 hw ls hl
        have hw := hJ72 t0_j72 hw
        refine lv_istore (lv' := [(7, .int t0_j72), (6, .int t0_j48), (5, .int t0_j24), (4, .int r_1), (0, .ref o0), (1, .int a1), (2, .int a2), (3, .int a3)]) hx hb dZQ_turned_72 hl (by decide) rfl (fun ls hl => ?_)
        refine lv_iload_n hx hb dZQ_turned_74 rfl (lv_at hl 5 rfl) ?_
        refine lv_iload hx hb dZQ_turned_75 (lv_at hl 1 rfl) ?_
        have hPc := hP.sub (ws' := []) [] rfl
        refine vp_callSi (va_runS (As := [.int a1, .int t0_j48]) (rest := []) ⟨hx, hb, hml, hown, hts⟩ (kt_ZQ_isWithin l dC dI cI  a1 t0_j48 _ hw) (va_cwS 2 hts (tb_S mm_236 mm_237 mm_1 mm_238) rfl rfl rfl (by decide +kernel) ⟨Nat.le_of_ble_eq_true rfl, Nat.le_of_ble_eq_true rfl⟩) ⟨gr_blind, fun U hU hW => gr_pre hPc hK hE hU hW⟩ rfl rfl hl.1 rfl (lv_room (Nat.le_of_ble_eq_true rfl)) dZQ_turned_77 ⟨Nat.le_of_ble_eq_true rfl, Nat.le_of_ble_eq_true rfl⟩).run (fun r_2 hw => ?_)
        obtain ⟨J97, hJ97, hw⟩ := hw
        have j97 : ∀ (t0_j97 : Int32), J97 t0_j97 → ∀ ls : Array Slot, lv_has ls 8 [(7, .int t0_j72), (6, .int t0_j48), (5, .int t0_j24), (4, .int r_1), (0, .ref o0), (1, .int a1), (2, .int a2), (3, .int a3)] → W p l e (headSpec wsZQ_turned rm_ZQ_turned_I).room s m args below meth c s.heap [] 0 0 Q9 (F0 m 97 ls [.int t0_j97]) := by
          intro t0_j97 hw ls hl
          have hw := hJ97 t0_j97 hw
          rcases hw with hw | hw
          · subst hQ9
            have hPx := hP.sub (ws' := []) [] rfl
            exact tx_callS (As := [.int t0_j97]) (rest := []) ⟨hx, hb, hml, hown, hts⟩ (kx_ZQ_requirePlace_I l hl9 dC dI cI  H0 t0_j97 hw) (va_cwS 1 hts (tb_S mm_239 mm_240 mm_1 mm_241) rfl rfl rfl (by decide +kernel) ⟨Nat.le_of_ble_eq_true rfl, Nat.le_of_ble_eq_true rfl⟩) ⟨tr_blind, fun U hU hW => tr_pre hPx hK hE hT hT.1 hU hW⟩ rfl hl.1 rfl (Nat.le_of_ble_eq_true rfl) dZQ_turned_97 hnX hlocks ⟨Nat.le_of_ble_eq_true rfl, Nat.le_of_ble_eq_true rfl⟩
          have hPc := hP.sub (ws' := []) [] rfl
          refine va_csv (va_runS (As := [.int t0_j97]) (rest := []) ⟨hx, hb, hml, hown, hts⟩ (kt_ZQ_requirePlace l dC dI cI  t0_j97 _ hw) (va_cwS 1 hts (tb_S mm_239 mm_240 mm_1 mm_241) rfl rfl rfl (by decide +kernel) ⟨Nat.le_of_ble_eq_true rfl, Nat.le_of_ble_eq_true rfl⟩) ⟨gr_blind, fun U hU hW => gr_pre hPc hK hE hU hW⟩ rfl rfl hl.1 rfl (lv_room (Nat.le_of_ble_eq_true rfl)) dZQ_turned_97 ⟨Nat.le_of_ble_eq_true rfl, Nat.le_of_ble_eq_true rfl⟩).run (fun hw => ?_)
          refine lv_iload hx hb dZQ_turned_100 (lv_at hl 3 rfl) ?_
          rcases (show r_1.toInt < 1 ∨ 3 < r_1.toInt ∨ r_1.toInt = 1 ∨ r_1.toInt = 2 ∨ r_1.toInt = 3 by omega) with c_4 | c_4 | c_4 | c_4 | c_4
          · have hw := hw.1 (Or.inl c_4)
            refine lv_tableOut (tgt := 178) hx hb dZQ_turned_102 (Or.inl c_4) (by decide) ?_
            refine lv_aload_n hx hb dZQ_turned_178 rfl (lv_at hl 4 rfl) ?_
            refine va_get (D := (dC, dI)) (ci := 5) (v := .ref op) (C := RZQ) (T := TZQ) (N := 7) hx hb hts inZQ hown hK hP 0 rfl rfl 0 (by decide) (hts _ mm_136) (fun _ h9 => h9) rfl dZQ_turned_179 ?_
            refine lv_iload_n hx hb dZQ_turned_182 rfl (lv_at hl 5 rfl) ?_
            refine lv_iload_n hx hb dZQ_turned_183 rfl (lv_at hl 6 rfl) ?_
            have hPc := hP.sub (ws' := [(op, .inr (1, [.int pw, .int ph, .ref opa])), (opa, .inl (cI, pn, .inl pf))]) [1, 2] rfl
            refine vp_callSi (va_runV (As := [.int a1, .int a2]) (rest := []) ⟨hx, hb, hml, hown, hts⟩ (kt_ZP_sampleAt l dC dI cI op opa pw ph pn pf a1 a2 _ hw) (cwV 2 hts (tb_V mm_330 mm_331 mm_332 mm_3 mm_333) rfl rfl rfl (by decide +kernel) ⟨Nat.le_of_ble_eq_true rfl, Nat.le_of_ble_eq_true rfl⟩) ⟨gr_blind, va_recv hK hPc (ci := 1) (q0 := 0) rfl rfl, fun U hU hW => gr_pre hPc hK hE hU hW⟩ rfl rfl hl.1 rfl (lv_room (Nat.le_of_ble_eq_true rfl)) dZQ_turned_184 ⟨Nat.le_of_ble_eq_true rfl, Nat.le_of_ble_eq_true rfl⟩).run (fun r_5 hw => ?_)
            exact False.elim hw
          · have hw := hw.1 (Or.inr c_4)
            refine lv_tableOut (tgt := 178) hx hb dZQ_turned_102 (Or.inr c_4) (by decide) ?_
            refine lv_aload_n hx hb dZQ_turned_178 rfl (lv_at hl 4 rfl) ?_
            refine va_get (D := (dC, dI)) (ci := 5) (v := .ref op) (C := RZQ) (T := TZQ) (N := 7) hx hb hts inZQ hown hK hP 0 rfl rfl 0 (by decide) (hts _ mm_136) (fun _ h9 => h9) rfl dZQ_turned_179 ?_
            refine lv_iload_n hx hb dZQ_turned_182 rfl (lv_at hl 5 rfl) ?_
            refine lv_iload_n hx hb dZQ_turned_183 rfl (lv_at hl 6 rfl) ?_
            have hPc := hP.sub (ws' := [(op, .inr (1, [.int pw, .int ph, .ref opa])), (opa, .inl (cI, pn, .inl pf))]) [1, 2] rfl
            refine vp_callSi (va_runV (As := [.int a1, .int a2]) (rest := []) ⟨hx, hb, hml, hown, hts⟩ (kt_ZP_sampleAt l dC dI cI op opa pw ph pn pf a1 a2 _ hw) (cwV 2 hts (tb_V mm_330 mm_331 mm_332 mm_3 mm_333) rfl rfl rfl (by decide +kernel) ⟨Nat.le_of_ble_eq_true rfl, Nat.le_of_ble_eq_true rfl⟩) ⟨gr_blind, va_recv hK hPc (ci := 1) (q0 := 0) rfl rfl, fun U hU hW => gr_pre hPc hK hE hU hW⟩ rfl rfl hl.1 rfl (lv_room (Nat.le_of_ble_eq_true rfl)) dZQ_turned_184 ⟨Nat.le_of_ble_eq_true rfl, Nat.le_of_ble_eq_true rfl⟩).run (fun r_5 hw => ?_)
            exact False.elim hw
          · have hw := hw.2.1 c_4
            refine lv_tableIn (off := 26) (tgt := 128) hx hb dZQ_turned_102 (by omega) (by omega) (by rw [c_4]; rfl) (by decide) ?_
            refine lv_aload_n hx hb dZQ_turned_128 rfl (lv_at hl 4 rfl) ?_
            refine va_get (D := (dC, dI)) (ci := 5) (v := .ref op) (C := RZQ) (T := TZQ) (N := 7) hx hb hts inZQ hown hK hP 0 rfl rfl 0 (by decide) (hts _ mm_136) (fun _ h9 => h9) rfl dZQ_turned_129 ?_
            refine lv_iload_n hx hb dZQ_turned_132 rfl (lv_at hl 6 rfl) ?_
            refine lv_iload hx hb dZQ_turned_133 (lv_at hl 1 rfl) ?_
            refine lv_iconst (v := (1 : Int32)) hx hb dZQ_turned_135 (by decide) ?_
            refine lv_isub hx hb dZQ_turned_136 ?_
            refine lv_iload_n hx hb dZQ_turned_137 rfl (lv_at hl 5 rfl) ?_
            refine lv_isub hx hb dZQ_turned_138 ?_
            have hPc := hP.sub (ws' := [(op, .inr (1, [.int pw, .int ph, .ref opa])), (opa, .inl (cI, pn, .inl pf))]) [1, 2] rfl
            refine vp_callSi (va_runV (As := [.int a2, .int ((t0_j48 - (1 : Int32)) - a1)]) (rest := []) ⟨hx, hb, hml, hown, hts⟩ (kt_ZP_sampleAt l dC dI cI op opa pw ph pn pf a2 ((t0_j48 - (1 : Int32)) - a1) _ hw) (cwV 2 hts (tb_V mm_330 mm_331 mm_332 mm_3 mm_333) rfl rfl rfl (by decide +kernel) ⟨Nat.le_of_ble_eq_true rfl, Nat.le_of_ble_eq_true rfl⟩) ⟨gr_blind, va_recv hK hPc (ci := 1) (q0 := 0) rfl rfl, fun U hU hW => gr_pre hPc hK hE hU hW⟩ rfl rfl hl.1 rfl (lv_room (Nat.le_of_ble_eq_true rfl)) dZQ_turned_139 ⟨Nat.le_of_ble_eq_true rfl, Nat.le_of_ble_eq_true rfl⟩).run (fun r_6 hw => ?_)
            exact False.elim hw
          · have hw := hw.2.2.1 c_4
            refine lv_tableIn (off := 41) (tgt := 143) hx hb dZQ_turned_102 (by omega) (by omega) (by rw [c_4]; rfl) (by decide) ?_
            refine lv_aload_n hx hb dZQ_turned_143 rfl (lv_at hl 4 rfl) ?_
            refine va_get (D := (dC, dI)) (ci := 5) (v := .ref op) (C := RZQ) (T := TZQ) (N := 7) hx hb hts inZQ hown hK hP 0 rfl rfl 0 (by decide) (hts _ mm_136) (fun _ h9 => h9) rfl dZQ_turned_144 ?_
            refine lv_iload hx hb dZQ_turned_147 (lv_at hl 1 rfl) ?_
            refine lv_iconst (v := (1 : Int32)) hx hb dZQ_turned_149 (by decide) ?_
            refine lv_isub hx hb dZQ_turned_150 ?_
            refine lv_iload_n hx hb dZQ_turned_151 rfl (lv_at hl 5 rfl) ?_
            refine lv_isub hx hb dZQ_turned_152 ?_
            refine lv_iload hx hb dZQ_turned_153 (lv_at hl 0 rfl) ?_
            refine lv_iconst (v := (1 : Int32)) hx hb dZQ_turned_155 (by decide) ?_
            refine lv_isub hx hb dZQ_turned_156 ?_
            refine lv_iload_n hx hb dZQ_turned_157 rfl (lv_at hl 6 rfl) ?_
            refine lv_isub hx hb dZQ_turned_158 ?_
            have hPc := hP.sub (ws' := [(op, .inr (1, [.int pw, .int ph, .ref opa])), (opa, .inl (cI, pn, .inl pf))]) [1, 2] rfl
            refine vp_callSi (va_runV (As := [.int ((t0_j48 - (1 : Int32)) - a1), .int ((t0_j72 - (1 : Int32)) - a2)]) (rest := []) ⟨hx, hb, hml, hown, hts⟩ (kt_ZP_sampleAt l dC dI cI op opa pw ph pn pf ((t0_j48 - (1 : Int32)) - a1) ((t0_j72 - (1 : Int32)) - a2) _ hw) (cwV 2 hts (tb_V mm_330 mm_331 mm_332 mm_3 mm_333) rfl rfl rfl (by decide +kernel) ⟨Nat.le_of_ble_eq_true rfl, Nat.le_of_ble_eq_true rfl⟩) ⟨gr_blind, va_recv hK hPc (ci := 1) (q0 := 0) rfl rfl, fun U hU hW => gr_pre hPc hK hE hU hW⟩ rfl rfl hl.1 rfl (lv_room (Nat.le_of_ble_eq_true rfl)) dZQ_turned_159 ⟨Nat.le_of_ble_eq_true rfl, Nat.le_of_ble_eq_true rfl⟩).run (fun r_7 hw => ?_)
            exact False.elim hw
          · have hw := hw.2.2.2 c_4
            refine lv_tableIn (off := 61) (tgt := 163) hx hb dZQ_turned_102 (by omega) (by omega) (by rw [c_4]; rfl) (by decide) ?_
            refine lv_aload_n hx hb dZQ_turned_163 rfl (lv_at hl 4 rfl) ?_
            refine va_get (D := (dC, dI)) (ci := 5) (v := .ref op) (C := RZQ) (T := TZQ) (N := 7) hx hb hts inZQ hown hK hP 0 rfl rfl 0 (by decide) (hts _ mm_136) (fun _ h9 => h9) rfl dZQ_turned_164 ?_
            refine lv_iload hx hb dZQ_turned_167 (lv_at hl 0 rfl) ?_
            refine lv_iconst (v := (1 : Int32)) hx hb dZQ_turned_169 (by decide) ?_
            refine lv_isub hx hb dZQ_turned_170 ?_
            refine lv_iload_n hx hb dZQ_turned_171 rfl (lv_at hl 6 rfl) ?_
            refine lv_isub hx hb dZQ_turned_172 ?_
            refine lv_iload_n hx hb dZQ_turned_173 rfl (lv_at hl 5 rfl) ?_
            have hPc := hP.sub (ws' := [(op, .inr (1, [.int pw, .int ph, .ref opa])), (opa, .inl (cI, pn, .inl pf))]) [1, 2] rfl
            refine vp_callSi (va_runV (As := [.int ((t0_j72 - (1 : Int32)) - a2), .int a1]) (rest := []) ⟨hx, hb, hml, hown, hts⟩ (kt_ZP_sampleAt l dC dI cI op opa pw ph pn pf ((t0_j72 - (1 : Int32)) - a2) a1 _ hw) (cwV 2 hts (tb_V mm_330 mm_331 mm_332 mm_3 mm_333) rfl rfl rfl (by decide +kernel) ⟨Nat.le_of_ble_eq_true rfl, Nat.le_of_ble_eq_true rfl⟩) ⟨gr_blind, va_recv hK hPc (ci := 1) (q0 := 0) rfl rfl, fun U hU hW => gr_pre hPc hK hE hU hW⟩ rfl rfl hl.1 rfl (lv_room (Nat.le_of_ble_eq_true rfl)) dZQ_turned_174 ⟨Nat.le_of_ble_eq_true rfl, Nat.le_of_ble_eq_true rfl⟩).run (fun r_8 hw => ?_)
            exact False.elim hw
        refine lv_if_eq (tgt := 96) hx hb dZQ_turned_80 (by decide) (fun c_9 => ?_) (fun c_9 => ?_)
        · have hw := hw.1 c_9
          refine lv_iconst (v := (0 : Int32)) hx hb dZQ_turned_96 (by decide) ?_
          exact j97 (0 : Int32) hw ls (lv_sub hl [0, 1, 2, 3, 4, 5, 6, 7] rfl)
        · have hw := hw.2 c_9
          refine lv_iload_n hx hb dZQ_turned_83 rfl (lv_at hl 6 rfl) ?_
          refine lv_iload hx hb dZQ_turned_84 (lv_at hl 0 rfl) ?_
          have hPc := hP.sub (ws' := []) [] rfl
          refine vp_callSi (va_runS (As := [.int a2, .int t0_j72]) (rest := []) ⟨hx, hb, hml, hown, hts⟩ (kt_ZQ_isWithin l dC dI cI  a2 t0_j72 _ hw) (va_cwS 2 hts (tb_S mm_236 mm_237 mm_1 mm_238) rfl rfl rfl (by decide +kernel) ⟨Nat.le_of_ble_eq_true rfl, Nat.le_of_ble_eq_true rfl⟩) ⟨gr_blind, fun U hU hW => gr_pre hPc hK hE hU hW⟩ rfl rfl hl.1 rfl (lv_room (Nat.le_of_ble_eq_true rfl)) dZQ_turned_86 ⟨Nat.le_of_ble_eq_true rfl, Nat.le_of_ble_eq_true rfl⟩).run (fun r_10 hw => ?_)
          refine lv_if_eq (tgt := 96) hx hb dZQ_turned_89 (by decide) (fun c_11 => ?_) (fun c_11 => ?_)
          · have hw := hw.1 c_11
            refine lv_iconst (v := (0 : Int32)) hx hb dZQ_turned_96 (by decide) ?_
            exact j97 (0 : Int32) hw ls (lv_sub hl [0, 1, 2, 3, 4, 5, 6, 7] rfl)
          · have hw := hw.2 c_11
            refine lv_iconst (v := (1 : Int32)) hx hb dZQ_turned_92 (by decide) ?_
            refine lv_goto (tgt := 97) hx hb dZQ_turned_93 (by decide) ?_
            exact j97 (1 : Int32) hw ls (lv_sub hl [0, 1, 2, 3, 4, 5, 6, 7] rfl)
      refine lv_if_eq (tgt := 65) hx hb dZQ_turned_52 (by decide) (fun c_12 => ?_) (fun c_12 => ?_)
      · have hw := hw.1 c_12
        refine lv_aload_n hx hb dZQ_turned_65 rfl (lv_at hl 3 rfl) ?_
        refine va_get (D := (dC, dI)) (ci := 5) (v := .ref op) (C := RZQ) (T := TZQ) (N := 7) hx hb hts inZQ hown hK hP 0 rfl rfl 0 (by decide) (hts _ mm_136) (fun _ h9 => h9) rfl dZQ_turned_66 ?_
        refine va_get (D := (dC, dI)) (ci := 1) (v := .int ph) (C := RZP) (T := TZP) (N := 3) hx hb hts inZP hown hK hP 1 rfl rfl 1 (by decide) (hts _ mm_44) (fun _ h9 => h9) rfl dZQ_turned_69 ?_
        exact j72 ph hw ls (lv_sub hl [0, 1, 2, 3, 4, 5, 6] rfl)
      · have hw := hw.2 c_12
        refine lv_aload_n hx hb dZQ_turned_55 rfl (lv_at hl 3 rfl) ?_
        refine va_get (D := (dC, dI)) (ci := 5) (v := .ref op) (C := RZQ) (T := TZQ) (N := 7) hx hb hts inZQ hown hK hP 0 rfl rfl 0 (by decide) (hts _ mm_136) (fun _ h9 => h9) rfl dZQ_turned_56 ?_
        refine va_get (D := (dC, dI)) (ci := 1) (v := .int pw) (C := RZP) (T := TZP) (N := 3) hx hb hts inZP hown hK hP 1 rfl rfl 0 (by decide) (hts _ mm_40) (fun _ h9 => h9) rfl dZQ_turned_59 ?_
        refine lv_goto (tgt := 72) hx hb dZQ_turned_62 (by decide) ?_
        exact j72 pw hw ls (lv_sub hl [0, 1, 2, 3, 4, 5, 6] rfl)
    refine lv_if_eq (tgt := 41) hx hb dZQ_turned_28 (by decide) (fun c_13 => ?_) (fun c_13 => ?_)
    · have hw := hw.1 c_13
      refine lv_aload_n hx hb dZQ_turned_41 rfl (lv_at hl 2 rfl) ?_
      refine va_get (D := (dC, dI)) (ci := 5) (v := .ref op) (C := RZQ) (T := TZQ) (N := 7) hx hb hts inZQ hown hK hP 0 rfl rfl 0 (by decide) (hts _ mm_136) (fun _ h9 => h9) rfl dZQ_turned_42 ?_
      refine va_get (D := (dC, dI)) (ci := 1) (v := .int pw) (C := RZP) (T := TZP) (N := 3) hx hb hts inZP hown hK hP 1 rfl rfl 0 (by decide) (hts _ mm_40) (fun _ h9 => h9) rfl dZQ_turned_45 ?_
      exact j48 pw hw ls (lv_sub hl [0, 1, 2, 3, 4, 5] rfl)
    · have hw := hw.2 c_13
      refine lv_aload_n hx hb dZQ_turned_31 rfl (lv_at hl 2 rfl) ?_
      refine va_get (D := (dC, dI)) (ci := 5) (v := .ref op) (C := RZQ) (T := TZQ) (N := 7) hx hb hts inZQ hown hK hP 0 rfl rfl 0 (by decide) (hts _ mm_136) (fun _ h9 => h9) rfl dZQ_turned_32 ?_
      refine va_get (D := (dC, dI)) (ci := 1) (v := .int ph) (C := RZP) (T := TZP) (N := 3) hx hb hts inZP hown hK hP 1 rfl rfl 1 (by decide) (hts _ mm_44) (fun _ h9 => h9) rfl dZQ_turned_35 ?_
      refine lv_goto (tgt := 48) hx hb dZQ_turned_38 (by decide) ?_
      exact j48 ph hw ls (lv_sub hl [0, 1, 2, 3, 4, 5] rfl)
  refine lv_icmp_eq (tgt := 19) hx hb dZQ_turned_10 (by decide) (fun c_14 => ?_) (fun c_14 => ?_)
  · have hw := hw.1 c_14
    refine lv_iconst (v := (1 : Int32)) hx hb dZQ_turned_19 (by decide) ?_
    refine lv_goto (tgt := 24) hx hb dZQ_turned_20 (by decide) ?_
    exact j24 (1 : Int32) hw ls (lv_sub hl [0, 1, 2, 3, 4] rfl)
  · have hw := hw.2 c_14
    refine lv_iload hx hb dZQ_turned_13 (lv_at hl 0 rfl) ?_
    refine lv_iconst (v := (3 : Int32)) hx hb dZQ_turned_15 (by decide) ?_
    refine lv_icmp_ne (tgt := 23) hx hb dZQ_turned_16 (by decide) (fun c_15 => ?_) (fun c_15 => ?_)
    · have hw := hw.2 c_15
      refine lv_iconst (v := (0 : Int32)) hx hb dZQ_turned_23 (by decide) ?_
      exact j24 (0 : Int32) hw ls (lv_sub hl [0, 1, 2, 3, 4] rfl)
    · have hw := hw.1 c_15
      refine lv_iconst (v := (1 : Int32)) hx hb dZQ_turned_19 (by decide) ?_
      refine lv_goto (tgt := 24) hx hb dZQ_turned_20 (by decide) ?_
      exact j24 (1 : Int32) hw ls (lv_sub hl [0, 1, 2, 3, 4] rfl)
theorem dZQ_pack_0 : decode cZQ_pack 0 = .ok (.aload_n 0, 1) := by decide +kernel
theorem dZQ_pack_1 : decode cZQ_pack 1 = .ok (.getfield 35, 3) := by decide +kernel
theorem dZQ_pack_4 : decode cZQ_pack 4 = .ok (.iload_n 1, 1) := by decide +kernel
theorem dZQ_pack_5 : decode cZQ_pack 5 = .ok (.iload_n 2, 1) := by decide +kernel
theorem dZQ_pack_6 : decode cZQ_pack 6 = .ok (.iload_n 3, 1) := by decide +kernel
theorem dZQ_pack_7 : decode cZQ_pack 7 = .ok (.invokevirtual 137, 3) := by decide +kernel
theorem dZQ_pack_10 : decode cZQ_pack 10 = .ok (.invokestatic 73, 3) := by decide +kernel
theorem dZQ_pack_13 : decode cZQ_pack 13 = .ok (.aload_n 0, 1) := by decide +kernel
theorem dZQ_pack_14 : decode cZQ_pack 14 = .ok (.getfield 35, 3) := by decide +kernel
theorem dZQ_pack_17 : decode cZQ_pack 17 = .ok (.iload_n 1, 1) := by decide +kernel
theorem dZQ_pack_18 : decode cZQ_pack 18 = .ok (.iload_n 2, 1) := by decide +kernel
theorem dZQ_pack_19 : decode cZQ_pack 19 = .ok (.iload_n 3, 1) := by decide +kernel
theorem dZQ_pack_20 : decode cZQ_pack 20 = .ok (.aload_n 0, 1) := by decide +kernel
theorem dZQ_pack_21 : decode cZQ_pack 21 = .ok (.getfield 62, 3) := by decide +kernel
theorem dZQ_pack_24 : decode cZQ_pack 24 = .ok (.invokevirtual 140, 3) := by decide +kernel
theorem dZQ_pack_27 : decode cZQ_pack 27 = .ok (.aload_n 0, 1) := by decide +kernel
theorem dZQ_pack_28 : decode cZQ_pack 28 = .ok (.getfield 62, 3) := by decide +kernel
theorem dZQ_pack_31 : decode cZQ_pack 31 = .ok (.aload_n 0, 1) := by decide +kernel
theorem dZQ_pack_32 : decode cZQ_pack 32 = .ok (.getfield 42, 3) := by decide +kernel
theorem dZQ_pack_35 : decode cZQ_pack 35 = .ok (.invokestatic 144, 3) := by decide +kernel
theorem dZQ_pack_38 : decode cZQ_pack 38 = .ok (.aload_n 0, 1) := by decide +kernel
theorem dZQ_pack_39 : decode cZQ_pack 39 = .ok (.getfield 42, 3) := by decide +kernel
theorem dZQ_pack_42 : decode cZQ_pack 42 = .ok (.getfield 150, 3) := by decide +kernel
theorem dZQ_pack_45 : decode cZQ_pack 45 = .ok (.ireturn, 1) := by decide +kernel
abbrev wsZQ_pack : List Cond := .code yZQ_pack cZQ_pack 4 (some .int) :: tbg
def wp_ZQ_pack (pw : Int32) (ph : Int32) (pn : Nat) (pf : Nat → Int32) (gw : Int32) (gh : Int32) (gn : Nat) (gf : Nat → Int32) (yk : Int32) (bl : Int32) (bf : Nat → Int32) (kn : Nat) (kf : Nat → Int32) (sn : Nat) (sf : Nat → Int32) (sd : Int32) (tw : Int32) (th : Int32) (tf : Nat → Int32) (uw : Int32) (uh : Int32) (uf : Nat → Int32) (a1 : Int32) (a2 : Int32) (a3 : Int32) (post : Int32 → Int32 → (Nat → Int32) → Int32 → Int32 → (Nat → Int32) → Prop) : Prop := wp_ZY_hasTile yk pw ph pn pf a1 a2 a3 (fun r_1 : Int32 => wp_ZQ_requirePlace r_1 (wp_ZY_cutTile yk pw ph pn pf uw uh uf a1 a2 a3 (fun (tw_3 : Int32) (th_4 : Int32) (tf_5 : Nat → Int32) => wp_ZK_packTile tw_3 th_4 tf_5 bl bf (fun (bl_6 : Int32) (bf_7 : Nat → Int32) => post bl_6 bl_6 bf_7 tw_3 th_4 tf_5))))
abbrev rm_ZQ_pack : Room := { frames := 6, cells := 0, slots := 0, locals := 138 }
set_option maxHeartbeats 4000000 in
set_option maxRecDepth 100000 in
theorem kt_ZQ_pack (l : Launch) (dC : Nat → ClassId) (dI : Nat → Nat → Nat) (cI : ClassId) (o0 op opa og oga oy ob oba os osa osb ot ota ou oua : Nat) (sz : Nat) (pw : Int32) (ph : Int32) (pn : Nat) (pf : Nat → Int32) (gw : Int32) (gh : Int32) (gn : Nat) (gf : Nat → Int32) (yk : Int32) (bl : Int32) (bf : Nat → Int32) (kn : Nat) (kf : Nat → Int32) (sn : Nat) (sf : Nat → Int32) (sd : Int32) (tw : Int32) (th : Int32) (tf : Nat → Int32) (uw : Int32) (uh : Int32) (uf : Nat → Int32) (a1 : Int32) (a2 : Int32) (a3 : Int32) (post : Int32 → Int32 → (Nat → Int32) → Int32 → Int32 → (Nat → Int32) → Prop) (hw : wp_ZQ_pack pw ph pn pf gw gh gn gf yk bl bf kn kf sn sf sd tw th tf uw uh uf a1 a2 a3 post) : Met l yZQ_pack wsZQ_pack rm_ZQ_pack (gw_Pc dC dI [(cI, .int)] [.ref o0, .int a1, .int a2, .int a3] [(o0, .inr (5, [.ref op, .ref og, .ref oy, .ref ob, .ref os, .ref ot, .ref ou])), (op, .inr (1, [.int pw, .int ph, .ref opa])), (opa, .inl (cI, pn, .inl pf)), (og, .inr (1, [.int gw, .int gh, .ref oga])), (oga, .inl (cI, gn, .inl gf)), (oy, .inr (2, [.ref op, .int yk])), (ob, .inr (0, [.ref oba, .int bl])), (oba, .inl (cI, 256, .inl bf)), (os, .inr (3, [.ref op, .ref og, .ref osa, .ref osb, .int sd])), (osa, .inl (cI, kn, .inl kf)), (osb, .inl (cI, sn, .inl sf)), (ot, .inr (4, [.ref ota, .int tw, .int th])), (ota, .inl (cI, 64, .inl tf)), (ou, .inr (4, [.ref oua, .int uw, .int uh])), (oua, .inl (cI, 64, .inl uf))] sz) (va_Qi (fun (r : Int32) (u : Int32 × (Nat → Int32) × Int32 × Int32 × (Nat → Int32)) => post r u.1 u.2.1 u.2.2.1 u.2.2.2.1 u.2.2.2.2) (fun u t => gw_B dC dI [(cI, .int)] (va_A [(o0, .inr (5, [.ref op, .ref og, .ref oy, .ref ob, .ref os, .ref ot, .ref ou])), (op, .inr (1, [.int pw, .int ph, .ref opa])), (opa, .inl (cI, pn, .inl pf)), (og, .inr (1, [.int gw, .int gh, .ref oga])), (oga, .inl (cI, gn, .inl gf)), (oy, .inr (2, [.ref op, .int yk])), (ob, .inr (0, [.ref oba, .int bl])), (oba, .inl (cI, 256, .inl bf)), (os, .inr (3, [.ref op, .ref og, .ref osa, .ref osb, .int sd])), (osa, .inl (cI, kn, .inl kf)), (osb, .inl (cI, sn, .inl sf)), (ot, .inr (4, [.ref ota, .int tw, .int th])), (ota, .inl (cI, 64, .inl tf)), (ou, .inr (4, [.ref oua, .int uw, .int uh])), (oua, .inl (cI, 64, .inl uf))] sz) [(o0, .inr (5, [.ref op, .ref og, .ref oy, .ref ob, .ref os, .ref ot, .ref ou])), (op, .inr (1, [.int pw, .int ph, .ref opa])), (opa, .inl (cI, pn, .inl pf)), (og, .inr (1, [.int gw, .int gh, .ref oga])), (oga, .inl (cI, gn, .inl gf)), (oy, .inr (2, [.ref op, .int yk])), (ob, .inr (0, [.ref oba, .int u.1])), (oba, .inl (cI, 256, .inl u.2.1)), (os, .inr (3, [.ref op, .ref og, .ref osa, .ref osb, .int sd])), (osa, .inl (cI, kn, .inl kf)), (osb, .inl (cI, sn, .inl sf)), (ot, .inr (4, [.ref ota, .int tw, .int th])), (ota, .inl (cI, 64, .inl tf)), (ou, .inr (4, [.ref oua, .int u.2.2.1, .int u.2.2.2.1])), (oua, .inl (cI, 64, .inl u.2.2.2.2))] t) (va_A [(o0, .inr (5, [.ref op, .ref og, .ref oy, .ref ob, .ref os, .ref ot, .ref ou])), (op, .inr (1, [.int pw, .int ph, .ref opa])), (opa, .inl (cI, pn, .inl pf)), (og, .inr (1, [.int gw, .int gh, .ref oga])), (oga, .inl (cI, gn, .inl gf)), (oy, .inr (2, [.ref op, .int yk])), (ob, .inr (0, [.ref oba, .int bl])), (oba, .inl (cI, 256, .inl bf)), (os, .inr (3, [.ref op, .ref og, .ref osa, .ref osb, .int sd])), (osa, .inl (cI, kn, .inl kf)), (osb, .inl (cI, sn, .inl sf)), (ot, .inr (4, [.ref ota, .int tw, .int th])), (ota, .inl (cI, 64, .inl tf)), (ou, .inr (4, [.ref oua, .int uw, .int uh])), (oua, .inl (cI, 64, .inl uf))] sz)) 0 0 (va_A [(o0, .inr (5, [.ref op, .ref og, .ref oy, .ref ob, .ref os, .ref ot, .ref ou])), (op, .inr (1, [.int pw, .int ph, .ref opa])), (opa, .inl (cI, pn, .inl pf)), (og, .inr (1, [.int gw, .int gh, .ref oga])), (oga, .inl (cI, gn, .inl gf)), (oy, .inr (2, [.ref op, .int yk])), (ob, .inr (0, [.ref oba, .int bl])), (oba, .inl (cI, 256, .inl bf)), (os, .inr (3, [.ref op, .ref og, .ref osa, .ref osb, .int sd])), (osa, .inl (cI, kn, .inl kf)), (osb, .inl (cI, sn, .inl sf)), (ot, .inr (4, [.ref ota, .int tw, .int th])), (ota, .inl (cI, 64, .inl tf)), (ou, .inr (4, [.ref oua, .int uw, .int uh])), (oua, .inl (cI, 64, .inl uf))] sz) := by
  refine Met.ofW (cc := cZQ_pack) (maxL := 4) (ret := (some .int)) (by decide) rfl ?_
  intro p e s m args below meth c s₁ B hml hv
  obtain ⟨ha9, hsz, hP, hK, hE, hD0⟩ := hv
  have hx := B.exec
  have hb := B.bytes
  have hr := B.returns
  have hts0 := atoms_spec (ws := wsZQ_pack) B.pre
  have hts : ∀ w ∈ tbg, w.before args s = true := fun w h => hts0 w (List.mem_cons_of_mem _ h)
  have hown : s.vm.findClass RZQ = some m.cls := findClass_of_methodNamed B.named
  have hlocks := B.notSynchronized
  subst hsz
  have hD := hD0.self (sz := s.heap.size)
  refine gx_Q (fun Q9 hQ9 => ?_)
  generalize hAe : va_A [(o0, .inr (5, [.ref op, .ref og, .ref oy, .ref ob, .ref os, .ref ot, .ref ou])), (op, .inr (1, [.int pw, .int ph, .ref opa])), (opa, .inl (cI, pn, .inl pf)), (og, .inr (1, [.int gw, .int gh, .ref oga])), (oga, .inl (cI, gn, .inl gf)), (oy, .inr (2, [.ref op, .int yk])), (ob, .inr (0, [.ref oba, .int bl])), (oba, .inl (cI, 256, .inl bf)), (os, .inr (3, [.ref op, .ref og, .ref osa, .ref osb, .int sd])), (osa, .inl (cI, kn, .inl kf)), (osb, .inl (cI, sn, .inl sf)), (ot, .inr (4, [.ref ota, .int tw, .int th])), (ota, .inl (cI, 64, .inl tf)), (ou, .inr (4, [.ref oua, .int uw, .int uh])), (oua, .inl (cI, 64, .inl uf))] s.heap.size = A at hD hQ9 ⊢
  have hA : ∀ q : Nat, s.heap.size ≤ q → A q := fun q h => by rw [← hAe]; exact Or.inr h
  have hS : va_S A s.heap s.heap [] := va_S.rf
  have hl := lv_entry ([.ref o0, .int a1, .int a2, .int a3]) (n := 4) (Nat.le_of_ble_eq_true rfl)
  have he9 : entryFrame m args 4 = F0 m 0 ((lg_sl [.ref o0, .int a1, .int a2, .int a3] ++ List.replicate (4 - (lg_sl ([.ref o0, .int a1, .int a2, .int a3] : List Value)).length) Slot.unset).toArray) [] := by rw [ha9]; exact lg_entry_eq m [.ref o0, .int a1, .int a2, .int a3] 4
  rw [he9]
  generalize (lg_sl ([.ref o0, .int a1, .int a2, .int a3] : List Value) ++ List.replicate (4 - (lg_sl ([.ref o0, .int a1, .int a2, .int a3] : List Value)).length) Slot.unset).toArray = ls at hl ⊢
  have hl : lv_has ls 4 [(0, .ref o0), (1, .int a1), (2, .int a2), (3, .int a3)] := hl
  refine lv_aload_n hx hb dZQ_pack_0 rfl (lv_at hl 0 rfl) ?_
  refine va_get (D := (dC, dI)) (ci := 5) (v := .ref oy) (C := RZQ) (T := TZQ) (N := 7) hx hb hts inZQ hown hK hP 0 rfl rfl 2 (by decide) (hts _ mm_138) (fun _ h9 => h9) rfl dZQ_pack_1 ?_
  refine lv_iload_n hx hb dZQ_pack_4 rfl (lv_at hl 1 rfl) ?_
  refine lv_iload_n hx hb dZQ_pack_5 rfl (lv_at hl 2 rfl) ?_
  refine lv_iload_n hx hb dZQ_pack_6 rfl (lv_at hl 3 rfl) ?_
  have hPc := hP.sub (ws' := [(oy, .inr (2, [.ref op, .int yk])), (op, .inr (1, [.int pw, .int ph, .ref opa])), (opa, .inl (cI, pn, .inl pf))]) [5, 1, 2] rfl
  refine vp_callSi (va_runV (As := [.int a1, .int a2, .int a3]) (rest := []) ⟨hx, hb, hml, hown, hts⟩ (kt_ZY_hasTile l dC dI cI oy op opa yk pw ph pn pf a1 a2 a3 _ hw) (cwV 3 hts (tb_V mm_456 mm_457 mm_458 mm_4 mm_459) rfl rfl rfl (by decide +kernel) ⟨Nat.le_of_ble_eq_true rfl, Nat.le_of_ble_eq_true rfl⟩) ⟨gr_blind, va_recv hK hPc (ci := 2) (q0 := 0) rfl rfl, fun U hU hW => gr_pre hPc hK hE hU hW⟩ rfl rfl hl.1 rfl (lv_room (Nat.le_of_ble_eq_true rfl)) dZQ_pack_7 ⟨Nat.le_of_ble_eq_true rfl, Nat.le_of_ble_eq_true rfl⟩).run (fun r_1 hw => ?_)
  have hPc := hP.sub (ws' := []) [] rfl
  refine va_csv (va_runS (As := [.int r_1]) (rest := []) ⟨hx, hb, hml, hown, hts⟩ (kt_ZQ_requirePlace l dC dI cI  r_1 _ hw) (va_cwS 1 hts (tb_S mm_239 mm_240 mm_1 mm_241) rfl rfl rfl (by decide +kernel) ⟨Nat.le_of_ble_eq_true rfl, Nat.le_of_ble_eq_true rfl⟩) ⟨gr_blind, fun U hU hW => gr_pre hPc hK hE hU hW⟩ rfl rfl hl.1 rfl (lv_room (Nat.le_of_ble_eq_true rfl)) dZQ_pack_10 ⟨Nat.le_of_ble_eq_true rfl, Nat.le_of_ble_eq_true rfl⟩).run (fun hw => ?_)
  refine lv_aload_n hx hb dZQ_pack_13 rfl (lv_at hl 0 rfl) ?_
  refine va_get (D := (dC, dI)) (ci := 5) (v := .ref oy) (C := RZQ) (T := TZQ) (N := 7) hx hb hts inZQ hown hK hP 0 rfl rfl 2 (by decide) (hts _ mm_138) (fun _ h9 => h9) rfl dZQ_pack_14 ?_
  refine lv_iload_n hx hb dZQ_pack_17 rfl (lv_at hl 1 rfl) ?_
  refine lv_iload_n hx hb dZQ_pack_18 rfl (lv_at hl 2 rfl) ?_
  refine lv_iload_n hx hb dZQ_pack_19 rfl (lv_at hl 3 rfl) ?_
  refine lv_aload_n hx hb dZQ_pack_20 rfl (lv_at hl 0 rfl) ?_
  refine va_get (D := (dC, dI)) (ci := 5) (v := .ref ou) (C := RZQ) (T := TZQ) (N := 7) hx hb hts inZQ hown hK hP 0 rfl rfl 6 (by decide) (hts _ mm_142) (fun _ h9 => h9) rfl dZQ_pack_21 ?_
  have hPc := hP.sub (ws' := [(oy, .inr (2, [.ref op, .int yk])), (op, .inr (1, [.int pw, .int ph, .ref opa])), (opa, .inl (cI, pn, .inl pf)), (ou, .inr (4, [.ref oua, .int uw, .int uh])), (oua, .inl (cI, 64, .inl uf))]) [5, 1, 2, 13, 14] rfl
  have hDc := hD.sub (ws' := [(oy, .inr (2, [.ref op, .int yk])), (op, .inr (1, [.int pw, .int ph, .ref opa])), (opa, .inl (cI, pn, .inl pf)), (ou, .inr (4, [.ref oua, .int uw, .int uh])), (oua, .inl (cI, 64, .inl uf))]) [5, 1, 2, 13, 14] (by decide) rfl
  have hFc := va_free (wc := [(oy, .inr (2, [.ref op, .int yk])), (op, .inr (1, [.int pw, .int ph, .ref opa])), (opa, .inl (cI, pn, .inl pf)), (ou, .inr (4, [.ref oua, .int uw, .int uh])), (oua, .inl (cI, 64, .inl uf))]) hD hS hA [5, 1, 2, 13, 14] rfl
  refine va_callv (va_runV (As := [.int a1, .int a2, .int a3, .ref ou]) (rest := []) ⟨hx, hb, hml, hown, hts⟩ (kt_ZY_cutTile l dC dI cI oy op opa ou oua _ yk pw ph pn pf uw uh uf a1 a2 a3 _ hw) (cwV 4 hts (tb_V mm_463 mm_464 mm_465 mm_4 mm_466) rfl rfl rfl (by decide +kernel) ⟨Nat.le_of_ble_eq_true rfl, Nat.le_of_ble_eq_true rfl⟩) ⟨gw_blind, va_recv hK hPc (ci := 2) (q0 := 0) rfl rfl, fun U hU hW => gw_pre hPc hDc hK hE hU hW⟩ rfl rfl hl.1 rfl (lv_room (Nat.le_of_ble_eq_true rfl)) dZQ_pack_24 ⟨Nat.le_of_ble_eq_true rfl, Nat.le_of_ble_eq_true rfl⟩) hS (fun q _ h => hFc q h) hFc (fun u t H1 locs ht hvm hw hB hz1 hk1 hS => ?_)
  obtain ⟨tw_3, th_4, tf_5⟩ := u
  obtain ⟨hP1, hK1, hD1⟩ := hB
  rw [ht] at hP1
  try dsimp only at hw
  obtain ⟨hP, hD⟩ := va_join (wr := [(o0, .inr (5, [.ref op, .ref og, .ref oy, .ref ob, .ref os, .ref ot, .ref ou])), (og, .inr (1, [.int gw, .int gh, .ref oga])), (oga, .inl (cI, gn, .inl gf)), (ob, .inr (0, [.ref oba, .int bl])), (oba, .inl (cI, 256, .inl bf)), (os, .inr (3, [.ref op, .ref og, .ref osa, .ref osb, .int sd])), (osa, .inl (cI, kn, .inl kf)), (osb, .inl (cI, sn, .inl sf)), (ot, .inr (4, [.ref ota, .int tw, .int th])), (ota, .inl (cI, 64, .inl tf))]) (w1 := [(oy, .inr (2, [.ref op, .int yk])), (op, .inr (1, [.int pw, .int ph, .ref opa])), (opa, .inl (cI, pn, .inl pf)), (ou, .inr (4, [.ref oua, .int tw_3, .int th_4])), (oua, .inl (cI, 64, .inl tf_5))]) hP hD [5, 1, 2, 13, 14] [0, 3, 4, 6, 7, 8, 9, 10, 11, 12] rfl rfl (by decide) (by decide) hk1 hFc hP1 hD1
  generalize H1 = H at hP hS ⊢
  have hP : va_P (dC, dI) vwCl [(o0, .inr (5, [.ref op, .ref og, .ref oy, .ref ob, .ref os, .ref ot, .ref ou])), (og, .inr (1, [.int gw, .int gh, .ref oga])), (oga, .inl (cI, gn, .inl gf)), (ob, .inr (0, [.ref oba, .int bl])), (oba, .inl (cI, 256, .inl bf)), (os, .inr (3, [.ref op, .ref og, .ref osa, .ref osb, .int sd])), (osa, .inl (cI, kn, .inl kf)), (osb, .inl (cI, sn, .inl sf)), (ot, .inr (4, [.ref ota, .int tw, .int th])), (ota, .inl (cI, 64, .inl tf)), (oy, .inr (2, [.ref op, .int yk])), (op, .inr (1, [.int pw, .int ph, .ref opa])), (opa, .inl (cI, pn, .inl pf)), (ou, .inr (4, [.ref oua, .int tw_3, .int th_4])), (oua, .inl (cI, 64, .inl tf_5))] H := hP
  have hD : va_D A [(o0, .inr (5, [.ref op, .ref og, .ref oy, .ref ob, .ref os, .ref ot, .ref ou])), (og, .inr (1, [.int gw, .int gh, .ref oga])), (oga, .inl (cI, gn, .inl gf)), (ob, .inr (0, [.ref oba, .int bl])), (oba, .inl (cI, 256, .inl bf)), (os, .inr (3, [.ref op, .ref og, .ref osa, .ref osb, .int sd])), (osa, .inl (cI, kn, .inl kf)), (osb, .inl (cI, sn, .inl sf)), (ot, .inr (4, [.ref ota, .int tw, .int th])), (ota, .inl (cI, 64, .inl tf)), (oy, .inr (2, [.ref op, .int yk])), (op, .inr (1, [.int pw, .int ph, .ref opa])), (opa, .inl (cI, pn, .inl pf)), (ou, .inr (4, [.ref oua, .int tw_3, .int th_4])), (oua, .inl (cI, 64, .inl tf_5))] := hD
  refine lv_aload_n hx hb dZQ_pack_27 rfl (lv_at hl 0 rfl) ?_
  refine va_get (D := (dC, dI)) (ci := 5) (v := .ref ou) (C := RZQ) (T := TZQ) (N := 7) hx hb hts inZQ hown hK hP 0 rfl rfl 6 (by decide) (hts _ mm_142) (fun _ h9 => h9) rfl dZQ_pack_28 ?_
  refine lv_aload_n hx hb dZQ_pack_31 rfl (lv_at hl 0 rfl) ?_
  refine va_get (D := (dC, dI)) (ci := 5) (v := .ref ob) (C := RZQ) (T := TZQ) (N := 7) hx hb hts inZQ hown hK hP 0 rfl rfl 3 (by decide) (hts _ mm_139) (fun _ h9 => h9) rfl dZQ_pack_32 ?_
  have hPc := hP.sub (ws' := [(ou, .inr (4, [.ref oua, .int tw_3, .int th_4])), (oua, .inl (cI, 64, .inl tf_5)), (ob, .inr (0, [.ref oba, .int bl])), (oba, .inl (cI, 256, .inl bf))]) [13, 14, 3, 4] rfl
  have hDc := hD.sub (ws' := [(ou, .inr (4, [.ref oua, .int tw_3, .int th_4])), (oua, .inl (cI, 64, .inl tf_5)), (ob, .inr (0, [.ref oba, .int bl])), (oba, .inl (cI, 256, .inl bf))]) [13, 14, 3, 4] (by decide) rfl
  have hFc := va_free (wc := [(ou, .inr (4, [.ref oua, .int tw_3, .int th_4])), (oua, .inl (cI, 64, .inl tf_5)), (ob, .inr (0, [.ref oba, .int bl])), (oba, .inl (cI, 256, .inl bf))]) hD hS hA [13, 14, 3, 4] rfl
  refine va_callv (va_runS (As := [.ref ou, .ref ob]) (rest := []) ⟨hx, hb, hml, hown, hts⟩ (kt_ZK_packTile l dC dI cI ou oua ob oba _ tw_3 th_4 tf_5 bl bf _ hw) (va_cwS 2 hts (tb_S mm_478 mm_479 mm_14 mm_480) rfl rfl rfl (by decide +kernel) ⟨Nat.le_of_ble_eq_true rfl, Nat.le_of_ble_eq_true rfl⟩) ⟨gw_blind, fun U hU hW => gw_pre hPc hDc hK hE hU hW⟩ rfl rfl hl.1 rfl (lv_room (Nat.le_of_ble_eq_true rfl)) dZQ_pack_35 ⟨Nat.le_of_ble_eq_true rfl, Nat.le_of_ble_eq_true rfl⟩) hS (fun q _ h => hFc q h) hFc (fun u t H1 locs ht hvm hw hB hz1 hk1 hS => ?_)
  obtain ⟨bl_6, bf_7⟩ := u
  obtain ⟨hP1, hK1, hD1⟩ := hB
  rw [ht] at hP1
  try dsimp only at hw
  obtain ⟨hP, hD⟩ := va_join (wr := [(o0, .inr (5, [.ref op, .ref og, .ref oy, .ref ob, .ref os, .ref ot, .ref ou])), (og, .inr (1, [.int gw, .int gh, .ref oga])), (oga, .inl (cI, gn, .inl gf)), (os, .inr (3, [.ref op, .ref og, .ref osa, .ref osb, .int sd])), (osa, .inl (cI, kn, .inl kf)), (osb, .inl (cI, sn, .inl sf)), (ot, .inr (4, [.ref ota, .int tw, .int th])), (ota, .inl (cI, 64, .inl tf)), (oy, .inr (2, [.ref op, .int yk])), (op, .inr (1, [.int pw, .int ph, .ref opa])), (opa, .inl (cI, pn, .inl pf))]) (w1 := [(ou, .inr (4, [.ref oua, .int tw_3, .int th_4])), (oua, .inl (cI, 64, .inl tf_5)), (ob, .inr (0, [.ref oba, .int bl_6])), (oba, .inl (cI, 256, .inl bf_7))]) hP hD [13, 14, 3, 4] [0, 1, 2, 5, 6, 7, 8, 9, 10, 11, 12] rfl rfl (by decide) (by decide) hk1 hFc hP1 hD1
  generalize H1 = H at hP hS ⊢
  have hP : va_P (dC, dI) vwCl [(o0, .inr (5, [.ref op, .ref og, .ref oy, .ref ob, .ref os, .ref ot, .ref ou])), (og, .inr (1, [.int gw, .int gh, .ref oga])), (oga, .inl (cI, gn, .inl gf)), (os, .inr (3, [.ref op, .ref og, .ref osa, .ref osb, .int sd])), (osa, .inl (cI, kn, .inl kf)), (osb, .inl (cI, sn, .inl sf)), (ot, .inr (4, [.ref ota, .int tw, .int th])), (ota, .inl (cI, 64, .inl tf)), (oy, .inr (2, [.ref op, .int yk])), (op, .inr (1, [.int pw, .int ph, .ref opa])), (opa, .inl (cI, pn, .inl pf)), (ou, .inr (4, [.ref oua, .int tw_3, .int th_4])), (oua, .inl (cI, 64, .inl tf_5)), (ob, .inr (0, [.ref oba, .int bl_6])), (oba, .inl (cI, 256, .inl bf_7))] H := hP
  have hD : va_D A [(o0, .inr (5, [.ref op, .ref og, .ref oy, .ref ob, .ref os, .ref ot, .ref ou])), (og, .inr (1, [.int gw, .int gh, .ref oga])), (oga, .inl (cI, gn, .inl gf)), (os, .inr (3, [.ref op, .ref og, .ref osa, .ref osb, .int sd])), (osa, .inl (cI, kn, .inl kf)), (osb, .inl (cI, sn, .inl sf)), (ot, .inr (4, [.ref ota, .int tw, .int th])), (ota, .inl (cI, 64, .inl tf)), (oy, .inr (2, [.ref op, .int yk])), (op, .inr (1, [.int pw, .int ph, .ref opa])), (opa, .inl (cI, pn, .inl pf)), (ou, .inr (4, [.ref oua, .int tw_3, .int th_4])), (oua, .inl (cI, 64, .inl tf_5)), (ob, .inr (0, [.ref oba, .int bl_6])), (oba, .inl (cI, 256, .inl bf_7))] := hD
  refine lv_aload_n hx hb dZQ_pack_38 rfl (lv_at hl 0 rfl) ?_
  refine va_get (D := (dC, dI)) (ci := 5) (v := .ref ob) (C := RZQ) (T := TZQ) (N := 7) hx hb hts inZQ hown hK hP 0 rfl rfl 3 (by decide) (hts _ mm_139) (fun _ h9 => h9) rfl dZQ_pack_39 ?_
  refine va_get (D := (dC, dI)) (ci := 0) (v := .int bl_6) (C := RZB) (T := TZB) (N := 2) hx hb hts inZB hown hK hP 13 rfl rfl 1 (by decide) (hts _ mm_81) (fun _ h9 => h9) rfl dZQ_pack_42 ?_
  have hP9 := hP.sub (ws' := [(o0, .inr (5, [.ref op, .ref og, .ref oy, .ref ob, .ref os, .ref ot, .ref ou])), (op, .inr (1, [.int pw, .int ph, .ref opa])), (opa, .inl (cI, pn, .inl pf)), (og, .inr (1, [.int gw, .int gh, .ref oga])), (oga, .inl (cI, gn, .inl gf)), (oy, .inr (2, [.ref op, .int yk])), (ob, .inr (0, [.ref oba, .int bl_6])), (oba, .inl (cI, 256, .inl bf_7)), (os, .inr (3, [.ref op, .ref og, .ref osa, .ref osb, .int sd])), (osa, .inl (cI, kn, .inl kf)), (osb, .inl (cI, sn, .inl sf)), (ot, .inr (4, [.ref ota, .int tw, .int th])), (ota, .inl (cI, 64, .inl tf)), (ou, .inr (4, [.ref oua, .int tw_3, .int th_4])), (oua, .inl (cI, 64, .inl tf_5))]) [0, 9, 10, 1, 2, 8, 13, 14, 3, 4, 5, 6, 7, 11, 12] rfl
  have hD9 := hD.sub (ws' := [(o0, .inr (5, [.ref op, .ref og, .ref oy, .ref ob, .ref os, .ref ot, .ref ou])), (op, .inr (1, [.int pw, .int ph, .ref opa])), (opa, .inl (cI, pn, .inl pf)), (og, .inr (1, [.int gw, .int gh, .ref oga])), (oga, .inl (cI, gn, .inl gf)), (oy, .inr (2, [.ref op, .int yk])), (ob, .inr (0, [.ref oba, .int bl_6])), (oba, .inl (cI, 256, .inl bf_7)), (os, .inr (3, [.ref op, .ref og, .ref osa, .ref osb, .int sd])), (osa, .inl (cI, kn, .inl kf)), (osb, .inl (cI, sn, .inl sf)), (ot, .inr (4, [.ref ota, .int tw, .int th])), (ota, .inl (cI, 64, .inl tf)), (ou, .inr (4, [.ref oua, .int tw_3, .int th_4])), (oua, .inl (cI, 64, .inl tf_5))]) [0, 9, 10, 1, 2, 8, 13, 14, 3, 4, 5, 6, 7, 11, 12] (by decide) rfl
  subst hQ9
  exact W.iret (v := bl_6) hx hb hr (fun t ht hW => ⟨⟨bl_6, (bl_6, bf_7, tw_3, th_4, tf_5), rfl, hw, by rw [ht]; exact hP9, va_K.moved hW.alike hK, hD9⟩, hS.F ht⟩) hS.2.2 dZQ_pack_45
def xp_ZQ_pack_I (pw : Int32) (ph : Int32) (pn : Nat) (pf : Nat → Int32) (gw : Int32) (gh : Int32) (gn : Nat) (gf : Nat → Int32) (yk : Int32) (bl : Int32) (bf : Nat → Int32) (kn : Nat) (kf : Nat → Int32) (sn : Nat) (sf : Nat → Int32) (sd : Int32) (tw : Int32) (th : Int32) (tf : Nat → Int32) (uw : Int32) (uh : Int32) (uf : Nat → Int32) (a1 : Int32) (a2 : Int32) (a3 : Int32) : Prop := wp_ZY_hasTile yk pw ph pn pf a1 a2 a3 (fun r_1 : Int32 => (xp_ZQ_requirePlace_I r_1) ∨ (wp_ZQ_requirePlace r_1 (False)))
abbrev rm_ZQ_pack_I : Room := { frames := 7, cells := 1, slots := 6, locals := 122 }
set_option maxHeartbeats 4000000 in
set_option maxRecDepth 100000 in
theorem kx_ZQ_pack_I (l : Launch) (hl9 : l.stackTraces = false) (dC : Nat → ClassId) (dI : Nat → Nat → Nat) (cI : ClassId) (o0 op opa og oga oy ob oba os osa osb ot ota ou oua : Nat) (H0 : Heap) (pw : Int32) (ph : Int32) (pn : Nat) (pf : Nat → Int32) (gw : Int32) (gh : Int32) (gn : Nat) (gf : Nat → Int32) (yk : Int32) (bl : Int32) (bf : Nat → Int32) (kn : Nat) (kf : Nat → Int32) (sn : Nat) (sf : Nat → Int32) (sd : Int32) (tw : Int32) (th : Int32) (tf : Nat → Int32) (uw : Int32) (uh : Int32) (uf : Nat → Int32) (a1 : Int32) (a2 : Int32) (a3 : Int32) (hw : xp_ZQ_pack_I pw ph pn pf gw gh gn gf yk bl bf kn kf sn sf sd tw th tf uw uh uf a1 a2 a3) : tx_Met l yZQ_pack wsZQ_pack rm_ZQ_pack_I (tr_Pc H0 dC dI [(cI, .int)] [.ref o0, .int a1, .int a2, .int a3] [(o0, .inr (5, [.ref op, .ref og, .ref oy, .ref ob, .ref os, .ref ot, .ref ou])), (op, .inr (1, [.int pw, .int ph, .ref opa])), (opa, .inl (cI, pn, .inl pf)), (og, .inr (1, [.int gw, .int gh, .ref oga])), (oga, .inl (cI, gn, .inl gf)), (oy, .inr (2, [.ref op, .int yk])), (ob, .inr (0, [.ref oba, .int bl])), (oba, .inl (cI, 256, .inl bf)), (os, .inr (3, [.ref op, .ref og, .ref osa, .ref osb, .int sd])), (osa, .inl (cI, kn, .inl kf)), (osb, .inl (cI, sn, .inl sf)), (ot, .inr (4, [.ref ota, .int tw, .int th])), (ota, .inl (cI, 64, .inl tf)), (ou, .inr (4, [.ref oua, .int uw, .int uh])), (oua, .inl (cI, 64, .inl uf))]) "java/lang/IndexOutOfBoundsException" := by
  refine tx_ofW (cc := cZQ_pack) (maxL := 4) (ret := (some .int)) (by decide) rfl ?_
  intro p e s m args below meth c s₁ B hml hnX hv
  obtain ⟨ha9, hP, hK, hE, hT⟩ := hv
  have hx := B.exec
  have hb := B.bytes
  have hr := B.returns
  have hts0 := atoms_spec (ws := wsZQ_pack) B.pre
  have hts : ∀ w ∈ tbg, w.before args s = true := fun w h => hts0 w (List.mem_cons_of_mem _ h)
  have hown : s.vm.findClass RZQ = some m.cls := findClass_of_methodNamed B.named
  have hlocks := B.notSynchronized
  refine gx_Q (fun Q9 hQ9 => ?_)
  have hl := lv_entry ([.ref o0, .int a1, .int a2, .int a3]) (n := 4) (Nat.le_of_ble_eq_true rfl)
  have he9 : entryFrame m args 4 = F0 m 0 ((lg_sl [.ref o0, .int a1, .int a2, .int a3] ++ List.replicate (4 - (lg_sl ([.ref o0, .int a1, .int a2, .int a3] : List Value)).length) Slot.unset).toArray) [] := by rw [ha9]; exact lg_entry_eq m [.ref o0, .int a1, .int a2, .int a3] 4
  rw [he9]
  generalize (lg_sl ([.ref o0, .int a1, .int a2, .int a3] : List Value) ++ List.replicate (4 - (lg_sl ([.ref o0, .int a1, .int a2, .int a3] : List Value)).length) Slot.unset).toArray = ls at hl ⊢
  have hl : lv_has ls 4 [(0, .ref o0), (1, .int a1), (2, .int a2), (3, .int a3)] := hl
  refine lv_aload_n hx hb dZQ_pack_0 rfl (lv_at hl 0 rfl) ?_
  refine va_get (D := (dC, dI)) (ci := 5) (v := .ref oy) (C := RZQ) (T := TZQ) (N := 7) hx hb hts inZQ hown hK hP 0 rfl rfl 2 (by decide) (hts _ mm_138) (fun _ h9 => h9) rfl dZQ_pack_1 ?_
  refine lv_iload_n hx hb dZQ_pack_4 rfl (lv_at hl 1 rfl) ?_
  refine lv_iload_n hx hb dZQ_pack_5 rfl (lv_at hl 2 rfl) ?_
  refine lv_iload_n hx hb dZQ_pack_6 rfl (lv_at hl 3 rfl) ?_
  have hPc := hP.sub (ws' := [(oy, .inr (2, [.ref op, .int yk])), (op, .inr (1, [.int pw, .int ph, .ref opa])), (opa, .inl (cI, pn, .inl pf))]) [5, 1, 2] rfl
  refine vp_callSi (va_runV (As := [.int a1, .int a2, .int a3]) (rest := []) ⟨hx, hb, hml, hown, hts⟩ (kt_ZY_hasTile l dC dI cI oy op opa yk pw ph pn pf a1 a2 a3 _ hw) (cwV 3 hts (tb_V mm_456 mm_457 mm_458 mm_4 mm_459) rfl rfl rfl (by decide +kernel) ⟨Nat.le_of_ble_eq_true rfl, Nat.le_of_ble_eq_true rfl⟩) ⟨gr_blind, va_recv hK hPc (ci := 2) (q0 := 0) rfl rfl, fun U hU hW => gr_pre hPc hK hE hU hW⟩ rfl rfl hl.1 rfl (lv_room (Nat.le_of_ble_eq_true rfl)) dZQ_pack_7 ⟨Nat.le_of_ble_eq_true rfl, Nat.le_of_ble_eq_true rfl⟩).run (fun r_1 hw => ?_)
  rcases hw with hw | hw
  · subst hQ9
    have hPx := hP.sub (ws' := []) [] rfl
    exact tx_callS (As := [.int r_1]) (rest := []) ⟨hx, hb, hml, hown, hts⟩ (kx_ZQ_requirePlace_I l hl9 dC dI cI  H0 r_1 hw) (va_cwS 1 hts (tb_S mm_239 mm_240 mm_1 mm_241) rfl rfl rfl (by decide +kernel) ⟨Nat.le_of_ble_eq_true rfl, Nat.le_of_ble_eq_true rfl⟩) ⟨tr_blind, fun U hU hW => tr_pre hPx hK hE hT hT.1 hU hW⟩ rfl hl.1 rfl (Nat.le_of_ble_eq_true rfl) dZQ_pack_10 hnX hlocks ⟨Nat.le_of_ble_eq_true rfl, Nat.le_of_ble_eq_true rfl⟩
  have hPc := hP.sub (ws' := []) [] rfl
  refine va_csv (va_runS (As := [.int r_1]) (rest := []) ⟨hx, hb, hml, hown, hts⟩ (kt_ZQ_requirePlace l dC dI cI  r_1 _ hw) (va_cwS 1 hts (tb_S mm_239 mm_240 mm_1 mm_241) rfl rfl rfl (by decide +kernel) ⟨Nat.le_of_ble_eq_true rfl, Nat.le_of_ble_eq_true rfl⟩) ⟨gr_blind, fun U hU hW => gr_pre hPc hK hE hU hW⟩ rfl rfl hl.1 rfl (lv_room (Nat.le_of_ble_eq_true rfl)) dZQ_pack_10 ⟨Nat.le_of_ble_eq_true rfl, Nat.le_of_ble_eq_true rfl⟩).run (fun hw => ?_)
  refine lv_aload_n hx hb dZQ_pack_13 rfl (lv_at hl 0 rfl) ?_
  refine va_get (D := (dC, dI)) (ci := 5) (v := .ref oy) (C := RZQ) (T := TZQ) (N := 7) hx hb hts inZQ hown hK hP 0 rfl rfl 2 (by decide) (hts _ mm_138) (fun _ h9 => h9) rfl dZQ_pack_14 ?_
  refine lv_iload_n hx hb dZQ_pack_17 rfl (lv_at hl 1 rfl) ?_
  refine lv_iload_n hx hb dZQ_pack_18 rfl (lv_at hl 2 rfl) ?_
  refine lv_iload_n hx hb dZQ_pack_19 rfl (lv_at hl 3 rfl) ?_
  refine lv_aload_n hx hb dZQ_pack_20 rfl (lv_at hl 0 rfl) ?_
  refine va_get (D := (dC, dI)) (ci := 5) (v := .ref ou) (C := RZQ) (T := TZQ) (N := 7) hx hb hts inZQ hown hK hP 0 rfl rfl 6 (by decide) (hts _ mm_142) (fun _ h9 => h9) rfl dZQ_pack_21 ?_
  exact False.elim hw
theorem dZQ_load_0 : decode cZQ_load 0 = .ok (.aload_n 0, 1) := by decide +kernel
theorem dZQ_load_1 : decode cZQ_load 1 = .ok (.getfield 42, 3) := by decide +kernel
theorem dZQ_load_4 : decode cZQ_load 4 = .ok (.invokevirtual 153, 3) := by decide +kernel
theorem dZQ_load_7 : decode cZQ_load 7 = .ok (.ifCond .eq 13, 3) := by decide +kernel
theorem dZQ_load_10 : decode cZQ_load 10 = .ok (.new 157, 3) := by decide +kernel
theorem dZQ_load_13 : decode cZQ_load 13 = .ok (.dup, 1) := by decide +kernel
theorem dZQ_load_14 : decode cZQ_load 14 = .ok (.ldc 159, 2) := by decide +kernel
theorem dZQ_load_16 : decode cZQ_load 16 = .ok (.invokespecial 161, 3) := by decide +kernel
theorem dZQ_load_19 : decode cZQ_load 19 = .ok (.athrow, 1) := by decide +kernel
theorem dZQ_load_20 : decode cZQ_load 20 = .ok (.iload_n 1, 1) := by decide +kernel
theorem dZQ_load_21 : decode cZQ_load 21 = .ok (.ifCond .lt 10, 3) := by decide +kernel
theorem dZQ_load_24 : decode cZQ_load 24 = .ok (.iload_n 1, 1) := by decide +kernel
theorem dZQ_load_25 : decode cZQ_load 25 = .ok (.sipush 255, 3) := by decide +kernel
theorem dZQ_load_28 : decode cZQ_load 28 = .ok (.if_icmp .le 13, 3) := by decide +kernel
theorem dZQ_load_31 : decode cZQ_load 31 = .ok (.new 164, 3) := by decide +kernel
theorem dZQ_load_34 : decode cZQ_load 34 = .ok (.dup, 1) := by decide +kernel
theorem dZQ_load_35 : decode cZQ_load 35 = .ok (.ldc 166, 2) := by decide +kernel
theorem dZQ_load_37 : decode cZQ_load 37 = .ok (.invokespecial 168, 3) := by decide +kernel
theorem dZQ_load_40 : decode cZQ_load 40 = .ok (.athrow, 1) := by decide +kernel
theorem dZQ_load_41 : decode cZQ_load 41 = .ok (.aload_n 0, 1) := by decide +kernel
theorem dZQ_load_42 : decode cZQ_load 42 = .ok (.getfield 42, 3) := by decide +kernel
theorem dZQ_load_45 : decode cZQ_load 45 = .ok (.iload_n 1, 1) := by decide +kernel
theorem dZQ_load_46 : decode cZQ_load 46 = .ok (.invokevirtual 169, 3) := by decide +kernel
theorem dZQ_load_49 : decode cZQ_load 49 = .ok (.aload_n 0, 1) := by decide +kernel
theorem dZQ_load_50 : decode cZQ_load 50 = .ok (.getfield 42, 3) := by decide +kernel
theorem dZQ_load_53 : decode cZQ_load 53 = .ok (.getfield 150, 3) := by decide +kernel
theorem dZQ_load_56 : decode cZQ_load 56 = .ok (.ireturn, 1) := by decide +kernel
abbrev wsZQ_load : List Cond := .code yZQ_load cZQ_load 2 (some .int) :: tbg
def wp_ZQ_load (pw : Int32) (ph : Int32) (pn : Nat) (pf : Nat → Int32) (gw : Int32) (gh : Int32) (gn : Nat) (gf : Nat → Int32) (yk : Int32) (bl : Int32) (bf : Nat → Int32) (kn : Nat) (kf : Nat → Int32) (sn : Nat) (sf : Nat → Int32) (sd : Int32) (tw : Int32) (th : Int32) (tf : Nat → Int32) (uw : Int32) (uh : Int32) (uf : Nat → Int32) (a1 : Int32) (post : Int32 → Int32 → (Nat → Int32) → Prop) : Prop := wp_ZB_isFull bl bf (fun r_1 : Int32 => ((r_1 = (0 : Int32) → ((a1 < (0 : Int32) → False) ∧ (¬ a1 < (0 : Int32) → ((a1 ≤ (255 : Int32) → (wp_ZB_append bl bf a1 (fun (bl_5 : Int32) (bf_6 : Nat → Int32) => post bl_5 bl_5 bf_6))) ∧ (¬ a1 ≤ (255 : Int32) → False))))) ∧ (¬ r_1 = (0 : Int32) → False)))
abbrev rm_ZQ_load : Room := { frames := 2, cells := 0, slots := 0, locals := 41 }
set_option maxHeartbeats 4000000 in
set_option maxRecDepth 100000 in
theorem kt_ZQ_load (l : Launch) (dC : Nat → ClassId) (dI : Nat → Nat → Nat) (cI : ClassId) (o0 op opa og oga oy ob oba os osa osb ot ota ou oua : Nat) (sz : Nat) (pw : Int32) (ph : Int32) (pn : Nat) (pf : Nat → Int32) (gw : Int32) (gh : Int32) (gn : Nat) (gf : Nat → Int32) (yk : Int32) (bl : Int32) (bf : Nat → Int32) (kn : Nat) (kf : Nat → Int32) (sn : Nat) (sf : Nat → Int32) (sd : Int32) (tw : Int32) (th : Int32) (tf : Nat → Int32) (uw : Int32) (uh : Int32) (uf : Nat → Int32) (a1 : Int32) (post : Int32 → Int32 → (Nat → Int32) → Prop) (hw : wp_ZQ_load pw ph pn pf gw gh gn gf yk bl bf kn kf sn sf sd tw th tf uw uh uf a1 post) : Met l yZQ_load wsZQ_load rm_ZQ_load (gw_Pc dC dI [(cI, .int)] [.ref o0, .int a1] [(o0, .inr (5, [.ref op, .ref og, .ref oy, .ref ob, .ref os, .ref ot, .ref ou])), (op, .inr (1, [.int pw, .int ph, .ref opa])), (opa, .inl (cI, pn, .inl pf)), (og, .inr (1, [.int gw, .int gh, .ref oga])), (oga, .inl (cI, gn, .inl gf)), (oy, .inr (2, [.ref op, .int yk])), (ob, .inr (0, [.ref oba, .int bl])), (oba, .inl (cI, 256, .inl bf)), (os, .inr (3, [.ref op, .ref og, .ref osa, .ref osb, .int sd])), (osa, .inl (cI, kn, .inl kf)), (osb, .inl (cI, sn, .inl sf)), (ot, .inr (4, [.ref ota, .int tw, .int th])), (ota, .inl (cI, 64, .inl tf)), (ou, .inr (4, [.ref oua, .int uw, .int uh])), (oua, .inl (cI, 64, .inl uf))] sz) (va_Qi (fun (r : Int32) (u : Int32 × (Nat → Int32)) => post r u.1 u.2) (fun u t => gw_B dC dI [(cI, .int)] (va_A [(o0, .inr (5, [.ref op, .ref og, .ref oy, .ref ob, .ref os, .ref ot, .ref ou])), (op, .inr (1, [.int pw, .int ph, .ref opa])), (opa, .inl (cI, pn, .inl pf)), (og, .inr (1, [.int gw, .int gh, .ref oga])), (oga, .inl (cI, gn, .inl gf)), (oy, .inr (2, [.ref op, .int yk])), (ob, .inr (0, [.ref oba, .int bl])), (oba, .inl (cI, 256, .inl bf)), (os, .inr (3, [.ref op, .ref og, .ref osa, .ref osb, .int sd])), (osa, .inl (cI, kn, .inl kf)), (osb, .inl (cI, sn, .inl sf)), (ot, .inr (4, [.ref ota, .int tw, .int th])), (ota, .inl (cI, 64, .inl tf)), (ou, .inr (4, [.ref oua, .int uw, .int uh])), (oua, .inl (cI, 64, .inl uf))] sz) [(o0, .inr (5, [.ref op, .ref og, .ref oy, .ref ob, .ref os, .ref ot, .ref ou])), (op, .inr (1, [.int pw, .int ph, .ref opa])), (opa, .inl (cI, pn, .inl pf)), (og, .inr (1, [.int gw, .int gh, .ref oga])), (oga, .inl (cI, gn, .inl gf)), (oy, .inr (2, [.ref op, .int yk])), (ob, .inr (0, [.ref oba, .int u.1])), (oba, .inl (cI, 256, .inl u.2)), (os, .inr (3, [.ref op, .ref og, .ref osa, .ref osb, .int sd])), (osa, .inl (cI, kn, .inl kf)), (osb, .inl (cI, sn, .inl sf)), (ot, .inr (4, [.ref ota, .int tw, .int th])), (ota, .inl (cI, 64, .inl tf)), (ou, .inr (4, [.ref oua, .int uw, .int uh])), (oua, .inl (cI, 64, .inl uf))] t) (va_A [(o0, .inr (5, [.ref op, .ref og, .ref oy, .ref ob, .ref os, .ref ot, .ref ou])), (op, .inr (1, [.int pw, .int ph, .ref opa])), (opa, .inl (cI, pn, .inl pf)), (og, .inr (1, [.int gw, .int gh, .ref oga])), (oga, .inl (cI, gn, .inl gf)), (oy, .inr (2, [.ref op, .int yk])), (ob, .inr (0, [.ref oba, .int bl])), (oba, .inl (cI, 256, .inl bf)), (os, .inr (3, [.ref op, .ref og, .ref osa, .ref osb, .int sd])), (osa, .inl (cI, kn, .inl kf)), (osb, .inl (cI, sn, .inl sf)), (ot, .inr (4, [.ref ota, .int tw, .int th])), (ota, .inl (cI, 64, .inl tf)), (ou, .inr (4, [.ref oua, .int uw, .int uh])), (oua, .inl (cI, 64, .inl uf))] sz)) 0 0 (va_A [(o0, .inr (5, [.ref op, .ref og, .ref oy, .ref ob, .ref os, .ref ot, .ref ou])), (op, .inr (1, [.int pw, .int ph, .ref opa])), (opa, .inl (cI, pn, .inl pf)), (og, .inr (1, [.int gw, .int gh, .ref oga])), (oga, .inl (cI, gn, .inl gf)), (oy, .inr (2, [.ref op, .int yk])), (ob, .inr (0, [.ref oba, .int bl])), (oba, .inl (cI, 256, .inl bf)), (os, .inr (3, [.ref op, .ref og, .ref osa, .ref osb, .int sd])), (osa, .inl (cI, kn, .inl kf)), (osb, .inl (cI, sn, .inl sf)), (ot, .inr (4, [.ref ota, .int tw, .int th])), (ota, .inl (cI, 64, .inl tf)), (ou, .inr (4, [.ref oua, .int uw, .int uh])), (oua, .inl (cI, 64, .inl uf))] sz) := by
  refine Met.ofW (cc := cZQ_load) (maxL := 2) (ret := (some .int)) (by decide) rfl ?_
  intro p e s m args below meth c s₁ B hml hv
  obtain ⟨ha9, hsz, hP, hK, hE, hD0⟩ := hv
  have hx := B.exec
  have hb := B.bytes
  have hr := B.returns
  have hts0 := atoms_spec (ws := wsZQ_load) B.pre
  have hts : ∀ w ∈ tbg, w.before args s = true := fun w h => hts0 w (List.mem_cons_of_mem _ h)
  have hown : s.vm.findClass RZQ = some m.cls := findClass_of_methodNamed B.named
  have hlocks := B.notSynchronized
  subst hsz
  have hD := hD0.self (sz := s.heap.size)
  refine gx_Q (fun Q9 hQ9 => ?_)
  generalize hAe : va_A [(o0, .inr (5, [.ref op, .ref og, .ref oy, .ref ob, .ref os, .ref ot, .ref ou])), (op, .inr (1, [.int pw, .int ph, .ref opa])), (opa, .inl (cI, pn, .inl pf)), (og, .inr (1, [.int gw, .int gh, .ref oga])), (oga, .inl (cI, gn, .inl gf)), (oy, .inr (2, [.ref op, .int yk])), (ob, .inr (0, [.ref oba, .int bl])), (oba, .inl (cI, 256, .inl bf)), (os, .inr (3, [.ref op, .ref og, .ref osa, .ref osb, .int sd])), (osa, .inl (cI, kn, .inl kf)), (osb, .inl (cI, sn, .inl sf)), (ot, .inr (4, [.ref ota, .int tw, .int th])), (ota, .inl (cI, 64, .inl tf)), (ou, .inr (4, [.ref oua, .int uw, .int uh])), (oua, .inl (cI, 64, .inl uf))] s.heap.size = A at hD hQ9 ⊢
  have hA : ∀ q : Nat, s.heap.size ≤ q → A q := fun q h => by rw [← hAe]; exact Or.inr h
  have hS : va_S A s.heap s.heap [] := va_S.rf
  have hl := lv_entry ([.ref o0, .int a1]) (n := 2) (Nat.le_of_ble_eq_true rfl)
  have he9 : entryFrame m args 2 = F0 m 0 ((lg_sl [.ref o0, .int a1] ++ List.replicate (2 - (lg_sl ([.ref o0, .int a1] : List Value)).length) Slot.unset).toArray) [] := by rw [ha9]; exact lg_entry_eq m [.ref o0, .int a1] 2
  rw [he9]
  generalize (lg_sl ([.ref o0, .int a1] : List Value) ++ List.replicate (2 - (lg_sl ([.ref o0, .int a1] : List Value)).length) Slot.unset).toArray = ls at hl ⊢
  have hl : lv_has ls 2 [(0, .ref o0), (1, .int a1)] := hl
  refine lv_aload_n hx hb dZQ_load_0 rfl (lv_at hl 0 rfl) ?_
  refine va_get (D := (dC, dI)) (ci := 5) (v := .ref ob) (C := RZQ) (T := TZQ) (N := 7) hx hb hts inZQ hown hK hP 0 rfl rfl 3 (by decide) (hts _ mm_139) (fun _ h9 => h9) rfl dZQ_load_1 ?_
  have hPc := hP.sub (ws' := [(ob, .inr (0, [.ref oba, .int bl])), (oba, .inl (cI, 256, .inl bf))]) [6, 7] rfl
  refine vp_callSi (va_runV (As := []) (rest := []) ⟨hx, hb, hml, hown, hts⟩ (kt_ZB_isFull l dC dI cI ob oba bl bf _ hw) (cwV 0 hts (tb_V mm_511 mm_486 mm_487 mm_5 mm_488) rfl rfl rfl (by decide +kernel) ⟨Nat.le_of_ble_eq_true rfl, Nat.le_of_ble_eq_true rfl⟩) ⟨gr_blind, va_recv hK hPc (ci := 0) (q0 := 0) rfl rfl, fun U hU hW => gr_pre hPc hK hE hU hW⟩ rfl rfl hl.1 rfl (lv_room (Nat.le_of_ble_eq_true rfl)) dZQ_load_4 ⟨Nat.le_of_ble_eq_true rfl, Nat.le_of_ble_eq_true rfl⟩).run (fun r_1 hw => ?_)
  refine lv_if_eq (tgt := 20) hx hb dZQ_load_7 (by decide) (fun c_2 => ?_) (fun c_2 => ?_)
  · have hw := hw.1 c_2
    refine lv_iload_n hx hb dZQ_load_20 rfl (lv_at hl 1 rfl) ?_
    refine lv_if_lt (tgt := 31) hx hb dZQ_load_21 (by decide) (fun c_3 => ?_) (fun c_3 => ?_)
    · have hw := hw.1 c_3
      exact False.elim hw
    · have hw := hw.2 c_3
      refine lv_iload_n hx hb dZQ_load_24 rfl (lv_at hl 1 rfl) ?_
      refine lv_sipush (v := (255 : Int32)) hx hb dZQ_load_25 (by decide) ?_
      refine lv_icmp_le (tgt := 41) hx hb dZQ_load_28 (by decide) (fun c_4 => ?_) (fun c_4 => ?_)
      · have hw := hw.1 c_4
        refine lv_aload_n hx hb dZQ_load_41 rfl (lv_at hl 0 rfl) ?_
        refine va_get (D := (dC, dI)) (ci := 5) (v := .ref ob) (C := RZQ) (T := TZQ) (N := 7) hx hb hts inZQ hown hK hP 0 rfl rfl 3 (by decide) (hts _ mm_139) (fun _ h9 => h9) rfl dZQ_load_42 ?_
        refine lv_iload_n hx hb dZQ_load_45 rfl (lv_at hl 1 rfl) ?_
        have hPc := hP.sub (ws' := [(ob, .inr (0, [.ref oba, .int bl])), (oba, .inl (cI, 256, .inl bf))]) [6, 7] rfl
        have hDc := hD.sub (ws' := [(ob, .inr (0, [.ref oba, .int bl])), (oba, .inl (cI, 256, .inl bf))]) [6, 7] (by decide) rfl
        have hFc := va_free (wc := [(ob, .inr (0, [.ref oba, .int bl])), (oba, .inl (cI, 256, .inl bf))]) hD hS hA [6, 7] rfl
        refine va_callv (va_runV (As := [.int a1]) (rest := []) ⟨hx, hb, hml, hown, hts⟩ (kt_ZB_append l dC dI cI ob oba _ bl bf a1 _ hw) (cwV 1 hts (tb_V mm_529 mm_482 mm_483 mm_5 mm_484) rfl rfl rfl (by decide +kernel) ⟨Nat.le_of_ble_eq_true rfl, Nat.le_of_ble_eq_true rfl⟩) ⟨gw_blind, va_recv hK hPc (ci := 0) (q0 := 0) rfl rfl, fun U hU hW => gw_pre hPc hDc hK hE hU hW⟩ rfl rfl hl.1 rfl (lv_room (Nat.le_of_ble_eq_true rfl)) dZQ_load_46 ⟨Nat.le_of_ble_eq_true rfl, Nat.le_of_ble_eq_true rfl⟩) hS (fun q _ h => hFc q h) hFc (fun u t H1 locs ht hvm hw hB hz1 hk1 hS => ?_)
        obtain ⟨bl_5, bf_6⟩ := u
        obtain ⟨hP1, hK1, hD1⟩ := hB
        rw [ht] at hP1
        try dsimp only at hw
        obtain ⟨hP, hD⟩ := va_join (wr := [(o0, .inr (5, [.ref op, .ref og, .ref oy, .ref ob, .ref os, .ref ot, .ref ou])), (op, .inr (1, [.int pw, .int ph, .ref opa])), (opa, .inl (cI, pn, .inl pf)), (og, .inr (1, [.int gw, .int gh, .ref oga])), (oga, .inl (cI, gn, .inl gf)), (oy, .inr (2, [.ref op, .int yk])), (os, .inr (3, [.ref op, .ref og, .ref osa, .ref osb, .int sd])), (osa, .inl (cI, kn, .inl kf)), (osb, .inl (cI, sn, .inl sf)), (ot, .inr (4, [.ref ota, .int tw, .int th])), (ota, .inl (cI, 64, .inl tf)), (ou, .inr (4, [.ref oua, .int uw, .int uh])), (oua, .inl (cI, 64, .inl uf))]) (w1 := [(ob, .inr (0, [.ref oba, .int bl_5])), (oba, .inl (cI, 256, .inl bf_6))]) hP hD [6, 7] [0, 1, 2, 3, 4, 5, 8, 9, 10, 11, 12, 13, 14] rfl rfl (by decide) (by decide) hk1 hFc hP1 hD1
        generalize H1 = H at hP hS ⊢
        have hP : va_P (dC, dI) vwCl [(o0, .inr (5, [.ref op, .ref og, .ref oy, .ref ob, .ref os, .ref ot, .ref ou])), (op, .inr (1, [.int pw, .int ph, .ref opa])), (opa, .inl (cI, pn, .inl pf)), (og, .inr (1, [.int gw, .int gh, .ref oga])), (oga, .inl (cI, gn, .inl gf)), (oy, .inr (2, [.ref op, .int yk])), (os, .inr (3, [.ref op, .ref og, .ref osa, .ref osb, .int sd])), (osa, .inl (cI, kn, .inl kf)), (osb, .inl (cI, sn, .inl sf)), (ot, .inr (4, [.ref ota, .int tw, .int th])), (ota, .inl (cI, 64, .inl tf)), (ou, .inr (4, [.ref oua, .int uw, .int uh])), (oua, .inl (cI, 64, .inl uf)), (ob, .inr (0, [.ref oba, .int bl_5])), (oba, .inl (cI, 256, .inl bf_6))] H := hP
        have hD : va_D A [(o0, .inr (5, [.ref op, .ref og, .ref oy, .ref ob, .ref os, .ref ot, .ref ou])), (op, .inr (1, [.int pw, .int ph, .ref opa])), (opa, .inl (cI, pn, .inl pf)), (og, .inr (1, [.int gw, .int gh, .ref oga])), (oga, .inl (cI, gn, .inl gf)), (oy, .inr (2, [.ref op, .int yk])), (os, .inr (3, [.ref op, .ref og, .ref osa, .ref osb, .int sd])), (osa, .inl (cI, kn, .inl kf)), (osb, .inl (cI, sn, .inl sf)), (ot, .inr (4, [.ref ota, .int tw, .int th])), (ota, .inl (cI, 64, .inl tf)), (ou, .inr (4, [.ref oua, .int uw, .int uh])), (oua, .inl (cI, 64, .inl uf)), (ob, .inr (0, [.ref oba, .int bl_5])), (oba, .inl (cI, 256, .inl bf_6))] := hD
        refine lv_aload_n hx hb dZQ_load_49 rfl (lv_at hl 0 rfl) ?_
        refine va_get (D := (dC, dI)) (ci := 5) (v := .ref ob) (C := RZQ) (T := TZQ) (N := 7) hx hb hts inZQ hown hK hP 0 rfl rfl 3 (by decide) (hts _ mm_139) (fun _ h9 => h9) rfl dZQ_load_50 ?_
        refine va_get (D := (dC, dI)) (ci := 0) (v := .int bl_5) (C := RZB) (T := TZB) (N := 2) hx hb hts inZB hown hK hP 13 rfl rfl 1 (by decide) (hts _ mm_81) (fun _ h9 => h9) rfl dZQ_load_53 ?_
        have hP9 := hP.sub (ws' := [(o0, .inr (5, [.ref op, .ref og, .ref oy, .ref ob, .ref os, .ref ot, .ref ou])), (op, .inr (1, [.int pw, .int ph, .ref opa])), (opa, .inl (cI, pn, .inl pf)), (og, .inr (1, [.int gw, .int gh, .ref oga])), (oga, .inl (cI, gn, .inl gf)), (oy, .inr (2, [.ref op, .int yk])), (ob, .inr (0, [.ref oba, .int bl_5])), (oba, .inl (cI, 256, .inl bf_6)), (os, .inr (3, [.ref op, .ref og, .ref osa, .ref osb, .int sd])), (osa, .inl (cI, kn, .inl kf)), (osb, .inl (cI, sn, .inl sf)), (ot, .inr (4, [.ref ota, .int tw, .int th])), (ota, .inl (cI, 64, .inl tf)), (ou, .inr (4, [.ref oua, .int uw, .int uh])), (oua, .inl (cI, 64, .inl uf))]) [0, 1, 2, 3, 4, 5, 13, 14, 6, 7, 8, 9, 10, 11, 12] rfl
        have hD9 := hD.sub (ws' := [(o0, .inr (5, [.ref op, .ref og, .ref oy, .ref ob, .ref os, .ref ot, .ref ou])), (op, .inr (1, [.int pw, .int ph, .ref opa])), (opa, .inl (cI, pn, .inl pf)), (og, .inr (1, [.int gw, .int gh, .ref oga])), (oga, .inl (cI, gn, .inl gf)), (oy, .inr (2, [.ref op, .int yk])), (ob, .inr (0, [.ref oba, .int bl_5])), (oba, .inl (cI, 256, .inl bf_6)), (os, .inr (3, [.ref op, .ref og, .ref osa, .ref osb, .int sd])), (osa, .inl (cI, kn, .inl kf)), (osb, .inl (cI, sn, .inl sf)), (ot, .inr (4, [.ref ota, .int tw, .int th])), (ota, .inl (cI, 64, .inl tf)), (ou, .inr (4, [.ref oua, .int uw, .int uh])), (oua, .inl (cI, 64, .inl uf))]) [0, 1, 2, 3, 4, 5, 13, 14, 6, 7, 8, 9, 10, 11, 12] (by decide) rfl
        subst hQ9
        exact W.iret (v := bl_5) hx hb hr (fun t ht hW => ⟨⟨bl_5, (bl_5, bf_6), rfl, hw, by rw [ht]; exact hP9, va_K.moved hW.alike hK, hD9⟩, hS.F ht⟩) hS.2.2 dZQ_load_56
      · have hw := hw.2 c_4
        exact False.elim hw
  · have hw := hw.2 c_2
    exact False.elim hw
def xp_ZQ_load_S (pw : Int32) (ph : Int32) (pn : Nat) (pf : Nat → Int32) (gw : Int32) (gh : Int32) (gn : Nat) (gf : Nat → Int32) (yk : Int32) (bl : Int32) (bf : Nat → Int32) (kn : Nat) (kf : Nat → Int32) (sn : Nat) (sf : Nat → Int32) (sd : Int32) (tw : Int32) (th : Int32) (tf : Nat → Int32) (uw : Int32) (uh : Int32) (uf : Nat → Int32) (a1 : Int32) : Prop := wp_ZB_isFull bl bf (fun r_1 : Int32 => ((r_1 = (0 : Int32) → ((a1 < (0 : Int32) → False) ∧ (¬ a1 < (0 : Int32) → ((a1 ≤ (255 : Int32) → False) ∧ (¬ a1 ≤ (255 : Int32) → False))))) ∧ (¬ r_1 = (0 : Int32) → True)))
abbrev rm_ZQ_load_S : Room := { frames := 6, cells := 1, slots := 6, locals := 91 }
set_option maxHeartbeats 4000000 in
set_option maxRecDepth 100000 in
theorem kx_ZQ_load_S (l : Launch) (hl9 : l.stackTraces = false) (dC : Nat → ClassId) (dI : Nat → Nat → Nat) (cI : ClassId) (o0 op opa og oga oy ob oba os osa osb ot ota ou oua : Nat) (H0 : Heap) (pw : Int32) (ph : Int32) (pn : Nat) (pf : Nat → Int32) (gw : Int32) (gh : Int32) (gn : Nat) (gf : Nat → Int32) (yk : Int32) (bl : Int32) (bf : Nat → Int32) (kn : Nat) (kf : Nat → Int32) (sn : Nat) (sf : Nat → Int32) (sd : Int32) (tw : Int32) (th : Int32) (tf : Nat → Int32) (uw : Int32) (uh : Int32) (uf : Nat → Int32) (a1 : Int32) (hw : xp_ZQ_load_S pw ph pn pf gw gh gn gf yk bl bf kn kf sn sf sd tw th tf uw uh uf a1) : tx_Met l yZQ_load wsZQ_load rm_ZQ_load_S (tr_Pc H0 dC dI [(cI, .int)] [.ref o0, .int a1] [(o0, .inr (5, [.ref op, .ref og, .ref oy, .ref ob, .ref os, .ref ot, .ref ou])), (op, .inr (1, [.int pw, .int ph, .ref opa])), (opa, .inl (cI, pn, .inl pf)), (og, .inr (1, [.int gw, .int gh, .ref oga])), (oga, .inl (cI, gn, .inl gf)), (oy, .inr (2, [.ref op, .int yk])), (ob, .inr (0, [.ref oba, .int bl])), (oba, .inl (cI, 256, .inl bf)), (os, .inr (3, [.ref op, .ref og, .ref osa, .ref osb, .int sd])), (osa, .inl (cI, kn, .inl kf)), (osb, .inl (cI, sn, .inl sf)), (ot, .inr (4, [.ref ota, .int tw, .int th])), (ota, .inl (cI, 64, .inl tf)), (ou, .inr (4, [.ref oua, .int uw, .int uh])), (oua, .inl (cI, 64, .inl uf))]) "java/lang/IllegalStateException" := by
  refine tx_ofW (cc := cZQ_load) (maxL := 2) (ret := (some .int)) (by decide) rfl ?_
  intro p e s m args below meth c s₁ B hml hnX hv
  obtain ⟨ha9, hP, hK, hE, hT⟩ := hv
  have hx := B.exec
  have hb := B.bytes
  have hr := B.returns
  have hts0 := atoms_spec (ws := wsZQ_load) B.pre
  have hts : ∀ w ∈ tbg, w.before args s = true := fun w h => hts0 w (List.mem_cons_of_mem _ h)
  have hown : s.vm.findClass RZQ = some m.cls := findClass_of_methodNamed B.named
  have hlocks := B.notSynchronized
  refine gx_Q (fun Q9 hQ9 => ?_)
  have hl := lv_entry ([.ref o0, .int a1]) (n := 2) (Nat.le_of_ble_eq_true rfl)
  have he9 : entryFrame m args 2 = F0 m 0 ((lg_sl [.ref o0, .int a1] ++ List.replicate (2 - (lg_sl ([.ref o0, .int a1] : List Value)).length) Slot.unset).toArray) [] := by rw [ha9]; exact lg_entry_eq m [.ref o0, .int a1] 2
  rw [he9]
  generalize (lg_sl ([.ref o0, .int a1] : List Value) ++ List.replicate (2 - (lg_sl ([.ref o0, .int a1] : List Value)).length) Slot.unset).toArray = ls at hl ⊢
  have hl : lv_has ls 2 [(0, .ref o0), (1, .int a1)] := hl
  refine lv_aload_n hx hb dZQ_load_0 rfl (lv_at hl 0 rfl) ?_
  refine va_get (D := (dC, dI)) (ci := 5) (v := .ref ob) (C := RZQ) (T := TZQ) (N := 7) hx hb hts inZQ hown hK hP 0 rfl rfl 3 (by decide) (hts _ mm_139) (fun _ h9 => h9) rfl dZQ_load_1 ?_
  have hPc := hP.sub (ws' := [(ob, .inr (0, [.ref oba, .int bl])), (oba, .inl (cI, 256, .inl bf))]) [6, 7] rfl
  refine vp_callSi (va_runV (As := []) (rest := []) ⟨hx, hb, hml, hown, hts⟩ (kt_ZB_isFull l dC dI cI ob oba bl bf _ hw) (cwV 0 hts (tb_V mm_511 mm_486 mm_487 mm_5 mm_488) rfl rfl rfl (by decide +kernel) ⟨Nat.le_of_ble_eq_true rfl, Nat.le_of_ble_eq_true rfl⟩) ⟨gr_blind, va_recv hK hPc (ci := 0) (q0 := 0) rfl rfl, fun U hU hW => gr_pre hPc hK hE hU hW⟩ rfl rfl hl.1 rfl (lv_room (Nat.le_of_ble_eq_true rfl)) dZQ_load_4 ⟨Nat.le_of_ble_eq_true rfl, Nat.le_of_ble_eq_true rfl⟩).run (fun r_1 hw => ?_)
  refine lv_if_eq (tgt := 20) hx hb dZQ_load_7 (by decide) (fun c_2 => ?_) (fun c_2 => ?_)
  · have hw := hw.1 c_2
    refine lv_iload_n hx hb dZQ_load_20 rfl (lv_at hl 1 rfl) ?_
    refine lv_if_lt (tgt := 31) hx hb dZQ_load_21 (by decide) (fun c_3 => ?_) (fun c_3 => ?_)
    · have hw := hw.1 c_3
      exact False.elim hw
    · have hw := hw.2 c_3
      refine lv_iload_n hx hb dZQ_load_24 rfl (lv_at hl 1 rfl) ?_
      refine lv_sipush (v := (255 : Int32)) hx hb dZQ_load_25 (by decide) ?_
      refine lv_icmp_le (tgt := 41) hx hb dZQ_load_28 (by decide) (fun c_4 => ?_) (fun c_4 => ?_)
      · have hw := hw.1 c_4
        refine lv_aload_n hx hb dZQ_load_41 rfl (lv_at hl 0 rfl) ?_
        refine va_get (D := (dC, dI)) (ci := 5) (v := .ref ob) (C := RZQ) (T := TZQ) (N := 7) hx hb hts inZQ hown hK hP 0 rfl rfl 3 (by decide) (hts _ mm_139) (fun _ h9 => h9) rfl dZQ_load_42 ?_
        refine lv_iload_n hx hb dZQ_load_45 rfl (lv_at hl 1 rfl) ?_
        exact False.elim hw
      · have hw := hw.2 c_4
        exact False.elim hw
  · have hw := hw.2 c_2
    obtain ⟨sa9, hst9⟩ := gxE_17 hE
    subst hQ9
    exact tx_throw (own := RZQ) (cls := "java/lang/IllegalStateException") (names := ["java/lang/RuntimeException", "java/lang/Exception"]) hx hb hl9 hown (by decide +kernel) (by decide +kernel) (hts _ mm_512) (hts _ mm_15) (hts _ mm_513) hst9 (ax_2 hts hE hT) (hl.1.trans hml.symm) dZQ_load_10 dZQ_load_13 dZQ_load_14 dZQ_load_16 dZQ_load_19 hnX (Nat.le_of_ble_eq_true rfl) (Nat.le_of_ble_eq_true rfl) (Nat.le_of_ble_eq_true rfl) (Nat.le_of_ble_eq_true rfl) hlocks
def xp_ZQ_load_A (pw : Int32) (ph : Int32) (pn : Nat) (pf : Nat → Int32) (gw : Int32) (gh : Int32) (gn : Nat) (gf : Nat → Int32) (yk : Int32) (bl : Int32) (bf : Nat → Int32) (kn : Nat) (kf : Nat → Int32) (sn : Nat) (sf : Nat → Int32) (sd : Int32) (tw : Int32) (th : Int32) (tf : Nat → Int32) (uw : Int32) (uh : Int32) (uf : Nat → Int32) (a1 : Int32) : Prop := wp_ZB_isFull bl bf (fun r_1 : Int32 => ((r_1 = (0 : Int32) → ((a1 < (0 : Int32) → True) ∧ (¬ a1 < (0 : Int32) → ((a1 ≤ (255 : Int32) → False) ∧ (¬ a1 ≤ (255 : Int32) → True))))) ∧ (¬ r_1 = (0 : Int32) → False)))
abbrev rm_ZQ_load_A : Room := { frames := 6, cells := 1, slots := 6, locals := 91 }
set_option maxHeartbeats 4000000 in
set_option maxRecDepth 100000 in
theorem kx_ZQ_load_A (l : Launch) (hl9 : l.stackTraces = false) (dC : Nat → ClassId) (dI : Nat → Nat → Nat) (cI : ClassId) (o0 op opa og oga oy ob oba os osa osb ot ota ou oua : Nat) (H0 : Heap) (pw : Int32) (ph : Int32) (pn : Nat) (pf : Nat → Int32) (gw : Int32) (gh : Int32) (gn : Nat) (gf : Nat → Int32) (yk : Int32) (bl : Int32) (bf : Nat → Int32) (kn : Nat) (kf : Nat → Int32) (sn : Nat) (sf : Nat → Int32) (sd : Int32) (tw : Int32) (th : Int32) (tf : Nat → Int32) (uw : Int32) (uh : Int32) (uf : Nat → Int32) (a1 : Int32) (hw : xp_ZQ_load_A pw ph pn pf gw gh gn gf yk bl bf kn kf sn sf sd tw th tf uw uh uf a1) : tx_Met l yZQ_load wsZQ_load rm_ZQ_load_A (tr_Pc H0 dC dI [(cI, .int)] [.ref o0, .int a1] [(o0, .inr (5, [.ref op, .ref og, .ref oy, .ref ob, .ref os, .ref ot, .ref ou])), (op, .inr (1, [.int pw, .int ph, .ref opa])), (opa, .inl (cI, pn, .inl pf)), (og, .inr (1, [.int gw, .int gh, .ref oga])), (oga, .inl (cI, gn, .inl gf)), (oy, .inr (2, [.ref op, .int yk])), (ob, .inr (0, [.ref oba, .int bl])), (oba, .inl (cI, 256, .inl bf)), (os, .inr (3, [.ref op, .ref og, .ref osa, .ref osb, .int sd])), (osa, .inl (cI, kn, .inl kf)), (osb, .inl (cI, sn, .inl sf)), (ot, .inr (4, [.ref ota, .int tw, .int th])), (ota, .inl (cI, 64, .inl tf)), (ou, .inr (4, [.ref oua, .int uw, .int uh])), (oua, .inl (cI, 64, .inl uf))]) "java/lang/IllegalArgumentException" := by
  refine tx_ofW (cc := cZQ_load) (maxL := 2) (ret := (some .int)) (by decide) rfl ?_
  intro p e s m args below meth c s₁ B hml hnX hv
  obtain ⟨ha9, hP, hK, hE, hT⟩ := hv
  have hx := B.exec
  have hb := B.bytes
  have hr := B.returns
  have hts0 := atoms_spec (ws := wsZQ_load) B.pre
  have hts : ∀ w ∈ tbg, w.before args s = true := fun w h => hts0 w (List.mem_cons_of_mem _ h)
  have hown : s.vm.findClass RZQ = some m.cls := findClass_of_methodNamed B.named
  have hlocks := B.notSynchronized
  refine gx_Q (fun Q9 hQ9 => ?_)
  have hl := lv_entry ([.ref o0, .int a1]) (n := 2) (Nat.le_of_ble_eq_true rfl)
  have he9 : entryFrame m args 2 = F0 m 0 ((lg_sl [.ref o0, .int a1] ++ List.replicate (2 - (lg_sl ([.ref o0, .int a1] : List Value)).length) Slot.unset).toArray) [] := by rw [ha9]; exact lg_entry_eq m [.ref o0, .int a1] 2
  rw [he9]
  generalize (lg_sl ([.ref o0, .int a1] : List Value) ++ List.replicate (2 - (lg_sl ([.ref o0, .int a1] : List Value)).length) Slot.unset).toArray = ls at hl ⊢
  have hl : lv_has ls 2 [(0, .ref o0), (1, .int a1)] := hl
  refine lv_aload_n hx hb dZQ_load_0 rfl (lv_at hl 0 rfl) ?_
  refine va_get (D := (dC, dI)) (ci := 5) (v := .ref ob) (C := RZQ) (T := TZQ) (N := 7) hx hb hts inZQ hown hK hP 0 rfl rfl 3 (by decide) (hts _ mm_139) (fun _ h9 => h9) rfl dZQ_load_1 ?_
  have hPc := hP.sub (ws' := [(ob, .inr (0, [.ref oba, .int bl])), (oba, .inl (cI, 256, .inl bf))]) [6, 7] rfl
  refine vp_callSi (va_runV (As := []) (rest := []) ⟨hx, hb, hml, hown, hts⟩ (kt_ZB_isFull l dC dI cI ob oba bl bf _ hw) (cwV 0 hts (tb_V mm_511 mm_486 mm_487 mm_5 mm_488) rfl rfl rfl (by decide +kernel) ⟨Nat.le_of_ble_eq_true rfl, Nat.le_of_ble_eq_true rfl⟩) ⟨gr_blind, va_recv hK hPc (ci := 0) (q0 := 0) rfl rfl, fun U hU hW => gr_pre hPc hK hE hU hW⟩ rfl rfl hl.1 rfl (lv_room (Nat.le_of_ble_eq_true rfl)) dZQ_load_4 ⟨Nat.le_of_ble_eq_true rfl, Nat.le_of_ble_eq_true rfl⟩).run (fun r_1 hw => ?_)
  refine lv_if_eq (tgt := 20) hx hb dZQ_load_7 (by decide) (fun c_2 => ?_) (fun c_2 => ?_)
  · have hw := hw.1 c_2
    refine lv_iload_n hx hb dZQ_load_20 rfl (lv_at hl 1 rfl) ?_
    refine lv_if_lt (tgt := 31) hx hb dZQ_load_21 (by decide) (fun c_3 => ?_) (fun c_3 => ?_)
    · have hw := hw.1 c_3
      obtain ⟨sa9, hst9⟩ := gxE_18 hE
      subst hQ9
      exact tx_throw (own := RZQ) (cls := "java/lang/IllegalArgumentException") (names := ["java/lang/RuntimeException", "java/lang/Exception"]) hx hb hl9 hown (by decide +kernel) (by decide +kernel) (hts _ mm_314) (hts _ mm_13) (hts _ mm_315) hst9 (ax_1 hts hE hT) (hl.1.trans hml.symm) dZQ_load_31 dZQ_load_34 dZQ_load_35 dZQ_load_37 dZQ_load_40 hnX (Nat.le_of_ble_eq_true rfl) (Nat.le_of_ble_eq_true rfl) (Nat.le_of_ble_eq_true rfl) (Nat.le_of_ble_eq_true rfl) hlocks
    · have hw := hw.2 c_3
      refine lv_iload_n hx hb dZQ_load_24 rfl (lv_at hl 1 rfl) ?_
      refine lv_sipush (v := (255 : Int32)) hx hb dZQ_load_25 (by decide) ?_
      refine lv_icmp_le (tgt := 41) hx hb dZQ_load_28 (by decide) (fun c_4 => ?_) (fun c_4 => ?_)
      · have hw := hw.1 c_4
        refine lv_aload_n hx hb dZQ_load_41 rfl (lv_at hl 0 rfl) ?_
        refine va_get (D := (dC, dI)) (ci := 5) (v := .ref ob) (C := RZQ) (T := TZQ) (N := 7) hx hb hts inZQ hown hK hP 0 rfl rfl 3 (by decide) (hts _ mm_139) (fun _ h9 => h9) rfl dZQ_load_42 ?_
        refine lv_iload_n hx hb dZQ_load_45 rfl (lv_at hl 1 rfl) ?_
        exact False.elim hw
      · have hw := hw.2 c_4
        obtain ⟨sa9, hst9⟩ := gxE_18 hE
        subst hQ9
        exact tx_throw (own := RZQ) (cls := "java/lang/IllegalArgumentException") (names := ["java/lang/RuntimeException", "java/lang/Exception"]) hx hb hl9 hown (by decide +kernel) (by decide +kernel) (hts _ mm_314) (hts _ mm_13) (hts _ mm_315) hst9 (ax_1 hts hE hT) (hl.1.trans hml.symm) dZQ_load_31 dZQ_load_34 dZQ_load_35 dZQ_load_37 dZQ_load_40 hnX (Nat.le_of_ble_eq_true rfl) (Nat.le_of_ble_eq_true rfl) (Nat.le_of_ble_eq_true rfl) (Nat.le_of_ble_eq_true rfl) hlocks
  · have hw := hw.2 c_2
    exact False.elim hw
theorem dZQ_clear_0 : decode cZQ_clear 0 = .ok (.aload_n 0, 1) := by decide +kernel
theorem dZQ_clear_1 : decode cZQ_clear 1 = .ok (.getfield 42, 3) := by decide +kernel
theorem dZQ_clear_4 : decode cZQ_clear 4 = .ok (.getfield 150, 3) := by decide +kernel
theorem dZQ_clear_7 : decode cZQ_clear 7 = .ok (.istore_n 1, 1) := by decide +kernel
theorem dZQ_clear_8 : decode cZQ_clear 8 = .ok (.aload_n 0, 1) := by decide +kernel
theorem dZQ_clear_9 : decode cZQ_clear 9 = .ok (.getfield 42, 3) := by decide +kernel
theorem dZQ_clear_12 : decode cZQ_clear 12 = .ok (.iconst 0, 1) := by decide +kernel
theorem dZQ_clear_13 : decode cZQ_clear 13 = .ok (.putfield 150, 3) := by decide +kernel
theorem dZQ_clear_16 : decode cZQ_clear 16 = .ok (.iload_n 1, 1) := by decide +kernel
theorem dZQ_clear_17 : decode cZQ_clear 17 = .ok (.ireturn, 1) := by decide +kernel
abbrev wsZQ_clear : List Cond := .code yZQ_clear cZQ_clear 2 (some .int) :: tbg
def wp_ZQ_clear (pw : Int32) (ph : Int32) (pn : Nat) (pf : Nat → Int32) (gw : Int32) (gh : Int32) (gn : Nat) (gf : Nat → Int32) (yk : Int32) (bl : Int32) (bf : Nat → Int32) (kn : Nat) (kf : Nat → Int32) (sn : Nat) (sf : Nat → Int32) (sd : Int32) (tw : Int32) (th : Int32) (tf : Nat → Int32) (uw : Int32) (uh : Int32) (uf : Nat → Int32) (post : Int32 → Int32 → Prop) : Prop := post bl (0 : Int32)
abbrev rm_ZQ_clear : Room := { frames := 0, cells := 0, slots := 0, locals := 0 }
set_option maxHeartbeats 4000000 in
set_option maxRecDepth 100000 in
theorem kt_ZQ_clear (l : Launch) (dC : Nat → ClassId) (dI : Nat → Nat → Nat) (cI : ClassId) (o0 op opa og oga oy ob oba os osa osb ot ota ou oua : Nat) (sz : Nat) (pw : Int32) (ph : Int32) (pn : Nat) (pf : Nat → Int32) (gw : Int32) (gh : Int32) (gn : Nat) (gf : Nat → Int32) (yk : Int32) (bl : Int32) (bf : Nat → Int32) (kn : Nat) (kf : Nat → Int32) (sn : Nat) (sf : Nat → Int32) (sd : Int32) (tw : Int32) (th : Int32) (tf : Nat → Int32) (uw : Int32) (uh : Int32) (uf : Nat → Int32) (post : Int32 → Int32 → Prop) (hw : wp_ZQ_clear pw ph pn pf gw gh gn gf yk bl bf kn kf sn sf sd tw th tf uw uh uf post) : Met l yZQ_clear wsZQ_clear rm_ZQ_clear (gw_Pc dC dI [(cI, .int)] [.ref o0] [(o0, .inr (5, [.ref op, .ref og, .ref oy, .ref ob, .ref os, .ref ot, .ref ou])), (op, .inr (1, [.int pw, .int ph, .ref opa])), (opa, .inl (cI, pn, .inl pf)), (og, .inr (1, [.int gw, .int gh, .ref oga])), (oga, .inl (cI, gn, .inl gf)), (oy, .inr (2, [.ref op, .int yk])), (ob, .inr (0, [.ref oba, .int bl])), (oba, .inl (cI, 256, .inl bf)), (os, .inr (3, [.ref op, .ref og, .ref osa, .ref osb, .int sd])), (osa, .inl (cI, kn, .inl kf)), (osb, .inl (cI, sn, .inl sf)), (ot, .inr (4, [.ref ota, .int tw, .int th])), (ota, .inl (cI, 64, .inl tf)), (ou, .inr (4, [.ref oua, .int uw, .int uh])), (oua, .inl (cI, 64, .inl uf))] sz) (va_Qi (fun (r : Int32) (u : Int32) => post r u) (fun u t => gw_B dC dI [(cI, .int)] (va_A [(o0, .inr (5, [.ref op, .ref og, .ref oy, .ref ob, .ref os, .ref ot, .ref ou])), (op, .inr (1, [.int pw, .int ph, .ref opa])), (opa, .inl (cI, pn, .inl pf)), (og, .inr (1, [.int gw, .int gh, .ref oga])), (oga, .inl (cI, gn, .inl gf)), (oy, .inr (2, [.ref op, .int yk])), (ob, .inr (0, [.ref oba, .int bl])), (oba, .inl (cI, 256, .inl bf)), (os, .inr (3, [.ref op, .ref og, .ref osa, .ref osb, .int sd])), (osa, .inl (cI, kn, .inl kf)), (osb, .inl (cI, sn, .inl sf)), (ot, .inr (4, [.ref ota, .int tw, .int th])), (ota, .inl (cI, 64, .inl tf)), (ou, .inr (4, [.ref oua, .int uw, .int uh])), (oua, .inl (cI, 64, .inl uf))] sz) [(o0, .inr (5, [.ref op, .ref og, .ref oy, .ref ob, .ref os, .ref ot, .ref ou])), (op, .inr (1, [.int pw, .int ph, .ref opa])), (opa, .inl (cI, pn, .inl pf)), (og, .inr (1, [.int gw, .int gh, .ref oga])), (oga, .inl (cI, gn, .inl gf)), (oy, .inr (2, [.ref op, .int yk])), (ob, .inr (0, [.ref oba, .int u])), (oba, .inl (cI, 256, .inl bf)), (os, .inr (3, [.ref op, .ref og, .ref osa, .ref osb, .int sd])), (osa, .inl (cI, kn, .inl kf)), (osb, .inl (cI, sn, .inl sf)), (ot, .inr (4, [.ref ota, .int tw, .int th])), (ota, .inl (cI, 64, .inl tf)), (ou, .inr (4, [.ref oua, .int uw, .int uh])), (oua, .inl (cI, 64, .inl uf))] t) (va_A [(o0, .inr (5, [.ref op, .ref og, .ref oy, .ref ob, .ref os, .ref ot, .ref ou])), (op, .inr (1, [.int pw, .int ph, .ref opa])), (opa, .inl (cI, pn, .inl pf)), (og, .inr (1, [.int gw, .int gh, .ref oga])), (oga, .inl (cI, gn, .inl gf)), (oy, .inr (2, [.ref op, .int yk])), (ob, .inr (0, [.ref oba, .int bl])), (oba, .inl (cI, 256, .inl bf)), (os, .inr (3, [.ref op, .ref og, .ref osa, .ref osb, .int sd])), (osa, .inl (cI, kn, .inl kf)), (osb, .inl (cI, sn, .inl sf)), (ot, .inr (4, [.ref ota, .int tw, .int th])), (ota, .inl (cI, 64, .inl tf)), (ou, .inr (4, [.ref oua, .int uw, .int uh])), (oua, .inl (cI, 64, .inl uf))] sz)) 0 0 (va_A [(o0, .inr (5, [.ref op, .ref og, .ref oy, .ref ob, .ref os, .ref ot, .ref ou])), (op, .inr (1, [.int pw, .int ph, .ref opa])), (opa, .inl (cI, pn, .inl pf)), (og, .inr (1, [.int gw, .int gh, .ref oga])), (oga, .inl (cI, gn, .inl gf)), (oy, .inr (2, [.ref op, .int yk])), (ob, .inr (0, [.ref oba, .int bl])), (oba, .inl (cI, 256, .inl bf)), (os, .inr (3, [.ref op, .ref og, .ref osa, .ref osb, .int sd])), (osa, .inl (cI, kn, .inl kf)), (osb, .inl (cI, sn, .inl sf)), (ot, .inr (4, [.ref ota, .int tw, .int th])), (ota, .inl (cI, 64, .inl tf)), (ou, .inr (4, [.ref oua, .int uw, .int uh])), (oua, .inl (cI, 64, .inl uf))] sz) := by
  refine Met.ofW (cc := cZQ_clear) (maxL := 2) (ret := (some .int)) (by decide) rfl ?_
  intro p e s m args below meth c s₁ B hml hv
  obtain ⟨ha9, hsz, hP, hK, hE, hD0⟩ := hv
  have hx := B.exec
  have hb := B.bytes
  have hr := B.returns
  have hts0 := atoms_spec (ws := wsZQ_clear) B.pre
  have hts : ∀ w ∈ tbg, w.before args s = true := fun w h => hts0 w (List.mem_cons_of_mem _ h)
  have hown : s.vm.findClass RZQ = some m.cls := findClass_of_methodNamed B.named
  have hlocks := B.notSynchronized
  subst hsz
  have hD := hD0.self (sz := s.heap.size)
  refine gx_Q (fun Q9 hQ9 => ?_)
  generalize hAe : va_A [(o0, .inr (5, [.ref op, .ref og, .ref oy, .ref ob, .ref os, .ref ot, .ref ou])), (op, .inr (1, [.int pw, .int ph, .ref opa])), (opa, .inl (cI, pn, .inl pf)), (og, .inr (1, [.int gw, .int gh, .ref oga])), (oga, .inl (cI, gn, .inl gf)), (oy, .inr (2, [.ref op, .int yk])), (ob, .inr (0, [.ref oba, .int bl])), (oba, .inl (cI, 256, .inl bf)), (os, .inr (3, [.ref op, .ref og, .ref osa, .ref osb, .int sd])), (osa, .inl (cI, kn, .inl kf)), (osb, .inl (cI, sn, .inl sf)), (ot, .inr (4, [.ref ota, .int tw, .int th])), (ota, .inl (cI, 64, .inl tf)), (ou, .inr (4, [.ref oua, .int uw, .int uh])), (oua, .inl (cI, 64, .inl uf))] s.heap.size = A at hD hQ9 ⊢
  have hA : ∀ q : Nat, s.heap.size ≤ q → A q := fun q h => by rw [← hAe]; exact Or.inr h
  have hS : va_S A s.heap s.heap [] := va_S.rf
  have hl := lv_entry ([.ref o0]) (n := 2) (Nat.le_of_ble_eq_true rfl)
  have he9 : entryFrame m args 2 = F0 m 0 ((lg_sl [.ref o0] ++ List.replicate (2 - (lg_sl ([.ref o0] : List Value)).length) Slot.unset).toArray) [] := by rw [ha9]; exact lg_entry_eq m [.ref o0] 2
  rw [he9]
  generalize (lg_sl ([.ref o0] : List Value) ++ List.replicate (2 - (lg_sl ([.ref o0] : List Value)).length) Slot.unset).toArray = ls at hl ⊢
  have hl : lv_has ls 2 [(0, .ref o0)] := hl
  refine lv_aload_n hx hb dZQ_clear_0 rfl (lv_at hl 0 rfl) ?_
  refine va_get (D := (dC, dI)) (ci := 5) (v := .ref ob) (C := RZQ) (T := TZQ) (N := 7) hx hb hts inZQ hown hK hP 0 rfl rfl 3 (by decide) (hts _ mm_139) (fun _ h9 => h9) rfl dZQ_clear_1 ?_
  refine va_get (D := (dC, dI)) (ci := 0) (v := .int bl) (C := RZB) (T := TZB) (N := 2) hx hb hts inZB hown hK hP 6 rfl rfl 1 (by decide) (hts _ mm_81) (fun _ h9 => h9) rfl dZQ_clear_4 ?_
  refine lv_istore_n (lv' := [(1, .int bl), (0, .ref o0)]) hx hb dZQ_clear_7 rfl hl (by decide) rfl (fun ls hl => ?_)
  refine lv_aload_n hx hb dZQ_clear_8 rfl (lv_at hl 1 rfl) ?_
  refine va_get (D := (dC, dI)) (ci := 5) (v := .ref ob) (C := RZQ) (T := TZQ) (N := 7) hx hb hts inZQ hown hK hP 0 rfl rfl 3 (by decide) (hts _ mm_139) (fun _ h9 => h9) rfl dZQ_clear_9 ?_
  refine lv_iconst (v := (0 : Int32)) hx hb dZQ_clear_12 (by decide) ?_
  refine va_put (D := (dC, dI)) (ci := 0) (v := .int (0 : Int32)) (ty := .int) (C := RZB) (T := TZB) (N := 2) hx hb hts inZB tyZB tyZB_ok nmZB hown hK hP hD hS 6 rfl rfl 1 (by decide) (hts _ mm_81) (fun _ h9 => h9) rfl (by decide +kernel) rfl rfl (Nat.le_of_ble_eq_true rfl) dZQ_clear_13 (fun H locs hP hD hS => ?_)
  have hP : va_P (dC, dI) vwCl [(o0, .inr (5, [.ref op, .ref og, .ref oy, .ref ob, .ref os, .ref ot, .ref ou])), (op, .inr (1, [.int pw, .int ph, .ref opa])), (opa, .inl (cI, pn, .inl pf)), (og, .inr (1, [.int gw, .int gh, .ref oga])), (oga, .inl (cI, gn, .inl gf)), (oy, .inr (2, [.ref op, .int yk])), (ob, .inr (0, [.ref oba, .int (0 : Int32)])), (oba, .inl (cI, 256, .inl bf)), (os, .inr (3, [.ref op, .ref og, .ref osa, .ref osb, .int sd])), (osa, .inl (cI, kn, .inl kf)), (osb, .inl (cI, sn, .inl sf)), (ot, .inr (4, [.ref ota, .int tw, .int th])), (ota, .inl (cI, 64, .inl tf)), (ou, .inr (4, [.ref oua, .int uw, .int uh])), (oua, .inl (cI, 64, .inl uf))] H := hP
  have hD : va_D A [(o0, .inr (5, [.ref op, .ref og, .ref oy, .ref ob, .ref os, .ref ot, .ref ou])), (op, .inr (1, [.int pw, .int ph, .ref opa])), (opa, .inl (cI, pn, .inl pf)), (og, .inr (1, [.int gw, .int gh, .ref oga])), (oga, .inl (cI, gn, .inl gf)), (oy, .inr (2, [.ref op, .int yk])), (ob, .inr (0, [.ref oba, .int (0 : Int32)])), (oba, .inl (cI, 256, .inl bf)), (os, .inr (3, [.ref op, .ref og, .ref osa, .ref osb, .int sd])), (osa, .inl (cI, kn, .inl kf)), (osb, .inl (cI, sn, .inl sf)), (ot, .inr (4, [.ref ota, .int tw, .int th])), (ota, .inl (cI, 64, .inl tf)), (ou, .inr (4, [.ref oua, .int uw, .int uh])), (oua, .inl (cI, 64, .inl uf))] := hD
  refine lv_iload_n hx hb dZQ_clear_16 rfl (lv_at hl 0 rfl) ?_
  have hP9 := hP.sub (ws' := [(o0, .inr (5, [.ref op, .ref og, .ref oy, .ref ob, .ref os, .ref ot, .ref ou])), (op, .inr (1, [.int pw, .int ph, .ref opa])), (opa, .inl (cI, pn, .inl pf)), (og, .inr (1, [.int gw, .int gh, .ref oga])), (oga, .inl (cI, gn, .inl gf)), (oy, .inr (2, [.ref op, .int yk])), (ob, .inr (0, [.ref oba, .int (0 : Int32)])), (oba, .inl (cI, 256, .inl bf)), (os, .inr (3, [.ref op, .ref og, .ref osa, .ref osb, .int sd])), (osa, .inl (cI, kn, .inl kf)), (osb, .inl (cI, sn, .inl sf)), (ot, .inr (4, [.ref ota, .int tw, .int th])), (ota, .inl (cI, 64, .inl tf)), (ou, .inr (4, [.ref oua, .int uw, .int uh])), (oua, .inl (cI, 64, .inl uf))]) [0, 1, 2, 3, 4, 5, 6, 7, 8, 9, 10, 11, 12, 13, 14] rfl
  have hD9 := hD.sub (ws' := [(o0, .inr (5, [.ref op, .ref og, .ref oy, .ref ob, .ref os, .ref ot, .ref ou])), (op, .inr (1, [.int pw, .int ph, .ref opa])), (opa, .inl (cI, pn, .inl pf)), (og, .inr (1, [.int gw, .int gh, .ref oga])), (oga, .inl (cI, gn, .inl gf)), (oy, .inr (2, [.ref op, .int yk])), (ob, .inr (0, [.ref oba, .int (0 : Int32)])), (oba, .inl (cI, 256, .inl bf)), (os, .inr (3, [.ref op, .ref og, .ref osa, .ref osb, .int sd])), (osa, .inl (cI, kn, .inl kf)), (osb, .inl (cI, sn, .inl sf)), (ot, .inr (4, [.ref ota, .int tw, .int th])), (ota, .inl (cI, 64, .inl tf)), (ou, .inr (4, [.ref oua, .int uw, .int uh])), (oua, .inl (cI, 64, .inl uf))]) [0, 1, 2, 3, 4, 5, 6, 7, 8, 9, 10, 11, 12, 13, 14] (by decide) rfl
  subst hQ9
  exact W.iret (v := bl) hx hb hr (fun t ht hW => ⟨⟨bl, (0 : Int32), rfl, hw, by rw [ht]; exact hP9, va_K.moved hW.alike hK, hD9⟩, hS.F ht⟩) hS.2.2 dZQ_clear_17
theorem dZQ_byteAt_0 : decode cZQ_byteAt 0 = .ok (.iload_n 1, 1) := by decide +kernel
theorem dZQ_byteAt_1 : decode cZQ_byteAt 1 = .ok (.aload_n 0, 1) := by decide +kernel
theorem dZQ_byteAt_2 : decode cZQ_byteAt 2 = .ok (.getfield 42, 3) := by decide +kernel
theorem dZQ_byteAt_5 : decode cZQ_byteAt 5 = .ok (.getfield 150, 3) := by decide +kernel
theorem dZQ_byteAt_8 : decode cZQ_byteAt 8 = .ok (.invokestatic 97, 3) := by decide +kernel
theorem dZQ_byteAt_11 : decode cZQ_byteAt 11 = .ok (.invokestatic 73, 3) := by decide +kernel
theorem dZQ_byteAt_14 : decode cZQ_byteAt 14 = .ok (.aload_n 0, 1) := by decide +kernel
theorem dZQ_byteAt_15 : decode cZQ_byteAt 15 = .ok (.getfield 42, 3) := by decide +kernel
theorem dZQ_byteAt_18 : decode cZQ_byteAt 18 = .ok (.getfield 172, 3) := by decide +kernel
theorem dZQ_byteAt_21 : decode cZQ_byteAt 21 = .ok (.iload_n 1, 1) := by decide +kernel
theorem dZQ_byteAt_22 : decode cZQ_byteAt 22 = .ok (.iaload, 1) := by decide +kernel
theorem dZQ_byteAt_23 : decode cZQ_byteAt 23 = .ok (.ireturn, 1) := by decide +kernel
abbrev wsZQ_byteAt : List Cond := .code yZQ_byteAt cZQ_byteAt 2 (some .int) :: tbg
def wp_ZQ_byteAt (pw : Int32) (ph : Int32) (pn : Nat) (pf : Nat → Int32) (gw : Int32) (gh : Int32) (gn : Nat) (gf : Nat → Int32) (yk : Int32) (bl : Int32) (bf : Nat → Int32) (kn : Nat) (kf : Nat → Int32) (sn : Nat) (sf : Nat → Int32) (sd : Int32) (tw : Int32) (th : Int32) (tf : Nat → Int32) (uw : Int32) (uh : Int32) (uf : Nat → Int32) (a1 : Int32) (post : Int32 → Prop) : Prop := wp_ZQ_isWithin a1 bl (fun r_1 : Int32 => wp_ZQ_requirePlace r_1 (vp_in a1 256 ∧ (post (bf a1.toNatClampNeg))))
abbrev rm_ZQ_byteAt : Room := { frames := 1, cells := 0, slots := 0, locals := 21 }
set_option maxHeartbeats 4000000 in
set_option maxRecDepth 100000 in
theorem kt_ZQ_byteAt (l : Launch) (dC : Nat → ClassId) (dI : Nat → Nat → Nat) (cI : ClassId) (o0 op opa og oga oy ob oba os osa osb ot ota ou oua : Nat) (pw : Int32) (ph : Int32) (pn : Nat) (pf : Nat → Int32) (gw : Int32) (gh : Int32) (gn : Nat) (gf : Nat → Int32) (yk : Int32) (bl : Int32) (bf : Nat → Int32) (kn : Nat) (kf : Nat → Int32) (sn : Nat) (sf : Nat → Int32) (sd : Int32) (tw : Int32) (th : Int32) (tf : Nat → Int32) (uw : Int32) (uh : Int32) (uf : Nat → Int32) (a1 : Int32) (post : Int32 → Prop) (hw : wp_ZQ_byteAt pw ph pn pf gw gh gn gf yk bl bf kn kf sn sf sd tw th tf uw uh uf a1 post) : Met l yZQ_byteAt wsZQ_byteAt rm_ZQ_byteAt (gr_Pc dC dI [(cI, .int)] [.ref o0, .int a1] [(o0, .inr (5, [.ref op, .ref og, .ref oy, .ref ob, .ref os, .ref ot, .ref ou])), (op, .inr (1, [.int pw, .int ph, .ref opa])), (opa, .inl (cI, pn, .inl pf)), (og, .inr (1, [.int gw, .int gh, .ref oga])), (oga, .inl (cI, gn, .inl gf)), (oy, .inr (2, [.ref op, .int yk])), (ob, .inr (0, [.ref oba, .int bl])), (oba, .inl (cI, 256, .inl bf)), (os, .inr (3, [.ref op, .ref og, .ref osa, .ref osb, .int sd])), (osa, .inl (cI, kn, .inl kf)), (osb, .inl (cI, sn, .inl sf)), (ot, .inr (4, [.ref ota, .int tw, .int th])), (ota, .inl (cI, 64, .inl tf)), (ou, .inr (4, [.ref oua, .int uw, .int uh])), (oua, .inl (cI, 64, .inl uf))]) (vp_Si post) 0 0 (fun _ => False) := by
  refine Met.ofW (cc := cZQ_byteAt) (maxL := 2) (ret := (some .int)) (by decide) rfl ?_
  intro p e s m args below meth c s₁ B hml hv
  obtain ⟨ha9, hP, hK, hE⟩ := hv
  have hx := B.exec
  have hb := B.bytes
  have hr := B.returns
  have hts0 := atoms_spec (ws := wsZQ_byteAt) B.pre
  have hts : ∀ w ∈ tbg, w.before args s = true := fun w h => hts0 w (List.mem_cons_of_mem _ h)
  have hown : s.vm.findClass RZQ = some m.cls := findClass_of_methodNamed B.named
  have hlocks := B.notSynchronized
  refine gx_Q (fun Q9 hQ9 => ?_)
  have hl := lv_entry ([.ref o0, .int a1]) (n := 2) (Nat.le_of_ble_eq_true rfl)
  have he9 : entryFrame m args 2 = F0 m 0 ((lg_sl [.ref o0, .int a1] ++ List.replicate (2 - (lg_sl ([.ref o0, .int a1] : List Value)).length) Slot.unset).toArray) [] := by rw [ha9]; exact lg_entry_eq m [.ref o0, .int a1] 2
  rw [he9]
  generalize (lg_sl ([.ref o0, .int a1] : List Value) ++ List.replicate (2 - (lg_sl ([.ref o0, .int a1] : List Value)).length) Slot.unset).toArray = ls at hl ⊢
  have hl : lv_has ls 2 [(0, .ref o0), (1, .int a1)] := hl
  refine lv_iload_n hx hb dZQ_byteAt_0 rfl (lv_at hl 1 rfl) ?_
  refine lv_aload_n hx hb dZQ_byteAt_1 rfl (lv_at hl 0 rfl) ?_
  refine va_get (D := (dC, dI)) (ci := 5) (v := .ref ob) (C := RZQ) (T := TZQ) (N := 7) hx hb hts inZQ hown hK hP 0 rfl rfl 3 (by decide) (hts _ mm_139) (fun _ h9 => h9) rfl dZQ_byteAt_2 ?_
  refine va_get (D := (dC, dI)) (ci := 0) (v := .int bl) (C := RZB) (T := TZB) (N := 2) hx hb hts inZB hown hK hP 6 rfl rfl 1 (by decide) (hts _ mm_81) (fun _ h9 => h9) rfl dZQ_byteAt_5 ?_
  have hPc := hP.sub (ws' := []) [] rfl
  refine vp_callSi (va_runS (As := [.int a1, .int bl]) (rest := []) ⟨hx, hb, hml, hown, hts⟩ (kt_ZQ_isWithin l dC dI cI  a1 bl _ hw) (va_cwS 2 hts (tb_S mm_236 mm_237 mm_1 mm_238) rfl rfl rfl (by decide +kernel) ⟨Nat.le_of_ble_eq_true rfl, Nat.le_of_ble_eq_true rfl⟩) ⟨gr_blind, fun U hU hW => gr_pre hPc hK hE hU hW⟩ rfl rfl hl.1 rfl (lv_room (Nat.le_of_ble_eq_true rfl)) dZQ_byteAt_8 ⟨Nat.le_of_ble_eq_true rfl, Nat.le_of_ble_eq_true rfl⟩).run (fun r_1 hw => ?_)
  have hPc := hP.sub (ws' := []) [] rfl
  refine va_csv (va_runS (As := [.int r_1]) (rest := []) ⟨hx, hb, hml, hown, hts⟩ (kt_ZQ_requirePlace l dC dI cI  r_1 _ hw) (va_cwS 1 hts (tb_S mm_239 mm_240 mm_1 mm_241) rfl rfl rfl (by decide +kernel) ⟨Nat.le_of_ble_eq_true rfl, Nat.le_of_ble_eq_true rfl⟩) ⟨gr_blind, fun U hU hW => gr_pre hPc hK hE hU hW⟩ rfl rfl hl.1 rfl (lv_room (Nat.le_of_ble_eq_true rfl)) dZQ_byteAt_11 ⟨Nat.le_of_ble_eq_true rfl, Nat.le_of_ble_eq_true rfl⟩).run (fun hw => ?_)
  refine lv_aload_n hx hb dZQ_byteAt_14 rfl (lv_at hl 0 rfl) ?_
  refine va_get (D := (dC, dI)) (ci := 5) (v := .ref ob) (C := RZQ) (T := TZQ) (N := 7) hx hb hts inZQ hown hK hP 0 rfl rfl 3 (by decide) (hts _ mm_139) (fun _ h9 => h9) rfl dZQ_byteAt_15 ?_
  refine va_get (D := (dC, dI)) (ci := 0) (v := .ref oba) (C := RZB) (T := TZB) (N := 2) hx hb hts inZB hown hK hP 6 rfl rfl 0 (by decide) (hts _ mm_77) (fun _ h9 => h9) rfl dZQ_byteAt_18 ?_
  refine lv_iload_n hx hb dZQ_byteAt_21 rfl (lv_at hl 1 rfl) ?_
  obtain ⟨h_3, hw⟩ := hw
  refine va_iald hx hb hK hP 7 0 rfl rfl h_3 dZQ_byteAt_22 ?_
  subst hQ9
  exact W.iret (v := bf a1.toNatClampNeg) hx hb hr (fun t ht hW => ⟨bf a1.toNatClampNeg, rfl, hw, ht⟩) (fun q h => nomatch h) dZQ_byteAt_23
def xp_ZQ_byteAt_I (pw : Int32) (ph : Int32) (pn : Nat) (pf : Nat → Int32) (gw : Int32) (gh : Int32) (gn : Nat) (gf : Nat → Int32) (yk : Int32) (bl : Int32) (bf : Nat → Int32) (kn : Nat) (kf : Nat → Int32) (sn : Nat) (sf : Nat → Int32) (sd : Int32) (tw : Int32) (th : Int32) (tf : Nat → Int32) (uw : Int32) (uh : Int32) (uf : Nat → Int32) (a1 : Int32) : Prop := wp_ZQ_isWithin a1 bl (fun r_1 : Int32 => (xp_ZQ_requirePlace_I r_1) ∨ (wp_ZQ_requirePlace r_1 (vp_in a1 256 ∧ (False))))
abbrev rm_ZQ_byteAt_I : Room := { frames := 7, cells := 1, slots := 6, locals := 111 }
set_option maxHeartbeats 4000000 in
set_option maxRecDepth 100000 in
theorem kx_ZQ_byteAt_I (l : Launch) (hl9 : l.stackTraces = false) (dC : Nat → ClassId) (dI : Nat → Nat → Nat) (cI : ClassId) (o0 op opa og oga oy ob oba os osa osb ot ota ou oua : Nat) (H0 : Heap) (pw : Int32) (ph : Int32) (pn : Nat) (pf : Nat → Int32) (gw : Int32) (gh : Int32) (gn : Nat) (gf : Nat → Int32) (yk : Int32) (bl : Int32) (bf : Nat → Int32) (kn : Nat) (kf : Nat → Int32) (sn : Nat) (sf : Nat → Int32) (sd : Int32) (tw : Int32) (th : Int32) (tf : Nat → Int32) (uw : Int32) (uh : Int32) (uf : Nat → Int32) (a1 : Int32) (hw : xp_ZQ_byteAt_I pw ph pn pf gw gh gn gf yk bl bf kn kf sn sf sd tw th tf uw uh uf a1) : tx_Met l yZQ_byteAt wsZQ_byteAt rm_ZQ_byteAt_I (tr_Pc H0 dC dI [(cI, .int)] [.ref o0, .int a1] [(o0, .inr (5, [.ref op, .ref og, .ref oy, .ref ob, .ref os, .ref ot, .ref ou])), (op, .inr (1, [.int pw, .int ph, .ref opa])), (opa, .inl (cI, pn, .inl pf)), (og, .inr (1, [.int gw, .int gh, .ref oga])), (oga, .inl (cI, gn, .inl gf)), (oy, .inr (2, [.ref op, .int yk])), (ob, .inr (0, [.ref oba, .int bl])), (oba, .inl (cI, 256, .inl bf)), (os, .inr (3, [.ref op, .ref og, .ref osa, .ref osb, .int sd])), (osa, .inl (cI, kn, .inl kf)), (osb, .inl (cI, sn, .inl sf)), (ot, .inr (4, [.ref ota, .int tw, .int th])), (ota, .inl (cI, 64, .inl tf)), (ou, .inr (4, [.ref oua, .int uw, .int uh])), (oua, .inl (cI, 64, .inl uf))]) "java/lang/IndexOutOfBoundsException" := by
  refine tx_ofW (cc := cZQ_byteAt) (maxL := 2) (ret := (some .int)) (by decide) rfl ?_
  intro p e s m args below meth c s₁ B hml hnX hv
  obtain ⟨ha9, hP, hK, hE, hT⟩ := hv
  have hx := B.exec
  have hb := B.bytes
  have hr := B.returns
  have hts0 := atoms_spec (ws := wsZQ_byteAt) B.pre
  have hts : ∀ w ∈ tbg, w.before args s = true := fun w h => hts0 w (List.mem_cons_of_mem _ h)
  have hown : s.vm.findClass RZQ = some m.cls := findClass_of_methodNamed B.named
  have hlocks := B.notSynchronized
  refine gx_Q (fun Q9 hQ9 => ?_)
  have hl := lv_entry ([.ref o0, .int a1]) (n := 2) (Nat.le_of_ble_eq_true rfl)
  have he9 : entryFrame m args 2 = F0 m 0 ((lg_sl [.ref o0, .int a1] ++ List.replicate (2 - (lg_sl ([.ref o0, .int a1] : List Value)).length) Slot.unset).toArray) [] := by rw [ha9]; exact lg_entry_eq m [.ref o0, .int a1] 2
  rw [he9]
  generalize (lg_sl ([.ref o0, .int a1] : List Value) ++ List.replicate (2 - (lg_sl ([.ref o0, .int a1] : List Value)).length) Slot.unset).toArray = ls at hl ⊢
  have hl : lv_has ls 2 [(0, .ref o0), (1, .int a1)] := hl
  refine lv_iload_n hx hb dZQ_byteAt_0 rfl (lv_at hl 1 rfl) ?_
  refine lv_aload_n hx hb dZQ_byteAt_1 rfl (lv_at hl 0 rfl) ?_
  refine va_get (D := (dC, dI)) (ci := 5) (v := .ref ob) (C := RZQ) (T := TZQ) (N := 7) hx hb hts inZQ hown hK hP 0 rfl rfl 3 (by decide) (hts _ mm_139) (fun _ h9 => h9) rfl dZQ_byteAt_2 ?_
  refine va_get (D := (dC, dI)) (ci := 0) (v := .int bl) (C := RZB) (T := TZB) (N := 2) hx hb hts inZB hown hK hP 6 rfl rfl 1 (by decide) (hts _ mm_81) (fun _ h9 => h9) rfl dZQ_byteAt_5 ?_
  have hPc := hP.sub (ws' := []) [] rfl
  refine vp_callSi (va_runS (As := [.int a1, .int bl]) (rest := []) ⟨hx, hb, hml, hown, hts⟩ (kt_ZQ_isWithin l dC dI cI  a1 bl _ hw) (va_cwS 2 hts (tb_S mm_236 mm_237 mm_1 mm_238) rfl rfl rfl (by decide +kernel) ⟨Nat.le_of_ble_eq_true rfl, Nat.le_of_ble_eq_true rfl⟩) ⟨gr_blind, fun U hU hW => gr_pre hPc hK hE hU hW⟩ rfl rfl hl.1 rfl (lv_room (Nat.le_of_ble_eq_true rfl)) dZQ_byteAt_8 ⟨Nat.le_of_ble_eq_true rfl, Nat.le_of_ble_eq_true rfl⟩).run (fun r_1 hw => ?_)
  rcases hw with hw | hw
  · subst hQ9
    have hPx := hP.sub (ws' := []) [] rfl
    exact tx_callS (As := [.int r_1]) (rest := []) ⟨hx, hb, hml, hown, hts⟩ (kx_ZQ_requirePlace_I l hl9 dC dI cI  H0 r_1 hw) (va_cwS 1 hts (tb_S mm_239 mm_240 mm_1 mm_241) rfl rfl rfl (by decide +kernel) ⟨Nat.le_of_ble_eq_true rfl, Nat.le_of_ble_eq_true rfl⟩) ⟨tr_blind, fun U hU hW => tr_pre hPx hK hE hT hT.1 hU hW⟩ rfl hl.1 rfl (Nat.le_of_ble_eq_true rfl) dZQ_byteAt_11 hnX hlocks ⟨Nat.le_of_ble_eq_true rfl, Nat.le_of_ble_eq_true rfl⟩
  have hPc := hP.sub (ws' := []) [] rfl
  refine va_csv (va_runS (As := [.int r_1]) (rest := []) ⟨hx, hb, hml, hown, hts⟩ (kt_ZQ_requirePlace l dC dI cI  r_1 _ hw) (va_cwS 1 hts (tb_S mm_239 mm_240 mm_1 mm_241) rfl rfl rfl (by decide +kernel) ⟨Nat.le_of_ble_eq_true rfl, Nat.le_of_ble_eq_true rfl⟩) ⟨gr_blind, fun U hU hW => gr_pre hPc hK hE hU hW⟩ rfl rfl hl.1 rfl (lv_room (Nat.le_of_ble_eq_true rfl)) dZQ_byteAt_11 ⟨Nat.le_of_ble_eq_true rfl, Nat.le_of_ble_eq_true rfl⟩).run (fun hw => ?_)
  refine lv_aload_n hx hb dZQ_byteAt_14 rfl (lv_at hl 0 rfl) ?_
  refine va_get (D := (dC, dI)) (ci := 5) (v := .ref ob) (C := RZQ) (T := TZQ) (N := 7) hx hb hts inZQ hown hK hP 0 rfl rfl 3 (by decide) (hts _ mm_139) (fun _ h9 => h9) rfl dZQ_byteAt_15 ?_
  refine va_get (D := (dC, dI)) (ci := 0) (v := .ref oba) (C := RZB) (T := TZB) (N := 2) hx hb hts inZB hown hK hP 6 rfl rfl 0 (by decide) (hts _ mm_77) (fun _ h9 => h9) rfl dZQ_byteAt_18 ?_
  refine lv_iload_n hx hb dZQ_byteAt_21 rfl (lv_at hl 1 rfl) ?_
  obtain ⟨h_3, hw⟩ := hw
  refine va_iald hx hb hK hP 7 0 rfl rfl h_3 dZQ_byteAt_22 ?_
  exact False.elim hw
theorem dZQ_poke_0 : decode cZQ_poke 0 = .ok (.iload_n 1, 1) := by decide +kernel
theorem dZQ_poke_1 : decode cZQ_poke 1 = .ok (.aload_n 0, 1) := by decide +kernel
theorem dZQ_poke_2 : decode cZQ_poke 2 = .ok (.getfield 42, 3) := by decide +kernel
theorem dZQ_poke_5 : decode cZQ_poke 5 = .ok (.getfield 150, 3) := by decide +kernel
theorem dZQ_poke_8 : decode cZQ_poke 8 = .ok (.invokestatic 97, 3) := by decide +kernel
theorem dZQ_poke_11 : decode cZQ_poke 11 = .ok (.invokestatic 73, 3) := by decide +kernel
theorem dZQ_poke_14 : decode cZQ_poke 14 = .ok (.iload_n 2, 1) := by decide +kernel
theorem dZQ_poke_15 : decode cZQ_poke 15 = .ok (.iconst 1, 1) := by decide +kernel
theorem dZQ_poke_16 : decode cZQ_poke 16 = .ok (.if_icmp .lt 10, 3) := by decide +kernel
theorem dZQ_poke_19 : decode cZQ_poke 19 = .ok (.iload_n 2, 1) := by decide +kernel
theorem dZQ_poke_20 : decode cZQ_poke 20 = .ok (.sipush 255, 3) := by decide +kernel
theorem dZQ_poke_23 : decode cZQ_poke 23 = .ok (.if_icmp .le 13, 3) := by decide +kernel
theorem dZQ_poke_26 : decode cZQ_poke 26 = .ok (.new 164, 3) := by decide +kernel
theorem dZQ_poke_29 : decode cZQ_poke 29 = .ok (.dup, 1) := by decide +kernel
theorem dZQ_poke_30 : decode cZQ_poke 30 = .ok (.ldc 176, 2) := by decide +kernel
theorem dZQ_poke_32 : decode cZQ_poke 32 = .ok (.invokespecial 168, 3) := by decide +kernel
theorem dZQ_poke_35 : decode cZQ_poke 35 = .ok (.athrow, 1) := by decide +kernel
theorem dZQ_poke_36 : decode cZQ_poke 36 = .ok (.aload_n 0, 1) := by decide +kernel
theorem dZQ_poke_37 : decode cZQ_poke 37 = .ok (.getfield 42, 3) := by decide +kernel
theorem dZQ_poke_40 : decode cZQ_poke 40 = .ok (.getfield 172, 3) := by decide +kernel
theorem dZQ_poke_43 : decode cZQ_poke 43 = .ok (.iload_n 1, 1) := by decide +kernel
theorem dZQ_poke_44 : decode cZQ_poke 44 = .ok (.dup2, 1) := by decide +kernel
theorem dZQ_poke_45 : decode cZQ_poke 45 = .ok (.iaload, 1) := by decide +kernel
theorem dZQ_poke_46 : decode cZQ_poke 46 = .ok (.iload_n 2, 1) := by decide +kernel
theorem dZQ_poke_47 : decode cZQ_poke 47 = .ok (.ixor, 1) := by decide +kernel
theorem dZQ_poke_48 : decode cZQ_poke 48 = .ok (.iastore, 1) := by decide +kernel
theorem dZQ_poke_49 : decode cZQ_poke 49 = .ok (.aload_n 0, 1) := by decide +kernel
theorem dZQ_poke_50 : decode cZQ_poke 50 = .ok (.getfield 42, 3) := by decide +kernel
theorem dZQ_poke_53 : decode cZQ_poke 53 = .ok (.getfield 172, 3) := by decide +kernel
theorem dZQ_poke_56 : decode cZQ_poke 56 = .ok (.iload_n 1, 1) := by decide +kernel
theorem dZQ_poke_57 : decode cZQ_poke 57 = .ok (.iaload, 1) := by decide +kernel
theorem dZQ_poke_58 : decode cZQ_poke 58 = .ok (.ireturn, 1) := by decide +kernel
abbrev wsZQ_poke : List Cond := .code yZQ_poke cZQ_poke 3 (some .int) :: tbg
def wp_ZQ_poke (pw : Int32) (ph : Int32) (pn : Nat) (pf : Nat → Int32) (gw : Int32) (gh : Int32) (gn : Nat) (gf : Nat → Int32) (yk : Int32) (bl : Int32) (bf : Nat → Int32) (kn : Nat) (kf : Nat → Int32) (sn : Nat) (sf : Nat → Int32) (sd : Int32) (tw : Int32) (th : Int32) (tf : Nat → Int32) (uw : Int32) (uh : Int32) (uf : Nat → Int32) (a1 : Int32) (a2 : Int32) (post : Int32 → (Nat → Int32) → Prop) : Prop := wp_ZQ_isWithin a1 bl (fun r_1 : Int32 => wp_ZQ_requirePlace r_1 (((a2 < (1 : Int32) → False) ∧ (¬ a2 < (1 : Int32) → ((a2 ≤ (255 : Int32) → (vp_in a1 256 ∧ (vp_in a1 256 ∧ (vp_in a1 256 ∧ (post ((upd bf a1.toNatClampNeg ((bf a1.toNatClampNeg) ^^^ a2)) a1.toNatClampNeg) (upd bf a1.toNatClampNeg ((bf a1.toNatClampNeg) ^^^ a2))))))) ∧ (¬ a2 ≤ (255 : Int32) → False))))))
abbrev rm_ZQ_poke : Room := { frames := 1, cells := 0, slots := 0, locals := 21 }
set_option maxHeartbeats 4000000 in
set_option maxRecDepth 100000 in
theorem kt_ZQ_poke (l : Launch) (dC : Nat → ClassId) (dI : Nat → Nat → Nat) (cI : ClassId) (o0 op opa og oga oy ob oba os osa osb ot ota ou oua : Nat) (sz : Nat) (pw : Int32) (ph : Int32) (pn : Nat) (pf : Nat → Int32) (gw : Int32) (gh : Int32) (gn : Nat) (gf : Nat → Int32) (yk : Int32) (bl : Int32) (bf : Nat → Int32) (kn : Nat) (kf : Nat → Int32) (sn : Nat) (sf : Nat → Int32) (sd : Int32) (tw : Int32) (th : Int32) (tf : Nat → Int32) (uw : Int32) (uh : Int32) (uf : Nat → Int32) (a1 : Int32) (a2 : Int32) (post : Int32 → (Nat → Int32) → Prop) (hw : wp_ZQ_poke pw ph pn pf gw gh gn gf yk bl bf kn kf sn sf sd tw th tf uw uh uf a1 a2 post) : Met l yZQ_poke wsZQ_poke rm_ZQ_poke (gw_Pc dC dI [(cI, .int)] [.ref o0, .int a1, .int a2] [(o0, .inr (5, [.ref op, .ref og, .ref oy, .ref ob, .ref os, .ref ot, .ref ou])), (op, .inr (1, [.int pw, .int ph, .ref opa])), (opa, .inl (cI, pn, .inl pf)), (og, .inr (1, [.int gw, .int gh, .ref oga])), (oga, .inl (cI, gn, .inl gf)), (oy, .inr (2, [.ref op, .int yk])), (ob, .inr (0, [.ref oba, .int bl])), (oba, .inl (cI, 256, .inl bf)), (os, .inr (3, [.ref op, .ref og, .ref osa, .ref osb, .int sd])), (osa, .inl (cI, kn, .inl kf)), (osb, .inl (cI, sn, .inl sf)), (ot, .inr (4, [.ref ota, .int tw, .int th])), (ota, .inl (cI, 64, .inl tf)), (ou, .inr (4, [.ref oua, .int uw, .int uh])), (oua, .inl (cI, 64, .inl uf))] sz) (va_Qi (fun (r : Int32) (u : (Nat → Int32)) => post r u) (fun u t => gw_B dC dI [(cI, .int)] (va_A [(o0, .inr (5, [.ref op, .ref og, .ref oy, .ref ob, .ref os, .ref ot, .ref ou])), (op, .inr (1, [.int pw, .int ph, .ref opa])), (opa, .inl (cI, pn, .inl pf)), (og, .inr (1, [.int gw, .int gh, .ref oga])), (oga, .inl (cI, gn, .inl gf)), (oy, .inr (2, [.ref op, .int yk])), (ob, .inr (0, [.ref oba, .int bl])), (oba, .inl (cI, 256, .inl bf)), (os, .inr (3, [.ref op, .ref og, .ref osa, .ref osb, .int sd])), (osa, .inl (cI, kn, .inl kf)), (osb, .inl (cI, sn, .inl sf)), (ot, .inr (4, [.ref ota, .int tw, .int th])), (ota, .inl (cI, 64, .inl tf)), (ou, .inr (4, [.ref oua, .int uw, .int uh])), (oua, .inl (cI, 64, .inl uf))] sz) [(o0, .inr (5, [.ref op, .ref og, .ref oy, .ref ob, .ref os, .ref ot, .ref ou])), (op, .inr (1, [.int pw, .int ph, .ref opa])), (opa, .inl (cI, pn, .inl pf)), (og, .inr (1, [.int gw, .int gh, .ref oga])), (oga, .inl (cI, gn, .inl gf)), (oy, .inr (2, [.ref op, .int yk])), (ob, .inr (0, [.ref oba, .int bl])), (oba, .inl (cI, 256, .inl u)), (os, .inr (3, [.ref op, .ref og, .ref osa, .ref osb, .int sd])), (osa, .inl (cI, kn, .inl kf)), (osb, .inl (cI, sn, .inl sf)), (ot, .inr (4, [.ref ota, .int tw, .int th])), (ota, .inl (cI, 64, .inl tf)), (ou, .inr (4, [.ref oua, .int uw, .int uh])), (oua, .inl (cI, 64, .inl uf))] t) (va_A [(o0, .inr (5, [.ref op, .ref og, .ref oy, .ref ob, .ref os, .ref ot, .ref ou])), (op, .inr (1, [.int pw, .int ph, .ref opa])), (opa, .inl (cI, pn, .inl pf)), (og, .inr (1, [.int gw, .int gh, .ref oga])), (oga, .inl (cI, gn, .inl gf)), (oy, .inr (2, [.ref op, .int yk])), (ob, .inr (0, [.ref oba, .int bl])), (oba, .inl (cI, 256, .inl bf)), (os, .inr (3, [.ref op, .ref og, .ref osa, .ref osb, .int sd])), (osa, .inl (cI, kn, .inl kf)), (osb, .inl (cI, sn, .inl sf)), (ot, .inr (4, [.ref ota, .int tw, .int th])), (ota, .inl (cI, 64, .inl tf)), (ou, .inr (4, [.ref oua, .int uw, .int uh])), (oua, .inl (cI, 64, .inl uf))] sz)) 0 0 (va_A [(o0, .inr (5, [.ref op, .ref og, .ref oy, .ref ob, .ref os, .ref ot, .ref ou])), (op, .inr (1, [.int pw, .int ph, .ref opa])), (opa, .inl (cI, pn, .inl pf)), (og, .inr (1, [.int gw, .int gh, .ref oga])), (oga, .inl (cI, gn, .inl gf)), (oy, .inr (2, [.ref op, .int yk])), (ob, .inr (0, [.ref oba, .int bl])), (oba, .inl (cI, 256, .inl bf)), (os, .inr (3, [.ref op, .ref og, .ref osa, .ref osb, .int sd])), (osa, .inl (cI, kn, .inl kf)), (osb, .inl (cI, sn, .inl sf)), (ot, .inr (4, [.ref ota, .int tw, .int th])), (ota, .inl (cI, 64, .inl tf)), (ou, .inr (4, [.ref oua, .int uw, .int uh])), (oua, .inl (cI, 64, .inl uf))] sz) := by
  refine Met.ofW (cc := cZQ_poke) (maxL := 3) (ret := (some .int)) (by decide) rfl ?_
  intro p e s m args below meth c s₁ B hml hv
  obtain ⟨ha9, hsz, hP, hK, hE, hD0⟩ := hv
  have hx := B.exec
  have hb := B.bytes
  have hr := B.returns
  have hts0 := atoms_spec (ws := wsZQ_poke) B.pre
  have hts : ∀ w ∈ tbg, w.before args s = true := fun w h => hts0 w (List.mem_cons_of_mem _ h)
  have hown : s.vm.findClass RZQ = some m.cls := findClass_of_methodNamed B.named
  have hlocks := B.notSynchronized
  subst hsz
  have hD := hD0.self (sz := s.heap.size)
  refine gx_Q (fun Q9 hQ9 => ?_)
  generalize hAe : va_A [(o0, .inr (5, [.ref op, .ref og, .ref oy, .ref ob, .ref os, .ref ot, .ref ou])), (op, .inr (1, [.int pw, .int ph, .ref opa])), (opa, .inl (cI, pn, .inl pf)), (og, .inr (1, [.int gw, .int gh, .ref oga])), (oga, .inl (cI, gn, .inl gf)), (oy, .inr (2, [.ref op, .int yk])), (ob, .inr (0, [.ref oba, .int bl])), (oba, .inl (cI, 256, .inl bf)), (os, .inr (3, [.ref op, .ref og, .ref osa, .ref osb, .int sd])), (osa, .inl (cI, kn, .inl kf)), (osb, .inl (cI, sn, .inl sf)), (ot, .inr (4, [.ref ota, .int tw, .int th])), (ota, .inl (cI, 64, .inl tf)), (ou, .inr (4, [.ref oua, .int uw, .int uh])), (oua, .inl (cI, 64, .inl uf))] s.heap.size = A at hD hQ9 ⊢
  have hA : ∀ q : Nat, s.heap.size ≤ q → A q := fun q h => by rw [← hAe]; exact Or.inr h
  have hS : va_S A s.heap s.heap [] := va_S.rf
  have hl := lv_entry ([.ref o0, .int a1, .int a2]) (n := 3) (Nat.le_of_ble_eq_true rfl)
  have he9 : entryFrame m args 3 = F0 m 0 ((lg_sl [.ref o0, .int a1, .int a2] ++ List.replicate (3 - (lg_sl ([.ref o0, .int a1, .int a2] : List Value)).length) Slot.unset).toArray) [] := by rw [ha9]; exact lg_entry_eq m [.ref o0, .int a1, .int a2] 3
  rw [he9]
  generalize (lg_sl ([.ref o0, .int a1, .int a2] : List Value) ++ List.replicate (3 - (lg_sl ([.ref o0, .int a1, .int a2] : List Value)).length) Slot.unset).toArray = ls at hl ⊢
  have hl : lv_has ls 3 [(0, .ref o0), (1, .int a1), (2, .int a2)] := hl
  refine lv_iload_n hx hb dZQ_poke_0 rfl (lv_at hl 1 rfl) ?_
  refine lv_aload_n hx hb dZQ_poke_1 rfl (lv_at hl 0 rfl) ?_
  refine va_get (D := (dC, dI)) (ci := 5) (v := .ref ob) (C := RZQ) (T := TZQ) (N := 7) hx hb hts inZQ hown hK hP 0 rfl rfl 3 (by decide) (hts _ mm_139) (fun _ h9 => h9) rfl dZQ_poke_2 ?_
  refine va_get (D := (dC, dI)) (ci := 0) (v := .int bl) (C := RZB) (T := TZB) (N := 2) hx hb hts inZB hown hK hP 6 rfl rfl 1 (by decide) (hts _ mm_81) (fun _ h9 => h9) rfl dZQ_poke_5 ?_
  have hPc := hP.sub (ws' := []) [] rfl
  refine vp_callSi (va_runS (As := [.int a1, .int bl]) (rest := []) ⟨hx, hb, hml, hown, hts⟩ (kt_ZQ_isWithin l dC dI cI  a1 bl _ hw) (va_cwS 2 hts (tb_S mm_236 mm_237 mm_1 mm_238) rfl rfl rfl (by decide +kernel) ⟨Nat.le_of_ble_eq_true rfl, Nat.le_of_ble_eq_true rfl⟩) ⟨gr_blind, fun U hU hW => gr_pre hPc hK hE hU hW⟩ rfl rfl hl.1 rfl (lv_room (Nat.le_of_ble_eq_true rfl)) dZQ_poke_8 ⟨Nat.le_of_ble_eq_true rfl, Nat.le_of_ble_eq_true rfl⟩).run (fun r_1 hw => ?_)
  have hPc := hP.sub (ws' := []) [] rfl
  refine va_csv (va_runS (As := [.int r_1]) (rest := []) ⟨hx, hb, hml, hown, hts⟩ (kt_ZQ_requirePlace l dC dI cI  r_1 _ hw) (va_cwS 1 hts (tb_S mm_239 mm_240 mm_1 mm_241) rfl rfl rfl (by decide +kernel) ⟨Nat.le_of_ble_eq_true rfl, Nat.le_of_ble_eq_true rfl⟩) ⟨gr_blind, fun U hU hW => gr_pre hPc hK hE hU hW⟩ rfl rfl hl.1 rfl (lv_room (Nat.le_of_ble_eq_true rfl)) dZQ_poke_11 ⟨Nat.le_of_ble_eq_true rfl, Nat.le_of_ble_eq_true rfl⟩).run (fun hw => ?_)
  refine lv_iload_n hx hb dZQ_poke_14 rfl (lv_at hl 2 rfl) ?_
  refine lv_iconst (v := (1 : Int32)) hx hb dZQ_poke_15 (by decide) ?_
  refine lv_icmp_lt (tgt := 26) hx hb dZQ_poke_16 (by decide) (fun c_3 => ?_) (fun c_3 => ?_)
  · have hw := hw.1 c_3
    exact False.elim hw
  · have hw := hw.2 c_3
    refine lv_iload_n hx hb dZQ_poke_19 rfl (lv_at hl 2 rfl) ?_
    refine lv_sipush (v := (255 : Int32)) hx hb dZQ_poke_20 (by decide) ?_
    refine lv_icmp_le (tgt := 36) hx hb dZQ_poke_23 (by decide) (fun c_4 => ?_) (fun c_4 => ?_)
    · have hw := hw.1 c_4
      refine lv_aload_n hx hb dZQ_poke_36 rfl (lv_at hl 0 rfl) ?_
      refine va_get (D := (dC, dI)) (ci := 5) (v := .ref ob) (C := RZQ) (T := TZQ) (N := 7) hx hb hts inZQ hown hK hP 0 rfl rfl 3 (by decide) (hts _ mm_139) (fun _ h9 => h9) rfl dZQ_poke_37 ?_
      refine va_get (D := (dC, dI)) (ci := 0) (v := .ref oba) (C := RZB) (T := TZB) (N := 2) hx hb hts inZB hown hK hP 6 rfl rfl 0 (by decide) (hts _ mm_77) (fun _ h9 => h9) rfl dZQ_poke_40 ?_
      refine lv_iload_n hx hb dZQ_poke_43 rfl (lv_at hl 1 rfl) ?_
      refine lv_dup2_11 hx hb dZQ_poke_44 rfl rfl ?_
      obtain ⟨h_5, hw⟩ := hw
      refine va_iald hx hb hK hP 7 0 rfl rfl h_5 dZQ_poke_45 ?_
      refine lv_iload_n hx hb dZQ_poke_46 rfl (lv_at hl 2 rfl) ?_
      refine lv_ixor hx hb dZQ_poke_47 ?_
      obtain ⟨h_6, hw⟩ := hw
      refine va_iast hx hb hK hP hD hS 7 0 rfl rfl h_6 dZQ_poke_48 (fun H locs hP hD hS => ?_)
      have hP : va_P (dC, dI) vwCl [(o0, .inr (5, [.ref op, .ref og, .ref oy, .ref ob, .ref os, .ref ot, .ref ou])), (op, .inr (1, [.int pw, .int ph, .ref opa])), (opa, .inl (cI, pn, .inl pf)), (og, .inr (1, [.int gw, .int gh, .ref oga])), (oga, .inl (cI, gn, .inl gf)), (oy, .inr (2, [.ref op, .int yk])), (ob, .inr (0, [.ref oba, .int bl])), (oba, .inl (cI, 256, .inl (upd bf a1.toNatClampNeg ((bf a1.toNatClampNeg) ^^^ a2)))), (os, .inr (3, [.ref op, .ref og, .ref osa, .ref osb, .int sd])), (osa, .inl (cI, kn, .inl kf)), (osb, .inl (cI, sn, .inl sf)), (ot, .inr (4, [.ref ota, .int tw, .int th])), (ota, .inl (cI, 64, .inl tf)), (ou, .inr (4, [.ref oua, .int uw, .int uh])), (oua, .inl (cI, 64, .inl uf))] H := hP
      have hD : va_D A [(o0, .inr (5, [.ref op, .ref og, .ref oy, .ref ob, .ref os, .ref ot, .ref ou])), (op, .inr (1, [.int pw, .int ph, .ref opa])), (opa, .inl (cI, pn, .inl pf)), (og, .inr (1, [.int gw, .int gh, .ref oga])), (oga, .inl (cI, gn, .inl gf)), (oy, .inr (2, [.ref op, .int yk])), (ob, .inr (0, [.ref oba, .int bl])), (oba, .inl (cI, 256, .inl (upd bf a1.toNatClampNeg ((bf a1.toNatClampNeg) ^^^ a2)))), (os, .inr (3, [.ref op, .ref og, .ref osa, .ref osb, .int sd])), (osa, .inl (cI, kn, .inl kf)), (osb, .inl (cI, sn, .inl sf)), (ot, .inr (4, [.ref ota, .int tw, .int th])), (ota, .inl (cI, 64, .inl tf)), (ou, .inr (4, [.ref oua, .int uw, .int uh])), (oua, .inl (cI, 64, .inl uf))] := hD
      refine lv_aload_n hx hb dZQ_poke_49 rfl (lv_at hl 0 rfl) ?_
      refine va_get (D := (dC, dI)) (ci := 5) (v := .ref ob) (C := RZQ) (T := TZQ) (N := 7) hx hb hts inZQ hown hK hP 0 rfl rfl 3 (by decide) (hts _ mm_139) (fun _ h9 => h9) rfl dZQ_poke_50 ?_
      refine va_get (D := (dC, dI)) (ci := 0) (v := .ref oba) (C := RZB) (T := TZB) (N := 2) hx hb hts inZB hown hK hP 6 rfl rfl 0 (by decide) (hts _ mm_77) (fun _ h9 => h9) rfl dZQ_poke_53 ?_
      refine lv_iload_n hx hb dZQ_poke_56 rfl (lv_at hl 1 rfl) ?_
      obtain ⟨h_7, hw⟩ := hw
      refine va_iald hx hb hK hP 7 0 rfl rfl h_7 dZQ_poke_57 ?_
      have hP9 := hP.sub (ws' := [(o0, .inr (5, [.ref op, .ref og, .ref oy, .ref ob, .ref os, .ref ot, .ref ou])), (op, .inr (1, [.int pw, .int ph, .ref opa])), (opa, .inl (cI, pn, .inl pf)), (og, .inr (1, [.int gw, .int gh, .ref oga])), (oga, .inl (cI, gn, .inl gf)), (oy, .inr (2, [.ref op, .int yk])), (ob, .inr (0, [.ref oba, .int bl])), (oba, .inl (cI, 256, .inl (upd bf a1.toNatClampNeg ((bf a1.toNatClampNeg) ^^^ a2)))), (os, .inr (3, [.ref op, .ref og, .ref osa, .ref osb, .int sd])), (osa, .inl (cI, kn, .inl kf)), (osb, .inl (cI, sn, .inl sf)), (ot, .inr (4, [.ref ota, .int tw, .int th])), (ota, .inl (cI, 64, .inl tf)), (ou, .inr (4, [.ref oua, .int uw, .int uh])), (oua, .inl (cI, 64, .inl uf))]) [0, 1, 2, 3, 4, 5, 6, 7, 8, 9, 10, 11, 12, 13, 14] rfl
      have hD9 := hD.sub (ws' := [(o0, .inr (5, [.ref op, .ref og, .ref oy, .ref ob, .ref os, .ref ot, .ref ou])), (op, .inr (1, [.int pw, .int ph, .ref opa])), (opa, .inl (cI, pn, .inl pf)), (og, .inr (1, [.int gw, .int gh, .ref oga])), (oga, .inl (cI, gn, .inl gf)), (oy, .inr (2, [.ref op, .int yk])), (ob, .inr (0, [.ref oba, .int bl])), (oba, .inl (cI, 256, .inl (upd bf a1.toNatClampNeg ((bf a1.toNatClampNeg) ^^^ a2)))), (os, .inr (3, [.ref op, .ref og, .ref osa, .ref osb, .int sd])), (osa, .inl (cI, kn, .inl kf)), (osb, .inl (cI, sn, .inl sf)), (ot, .inr (4, [.ref ota, .int tw, .int th])), (ota, .inl (cI, 64, .inl tf)), (ou, .inr (4, [.ref oua, .int uw, .int uh])), (oua, .inl (cI, 64, .inl uf))]) [0, 1, 2, 3, 4, 5, 6, 7, 8, 9, 10, 11, 12, 13, 14] (by decide) rfl
      subst hQ9
      exact W.iret (v := (upd bf a1.toNatClampNeg ((bf a1.toNatClampNeg) ^^^ a2)) a1.toNatClampNeg) hx hb hr (fun t ht hW => ⟨⟨(upd bf a1.toNatClampNeg ((bf a1.toNatClampNeg) ^^^ a2)) a1.toNatClampNeg, upd bf a1.toNatClampNeg ((bf a1.toNatClampNeg) ^^^ a2), rfl, hw, by rw [ht]; exact hP9, va_K.moved hW.alike hK, hD9⟩, hS.F ht⟩) hS.2.2 dZQ_poke_58
    · have hw := hw.2 c_4
      exact False.elim hw
def xp_ZQ_poke_I (pw : Int32) (ph : Int32) (pn : Nat) (pf : Nat → Int32) (gw : Int32) (gh : Int32) (gn : Nat) (gf : Nat → Int32) (yk : Int32) (bl : Int32) (bf : Nat → Int32) (kn : Nat) (kf : Nat → Int32) (sn : Nat) (sf : Nat → Int32) (sd : Int32) (tw : Int32) (th : Int32) (tf : Nat → Int32) (uw : Int32) (uh : Int32) (uf : Nat → Int32) (a1 : Int32) (a2 : Int32) : Prop := wp_ZQ_isWithin a1 bl (fun r_1 : Int32 => (xp_ZQ_requirePlace_I r_1) ∨ (wp_ZQ_requirePlace r_1 (((a2 < (1 : Int32) → False) ∧ (¬ a2 < (1 : Int32) → ((a2 ≤ (255 : Int32) → (vp_in a1 256 ∧ (False))) ∧ (¬ a2 ≤ (255 : Int32) → False)))))))
abbrev rm_ZQ_poke_I : Room := { frames := 7, cells := 1, slots := 6, locals := 111 }
set_option maxHeartbeats 4000000 in
set_option maxRecDepth 100000 in
theorem kx_ZQ_poke_I (l : Launch) (hl9 : l.stackTraces = false) (dC : Nat → ClassId) (dI : Nat → Nat → Nat) (cI : ClassId) (o0 op opa og oga oy ob oba os osa osb ot ota ou oua : Nat) (H0 : Heap) (pw : Int32) (ph : Int32) (pn : Nat) (pf : Nat → Int32) (gw : Int32) (gh : Int32) (gn : Nat) (gf : Nat → Int32) (yk : Int32) (bl : Int32) (bf : Nat → Int32) (kn : Nat) (kf : Nat → Int32) (sn : Nat) (sf : Nat → Int32) (sd : Int32) (tw : Int32) (th : Int32) (tf : Nat → Int32) (uw : Int32) (uh : Int32) (uf : Nat → Int32) (a1 : Int32) (a2 : Int32) (hw : xp_ZQ_poke_I pw ph pn pf gw gh gn gf yk bl bf kn kf sn sf sd tw th tf uw uh uf a1 a2) : tx_Met l yZQ_poke wsZQ_poke rm_ZQ_poke_I (tr_Pc H0 dC dI [(cI, .int)] [.ref o0, .int a1, .int a2] [(o0, .inr (5, [.ref op, .ref og, .ref oy, .ref ob, .ref os, .ref ot, .ref ou])), (op, .inr (1, [.int pw, .int ph, .ref opa])), (opa, .inl (cI, pn, .inl pf)), (og, .inr (1, [.int gw, .int gh, .ref oga])), (oga, .inl (cI, gn, .inl gf)), (oy, .inr (2, [.ref op, .int yk])), (ob, .inr (0, [.ref oba, .int bl])), (oba, .inl (cI, 256, .inl bf)), (os, .inr (3, [.ref op, .ref og, .ref osa, .ref osb, .int sd])), (osa, .inl (cI, kn, .inl kf)), (osb, .inl (cI, sn, .inl sf)), (ot, .inr (4, [.ref ota, .int tw, .int th])), (ota, .inl (cI, 64, .inl tf)), (ou, .inr (4, [.ref oua, .int uw, .int uh])), (oua, .inl (cI, 64, .inl uf))]) "java/lang/IndexOutOfBoundsException" := by
  refine tx_ofW (cc := cZQ_poke) (maxL := 3) (ret := (some .int)) (by decide) rfl ?_
  intro p e s m args below meth c s₁ B hml hnX hv
  obtain ⟨ha9, hP, hK, hE, hT⟩ := hv
  have hx := B.exec
  have hb := B.bytes
  have hr := B.returns
  have hts0 := atoms_spec (ws := wsZQ_poke) B.pre
  have hts : ∀ w ∈ tbg, w.before args s = true := fun w h => hts0 w (List.mem_cons_of_mem _ h)
  have hown : s.vm.findClass RZQ = some m.cls := findClass_of_methodNamed B.named
  have hlocks := B.notSynchronized
  refine gx_Q (fun Q9 hQ9 => ?_)
  have hl := lv_entry ([.ref o0, .int a1, .int a2]) (n := 3) (Nat.le_of_ble_eq_true rfl)
  have he9 : entryFrame m args 3 = F0 m 0 ((lg_sl [.ref o0, .int a1, .int a2] ++ List.replicate (3 - (lg_sl ([.ref o0, .int a1, .int a2] : List Value)).length) Slot.unset).toArray) [] := by rw [ha9]; exact lg_entry_eq m [.ref o0, .int a1, .int a2] 3
  rw [he9]
  generalize (lg_sl ([.ref o0, .int a1, .int a2] : List Value) ++ List.replicate (3 - (lg_sl ([.ref o0, .int a1, .int a2] : List Value)).length) Slot.unset).toArray = ls at hl ⊢
  have hl : lv_has ls 3 [(0, .ref o0), (1, .int a1), (2, .int a2)] := hl
  refine lv_iload_n hx hb dZQ_poke_0 rfl (lv_at hl 1 rfl) ?_
  refine lv_aload_n hx hb dZQ_poke_1 rfl (lv_at hl 0 rfl) ?_
  refine va_get (D := (dC, dI)) (ci := 5) (v := .ref ob) (C := RZQ) (T := TZQ) (N := 7) hx hb hts inZQ hown hK hP 0 rfl rfl 3 (by decide) (hts _ mm_139) (fun _ h9 => h9) rfl dZQ_poke_2 ?_
  refine va_get (D := (dC, dI)) (ci := 0) (v := .int bl) (C := RZB) (T := TZB) (N := 2) hx hb hts inZB hown hK hP 6 rfl rfl 1 (by decide) (hts _ mm_81) (fun _ h9 => h9) rfl dZQ_poke_5 ?_
  have hPc := hP.sub (ws' := []) [] rfl
  refine vp_callSi (va_runS (As := [.int a1, .int bl]) (rest := []) ⟨hx, hb, hml, hown, hts⟩ (kt_ZQ_isWithin l dC dI cI  a1 bl _ hw) (va_cwS 2 hts (tb_S mm_236 mm_237 mm_1 mm_238) rfl rfl rfl (by decide +kernel) ⟨Nat.le_of_ble_eq_true rfl, Nat.le_of_ble_eq_true rfl⟩) ⟨gr_blind, fun U hU hW => gr_pre hPc hK hE hU hW⟩ rfl rfl hl.1 rfl (lv_room (Nat.le_of_ble_eq_true rfl)) dZQ_poke_8 ⟨Nat.le_of_ble_eq_true rfl, Nat.le_of_ble_eq_true rfl⟩).run (fun r_1 hw => ?_)
  rcases hw with hw | hw
  · subst hQ9
    have hPx := hP.sub (ws' := []) [] rfl
    exact tx_callS (As := [.int r_1]) (rest := []) ⟨hx, hb, hml, hown, hts⟩ (kx_ZQ_requirePlace_I l hl9 dC dI cI  H0 r_1 hw) (va_cwS 1 hts (tb_S mm_239 mm_240 mm_1 mm_241) rfl rfl rfl (by decide +kernel) ⟨Nat.le_of_ble_eq_true rfl, Nat.le_of_ble_eq_true rfl⟩) ⟨tr_blind, fun U hU hW => tr_pre hPx hK hE hT hT.1 hU hW⟩ rfl hl.1 rfl (Nat.le_of_ble_eq_true rfl) dZQ_poke_11 hnX hlocks ⟨Nat.le_of_ble_eq_true rfl, Nat.le_of_ble_eq_true rfl⟩
  have hPc := hP.sub (ws' := []) [] rfl
  refine va_csv (va_runS (As := [.int r_1]) (rest := []) ⟨hx, hb, hml, hown, hts⟩ (kt_ZQ_requirePlace l dC dI cI  r_1 _ hw) (va_cwS 1 hts (tb_S mm_239 mm_240 mm_1 mm_241) rfl rfl rfl (by decide +kernel) ⟨Nat.le_of_ble_eq_true rfl, Nat.le_of_ble_eq_true rfl⟩) ⟨gr_blind, fun U hU hW => gr_pre hPc hK hE hU hW⟩ rfl rfl hl.1 rfl (lv_room (Nat.le_of_ble_eq_true rfl)) dZQ_poke_11 ⟨Nat.le_of_ble_eq_true rfl, Nat.le_of_ble_eq_true rfl⟩).run (fun hw => ?_)
  refine lv_iload_n hx hb dZQ_poke_14 rfl (lv_at hl 2 rfl) ?_
  refine lv_iconst (v := (1 : Int32)) hx hb dZQ_poke_15 (by decide) ?_
  refine lv_icmp_lt (tgt := 26) hx hb dZQ_poke_16 (by decide) (fun c_3 => ?_) (fun c_3 => ?_)
  · have hw := hw.1 c_3
    exact False.elim hw
  · have hw := hw.2 c_3
    refine lv_iload_n hx hb dZQ_poke_19 rfl (lv_at hl 2 rfl) ?_
    refine lv_sipush (v := (255 : Int32)) hx hb dZQ_poke_20 (by decide) ?_
    refine lv_icmp_le (tgt := 36) hx hb dZQ_poke_23 (by decide) (fun c_4 => ?_) (fun c_4 => ?_)
    · have hw := hw.1 c_4
      refine lv_aload_n hx hb dZQ_poke_36 rfl (lv_at hl 0 rfl) ?_
      refine va_get (D := (dC, dI)) (ci := 5) (v := .ref ob) (C := RZQ) (T := TZQ) (N := 7) hx hb hts inZQ hown hK hP 0 rfl rfl 3 (by decide) (hts _ mm_139) (fun _ h9 => h9) rfl dZQ_poke_37 ?_
      refine va_get (D := (dC, dI)) (ci := 0) (v := .ref oba) (C := RZB) (T := TZB) (N := 2) hx hb hts inZB hown hK hP 6 rfl rfl 0 (by decide) (hts _ mm_77) (fun _ h9 => h9) rfl dZQ_poke_40 ?_
      refine lv_iload_n hx hb dZQ_poke_43 rfl (lv_at hl 1 rfl) ?_
      refine lv_dup2_11 hx hb dZQ_poke_44 rfl rfl ?_
      obtain ⟨h_5, hw⟩ := hw
      refine va_iald hx hb hK hP 7 0 rfl rfl h_5 dZQ_poke_45 ?_
      refine lv_iload_n hx hb dZQ_poke_46 rfl (lv_at hl 2 rfl) ?_
      refine lv_ixor hx hb dZQ_poke_47 ?_
      exact False.elim hw
    · have hw := hw.2 c_4
      exact False.elim hw
def xp_ZQ_poke_A (pw : Int32) (ph : Int32) (pn : Nat) (pf : Nat → Int32) (gw : Int32) (gh : Int32) (gn : Nat) (gf : Nat → Int32) (yk : Int32) (bl : Int32) (bf : Nat → Int32) (kn : Nat) (kf : Nat → Int32) (sn : Nat) (sf : Nat → Int32) (sd : Int32) (tw : Int32) (th : Int32) (tf : Nat → Int32) (uw : Int32) (uh : Int32) (uf : Nat → Int32) (a1 : Int32) (a2 : Int32) : Prop := wp_ZQ_isWithin a1 bl (fun r_1 : Int32 => wp_ZQ_requirePlace r_1 (((a2 < (1 : Int32) → True) ∧ (¬ a2 < (1 : Int32) → ((a2 ≤ (255 : Int32) → (vp_in a1 256 ∧ (False))) ∧ (¬ a2 ≤ (255 : Int32) → True))))))
abbrev rm_ZQ_poke_A : Room := { frames := 6, cells := 1, slots := 6, locals := 91 }
set_option maxHeartbeats 4000000 in
set_option maxRecDepth 100000 in
theorem kx_ZQ_poke_A (l : Launch) (hl9 : l.stackTraces = false) (dC : Nat → ClassId) (dI : Nat → Nat → Nat) (cI : ClassId) (o0 op opa og oga oy ob oba os osa osb ot ota ou oua : Nat) (H0 : Heap) (pw : Int32) (ph : Int32) (pn : Nat) (pf : Nat → Int32) (gw : Int32) (gh : Int32) (gn : Nat) (gf : Nat → Int32) (yk : Int32) (bl : Int32) (bf : Nat → Int32) (kn : Nat) (kf : Nat → Int32) (sn : Nat) (sf : Nat → Int32) (sd : Int32) (tw : Int32) (th : Int32) (tf : Nat → Int32) (uw : Int32) (uh : Int32) (uf : Nat → Int32) (a1 : Int32) (a2 : Int32) (hw : xp_ZQ_poke_A pw ph pn pf gw gh gn gf yk bl bf kn kf sn sf sd tw th tf uw uh uf a1 a2) : tx_Met l yZQ_poke wsZQ_poke rm_ZQ_poke_A (tr_Pc H0 dC dI [(cI, .int)] [.ref o0, .int a1, .int a2] [(o0, .inr (5, [.ref op, .ref og, .ref oy, .ref ob, .ref os, .ref ot, .ref ou])), (op, .inr (1, [.int pw, .int ph, .ref opa])), (opa, .inl (cI, pn, .inl pf)), (og, .inr (1, [.int gw, .int gh, .ref oga])), (oga, .inl (cI, gn, .inl gf)), (oy, .inr (2, [.ref op, .int yk])), (ob, .inr (0, [.ref oba, .int bl])), (oba, .inl (cI, 256, .inl bf)), (os, .inr (3, [.ref op, .ref og, .ref osa, .ref osb, .int sd])), (osa, .inl (cI, kn, .inl kf)), (osb, .inl (cI, sn, .inl sf)), (ot, .inr (4, [.ref ota, .int tw, .int th])), (ota, .inl (cI, 64, .inl tf)), (ou, .inr (4, [.ref oua, .int uw, .int uh])), (oua, .inl (cI, 64, .inl uf))]) "java/lang/IllegalArgumentException" := by
  refine tx_ofW (cc := cZQ_poke) (maxL := 3) (ret := (some .int)) (by decide) rfl ?_
  intro p e s m args below meth c s₁ B hml hnX hv
  obtain ⟨ha9, hP, hK, hE, hT⟩ := hv
  have hx := B.exec
  have hb := B.bytes
  have hr := B.returns
  have hts0 := atoms_spec (ws := wsZQ_poke) B.pre
  have hts : ∀ w ∈ tbg, w.before args s = true := fun w h => hts0 w (List.mem_cons_of_mem _ h)
  have hown : s.vm.findClass RZQ = some m.cls := findClass_of_methodNamed B.named
  have hlocks := B.notSynchronized
  refine gx_Q (fun Q9 hQ9 => ?_)
  have hl := lv_entry ([.ref o0, .int a1, .int a2]) (n := 3) (Nat.le_of_ble_eq_true rfl)
  have he9 : entryFrame m args 3 = F0 m 0 ((lg_sl [.ref o0, .int a1, .int a2] ++ List.replicate (3 - (lg_sl ([.ref o0, .int a1, .int a2] : List Value)).length) Slot.unset).toArray) [] := by rw [ha9]; exact lg_entry_eq m [.ref o0, .int a1, .int a2] 3
  rw [he9]
  generalize (lg_sl ([.ref o0, .int a1, .int a2] : List Value) ++ List.replicate (3 - (lg_sl ([.ref o0, .int a1, .int a2] : List Value)).length) Slot.unset).toArray = ls at hl ⊢
  have hl : lv_has ls 3 [(0, .ref o0), (1, .int a1), (2, .int a2)] := hl
  refine lv_iload_n hx hb dZQ_poke_0 rfl (lv_at hl 1 rfl) ?_
  refine lv_aload_n hx hb dZQ_poke_1 rfl (lv_at hl 0 rfl) ?_
  refine va_get (D := (dC, dI)) (ci := 5) (v := .ref ob) (C := RZQ) (T := TZQ) (N := 7) hx hb hts inZQ hown hK hP 0 rfl rfl 3 (by decide) (hts _ mm_139) (fun _ h9 => h9) rfl dZQ_poke_2 ?_
  refine va_get (D := (dC, dI)) (ci := 0) (v := .int bl) (C := RZB) (T := TZB) (N := 2) hx hb hts inZB hown hK hP 6 rfl rfl 1 (by decide) (hts _ mm_81) (fun _ h9 => h9) rfl dZQ_poke_5 ?_
  have hPc := hP.sub (ws' := []) [] rfl
  refine vp_callSi (va_runS (As := [.int a1, .int bl]) (rest := []) ⟨hx, hb, hml, hown, hts⟩ (kt_ZQ_isWithin l dC dI cI  a1 bl _ hw) (va_cwS 2 hts (tb_S mm_236 mm_237 mm_1 mm_238) rfl rfl rfl (by decide +kernel) ⟨Nat.le_of_ble_eq_true rfl, Nat.le_of_ble_eq_true rfl⟩) ⟨gr_blind, fun U hU hW => gr_pre hPc hK hE hU hW⟩ rfl rfl hl.1 rfl (lv_room (Nat.le_of_ble_eq_true rfl)) dZQ_poke_8 ⟨Nat.le_of_ble_eq_true rfl, Nat.le_of_ble_eq_true rfl⟩).run (fun r_1 hw => ?_)
  have hPc := hP.sub (ws' := []) [] rfl
  refine va_csv (va_runS (As := [.int r_1]) (rest := []) ⟨hx, hb, hml, hown, hts⟩ (kt_ZQ_requirePlace l dC dI cI  r_1 _ hw) (va_cwS 1 hts (tb_S mm_239 mm_240 mm_1 mm_241) rfl rfl rfl (by decide +kernel) ⟨Nat.le_of_ble_eq_true rfl, Nat.le_of_ble_eq_true rfl⟩) ⟨gr_blind, fun U hU hW => gr_pre hPc hK hE hU hW⟩ rfl rfl hl.1 rfl (lv_room (Nat.le_of_ble_eq_true rfl)) dZQ_poke_11 ⟨Nat.le_of_ble_eq_true rfl, Nat.le_of_ble_eq_true rfl⟩).run (fun hw => ?_)
  refine lv_iload_n hx hb dZQ_poke_14 rfl (lv_at hl 2 rfl) ?_
  refine lv_iconst (v := (1 : Int32)) hx hb dZQ_poke_15 (by decide) ?_
  refine lv_icmp_lt (tgt := 26) hx hb dZQ_poke_16 (by decide) (fun c_3 => ?_) (fun c_3 => ?_)
  · have hw := hw.1 c_3
    obtain ⟨sa9, hst9⟩ := gxE_19 hE
    subst hQ9
    exact tx_throw (own := RZQ) (cls := "java/lang/IllegalArgumentException") (names := ["java/lang/RuntimeException", "java/lang/Exception"]) hx hb hl9 hown (by decide +kernel) (by decide +kernel) (hts _ mm_314) (hts _ mm_13) (hts _ mm_315) hst9 (ax_1 hts hE hT) (hl.1.trans hml.symm) dZQ_poke_26 dZQ_poke_29 dZQ_poke_30 dZQ_poke_32 dZQ_poke_35 hnX (Nat.le_of_ble_eq_true rfl) (Nat.le_of_ble_eq_true rfl) (Nat.le_of_ble_eq_true rfl) (Nat.le_of_ble_eq_true rfl) hlocks
  · have hw := hw.2 c_3
    refine lv_iload_n hx hb dZQ_poke_19 rfl (lv_at hl 2 rfl) ?_
    refine lv_sipush (v := (255 : Int32)) hx hb dZQ_poke_20 (by decide) ?_
    refine lv_icmp_le (tgt := 36) hx hb dZQ_poke_23 (by decide) (fun c_4 => ?_) (fun c_4 => ?_)
    · have hw := hw.1 c_4
      refine lv_aload_n hx hb dZQ_poke_36 rfl (lv_at hl 0 rfl) ?_
      refine va_get (D := (dC, dI)) (ci := 5) (v := .ref ob) (C := RZQ) (T := TZQ) (N := 7) hx hb hts inZQ hown hK hP 0 rfl rfl 3 (by decide) (hts _ mm_139) (fun _ h9 => h9) rfl dZQ_poke_37 ?_
      refine va_get (D := (dC, dI)) (ci := 0) (v := .ref oba) (C := RZB) (T := TZB) (N := 2) hx hb hts inZB hown hK hP 6 rfl rfl 0 (by decide) (hts _ mm_77) (fun _ h9 => h9) rfl dZQ_poke_40 ?_
      refine lv_iload_n hx hb dZQ_poke_43 rfl (lv_at hl 1 rfl) ?_
      refine lv_dup2_11 hx hb dZQ_poke_44 rfl rfl ?_
      obtain ⟨h_5, hw⟩ := hw
      refine va_iald hx hb hK hP 7 0 rfl rfl h_5 dZQ_poke_45 ?_
      refine lv_iload_n hx hb dZQ_poke_46 rfl (lv_at hl 2 rfl) ?_
      refine lv_ixor hx hb dZQ_poke_47 ?_
      exact False.elim hw
    · have hw := hw.2 c_4
      obtain ⟨sa9, hst9⟩ := gxE_19 hE
      subst hQ9
      exact tx_throw (own := RZQ) (cls := "java/lang/IllegalArgumentException") (names := ["java/lang/RuntimeException", "java/lang/Exception"]) hx hb hl9 hown (by decide +kernel) (by decide +kernel) (hts _ mm_314) (hts _ mm_13) (hts _ mm_315) hst9 (ax_1 hts hE hT) (hl.1.trans hml.symm) dZQ_poke_26 dZQ_poke_29 dZQ_poke_30 dZQ_poke_32 dZQ_poke_35 hnX (Nat.le_of_ble_eq_true rfl) (Nat.le_of_ble_eq_true rfl) (Nat.le_of_ble_eq_true rfl) (Nat.le_of_ble_eq_true rfl) hlocks
