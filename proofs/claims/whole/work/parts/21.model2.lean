theorem dZM_throwing_0 : decode cZM_throwing 0 = .ok (.aload_n 0, 1) := by decide +kernel
theorem dZM_throwing_1 : decode cZM_throwing 1 = .ok (.iload_n 1, 1) := by decide +kernel
theorem dZM_throwing_2 : decode cZM_throwing 2 = .ok (.ifCond .eq 7, 3) := by decide +kernel
theorem dZM_throwing_5 : decode cZM_throwing 5 = .ok (.iconst 1, 1) := by decide +kernel
theorem dZM_throwing_6 : decode cZM_throwing 6 = .ok (.goto 12, 3) := by decide +kernel
theorem dZM_throwing_9 : decode cZM_throwing 9 = .ok (.iload_n 2, 1) := by decide +kernel
theorem dZM_throwing_10 : decode cZM_throwing 10 = .ok (.ifCond .eq 7, 3) := by decide +kernel
theorem dZM_throwing_13 : decode cZM_throwing 13 = .ok (.iconst 2, 1) := by decide +kernel
theorem dZM_throwing_14 : decode cZM_throwing 14 = .ok (.goto 4, 3) := by decide +kernel
theorem dZM_throwing_17 : decode cZM_throwing 17 = .ok (.iconst 0, 1) := by decide +kernel
theorem dZM_throwing_18 : decode cZM_throwing 18 = .ok (.putfield 45, 3) := by decide +kernel
theorem dZM_throwing_21 : decode cZM_throwing 21 = .ok (.aload_n 0, 1) := by decide +kernel
theorem dZM_throwing_22 : decode cZM_throwing 22 = .ok (.getfield 45, 3) := by decide +kernel
theorem dZM_throwing_25 : decode cZM_throwing 25 = .ok (.ifCond .le 7, 3) := by decide +kernel
theorem dZM_throwing_28 : decode cZM_throwing 28 = .ok (.iconst 1, 1) := by decide +kernel
theorem dZM_throwing_29 : decode cZM_throwing 29 = .ok (.goto 4, 3) := by decide +kernel
theorem dZM_throwing_32 : decode cZM_throwing 32 = .ok (.iconst 0, 1) := by decide +kernel
theorem dZM_throwing_33 : decode cZM_throwing 33 = .ok (.ireturn, 1) := by decide +kernel
abbrev wsZM_throwing : List Cond := .code yZM_throwing cZM_throwing 3 (some .boolean) :: tbg
def wp_ZM_throwing (zt : Int32) (zw : Int32) (zh : Int32) (zp : Nat → Int32) (zs : Nat → Int32) (zb : Nat → Int32) (zz : Int32) (zl : Nat → Int32) (zo : Nat → Int32) (zc : Int32) (zr : Int32) (zu : Int32) (zv : Int32) (zq : Int32) (zi : Int32) (zk : Nat → Int32) (zm : Nat → Int32) (zd : Int32) (zg : Nat → Int32) (a1 : Int32) (a2 : Int32) (post : Int32 → Int32 → Prop) : Prop := ∃ J18 : Int32 → Prop, (∀ (t0_j18 : Int32), J18 t0_j18 → ((t0_j18 ≤ (0 : Int32) → (post (0 : Int32) t0_j18)) ∧ (¬ t0_j18 ≤ (0 : Int32) → (post (1 : Int32) t0_j18)))) ∧ (((a1 = (0 : Int32) → ((a2 = (0 : Int32) → (J18 (0 : Int32))) ∧ (¬ a2 = (0 : Int32) → (J18 (2 : Int32))))) ∧ (¬ a1 = (0 : Int32) → (J18 (1 : Int32)))))
abbrev rm_ZM_throwing : Room := { frames := 0, cells := 0, slots := 0, locals := 0 }
set_option maxHeartbeats 4000000 in
set_option maxRecDepth 100000 in
theorem kt_ZM_throwing (l : Launch) (dC : Nat → ClassId) (dI : Nat → Nat → Nat) (cI : ClassId) (om ozp ozs ozb ozl ozo ozk ozm ozg : Nat) (sz : Nat) (zt : Int32) (zw : Int32) (zh : Int32) (zp : Nat → Int32) (zs : Nat → Int32) (zb : Nat → Int32) (zz : Int32) (zl : Nat → Int32) (zo : Nat → Int32) (zc : Int32) (zr : Int32) (zu : Int32) (zv : Int32) (zq : Int32) (zi : Int32) (zk : Nat → Int32) (zm : Nat → Int32) (zd : Int32) (zg : Nat → Int32) (a1 : Int32) (a2 : Int32) (post : Int32 → Int32 → Prop) (hw : wp_ZM_throwing zt zw zh zp zs zb zz zl zo zc zr zu zv zq zi zk zm zd zg a1 a2 post) : Met l yZM_throwing wsZM_throwing rm_ZM_throwing (gw_Pc dC dI [(cI, .int)] [.ref om, .int a1, .int a2] [(om, .inr (6, [.int zt, .int zw, .int zh, .ref ozp, .ref ozs, .ref ozb, .int zz, .ref ozl, .ref ozo, .int zc, .int zr, .int zu, .int zv, .int zq, .int zi, .ref ozk, .ref ozm, .int zd, .ref ozg])), (ozp, .inl (cI, 1600, .inl zp)), (ozs, .inl (cI, 320, .inl zs)), (ozb, .inl (cI, 256, .inl zb)), (ozl, .inl (cI, 64, .inl zl)), (ozo, .inl (cI, 64, .inl zo)), (ozk, .inl (cI, 320, .inl zk)), (ozm, .inl (cI, 40, .inl zm)), (ozg, .inl (cI, 64, .inl zg))] sz) (va_Qi (fun (r : Int32) (u : Int32) => post r u) (fun u t => gw_B dC dI [(cI, .int)] (va_A [(om, .inr (6, [.int zt, .int zw, .int zh, .ref ozp, .ref ozs, .ref ozb, .int zz, .ref ozl, .ref ozo, .int zc, .int zr, .int zu, .int zv, .int zq, .int zi, .ref ozk, .ref ozm, .int zd, .ref ozg])), (ozp, .inl (cI, 1600, .inl zp)), (ozs, .inl (cI, 320, .inl zs)), (ozb, .inl (cI, 256, .inl zb)), (ozl, .inl (cI, 64, .inl zl)), (ozo, .inl (cI, 64, .inl zo)), (ozk, .inl (cI, 320, .inl zk)), (ozm, .inl (cI, 40, .inl zm)), (ozg, .inl (cI, 64, .inl zg))] sz) [(om, .inr (6, [.int u, .int zw, .int zh, .ref ozp, .ref ozs, .ref ozb, .int zz, .ref ozl, .ref ozo, .int zc, .int zr, .int zu, .int zv, .int zq, .int zi, .ref ozk, .ref ozm, .int zd, .ref ozg])), (ozp, .inl (cI, 1600, .inl zp)), (ozs, .inl (cI, 320, .inl zs)), (ozb, .inl (cI, 256, .inl zb)), (ozl, .inl (cI, 64, .inl zl)), (ozo, .inl (cI, 64, .inl zo)), (ozk, .inl (cI, 320, .inl zk)), (ozm, .inl (cI, 40, .inl zm)), (ozg, .inl (cI, 64, .inl zg))] t) (va_A [(om, .inr (6, [.int zt, .int zw, .int zh, .ref ozp, .ref ozs, .ref ozb, .int zz, .ref ozl, .ref ozo, .int zc, .int zr, .int zu, .int zv, .int zq, .int zi, .ref ozk, .ref ozm, .int zd, .ref ozg])), (ozp, .inl (cI, 1600, .inl zp)), (ozs, .inl (cI, 320, .inl zs)), (ozb, .inl (cI, 256, .inl zb)), (ozl, .inl (cI, 64, .inl zl)), (ozo, .inl (cI, 64, .inl zo)), (ozk, .inl (cI, 320, .inl zk)), (ozm, .inl (cI, 40, .inl zm)), (ozg, .inl (cI, 64, .inl zg))] sz)) 0 0 (va_A [(om, .inr (6, [.int zt, .int zw, .int zh, .ref ozp, .ref ozs, .ref ozb, .int zz, .ref ozl, .ref ozo, .int zc, .int zr, .int zu, .int zv, .int zq, .int zi, .ref ozk, .ref ozm, .int zd, .ref ozg])), (ozp, .inl (cI, 1600, .inl zp)), (ozs, .inl (cI, 320, .inl zs)), (ozb, .inl (cI, 256, .inl zb)), (ozl, .inl (cI, 64, .inl zl)), (ozo, .inl (cI, 64, .inl zo)), (ozk, .inl (cI, 320, .inl zk)), (ozm, .inl (cI, 40, .inl zm)), (ozg, .inl (cI, 64, .inl zg))] sz) := by
  refine Met.ofW (cc := cZM_throwing) (maxL := 3) (ret := (some .boolean)) (by decide) rfl ?_
  intro p e s m args below meth c s₁ B hml hv
  obtain ⟨ha9, hsz, hP, hK, hE, hD0⟩ := hv
  have hx := B.exec
  have hb := B.bytes
  have hr := B.returns
  have hts0 := atoms_spec (ws := wsZM_throwing) B.pre
  have hts : ∀ w ∈ tbg, w.before args s = true := fun w h => hts0 w (List.mem_cons_of_mem _ h)
  have hown : s.vm.findClass RZM = some m.cls := findClass_of_methodNamed B.named
  have hlocks := B.notSynchronized
  subst hsz
  have hD := hD0.self (sz := s.heap.size)
  refine gx_Q (fun Q9 hQ9 => ?_)
  generalize hAe : va_A [(om, .inr (6, [.int zt, .int zw, .int zh, .ref ozp, .ref ozs, .ref ozb, .int zz, .ref ozl, .ref ozo, .int zc, .int zr, .int zu, .int zv, .int zq, .int zi, .ref ozk, .ref ozm, .int zd, .ref ozg])), (ozp, .inl (cI, 1600, .inl zp)), (ozs, .inl (cI, 320, .inl zs)), (ozb, .inl (cI, 256, .inl zb)), (ozl, .inl (cI, 64, .inl zl)), (ozo, .inl (cI, 64, .inl zo)), (ozk, .inl (cI, 320, .inl zk)), (ozm, .inl (cI, 40, .inl zm)), (ozg, .inl (cI, 64, .inl zg))] s.heap.size = A at hD hQ9 ⊢
  have hA : ∀ q : Nat, s.heap.size ≤ q → A q := fun q h => by rw [← hAe]; exact Or.inr h
  have hS : va_S A s.heap s.heap [] := va_S.rf
  have hl := lv_entry ([.ref om, .int a1, .int a2]) (n := 3) (Nat.le_of_ble_eq_true rfl)
  have he9 : entryFrame m args 3 = F0 m 0 ((lg_sl [.ref om, .int a1, .int a2] ++ List.replicate (3 - (lg_sl ([.ref om, .int a1, .int a2] : List Value)).length) Slot.unset).toArray) [] := by rw [ha9]; exact lg_entry_eq m [.ref om, .int a1, .int a2] 3
  rw [he9]
  generalize (lg_sl ([.ref om, .int a1, .int a2] : List Value) ++ List.replicate (3 - (lg_sl ([.ref om, .int a1, .int a2] : List Value)).length) Slot.unset).toArray = ls at hl ⊢
  have hl : lv_has ls 3 [(0, .ref om), (1, .int a1), (2, .int a2)] := hl
  refine lv_aload_n hx hb dZM_throwing_0 rfl (lv_at hl 0 rfl) ?_
  refine lv_iload_n hx hb dZM_throwing_1 rfl (lv_at hl 1 rfl) ?_
  obtain ⟨J18, hJ18, hw⟩ := hw
  have j18 : ∀ (t0_j18 : Int32), J18 t0_j18 → ∀ (H : Heap) (locs : List Loc), va_P (dC, dI) vwCl [(om, .inr (6, [.int zt, .int zw, .int zh, .ref ozp, .ref ozs, .ref ozb, .int zz, .ref ozl, .ref ozo, .int zc, .int zr, .int zu, .int zv, .int zq, .int zi, .ref ozk, .ref ozm, .int zd, .ref ozg])), (ozp, .inl (cI, 1600, .inl zp)), (ozs, .inl (cI, 320, .inl zs)), (ozb, .inl (cI, 256, .inl zb)), (ozl, .inl (cI, 64, .inl zl)), (ozo, .inl (cI, 64, .inl zo)), (ozk, .inl (cI, 320, .inl zk)), (ozm, .inl (cI, 40, .inl zm)), (ozg, .inl (cI, 64, .inl zg))] H → va_D A [(om, .inr (6, [.int zt, .int zw, .int zh, .ref ozp, .ref ozs, .ref ozb, .int zz, .ref ozl, .ref ozo, .int zc, .int zr, .int zu, .int zv, .int zq, .int zi, .ref ozk, .ref ozm, .int zd, .ref ozg])), (ozp, .inl (cI, 1600, .inl zp)), (ozs, .inl (cI, 320, .inl zs)), (ozb, .inl (cI, 256, .inl zb)), (ozl, .inl (cI, 64, .inl zl)), (ozo, .inl (cI, 64, .inl zo)), (ozk, .inl (cI, 320, .inl zk)), (ozm, .inl (cI, 40, .inl zm)), (ozg, .inl (cI, 64, .inl zg))] → va_S A s.heap H locs → ∀ ls : Array Slot, lv_has ls 3 [(0, .ref om), (1, .int a1), (2, .int a2)] → W p l e (headSpec wsZM_throwing rm_ZM_throwing).room s m args below meth c H locs 0 0 Q9 (F0 m 18 ls [.int t0_j18, .ref om]) := by
    intro t0_j18 hw H locs hP hD hS ls hl
    have hw := hJ18 t0_j18 hw
    refine va_put (D := (dC, dI)) (ci := 6) (v := .int t0_j18) (ty := .int) (C := RZM) (T := TZM) (N := 19) hx hb hts inZM tyZM tyZM_ok nmZM hown hK hP hD hS 0 rfl rfl 0 (by decide) (hts _ mm_618) (fun _ h9 => h9) rfl (by decide +kernel) rfl rfl (Nat.le_of_ble_eq_true rfl) dZM_throwing_18 (fun H locs hP hD hS => ?_)
    have hP : va_P (dC, dI) vwCl [(om, .inr (6, [.int t0_j18, .int zw, .int zh, .ref ozp, .ref ozs, .ref ozb, .int zz, .ref ozl, .ref ozo, .int zc, .int zr, .int zu, .int zv, .int zq, .int zi, .ref ozk, .ref ozm, .int zd, .ref ozg])), (ozp, .inl (cI, 1600, .inl zp)), (ozs, .inl (cI, 320, .inl zs)), (ozb, .inl (cI, 256, .inl zb)), (ozl, .inl (cI, 64, .inl zl)), (ozo, .inl (cI, 64, .inl zo)), (ozk, .inl (cI, 320, .inl zk)), (ozm, .inl (cI, 40, .inl zm)), (ozg, .inl (cI, 64, .inl zg))] H := hP
    have hD : va_D A [(om, .inr (6, [.int t0_j18, .int zw, .int zh, .ref ozp, .ref ozs, .ref ozb, .int zz, .ref ozl, .ref ozo, .int zc, .int zr, .int zu, .int zv, .int zq, .int zi, .ref ozk, .ref ozm, .int zd, .ref ozg])), (ozp, .inl (cI, 1600, .inl zp)), (ozs, .inl (cI, 320, .inl zs)), (ozb, .inl (cI, 256, .inl zb)), (ozl, .inl (cI, 64, .inl zl)), (ozo, .inl (cI, 64, .inl zo)), (ozk, .inl (cI, 320, .inl zk)), (ozm, .inl (cI, 40, .inl zm)), (ozg, .inl (cI, 64, .inl zg))] := hD
    refine lv_aload_n hx hb dZM_throwing_21 rfl (lv_at hl 0 rfl) ?_
    refine va_get (D := (dC, dI)) (ci := 6) (v := .int t0_j18) (C := RZM) (T := TZM) (N := 19) hx hb hts inZM hown hK hP 0 rfl rfl 0 (by decide) (hts _ mm_618) (fun _ h9 => h9) rfl dZM_throwing_22 ?_
    refine lv_if_le (tgt := 32) hx hb dZM_throwing_25 (by decide) (fun c_1 => ?_) (fun c_1 => ?_)
    · have hw := hw.1 c_1
      refine lv_iconst (v := (0 : Int32)) hx hb dZM_throwing_32 (by decide) ?_
      have hP9 := hP.sub (ws' := [(om, .inr (6, [.int t0_j18, .int zw, .int zh, .ref ozp, .ref ozs, .ref ozb, .int zz, .ref ozl, .ref ozo, .int zc, .int zr, .int zu, .int zv, .int zq, .int zi, .ref ozk, .ref ozm, .int zd, .ref ozg])), (ozp, .inl (cI, 1600, .inl zp)), (ozs, .inl (cI, 320, .inl zs)), (ozb, .inl (cI, 256, .inl zb)), (ozl, .inl (cI, 64, .inl zl)), (ozo, .inl (cI, 64, .inl zo)), (ozk, .inl (cI, 320, .inl zk)), (ozm, .inl (cI, 40, .inl zm)), (ozg, .inl (cI, 64, .inl zg))]) [0, 1, 2, 3, 4, 5, 6, 7, 8] rfl
      have hD9 := hD.sub (ws' := [(om, .inr (6, [.int t0_j18, .int zw, .int zh, .ref ozp, .ref ozs, .ref ozb, .int zz, .ref ozl, .ref ozo, .int zc, .int zr, .int zu, .int zv, .int zq, .int zi, .ref ozk, .ref ozm, .int zd, .ref ozg])), (ozp, .inl (cI, 1600, .inl zp)), (ozs, .inl (cI, 320, .inl zs)), (ozb, .inl (cI, 256, .inl zb)), (ozl, .inl (cI, 64, .inl zl)), (ozo, .inl (cI, 64, .inl zo)), (ozk, .inl (cI, 320, .inl zk)), (ozm, .inl (cI, 40, .inl zm)), (ozg, .inl (cI, 64, .inl zg))]) [0, 1, 2, 3, 4, 5, 6, 7, 8] (by decide) rfl
      subst hQ9
      exact W.zret (v := (0 : Int32)) (ty := .boolean) hx hb hr rfl (fun t ht hW => ⟨⟨(0 : Int32), t0_j18, rfl, hw, by rw [ht]; exact hP9, va_K.moved hW.alike hK, hD9⟩, hS.F ht⟩) hS.2.2 dZM_throwing_33
    · have hw := hw.2 c_1
      refine lv_iconst (v := (1 : Int32)) hx hb dZM_throwing_28 (by decide) ?_
      refine lv_goto (tgt := 33) hx hb dZM_throwing_29 (by decide) ?_
      have hP9 := hP.sub (ws' := [(om, .inr (6, [.int t0_j18, .int zw, .int zh, .ref ozp, .ref ozs, .ref ozb, .int zz, .ref ozl, .ref ozo, .int zc, .int zr, .int zu, .int zv, .int zq, .int zi, .ref ozk, .ref ozm, .int zd, .ref ozg])), (ozp, .inl (cI, 1600, .inl zp)), (ozs, .inl (cI, 320, .inl zs)), (ozb, .inl (cI, 256, .inl zb)), (ozl, .inl (cI, 64, .inl zl)), (ozo, .inl (cI, 64, .inl zo)), (ozk, .inl (cI, 320, .inl zk)), (ozm, .inl (cI, 40, .inl zm)), (ozg, .inl (cI, 64, .inl zg))]) [0, 1, 2, 3, 4, 5, 6, 7, 8] rfl
      have hD9 := hD.sub (ws' := [(om, .inr (6, [.int t0_j18, .int zw, .int zh, .ref ozp, .ref ozs, .ref ozb, .int zz, .ref ozl, .ref ozo, .int zc, .int zr, .int zu, .int zv, .int zq, .int zi, .ref ozk, .ref ozm, .int zd, .ref ozg])), (ozp, .inl (cI, 1600, .inl zp)), (ozs, .inl (cI, 320, .inl zs)), (ozb, .inl (cI, 256, .inl zb)), (ozl, .inl (cI, 64, .inl zl)), (ozo, .inl (cI, 64, .inl zo)), (ozk, .inl (cI, 320, .inl zk)), (ozm, .inl (cI, 40, .inl zm)), (ozg, .inl (cI, 64, .inl zg))]) [0, 1, 2, 3, 4, 5, 6, 7, 8] (by decide) rfl
      subst hQ9
      exact W.zret (v := (1 : Int32)) (ty := .boolean) hx hb hr rfl (fun t ht hW => ⟨⟨(1 : Int32), t0_j18, rfl, hw, by rw [ht]; exact hP9, va_K.moved hW.alike hK, hD9⟩, hS.F ht⟩) hS.2.2 dZM_throwing_33
  refine lv_if_eq (tgt := 9) hx hb dZM_throwing_2 (by decide) (fun c_2 => ?_) (fun c_2 => ?_)
  · have hw := hw.1 c_2
    refine lv_iload_n hx hb dZM_throwing_9 rfl (lv_at hl 2 rfl) ?_
    refine lv_if_eq (tgt := 17) hx hb dZM_throwing_10 (by decide) (fun c_3 => ?_) (fun c_3 => ?_)
    · have hw := hw.1 c_3
      refine lv_iconst (v := (0 : Int32)) hx hb dZM_throwing_17 (by decide) ?_
      exact j18 (0 : Int32) hw _ _ (hP.sub [0, 1, 2, 3, 4, 5, 6, 7, 8] rfl) (hD.sub [0, 1, 2, 3, 4, 5, 6, 7, 8] (by decide) rfl) hS ls (lv_sub hl [0, 1, 2] rfl)
    · have hw := hw.2 c_3
      refine lv_iconst (v := (2 : Int32)) hx hb dZM_throwing_13 (by decide) ?_
      refine lv_goto (tgt := 18) hx hb dZM_throwing_14 (by decide) ?_
      exact j18 (2 : Int32) hw _ _ (hP.sub [0, 1, 2, 3, 4, 5, 6, 7, 8] rfl) (hD.sub [0, 1, 2, 3, 4, 5, 6, 7, 8] (by decide) rfl) hS ls (lv_sub hl [0, 1, 2] rfl)
  · have hw := hw.2 c_2
    refine lv_iconst (v := (1 : Int32)) hx hb dZM_throwing_5 (by decide) ?_
    refine lv_goto (tgt := 18) hx hb dZM_throwing_6 (by decide) ?_
    exact j18 (1 : Int32) hw _ _ (hP.sub [0, 1, 2, 3, 4, 5, 6, 7, 8] rfl) (hD.sub [0, 1, 2, 3, 4, 5, 6, 7, 8] (by decide) rfl) hS ls (lv_sub hl [0, 1, 2] rfl)
theorem dZM_put_0 : decode cZM_put 0 = .ok (.aload_n 0, 1) := by decide +kernel
theorem dZM_put_1 : decode cZM_put 1 = .ok (.aload_n 0, 1) := by decide +kernel
theorem dZM_put_2 : decode cZM_put 2 = .ok (.iload_n 1, 1) := by decide +kernel
theorem dZM_put_3 : decode cZM_put 3 = .ok (.iload_n 2, 1) := by decide +kernel
theorem dZM_put_4 : decode cZM_put 4 = .ok (.invokevirtual 52, 3) := by decide +kernel
theorem dZM_put_7 : decode cZM_put 7 = .ok (.ifCond .ne 7, 3) := by decide +kernel
theorem dZM_put_10 : decode cZM_put 10 = .ok (.iconst 1, 1) := by decide +kernel
theorem dZM_put_11 : decode cZM_put 11 = .ok (.goto 4, 3) := by decide +kernel
theorem dZM_put_14 : decode cZM_put 14 = .ok (.iconst 0, 1) := by decide +kernel
theorem dZM_put_15 : decode cZM_put 15 = .ok (.iload_n 3, 1) := by decide +kernel
theorem dZM_put_16 : decode cZM_put 16 = .ok (.invokestatic 56, 3) := by decide +kernel
theorem dZM_put_19 : decode cZM_put 19 = .ok (.ifCond .ne 7, 3) := by decide +kernel
theorem dZM_put_22 : decode cZM_put 22 = .ok (.iconst 1, 1) := by decide +kernel
theorem dZM_put_23 : decode cZM_put 23 = .ok (.goto 4, 3) := by decide +kernel
theorem dZM_put_26 : decode cZM_put 26 = .ok (.iconst 0, 1) := by decide +kernel
theorem dZM_put_27 : decode cZM_put 27 = .ok (.invokevirtual 60, 3) := by decide +kernel
theorem dZM_put_30 : decode cZM_put 30 = .ok (.ifCond .eq 5, 3) := by decide +kernel
theorem dZM_put_33 : decode cZM_put 33 = .ok (.iconst 0, 1) := by decide +kernel
theorem dZM_put_34 : decode cZM_put 34 = .ok (.ireturn, 1) := by decide +kernel
theorem dZM_put_35 : decode cZM_put 35 = .ok (.aload_n 0, 1) := by decide +kernel
theorem dZM_put_36 : decode cZM_put 36 = .ok (.getfield 7, 3) := by decide +kernel
theorem dZM_put_39 : decode cZM_put 39 = .ok (.bipush 40, 2) := by decide +kernel
theorem dZM_put_41 : decode cZM_put 41 = .ok (.iload_n 2, 1) := by decide +kernel
theorem dZM_put_42 : decode cZM_put 42 = .ok (.imul, 1) := by decide +kernel
theorem dZM_put_43 : decode cZM_put 43 = .ok (.iload_n 1, 1) := by decide +kernel
theorem dZM_put_44 : decode cZM_put 44 = .ok (.iadd, 1) := by decide +kernel
theorem dZM_put_45 : decode cZM_put 45 = .ok (.iaload, 1) := by decide +kernel
theorem dZM_put_46 : decode cZM_put 46 = .ok (.istore 4, 2) := by decide +kernel
theorem dZM_put_48 : decode cZM_put 48 = .ok (.aload_n 0, 1) := by decide +kernel
theorem dZM_put_49 : decode cZM_put 49 = .ok (.getfield 7, 3) := by decide +kernel
theorem dZM_put_52 : decode cZM_put 52 = .ok (.bipush 40, 2) := by decide +kernel
theorem dZM_put_54 : decode cZM_put 54 = .ok (.iload_n 2, 1) := by decide +kernel
theorem dZM_put_55 : decode cZM_put 55 = .ok (.imul, 1) := by decide +kernel
theorem dZM_put_56 : decode cZM_put 56 = .ok (.iload_n 1, 1) := by decide +kernel
theorem dZM_put_57 : decode cZM_put 57 = .ok (.iadd, 1) := by decide +kernel
theorem dZM_put_58 : decode cZM_put 58 = .ok (.iload_n 3, 1) := by decide +kernel
theorem dZM_put_59 : decode cZM_put 59 = .ok (.iastore, 1) := by decide +kernel
theorem dZM_put_60 : decode cZM_put 60 = .ok (.iload 4, 2) := by decide +kernel
theorem dZM_put_62 : decode cZM_put 62 = .ok (.ireturn, 1) := by decide +kernel
abbrev wsZM_put : List Cond := .code yZM_put cZM_put 5 (some .int) :: tbg
def wp_ZM_put (zt : Int32) (zw : Int32) (zh : Int32) (zp : Nat → Int32) (zs : Nat → Int32) (zb : Nat → Int32) (zz : Int32) (zl : Nat → Int32) (zo : Nat → Int32) (zc : Int32) (zr : Int32) (zu : Int32) (zv : Int32) (zq : Int32) (zi : Int32) (zk : Nat → Int32) (zm : Nat → Int32) (zd : Int32) (zg : Nat → Int32) (a1 : Int32) (a2 : Int32) (a3 : Int32) (post : Int32 → Int32 → (Nat → Int32) → Prop) : Prop := wp_ZM_isPlace zt zw zh zp zs zb zz zl zo zc zr zu zv zq zi zk zm zd zg a1 a2 (fun r_1 : Int32 => ∃ J15 : Int32 → Prop, (∀ (t0_j15 : Int32), J15 t0_j15 → wp_ZM_isByte a3 (fun r_2 : Int32 => ∃ J27 : Int32 → Prop, (∀ (t0_j27 : Int32), J27 t0_j27 → wp_ZM_throwing zt zw zh zp zs zb zz zl zo zc zr zu zv zq zi zk zm zd zg t0_j15 t0_j27 (fun (r_4 : Int32) (zt_3 : Int32) => ((r_4 = (0 : Int32) → (vp_in (((40 : Int32) * a2) + a1) 1600 ∧ (vp_in (((40 : Int32) * a2) + a1) 1600 ∧ (post (zp (((40 : Int32) * a2) + a1).toNatClampNeg) zt_3 (upd zp (((40 : Int32) * a2) + a1).toNatClampNeg a3))))) ∧ (¬ r_4 = (0 : Int32) → (post (0 : Int32) zt_3 zp))))) ∧ (((r_2 = (0 : Int32) → (J27 (1 : Int32))) ∧ (¬ r_2 = (0 : Int32) → (J27 (0 : Int32))))))) ∧ (((r_1 = (0 : Int32) → (J15 (1 : Int32))) ∧ (¬ r_1 = (0 : Int32) → (J15 (0 : Int32))))))
abbrev rm_ZM_put : Room := { frames := 2, cells := 0, slots := 0, locals := 44 }
set_option maxHeartbeats 4000000 in
set_option maxRecDepth 100000 in
theorem kt_ZM_put (l : Launch) (dC : Nat → ClassId) (dI : Nat → Nat → Nat) (cI : ClassId) (om ozp ozs ozb ozl ozo ozk ozm ozg : Nat) (sz : Nat) (zt : Int32) (zw : Int32) (zh : Int32) (zp : Nat → Int32) (zs : Nat → Int32) (zb : Nat → Int32) (zz : Int32) (zl : Nat → Int32) (zo : Nat → Int32) (zc : Int32) (zr : Int32) (zu : Int32) (zv : Int32) (zq : Int32) (zi : Int32) (zk : Nat → Int32) (zm : Nat → Int32) (zd : Int32) (zg : Nat → Int32) (a1 : Int32) (a2 : Int32) (a3 : Int32) (post : Int32 → Int32 → (Nat → Int32) → Prop) (hw : wp_ZM_put zt zw zh zp zs zb zz zl zo zc zr zu zv zq zi zk zm zd zg a1 a2 a3 post) : Met l yZM_put wsZM_put rm_ZM_put (gw_Pc dC dI [(cI, .int)] [.ref om, .int a1, .int a2, .int a3] [(om, .inr (6, [.int zt, .int zw, .int zh, .ref ozp, .ref ozs, .ref ozb, .int zz, .ref ozl, .ref ozo, .int zc, .int zr, .int zu, .int zv, .int zq, .int zi, .ref ozk, .ref ozm, .int zd, .ref ozg])), (ozp, .inl (cI, 1600, .inl zp)), (ozs, .inl (cI, 320, .inl zs)), (ozb, .inl (cI, 256, .inl zb)), (ozl, .inl (cI, 64, .inl zl)), (ozo, .inl (cI, 64, .inl zo)), (ozk, .inl (cI, 320, .inl zk)), (ozm, .inl (cI, 40, .inl zm)), (ozg, .inl (cI, 64, .inl zg))] sz) (va_Qi (fun (r : Int32) (u : Int32 × (Nat → Int32)) => post r u.1 u.2) (fun u t => gw_B dC dI [(cI, .int)] (va_A [(om, .inr (6, [.int zt, .int zw, .int zh, .ref ozp, .ref ozs, .ref ozb, .int zz, .ref ozl, .ref ozo, .int zc, .int zr, .int zu, .int zv, .int zq, .int zi, .ref ozk, .ref ozm, .int zd, .ref ozg])), (ozp, .inl (cI, 1600, .inl zp)), (ozs, .inl (cI, 320, .inl zs)), (ozb, .inl (cI, 256, .inl zb)), (ozl, .inl (cI, 64, .inl zl)), (ozo, .inl (cI, 64, .inl zo)), (ozk, .inl (cI, 320, .inl zk)), (ozm, .inl (cI, 40, .inl zm)), (ozg, .inl (cI, 64, .inl zg))] sz) [(om, .inr (6, [.int u.1, .int zw, .int zh, .ref ozp, .ref ozs, .ref ozb, .int zz, .ref ozl, .ref ozo, .int zc, .int zr, .int zu, .int zv, .int zq, .int zi, .ref ozk, .ref ozm, .int zd, .ref ozg])), (ozp, .inl (cI, 1600, .inl u.2)), (ozs, .inl (cI, 320, .inl zs)), (ozb, .inl (cI, 256, .inl zb)), (ozl, .inl (cI, 64, .inl zl)), (ozo, .inl (cI, 64, .inl zo)), (ozk, .inl (cI, 320, .inl zk)), (ozm, .inl (cI, 40, .inl zm)), (ozg, .inl (cI, 64, .inl zg))] t) (va_A [(om, .inr (6, [.int zt, .int zw, .int zh, .ref ozp, .ref ozs, .ref ozb, .int zz, .ref ozl, .ref ozo, .int zc, .int zr, .int zu, .int zv, .int zq, .int zi, .ref ozk, .ref ozm, .int zd, .ref ozg])), (ozp, .inl (cI, 1600, .inl zp)), (ozs, .inl (cI, 320, .inl zs)), (ozb, .inl (cI, 256, .inl zb)), (ozl, .inl (cI, 64, .inl zl)), (ozo, .inl (cI, 64, .inl zo)), (ozk, .inl (cI, 320, .inl zk)), (ozm, .inl (cI, 40, .inl zm)), (ozg, .inl (cI, 64, .inl zg))] sz)) 0 0 (va_A [(om, .inr (6, [.int zt, .int zw, .int zh, .ref ozp, .ref ozs, .ref ozb, .int zz, .ref ozl, .ref ozo, .int zc, .int zr, .int zu, .int zv, .int zq, .int zi, .ref ozk, .ref ozm, .int zd, .ref ozg])), (ozp, .inl (cI, 1600, .inl zp)), (ozs, .inl (cI, 320, .inl zs)), (ozb, .inl (cI, 256, .inl zb)), (ozl, .inl (cI, 64, .inl zl)), (ozo, .inl (cI, 64, .inl zo)), (ozk, .inl (cI, 320, .inl zk)), (ozm, .inl (cI, 40, .inl zm)), (ozg, .inl (cI, 64, .inl zg))] sz) := by
  refine Met.ofW (cc := cZM_put) (maxL := 5) (ret := (some .int)) (by decide) rfl ?_
  intro p e s m args below meth c s₁ B hml hv
  obtain ⟨ha9, hsz, hP, hK, hE, hD0⟩ := hv
  have hx := B.exec
  have hb := B.bytes
  have hr := B.returns
  have hts0 := atoms_spec (ws := wsZM_put) B.pre
  have hts : ∀ w ∈ tbg, w.before args s = true := fun w h => hts0 w (List.mem_cons_of_mem _ h)
  have hown : s.vm.findClass RZM = some m.cls := findClass_of_methodNamed B.named
  have hlocks := B.notSynchronized
  subst hsz
  have hD := hD0.self (sz := s.heap.size)
  refine gx_Q (fun Q9 hQ9 => ?_)
  generalize hAe : va_A [(om, .inr (6, [.int zt, .int zw, .int zh, .ref ozp, .ref ozs, .ref ozb, .int zz, .ref ozl, .ref ozo, .int zc, .int zr, .int zu, .int zv, .int zq, .int zi, .ref ozk, .ref ozm, .int zd, .ref ozg])), (ozp, .inl (cI, 1600, .inl zp)), (ozs, .inl (cI, 320, .inl zs)), (ozb, .inl (cI, 256, .inl zb)), (ozl, .inl (cI, 64, .inl zl)), (ozo, .inl (cI, 64, .inl zo)), (ozk, .inl (cI, 320, .inl zk)), (ozm, .inl (cI, 40, .inl zm)), (ozg, .inl (cI, 64, .inl zg))] s.heap.size = A at hD hQ9 ⊢
  have hA : ∀ q : Nat, s.heap.size ≤ q → A q := fun q h => by rw [← hAe]; exact Or.inr h
  have hS : va_S A s.heap s.heap [] := va_S.rf
  have hl := lv_entry ([.ref om, .int a1, .int a2, .int a3]) (n := 5) (Nat.le_of_ble_eq_true rfl)
  have he9 : entryFrame m args 5 = F0 m 0 ((lg_sl [.ref om, .int a1, .int a2, .int a3] ++ List.replicate (5 - (lg_sl ([.ref om, .int a1, .int a2, .int a3] : List Value)).length) Slot.unset).toArray) [] := by rw [ha9]; exact lg_entry_eq m [.ref om, .int a1, .int a2, .int a3] 5
  rw [he9]
  generalize (lg_sl ([.ref om, .int a1, .int a2, .int a3] : List Value) ++ List.replicate (5 - (lg_sl ([.ref om, .int a1, .int a2, .int a3] : List Value)).length) Slot.unset).toArray = ls at hl ⊢
  have hl : lv_has ls 5 [(0, .ref om), (1, .int a1), (2, .int a2), (3, .int a3)] := hl
  refine lv_aload_n hx hb dZM_put_0 rfl (lv_at hl 0 rfl) ?_
  refine lv_aload_n hx hb dZM_put_1 rfl (lv_at hl 0 rfl) ?_
  refine lv_iload_n hx hb dZM_put_2 rfl (lv_at hl 1 rfl) ?_
  refine lv_iload_n hx hb dZM_put_3 rfl (lv_at hl 2 rfl) ?_
  refine vp_callSi (va_runV (As := [.int a1, .int a2]) (rest := [.ref om]) ⟨hx, hb, hml, hown, hts⟩ (kt_ZM_isPlace l dC dI cI om ozp ozs ozb ozl ozo ozk ozm ozg zt zw zh zp zs zb zz zl zo zc zr zu zv zq zi zk zm zd zg a1 a2 _ hw) (cwV 2 hts (tb_V mm_683 mm_685 mp_4 mm_8 mm_686) rfl rfl rfl (by decide +kernel) ⟨Nat.le_of_ble_eq_true rfl, Nat.le_of_ble_eq_true rfl⟩) ⟨gr_blind, va_recv hK hP (ci := 6) (q0 := 0) rfl rfl, fun U hU hW => gr_pre hP hK hE hU hW⟩ rfl rfl hl.1 rfl (lv_room (Nat.le_of_ble_eq_true rfl)) dZM_put_4 ⟨Nat.le_of_ble_eq_true rfl, Nat.le_of_ble_eq_true rfl⟩).run (fun r_1 hw => ?_)
  obtain ⟨J15, hJ15, hw⟩ := hw
  have j15 : ∀ (t0_j15 : Int32), J15 t0_j15 → ∀ (H : Heap) (locs : List Loc), va_P (dC, dI) vwCl [(om, .inr (6, [.int zt, .int zw, .int zh, .ref ozp, .ref ozs, .ref ozb, .int zz, .ref ozl, .ref ozo, .int zc, .int zr, .int zu, .int zv, .int zq, .int zi, .ref ozk, .ref ozm, .int zd, .ref ozg])), (ozp, .inl (cI, 1600, .inl zp)), (ozs, .inl (cI, 320, .inl zs)), (ozb, .inl (cI, 256, .inl zb)), (ozl, .inl (cI, 64, .inl zl)), (ozo, .inl (cI, 64, .inl zo)), (ozk, .inl (cI, 320, .inl zk)), (ozm, .inl (cI, 40, .inl zm)), (ozg, .inl (cI, 64, .inl zg))] H → va_D A [(om, .inr (6, [.int zt, .int zw, .int zh, .ref ozp, .ref ozs, .ref ozb, .int zz, .ref ozl, .ref ozo, .int zc, .int zr, .int zu, .int zv, .int zq, .int zi, .ref ozk, .ref ozm, .int zd, .ref ozg])), (ozp, .inl (cI, 1600, .inl zp)), (ozs, .inl (cI, 320, .inl zs)), (ozb, .inl (cI, 256, .inl zb)), (ozl, .inl (cI, 64, .inl zl)), (ozo, .inl (cI, 64, .inl zo)), (ozk, .inl (cI, 320, .inl zk)), (ozm, .inl (cI, 40, .inl zm)), (ozg, .inl (cI, 64, .inl zg))] → va_S A s.heap H locs → ∀ ls : Array Slot, lv_has ls 5 [(0, .ref om), (1, .int a1), (2, .int a2), (3, .int a3)] → W p l e (headSpec wsZM_put rm_ZM_put).room s m args below meth c H locs 0 0 Q9 (F0 m 15 ls [.int t0_j15, .ref om]) := by
    intro t0_j15 hw H locs hP hD hS ls hl
    have hw := hJ15 t0_j15 hw
    refine lv_iload_n hx hb dZM_put_15 rfl (lv_at hl 3 rfl) ?_
    have hPc := hP.sub (ws' := []) [] rfl
    refine vp_callSi (va_runS (As := [.int a3]) (rest := [.int t0_j15, .ref om]) ⟨hx, hb, hml, hown, hts⟩ (kt_ZM_isByte l dC dI cI  a3 _ hw) (va_cwS 1 hts (tb_S mm_690 mm_691 mm_8 mm_692) rfl rfl rfl (by decide +kernel) ⟨Nat.le_of_ble_eq_true rfl, Nat.le_of_ble_eq_true rfl⟩) ⟨gr_blind, fun U hU hW => gr_pre hPc hK hE hU hW⟩ rfl rfl hl.1 rfl (lv_room (Nat.le_of_ble_eq_true rfl)) dZM_put_16 ⟨Nat.le_of_ble_eq_true rfl, Nat.le_of_ble_eq_true rfl⟩).run (fun r_2 hw => ?_)
    obtain ⟨J27, hJ27, hw⟩ := hw
    have j27 : ∀ (t0_j27 : Int32), J27 t0_j27 → ∀ (H : Heap) (locs : List Loc), va_P (dC, dI) vwCl [(om, .inr (6, [.int zt, .int zw, .int zh, .ref ozp, .ref ozs, .ref ozb, .int zz, .ref ozl, .ref ozo, .int zc, .int zr, .int zu, .int zv, .int zq, .int zi, .ref ozk, .ref ozm, .int zd, .ref ozg])), (ozp, .inl (cI, 1600, .inl zp)), (ozs, .inl (cI, 320, .inl zs)), (ozb, .inl (cI, 256, .inl zb)), (ozl, .inl (cI, 64, .inl zl)), (ozo, .inl (cI, 64, .inl zo)), (ozk, .inl (cI, 320, .inl zk)), (ozm, .inl (cI, 40, .inl zm)), (ozg, .inl (cI, 64, .inl zg))] H → va_D A [(om, .inr (6, [.int zt, .int zw, .int zh, .ref ozp, .ref ozs, .ref ozb, .int zz, .ref ozl, .ref ozo, .int zc, .int zr, .int zu, .int zv, .int zq, .int zi, .ref ozk, .ref ozm, .int zd, .ref ozg])), (ozp, .inl (cI, 1600, .inl zp)), (ozs, .inl (cI, 320, .inl zs)), (ozb, .inl (cI, 256, .inl zb)), (ozl, .inl (cI, 64, .inl zl)), (ozo, .inl (cI, 64, .inl zo)), (ozk, .inl (cI, 320, .inl zk)), (ozm, .inl (cI, 40, .inl zm)), (ozg, .inl (cI, 64, .inl zg))] → va_S A s.heap H locs → ∀ ls : Array Slot, lv_has ls 5 [(0, .ref om), (1, .int a1), (2, .int a2), (3, .int a3)] → W p l e (headSpec wsZM_put rm_ZM_put).room s m args below meth c H locs 0 0 Q9 (F0 m 27 ls [.int t0_j27, .int t0_j15, .ref om]) := by
      intro t0_j27 hw H locs hP hD hS ls hl
      have hw := hJ27 t0_j27 hw
      have hPc := hP.sub (ws' := [(om, .inr (6, [.int zt, .int zw, .int zh, .ref ozp, .ref ozs, .ref ozb, .int zz, .ref ozl, .ref ozo, .int zc, .int zr, .int zu, .int zv, .int zq, .int zi, .ref ozk, .ref ozm, .int zd, .ref ozg])), (ozp, .inl (cI, 1600, .inl zp)), (ozs, .inl (cI, 320, .inl zs)), (ozb, .inl (cI, 256, .inl zb)), (ozl, .inl (cI, 64, .inl zl)), (ozo, .inl (cI, 64, .inl zo)), (ozk, .inl (cI, 320, .inl zk)), (ozm, .inl (cI, 40, .inl zm)), (ozg, .inl (cI, 64, .inl zg))]) [0, 1, 2, 3, 4, 5, 6, 7, 8] rfl
      have hDc := hD.sub (ws' := [(om, .inr (6, [.int zt, .int zw, .int zh, .ref ozp, .ref ozs, .ref ozb, .int zz, .ref ozl, .ref ozo, .int zc, .int zr, .int zu, .int zv, .int zq, .int zi, .ref ozk, .ref ozm, .int zd, .ref ozg])), (ozp, .inl (cI, 1600, .inl zp)), (ozs, .inl (cI, 320, .inl zs)), (ozb, .inl (cI, 256, .inl zb)), (ozl, .inl (cI, 64, .inl zl)), (ozo, .inl (cI, 64, .inl zo)), (ozk, .inl (cI, 320, .inl zk)), (ozm, .inl (cI, 40, .inl zm)), (ozg, .inl (cI, 64, .inl zg))]) [0, 1, 2, 3, 4, 5, 6, 7, 8] (by decide) rfl
      have hFc := va_free (wc := [(om, .inr (6, [.int zt, .int zw, .int zh, .ref ozp, .ref ozs, .ref ozb, .int zz, .ref ozl, .ref ozo, .int zc, .int zr, .int zu, .int zv, .int zq, .int zi, .ref ozk, .ref ozm, .int zd, .ref ozg])), (ozp, .inl (cI, 1600, .inl zp)), (ozs, .inl (cI, 320, .inl zs)), (ozb, .inl (cI, 256, .inl zb)), (ozl, .inl (cI, 64, .inl zl)), (ozo, .inl (cI, 64, .inl zo)), (ozk, .inl (cI, 320, .inl zk)), (ozm, .inl (cI, 40, .inl zm)), (ozg, .inl (cI, 64, .inl zg))]) hD hS hA [0, 1, 2, 3, 4, 5, 6, 7, 8] rfl
      refine va_calli (va_runV (As := [.int t0_j15, .int t0_j27]) (rest := []) ⟨hx, hb, hml, hown, hts⟩ (kt_ZM_throwing l dC dI cI om ozp ozs ozb ozl ozo ozk ozm ozg _ zt zw zh zp zs zb zz zl zo zc zr zu zv zq zi zk zm zd zg t0_j15 t0_j27 _ hw) (cwV 2 hts (tb_V mm_693 mm_695 mp_5 mm_8 mm_696) rfl rfl rfl (by decide +kernel) ⟨Nat.le_of_ble_eq_true rfl, Nat.le_of_ble_eq_true rfl⟩) ⟨gw_blind, va_recv hK hPc (ci := 6) (q0 := 0) rfl rfl, fun U hU hW => gw_pre hPc hDc hK hE hU hW⟩ rfl rfl hl.1 rfl (lv_room (Nat.le_of_ble_eq_true rfl)) dZM_put_27 ⟨Nat.le_of_ble_eq_true rfl, Nat.le_of_ble_eq_true rfl⟩) hS (fun q _ h => hFc q h) hFc (fun r_4 zt_3 t H1 locs ht hvm hw hB hz1 hk1 hS => ?_)
      obtain ⟨hP1, hK1, hD1⟩ := hB
      rw [ht] at hP1
      try dsimp only at hw
      obtain ⟨hP, hD⟩ := va_join (wr := []) (w1 := [(om, .inr (6, [.int zt_3, .int zw, .int zh, .ref ozp, .ref ozs, .ref ozb, .int zz, .ref ozl, .ref ozo, .int zc, .int zr, .int zu, .int zv, .int zq, .int zi, .ref ozk, .ref ozm, .int zd, .ref ozg])), (ozp, .inl (cI, 1600, .inl zp)), (ozs, .inl (cI, 320, .inl zs)), (ozb, .inl (cI, 256, .inl zb)), (ozl, .inl (cI, 64, .inl zl)), (ozo, .inl (cI, 64, .inl zo)), (ozk, .inl (cI, 320, .inl zk)), (ozm, .inl (cI, 40, .inl zm)), (ozg, .inl (cI, 64, .inl zg))]) hP hD [0, 1, 2, 3, 4, 5, 6, 7, 8] [] rfl rfl (by decide) (by decide) hk1 hFc hP1 hD1
      generalize H1 = H at hP hS ⊢
      have hP : va_P (dC, dI) vwCl [(om, .inr (6, [.int zt_3, .int zw, .int zh, .ref ozp, .ref ozs, .ref ozb, .int zz, .ref ozl, .ref ozo, .int zc, .int zr, .int zu, .int zv, .int zq, .int zi, .ref ozk, .ref ozm, .int zd, .ref ozg])), (ozp, .inl (cI, 1600, .inl zp)), (ozs, .inl (cI, 320, .inl zs)), (ozb, .inl (cI, 256, .inl zb)), (ozl, .inl (cI, 64, .inl zl)), (ozo, .inl (cI, 64, .inl zo)), (ozk, .inl (cI, 320, .inl zk)), (ozm, .inl (cI, 40, .inl zm)), (ozg, .inl (cI, 64, .inl zg))] H := hP
      have hD : va_D A [(om, .inr (6, [.int zt_3, .int zw, .int zh, .ref ozp, .ref ozs, .ref ozb, .int zz, .ref ozl, .ref ozo, .int zc, .int zr, .int zu, .int zv, .int zq, .int zi, .ref ozk, .ref ozm, .int zd, .ref ozg])), (ozp, .inl (cI, 1600, .inl zp)), (ozs, .inl (cI, 320, .inl zs)), (ozb, .inl (cI, 256, .inl zb)), (ozl, .inl (cI, 64, .inl zl)), (ozo, .inl (cI, 64, .inl zo)), (ozk, .inl (cI, 320, .inl zk)), (ozm, .inl (cI, 40, .inl zm)), (ozg, .inl (cI, 64, .inl zg))] := hD
      refine lv_if_eq (tgt := 35) hx hb dZM_put_30 (by decide) (fun c_5 => ?_) (fun c_5 => ?_)
      · have hw := hw.1 c_5
        refine lv_aload_n hx hb dZM_put_35 rfl (lv_at hl 0 rfl) ?_
        refine va_get (D := (dC, dI)) (ci := 6) (v := .ref ozp) (C := RZM) (T := TZM) (N := 19) hx hb hts inZM hown hK hP 0 rfl rfl 3 (by decide) (hts _ mm_621) (fun _ h9 => h9) rfl dZM_put_36 ?_
        refine lv_bipush (v := (40 : Int32)) hx hb dZM_put_39 (by decide) ?_
        refine lv_iload_n hx hb dZM_put_41 rfl (lv_at hl 2 rfl) ?_
        refine lv_imul hx hb dZM_put_42 ?_
        refine lv_iload_n hx hb dZM_put_43 rfl (lv_at hl 1 rfl) ?_
        refine lv_iadd hx hb dZM_put_44 ?_
        obtain ⟨h_6, hw⟩ := hw
        refine va_iald hx hb hK hP 1 0 rfl rfl h_6 dZM_put_45 ?_
        refine lv_istore (lv' := [(4, .int (zp (((40 : Int32) * a2) + a1).toNatClampNeg)), (0, .ref om), (1, .int a1), (2, .int a2), (3, .int a3)]) hx hb dZM_put_46 hl (by decide) rfl (fun ls hl => ?_)
        refine lv_aload_n hx hb dZM_put_48 rfl (lv_at hl 1 rfl) ?_
        refine va_get (D := (dC, dI)) (ci := 6) (v := .ref ozp) (C := RZM) (T := TZM) (N := 19) hx hb hts inZM hown hK hP 0 rfl rfl 3 (by decide) (hts _ mm_621) (fun _ h9 => h9) rfl dZM_put_49 ?_
        refine lv_bipush (v := (40 : Int32)) hx hb dZM_put_52 (by decide) ?_
        refine lv_iload_n hx hb dZM_put_54 rfl (lv_at hl 3 rfl) ?_
        refine lv_imul hx hb dZM_put_55 ?_
        refine lv_iload_n hx hb dZM_put_56 rfl (lv_at hl 2 rfl) ?_
        refine lv_iadd hx hb dZM_put_57 ?_
        refine lv_iload_n hx hb dZM_put_58 rfl (lv_at hl 4 rfl) ?_
        obtain ⟨h_7, hw⟩ := hw
        refine va_iast hx hb hK hP hD hS 1 0 rfl rfl h_7 dZM_put_59 (fun H locs hP hD hS => ?_)
        have hP : va_P (dC, dI) vwCl [(om, .inr (6, [.int zt_3, .int zw, .int zh, .ref ozp, .ref ozs, .ref ozb, .int zz, .ref ozl, .ref ozo, .int zc, .int zr, .int zu, .int zv, .int zq, .int zi, .ref ozk, .ref ozm, .int zd, .ref ozg])), (ozp, .inl (cI, 1600, .inl (upd zp (((40 : Int32) * a2) + a1).toNatClampNeg a3))), (ozs, .inl (cI, 320, .inl zs)), (ozb, .inl (cI, 256, .inl zb)), (ozl, .inl (cI, 64, .inl zl)), (ozo, .inl (cI, 64, .inl zo)), (ozk, .inl (cI, 320, .inl zk)), (ozm, .inl (cI, 40, .inl zm)), (ozg, .inl (cI, 64, .inl zg))] H := hP
        have hD : va_D A [(om, .inr (6, [.int zt_3, .int zw, .int zh, .ref ozp, .ref ozs, .ref ozb, .int zz, .ref ozl, .ref ozo, .int zc, .int zr, .int zu, .int zv, .int zq, .int zi, .ref ozk, .ref ozm, .int zd, .ref ozg])), (ozp, .inl (cI, 1600, .inl (upd zp (((40 : Int32) * a2) + a1).toNatClampNeg a3))), (ozs, .inl (cI, 320, .inl zs)), (ozb, .inl (cI, 256, .inl zb)), (ozl, .inl (cI, 64, .inl zl)), (ozo, .inl (cI, 64, .inl zo)), (ozk, .inl (cI, 320, .inl zk)), (ozm, .inl (cI, 40, .inl zm)), (ozg, .inl (cI, 64, .inl zg))] := hD
        refine lv_iload hx hb dZM_put_60 (lv_at hl 0 rfl) ?_
        have hP9 := hP.sub (ws' := [(om, .inr (6, [.int zt_3, .int zw, .int zh, .ref ozp, .ref ozs, .ref ozb, .int zz, .ref ozl, .ref ozo, .int zc, .int zr, .int zu, .int zv, .int zq, .int zi, .ref ozk, .ref ozm, .int zd, .ref ozg])), (ozp, .inl (cI, 1600, .inl (upd zp (((40 : Int32) * a2) + a1).toNatClampNeg a3))), (ozs, .inl (cI, 320, .inl zs)), (ozb, .inl (cI, 256, .inl zb)), (ozl, .inl (cI, 64, .inl zl)), (ozo, .inl (cI, 64, .inl zo)), (ozk, .inl (cI, 320, .inl zk)), (ozm, .inl (cI, 40, .inl zm)), (ozg, .inl (cI, 64, .inl zg))]) [0, 1, 2, 3, 4, 5, 6, 7, 8] rfl
        have hD9 := hD.sub (ws' := [(om, .inr (6, [.int zt_3, .int zw, .int zh, .ref ozp, .ref ozs, .ref ozb, .int zz, .ref ozl, .ref ozo, .int zc, .int zr, .int zu, .int zv, .int zq, .int zi, .ref ozk, .ref ozm, .int zd, .ref ozg])), (ozp, .inl (cI, 1600, .inl (upd zp (((40 : Int32) * a2) + a1).toNatClampNeg a3))), (ozs, .inl (cI, 320, .inl zs)), (ozb, .inl (cI, 256, .inl zb)), (ozl, .inl (cI, 64, .inl zl)), (ozo, .inl (cI, 64, .inl zo)), (ozk, .inl (cI, 320, .inl zk)), (ozm, .inl (cI, 40, .inl zm)), (ozg, .inl (cI, 64, .inl zg))]) [0, 1, 2, 3, 4, 5, 6, 7, 8] (by decide) rfl
        subst hQ9
        exact W.iret (v := zp (((40 : Int32) * a2) + a1).toNatClampNeg) hx hb hr (fun t ht hW => ⟨⟨zp (((40 : Int32) * a2) + a1).toNatClampNeg, (zt_3, upd zp (((40 : Int32) * a2) + a1).toNatClampNeg a3), rfl, hw, by rw [ht]; exact hP9, va_K.moved hW.alike hK, hD9⟩, hS.F ht⟩) hS.2.2 dZM_put_62
      · have hw := hw.2 c_5
        refine lv_iconst (v := (0 : Int32)) hx hb dZM_put_33 (by decide) ?_
        have hP9 := hP.sub (ws' := [(om, .inr (6, [.int zt_3, .int zw, .int zh, .ref ozp, .ref ozs, .ref ozb, .int zz, .ref ozl, .ref ozo, .int zc, .int zr, .int zu, .int zv, .int zq, .int zi, .ref ozk, .ref ozm, .int zd, .ref ozg])), (ozp, .inl (cI, 1600, .inl zp)), (ozs, .inl (cI, 320, .inl zs)), (ozb, .inl (cI, 256, .inl zb)), (ozl, .inl (cI, 64, .inl zl)), (ozo, .inl (cI, 64, .inl zo)), (ozk, .inl (cI, 320, .inl zk)), (ozm, .inl (cI, 40, .inl zm)), (ozg, .inl (cI, 64, .inl zg))]) [0, 1, 2, 3, 4, 5, 6, 7, 8] rfl
        have hD9 := hD.sub (ws' := [(om, .inr (6, [.int zt_3, .int zw, .int zh, .ref ozp, .ref ozs, .ref ozb, .int zz, .ref ozl, .ref ozo, .int zc, .int zr, .int zu, .int zv, .int zq, .int zi, .ref ozk, .ref ozm, .int zd, .ref ozg])), (ozp, .inl (cI, 1600, .inl zp)), (ozs, .inl (cI, 320, .inl zs)), (ozb, .inl (cI, 256, .inl zb)), (ozl, .inl (cI, 64, .inl zl)), (ozo, .inl (cI, 64, .inl zo)), (ozk, .inl (cI, 320, .inl zk)), (ozm, .inl (cI, 40, .inl zm)), (ozg, .inl (cI, 64, .inl zg))]) [0, 1, 2, 3, 4, 5, 6, 7, 8] (by decide) rfl
        subst hQ9
        exact W.iret (v := (0 : Int32)) hx hb hr (fun t ht hW => ⟨⟨(0 : Int32), (zt_3, zp), rfl, hw, by rw [ht]; exact hP9, va_K.moved hW.alike hK, hD9⟩, hS.F ht⟩) hS.2.2 dZM_put_34
    refine lv_if_ne (tgt := 26) hx hb dZM_put_19 (by decide) (fun c_8 => ?_) (fun c_8 => ?_)
    · have hw := hw.2 c_8
      refine lv_iconst (v := (0 : Int32)) hx hb dZM_put_26 (by decide) ?_
      exact j27 (0 : Int32) hw _ _ (hP.sub [0, 1, 2, 3, 4, 5, 6, 7, 8] rfl) (hD.sub [0, 1, 2, 3, 4, 5, 6, 7, 8] (by decide) rfl) hS ls (lv_sub hl [0, 1, 2, 3] rfl)
    · have hw := hw.1 c_8
      refine lv_iconst (v := (1 : Int32)) hx hb dZM_put_22 (by decide) ?_
      refine lv_goto (tgt := 27) hx hb dZM_put_23 (by decide) ?_
      exact j27 (1 : Int32) hw _ _ (hP.sub [0, 1, 2, 3, 4, 5, 6, 7, 8] rfl) (hD.sub [0, 1, 2, 3, 4, 5, 6, 7, 8] (by decide) rfl) hS ls (lv_sub hl [0, 1, 2, 3] rfl)
  refine lv_if_ne (tgt := 14) hx hb dZM_put_7 (by decide) (fun c_9 => ?_) (fun c_9 => ?_)
  · have hw := hw.2 c_9
    refine lv_iconst (v := (0 : Int32)) hx hb dZM_put_14 (by decide) ?_
    exact j15 (0 : Int32) hw _ _ (hP.sub [0, 1, 2, 3, 4, 5, 6, 7, 8] rfl) (hD.sub [0, 1, 2, 3, 4, 5, 6, 7, 8] (by decide) rfl) hS ls (lv_sub hl [0, 1, 2, 3] rfl)
  · have hw := hw.1 c_9
    refine lv_iconst (v := (1 : Int32)) hx hb dZM_put_10 (by decide) ?_
    refine lv_goto (tgt := 15) hx hb dZM_put_11 (by decide) ?_
    exact j15 (1 : Int32) hw _ _ (hP.sub [0, 1, 2, 3, 4, 5, 6, 7, 8] rfl) (hD.sub [0, 1, 2, 3, 4, 5, 6, 7, 8] (by decide) rfl) hS ls (lv_sub hl [0, 1, 2, 3] rfl)
theorem dZM_change_0 : decode cZM_change 0 = .ok (.aload_n 0, 1) := by decide +kernel
theorem dZM_change_1 : decode cZM_change 1 = .ok (.iload_n 1, 1) := by decide +kernel
theorem dZM_change_2 : decode cZM_change 2 = .ok (.iload_n 2, 1) := by decide +kernel
theorem dZM_change_3 : decode cZM_change 3 = .ok (.iload_n 3, 1) := by decide +kernel
theorem dZM_change_4 : decode cZM_change 4 = .ok (.iload 4, 2) := by decide +kernel
theorem dZM_change_6 : decode cZM_change 6 = .ok (.aload_n 0, 1) := by decide +kernel
theorem dZM_change_7 : decode cZM_change 7 = .ok (.getfield 38, 3) := by decide +kernel
theorem dZM_change_10 : decode cZM_change 10 = .ok (.aload_n 0, 1) := by decide +kernel
theorem dZM_change_11 : decode cZM_change 11 = .ok (.getfield 42, 3) := by decide +kernel
theorem dZM_change_14 : decode cZM_change 14 = .ok (.invokestatic 72, 3) := by decide +kernel
theorem dZM_change_17 : decode cZM_change 17 = .ok (.ifCond .ne 7, 3) := by decide +kernel
theorem dZM_change_20 : decode cZM_change 20 = .ok (.iconst 1, 1) := by decide +kernel
theorem dZM_change_21 : decode cZM_change 21 = .ok (.goto 4, 3) := by decide +kernel
theorem dZM_change_24 : decode cZM_change 24 = .ok (.iconst 0, 1) := by decide +kernel
theorem dZM_change_25 : decode cZM_change 25 = .ok (.iload 5, 2) := by decide +kernel
theorem dZM_change_27 : decode cZM_change 27 = .ok (.invokestatic 56, 3) := by decide +kernel
theorem dZM_change_30 : decode cZM_change 30 = .ok (.ifCond .ne 7, 3) := by decide +kernel
theorem dZM_change_33 : decode cZM_change 33 = .ok (.iconst 1, 1) := by decide +kernel
theorem dZM_change_34 : decode cZM_change 34 = .ok (.goto 4, 3) := by decide +kernel
theorem dZM_change_37 : decode cZM_change 37 = .ok (.iconst 0, 1) := by decide +kernel
theorem dZM_change_38 : decode cZM_change 38 = .ok (.invokevirtual 60, 3) := by decide +kernel
theorem dZM_change_41 : decode cZM_change 41 = .ok (.ifCond .eq 5, 3) := by decide +kernel
theorem dZM_change_44 : decode cZM_change 44 = .ok (.iconst 0, 1) := by decide +kernel
theorem dZM_change_45 : decode cZM_change 45 = .ok (.ireturn, 1) := by decide +kernel
theorem dZM_change_46 : decode cZM_change 46 = .ok (.iconst 0, 1) := by decide +kernel
theorem dZM_change_47 : decode cZM_change 47 = .ok (.istore 6, 2) := by decide +kernel
theorem dZM_change_49 : decode cZM_change 49 = .ok (.iload 6, 2) := by decide +kernel
theorem dZM_change_51 : decode cZM_change 51 = .ok (.iload_n 3, 1) := by decide +kernel
theorem dZM_change_52 : decode cZM_change 52 = .ok (.iload 4, 2) := by decide +kernel
theorem dZM_change_54 : decode cZM_change 54 = .ok (.imul, 1) := by decide +kernel
theorem dZM_change_55 : decode cZM_change 55 = .ok (.if_icmp .ge 32, 3) := by decide +kernel
theorem dZM_change_58 : decode cZM_change 58 = .ok (.aload_n 0, 1) := by decide +kernel
theorem dZM_change_59 : decode cZM_change 59 = .ok (.getfield 7, 3) := by decide +kernel
theorem dZM_change_62 : decode cZM_change 62 = .ok (.bipush 40, 2) := by decide +kernel
theorem dZM_change_64 : decode cZM_change 64 = .ok (.iload_n 2, 1) := by decide +kernel
theorem dZM_change_65 : decode cZM_change 65 = .ok (.iload 6, 2) := by decide +kernel
theorem dZM_change_67 : decode cZM_change 67 = .ok (.iload_n 3, 1) := by decide +kernel
theorem dZM_change_68 : decode cZM_change 68 = .ok (.idiv, 1) := by decide +kernel
theorem dZM_change_69 : decode cZM_change 69 = .ok (.iadd, 1) := by decide +kernel
theorem dZM_change_70 : decode cZM_change 70 = .ok (.imul, 1) := by decide +kernel
theorem dZM_change_71 : decode cZM_change 71 = .ok (.iload_n 1, 1) := by decide +kernel
theorem dZM_change_72 : decode cZM_change 72 = .ok (.iadd, 1) := by decide +kernel
theorem dZM_change_73 : decode cZM_change 73 = .ok (.iload 6, 2) := by decide +kernel
theorem dZM_change_75 : decode cZM_change 75 = .ok (.iload_n 3, 1) := by decide +kernel
theorem dZM_change_76 : decode cZM_change 76 = .ok (.irem, 1) := by decide +kernel
theorem dZM_change_77 : decode cZM_change 77 = .ok (.iadd, 1) := by decide +kernel
theorem dZM_change_78 : decode cZM_change 78 = .ok (.iload 5, 2) := by decide +kernel
theorem dZM_change_80 : decode cZM_change 80 = .ok (.iastore, 1) := by decide +kernel
theorem dZM_change_81 : decode cZM_change 81 = .ok (.iinc 6 1, 3) := by decide +kernel
theorem dZM_change_84 : decode cZM_change 84 = .ok (.goto (-35), 3) := by decide +kernel
theorem dZM_change_87 : decode cZM_change 87 = .ok (.iconst 0, 1) := by decide +kernel
theorem dZM_change_88 : decode cZM_change 88 = .ok (.istore 6, 2) := by decide +kernel
theorem dZM_change_90 : decode cZM_change 90 = .ok (.iconst 0, 1) := by decide +kernel
theorem dZM_change_91 : decode cZM_change 91 = .ok (.istore 7, 2) := by decide +kernel
theorem dZM_change_93 : decode cZM_change 93 = .ok (.iload 7, 2) := by decide +kernel
theorem dZM_change_95 : decode cZM_change 95 = .ok (.aload_n 0, 1) := by decide +kernel
theorem dZM_change_96 : decode cZM_change 96 = .ok (.invokevirtual 68, 3) := by decide +kernel
theorem dZM_change_99 : decode cZM_change 99 = .ok (.if_icmp .ge 53, 3) := by decide +kernel
theorem dZM_change_102 : decode cZM_change 102 = .ok (.bipush 8, 2) := by decide +kernel
theorem dZM_change_104 : decode cZM_change 104 = .ok (.iload 7, 2) := by decide +kernel
theorem dZM_change_106 : decode cZM_change 106 = .ok (.ishl, 1) := by decide +kernel
theorem dZM_change_107 : decode cZM_change 107 = .ok (.istore 8, 2) := by decide +kernel
theorem dZM_change_109 : decode cZM_change 109 = .ok (.iload 6, 2) := by decide +kernel
theorem dZM_change_111 : decode cZM_change 111 = .ok (.iload_n 1, 1) := by decide +kernel
theorem dZM_change_112 : decode cZM_change 112 = .ok (.iload_n 3, 1) := by decide +kernel
theorem dZM_change_113 : decode cZM_change 113 = .ok (.iadd, 1) := by decide +kernel
theorem dZM_change_114 : decode cZM_change 114 = .ok (.iconst 1, 1) := by decide +kernel
theorem dZM_change_115 : decode cZM_change 115 = .ok (.isub, 1) := by decide +kernel
theorem dZM_change_116 : decode cZM_change 116 = .ok (.iload 8, 2) := by decide +kernel
theorem dZM_change_118 : decode cZM_change 118 = .ok (.idiv, 1) := by decide +kernel
theorem dZM_change_119 : decode cZM_change 119 = .ok (.iload_n 1, 1) := by decide +kernel
theorem dZM_change_120 : decode cZM_change 120 = .ok (.iload 8, 2) := by decide +kernel
theorem dZM_change_122 : decode cZM_change 122 = .ok (.idiv, 1) := by decide +kernel
theorem dZM_change_123 : decode cZM_change 123 = .ok (.isub, 1) := by decide +kernel
theorem dZM_change_124 : decode cZM_change 124 = .ok (.iconst 1, 1) := by decide +kernel
theorem dZM_change_125 : decode cZM_change 125 = .ok (.iadd, 1) := by decide +kernel
theorem dZM_change_126 : decode cZM_change 126 = .ok (.iload_n 2, 1) := by decide +kernel
theorem dZM_change_127 : decode cZM_change 127 = .ok (.iload 4, 2) := by decide +kernel
theorem dZM_change_129 : decode cZM_change 129 = .ok (.iadd, 1) := by decide +kernel
theorem dZM_change_130 : decode cZM_change 130 = .ok (.iconst 1, 1) := by decide +kernel
theorem dZM_change_131 : decode cZM_change 131 = .ok (.isub, 1) := by decide +kernel
theorem dZM_change_132 : decode cZM_change 132 = .ok (.iload 8, 2) := by decide +kernel
theorem dZM_change_134 : decode cZM_change 134 = .ok (.idiv, 1) := by decide +kernel
theorem dZM_change_135 : decode cZM_change 135 = .ok (.iload_n 2, 1) := by decide +kernel
theorem dZM_change_136 : decode cZM_change 136 = .ok (.iload 8, 2) := by decide +kernel
theorem dZM_change_138 : decode cZM_change 138 = .ok (.idiv, 1) := by decide +kernel
theorem dZM_change_139 : decode cZM_change 139 = .ok (.isub, 1) := by decide +kernel
theorem dZM_change_140 : decode cZM_change 140 = .ok (.iconst 1, 1) := by decide +kernel
theorem dZM_change_141 : decode cZM_change 141 = .ok (.iadd, 1) := by decide +kernel
theorem dZM_change_142 : decode cZM_change 142 = .ok (.imul, 1) := by decide +kernel
theorem dZM_change_143 : decode cZM_change 143 = .ok (.iadd, 1) := by decide +kernel
theorem dZM_change_144 : decode cZM_change 144 = .ok (.istore 6, 2) := by decide +kernel
theorem dZM_change_146 : decode cZM_change 146 = .ok (.iinc 7 1, 3) := by decide +kernel
theorem dZM_change_149 : decode cZM_change 149 = .ok (.goto (-56), 3) := by decide +kernel
theorem dZM_change_152 : decode cZM_change 152 = .ok (.iload 6, 2) := by decide +kernel
theorem dZM_change_154 : decode cZM_change 154 = .ok (.ireturn, 1) := by decide +kernel
abbrev wsZM_change : List Cond := .code yZM_change cZM_change 9 (some .int) :: tbg
def lp_ZM_change_49 (zt : Int32) (zw : Int32) (zh : Int32) (zp : Nat → Int32) (zs : Nat → Int32) (zb : Nat → Int32) (zz : Int32) (zl : Nat → Int32) (zo : Nat → Int32) (zc : Int32) (zr : Int32) (zu : Int32) (zv : Int32) (zq : Int32) (zi : Int32) (zk : Nat → Int32) (zm : Nat → Int32) (zd : Int32) (zg : Nat → Int32) (a1 : Int32) (a2 : Int32) (a3 : Int32) (a4 : Int32) (a5 : Int32) (r_1 : Int32) (t0_j25 : Int32) (r_2 : Int32) (t0_j38 : Int32) (r_4 : Int32) (zt_3 : Int32) (post : Int32 → Int32 → (Nat → Int32) → Prop) (K49 : Int32 → (Nat → Int32) → Prop) (n : Nat) : Int32 → (Nat → Int32) → Prop := Nat.rec (motive := fun _ => Int32 → (Nat → Int32) → Prop) (fun (x6_49 : Int32) (f_49_ozp : Nat → Int32) => False) (fun _ ih49 (x6_49 : Int32) (f_49_ozp : Nat → Int32) => (((a3 * a4) ≤ x6_49 → (K49 x6_49 f_49_ozp)) ∧ (¬ (a3 * a4) ≤ x6_49 → (¬ a3 = 0 ∧ (¬ a3 = 0 ∧ (vp_in ((((40 : Int32) * (a2 + (x6_49 / a3))) + a1) + (x6_49 - x6_49 / a3 * a3)) 1600 ∧ (ih49 (x6_49 + (1 : Int32)) (upd f_49_ozp ((((40 : Int32) * (a2 + (x6_49 / a3))) + a1) + (x6_49 - x6_49 / a3 * a3)).toNatClampNeg a5)))))))) n
def lp_ZM_change_93 (zt : Int32) (zw : Int32) (zh : Int32) (zp : Nat → Int32) (zs : Nat → Int32) (zb : Nat → Int32) (zz : Int32) (zl : Nat → Int32) (zo : Nat → Int32) (zc : Int32) (zr : Int32) (zu : Int32) (zv : Int32) (zq : Int32) (zi : Int32) (zk : Nat → Int32) (zm : Nat → Int32) (zd : Int32) (zg : Nat → Int32) (a1 : Int32) (a2 : Int32) (a3 : Int32) (a4 : Int32) (a5 : Int32) (r_1 : Int32) (t0_j25 : Int32) (r_2 : Int32) (t0_j38 : Int32) (r_4 : Int32) (zt_3 : Int32) (x6_49e : Int32) (f_49e_ozp : Nat → Int32) (post : Int32 → Int32 → (Nat → Int32) → Prop) (K93 : Int32 → Int32 → Prop) (n : Nat) : Int32 → Int32 → Prop := Nat.rec (motive := fun _ => Int32 → Int32 → Prop) (fun (x6_93 : Int32) (x7_93 : Int32) => False) (fun _ ih93 (x6_93 : Int32) (x7_93 : Int32) => wp_ZM_many zt_3 zw zh f_49e_ozp zs zb zz zl zo zc zr zu zv zq zi zk zm zd zg (fun r_10 : Int32 => ((r_10 ≤ x7_93 → (K93 x6_93 x7_93)) ∧ (¬ r_10 ≤ x7_93 → (¬ ((8 : Int32) <<< (x7_93 &&& 31)) = 0 ∧ (¬ ((8 : Int32) <<< (x7_93 &&& 31)) = 0 ∧ (¬ ((8 : Int32) <<< (x7_93 &&& 31)) = 0 ∧ (¬ ((8 : Int32) <<< (x7_93 &&& 31)) = 0 ∧ (ih93 (x6_93 + ((((((a1 + a3) - (1 : Int32)) / ((8 : Int32) <<< (x7_93 &&& 31))) - (a1 / ((8 : Int32) <<< (x7_93 &&& 31)))) + (1 : Int32)) * (((((a2 + a4) - (1 : Int32)) / ((8 : Int32) <<< (x7_93 &&& 31))) - (a2 / ((8 : Int32) <<< (x7_93 &&& 31)))) + (1 : Int32)))) (x7_93 + (1 : Int32))))))))))) n
def wp_ZM_change (zt : Int32) (zw : Int32) (zh : Int32) (zp : Nat → Int32) (zs : Nat → Int32) (zb : Nat → Int32) (zz : Int32) (zl : Nat → Int32) (zo : Nat → Int32) (zc : Int32) (zr : Int32) (zu : Int32) (zv : Int32) (zq : Int32) (zi : Int32) (zk : Nat → Int32) (zm : Nat → Int32) (zd : Int32) (zg : Nat → Int32) (a1 : Int32) (a2 : Int32) (a3 : Int32) (a4 : Int32) (a5 : Int32) (post : Int32 → Int32 → (Nat → Int32) → Prop) : Prop := wp_ZM_isPart a1 a2 a3 a4 zw zh (fun r_1 : Int32 => ∃ J25 : Int32 → Prop, (∀ (t0_j25 : Int32), J25 t0_j25 → wp_ZM_isByte a5 (fun r_2 : Int32 => ∃ J38 : Int32 → Prop, (∀ (t0_j38 : Int32), J38 t0_j38 → wp_ZM_throwing zt zw zh zp zs zb zz zl zo zc zr zu zv zq zi zk zm zd zg t0_j25 t0_j38 (fun (r_4 : Int32) (zt_3 : Int32) => ((r_4 = (0 : Int32) → (∃ n : Nat, lp_ZM_change_49 zt zw zh zp zs zb zz zl zo zc zr zu zv zq zi zk zm zd zg a1 a2 a3 a4 a5 r_1 t0_j25 r_2 t0_j38 r_4 zt_3 post (fun (x6_49e : Int32) (f_49e_ozp : Nat → Int32) => ∃ n : Nat, lp_ZM_change_93 zt zw zh zp zs zb zz zl zo zc zr zu zv zq zi zk zm zd zg a1 a2 a3 a4 a5 r_1 t0_j25 r_2 t0_j38 r_4 zt_3 x6_49e f_49e_ozp post (fun (x6_93e : Int32) (x7_93e : Int32) => post x6_93e zt_3 f_49e_ozp) n (0 : Int32) (0 : Int32)) n (0 : Int32) zp)) ∧ (¬ r_4 = (0 : Int32) → (post (0 : Int32) zt_3 zp))))) ∧ (((r_2 = (0 : Int32) → (J38 (1 : Int32))) ∧ (¬ r_2 = (0 : Int32) → (J38 (0 : Int32))))))) ∧ (((r_1 = (0 : Int32) → (J25 (1 : Int32))) ∧ (¬ r_1 = (0 : Int32) → (J25 (0 : Int32))))))
abbrev rm_ZM_change : Room := { frames := 2, cells := 0, slots := 0, locals := 47 }
set_option maxHeartbeats 4000000 in
set_option maxRecDepth 100000 in
theorem kt_ZM_change (l : Launch) (dC : Nat → ClassId) (dI : Nat → Nat → Nat) (cI : ClassId) (om ozp ozs ozb ozl ozo ozk ozm ozg : Nat) (sz : Nat) (zt : Int32) (zw : Int32) (zh : Int32) (zp : Nat → Int32) (zs : Nat → Int32) (zb : Nat → Int32) (zz : Int32) (zl : Nat → Int32) (zo : Nat → Int32) (zc : Int32) (zr : Int32) (zu : Int32) (zv : Int32) (zq : Int32) (zi : Int32) (zk : Nat → Int32) (zm : Nat → Int32) (zd : Int32) (zg : Nat → Int32) (a1 : Int32) (a2 : Int32) (a3 : Int32) (a4 : Int32) (a5 : Int32) (post : Int32 → Int32 → (Nat → Int32) → Prop) (hw : wp_ZM_change zt zw zh zp zs zb zz zl zo zc zr zu zv zq zi zk zm zd zg a1 a2 a3 a4 a5 post) : Met l yZM_change wsZM_change rm_ZM_change (gw_Pc dC dI [(cI, .int)] [.ref om, .int a1, .int a2, .int a3, .int a4, .int a5] [(om, .inr (6, [.int zt, .int zw, .int zh, .ref ozp, .ref ozs, .ref ozb, .int zz, .ref ozl, .ref ozo, .int zc, .int zr, .int zu, .int zv, .int zq, .int zi, .ref ozk, .ref ozm, .int zd, .ref ozg])), (ozp, .inl (cI, 1600, .inl zp)), (ozs, .inl (cI, 320, .inl zs)), (ozb, .inl (cI, 256, .inl zb)), (ozl, .inl (cI, 64, .inl zl)), (ozo, .inl (cI, 64, .inl zo)), (ozk, .inl (cI, 320, .inl zk)), (ozm, .inl (cI, 40, .inl zm)), (ozg, .inl (cI, 64, .inl zg))] sz) (va_Qi (fun (r : Int32) (u : Int32 × (Nat → Int32)) => post r u.1 u.2) (fun u t => gw_B dC dI [(cI, .int)] (va_A [(om, .inr (6, [.int zt, .int zw, .int zh, .ref ozp, .ref ozs, .ref ozb, .int zz, .ref ozl, .ref ozo, .int zc, .int zr, .int zu, .int zv, .int zq, .int zi, .ref ozk, .ref ozm, .int zd, .ref ozg])), (ozp, .inl (cI, 1600, .inl zp)), (ozs, .inl (cI, 320, .inl zs)), (ozb, .inl (cI, 256, .inl zb)), (ozl, .inl (cI, 64, .inl zl)), (ozo, .inl (cI, 64, .inl zo)), (ozk, .inl (cI, 320, .inl zk)), (ozm, .inl (cI, 40, .inl zm)), (ozg, .inl (cI, 64, .inl zg))] sz) [(om, .inr (6, [.int u.1, .int zw, .int zh, .ref ozp, .ref ozs, .ref ozb, .int zz, .ref ozl, .ref ozo, .int zc, .int zr, .int zu, .int zv, .int zq, .int zi, .ref ozk, .ref ozm, .int zd, .ref ozg])), (ozp, .inl (cI, 1600, .inl u.2)), (ozs, .inl (cI, 320, .inl zs)), (ozb, .inl (cI, 256, .inl zb)), (ozl, .inl (cI, 64, .inl zl)), (ozo, .inl (cI, 64, .inl zo)), (ozk, .inl (cI, 320, .inl zk)), (ozm, .inl (cI, 40, .inl zm)), (ozg, .inl (cI, 64, .inl zg))] t) (va_A [(om, .inr (6, [.int zt, .int zw, .int zh, .ref ozp, .ref ozs, .ref ozb, .int zz, .ref ozl, .ref ozo, .int zc, .int zr, .int zu, .int zv, .int zq, .int zi, .ref ozk, .ref ozm, .int zd, .ref ozg])), (ozp, .inl (cI, 1600, .inl zp)), (ozs, .inl (cI, 320, .inl zs)), (ozb, .inl (cI, 256, .inl zb)), (ozl, .inl (cI, 64, .inl zl)), (ozo, .inl (cI, 64, .inl zo)), (ozk, .inl (cI, 320, .inl zk)), (ozm, .inl (cI, 40, .inl zm)), (ozg, .inl (cI, 64, .inl zg))] sz)) 0 0 (va_A [(om, .inr (6, [.int zt, .int zw, .int zh, .ref ozp, .ref ozs, .ref ozb, .int zz, .ref ozl, .ref ozo, .int zc, .int zr, .int zu, .int zv, .int zq, .int zi, .ref ozk, .ref ozm, .int zd, .ref ozg])), (ozp, .inl (cI, 1600, .inl zp)), (ozs, .inl (cI, 320, .inl zs)), (ozb, .inl (cI, 256, .inl zb)), (ozl, .inl (cI, 64, .inl zl)), (ozo, .inl (cI, 64, .inl zo)), (ozk, .inl (cI, 320, .inl zk)), (ozm, .inl (cI, 40, .inl zm)), (ozg, .inl (cI, 64, .inl zg))] sz) := by
  refine Met.ofW (cc := cZM_change) (maxL := 9) (ret := (some .int)) (by decide) rfl ?_
  intro p e s m args below meth c s₁ B hml hv
  obtain ⟨ha9, hsz, hP, hK, hE, hD0⟩ := hv
  have hx := B.exec
  have hb := B.bytes
  have hr := B.returns
  have hts0 := atoms_spec (ws := wsZM_change) B.pre
  have hts : ∀ w ∈ tbg, w.before args s = true := fun w h => hts0 w (List.mem_cons_of_mem _ h)
  have hown : s.vm.findClass RZM = some m.cls := findClass_of_methodNamed B.named
  have hlocks := B.notSynchronized
  subst hsz
  have hD := hD0.self (sz := s.heap.size)
  refine gx_Q (fun Q9 hQ9 => ?_)
  generalize hAe : va_A [(om, .inr (6, [.int zt, .int zw, .int zh, .ref ozp, .ref ozs, .ref ozb, .int zz, .ref ozl, .ref ozo, .int zc, .int zr, .int zu, .int zv, .int zq, .int zi, .ref ozk, .ref ozm, .int zd, .ref ozg])), (ozp, .inl (cI, 1600, .inl zp)), (ozs, .inl (cI, 320, .inl zs)), (ozb, .inl (cI, 256, .inl zb)), (ozl, .inl (cI, 64, .inl zl)), (ozo, .inl (cI, 64, .inl zo)), (ozk, .inl (cI, 320, .inl zk)), (ozm, .inl (cI, 40, .inl zm)), (ozg, .inl (cI, 64, .inl zg))] s.heap.size = A at hD hQ9 ⊢
  have hA : ∀ q : Nat, s.heap.size ≤ q → A q := fun q h => by rw [← hAe]; exact Or.inr h
  have hS : va_S A s.heap s.heap [] := va_S.rf
  have hl := lv_entry ([.ref om, .int a1, .int a2, .int a3, .int a4, .int a5]) (n := 9) (Nat.le_of_ble_eq_true rfl)
  have he9 : entryFrame m args 9 = F0 m 0 ((lg_sl [.ref om, .int a1, .int a2, .int a3, .int a4, .int a5] ++ List.replicate (9 - (lg_sl ([.ref om, .int a1, .int a2, .int a3, .int a4, .int a5] : List Value)).length) Slot.unset).toArray) [] := by rw [ha9]; exact lg_entry_eq m [.ref om, .int a1, .int a2, .int a3, .int a4, .int a5] 9
  rw [he9]
  generalize (lg_sl ([.ref om, .int a1, .int a2, .int a3, .int a4, .int a5] : List Value) ++ List.replicate (9 - (lg_sl ([.ref om, .int a1, .int a2, .int a3, .int a4, .int a5] : List Value)).length) Slot.unset).toArray = ls at hl ⊢
  have hl : lv_has ls 9 [(0, .ref om), (1, .int a1), (2, .int a2), (3, .int a3), (4, .int a4), (5, .int a5)] := hl
  refine lv_aload_n hx hb dZM_change_0 rfl (lv_at hl 0 rfl) ?_
  refine lv_iload_n hx hb dZM_change_1 rfl (lv_at hl 1 rfl) ?_
  refine lv_iload_n hx hb dZM_change_2 rfl (lv_at hl 2 rfl) ?_
  refine lv_iload_n hx hb dZM_change_3 rfl (lv_at hl 3 rfl) ?_
  refine lv_iload hx hb dZM_change_4 (lv_at hl 4 rfl) ?_
  refine lv_aload_n hx hb dZM_change_6 rfl (lv_at hl 0 rfl) ?_
  refine va_get (D := (dC, dI)) (ci := 6) (v := .int zw) (C := RZM) (T := TZM) (N := 19) hx hb hts inZM hown hK hP 0 rfl rfl 1 (by decide) (hts _ mm_619) (fun _ h9 => h9) rfl dZM_change_7 ?_
  refine lv_aload_n hx hb dZM_change_10 rfl (lv_at hl 0 rfl) ?_
  refine va_get (D := (dC, dI)) (ci := 6) (v := .int zh) (C := RZM) (T := TZM) (N := 19) hx hb hts inZM hown hK hP 0 rfl rfl 2 (by decide) (hts _ mm_620) (fun _ h9 => h9) rfl dZM_change_11 ?_
  have hPc := hP.sub (ws' := []) [] rfl
  refine vp_callSi (va_runS (As := [.int a1, .int a2, .int a3, .int a4, .int zw, .int zh]) (rest := [.ref om]) ⟨hx, hb, hml, hown, hts⟩ (kt_ZM_isPart l dC dI cI  a1 a2 a3 a4 zw zh _ hw) (va_cwS 6 hts (tb_S mm_701 mm_702 mm_8 mm_703) rfl rfl rfl (by decide +kernel) ⟨Nat.le_of_ble_eq_true rfl, Nat.le_of_ble_eq_true rfl⟩) ⟨gr_blind, fun U hU hW => gr_pre hPc hK hE hU hW⟩ rfl rfl hl.1 rfl (lv_room (Nat.le_of_ble_eq_true rfl)) dZM_change_14 ⟨Nat.le_of_ble_eq_true rfl, Nat.le_of_ble_eq_true rfl⟩).run (fun r_1 hw => ?_)
  obtain ⟨J25, hJ25, hw⟩ := hw
  have j25 : ∀ (t0_j25 : Int32), J25 t0_j25 → ∀ (H : Heap) (locs : List Loc), va_P (dC, dI) vwCl [(om, .inr (6, [.int zt, .int zw, .int zh, .ref ozp, .ref ozs, .ref ozb, .int zz, .ref ozl, .ref ozo, .int zc, .int zr, .int zu, .int zv, .int zq, .int zi, .ref ozk, .ref ozm, .int zd, .ref ozg])), (ozp, .inl (cI, 1600, .inl zp)), (ozs, .inl (cI, 320, .inl zs)), (ozb, .inl (cI, 256, .inl zb)), (ozl, .inl (cI, 64, .inl zl)), (ozo, .inl (cI, 64, .inl zo)), (ozk, .inl (cI, 320, .inl zk)), (ozm, .inl (cI, 40, .inl zm)), (ozg, .inl (cI, 64, .inl zg))] H → va_D A [(om, .inr (6, [.int zt, .int zw, .int zh, .ref ozp, .ref ozs, .ref ozb, .int zz, .ref ozl, .ref ozo, .int zc, .int zr, .int zu, .int zv, .int zq, .int zi, .ref ozk, .ref ozm, .int zd, .ref ozg])), (ozp, .inl (cI, 1600, .inl zp)), (ozs, .inl (cI, 320, .inl zs)), (ozb, .inl (cI, 256, .inl zb)), (ozl, .inl (cI, 64, .inl zl)), (ozo, .inl (cI, 64, .inl zo)), (ozk, .inl (cI, 320, .inl zk)), (ozm, .inl (cI, 40, .inl zm)), (ozg, .inl (cI, 64, .inl zg))] → va_S A s.heap H locs → ∀ ls : Array Slot, lv_has ls 9 [(0, .ref om), (1, .int a1), (2, .int a2), (3, .int a3), (4, .int a4), (5, .int a5)] → W p l e (headSpec wsZM_change rm_ZM_change).room s m args below meth c H locs 0 0 Q9 (F0 m 25 ls [.int t0_j25, .ref om]) := by
    intro t0_j25 hw H locs hP hD hS ls hl
    have hw := hJ25 t0_j25 hw
    refine lv_iload hx hb dZM_change_25 (lv_at hl 5 rfl) ?_
    have hPc := hP.sub (ws' := []) [] rfl
    refine vp_callSi (va_runS (As := [.int a5]) (rest := [.int t0_j25, .ref om]) ⟨hx, hb, hml, hown, hts⟩ (kt_ZM_isByte l dC dI cI  a5 _ hw) (va_cwS 1 hts (tb_S mm_690 mm_691 mm_8 mm_692) rfl rfl rfl (by decide +kernel) ⟨Nat.le_of_ble_eq_true rfl, Nat.le_of_ble_eq_true rfl⟩) ⟨gr_blind, fun U hU hW => gr_pre hPc hK hE hU hW⟩ rfl rfl hl.1 rfl (lv_room (Nat.le_of_ble_eq_true rfl)) dZM_change_27 ⟨Nat.le_of_ble_eq_true rfl, Nat.le_of_ble_eq_true rfl⟩).run (fun r_2 hw => ?_)
    obtain ⟨J38, hJ38, hw⟩ := hw
    have j38 : ∀ (t0_j38 : Int32), J38 t0_j38 → ∀ (H : Heap) (locs : List Loc), va_P (dC, dI) vwCl [(om, .inr (6, [.int zt, .int zw, .int zh, .ref ozp, .ref ozs, .ref ozb, .int zz, .ref ozl, .ref ozo, .int zc, .int zr, .int zu, .int zv, .int zq, .int zi, .ref ozk, .ref ozm, .int zd, .ref ozg])), (ozp, .inl (cI, 1600, .inl zp)), (ozs, .inl (cI, 320, .inl zs)), (ozb, .inl (cI, 256, .inl zb)), (ozl, .inl (cI, 64, .inl zl)), (ozo, .inl (cI, 64, .inl zo)), (ozk, .inl (cI, 320, .inl zk)), (ozm, .inl (cI, 40, .inl zm)), (ozg, .inl (cI, 64, .inl zg))] H → va_D A [(om, .inr (6, [.int zt, .int zw, .int zh, .ref ozp, .ref ozs, .ref ozb, .int zz, .ref ozl, .ref ozo, .int zc, .int zr, .int zu, .int zv, .int zq, .int zi, .ref ozk, .ref ozm, .int zd, .ref ozg])), (ozp, .inl (cI, 1600, .inl zp)), (ozs, .inl (cI, 320, .inl zs)), (ozb, .inl (cI, 256, .inl zb)), (ozl, .inl (cI, 64, .inl zl)), (ozo, .inl (cI, 64, .inl zo)), (ozk, .inl (cI, 320, .inl zk)), (ozm, .inl (cI, 40, .inl zm)), (ozg, .inl (cI, 64, .inl zg))] → va_S A s.heap H locs → ∀ ls : Array Slot, lv_has ls 9 [(0, .ref om), (1, .int a1), (2, .int a2), (3, .int a3), (4, .int a4), (5, .int a5)] → W p l e (headSpec wsZM_change rm_ZM_change).room s m args below meth c H locs 0 0 Q9 (F0 m 38 ls [.int t0_j38, .int t0_j25, .ref om]) := by
      intro t0_j38 hw H locs hP hD hS ls hl
      have hw := hJ38 t0_j38 hw
      have hPc := hP.sub (ws' := [(om, .inr (6, [.int zt, .int zw, .int zh, .ref ozp, .ref ozs, .ref ozb, .int zz, .ref ozl, .ref ozo, .int zc, .int zr, .int zu, .int zv, .int zq, .int zi, .ref ozk, .ref ozm, .int zd, .ref ozg])), (ozp, .inl (cI, 1600, .inl zp)), (ozs, .inl (cI, 320, .inl zs)), (ozb, .inl (cI, 256, .inl zb)), (ozl, .inl (cI, 64, .inl zl)), (ozo, .inl (cI, 64, .inl zo)), (ozk, .inl (cI, 320, .inl zk)), (ozm, .inl (cI, 40, .inl zm)), (ozg, .inl (cI, 64, .inl zg))]) [0, 1, 2, 3, 4, 5, 6, 7, 8] rfl
      have hDc := hD.sub (ws' := [(om, .inr (6, [.int zt, .int zw, .int zh, .ref ozp, .ref ozs, .ref ozb, .int zz, .ref ozl, .ref ozo, .int zc, .int zr, .int zu, .int zv, .int zq, .int zi, .ref ozk, .ref ozm, .int zd, .ref ozg])), (ozp, .inl (cI, 1600, .inl zp)), (ozs, .inl (cI, 320, .inl zs)), (ozb, .inl (cI, 256, .inl zb)), (ozl, .inl (cI, 64, .inl zl)), (ozo, .inl (cI, 64, .inl zo)), (ozk, .inl (cI, 320, .inl zk)), (ozm, .inl (cI, 40, .inl zm)), (ozg, .inl (cI, 64, .inl zg))]) [0, 1, 2, 3, 4, 5, 6, 7, 8] (by decide) rfl
      have hFc := va_free (wc := [(om, .inr (6, [.int zt, .int zw, .int zh, .ref ozp, .ref ozs, .ref ozb, .int zz, .ref ozl, .ref ozo, .int zc, .int zr, .int zu, .int zv, .int zq, .int zi, .ref ozk, .ref ozm, .int zd, .ref ozg])), (ozp, .inl (cI, 1600, .inl zp)), (ozs, .inl (cI, 320, .inl zs)), (ozb, .inl (cI, 256, .inl zb)), (ozl, .inl (cI, 64, .inl zl)), (ozo, .inl (cI, 64, .inl zo)), (ozk, .inl (cI, 320, .inl zk)), (ozm, .inl (cI, 40, .inl zm)), (ozg, .inl (cI, 64, .inl zg))]) hD hS hA [0, 1, 2, 3, 4, 5, 6, 7, 8] rfl
      refine va_calli (va_runV (As := [.int t0_j25, .int t0_j38]) (rest := []) ⟨hx, hb, hml, hown, hts⟩ (kt_ZM_throwing l dC dI cI om ozp ozs ozb ozl ozo ozk ozm ozg _ zt zw zh zp zs zb zz zl zo zc zr zu zv zq zi zk zm zd zg t0_j25 t0_j38 _ hw) (cwV 2 hts (tb_V mm_693 mm_695 mp_5 mm_8 mm_696) rfl rfl rfl (by decide +kernel) ⟨Nat.le_of_ble_eq_true rfl, Nat.le_of_ble_eq_true rfl⟩) ⟨gw_blind, va_recv hK hPc (ci := 6) (q0 := 0) rfl rfl, fun U hU hW => gw_pre hPc hDc hK hE hU hW⟩ rfl rfl hl.1 rfl (lv_room (Nat.le_of_ble_eq_true rfl)) dZM_change_38 ⟨Nat.le_of_ble_eq_true rfl, Nat.le_of_ble_eq_true rfl⟩) hS (fun q _ h => hFc q h) hFc (fun r_4 zt_3 t H1 locs ht hvm hw hB hz1 hk1 hS => ?_)
      obtain ⟨hP1, hK1, hD1⟩ := hB
      rw [ht] at hP1
      try dsimp only at hw
      obtain ⟨hP, hD⟩ := va_join (wr := []) (w1 := [(om, .inr (6, [.int zt_3, .int zw, .int zh, .ref ozp, .ref ozs, .ref ozb, .int zz, .ref ozl, .ref ozo, .int zc, .int zr, .int zu, .int zv, .int zq, .int zi, .ref ozk, .ref ozm, .int zd, .ref ozg])), (ozp, .inl (cI, 1600, .inl zp)), (ozs, .inl (cI, 320, .inl zs)), (ozb, .inl (cI, 256, .inl zb)), (ozl, .inl (cI, 64, .inl zl)), (ozo, .inl (cI, 64, .inl zo)), (ozk, .inl (cI, 320, .inl zk)), (ozm, .inl (cI, 40, .inl zm)), (ozg, .inl (cI, 64, .inl zg))]) hP hD [0, 1, 2, 3, 4, 5, 6, 7, 8] [] rfl rfl (by decide) (by decide) hk1 hFc hP1 hD1
      generalize H1 = H at hP hS ⊢
      have hP : va_P (dC, dI) vwCl [(om, .inr (6, [.int zt_3, .int zw, .int zh, .ref ozp, .ref ozs, .ref ozb, .int zz, .ref ozl, .ref ozo, .int zc, .int zr, .int zu, .int zv, .int zq, .int zi, .ref ozk, .ref ozm, .int zd, .ref ozg])), (ozp, .inl (cI, 1600, .inl zp)), (ozs, .inl (cI, 320, .inl zs)), (ozb, .inl (cI, 256, .inl zb)), (ozl, .inl (cI, 64, .inl zl)), (ozo, .inl (cI, 64, .inl zo)), (ozk, .inl (cI, 320, .inl zk)), (ozm, .inl (cI, 40, .inl zm)), (ozg, .inl (cI, 64, .inl zg))] H := hP
      have hD : va_D A [(om, .inr (6, [.int zt_3, .int zw, .int zh, .ref ozp, .ref ozs, .ref ozb, .int zz, .ref ozl, .ref ozo, .int zc, .int zr, .int zu, .int zv, .int zq, .int zi, .ref ozk, .ref ozm, .int zd, .ref ozg])), (ozp, .inl (cI, 1600, .inl zp)), (ozs, .inl (cI, 320, .inl zs)), (ozb, .inl (cI, 256, .inl zb)), (ozl, .inl (cI, 64, .inl zl)), (ozo, .inl (cI, 64, .inl zo)), (ozk, .inl (cI, 320, .inl zk)), (ozm, .inl (cI, 40, .inl zm)), (ozg, .inl (cI, 64, .inl zg))] := hD
      refine lv_if_eq (tgt := 46) hx hb dZM_change_41 (by decide) (fun c_5 => ?_) (fun c_5 => ?_)
      · have hw := hw.1 c_5
        refine lv_iconst (v := (0 : Int32)) hx hb dZM_change_46 (by decide) ?_
        refine lv_istore (lv' := [(6, .int (0 : Int32)), (0, .ref om), (1, .int a1), (2, .int a2), (3, .int a3), (4, .int a4), (5, .int a5)]) hx hb dZM_change_47 hl (by decide) rfl (fun ls hl => ?_)
        have lp49 : ∀ K49 : Int32 → (Nat → Int32) → Prop, (∀ (x6_49 : Int32) (f_49_ozp : Nat → Int32), K49 x6_49 f_49_ozp → ∀ (H : Heap) (locs : List Loc), va_P (dC, dI) vwCl [(om, .inr (6, [.int zt_3, .int zw, .int zh, .ref ozp, .ref ozs, .ref ozb, .int zz, .ref ozl, .ref ozo, .int zc, .int zr, .int zu, .int zv, .int zq, .int zi, .ref ozk, .ref ozm, .int zd, .ref ozg])), (ozp, .inl (cI, 1600, .inl f_49_ozp)), (ozs, .inl (cI, 320, .inl zs)), (ozb, .inl (cI, 256, .inl zb)), (ozl, .inl (cI, 64, .inl zl)), (ozo, .inl (cI, 64, .inl zo)), (ozk, .inl (cI, 320, .inl zk)), (ozm, .inl (cI, 40, .inl zm)), (ozg, .inl (cI, 64, .inl zg))] H → va_D A [(om, .inr (6, [.int zt_3, .int zw, .int zh, .ref ozp, .ref ozs, .ref ozb, .int zz, .ref ozl, .ref ozo, .int zc, .int zr, .int zu, .int zv, .int zq, .int zi, .ref ozk, .ref ozm, .int zd, .ref ozg])), (ozp, .inl (cI, 1600, .inl f_49_ozp)), (ozs, .inl (cI, 320, .inl zs)), (ozb, .inl (cI, 256, .inl zb)), (ozl, .inl (cI, 64, .inl zl)), (ozo, .inl (cI, 64, .inl zo)), (ozk, .inl (cI, 320, .inl zk)), (ozm, .inl (cI, 40, .inl zm)), (ozg, .inl (cI, 64, .inl zg))] → va_S A s.heap H locs → ∀ ls : Array Slot, lv_has ls 9 [(6, .int x6_49), (0, .ref om), (1, .int a1), (2, .int a2), (3, .int a3), (4, .int a4), (5, .int a5)] → W p l e (headSpec wsZM_change rm_ZM_change).room s m args below meth c H locs 0 0 Q9 (F0 m 87 ls [])) → ∀ (n : Nat) (x6_49 : Int32) (f_49_ozp : Nat → Int32), lp_ZM_change_49 zt zw zh zp zs zb zz zl zo zc zr zu zv zq zi zk zm zd zg a1 a2 a3 a4 a5 r_1 t0_j25 r_2 t0_j38 r_4 zt_3 post K49 n x6_49 f_49_ozp → ∀ (H : Heap) (locs : List Loc), va_P (dC, dI) vwCl [(om, .inr (6, [.int zt_3, .int zw, .int zh, .ref ozp, .ref ozs, .ref ozb, .int zz, .ref ozl, .ref ozo, .int zc, .int zr, .int zu, .int zv, .int zq, .int zi, .ref ozk, .ref ozm, .int zd, .ref ozg])), (ozp, .inl (cI, 1600, .inl f_49_ozp)), (ozs, .inl (cI, 320, .inl zs)), (ozb, .inl (cI, 256, .inl zb)), (ozl, .inl (cI, 64, .inl zl)), (ozo, .inl (cI, 64, .inl zo)), (ozk, .inl (cI, 320, .inl zk)), (ozm, .inl (cI, 40, .inl zm)), (ozg, .inl (cI, 64, .inl zg))] H → va_D A [(om, .inr (6, [.int zt_3, .int zw, .int zh, .ref ozp, .ref ozs, .ref ozb, .int zz, .ref ozl, .ref ozo, .int zc, .int zr, .int zu, .int zv, .int zq, .int zi, .ref ozk, .ref ozm, .int zd, .ref ozg])), (ozp, .inl (cI, 1600, .inl f_49_ozp)), (ozs, .inl (cI, 320, .inl zs)), (ozb, .inl (cI, 256, .inl zb)), (ozl, .inl (cI, 64, .inl zl)), (ozo, .inl (cI, 64, .inl zo)), (ozk, .inl (cI, 320, .inl zk)), (ozm, .inl (cI, 40, .inl zm)), (ozg, .inl (cI, 64, .inl zg))] → va_S A s.heap H locs → ∀ ls : Array Slot, lv_has ls 9 [(6, .int x6_49), (0, .ref om), (1, .int a1), (2, .int a2), (3, .int a3), (4, .int a4), (5, .int a5)] → W p l e (headSpec wsZM_change rm_ZM_change).room s m args below meth c H locs 0 0 Q9 (F0 m 49 ls []) := by
          intro K49 aft49 n
          induction n with
          | zero => intro x6_49 f_49_ozp hw; exact False.elim hw
          | succ n ih49 =>
            intro x6_49 f_49_ozp hw H locs hP hD hS ls hl
            refine lv_iload hx hb dZM_change_49 (lv_at hl 0 rfl) ?_
            refine lv_iload_n hx hb dZM_change_51 rfl (lv_at hl 4 rfl) ?_
            refine lv_iload hx hb dZM_change_52 (lv_at hl 5 rfl) ?_
            refine lv_imul hx hb dZM_change_54 ?_
            refine lv_icmp_ge (tgt := 87) hx hb dZM_change_55 (by decide) (fun c_6 => ?_) (fun c_6 => ?_)
            · have hw := hw.1 c_6
              exact aft49 x6_49 f_49_ozp hw _ _ (hP.sub [0, 1, 2, 3, 4, 5, 6, 7, 8] rfl) (hD.sub [0, 1, 2, 3, 4, 5, 6, 7, 8] (by decide) rfl) hS ls (lv_sub hl [0, 1, 2, 3, 4, 5, 6] rfl)
            · have hw := hw.2 c_6
              refine lv_aload_n hx hb dZM_change_58 rfl (lv_at hl 1 rfl) ?_
              refine va_get (D := (dC, dI)) (ci := 6) (v := .ref ozp) (C := RZM) (T := TZM) (N := 19) hx hb hts inZM hown hK hP 0 rfl rfl 3 (by decide) (hts _ mm_621) (fun _ h9 => h9) rfl dZM_change_59 ?_
              refine lv_bipush (v := (40 : Int32)) hx hb dZM_change_62 (by decide) ?_
              refine lv_iload_n hx hb dZM_change_64 rfl (lv_at hl 3 rfl) ?_
              refine lv_iload hx hb dZM_change_65 (lv_at hl 0 rfl) ?_
              refine lv_iload_n hx hb dZM_change_67 rfl (lv_at hl 4 rfl) ?_
              obtain ⟨h_7, hw⟩ := hw
              refine lv_idiv hx hb dZM_change_68 h_7 ?_
              refine lv_iadd hx hb dZM_change_69 ?_
              refine lv_imul hx hb dZM_change_70 ?_
              refine lv_iload_n hx hb dZM_change_71 rfl (lv_at hl 2 rfl) ?_
              refine lv_iadd hx hb dZM_change_72 ?_
              refine lv_iload hx hb dZM_change_73 (lv_at hl 0 rfl) ?_
              refine lv_iload_n hx hb dZM_change_75 rfl (lv_at hl 4 rfl) ?_
              obtain ⟨h_8, hw⟩ := hw
              refine lv_irem hx hb dZM_change_76 h_8 ?_
              refine lv_iadd hx hb dZM_change_77 ?_
              refine lv_iload hx hb dZM_change_78 (lv_at hl 6 rfl) ?_
              obtain ⟨h_9, hw⟩ := hw
              refine va_iast hx hb hK hP hD hS 1 0 rfl rfl h_9 dZM_change_80 (fun H locs hP hD hS => ?_)
              have hP : va_P (dC, dI) vwCl [(om, .inr (6, [.int zt_3, .int zw, .int zh, .ref ozp, .ref ozs, .ref ozb, .int zz, .ref ozl, .ref ozo, .int zc, .int zr, .int zu, .int zv, .int zq, .int zi, .ref ozk, .ref ozm, .int zd, .ref ozg])), (ozp, .inl (cI, 1600, .inl (upd f_49_ozp ((((40 : Int32) * (a2 + (x6_49 / a3))) + a1) + (x6_49 - x6_49 / a3 * a3)).toNatClampNeg a5))), (ozs, .inl (cI, 320, .inl zs)), (ozb, .inl (cI, 256, .inl zb)), (ozl, .inl (cI, 64, .inl zl)), (ozo, .inl (cI, 64, .inl zo)), (ozk, .inl (cI, 320, .inl zk)), (ozm, .inl (cI, 40, .inl zm)), (ozg, .inl (cI, 64, .inl zg))] H := hP
              have hD : va_D A [(om, .inr (6, [.int zt_3, .int zw, .int zh, .ref ozp, .ref ozs, .ref ozb, .int zz, .ref ozl, .ref ozo, .int zc, .int zr, .int zu, .int zv, .int zq, .int zi, .ref ozk, .ref ozm, .int zd, .ref ozg])), (ozp, .inl (cI, 1600, .inl (upd f_49_ozp ((((40 : Int32) * (a2 + (x6_49 / a3))) + a1) + (x6_49 - x6_49 / a3 * a3)).toNatClampNeg a5))), (ozs, .inl (cI, 320, .inl zs)), (ozb, .inl (cI, 256, .inl zb)), (ozl, .inl (cI, 64, .inl zl)), (ozo, .inl (cI, 64, .inl zo)), (ozk, .inl (cI, 320, .inl zk)), (ozm, .inl (cI, 40, .inl zm)), (ozg, .inl (cI, 64, .inl zg))] := hD
              refine lv_iinc (v := x6_49 + (1 : Int32)) (lv' := [(6, .int (x6_49 + (1 : Int32))), (0, .ref om), (1, .int a1), (2, .int a2), (3, .int a3), (4, .int a4), (5, .int a5)]) hx hb dZM_change_81 hl (k := 0) rfl rfl (by decide) rfl (fun ls hl => ?_)
              refine lv_goto (tgt := 49) hx hb dZM_change_84 (by decide) ?_
              exact ih49 (x6_49 + (1 : Int32)) (upd f_49_ozp ((((40 : Int32) * (a2 + (x6_49 / a3))) + a1) + (x6_49 - x6_49 / a3 * a3)).toNatClampNeg a5) hw _ _ (hP.sub [0, 1, 2, 3, 4, 5, 6, 7, 8] rfl) (hD.sub [0, 1, 2, 3, 4, 5, 6, 7, 8] (by decide) rfl) hS ls (lv_sub hl [0, 1, 2, 3, 4, 5, 6] rfl)
        obtain ⟨n49, hw⟩ := hw
        refine lp49 _ (fun x6_49e f_49e_ozp hw H locs hP hD hS ls hl => ?_) n49 (0 : Int32) zp hw _ _ (hP.sub [0, 1, 2, 3, 4, 5, 6, 7, 8] rfl) (hD.sub [0, 1, 2, 3, 4, 5, 6, 7, 8] (by decide) rfl) hS ls (lv_sub hl [0, 1, 2, 3, 4, 5, 6] rfl)
        refine lv_iconst (v := (0 : Int32)) hx hb dZM_change_87 (by decide) ?_
        refine lv_istore (lv' := [(6, .int (0 : Int32)), (0, .ref om), (1, .int a1), (2, .int a2), (3, .int a3), (4, .int a4), (5, .int a5)]) hx hb dZM_change_88 hl (by decide) rfl (fun ls hl => ?_)
        refine lv_iconst (v := (0 : Int32)) hx hb dZM_change_90 (by decide) ?_
        refine lv_istore (lv' := [(7, .int (0 : Int32)), (6, .int (0 : Int32)), (0, .ref om), (1, .int a1), (2, .int a2), (3, .int a3), (4, .int a4), (5, .int a5)]) hx hb dZM_change_91 hl (by decide) rfl (fun ls hl => ?_)
        have lp93 : ∀ K93 : Int32 → Int32 → Prop, (∀ (x6_93 : Int32) (x7_93 : Int32), K93 x6_93 x7_93 → ∀ (H : Heap) (locs : List Loc), va_P (dC, dI) vwCl [(om, .inr (6, [.int zt_3, .int zw, .int zh, .ref ozp, .ref ozs, .ref ozb, .int zz, .ref ozl, .ref ozo, .int zc, .int zr, .int zu, .int zv, .int zq, .int zi, .ref ozk, .ref ozm, .int zd, .ref ozg])), (ozp, .inl (cI, 1600, .inl f_49e_ozp)), (ozs, .inl (cI, 320, .inl zs)), (ozb, .inl (cI, 256, .inl zb)), (ozl, .inl (cI, 64, .inl zl)), (ozo, .inl (cI, 64, .inl zo)), (ozk, .inl (cI, 320, .inl zk)), (ozm, .inl (cI, 40, .inl zm)), (ozg, .inl (cI, 64, .inl zg))] H → va_D A [(om, .inr (6, [.int zt_3, .int zw, .int zh, .ref ozp, .ref ozs, .ref ozb, .int zz, .ref ozl, .ref ozo, .int zc, .int zr, .int zu, .int zv, .int zq, .int zi, .ref ozk, .ref ozm, .int zd, .ref ozg])), (ozp, .inl (cI, 1600, .inl f_49e_ozp)), (ozs, .inl (cI, 320, .inl zs)), (ozb, .inl (cI, 256, .inl zb)), (ozl, .inl (cI, 64, .inl zl)), (ozo, .inl (cI, 64, .inl zo)), (ozk, .inl (cI, 320, .inl zk)), (ozm, .inl (cI, 40, .inl zm)), (ozg, .inl (cI, 64, .inl zg))] → va_S A s.heap H locs → ∀ ls : Array Slot, lv_has ls 9 [(7, .int x7_93), (6, .int x6_93), (0, .ref om), (1, .int a1), (2, .int a2), (3, .int a3), (4, .int a4), (5, .int a5)] → W p l e (headSpec wsZM_change rm_ZM_change).room s m args below meth c H locs 0 0 Q9 (F0 m 152 ls [])) → ∀ (n : Nat) (x6_93 : Int32) (x7_93 : Int32), lp_ZM_change_93 zt zw zh zp zs zb zz zl zo zc zr zu zv zq zi zk zm zd zg a1 a2 a3 a4 a5 r_1 t0_j25 r_2 t0_j38 r_4 zt_3 x6_49e f_49e_ozp post K93 n x6_93 x7_93 → ∀ (H : Heap) (locs : List Loc), va_P (dC, dI) vwCl [(om, .inr (6, [.int zt_3, .int zw, .int zh, .ref ozp, .ref ozs, .ref ozb, .int zz, .ref ozl, .ref ozo, .int zc, .int zr, .int zu, .int zv, .int zq, .int zi, .ref ozk, .ref ozm, .int zd, .ref ozg])), (ozp, .inl (cI, 1600, .inl f_49e_ozp)), (ozs, .inl (cI, 320, .inl zs)), (ozb, .inl (cI, 256, .inl zb)), (ozl, .inl (cI, 64, .inl zl)), (ozo, .inl (cI, 64, .inl zo)), (ozk, .inl (cI, 320, .inl zk)), (ozm, .inl (cI, 40, .inl zm)), (ozg, .inl (cI, 64, .inl zg))] H → va_D A [(om, .inr (6, [.int zt_3, .int zw, .int zh, .ref ozp, .ref ozs, .ref ozb, .int zz, .ref ozl, .ref ozo, .int zc, .int zr, .int zu, .int zv, .int zq, .int zi, .ref ozk, .ref ozm, .int zd, .ref ozg])), (ozp, .inl (cI, 1600, .inl f_49e_ozp)), (ozs, .inl (cI, 320, .inl zs)), (ozb, .inl (cI, 256, .inl zb)), (ozl, .inl (cI, 64, .inl zl)), (ozo, .inl (cI, 64, .inl zo)), (ozk, .inl (cI, 320, .inl zk)), (ozm, .inl (cI, 40, .inl zm)), (ozg, .inl (cI, 64, .inl zg))] → va_S A s.heap H locs → ∀ ls : Array Slot, lv_has ls 9 [(7, .int x7_93), (6, .int x6_93), (0, .ref om), (1, .int a1), (2, .int a2), (3, .int a3), (4, .int a4), (5, .int a5)] → W p l e (headSpec wsZM_change rm_ZM_change).room s m args below meth c H locs 0 0 Q9 (F0 m 93 ls []) := by
          intro K93 aft93 n
          induction n with
          | zero => intro x6_93 x7_93 hw; exact False.elim hw
          | succ n ih93 =>
            intro x6_93 x7_93 hw H locs hP hD hS ls hl
            have hw : wp_ZM_many zt_3 zw zh f_49e_ozp zs zb zz zl zo zc zr zu zv zq zi zk zm zd zg (fun r_10 : Int32 => ((r_10 ≤ x7_93 → (K93 x6_93 x7_93)) ∧ (¬ r_10 ≤ x7_93 → (¬ ((8 : Int32) <<< (x7_93 &&& 31)) = 0 ∧ (¬ ((8 : Int32) <<< (x7_93 &&& 31)) = 0 ∧ (¬ ((8 : Int32) <<< (x7_93 &&& 31)) = 0 ∧ (¬ ((8 : Int32) <<< (x7_93 &&& 31)) = 0 ∧ (lp_ZM_change_93 zt zw zh zp zs zb zz zl zo zc zr zu zv zq zi zk zm zd zg a1 a2 a3 a4 a5 r_1 t0_j25 r_2 t0_j38 r_4 zt_3 x6_49e f_49e_ozp post K93 n (x6_93 + ((((((a1 + a3) - (1 : Int32)) / ((8 : Int32) <<< (x7_93 &&& 31))) - (a1 / ((8 : Int32) <<< (x7_93 &&& 31)))) + (1 : Int32)) * (((((a2 + a4) - (1 : Int32)) / ((8 : Int32) <<< (x7_93 &&& 31))) - (a2 / ((8 : Int32) <<< (x7_93 &&& 31)))) + (1 : Int32)))) (x7_93 + (1 : Int32)))))))))) := hw
            refine lv_iload hx hb dZM_change_93 (lv_at hl 0 rfl) ?_
            refine lv_aload_n hx hb dZM_change_95 rfl (lv_at hl 2 rfl) ?_
            refine vp_callSi (va_runV (As := []) (rest := [.int x7_93]) ⟨hx, hb, hml, hown, hts⟩ (kt_ZM_many l dC dI cI om ozp ozs ozb ozl ozo ozk ozm ozg zt_3 zw zh f_49e_ozp zs zb zz zl zo zc zr zu zv zq zi zk zm zd zg _ hw) (cwV 0 hts (tb_V mm_704 mm_706 mp_6 mm_8 mm_707) rfl rfl rfl (by decide +kernel) ⟨Nat.le_of_ble_eq_true rfl, Nat.le_of_ble_eq_true rfl⟩) ⟨gr_blind, va_recv hK hP (ci := 6) (q0 := 0) rfl rfl, fun U hU hW => gr_pre hP hK hE hU hW⟩ rfl rfl hl.1 rfl (lv_room (Nat.le_of_ble_eq_true rfl)) dZM_change_96 ⟨Nat.le_of_ble_eq_true rfl, Nat.le_of_ble_eq_true rfl⟩).run (fun r_10 hw => ?_)
            refine lv_icmp_ge (tgt := 152) hx hb dZM_change_99 (by decide) (fun c_11 => ?_) (fun c_11 => ?_)
            · have hw := hw.1 c_11
              exact aft93 x6_93 x7_93 hw _ _ (hP.sub [0, 1, 2, 3, 4, 5, 6, 7, 8] rfl) (hD.sub [0, 1, 2, 3, 4, 5, 6, 7, 8] (by decide) rfl) hS ls (lv_sub hl [0, 1, 2, 3, 4, 5, 6, 7] rfl)
            · have hw := hw.2 c_11
              refine lv_bipush (v := (8 : Int32)) hx hb dZM_change_102 (by decide) ?_
              refine lv_iload hx hb dZM_change_104 (lv_at hl 0 rfl) ?_
              refine lv_ishl hx hb dZM_change_106 ?_
              refine lv_istore (lv' := [(8, .int ((8 : Int32) <<< (x7_93 &&& 31))), (7, .int x7_93), (6, .int x6_93), (0, .ref om), (1, .int a1), (2, .int a2), (3, .int a3), (4, .int a4), (5, .int a5)]) hx hb dZM_change_107 hl (by decide) rfl (fun ls hl => ?_)
              refine lv_iload hx hb dZM_change_109 (lv_at hl 2 rfl) ?_
              refine lv_iload_n hx hb dZM_change_111 rfl (lv_at hl 4 rfl) ?_
              refine lv_iload_n hx hb dZM_change_112 rfl (lv_at hl 6 rfl) ?_
              refine lv_iadd hx hb dZM_change_113 ?_
              refine lv_iconst (v := (1 : Int32)) hx hb dZM_change_114 (by decide) ?_
              refine lv_isub hx hb dZM_change_115 ?_
              refine lv_iload hx hb dZM_change_116 (lv_at hl 0 rfl) ?_
              obtain ⟨h_12, hw⟩ := hw
              refine lv_idiv hx hb dZM_change_118 h_12 ?_
              refine lv_iload_n hx hb dZM_change_119 rfl (lv_at hl 4 rfl) ?_
              refine lv_iload hx hb dZM_change_120 (lv_at hl 0 rfl) ?_
              obtain ⟨h_13, hw⟩ := hw
              refine lv_idiv hx hb dZM_change_122 h_13 ?_
              refine lv_isub hx hb dZM_change_123 ?_
              refine lv_iconst (v := (1 : Int32)) hx hb dZM_change_124 (by decide) ?_
              refine lv_iadd hx hb dZM_change_125 ?_
              refine lv_iload_n hx hb dZM_change_126 rfl (lv_at hl 5 rfl) ?_
              refine lv_iload hx hb dZM_change_127 (lv_at hl 7 rfl) ?_
              refine lv_iadd hx hb dZM_change_129 ?_
              refine lv_iconst (v := (1 : Int32)) hx hb dZM_change_130 (by decide) ?_
              refine lv_isub hx hb dZM_change_131 ?_
              refine lv_iload hx hb dZM_change_132 (lv_at hl 0 rfl) ?_
              obtain ⟨h_14, hw⟩ := hw
              refine lv_idiv hx hb dZM_change_134 h_14 ?_
              refine lv_iload_n hx hb dZM_change_135 rfl (lv_at hl 5 rfl) ?_
              refine lv_iload hx hb dZM_change_136 (lv_at hl 0 rfl) ?_
              obtain ⟨h_15, hw⟩ := hw
              refine lv_idiv hx hb dZM_change_138 h_15 ?_
              refine lv_isub hx hb dZM_change_139 ?_
              refine lv_iconst (v := (1 : Int32)) hx hb dZM_change_140 (by decide) ?_
              refine lv_iadd hx hb dZM_change_141 ?_
              refine lv_imul hx hb dZM_change_142 ?_
              refine lv_iadd hx hb dZM_change_143 ?_
              refine lv_istore (lv' := [(6, .int (x6_93 + ((((((a1 + a3) - (1 : Int32)) / ((8 : Int32) <<< (x7_93 &&& 31))) - (a1 / ((8 : Int32) <<< (x7_93 &&& 31)))) + (1 : Int32)) * (((((a2 + a4) - (1 : Int32)) / ((8 : Int32) <<< (x7_93 &&& 31))) - (a2 / ((8 : Int32) <<< (x7_93 &&& 31)))) + (1 : Int32))))), (8, .int ((8 : Int32) <<< (x7_93 &&& 31))), (7, .int x7_93), (0, .ref om), (1, .int a1), (2, .int a2), (3, .int a3), (4, .int a4), (5, .int a5)]) hx hb dZM_change_144 hl (by decide) rfl (fun ls hl => ?_)
              refine lv_iinc (v := x7_93 + (1 : Int32)) (lv' := [(7, .int (x7_93 + (1 : Int32))), (6, .int (x6_93 + ((((((a1 + a3) - (1 : Int32)) / ((8 : Int32) <<< (x7_93 &&& 31))) - (a1 / ((8 : Int32) <<< (x7_93 &&& 31)))) + (1 : Int32)) * (((((a2 + a4) - (1 : Int32)) / ((8 : Int32) <<< (x7_93 &&& 31))) - (a2 / ((8 : Int32) <<< (x7_93 &&& 31)))) + (1 : Int32))))), (8, .int ((8 : Int32) <<< (x7_93 &&& 31))), (0, .ref om), (1, .int a1), (2, .int a2), (3, .int a3), (4, .int a4), (5, .int a5)]) hx hb dZM_change_146 hl (k := 2) rfl rfl (by decide) rfl (fun ls hl => ?_)
              refine lv_goto (tgt := 93) hx hb dZM_change_149 (by decide) ?_
              exact ih93 (x6_93 + ((((((a1 + a3) - (1 : Int32)) / ((8 : Int32) <<< (x7_93 &&& 31))) - (a1 / ((8 : Int32) <<< (x7_93 &&& 31)))) + (1 : Int32)) * (((((a2 + a4) - (1 : Int32)) / ((8 : Int32) <<< (x7_93 &&& 31))) - (a2 / ((8 : Int32) <<< (x7_93 &&& 31)))) + (1 : Int32)))) (x7_93 + (1 : Int32)) hw _ _ (hP.sub [0, 1, 2, 3, 4, 5, 6, 7, 8] rfl) (hD.sub [0, 1, 2, 3, 4, 5, 6, 7, 8] (by decide) rfl) hS ls (lv_sub hl [0, 1, 3, 4, 5, 6, 7, 8] rfl)
        obtain ⟨n93, hw⟩ := hw
        refine lp93 _ (fun x6_93e x7_93e hw H locs hP hD hS ls hl => ?_) n93 (0 : Int32) (0 : Int32) hw _ _ (hP.sub [0, 1, 2, 3, 4, 5, 6, 7, 8] rfl) (hD.sub [0, 1, 2, 3, 4, 5, 6, 7, 8] (by decide) rfl) hS ls (lv_sub hl [0, 1, 2, 3, 4, 5, 6, 7] rfl)
        refine lv_iload hx hb dZM_change_152 (lv_at hl 1 rfl) ?_
        have hP9 := hP.sub (ws' := [(om, .inr (6, [.int zt_3, .int zw, .int zh, .ref ozp, .ref ozs, .ref ozb, .int zz, .ref ozl, .ref ozo, .int zc, .int zr, .int zu, .int zv, .int zq, .int zi, .ref ozk, .ref ozm, .int zd, .ref ozg])), (ozp, .inl (cI, 1600, .inl f_49e_ozp)), (ozs, .inl (cI, 320, .inl zs)), (ozb, .inl (cI, 256, .inl zb)), (ozl, .inl (cI, 64, .inl zl)), (ozo, .inl (cI, 64, .inl zo)), (ozk, .inl (cI, 320, .inl zk)), (ozm, .inl (cI, 40, .inl zm)), (ozg, .inl (cI, 64, .inl zg))]) [0, 1, 2, 3, 4, 5, 6, 7, 8] rfl
        have hD9 := hD.sub (ws' := [(om, .inr (6, [.int zt_3, .int zw, .int zh, .ref ozp, .ref ozs, .ref ozb, .int zz, .ref ozl, .ref ozo, .int zc, .int zr, .int zu, .int zv, .int zq, .int zi, .ref ozk, .ref ozm, .int zd, .ref ozg])), (ozp, .inl (cI, 1600, .inl f_49e_ozp)), (ozs, .inl (cI, 320, .inl zs)), (ozb, .inl (cI, 256, .inl zb)), (ozl, .inl (cI, 64, .inl zl)), (ozo, .inl (cI, 64, .inl zo)), (ozk, .inl (cI, 320, .inl zk)), (ozm, .inl (cI, 40, .inl zm)), (ozg, .inl (cI, 64, .inl zg))]) [0, 1, 2, 3, 4, 5, 6, 7, 8] (by decide) rfl
        subst hQ9
        exact W.iret (v := x6_93e) hx hb hr (fun t ht hW => ⟨⟨x6_93e, (zt_3, f_49e_ozp), rfl, hw, by rw [ht]; exact hP9, va_K.moved hW.alike hK, hD9⟩, hS.F ht⟩) hS.2.2 dZM_change_154
      · have hw := hw.2 c_5
        refine lv_iconst (v := (0 : Int32)) hx hb dZM_change_44 (by decide) ?_
        have hP9 := hP.sub (ws' := [(om, .inr (6, [.int zt_3, .int zw, .int zh, .ref ozp, .ref ozs, .ref ozb, .int zz, .ref ozl, .ref ozo, .int zc, .int zr, .int zu, .int zv, .int zq, .int zi, .ref ozk, .ref ozm, .int zd, .ref ozg])), (ozp, .inl (cI, 1600, .inl zp)), (ozs, .inl (cI, 320, .inl zs)), (ozb, .inl (cI, 256, .inl zb)), (ozl, .inl (cI, 64, .inl zl)), (ozo, .inl (cI, 64, .inl zo)), (ozk, .inl (cI, 320, .inl zk)), (ozm, .inl (cI, 40, .inl zm)), (ozg, .inl (cI, 64, .inl zg))]) [0, 1, 2, 3, 4, 5, 6, 7, 8] rfl
        have hD9 := hD.sub (ws' := [(om, .inr (6, [.int zt_3, .int zw, .int zh, .ref ozp, .ref ozs, .ref ozb, .int zz, .ref ozl, .ref ozo, .int zc, .int zr, .int zu, .int zv, .int zq, .int zi, .ref ozk, .ref ozm, .int zd, .ref ozg])), (ozp, .inl (cI, 1600, .inl zp)), (ozs, .inl (cI, 320, .inl zs)), (ozb, .inl (cI, 256, .inl zb)), (ozl, .inl (cI, 64, .inl zl)), (ozo, .inl (cI, 64, .inl zo)), (ozk, .inl (cI, 320, .inl zk)), (ozm, .inl (cI, 40, .inl zm)), (ozg, .inl (cI, 64, .inl zg))]) [0, 1, 2, 3, 4, 5, 6, 7, 8] (by decide) rfl
        subst hQ9
        exact W.iret (v := (0 : Int32)) hx hb hr (fun t ht hW => ⟨⟨(0 : Int32), (zt_3, zp), rfl, hw, by rw [ht]; exact hP9, va_K.moved hW.alike hK, hD9⟩, hS.F ht⟩) hS.2.2 dZM_change_45
    refine lv_if_ne (tgt := 37) hx hb dZM_change_30 (by decide) (fun c_16 => ?_) (fun c_16 => ?_)
    · have hw := hw.2 c_16
      refine lv_iconst (v := (0 : Int32)) hx hb dZM_change_37 (by decide) ?_
      exact j38 (0 : Int32) hw _ _ (hP.sub [0, 1, 2, 3, 4, 5, 6, 7, 8] rfl) (hD.sub [0, 1, 2, 3, 4, 5, 6, 7, 8] (by decide) rfl) hS ls (lv_sub hl [0, 1, 2, 3, 4, 5] rfl)
    · have hw := hw.1 c_16
      refine lv_iconst (v := (1 : Int32)) hx hb dZM_change_33 (by decide) ?_
      refine lv_goto (tgt := 38) hx hb dZM_change_34 (by decide) ?_
      exact j38 (1 : Int32) hw _ _ (hP.sub [0, 1, 2, 3, 4, 5, 6, 7, 8] rfl) (hD.sub [0, 1, 2, 3, 4, 5, 6, 7, 8] (by decide) rfl) hS ls (lv_sub hl [0, 1, 2, 3, 4, 5] rfl)
  refine lv_if_ne (tgt := 24) hx hb dZM_change_17 (by decide) (fun c_17 => ?_) (fun c_17 => ?_)
  · have hw := hw.2 c_17
    refine lv_iconst (v := (0 : Int32)) hx hb dZM_change_24 (by decide) ?_
    exact j25 (0 : Int32) hw _ _ (hP.sub [0, 1, 2, 3, 4, 5, 6, 7, 8] rfl) (hD.sub [0, 1, 2, 3, 4, 5, 6, 7, 8] (by decide) rfl) hS ls (lv_sub hl [0, 1, 2, 3, 4, 5] rfl)
  · have hw := hw.1 c_17
    refine lv_iconst (v := (1 : Int32)) hx hb dZM_change_20 (by decide) ?_
    refine lv_goto (tgt := 25) hx hb dZM_change_21 (by decide) ?_
    exact j25 (1 : Int32) hw _ _ (hP.sub [0, 1, 2, 3, 4, 5, 6, 7, 8] rfl) (hD.sub [0, 1, 2, 3, 4, 5, 6, 7, 8] (by decide) rfl) hS ls (lv_sub hl [0, 1, 2, 3, 4, 5] rfl)
theorem dZM_levels_0 : decode cZM_levels 0 = .ok (.aload_n 0, 1) := by decide +kernel
theorem dZM_levels_1 : decode cZM_levels 1 = .ok (.iconst 0, 1) := by decide +kernel
theorem dZM_levels_2 : decode cZM_levels 2 = .ok (.putfield 45, 3) := by decide +kernel
theorem dZM_levels_5 : decode cZM_levels 5 = .ok (.aload_n 0, 1) := by decide +kernel
theorem dZM_levels_6 : decode cZM_levels 6 = .ok (.invokevirtual 68, 3) := by decide +kernel
theorem dZM_levels_9 : decode cZM_levels 9 = .ok (.ireturn, 1) := by decide +kernel
abbrev wsZM_levels : List Cond := .code yZM_levels cZM_levels 1 (some .int) :: tbg
def wp_ZM_levels (zt : Int32) (zw : Int32) (zh : Int32) (zp : Nat → Int32) (zs : Nat → Int32) (zb : Nat → Int32) (zz : Int32) (zl : Nat → Int32) (zo : Nat → Int32) (zc : Int32) (zr : Int32) (zu : Int32) (zv : Int32) (zq : Int32) (zi : Int32) (zk : Nat → Int32) (zm : Nat → Int32) (zd : Int32) (zg : Nat → Int32) (post : Int32 → Int32 → Prop) : Prop := wp_ZM_many (0 : Int32) zw zh zp zs zb zz zl zo zc zr zu zv zq zi zk zm zd zg (fun r_1 : Int32 => post r_1 (0 : Int32))
abbrev rm_ZM_levels : Room := { frames := 2, cells := 0, slots := 0, locals := 44 }
set_option maxHeartbeats 4000000 in
set_option maxRecDepth 100000 in
theorem kt_ZM_levels (l : Launch) (dC : Nat → ClassId) (dI : Nat → Nat → Nat) (cI : ClassId) (om ozp ozs ozb ozl ozo ozk ozm ozg : Nat) (sz : Nat) (zt : Int32) (zw : Int32) (zh : Int32) (zp : Nat → Int32) (zs : Nat → Int32) (zb : Nat → Int32) (zz : Int32) (zl : Nat → Int32) (zo : Nat → Int32) (zc : Int32) (zr : Int32) (zu : Int32) (zv : Int32) (zq : Int32) (zi : Int32) (zk : Nat → Int32) (zm : Nat → Int32) (zd : Int32) (zg : Nat → Int32) (post : Int32 → Int32 → Prop) (hw : wp_ZM_levels zt zw zh zp zs zb zz zl zo zc zr zu zv zq zi zk zm zd zg post) : Met l yZM_levels wsZM_levels rm_ZM_levels (gw_Pc dC dI [(cI, .int)] [.ref om] [(om, .inr (6, [.int zt, .int zw, .int zh, .ref ozp, .ref ozs, .ref ozb, .int zz, .ref ozl, .ref ozo, .int zc, .int zr, .int zu, .int zv, .int zq, .int zi, .ref ozk, .ref ozm, .int zd, .ref ozg])), (ozp, .inl (cI, 1600, .inl zp)), (ozs, .inl (cI, 320, .inl zs)), (ozb, .inl (cI, 256, .inl zb)), (ozl, .inl (cI, 64, .inl zl)), (ozo, .inl (cI, 64, .inl zo)), (ozk, .inl (cI, 320, .inl zk)), (ozm, .inl (cI, 40, .inl zm)), (ozg, .inl (cI, 64, .inl zg))] sz) (va_Qi (fun (r : Int32) (u : Int32) => post r u) (fun u t => gw_B dC dI [(cI, .int)] (va_A [(om, .inr (6, [.int zt, .int zw, .int zh, .ref ozp, .ref ozs, .ref ozb, .int zz, .ref ozl, .ref ozo, .int zc, .int zr, .int zu, .int zv, .int zq, .int zi, .ref ozk, .ref ozm, .int zd, .ref ozg])), (ozp, .inl (cI, 1600, .inl zp)), (ozs, .inl (cI, 320, .inl zs)), (ozb, .inl (cI, 256, .inl zb)), (ozl, .inl (cI, 64, .inl zl)), (ozo, .inl (cI, 64, .inl zo)), (ozk, .inl (cI, 320, .inl zk)), (ozm, .inl (cI, 40, .inl zm)), (ozg, .inl (cI, 64, .inl zg))] sz) [(om, .inr (6, [.int u, .int zw, .int zh, .ref ozp, .ref ozs, .ref ozb, .int zz, .ref ozl, .ref ozo, .int zc, .int zr, .int zu, .int zv, .int zq, .int zi, .ref ozk, .ref ozm, .int zd, .ref ozg])), (ozp, .inl (cI, 1600, .inl zp)), (ozs, .inl (cI, 320, .inl zs)), (ozb, .inl (cI, 256, .inl zb)), (ozl, .inl (cI, 64, .inl zl)), (ozo, .inl (cI, 64, .inl zo)), (ozk, .inl (cI, 320, .inl zk)), (ozm, .inl (cI, 40, .inl zm)), (ozg, .inl (cI, 64, .inl zg))] t) (va_A [(om, .inr (6, [.int zt, .int zw, .int zh, .ref ozp, .ref ozs, .ref ozb, .int zz, .ref ozl, .ref ozo, .int zc, .int zr, .int zu, .int zv, .int zq, .int zi, .ref ozk, .ref ozm, .int zd, .ref ozg])), (ozp, .inl (cI, 1600, .inl zp)), (ozs, .inl (cI, 320, .inl zs)), (ozb, .inl (cI, 256, .inl zb)), (ozl, .inl (cI, 64, .inl zl)), (ozo, .inl (cI, 64, .inl zo)), (ozk, .inl (cI, 320, .inl zk)), (ozm, .inl (cI, 40, .inl zm)), (ozg, .inl (cI, 64, .inl zg))] sz)) 0 0 (va_A [(om, .inr (6, [.int zt, .int zw, .int zh, .ref ozp, .ref ozs, .ref ozb, .int zz, .ref ozl, .ref ozo, .int zc, .int zr, .int zu, .int zv, .int zq, .int zi, .ref ozk, .ref ozm, .int zd, .ref ozg])), (ozp, .inl (cI, 1600, .inl zp)), (ozs, .inl (cI, 320, .inl zs)), (ozb, .inl (cI, 256, .inl zb)), (ozl, .inl (cI, 64, .inl zl)), (ozo, .inl (cI, 64, .inl zo)), (ozk, .inl (cI, 320, .inl zk)), (ozm, .inl (cI, 40, .inl zm)), (ozg, .inl (cI, 64, .inl zg))] sz) := by
  refine Met.ofW (cc := cZM_levels) (maxL := 1) (ret := (some .int)) (by decide) rfl ?_
  intro p e s m args below meth c s₁ B hml hv
  obtain ⟨ha9, hsz, hP, hK, hE, hD0⟩ := hv
  have hx := B.exec
  have hb := B.bytes
  have hr := B.returns
  have hts0 := atoms_spec (ws := wsZM_levels) B.pre
  have hts : ∀ w ∈ tbg, w.before args s = true := fun w h => hts0 w (List.mem_cons_of_mem _ h)
  have hown : s.vm.findClass RZM = some m.cls := findClass_of_methodNamed B.named
  have hlocks := B.notSynchronized
  subst hsz
  have hD := hD0.self (sz := s.heap.size)
  refine gx_Q (fun Q9 hQ9 => ?_)
  generalize hAe : va_A [(om, .inr (6, [.int zt, .int zw, .int zh, .ref ozp, .ref ozs, .ref ozb, .int zz, .ref ozl, .ref ozo, .int zc, .int zr, .int zu, .int zv, .int zq, .int zi, .ref ozk, .ref ozm, .int zd, .ref ozg])), (ozp, .inl (cI, 1600, .inl zp)), (ozs, .inl (cI, 320, .inl zs)), (ozb, .inl (cI, 256, .inl zb)), (ozl, .inl (cI, 64, .inl zl)), (ozo, .inl (cI, 64, .inl zo)), (ozk, .inl (cI, 320, .inl zk)), (ozm, .inl (cI, 40, .inl zm)), (ozg, .inl (cI, 64, .inl zg))] s.heap.size = A at hD hQ9 ⊢
  have hA : ∀ q : Nat, s.heap.size ≤ q → A q := fun q h => by rw [← hAe]; exact Or.inr h
  have hS : va_S A s.heap s.heap [] := va_S.rf
  have hl := lv_entry ([.ref om]) (n := 1) (Nat.le_of_ble_eq_true rfl)
  have he9 : entryFrame m args 1 = F0 m 0 ((lg_sl [.ref om] ++ List.replicate (1 - (lg_sl ([.ref om] : List Value)).length) Slot.unset).toArray) [] := by rw [ha9]; exact lg_entry_eq m [.ref om] 1
  rw [he9]
  generalize (lg_sl ([.ref om] : List Value) ++ List.replicate (1 - (lg_sl ([.ref om] : List Value)).length) Slot.unset).toArray = ls at hl ⊢
  have hl : lv_has ls 1 [(0, .ref om)] := hl
  refine lv_aload_n hx hb dZM_levels_0 rfl (lv_at hl 0 rfl) ?_
  refine lv_iconst (v := (0 : Int32)) hx hb dZM_levels_1 (by decide) ?_
  refine va_put (D := (dC, dI)) (ci := 6) (v := .int (0 : Int32)) (ty := .int) (C := RZM) (T := TZM) (N := 19) hx hb hts inZM tyZM tyZM_ok nmZM hown hK hP hD hS 0 rfl rfl 0 (by decide) (hts _ mm_618) (fun _ h9 => h9) rfl (by decide +kernel) rfl rfl (Nat.le_of_ble_eq_true rfl) dZM_levels_2 (fun H locs hP hD hS => ?_)
  have hP : va_P (dC, dI) vwCl [(om, .inr (6, [.int (0 : Int32), .int zw, .int zh, .ref ozp, .ref ozs, .ref ozb, .int zz, .ref ozl, .ref ozo, .int zc, .int zr, .int zu, .int zv, .int zq, .int zi, .ref ozk, .ref ozm, .int zd, .ref ozg])), (ozp, .inl (cI, 1600, .inl zp)), (ozs, .inl (cI, 320, .inl zs)), (ozb, .inl (cI, 256, .inl zb)), (ozl, .inl (cI, 64, .inl zl)), (ozo, .inl (cI, 64, .inl zo)), (ozk, .inl (cI, 320, .inl zk)), (ozm, .inl (cI, 40, .inl zm)), (ozg, .inl (cI, 64, .inl zg))] H := hP
  have hD : va_D A [(om, .inr (6, [.int (0 : Int32), .int zw, .int zh, .ref ozp, .ref ozs, .ref ozb, .int zz, .ref ozl, .ref ozo, .int zc, .int zr, .int zu, .int zv, .int zq, .int zi, .ref ozk, .ref ozm, .int zd, .ref ozg])), (ozp, .inl (cI, 1600, .inl zp)), (ozs, .inl (cI, 320, .inl zs)), (ozb, .inl (cI, 256, .inl zb)), (ozl, .inl (cI, 64, .inl zl)), (ozo, .inl (cI, 64, .inl zo)), (ozk, .inl (cI, 320, .inl zk)), (ozm, .inl (cI, 40, .inl zm)), (ozg, .inl (cI, 64, .inl zg))] := hD
  refine lv_aload_n hx hb dZM_levels_5 rfl (lv_at hl 0 rfl) ?_
  refine vp_callSi (va_runV (As := []) (rest := []) ⟨hx, hb, hml, hown, hts⟩ (kt_ZM_many l dC dI cI om ozp ozs ozb ozl ozo ozk ozm ozg (0 : Int32) zw zh zp zs zb zz zl zo zc zr zu zv zq zi zk zm zd zg _ hw) (cwV 0 hts (tb_V mm_704 mm_706 mp_6 mm_8 mm_707) rfl rfl rfl (by decide +kernel) ⟨Nat.le_of_ble_eq_true rfl, Nat.le_of_ble_eq_true rfl⟩) ⟨gr_blind, va_recv hK hP (ci := 6) (q0 := 0) rfl rfl, fun U hU hW => gr_pre hP hK hE hU hW⟩ rfl rfl hl.1 rfl (lv_room (Nat.le_of_ble_eq_true rfl)) dZM_levels_6 ⟨Nat.le_of_ble_eq_true rfl, Nat.le_of_ble_eq_true rfl⟩).run (fun r_1 hw => ?_)
  have hP9 := hP.sub (ws' := [(om, .inr (6, [.int (0 : Int32), .int zw, .int zh, .ref ozp, .ref ozs, .ref ozb, .int zz, .ref ozl, .ref ozo, .int zc, .int zr, .int zu, .int zv, .int zq, .int zi, .ref ozk, .ref ozm, .int zd, .ref ozg])), (ozp, .inl (cI, 1600, .inl zp)), (ozs, .inl (cI, 320, .inl zs)), (ozb, .inl (cI, 256, .inl zb)), (ozl, .inl (cI, 64, .inl zl)), (ozo, .inl (cI, 64, .inl zo)), (ozk, .inl (cI, 320, .inl zk)), (ozm, .inl (cI, 40, .inl zm)), (ozg, .inl (cI, 64, .inl zg))]) [0, 1, 2, 3, 4, 5, 6, 7, 8] rfl
  have hD9 := hD.sub (ws' := [(om, .inr (6, [.int (0 : Int32), .int zw, .int zh, .ref ozp, .ref ozs, .ref ozb, .int zz, .ref ozl, .ref ozo, .int zc, .int zr, .int zu, .int zv, .int zq, .int zi, .ref ozk, .ref ozm, .int zd, .ref ozg])), (ozp, .inl (cI, 1600, .inl zp)), (ozs, .inl (cI, 320, .inl zs)), (ozb, .inl (cI, 256, .inl zb)), (ozl, .inl (cI, 64, .inl zl)), (ozo, .inl (cI, 64, .inl zo)), (ozk, .inl (cI, 320, .inl zk)), (ozm, .inl (cI, 40, .inl zm)), (ozg, .inl (cI, 64, .inl zg))]) [0, 1, 2, 3, 4, 5, 6, 7, 8] (by decide) rfl
  subst hQ9
  exact W.iret (v := r_1) hx hb hr (fun t ht hW => ⟨⟨r_1, (0 : Int32), rfl, hw, by rw [ht]; exact hP9, va_K.moved hW.alike hK, hD9⟩, hS.F ht⟩) hS.2.2 dZM_levels_9
theorem dZM_size_0 : decode cZM_size 0 = .ok (.aload_n 0, 1) := by decide +kernel
theorem dZM_size_1 : decode cZM_size 1 = .ok (.aload_n 0, 1) := by decide +kernel
theorem dZM_size_2 : decode cZM_size 2 = .ok (.iload_n 1, 1) := by decide +kernel
theorem dZM_size_3 : decode cZM_size 3 = .ok (.invokevirtual 76, 3) := by decide +kernel
theorem dZM_size_6 : decode cZM_size 6 = .ok (.ifCond .eq 12, 3) := by decide +kernel
theorem dZM_size_9 : decode cZM_size 9 = .ok (.iload_n 2, 1) := by decide +kernel
theorem dZM_size_10 : decode cZM_size 10 = .ok (.iconst 0, 1) := by decide +kernel
theorem dZM_size_11 : decode cZM_size 11 = .ok (.iconst 1, 1) := by decide +kernel
theorem dZM_size_12 : decode cZM_size 12 = .ok (.invokestatic 48, 3) := by decide +kernel
theorem dZM_size_15 : decode cZM_size 15 = .ok (.ifCond .ne 7, 3) := by decide +kernel
theorem dZM_size_18 : decode cZM_size 18 = .ok (.iconst 1, 1) := by decide +kernel
theorem dZM_size_19 : decode cZM_size 19 = .ok (.goto 4, 3) := by decide +kernel
theorem dZM_size_22 : decode cZM_size 22 = .ok (.iconst 0, 1) := by decide +kernel
theorem dZM_size_23 : decode cZM_size 23 = .ok (.iconst 0, 1) := by decide +kernel
theorem dZM_size_24 : decode cZM_size 24 = .ok (.invokevirtual 60, 3) := by decide +kernel
theorem dZM_size_27 : decode cZM_size 27 = .ok (.ifCond .eq 5, 3) := by decide +kernel
theorem dZM_size_30 : decode cZM_size 30 = .ok (.iconst 0, 1) := by decide +kernel
theorem dZM_size_31 : decode cZM_size 31 = .ok (.ireturn, 1) := by decide +kernel
theorem dZM_size_32 : decode cZM_size 32 = .ok (.iload_n 2, 1) := by decide +kernel
theorem dZM_size_33 : decode cZM_size 33 = .ok (.ifCond .ne 11, 3) := by decide +kernel
theorem dZM_size_36 : decode cZM_size 36 = .ok (.aload_n 0, 1) := by decide +kernel
theorem dZM_size_37 : decode cZM_size 37 = .ok (.iload_n 1, 1) := by decide +kernel
theorem dZM_size_38 : decode cZM_size 38 = .ok (.invokevirtual 79, 3) := by decide +kernel
theorem dZM_size_41 : decode cZM_size 41 = .ok (.goto 8, 3) := by decide +kernel
theorem dZM_size_44 : decode cZM_size 44 = .ok (.aload_n 0, 1) := by decide +kernel
theorem dZM_size_45 : decode cZM_size 45 = .ok (.iload_n 1, 1) := by decide +kernel
theorem dZM_size_46 : decode cZM_size 46 = .ok (.invokevirtual 82, 3) := by decide +kernel
theorem dZM_size_49 : decode cZM_size 49 = .ok (.ireturn, 1) := by decide +kernel
abbrev wsZM_size : List Cond := .code yZM_size cZM_size 3 (some .int) :: tbg
def wp_ZM_size (zt : Int32) (zw : Int32) (zh : Int32) (zp : Nat → Int32) (zs : Nat → Int32) (zb : Nat → Int32) (zz : Int32) (zl : Nat → Int32) (zo : Nat → Int32) (zc : Int32) (zr : Int32) (zu : Int32) (zv : Int32) (zq : Int32) (zi : Int32) (zk : Nat → Int32) (zm : Nat → Int32) (zd : Int32) (zg : Nat → Int32) (a1 : Int32) (a2 : Int32) (post : Int32 → Int32 → Prop) : Prop := wp_ZM_isLevel zt zw zh zp zs zb zz zl zo zc zr zu zv zq zi zk zm zd zg a1 (fun r_1 : Int32 => ∃ J23 : Int32 → Prop, (∀ (t0_j23 : Int32), J23 t0_j23 → wp_ZM_throwing zt zw zh zp zs zb zz zl zo zc zr zu zv zq zi zk zm zd zg t0_j23 (0 : Int32) (fun (r_3 : Int32) (zt_2 : Int32) => ((r_3 = (0 : Int32) → ((a2 = (0 : Int32) → (wp_ZM_across zt_2 zw zh zp zs zb zz zl zo zc zr zu zv zq zi zk zm zd zg a1 (fun r_7 : Int32 => post r_7 zt_2))) ∧ (¬ a2 = (0 : Int32) → (wp_ZM_down zt_2 zw zh zp zs zb zz zl zo zc zr zu zv zq zi zk zm zd zg a1 (fun r_6 : Int32 => post r_6 zt_2))))) ∧ (¬ r_3 = (0 : Int32) → (post (0 : Int32) zt_2))))) ∧ (((r_1 = (0 : Int32) → (J23 (1 : Int32))) ∧ (¬ r_1 = (0 : Int32) → (wp_ZM_in a2 (0 : Int32) (1 : Int32) (fun r_9 : Int32 => ((r_9 = (0 : Int32) → (J23 (1 : Int32))) ∧ (¬ r_9 = (0 : Int32) → (J23 (0 : Int32))))))))))
abbrev rm_ZM_size : Room := { frames := 3, cells := 0, slots := 0, locals := 65 }
set_option maxHeartbeats 4000000 in
set_option maxRecDepth 100000 in
theorem kt_ZM_size (l : Launch) (dC : Nat → ClassId) (dI : Nat → Nat → Nat) (cI : ClassId) (om ozp ozs ozb ozl ozo ozk ozm ozg : Nat) (sz : Nat) (zt : Int32) (zw : Int32) (zh : Int32) (zp : Nat → Int32) (zs : Nat → Int32) (zb : Nat → Int32) (zz : Int32) (zl : Nat → Int32) (zo : Nat → Int32) (zc : Int32) (zr : Int32) (zu : Int32) (zv : Int32) (zq : Int32) (zi : Int32) (zk : Nat → Int32) (zm : Nat → Int32) (zd : Int32) (zg : Nat → Int32) (a1 : Int32) (a2 : Int32) (post : Int32 → Int32 → Prop) (hw : wp_ZM_size zt zw zh zp zs zb zz zl zo zc zr zu zv zq zi zk zm zd zg a1 a2 post) : Met l yZM_size wsZM_size rm_ZM_size (gw_Pc dC dI [(cI, .int)] [.ref om, .int a1, .int a2] [(om, .inr (6, [.int zt, .int zw, .int zh, .ref ozp, .ref ozs, .ref ozb, .int zz, .ref ozl, .ref ozo, .int zc, .int zr, .int zu, .int zv, .int zq, .int zi, .ref ozk, .ref ozm, .int zd, .ref ozg])), (ozp, .inl (cI, 1600, .inl zp)), (ozs, .inl (cI, 320, .inl zs)), (ozb, .inl (cI, 256, .inl zb)), (ozl, .inl (cI, 64, .inl zl)), (ozo, .inl (cI, 64, .inl zo)), (ozk, .inl (cI, 320, .inl zk)), (ozm, .inl (cI, 40, .inl zm)), (ozg, .inl (cI, 64, .inl zg))] sz) (va_Qi (fun (r : Int32) (u : Int32) => post r u) (fun u t => gw_B dC dI [(cI, .int)] (va_A [(om, .inr (6, [.int zt, .int zw, .int zh, .ref ozp, .ref ozs, .ref ozb, .int zz, .ref ozl, .ref ozo, .int zc, .int zr, .int zu, .int zv, .int zq, .int zi, .ref ozk, .ref ozm, .int zd, .ref ozg])), (ozp, .inl (cI, 1600, .inl zp)), (ozs, .inl (cI, 320, .inl zs)), (ozb, .inl (cI, 256, .inl zb)), (ozl, .inl (cI, 64, .inl zl)), (ozo, .inl (cI, 64, .inl zo)), (ozk, .inl (cI, 320, .inl zk)), (ozm, .inl (cI, 40, .inl zm)), (ozg, .inl (cI, 64, .inl zg))] sz) [(om, .inr (6, [.int u, .int zw, .int zh, .ref ozp, .ref ozs, .ref ozb, .int zz, .ref ozl, .ref ozo, .int zc, .int zr, .int zu, .int zv, .int zq, .int zi, .ref ozk, .ref ozm, .int zd, .ref ozg])), (ozp, .inl (cI, 1600, .inl zp)), (ozs, .inl (cI, 320, .inl zs)), (ozb, .inl (cI, 256, .inl zb)), (ozl, .inl (cI, 64, .inl zl)), (ozo, .inl (cI, 64, .inl zo)), (ozk, .inl (cI, 320, .inl zk)), (ozm, .inl (cI, 40, .inl zm)), (ozg, .inl (cI, 64, .inl zg))] t) (va_A [(om, .inr (6, [.int zt, .int zw, .int zh, .ref ozp, .ref ozs, .ref ozb, .int zz, .ref ozl, .ref ozo, .int zc, .int zr, .int zu, .int zv, .int zq, .int zi, .ref ozk, .ref ozm, .int zd, .ref ozg])), (ozp, .inl (cI, 1600, .inl zp)), (ozs, .inl (cI, 320, .inl zs)), (ozb, .inl (cI, 256, .inl zb)), (ozl, .inl (cI, 64, .inl zl)), (ozo, .inl (cI, 64, .inl zo)), (ozk, .inl (cI, 320, .inl zk)), (ozm, .inl (cI, 40, .inl zm)), (ozg, .inl (cI, 64, .inl zg))] sz)) 0 0 (va_A [(om, .inr (6, [.int zt, .int zw, .int zh, .ref ozp, .ref ozs, .ref ozb, .int zz, .ref ozl, .ref ozo, .int zc, .int zr, .int zu, .int zv, .int zq, .int zi, .ref ozk, .ref ozm, .int zd, .ref ozg])), (ozp, .inl (cI, 1600, .inl zp)), (ozs, .inl (cI, 320, .inl zs)), (ozb, .inl (cI, 256, .inl zb)), (ozl, .inl (cI, 64, .inl zl)), (ozo, .inl (cI, 64, .inl zo)), (ozk, .inl (cI, 320, .inl zk)), (ozm, .inl (cI, 40, .inl zm)), (ozg, .inl (cI, 64, .inl zg))] sz) := by
  refine Met.ofW (cc := cZM_size) (maxL := 3) (ret := (some .int)) (by decide) rfl ?_
  intro p e s m args below meth c s₁ B hml hv
  obtain ⟨ha9, hsz, hP, hK, hE, hD0⟩ := hv
  have hx := B.exec
  have hb := B.bytes
  have hr := B.returns
  have hts0 := atoms_spec (ws := wsZM_size) B.pre
  have hts : ∀ w ∈ tbg, w.before args s = true := fun w h => hts0 w (List.mem_cons_of_mem _ h)
  have hown : s.vm.findClass RZM = some m.cls := findClass_of_methodNamed B.named
  have hlocks := B.notSynchronized
  subst hsz
  have hD := hD0.self (sz := s.heap.size)
  refine gx_Q (fun Q9 hQ9 => ?_)
  generalize hAe : va_A [(om, .inr (6, [.int zt, .int zw, .int zh, .ref ozp, .ref ozs, .ref ozb, .int zz, .ref ozl, .ref ozo, .int zc, .int zr, .int zu, .int zv, .int zq, .int zi, .ref ozk, .ref ozm, .int zd, .ref ozg])), (ozp, .inl (cI, 1600, .inl zp)), (ozs, .inl (cI, 320, .inl zs)), (ozb, .inl (cI, 256, .inl zb)), (ozl, .inl (cI, 64, .inl zl)), (ozo, .inl (cI, 64, .inl zo)), (ozk, .inl (cI, 320, .inl zk)), (ozm, .inl (cI, 40, .inl zm)), (ozg, .inl (cI, 64, .inl zg))] s.heap.size = A at hD hQ9 ⊢
  have hA : ∀ q : Nat, s.heap.size ≤ q → A q := fun q h => by rw [← hAe]; exact Or.inr h
  have hS : va_S A s.heap s.heap [] := va_S.rf
  have hl := lv_entry ([.ref om, .int a1, .int a2]) (n := 3) (Nat.le_of_ble_eq_true rfl)
  have he9 : entryFrame m args 3 = F0 m 0 ((lg_sl [.ref om, .int a1, .int a2] ++ List.replicate (3 - (lg_sl ([.ref om, .int a1, .int a2] : List Value)).length) Slot.unset).toArray) [] := by rw [ha9]; exact lg_entry_eq m [.ref om, .int a1, .int a2] 3
  rw [he9]
  generalize (lg_sl ([.ref om, .int a1, .int a2] : List Value) ++ List.replicate (3 - (lg_sl ([.ref om, .int a1, .int a2] : List Value)).length) Slot.unset).toArray = ls at hl ⊢
  have hl : lv_has ls 3 [(0, .ref om), (1, .int a1), (2, .int a2)] := hl
  refine lv_aload_n hx hb dZM_size_0 rfl (lv_at hl 0 rfl) ?_
  refine lv_aload_n hx hb dZM_size_1 rfl (lv_at hl 0 rfl) ?_
  refine lv_iload_n hx hb dZM_size_2 rfl (lv_at hl 1 rfl) ?_
  refine vp_callSi (va_runV (As := [.int a1]) (rest := [.ref om]) ⟨hx, hb, hml, hown, hts⟩ (kt_ZM_isLevel l dC dI cI om ozp ozs ozb ozl ozo ozk ozm ozg zt zw zh zp zs zb zz zl zo zc zr zu zv zq zi zk zm zd zg a1 _ hw) (cwV 1 hts (tb_V mm_719 mm_721 mp_7 mm_8 mm_722) rfl rfl rfl (by decide +kernel) ⟨Nat.le_of_ble_eq_true rfl, Nat.le_of_ble_eq_true rfl⟩) ⟨gr_blind, va_recv hK hP (ci := 6) (q0 := 0) rfl rfl, fun U hU hW => gr_pre hP hK hE hU hW⟩ rfl rfl hl.1 rfl (lv_room (Nat.le_of_ble_eq_true rfl)) dZM_size_3 ⟨Nat.le_of_ble_eq_true rfl, Nat.le_of_ble_eq_true rfl⟩).run (fun r_1 hw => ?_)
  obtain ⟨J23, hJ23, hw⟩ := hw
  have j23 : ∀ (t0_j23 : Int32), J23 t0_j23 → ∀ (H : Heap) (locs : List Loc), va_P (dC, dI) vwCl [(om, .inr (6, [.int zt, .int zw, .int zh, .ref ozp, .ref ozs, .ref ozb, .int zz, .ref ozl, .ref ozo, .int zc, .int zr, .int zu, .int zv, .int zq, .int zi, .ref ozk, .ref ozm, .int zd, .ref ozg])), (ozp, .inl (cI, 1600, .inl zp)), (ozs, .inl (cI, 320, .inl zs)), (ozb, .inl (cI, 256, .inl zb)), (ozl, .inl (cI, 64, .inl zl)), (ozo, .inl (cI, 64, .inl zo)), (ozk, .inl (cI, 320, .inl zk)), (ozm, .inl (cI, 40, .inl zm)), (ozg, .inl (cI, 64, .inl zg))] H → va_D A [(om, .inr (6, [.int zt, .int zw, .int zh, .ref ozp, .ref ozs, .ref ozb, .int zz, .ref ozl, .ref ozo, .int zc, .int zr, .int zu, .int zv, .int zq, .int zi, .ref ozk, .ref ozm, .int zd, .ref ozg])), (ozp, .inl (cI, 1600, .inl zp)), (ozs, .inl (cI, 320, .inl zs)), (ozb, .inl (cI, 256, .inl zb)), (ozl, .inl (cI, 64, .inl zl)), (ozo, .inl (cI, 64, .inl zo)), (ozk, .inl (cI, 320, .inl zk)), (ozm, .inl (cI, 40, .inl zm)), (ozg, .inl (cI, 64, .inl zg))] → va_S A s.heap H locs → ∀ ls : Array Slot, lv_has ls 3 [(0, .ref om), (1, .int a1), (2, .int a2)] → W p l e (headSpec wsZM_size rm_ZM_size).room s m args below meth c H locs 0 0 Q9 (F0 m 23 ls [.int t0_j23, .ref om]) := by
    intro t0_j23 hw H locs hP hD hS ls hl
    have hw := hJ23 t0_j23 hw
    refine lv_iconst (v := (0 : Int32)) hx hb dZM_size_23 (by decide) ?_
    have hPc := hP.sub (ws' := [(om, .inr (6, [.int zt, .int zw, .int zh, .ref ozp, .ref ozs, .ref ozb, .int zz, .ref ozl, .ref ozo, .int zc, .int zr, .int zu, .int zv, .int zq, .int zi, .ref ozk, .ref ozm, .int zd, .ref ozg])), (ozp, .inl (cI, 1600, .inl zp)), (ozs, .inl (cI, 320, .inl zs)), (ozb, .inl (cI, 256, .inl zb)), (ozl, .inl (cI, 64, .inl zl)), (ozo, .inl (cI, 64, .inl zo)), (ozk, .inl (cI, 320, .inl zk)), (ozm, .inl (cI, 40, .inl zm)), (ozg, .inl (cI, 64, .inl zg))]) [0, 1, 2, 3, 4, 5, 6, 7, 8] rfl
    have hDc := hD.sub (ws' := [(om, .inr (6, [.int zt, .int zw, .int zh, .ref ozp, .ref ozs, .ref ozb, .int zz, .ref ozl, .ref ozo, .int zc, .int zr, .int zu, .int zv, .int zq, .int zi, .ref ozk, .ref ozm, .int zd, .ref ozg])), (ozp, .inl (cI, 1600, .inl zp)), (ozs, .inl (cI, 320, .inl zs)), (ozb, .inl (cI, 256, .inl zb)), (ozl, .inl (cI, 64, .inl zl)), (ozo, .inl (cI, 64, .inl zo)), (ozk, .inl (cI, 320, .inl zk)), (ozm, .inl (cI, 40, .inl zm)), (ozg, .inl (cI, 64, .inl zg))]) [0, 1, 2, 3, 4, 5, 6, 7, 8] (by decide) rfl
    have hFc := va_free (wc := [(om, .inr (6, [.int zt, .int zw, .int zh, .ref ozp, .ref ozs, .ref ozb, .int zz, .ref ozl, .ref ozo, .int zc, .int zr, .int zu, .int zv, .int zq, .int zi, .ref ozk, .ref ozm, .int zd, .ref ozg])), (ozp, .inl (cI, 1600, .inl zp)), (ozs, .inl (cI, 320, .inl zs)), (ozb, .inl (cI, 256, .inl zb)), (ozl, .inl (cI, 64, .inl zl)), (ozo, .inl (cI, 64, .inl zo)), (ozk, .inl (cI, 320, .inl zk)), (ozm, .inl (cI, 40, .inl zm)), (ozg, .inl (cI, 64, .inl zg))]) hD hS hA [0, 1, 2, 3, 4, 5, 6, 7, 8] rfl
    refine va_calli (va_runV (As := [.int t0_j23, .int (0 : Int32)]) (rest := []) ⟨hx, hb, hml, hown, hts⟩ (kt_ZM_throwing l dC dI cI om ozp ozs ozb ozl ozo ozk ozm ozg _ zt zw zh zp zs zb zz zl zo zc zr zu zv zq zi zk zm zd zg t0_j23 (0 : Int32) _ hw) (cwV 2 hts (tb_V mm_693 mm_695 mp_5 mm_8 mm_696) rfl rfl rfl (by decide +kernel) ⟨Nat.le_of_ble_eq_true rfl, Nat.le_of_ble_eq_true rfl⟩) ⟨gw_blind, va_recv hK hPc (ci := 6) (q0 := 0) rfl rfl, fun U hU hW => gw_pre hPc hDc hK hE hU hW⟩ rfl rfl hl.1 rfl (lv_room (Nat.le_of_ble_eq_true rfl)) dZM_size_24 ⟨Nat.le_of_ble_eq_true rfl, Nat.le_of_ble_eq_true rfl⟩) hS (fun q _ h => hFc q h) hFc (fun r_3 zt_2 t H1 locs ht hvm hw hB hz1 hk1 hS => ?_)
    obtain ⟨hP1, hK1, hD1⟩ := hB
    rw [ht] at hP1
    try dsimp only at hw
    obtain ⟨hP, hD⟩ := va_join (wr := []) (w1 := [(om, .inr (6, [.int zt_2, .int zw, .int zh, .ref ozp, .ref ozs, .ref ozb, .int zz, .ref ozl, .ref ozo, .int zc, .int zr, .int zu, .int zv, .int zq, .int zi, .ref ozk, .ref ozm, .int zd, .ref ozg])), (ozp, .inl (cI, 1600, .inl zp)), (ozs, .inl (cI, 320, .inl zs)), (ozb, .inl (cI, 256, .inl zb)), (ozl, .inl (cI, 64, .inl zl)), (ozo, .inl (cI, 64, .inl zo)), (ozk, .inl (cI, 320, .inl zk)), (ozm, .inl (cI, 40, .inl zm)), (ozg, .inl (cI, 64, .inl zg))]) hP hD [0, 1, 2, 3, 4, 5, 6, 7, 8] [] rfl rfl (by decide) (by decide) hk1 hFc hP1 hD1
    generalize H1 = H at hP hS ⊢
    have hP : va_P (dC, dI) vwCl [(om, .inr (6, [.int zt_2, .int zw, .int zh, .ref ozp, .ref ozs, .ref ozb, .int zz, .ref ozl, .ref ozo, .int zc, .int zr, .int zu, .int zv, .int zq, .int zi, .ref ozk, .ref ozm, .int zd, .ref ozg])), (ozp, .inl (cI, 1600, .inl zp)), (ozs, .inl (cI, 320, .inl zs)), (ozb, .inl (cI, 256, .inl zb)), (ozl, .inl (cI, 64, .inl zl)), (ozo, .inl (cI, 64, .inl zo)), (ozk, .inl (cI, 320, .inl zk)), (ozm, .inl (cI, 40, .inl zm)), (ozg, .inl (cI, 64, .inl zg))] H := hP
    have hD : va_D A [(om, .inr (6, [.int zt_2, .int zw, .int zh, .ref ozp, .ref ozs, .ref ozb, .int zz, .ref ozl, .ref ozo, .int zc, .int zr, .int zu, .int zv, .int zq, .int zi, .ref ozk, .ref ozm, .int zd, .ref ozg])), (ozp, .inl (cI, 1600, .inl zp)), (ozs, .inl (cI, 320, .inl zs)), (ozb, .inl (cI, 256, .inl zb)), (ozl, .inl (cI, 64, .inl zl)), (ozo, .inl (cI, 64, .inl zo)), (ozk, .inl (cI, 320, .inl zk)), (ozm, .inl (cI, 40, .inl zm)), (ozg, .inl (cI, 64, .inl zg))] := hD
    refine lv_if_eq (tgt := 32) hx hb dZM_size_27 (by decide) (fun c_4 => ?_) (fun c_4 => ?_)
    · have hw := hw.1 c_4
      refine lv_iload_n hx hb dZM_size_32 rfl (lv_at hl 2 rfl) ?_
      refine lv_if_ne (tgt := 44) hx hb dZM_size_33 (by decide) (fun c_5 => ?_) (fun c_5 => ?_)
      · have hw := hw.2 c_5
        refine lv_aload_n hx hb dZM_size_44 rfl (lv_at hl 0 rfl) ?_
        refine lv_iload_n hx hb dZM_size_45 rfl (lv_at hl 1 rfl) ?_
        refine vp_callSi (va_runV (As := [.int a1]) (rest := []) ⟨hx, hb, hml, hown, hts⟩ (kt_ZM_down l dC dI cI om ozp ozs ozb ozl ozo ozk ozm ozg zt_2 zw zh zp zs zb zz zl zo zc zr zu zv zq zi zk zm zd zg a1 _ hw) (cwV 1 hts (tb_V mm_727 mm_729 mp_9 mm_8 mm_730) rfl rfl rfl (by decide +kernel) ⟨Nat.le_of_ble_eq_true rfl, Nat.le_of_ble_eq_true rfl⟩) ⟨gr_blind, va_recv hK hP (ci := 6) (q0 := 0) rfl rfl, fun U hU hW => gr_pre hP hK hE hU hW⟩ rfl rfl hl.1 rfl (lv_room (Nat.le_of_ble_eq_true rfl)) dZM_size_46 ⟨Nat.le_of_ble_eq_true rfl, Nat.le_of_ble_eq_true rfl⟩).run (fun r_6 hw => ?_)
        have hP9 := hP.sub (ws' := [(om, .inr (6, [.int zt_2, .int zw, .int zh, .ref ozp, .ref ozs, .ref ozb, .int zz, .ref ozl, .ref ozo, .int zc, .int zr, .int zu, .int zv, .int zq, .int zi, .ref ozk, .ref ozm, .int zd, .ref ozg])), (ozp, .inl (cI, 1600, .inl zp)), (ozs, .inl (cI, 320, .inl zs)), (ozb, .inl (cI, 256, .inl zb)), (ozl, .inl (cI, 64, .inl zl)), (ozo, .inl (cI, 64, .inl zo)), (ozk, .inl (cI, 320, .inl zk)), (ozm, .inl (cI, 40, .inl zm)), (ozg, .inl (cI, 64, .inl zg))]) [0, 1, 2, 3, 4, 5, 6, 7, 8] rfl
        have hD9 := hD.sub (ws' := [(om, .inr (6, [.int zt_2, .int zw, .int zh, .ref ozp, .ref ozs, .ref ozb, .int zz, .ref ozl, .ref ozo, .int zc, .int zr, .int zu, .int zv, .int zq, .int zi, .ref ozk, .ref ozm, .int zd, .ref ozg])), (ozp, .inl (cI, 1600, .inl zp)), (ozs, .inl (cI, 320, .inl zs)), (ozb, .inl (cI, 256, .inl zb)), (ozl, .inl (cI, 64, .inl zl)), (ozo, .inl (cI, 64, .inl zo)), (ozk, .inl (cI, 320, .inl zk)), (ozm, .inl (cI, 40, .inl zm)), (ozg, .inl (cI, 64, .inl zg))]) [0, 1, 2, 3, 4, 5, 6, 7, 8] (by decide) rfl
        subst hQ9
        exact W.iret (v := r_6) hx hb hr (fun t ht hW => ⟨⟨r_6, zt_2, rfl, hw, by rw [ht]; exact hP9, va_K.moved hW.alike hK, hD9⟩, hS.F ht⟩) hS.2.2 dZM_size_49
      · have hw := hw.1 c_5
        refine lv_aload_n hx hb dZM_size_36 rfl (lv_at hl 0 rfl) ?_
        refine lv_iload_n hx hb dZM_size_37 rfl (lv_at hl 1 rfl) ?_
        refine vp_callSi (va_runV (As := [.int a1]) (rest := []) ⟨hx, hb, hml, hown, hts⟩ (kt_ZM_across l dC dI cI om ozp ozs ozb ozl ozo ozk ozm ozg zt_2 zw zh zp zs zb zz zl zo zc zr zu zv zq zi zk zm zd zg a1 _ hw) (cwV 1 hts (tb_V mm_723 mm_725 mp_8 mm_8 mm_726) rfl rfl rfl (by decide +kernel) ⟨Nat.le_of_ble_eq_true rfl, Nat.le_of_ble_eq_true rfl⟩) ⟨gr_blind, va_recv hK hP (ci := 6) (q0 := 0) rfl rfl, fun U hU hW => gr_pre hP hK hE hU hW⟩ rfl rfl hl.1 rfl (lv_room (Nat.le_of_ble_eq_true rfl)) dZM_size_38 ⟨Nat.le_of_ble_eq_true rfl, Nat.le_of_ble_eq_true rfl⟩).run (fun r_7 hw => ?_)
        refine lv_goto (tgt := 49) hx hb dZM_size_41 (by decide) ?_
        have hP9 := hP.sub (ws' := [(om, .inr (6, [.int zt_2, .int zw, .int zh, .ref ozp, .ref ozs, .ref ozb, .int zz, .ref ozl, .ref ozo, .int zc, .int zr, .int zu, .int zv, .int zq, .int zi, .ref ozk, .ref ozm, .int zd, .ref ozg])), (ozp, .inl (cI, 1600, .inl zp)), (ozs, .inl (cI, 320, .inl zs)), (ozb, .inl (cI, 256, .inl zb)), (ozl, .inl (cI, 64, .inl zl)), (ozo, .inl (cI, 64, .inl zo)), (ozk, .inl (cI, 320, .inl zk)), (ozm, .inl (cI, 40, .inl zm)), (ozg, .inl (cI, 64, .inl zg))]) [0, 1, 2, 3, 4, 5, 6, 7, 8] rfl
        have hD9 := hD.sub (ws' := [(om, .inr (6, [.int zt_2, .int zw, .int zh, .ref ozp, .ref ozs, .ref ozb, .int zz, .ref ozl, .ref ozo, .int zc, .int zr, .int zu, .int zv, .int zq, .int zi, .ref ozk, .ref ozm, .int zd, .ref ozg])), (ozp, .inl (cI, 1600, .inl zp)), (ozs, .inl (cI, 320, .inl zs)), (ozb, .inl (cI, 256, .inl zb)), (ozl, .inl (cI, 64, .inl zl)), (ozo, .inl (cI, 64, .inl zo)), (ozk, .inl (cI, 320, .inl zk)), (ozm, .inl (cI, 40, .inl zm)), (ozg, .inl (cI, 64, .inl zg))]) [0, 1, 2, 3, 4, 5, 6, 7, 8] (by decide) rfl
        subst hQ9
        exact W.iret (v := r_7) hx hb hr (fun t ht hW => ⟨⟨r_7, zt_2, rfl, hw, by rw [ht]; exact hP9, va_K.moved hW.alike hK, hD9⟩, hS.F ht⟩) hS.2.2 dZM_size_49
    · have hw := hw.2 c_4
      refine lv_iconst (v := (0 : Int32)) hx hb dZM_size_30 (by decide) ?_
      have hP9 := hP.sub (ws' := [(om, .inr (6, [.int zt_2, .int zw, .int zh, .ref ozp, .ref ozs, .ref ozb, .int zz, .ref ozl, .ref ozo, .int zc, .int zr, .int zu, .int zv, .int zq, .int zi, .ref ozk, .ref ozm, .int zd, .ref ozg])), (ozp, .inl (cI, 1600, .inl zp)), (ozs, .inl (cI, 320, .inl zs)), (ozb, .inl (cI, 256, .inl zb)), (ozl, .inl (cI, 64, .inl zl)), (ozo, .inl (cI, 64, .inl zo)), (ozk, .inl (cI, 320, .inl zk)), (ozm, .inl (cI, 40, .inl zm)), (ozg, .inl (cI, 64, .inl zg))]) [0, 1, 2, 3, 4, 5, 6, 7, 8] rfl
      have hD9 := hD.sub (ws' := [(om, .inr (6, [.int zt_2, .int zw, .int zh, .ref ozp, .ref ozs, .ref ozb, .int zz, .ref ozl, .ref ozo, .int zc, .int zr, .int zu, .int zv, .int zq, .int zi, .ref ozk, .ref ozm, .int zd, .ref ozg])), (ozp, .inl (cI, 1600, .inl zp)), (ozs, .inl (cI, 320, .inl zs)), (ozb, .inl (cI, 256, .inl zb)), (ozl, .inl (cI, 64, .inl zl)), (ozo, .inl (cI, 64, .inl zo)), (ozk, .inl (cI, 320, .inl zk)), (ozm, .inl (cI, 40, .inl zm)), (ozg, .inl (cI, 64, .inl zg))]) [0, 1, 2, 3, 4, 5, 6, 7, 8] (by decide) rfl
      subst hQ9
      exact W.iret (v := (0 : Int32)) hx hb hr (fun t ht hW => ⟨⟨(0 : Int32), zt_2, rfl, hw, by rw [ht]; exact hP9, va_K.moved hW.alike hK, hD9⟩, hS.F ht⟩) hS.2.2 dZM_size_31
  refine lv_if_eq (tgt := 18) hx hb dZM_size_6 (by decide) (fun c_8 => ?_) (fun c_8 => ?_)
  · have hw := hw.1 c_8
    refine lv_iconst (v := (1 : Int32)) hx hb dZM_size_18 (by decide) ?_
    refine lv_goto (tgt := 23) hx hb dZM_size_19 (by decide) ?_
    exact j23 (1 : Int32) hw _ _ (hP.sub [0, 1, 2, 3, 4, 5, 6, 7, 8] rfl) (hD.sub [0, 1, 2, 3, 4, 5, 6, 7, 8] (by decide) rfl) hS ls (lv_sub hl [0, 1, 2] rfl)
  · have hw := hw.2 c_8
    refine lv_iload_n hx hb dZM_size_9 rfl (lv_at hl 2 rfl) ?_
    refine lv_iconst (v := (0 : Int32)) hx hb dZM_size_10 (by decide) ?_
    refine lv_iconst (v := (1 : Int32)) hx hb dZM_size_11 (by decide) ?_
    have hPc := hP.sub (ws' := []) [] rfl
    refine vp_callSi (va_runS (As := [.int a2, .int (0 : Int32), .int (1 : Int32)]) (rest := [.ref om]) ⟨hx, hb, hml, hown, hts⟩ (kt_ZM_in l dC dI cI  a2 (0 : Int32) (1 : Int32) _ hw) (va_cwS 3 hts (tb_S mm_687 mm_688 mm_8 mm_689) rfl rfl rfl (by decide +kernel) ⟨Nat.le_of_ble_eq_true rfl, Nat.le_of_ble_eq_true rfl⟩) ⟨gr_blind, fun U hU hW => gr_pre hPc hK hE hU hW⟩ rfl rfl hl.1 rfl (lv_room (Nat.le_of_ble_eq_true rfl)) dZM_size_12 ⟨Nat.le_of_ble_eq_true rfl, Nat.le_of_ble_eq_true rfl⟩).run (fun r_9 hw => ?_)
    refine lv_if_ne (tgt := 22) hx hb dZM_size_15 (by decide) (fun c_10 => ?_) (fun c_10 => ?_)
    · have hw := hw.2 c_10
      refine lv_iconst (v := (0 : Int32)) hx hb dZM_size_22 (by decide) ?_
      exact j23 (0 : Int32) hw _ _ (hP.sub [0, 1, 2, 3, 4, 5, 6, 7, 8] rfl) (hD.sub [0, 1, 2, 3, 4, 5, 6, 7, 8] (by decide) rfl) hS ls (lv_sub hl [0, 1, 2] rfl)
    · have hw := hw.1 c_10
      refine lv_iconst (v := (1 : Int32)) hx hb dZM_size_18 (by decide) ?_
      refine lv_goto (tgt := 23) hx hb dZM_size_19 (by decide) ?_
      exact j23 (1 : Int32) hw _ _ (hP.sub [0, 1, 2, 3, 4, 5, 6, 7, 8] rfl) (hD.sub [0, 1, 2, 3, 4, 5, 6, 7, 8] (by decide) rfl) hS ls (lv_sub hl [0, 1, 2] rfl)
theorem dZM_at_0 : decode cZM_at 0 = .ok (.aload_n 0, 1) := by decide +kernel
theorem dZM_at_1 : decode cZM_at 1 = .ok (.aload_n 0, 1) := by decide +kernel
theorem dZM_at_2 : decode cZM_at 2 = .ok (.iload_n 1, 1) := by decide +kernel
theorem dZM_at_3 : decode cZM_at 3 = .ok (.iload_n 2, 1) := by decide +kernel
theorem dZM_at_4 : decode cZM_at 4 = .ok (.iload_n 3, 1) := by decide +kernel
theorem dZM_at_5 : decode cZM_at 5 = .ok (.invokevirtual 95, 3) := by decide +kernel
theorem dZM_at_8 : decode cZM_at 8 = .ok (.ifCond .ne 7, 3) := by decide +kernel
theorem dZM_at_11 : decode cZM_at 11 = .ok (.iconst 1, 1) := by decide +kernel
theorem dZM_at_12 : decode cZM_at 12 = .ok (.goto 4, 3) := by decide +kernel
theorem dZM_at_15 : decode cZM_at 15 = .ok (.iconst 0, 1) := by decide +kernel
theorem dZM_at_16 : decode cZM_at 16 = .ok (.iconst 0, 1) := by decide +kernel
theorem dZM_at_17 : decode cZM_at 17 = .ok (.invokevirtual 60, 3) := by decide +kernel
theorem dZM_at_20 : decode cZM_at 20 = .ok (.ifCond .eq 5, 3) := by decide +kernel
theorem dZM_at_23 : decode cZM_at 23 = .ok (.iconst 0, 1) := by decide +kernel
theorem dZM_at_24 : decode cZM_at 24 = .ok (.ireturn, 1) := by decide +kernel
theorem dZM_at_25 : decode cZM_at 25 = .ok (.aload_n 0, 1) := by decide +kernel
theorem dZM_at_26 : decode cZM_at 26 = .ok (.iload_n 1, 1) := by decide +kernel
theorem dZM_at_27 : decode cZM_at 27 = .ok (.iload_n 2, 1) := by decide +kernel
theorem dZM_at_28 : decode cZM_at 28 = .ok (.iload_n 3, 1) := by decide +kernel
theorem dZM_at_29 : decode cZM_at 29 = .ok (.invokevirtual 98, 3) := by decide +kernel
theorem dZM_at_32 : decode cZM_at 32 = .ok (.ireturn, 1) := by decide +kernel
abbrev wsZM_at : List Cond := .code yZM_at cZM_at 4 (some .int) :: tbg
def wp_ZM_at (zt : Int32) (zw : Int32) (zh : Int32) (zp : Nat → Int32) (zs : Nat → Int32) (zb : Nat → Int32) (zz : Int32) (zl : Nat → Int32) (zo : Nat → Int32) (zc : Int32) (zr : Int32) (zu : Int32) (zv : Int32) (zq : Int32) (zi : Int32) (zk : Nat → Int32) (zm : Nat → Int32) (zd : Int32) (zg : Nat → Int32) (a1 : Int32) (a2 : Int32) (a3 : Int32) (post : Int32 → Int32 → Prop) : Prop := wp_ZM_isAt zt zw zh zp zs zb zz zl zo zc zr zu zv zq zi zk zm zd zg a1 a2 a3 (fun r_1 : Int32 => ∃ J16 : Int32 → Prop, (∀ (t0_j16 : Int32), J16 t0_j16 → wp_ZM_throwing zt zw zh zp zs zb zz zl zo zc zr zu zv zq zi zk zm zd zg t0_j16 (0 : Int32) (fun (r_3 : Int32) (zt_2 : Int32) => ((r_3 = (0 : Int32) → (wp_ZM_sample zt_2 zw zh zp zs zb zz zl zo zc zr zu zv zq zi zk zm zd zg a1 a2 a3 (fun r_5 : Int32 => post r_5 zt_2))) ∧ (¬ r_3 = (0 : Int32) → (post (0 : Int32) zt_2))))) ∧ (((r_1 = (0 : Int32) → (J16 (1 : Int32))) ∧ (¬ r_1 = (0 : Int32) → (J16 (0 : Int32))))))
abbrev rm_ZM_at : Room := { frames := 4, cells := 0, slots := 0, locals := 88 }
set_option maxHeartbeats 4000000 in
set_option maxRecDepth 100000 in
theorem kt_ZM_at (l : Launch) (dC : Nat → ClassId) (dI : Nat → Nat → Nat) (cI : ClassId) (om ozp ozs ozb ozl ozo ozk ozm ozg : Nat) (sz : Nat) (zt : Int32) (zw : Int32) (zh : Int32) (zp : Nat → Int32) (zs : Nat → Int32) (zb : Nat → Int32) (zz : Int32) (zl : Nat → Int32) (zo : Nat → Int32) (zc : Int32) (zr : Int32) (zu : Int32) (zv : Int32) (zq : Int32) (zi : Int32) (zk : Nat → Int32) (zm : Nat → Int32) (zd : Int32) (zg : Nat → Int32) (a1 : Int32) (a2 : Int32) (a3 : Int32) (post : Int32 → Int32 → Prop) (hw : wp_ZM_at zt zw zh zp zs zb zz zl zo zc zr zu zv zq zi zk zm zd zg a1 a2 a3 post) : Met l yZM_at wsZM_at rm_ZM_at (gw_Pc dC dI [(cI, .int)] [.ref om, .int a1, .int a2, .int a3] [(om, .inr (6, [.int zt, .int zw, .int zh, .ref ozp, .ref ozs, .ref ozb, .int zz, .ref ozl, .ref ozo, .int zc, .int zr, .int zu, .int zv, .int zq, .int zi, .ref ozk, .ref ozm, .int zd, .ref ozg])), (ozp, .inl (cI, 1600, .inl zp)), (ozs, .inl (cI, 320, .inl zs)), (ozb, .inl (cI, 256, .inl zb)), (ozl, .inl (cI, 64, .inl zl)), (ozo, .inl (cI, 64, .inl zo)), (ozk, .inl (cI, 320, .inl zk)), (ozm, .inl (cI, 40, .inl zm)), (ozg, .inl (cI, 64, .inl zg))] sz) (va_Qi (fun (r : Int32) (u : Int32) => post r u) (fun u t => gw_B dC dI [(cI, .int)] (va_A [(om, .inr (6, [.int zt, .int zw, .int zh, .ref ozp, .ref ozs, .ref ozb, .int zz, .ref ozl, .ref ozo, .int zc, .int zr, .int zu, .int zv, .int zq, .int zi, .ref ozk, .ref ozm, .int zd, .ref ozg])), (ozp, .inl (cI, 1600, .inl zp)), (ozs, .inl (cI, 320, .inl zs)), (ozb, .inl (cI, 256, .inl zb)), (ozl, .inl (cI, 64, .inl zl)), (ozo, .inl (cI, 64, .inl zo)), (ozk, .inl (cI, 320, .inl zk)), (ozm, .inl (cI, 40, .inl zm)), (ozg, .inl (cI, 64, .inl zg))] sz) [(om, .inr (6, [.int u, .int zw, .int zh, .ref ozp, .ref ozs, .ref ozb, .int zz, .ref ozl, .ref ozo, .int zc, .int zr, .int zu, .int zv, .int zq, .int zi, .ref ozk, .ref ozm, .int zd, .ref ozg])), (ozp, .inl (cI, 1600, .inl zp)), (ozs, .inl (cI, 320, .inl zs)), (ozb, .inl (cI, 256, .inl zb)), (ozl, .inl (cI, 64, .inl zl)), (ozo, .inl (cI, 64, .inl zo)), (ozk, .inl (cI, 320, .inl zk)), (ozm, .inl (cI, 40, .inl zm)), (ozg, .inl (cI, 64, .inl zg))] t) (va_A [(om, .inr (6, [.int zt, .int zw, .int zh, .ref ozp, .ref ozs, .ref ozb, .int zz, .ref ozl, .ref ozo, .int zc, .int zr, .int zu, .int zv, .int zq, .int zi, .ref ozk, .ref ozm, .int zd, .ref ozg])), (ozp, .inl (cI, 1600, .inl zp)), (ozs, .inl (cI, 320, .inl zs)), (ozb, .inl (cI, 256, .inl zb)), (ozl, .inl (cI, 64, .inl zl)), (ozo, .inl (cI, 64, .inl zo)), (ozk, .inl (cI, 320, .inl zk)), (ozm, .inl (cI, 40, .inl zm)), (ozg, .inl (cI, 64, .inl zg))] sz)) 0 0 (va_A [(om, .inr (6, [.int zt, .int zw, .int zh, .ref ozp, .ref ozs, .ref ozb, .int zz, .ref ozl, .ref ozo, .int zc, .int zr, .int zu, .int zv, .int zq, .int zi, .ref ozk, .ref ozm, .int zd, .ref ozg])), (ozp, .inl (cI, 1600, .inl zp)), (ozs, .inl (cI, 320, .inl zs)), (ozb, .inl (cI, 256, .inl zb)), (ozl, .inl (cI, 64, .inl zl)), (ozo, .inl (cI, 64, .inl zo)), (ozk, .inl (cI, 320, .inl zk)), (ozm, .inl (cI, 40, .inl zm)), (ozg, .inl (cI, 64, .inl zg))] sz) := by
  refine Met.ofW (cc := cZM_at) (maxL := 4) (ret := (some .int)) (by decide) rfl ?_
  intro p e s m args below meth c s₁ B hml hv
  obtain ⟨ha9, hsz, hP, hK, hE, hD0⟩ := hv
  have hx := B.exec
  have hb := B.bytes
  have hr := B.returns
  have hts0 := atoms_spec (ws := wsZM_at) B.pre
  have hts : ∀ w ∈ tbg, w.before args s = true := fun w h => hts0 w (List.mem_cons_of_mem _ h)
  have hown : s.vm.findClass RZM = some m.cls := findClass_of_methodNamed B.named
  have hlocks := B.notSynchronized
  subst hsz
  have hD := hD0.self (sz := s.heap.size)
  refine gx_Q (fun Q9 hQ9 => ?_)
  generalize hAe : va_A [(om, .inr (6, [.int zt, .int zw, .int zh, .ref ozp, .ref ozs, .ref ozb, .int zz, .ref ozl, .ref ozo, .int zc, .int zr, .int zu, .int zv, .int zq, .int zi, .ref ozk, .ref ozm, .int zd, .ref ozg])), (ozp, .inl (cI, 1600, .inl zp)), (ozs, .inl (cI, 320, .inl zs)), (ozb, .inl (cI, 256, .inl zb)), (ozl, .inl (cI, 64, .inl zl)), (ozo, .inl (cI, 64, .inl zo)), (ozk, .inl (cI, 320, .inl zk)), (ozm, .inl (cI, 40, .inl zm)), (ozg, .inl (cI, 64, .inl zg))] s.heap.size = A at hD hQ9 ⊢
  have hA : ∀ q : Nat, s.heap.size ≤ q → A q := fun q h => by rw [← hAe]; exact Or.inr h
  have hS : va_S A s.heap s.heap [] := va_S.rf
  have hl := lv_entry ([.ref om, .int a1, .int a2, .int a3]) (n := 4) (Nat.le_of_ble_eq_true rfl)
  have he9 : entryFrame m args 4 = F0 m 0 ((lg_sl [.ref om, .int a1, .int a2, .int a3] ++ List.replicate (4 - (lg_sl ([.ref om, .int a1, .int a2, .int a3] : List Value)).length) Slot.unset).toArray) [] := by rw [ha9]; exact lg_entry_eq m [.ref om, .int a1, .int a2, .int a3] 4
  rw [he9]
  generalize (lg_sl ([.ref om, .int a1, .int a2, .int a3] : List Value) ++ List.replicate (4 - (lg_sl ([.ref om, .int a1, .int a2, .int a3] : List Value)).length) Slot.unset).toArray = ls at hl ⊢
  have hl : lv_has ls 4 [(0, .ref om), (1, .int a1), (2, .int a2), (3, .int a3)] := hl
  refine lv_aload_n hx hb dZM_at_0 rfl (lv_at hl 0 rfl) ?_
  refine lv_aload_n hx hb dZM_at_1 rfl (lv_at hl 0 rfl) ?_
  refine lv_iload_n hx hb dZM_at_2 rfl (lv_at hl 1 rfl) ?_
  refine lv_iload_n hx hb dZM_at_3 rfl (lv_at hl 2 rfl) ?_
  refine lv_iload_n hx hb dZM_at_4 rfl (lv_at hl 3 rfl) ?_
  refine vp_callSi (va_runV (As := [.int a1, .int a2, .int a3]) (rest := [.ref om]) ⟨hx, hb, hml, hown, hts⟩ (kt_ZM_isAt l dC dI cI om ozp ozs ozb ozl ozo ozk ozm ozg zt zw zh zp zs zb zz zl zo zc zr zu zv zq zi zk zm zd zg a1 a2 a3 _ hw) (cwV 3 hts (tb_V mm_735 mm_737 mp_10 mm_8 mm_738) rfl rfl rfl (by decide +kernel) ⟨Nat.le_of_ble_eq_true rfl, Nat.le_of_ble_eq_true rfl⟩) ⟨gr_blind, va_recv hK hP (ci := 6) (q0 := 0) rfl rfl, fun U hU hW => gr_pre hP hK hE hU hW⟩ rfl rfl hl.1 rfl (lv_room (Nat.le_of_ble_eq_true rfl)) dZM_at_5 ⟨Nat.le_of_ble_eq_true rfl, Nat.le_of_ble_eq_true rfl⟩).run (fun r_1 hw => ?_)
  obtain ⟨J16, hJ16, hw⟩ := hw
  have j16 : ∀ (t0_j16 : Int32), J16 t0_j16 → ∀ (H : Heap) (locs : List Loc), va_P (dC, dI) vwCl [(om, .inr (6, [.int zt, .int zw, .int zh, .ref ozp, .ref ozs, .ref ozb, .int zz, .ref ozl, .ref ozo, .int zc, .int zr, .int zu, .int zv, .int zq, .int zi, .ref ozk, .ref ozm, .int zd, .ref ozg])), (ozp, .inl (cI, 1600, .inl zp)), (ozs, .inl (cI, 320, .inl zs)), (ozb, .inl (cI, 256, .inl zb)), (ozl, .inl (cI, 64, .inl zl)), (ozo, .inl (cI, 64, .inl zo)), (ozk, .inl (cI, 320, .inl zk)), (ozm, .inl (cI, 40, .inl zm)), (ozg, .inl (cI, 64, .inl zg))] H → va_D A [(om, .inr (6, [.int zt, .int zw, .int zh, .ref ozp, .ref ozs, .ref ozb, .int zz, .ref ozl, .ref ozo, .int zc, .int zr, .int zu, .int zv, .int zq, .int zi, .ref ozk, .ref ozm, .int zd, .ref ozg])), (ozp, .inl (cI, 1600, .inl zp)), (ozs, .inl (cI, 320, .inl zs)), (ozb, .inl (cI, 256, .inl zb)), (ozl, .inl (cI, 64, .inl zl)), (ozo, .inl (cI, 64, .inl zo)), (ozk, .inl (cI, 320, .inl zk)), (ozm, .inl (cI, 40, .inl zm)), (ozg, .inl (cI, 64, .inl zg))] → va_S A s.heap H locs → ∀ ls : Array Slot, lv_has ls 4 [(0, .ref om), (1, .int a1), (2, .int a2), (3, .int a3)] → W p l e (headSpec wsZM_at rm_ZM_at).room s m args below meth c H locs 0 0 Q9 (F0 m 16 ls [.int t0_j16, .ref om]) := by
    intro t0_j16 hw H locs hP hD hS ls hl
    have hw := hJ16 t0_j16 hw
    refine lv_iconst (v := (0 : Int32)) hx hb dZM_at_16 (by decide) ?_
    have hPc := hP.sub (ws' := [(om, .inr (6, [.int zt, .int zw, .int zh, .ref ozp, .ref ozs, .ref ozb, .int zz, .ref ozl, .ref ozo, .int zc, .int zr, .int zu, .int zv, .int zq, .int zi, .ref ozk, .ref ozm, .int zd, .ref ozg])), (ozp, .inl (cI, 1600, .inl zp)), (ozs, .inl (cI, 320, .inl zs)), (ozb, .inl (cI, 256, .inl zb)), (ozl, .inl (cI, 64, .inl zl)), (ozo, .inl (cI, 64, .inl zo)), (ozk, .inl (cI, 320, .inl zk)), (ozm, .inl (cI, 40, .inl zm)), (ozg, .inl (cI, 64, .inl zg))]) [0, 1, 2, 3, 4, 5, 6, 7, 8] rfl
    have hDc := hD.sub (ws' := [(om, .inr (6, [.int zt, .int zw, .int zh, .ref ozp, .ref ozs, .ref ozb, .int zz, .ref ozl, .ref ozo, .int zc, .int zr, .int zu, .int zv, .int zq, .int zi, .ref ozk, .ref ozm, .int zd, .ref ozg])), (ozp, .inl (cI, 1600, .inl zp)), (ozs, .inl (cI, 320, .inl zs)), (ozb, .inl (cI, 256, .inl zb)), (ozl, .inl (cI, 64, .inl zl)), (ozo, .inl (cI, 64, .inl zo)), (ozk, .inl (cI, 320, .inl zk)), (ozm, .inl (cI, 40, .inl zm)), (ozg, .inl (cI, 64, .inl zg))]) [0, 1, 2, 3, 4, 5, 6, 7, 8] (by decide) rfl
    have hFc := va_free (wc := [(om, .inr (6, [.int zt, .int zw, .int zh, .ref ozp, .ref ozs, .ref ozb, .int zz, .ref ozl, .ref ozo, .int zc, .int zr, .int zu, .int zv, .int zq, .int zi, .ref ozk, .ref ozm, .int zd, .ref ozg])), (ozp, .inl (cI, 1600, .inl zp)), (ozs, .inl (cI, 320, .inl zs)), (ozb, .inl (cI, 256, .inl zb)), (ozl, .inl (cI, 64, .inl zl)), (ozo, .inl (cI, 64, .inl zo)), (ozk, .inl (cI, 320, .inl zk)), (ozm, .inl (cI, 40, .inl zm)), (ozg, .inl (cI, 64, .inl zg))]) hD hS hA [0, 1, 2, 3, 4, 5, 6, 7, 8] rfl
    refine va_calli (va_runV (As := [.int t0_j16, .int (0 : Int32)]) (rest := []) ⟨hx, hb, hml, hown, hts⟩ (kt_ZM_throwing l dC dI cI om ozp ozs ozb ozl ozo ozk ozm ozg _ zt zw zh zp zs zb zz zl zo zc zr zu zv zq zi zk zm zd zg t0_j16 (0 : Int32) _ hw) (cwV 2 hts (tb_V mm_693 mm_695 mp_5 mm_8 mm_696) rfl rfl rfl (by decide +kernel) ⟨Nat.le_of_ble_eq_true rfl, Nat.le_of_ble_eq_true rfl⟩) ⟨gw_blind, va_recv hK hPc (ci := 6) (q0 := 0) rfl rfl, fun U hU hW => gw_pre hPc hDc hK hE hU hW⟩ rfl rfl hl.1 rfl (lv_room (Nat.le_of_ble_eq_true rfl)) dZM_at_17 ⟨Nat.le_of_ble_eq_true rfl, Nat.le_of_ble_eq_true rfl⟩) hS (fun q _ h => hFc q h) hFc (fun r_3 zt_2 t H1 locs ht hvm hw hB hz1 hk1 hS => ?_)
    obtain ⟨hP1, hK1, hD1⟩ := hB
    rw [ht] at hP1
    try dsimp only at hw
    obtain ⟨hP, hD⟩ := va_join (wr := []) (w1 := [(om, .inr (6, [.int zt_2, .int zw, .int zh, .ref ozp, .ref ozs, .ref ozb, .int zz, .ref ozl, .ref ozo, .int zc, .int zr, .int zu, .int zv, .int zq, .int zi, .ref ozk, .ref ozm, .int zd, .ref ozg])), (ozp, .inl (cI, 1600, .inl zp)), (ozs, .inl (cI, 320, .inl zs)), (ozb, .inl (cI, 256, .inl zb)), (ozl, .inl (cI, 64, .inl zl)), (ozo, .inl (cI, 64, .inl zo)), (ozk, .inl (cI, 320, .inl zk)), (ozm, .inl (cI, 40, .inl zm)), (ozg, .inl (cI, 64, .inl zg))]) hP hD [0, 1, 2, 3, 4, 5, 6, 7, 8] [] rfl rfl (by decide) (by decide) hk1 hFc hP1 hD1
    generalize H1 = H at hP hS ⊢
    have hP : va_P (dC, dI) vwCl [(om, .inr (6, [.int zt_2, .int zw, .int zh, .ref ozp, .ref ozs, .ref ozb, .int zz, .ref ozl, .ref ozo, .int zc, .int zr, .int zu, .int zv, .int zq, .int zi, .ref ozk, .ref ozm, .int zd, .ref ozg])), (ozp, .inl (cI, 1600, .inl zp)), (ozs, .inl (cI, 320, .inl zs)), (ozb, .inl (cI, 256, .inl zb)), (ozl, .inl (cI, 64, .inl zl)), (ozo, .inl (cI, 64, .inl zo)), (ozk, .inl (cI, 320, .inl zk)), (ozm, .inl (cI, 40, .inl zm)), (ozg, .inl (cI, 64, .inl zg))] H := hP
    have hD : va_D A [(om, .inr (6, [.int zt_2, .int zw, .int zh, .ref ozp, .ref ozs, .ref ozb, .int zz, .ref ozl, .ref ozo, .int zc, .int zr, .int zu, .int zv, .int zq, .int zi, .ref ozk, .ref ozm, .int zd, .ref ozg])), (ozp, .inl (cI, 1600, .inl zp)), (ozs, .inl (cI, 320, .inl zs)), (ozb, .inl (cI, 256, .inl zb)), (ozl, .inl (cI, 64, .inl zl)), (ozo, .inl (cI, 64, .inl zo)), (ozk, .inl (cI, 320, .inl zk)), (ozm, .inl (cI, 40, .inl zm)), (ozg, .inl (cI, 64, .inl zg))] := hD
    refine lv_if_eq (tgt := 25) hx hb dZM_at_20 (by decide) (fun c_4 => ?_) (fun c_4 => ?_)
    · have hw := hw.1 c_4
      refine lv_aload_n hx hb dZM_at_25 rfl (lv_at hl 0 rfl) ?_
      refine lv_iload_n hx hb dZM_at_26 rfl (lv_at hl 1 rfl) ?_
      refine lv_iload_n hx hb dZM_at_27 rfl (lv_at hl 2 rfl) ?_
      refine lv_iload_n hx hb dZM_at_28 rfl (lv_at hl 3 rfl) ?_
      refine vp_callSi (va_runV (As := [.int a1, .int a2, .int a3]) (rest := []) ⟨hx, hb, hml, hown, hts⟩ (kt_ZM_sample l dC dI cI om ozp ozs ozb ozl ozo ozk ozm ozg zt_2 zw zh zp zs zb zz zl zo zc zr zu zv zq zi zk zm zd zg a1 a2 a3 _ hw) (cwV 3 hts (tb_V mm_739 mm_741 mp_11 mm_8 mm_742) rfl rfl rfl (by decide +kernel) ⟨Nat.le_of_ble_eq_true rfl, Nat.le_of_ble_eq_true rfl⟩) ⟨gr_blind, va_recv hK hP (ci := 6) (q0 := 0) rfl rfl, fun U hU hW => gr_pre hP hK hE hU hW⟩ rfl rfl hl.1 rfl (lv_room (Nat.le_of_ble_eq_true rfl)) dZM_at_29 ⟨Nat.le_of_ble_eq_true rfl, Nat.le_of_ble_eq_true rfl⟩).run (fun r_5 hw => ?_)
      have hP9 := hP.sub (ws' := [(om, .inr (6, [.int zt_2, .int zw, .int zh, .ref ozp, .ref ozs, .ref ozb, .int zz, .ref ozl, .ref ozo, .int zc, .int zr, .int zu, .int zv, .int zq, .int zi, .ref ozk, .ref ozm, .int zd, .ref ozg])), (ozp, .inl (cI, 1600, .inl zp)), (ozs, .inl (cI, 320, .inl zs)), (ozb, .inl (cI, 256, .inl zb)), (ozl, .inl (cI, 64, .inl zl)), (ozo, .inl (cI, 64, .inl zo)), (ozk, .inl (cI, 320, .inl zk)), (ozm, .inl (cI, 40, .inl zm)), (ozg, .inl (cI, 64, .inl zg))]) [0, 1, 2, 3, 4, 5, 6, 7, 8] rfl
      have hD9 := hD.sub (ws' := [(om, .inr (6, [.int zt_2, .int zw, .int zh, .ref ozp, .ref ozs, .ref ozb, .int zz, .ref ozl, .ref ozo, .int zc, .int zr, .int zu, .int zv, .int zq, .int zi, .ref ozk, .ref ozm, .int zd, .ref ozg])), (ozp, .inl (cI, 1600, .inl zp)), (ozs, .inl (cI, 320, .inl zs)), (ozb, .inl (cI, 256, .inl zb)), (ozl, .inl (cI, 64, .inl zl)), (ozo, .inl (cI, 64, .inl zo)), (ozk, .inl (cI, 320, .inl zk)), (ozm, .inl (cI, 40, .inl zm)), (ozg, .inl (cI, 64, .inl zg))]) [0, 1, 2, 3, 4, 5, 6, 7, 8] (by decide) rfl
      subst hQ9
      exact W.iret (v := r_5) hx hb hr (fun t ht hW => ⟨⟨r_5, zt_2, rfl, hw, by rw [ht]; exact hP9, va_K.moved hW.alike hK, hD9⟩, hS.F ht⟩) hS.2.2 dZM_at_32
    · have hw := hw.2 c_4
      refine lv_iconst (v := (0 : Int32)) hx hb dZM_at_23 (by decide) ?_
      have hP9 := hP.sub (ws' := [(om, .inr (6, [.int zt_2, .int zw, .int zh, .ref ozp, .ref ozs, .ref ozb, .int zz, .ref ozl, .ref ozo, .int zc, .int zr, .int zu, .int zv, .int zq, .int zi, .ref ozk, .ref ozm, .int zd, .ref ozg])), (ozp, .inl (cI, 1600, .inl zp)), (ozs, .inl (cI, 320, .inl zs)), (ozb, .inl (cI, 256, .inl zb)), (ozl, .inl (cI, 64, .inl zl)), (ozo, .inl (cI, 64, .inl zo)), (ozk, .inl (cI, 320, .inl zk)), (ozm, .inl (cI, 40, .inl zm)), (ozg, .inl (cI, 64, .inl zg))]) [0, 1, 2, 3, 4, 5, 6, 7, 8] rfl
      have hD9 := hD.sub (ws' := [(om, .inr (6, [.int zt_2, .int zw, .int zh, .ref ozp, .ref ozs, .ref ozb, .int zz, .ref ozl, .ref ozo, .int zc, .int zr, .int zu, .int zv, .int zq, .int zi, .ref ozk, .ref ozm, .int zd, .ref ozg])), (ozp, .inl (cI, 1600, .inl zp)), (ozs, .inl (cI, 320, .inl zs)), (ozb, .inl (cI, 256, .inl zb)), (ozl, .inl (cI, 64, .inl zl)), (ozo, .inl (cI, 64, .inl zo)), (ozk, .inl (cI, 320, .inl zk)), (ozm, .inl (cI, 40, .inl zm)), (ozg, .inl (cI, 64, .inl zg))]) [0, 1, 2, 3, 4, 5, 6, 7, 8] (by decide) rfl
      subst hQ9
      exact W.iret (v := (0 : Int32)) hx hb hr (fun t ht hW => ⟨⟨(0 : Int32), zt_2, rfl, hw, by rw [ht]; exact hP9, va_K.moved hW.alike hK, hD9⟩, hS.F ht⟩) hS.2.2 dZM_at_24
  refine lv_if_ne (tgt := 15) hx hb dZM_at_8 (by decide) (fun c_6 => ?_) (fun c_6 => ?_)
  · have hw := hw.2 c_6
    refine lv_iconst (v := (0 : Int32)) hx hb dZM_at_15 (by decide) ?_
    exact j16 (0 : Int32) hw _ _ (hP.sub [0, 1, 2, 3, 4, 5, 6, 7, 8] rfl) (hD.sub [0, 1, 2, 3, 4, 5, 6, 7, 8] (by decide) rfl) hS ls (lv_sub hl [0, 1, 2, 3] rfl)
  · have hw := hw.1 c_6
    refine lv_iconst (v := (1 : Int32)) hx hb dZM_at_11 (by decide) ?_
    refine lv_goto (tgt := 16) hx hb dZM_at_12 (by decide) ?_
    exact j16 (1 : Int32) hw _ _ (hP.sub [0, 1, 2, 3, 4, 5, 6, 7, 8] rfl) (hD.sub [0, 1, 2, 3, 4, 5, 6, 7, 8] (by decide) rfl) hS ls (lv_sub hl [0, 1, 2, 3] rfl)
theorem dZM_mean_0 : decode cZM_mean 0 = .ok (.aload_n 0, 1) := by decide +kernel
theorem dZM_mean_1 : decode cZM_mean 1 = .ok (.aload_n 0, 1) := by decide +kernel
theorem dZM_mean_2 : decode cZM_mean 2 = .ok (.iload_n 1, 1) := by decide +kernel
theorem dZM_mean_3 : decode cZM_mean 3 = .ok (.iload_n 2, 1) := by decide +kernel
theorem dZM_mean_4 : decode cZM_mean 4 = .ok (.iload_n 3, 1) := by decide +kernel
theorem dZM_mean_5 : decode cZM_mean 5 = .ok (.invokevirtual 95, 3) := by decide +kernel
theorem dZM_mean_8 : decode cZM_mean 8 = .ok (.ifCond .eq 13, 3) := by decide +kernel
theorem dZM_mean_11 : decode cZM_mean 11 = .ok (.iload 4, 2) := by decide +kernel
theorem dZM_mean_13 : decode cZM_mean 13 = .ok (.iconst 0, 1) := by decide +kernel
theorem dZM_mean_14 : decode cZM_mean 14 = .ok (.iconst 1, 1) := by decide +kernel
theorem dZM_mean_15 : decode cZM_mean 15 = .ok (.invokestatic 48, 3) := by decide +kernel
theorem dZM_mean_18 : decode cZM_mean 18 = .ok (.ifCond .ne 7, 3) := by decide +kernel
theorem dZM_mean_21 : decode cZM_mean 21 = .ok (.iconst 1, 1) := by decide +kernel
theorem dZM_mean_22 : decode cZM_mean 22 = .ok (.goto 4, 3) := by decide +kernel
theorem dZM_mean_25 : decode cZM_mean 25 = .ok (.iconst 0, 1) := by decide +kernel
theorem dZM_mean_26 : decode cZM_mean 26 = .ok (.iconst 0, 1) := by decide +kernel
theorem dZM_mean_27 : decode cZM_mean 27 = .ok (.invokevirtual 60, 3) := by decide +kernel
theorem dZM_mean_30 : decode cZM_mean 30 = .ok (.ifCond .eq 5, 3) := by decide +kernel
theorem dZM_mean_33 : decode cZM_mean 33 = .ok (.iconst 0, 1) := by decide +kernel
theorem dZM_mean_34 : decode cZM_mean 34 = .ok (.ireturn, 1) := by decide +kernel
theorem dZM_mean_35 : decode cZM_mean 35 = .ok (.aload_n 0, 1) := by decide +kernel
theorem dZM_mean_36 : decode cZM_mean 36 = .ok (.iload_n 1, 1) := by decide +kernel
theorem dZM_mean_37 : decode cZM_mean 37 = .ok (.iload_n 2, 1) := by decide +kernel
theorem dZM_mean_38 : decode cZM_mean 38 = .ok (.iload_n 3, 1) := by decide +kernel
theorem dZM_mean_39 : decode cZM_mean 39 = .ok (.invokevirtual 92, 3) := by decide +kernel
theorem dZM_mean_42 : decode cZM_mean 42 = .ok (.istore 5, 2) := by decide +kernel
theorem dZM_mean_44 : decode cZM_mean 44 = .ok (.aload_n 0, 1) := by decide +kernel
theorem dZM_mean_45 : decode cZM_mean 45 = .ok (.iload_n 1, 1) := by decide +kernel
theorem dZM_mean_46 : decode cZM_mean 46 = .ok (.iload_n 2, 1) := by decide +kernel
theorem dZM_mean_47 : decode cZM_mean 47 = .ok (.iload_n 3, 1) := by decide +kernel
theorem dZM_mean_48 : decode cZM_mean 48 = .ok (.invokevirtual 89, 3) := by decide +kernel
theorem dZM_mean_51 : decode cZM_mean 51 = .ok (.istore 6, 2) := by decide +kernel
theorem dZM_mean_53 : decode cZM_mean 53 = .ok (.iload 6, 2) := by decide +kernel
theorem dZM_mean_55 : decode cZM_mean 55 = .ok (.istore 7, 2) := by decide +kernel
theorem dZM_mean_57 : decode cZM_mean 57 = .ok (.iload 7, 2) := by decide +kernel
theorem dZM_mean_59 : decode cZM_mean 59 = .ok (.iconst 1, 1) := by decide +kernel
theorem dZM_mean_60 : decode cZM_mean 60 = .ok (.if_icmp .le 42, 3) := by decide +kernel
theorem dZM_mean_63 : decode cZM_mean 63 = .ok (.iload 5, 2) := by decide +kernel
theorem dZM_mean_65 : decode cZM_mean 65 = .ok (.iload 7, 2) := by decide +kernel
theorem dZM_mean_67 : decode cZM_mean 67 = .ok (.irem, 1) := by decide +kernel
theorem dZM_mean_68 : decode cZM_mean 68 = .ok (.ifCond .ne 28, 3) := by decide +kernel
theorem dZM_mean_71 : decode cZM_mean 71 = .ok (.iload 6, 2) := by decide +kernel
theorem dZM_mean_73 : decode cZM_mean 73 = .ok (.iload 7, 2) := by decide +kernel
theorem dZM_mean_75 : decode cZM_mean 75 = .ok (.irem, 1) := by decide +kernel
theorem dZM_mean_76 : decode cZM_mean 76 = .ok (.ifCond .eq 6, 3) := by decide +kernel
theorem dZM_mean_79 : decode cZM_mean 79 = .ok (.goto 17, 3) := by decide +kernel
theorem dZM_mean_82 : decode cZM_mean 82 = .ok (.iload 5, 2) := by decide +kernel
theorem dZM_mean_84 : decode cZM_mean 84 = .ok (.iload 7, 2) := by decide +kernel
theorem dZM_mean_86 : decode cZM_mean 86 = .ok (.idiv, 1) := by decide +kernel
theorem dZM_mean_87 : decode cZM_mean 87 = .ok (.istore 5, 2) := by decide +kernel
theorem dZM_mean_89 : decode cZM_mean 89 = .ok (.iload 6, 2) := by decide +kernel
theorem dZM_mean_91 : decode cZM_mean 91 = .ok (.iload 7, 2) := by decide +kernel
theorem dZM_mean_93 : decode cZM_mean 93 = .ok (.idiv, 1) := by decide +kernel
theorem dZM_mean_94 : decode cZM_mean 94 = .ok (.istore 6, 2) := by decide +kernel
theorem dZM_mean_96 : decode cZM_mean 96 = .ok (.iinc 7 (-1), 3) := by decide +kernel
theorem dZM_mean_99 : decode cZM_mean 99 = .ok (.goto (-42), 3) := by decide +kernel
theorem dZM_mean_102 : decode cZM_mean 102 = .ok (.iload 4, 2) := by decide +kernel
theorem dZM_mean_104 : decode cZM_mean 104 = .ok (.ifCond .ne 8, 3) := by decide +kernel
theorem dZM_mean_107 : decode cZM_mean 107 = .ok (.iload 5, 2) := by decide +kernel
theorem dZM_mean_109 : decode cZM_mean 109 = .ok (.goto 5, 3) := by decide +kernel
theorem dZM_mean_112 : decode cZM_mean 112 = .ok (.iload 6, 2) := by decide +kernel
theorem dZM_mean_114 : decode cZM_mean 114 = .ok (.ireturn, 1) := by decide +kernel
abbrev wsZM_mean : List Cond := .code yZM_mean cZM_mean 8 (some .int) :: tbg
def lp_ZM_mean_57 (zt : Int32) (zw : Int32) (zh : Int32) (zp : Nat → Int32) (zs : Nat → Int32) (zb : Nat → Int32) (zz : Int32) (zl : Nat → Int32) (zo : Nat → Int32) (zc : Int32) (zr : Int32) (zu : Int32) (zv : Int32) (zq : Int32) (zi : Int32) (zk : Nat → Int32) (zm : Nat → Int32) (zd : Int32) (zg : Nat → Int32) (a1 : Int32) (a2 : Int32) (a3 : Int32) (a4 : Int32) (r_1 : Int32) (t0_j26 : Int32) (r_3 : Int32) (zt_2 : Int32) (r_5 : Int32) (r_6 : Int32) (post : Int32 → Int32 → Prop) (K57 : Int32 → Int32 → Int32 → Prop) (n : Nat) : Int32 → Int32 → Int32 → Prop := Nat.rec (motive := fun _ => Int32 → Int32 → Int32 → Prop) (fun (x5_57 : Int32) (x6_57 : Int32) (x7_57 : Int32) => False) (fun _ ih57 (x5_57 : Int32) (x6_57 : Int32) (x7_57 : Int32) => ((x7_57 ≤ (1 : Int32) → (K57 x5_57 x6_57 x7_57)) ∧ (¬ x7_57 ≤ (1 : Int32) → (¬ x7_57 = 0 ∧ ((((x5_57 - x5_57 / x7_57 * x7_57) = (0 : Int32) → (¬ x7_57 = 0 ∧ ((((x6_57 - x6_57 / x7_57 * x7_57) = (0 : Int32) → (¬ x7_57 = 0 ∧ (¬ x7_57 = 0 ∧ (ih57 (x5_57 / x7_57) (x6_57 / x7_57) (x7_57 + (-1 : Int32)))))) ∧ (¬ (x6_57 - x6_57 / x7_57 * x7_57) = (0 : Int32) → (ih57 x5_57 x6_57 (x7_57 + (-1 : Int32)))))))) ∧ (¬ (x5_57 - x5_57 / x7_57 * x7_57) = (0 : Int32) → (ih57 x5_57 x6_57 (x7_57 + (-1 : Int32)))))))))) n
def wp_ZM_mean (zt : Int32) (zw : Int32) (zh : Int32) (zp : Nat → Int32) (zs : Nat → Int32) (zb : Nat → Int32) (zz : Int32) (zl : Nat → Int32) (zo : Nat → Int32) (zc : Int32) (zr : Int32) (zu : Int32) (zv : Int32) (zq : Int32) (zi : Int32) (zk : Nat → Int32) (zm : Nat → Int32) (zd : Int32) (zg : Nat → Int32) (a1 : Int32) (a2 : Int32) (a3 : Int32) (a4 : Int32) (post : Int32 → Int32 → Prop) : Prop := wp_ZM_isAt zt zw zh zp zs zb zz zl zo zc zr zu zv zq zi zk zm zd zg a1 a2 a3 (fun r_1 : Int32 => ∃ J26 : Int32 → Prop, (∀ (t0_j26 : Int32), J26 t0_j26 → wp_ZM_throwing zt zw zh zp zs zb zz zl zo zc zr zu zv zq zi zk zm zd zg t0_j26 (0 : Int32) (fun (r_3 : Int32) (zt_2 : Int32) => ((r_3 = (0 : Int32) → (wp_ZM_sumUnder zt_2 zw zh zp zs zb zz zl zo zc zr zu zv zq zi zk zm zd zg a1 a2 a3 (fun r_5 : Int32 => wp_ZM_countUnder zt_2 zw zh zp zs zb zz zl zo zc zr zu zv zq zi zk zm zd zg a1 a2 a3 (fun r_6 : Int32 => ∃ n : Nat, lp_ZM_mean_57 zt zw zh zp zs zb zz zl zo zc zr zu zv zq zi zk zm zd zg a1 a2 a3 a4 r_1 t0_j26 r_3 zt_2 r_5 r_6 post (fun (x5_57e : Int32) (x6_57e : Int32) (x7_57e : Int32) => ((a4 = (0 : Int32) → (post x5_57e zt_2)) ∧ (¬ a4 = (0 : Int32) → (post x6_57e zt_2)))) n r_5 r_6 r_6)))) ∧ (¬ r_3 = (0 : Int32) → (post (0 : Int32) zt_2))))) ∧ (((r_1 = (0 : Int32) → (J26 (1 : Int32))) ∧ (¬ r_1 = (0 : Int32) → (wp_ZM_in a4 (0 : Int32) (1 : Int32) (fun r_16 : Int32 => ((r_16 = (0 : Int32) → (J26 (1 : Int32))) ∧ (¬ r_16 = (0 : Int32) → (J26 (0 : Int32))))))))))
abbrev rm_ZM_mean : Room := { frames := 4, cells := 0, slots := 0, locals := 88 }
set_option maxHeartbeats 4000000 in
set_option maxRecDepth 100000 in
theorem kt_ZM_mean (l : Launch) (dC : Nat → ClassId) (dI : Nat → Nat → Nat) (cI : ClassId) (om ozp ozs ozb ozl ozo ozk ozm ozg : Nat) (sz : Nat) (zt : Int32) (zw : Int32) (zh : Int32) (zp : Nat → Int32) (zs : Nat → Int32) (zb : Nat → Int32) (zz : Int32) (zl : Nat → Int32) (zo : Nat → Int32) (zc : Int32) (zr : Int32) (zu : Int32) (zv : Int32) (zq : Int32) (zi : Int32) (zk : Nat → Int32) (zm : Nat → Int32) (zd : Int32) (zg : Nat → Int32) (a1 : Int32) (a2 : Int32) (a3 : Int32) (a4 : Int32) (post : Int32 → Int32 → Prop) (hw : wp_ZM_mean zt zw zh zp zs zb zz zl zo zc zr zu zv zq zi zk zm zd zg a1 a2 a3 a4 post) : Met l yZM_mean wsZM_mean rm_ZM_mean (gw_Pc dC dI [(cI, .int)] [.ref om, .int a1, .int a2, .int a3, .int a4] [(om, .inr (6, [.int zt, .int zw, .int zh, .ref ozp, .ref ozs, .ref ozb, .int zz, .ref ozl, .ref ozo, .int zc, .int zr, .int zu, .int zv, .int zq, .int zi, .ref ozk, .ref ozm, .int zd, .ref ozg])), (ozp, .inl (cI, 1600, .inl zp)), (ozs, .inl (cI, 320, .inl zs)), (ozb, .inl (cI, 256, .inl zb)), (ozl, .inl (cI, 64, .inl zl)), (ozo, .inl (cI, 64, .inl zo)), (ozk, .inl (cI, 320, .inl zk)), (ozm, .inl (cI, 40, .inl zm)), (ozg, .inl (cI, 64, .inl zg))] sz) (va_Qi (fun (r : Int32) (u : Int32) => post r u) (fun u t => gw_B dC dI [(cI, .int)] (va_A [(om, .inr (6, [.int zt, .int zw, .int zh, .ref ozp, .ref ozs, .ref ozb, .int zz, .ref ozl, .ref ozo, .int zc, .int zr, .int zu, .int zv, .int zq, .int zi, .ref ozk, .ref ozm, .int zd, .ref ozg])), (ozp, .inl (cI, 1600, .inl zp)), (ozs, .inl (cI, 320, .inl zs)), (ozb, .inl (cI, 256, .inl zb)), (ozl, .inl (cI, 64, .inl zl)), (ozo, .inl (cI, 64, .inl zo)), (ozk, .inl (cI, 320, .inl zk)), (ozm, .inl (cI, 40, .inl zm)), (ozg, .inl (cI, 64, .inl zg))] sz) [(om, .inr (6, [.int u, .int zw, .int zh, .ref ozp, .ref ozs, .ref ozb, .int zz, .ref ozl, .ref ozo, .int zc, .int zr, .int zu, .int zv, .int zq, .int zi, .ref ozk, .ref ozm, .int zd, .ref ozg])), (ozp, .inl (cI, 1600, .inl zp)), (ozs, .inl (cI, 320, .inl zs)), (ozb, .inl (cI, 256, .inl zb)), (ozl, .inl (cI, 64, .inl zl)), (ozo, .inl (cI, 64, .inl zo)), (ozk, .inl (cI, 320, .inl zk)), (ozm, .inl (cI, 40, .inl zm)), (ozg, .inl (cI, 64, .inl zg))] t) (va_A [(om, .inr (6, [.int zt, .int zw, .int zh, .ref ozp, .ref ozs, .ref ozb, .int zz, .ref ozl, .ref ozo, .int zc, .int zr, .int zu, .int zv, .int zq, .int zi, .ref ozk, .ref ozm, .int zd, .ref ozg])), (ozp, .inl (cI, 1600, .inl zp)), (ozs, .inl (cI, 320, .inl zs)), (ozb, .inl (cI, 256, .inl zb)), (ozl, .inl (cI, 64, .inl zl)), (ozo, .inl (cI, 64, .inl zo)), (ozk, .inl (cI, 320, .inl zk)), (ozm, .inl (cI, 40, .inl zm)), (ozg, .inl (cI, 64, .inl zg))] sz)) 0 0 (va_A [(om, .inr (6, [.int zt, .int zw, .int zh, .ref ozp, .ref ozs, .ref ozb, .int zz, .ref ozl, .ref ozo, .int zc, .int zr, .int zu, .int zv, .int zq, .int zi, .ref ozk, .ref ozm, .int zd, .ref ozg])), (ozp, .inl (cI, 1600, .inl zp)), (ozs, .inl (cI, 320, .inl zs)), (ozb, .inl (cI, 256, .inl zb)), (ozl, .inl (cI, 64, .inl zl)), (ozo, .inl (cI, 64, .inl zo)), (ozk, .inl (cI, 320, .inl zk)), (ozm, .inl (cI, 40, .inl zm)), (ozg, .inl (cI, 64, .inl zg))] sz) := by
  refine Met.ofW (cc := cZM_mean) (maxL := 8) (ret := (some .int)) (by decide) rfl ?_
  intro p e s m args below meth c s₁ B hml hv
  obtain ⟨ha9, hsz, hP, hK, hE, hD0⟩ := hv
  have hx := B.exec
  have hb := B.bytes
  have hr := B.returns
  have hts0 := atoms_spec (ws := wsZM_mean) B.pre
  have hts : ∀ w ∈ tbg, w.before args s = true := fun w h => hts0 w (List.mem_cons_of_mem _ h)
  have hown : s.vm.findClass RZM = some m.cls := findClass_of_methodNamed B.named
  have hlocks := B.notSynchronized
  subst hsz
  have hD := hD0.self (sz := s.heap.size)
  refine gx_Q (fun Q9 hQ9 => ?_)
  generalize hAe : va_A [(om, .inr (6, [.int zt, .int zw, .int zh, .ref ozp, .ref ozs, .ref ozb, .int zz, .ref ozl, .ref ozo, .int zc, .int zr, .int zu, .int zv, .int zq, .int zi, .ref ozk, .ref ozm, .int zd, .ref ozg])), (ozp, .inl (cI, 1600, .inl zp)), (ozs, .inl (cI, 320, .inl zs)), (ozb, .inl (cI, 256, .inl zb)), (ozl, .inl (cI, 64, .inl zl)), (ozo, .inl (cI, 64, .inl zo)), (ozk, .inl (cI, 320, .inl zk)), (ozm, .inl (cI, 40, .inl zm)), (ozg, .inl (cI, 64, .inl zg))] s.heap.size = A at hD hQ9 ⊢
  have hA : ∀ q : Nat, s.heap.size ≤ q → A q := fun q h => by rw [← hAe]; exact Or.inr h
  have hS : va_S A s.heap s.heap [] := va_S.rf
  have hl := lv_entry ([.ref om, .int a1, .int a2, .int a3, .int a4]) (n := 8) (Nat.le_of_ble_eq_true rfl)
  have he9 : entryFrame m args 8 = F0 m 0 ((lg_sl [.ref om, .int a1, .int a2, .int a3, .int a4] ++ List.replicate (8 - (lg_sl ([.ref om, .int a1, .int a2, .int a3, .int a4] : List Value)).length) Slot.unset).toArray) [] := by rw [ha9]; exact lg_entry_eq m [.ref om, .int a1, .int a2, .int a3, .int a4] 8
  rw [he9]
  generalize (lg_sl ([.ref om, .int a1, .int a2, .int a3, .int a4] : List Value) ++ List.replicate (8 - (lg_sl ([.ref om, .int a1, .int a2, .int a3, .int a4] : List Value)).length) Slot.unset).toArray = ls at hl ⊢
  have hl : lv_has ls 8 [(0, .ref om), (1, .int a1), (2, .int a2), (3, .int a3), (4, .int a4)] := hl
  refine lv_aload_n hx hb dZM_mean_0 rfl (lv_at hl 0 rfl) ?_
  refine lv_aload_n hx hb dZM_mean_1 rfl (lv_at hl 0 rfl) ?_
  refine lv_iload_n hx hb dZM_mean_2 rfl (lv_at hl 1 rfl) ?_
  refine lv_iload_n hx hb dZM_mean_3 rfl (lv_at hl 2 rfl) ?_
  refine lv_iload_n hx hb dZM_mean_4 rfl (lv_at hl 3 rfl) ?_
  refine vp_callSi (va_runV (As := [.int a1, .int a2, .int a3]) (rest := [.ref om]) ⟨hx, hb, hml, hown, hts⟩ (kt_ZM_isAt l dC dI cI om ozp ozs ozb ozl ozo ozk ozm ozg zt zw zh zp zs zb zz zl zo zc zr zu zv zq zi zk zm zd zg a1 a2 a3 _ hw) (cwV 3 hts (tb_V mm_735 mm_737 mp_10 mm_8 mm_738) rfl rfl rfl (by decide +kernel) ⟨Nat.le_of_ble_eq_true rfl, Nat.le_of_ble_eq_true rfl⟩) ⟨gr_blind, va_recv hK hP (ci := 6) (q0 := 0) rfl rfl, fun U hU hW => gr_pre hP hK hE hU hW⟩ rfl rfl hl.1 rfl (lv_room (Nat.le_of_ble_eq_true rfl)) dZM_mean_5 ⟨Nat.le_of_ble_eq_true rfl, Nat.le_of_ble_eq_true rfl⟩).run (fun r_1 hw => ?_)
  obtain ⟨J26, hJ26, hw⟩ := hw
  have j26 : ∀ (t0_j26 : Int32), J26 t0_j26 → ∀ (H : Heap) (locs : List Loc), va_P (dC, dI) vwCl [(om, .inr (6, [.int zt, .int zw, .int zh, .ref ozp, .ref ozs, .ref ozb, .int zz, .ref ozl, .ref ozo, .int zc, .int zr, .int zu, .int zv, .int zq, .int zi, .ref ozk, .ref ozm, .int zd, .ref ozg])), (ozp, .inl (cI, 1600, .inl zp)), (ozs, .inl (cI, 320, .inl zs)), (ozb, .inl (cI, 256, .inl zb)), (ozl, .inl (cI, 64, .inl zl)), (ozo, .inl (cI, 64, .inl zo)), (ozk, .inl (cI, 320, .inl zk)), (ozm, .inl (cI, 40, .inl zm)), (ozg, .inl (cI, 64, .inl zg))] H → va_D A [(om, .inr (6, [.int zt, .int zw, .int zh, .ref ozp, .ref ozs, .ref ozb, .int zz, .ref ozl, .ref ozo, .int zc, .int zr, .int zu, .int zv, .int zq, .int zi, .ref ozk, .ref ozm, .int zd, .ref ozg])), (ozp, .inl (cI, 1600, .inl zp)), (ozs, .inl (cI, 320, .inl zs)), (ozb, .inl (cI, 256, .inl zb)), (ozl, .inl (cI, 64, .inl zl)), (ozo, .inl (cI, 64, .inl zo)), (ozk, .inl (cI, 320, .inl zk)), (ozm, .inl (cI, 40, .inl zm)), (ozg, .inl (cI, 64, .inl zg))] → va_S A s.heap H locs → ∀ ls : Array Slot, lv_has ls 8 [(0, .ref om), (1, .int a1), (2, .int a2), (3, .int a3), (4, .int a4)] → W p l e (headSpec wsZM_mean rm_ZM_mean).room s m args below meth c H locs 0 0 Q9 (F0 m 26 ls [.int t0_j26, .ref om]) := by
    intro t0_j26 hw H locs hP hD hS ls hl
    have hw := hJ26 t0_j26 hw
    refine lv_iconst (v := (0 : Int32)) hx hb dZM_mean_26 (by decide) ?_
    have hPc := hP.sub (ws' := [(om, .inr (6, [.int zt, .int zw, .int zh, .ref ozp, .ref ozs, .ref ozb, .int zz, .ref ozl, .ref ozo, .int zc, .int zr, .int zu, .int zv, .int zq, .int zi, .ref ozk, .ref ozm, .int zd, .ref ozg])), (ozp, .inl (cI, 1600, .inl zp)), (ozs, .inl (cI, 320, .inl zs)), (ozb, .inl (cI, 256, .inl zb)), (ozl, .inl (cI, 64, .inl zl)), (ozo, .inl (cI, 64, .inl zo)), (ozk, .inl (cI, 320, .inl zk)), (ozm, .inl (cI, 40, .inl zm)), (ozg, .inl (cI, 64, .inl zg))]) [0, 1, 2, 3, 4, 5, 6, 7, 8] rfl
    have hDc := hD.sub (ws' := [(om, .inr (6, [.int zt, .int zw, .int zh, .ref ozp, .ref ozs, .ref ozb, .int zz, .ref ozl, .ref ozo, .int zc, .int zr, .int zu, .int zv, .int zq, .int zi, .ref ozk, .ref ozm, .int zd, .ref ozg])), (ozp, .inl (cI, 1600, .inl zp)), (ozs, .inl (cI, 320, .inl zs)), (ozb, .inl (cI, 256, .inl zb)), (ozl, .inl (cI, 64, .inl zl)), (ozo, .inl (cI, 64, .inl zo)), (ozk, .inl (cI, 320, .inl zk)), (ozm, .inl (cI, 40, .inl zm)), (ozg, .inl (cI, 64, .inl zg))]) [0, 1, 2, 3, 4, 5, 6, 7, 8] (by decide) rfl
    have hFc := va_free (wc := [(om, .inr (6, [.int zt, .int zw, .int zh, .ref ozp, .ref ozs, .ref ozb, .int zz, .ref ozl, .ref ozo, .int zc, .int zr, .int zu, .int zv, .int zq, .int zi, .ref ozk, .ref ozm, .int zd, .ref ozg])), (ozp, .inl (cI, 1600, .inl zp)), (ozs, .inl (cI, 320, .inl zs)), (ozb, .inl (cI, 256, .inl zb)), (ozl, .inl (cI, 64, .inl zl)), (ozo, .inl (cI, 64, .inl zo)), (ozk, .inl (cI, 320, .inl zk)), (ozm, .inl (cI, 40, .inl zm)), (ozg, .inl (cI, 64, .inl zg))]) hD hS hA [0, 1, 2, 3, 4, 5, 6, 7, 8] rfl
    refine va_calli (va_runV (As := [.int t0_j26, .int (0 : Int32)]) (rest := []) ⟨hx, hb, hml, hown, hts⟩ (kt_ZM_throwing l dC dI cI om ozp ozs ozb ozl ozo ozk ozm ozg _ zt zw zh zp zs zb zz zl zo zc zr zu zv zq zi zk zm zd zg t0_j26 (0 : Int32) _ hw) (cwV 2 hts (tb_V mm_693 mm_695 mp_5 mm_8 mm_696) rfl rfl rfl (by decide +kernel) ⟨Nat.le_of_ble_eq_true rfl, Nat.le_of_ble_eq_true rfl⟩) ⟨gw_blind, va_recv hK hPc (ci := 6) (q0 := 0) rfl rfl, fun U hU hW => gw_pre hPc hDc hK hE hU hW⟩ rfl rfl hl.1 rfl (lv_room (Nat.le_of_ble_eq_true rfl)) dZM_mean_27 ⟨Nat.le_of_ble_eq_true rfl, Nat.le_of_ble_eq_true rfl⟩) hS (fun q _ h => hFc q h) hFc (fun r_3 zt_2 t H1 locs ht hvm hw hB hz1 hk1 hS => ?_)
    obtain ⟨hP1, hK1, hD1⟩ := hB
    rw [ht] at hP1
    try dsimp only at hw
    obtain ⟨hP, hD⟩ := va_join (wr := []) (w1 := [(om, .inr (6, [.int zt_2, .int zw, .int zh, .ref ozp, .ref ozs, .ref ozb, .int zz, .ref ozl, .ref ozo, .int zc, .int zr, .int zu, .int zv, .int zq, .int zi, .ref ozk, .ref ozm, .int zd, .ref ozg])), (ozp, .inl (cI, 1600, .inl zp)), (ozs, .inl (cI, 320, .inl zs)), (ozb, .inl (cI, 256, .inl zb)), (ozl, .inl (cI, 64, .inl zl)), (ozo, .inl (cI, 64, .inl zo)), (ozk, .inl (cI, 320, .inl zk)), (ozm, .inl (cI, 40, .inl zm)), (ozg, .inl (cI, 64, .inl zg))]) hP hD [0, 1, 2, 3, 4, 5, 6, 7, 8] [] rfl rfl (by decide) (by decide) hk1 hFc hP1 hD1
    generalize H1 = H at hP hS ⊢
    have hP : va_P (dC, dI) vwCl [(om, .inr (6, [.int zt_2, .int zw, .int zh, .ref ozp, .ref ozs, .ref ozb, .int zz, .ref ozl, .ref ozo, .int zc, .int zr, .int zu, .int zv, .int zq, .int zi, .ref ozk, .ref ozm, .int zd, .ref ozg])), (ozp, .inl (cI, 1600, .inl zp)), (ozs, .inl (cI, 320, .inl zs)), (ozb, .inl (cI, 256, .inl zb)), (ozl, .inl (cI, 64, .inl zl)), (ozo, .inl (cI, 64, .inl zo)), (ozk, .inl (cI, 320, .inl zk)), (ozm, .inl (cI, 40, .inl zm)), (ozg, .inl (cI, 64, .inl zg))] H := hP
    have hD : va_D A [(om, .inr (6, [.int zt_2, .int zw, .int zh, .ref ozp, .ref ozs, .ref ozb, .int zz, .ref ozl, .ref ozo, .int zc, .int zr, .int zu, .int zv, .int zq, .int zi, .ref ozk, .ref ozm, .int zd, .ref ozg])), (ozp, .inl (cI, 1600, .inl zp)), (ozs, .inl (cI, 320, .inl zs)), (ozb, .inl (cI, 256, .inl zb)), (ozl, .inl (cI, 64, .inl zl)), (ozo, .inl (cI, 64, .inl zo)), (ozk, .inl (cI, 320, .inl zk)), (ozm, .inl (cI, 40, .inl zm)), (ozg, .inl (cI, 64, .inl zg))] := hD
    refine lv_if_eq (tgt := 35) hx hb dZM_mean_30 (by decide) (fun c_4 => ?_) (fun c_4 => ?_)
    · have hw := hw.1 c_4
      refine lv_aload_n hx hb dZM_mean_35 rfl (lv_at hl 0 rfl) ?_
      refine lv_iload_n hx hb dZM_mean_36 rfl (lv_at hl 1 rfl) ?_
      refine lv_iload_n hx hb dZM_mean_37 rfl (lv_at hl 2 rfl) ?_
      refine lv_iload_n hx hb dZM_mean_38 rfl (lv_at hl 3 rfl) ?_
      refine vp_callSi (va_runV (As := [.int a1, .int a2, .int a3]) (rest := []) ⟨hx, hb, hml, hown, hts⟩ (kt_ZM_sumUnder l dC dI cI om ozp ozs ozb ozl ozo ozk ozm ozg zt_2 zw zh zp zs zb zz zl zo zc zr zu zv zq zi zk zm zd zg a1 a2 a3 _ hw) (cwV 3 hts (tb_V mm_751 mm_753 mp_14 mm_8 mm_754) rfl rfl rfl (by decide +kernel) ⟨Nat.le_of_ble_eq_true rfl, Nat.le_of_ble_eq_true rfl⟩) ⟨gr_blind, va_recv hK hP (ci := 6) (q0 := 0) rfl rfl, fun U hU hW => gr_pre hP hK hE hU hW⟩ rfl rfl hl.1 rfl (lv_room (Nat.le_of_ble_eq_true rfl)) dZM_mean_39 ⟨Nat.le_of_ble_eq_true rfl, Nat.le_of_ble_eq_true rfl⟩).run (fun r_5 hw => ?_)
      refine lv_istore (lv' := [(5, .int r_5), (0, .ref om), (1, .int a1), (2, .int a2), (3, .int a3), (4, .int a4)]) hx hb dZM_mean_42 hl (by decide) rfl (fun ls hl => ?_)
      refine lv_aload_n hx hb dZM_mean_44 rfl (lv_at hl 1 rfl) ?_
      refine lv_iload_n hx hb dZM_mean_45 rfl (lv_at hl 2 rfl) ?_
      refine lv_iload_n hx hb dZM_mean_46 rfl (lv_at hl 3 rfl) ?_
      refine lv_iload_n hx hb dZM_mean_47 rfl (lv_at hl 4 rfl) ?_
      refine vp_callSi (va_runV (As := [.int a1, .int a2, .int a3]) (rest := []) ⟨hx, hb, hml, hown, hts⟩ (kt_ZM_countUnder l dC dI cI om ozp ozs ozb ozl ozo ozk ozm ozg zt_2 zw zh zp zs zb zz zl zo zc zr zu zv zq zi zk zm zd zg a1 a2 a3 _ hw) (cwV 3 hts (tb_V mm_743 mm_745 mp_12 mm_8 mm_746) rfl rfl rfl (by decide +kernel) ⟨Nat.le_of_ble_eq_true rfl, Nat.le_of_ble_eq_true rfl⟩) ⟨gr_blind, va_recv hK hP (ci := 6) (q0 := 0) rfl rfl, fun U hU hW => gr_pre hP hK hE hU hW⟩ rfl rfl hl.1 rfl (lv_room (Nat.le_of_ble_eq_true rfl)) dZM_mean_48 ⟨Nat.le_of_ble_eq_true rfl, Nat.le_of_ble_eq_true rfl⟩).run (fun r_6 hw => ?_)
      refine lv_istore (lv' := [(6, .int r_6), (5, .int r_5), (0, .ref om), (1, .int a1), (2, .int a2), (3, .int a3), (4, .int a4)]) hx hb dZM_mean_51 hl (by decide) rfl (fun ls hl => ?_)
      refine lv_iload hx hb dZM_mean_53 (lv_at hl 0 rfl) ?_
      refine lv_istore (lv' := [(7, .int r_6), (6, .int r_6), (5, .int r_5), (0, .ref om), (1, .int a1), (2, .int a2), (3, .int a3), (4, .int a4)]) hx hb dZM_mean_55 hl (by decide) rfl (fun ls hl => ?_)
      have lp57 : ∀ K57 : Int32 → Int32 → Int32 → Prop, (∀ (x5_57 : Int32) (x6_57 : Int32) (x7_57 : Int32), K57 x5_57 x6_57 x7_57 → ∀ (H : Heap) (locs : List Loc), va_P (dC, dI) vwCl [(om, .inr (6, [.int zt_2, .int zw, .int zh, .ref ozp, .ref ozs, .ref ozb, .int zz, .ref ozl, .ref ozo, .int zc, .int zr, .int zu, .int zv, .int zq, .int zi, .ref ozk, .ref ozm, .int zd, .ref ozg])), (ozp, .inl (cI, 1600, .inl zp)), (ozs, .inl (cI, 320, .inl zs)), (ozb, .inl (cI, 256, .inl zb)), (ozl, .inl (cI, 64, .inl zl)), (ozo, .inl (cI, 64, .inl zo)), (ozk, .inl (cI, 320, .inl zk)), (ozm, .inl (cI, 40, .inl zm)), (ozg, .inl (cI, 64, .inl zg))] H → va_D A [(om, .inr (6, [.int zt_2, .int zw, .int zh, .ref ozp, .ref ozs, .ref ozb, .int zz, .ref ozl, .ref ozo, .int zc, .int zr, .int zu, .int zv, .int zq, .int zi, .ref ozk, .ref ozm, .int zd, .ref ozg])), (ozp, .inl (cI, 1600, .inl zp)), (ozs, .inl (cI, 320, .inl zs)), (ozb, .inl (cI, 256, .inl zb)), (ozl, .inl (cI, 64, .inl zl)), (ozo, .inl (cI, 64, .inl zo)), (ozk, .inl (cI, 320, .inl zk)), (ozm, .inl (cI, 40, .inl zm)), (ozg, .inl (cI, 64, .inl zg))] → va_S A s.heap H locs → ∀ ls : Array Slot, lv_has ls 8 [(7, .int x7_57), (6, .int x6_57), (5, .int x5_57), (0, .ref om), (1, .int a1), (2, .int a2), (3, .int a3), (4, .int a4)] → W p l e (headSpec wsZM_mean rm_ZM_mean).room s m args below meth c H locs 0 0 Q9 (F0 m 102 ls [])) → ∀ (n : Nat) (x5_57 : Int32) (x6_57 : Int32) (x7_57 : Int32), lp_ZM_mean_57 zt zw zh zp zs zb zz zl zo zc zr zu zv zq zi zk zm zd zg a1 a2 a3 a4 r_1 t0_j26 r_3 zt_2 r_5 r_6 post K57 n x5_57 x6_57 x7_57 → ∀ (H : Heap) (locs : List Loc), va_P (dC, dI) vwCl [(om, .inr (6, [.int zt_2, .int zw, .int zh, .ref ozp, .ref ozs, .ref ozb, .int zz, .ref ozl, .ref ozo, .int zc, .int zr, .int zu, .int zv, .int zq, .int zi, .ref ozk, .ref ozm, .int zd, .ref ozg])), (ozp, .inl (cI, 1600, .inl zp)), (ozs, .inl (cI, 320, .inl zs)), (ozb, .inl (cI, 256, .inl zb)), (ozl, .inl (cI, 64, .inl zl)), (ozo, .inl (cI, 64, .inl zo)), (ozk, .inl (cI, 320, .inl zk)), (ozm, .inl (cI, 40, .inl zm)), (ozg, .inl (cI, 64, .inl zg))] H → va_D A [(om, .inr (6, [.int zt_2, .int zw, .int zh, .ref ozp, .ref ozs, .ref ozb, .int zz, .ref ozl, .ref ozo, .int zc, .int zr, .int zu, .int zv, .int zq, .int zi, .ref ozk, .ref ozm, .int zd, .ref ozg])), (ozp, .inl (cI, 1600, .inl zp)), (ozs, .inl (cI, 320, .inl zs)), (ozb, .inl (cI, 256, .inl zb)), (ozl, .inl (cI, 64, .inl zl)), (ozo, .inl (cI, 64, .inl zo)), (ozk, .inl (cI, 320, .inl zk)), (ozm, .inl (cI, 40, .inl zm)), (ozg, .inl (cI, 64, .inl zg))] → va_S A s.heap H locs → ∀ ls : Array Slot, lv_has ls 8 [(7, .int x7_57), (6, .int x6_57), (5, .int x5_57), (0, .ref om), (1, .int a1), (2, .int a2), (3, .int a3), (4, .int a4)] → W p l e (headSpec wsZM_mean rm_ZM_mean).room s m args below meth c H locs 0 0 Q9 (F0 m 57 ls []) := by
        intro K57 aft57 n
        induction n with
        | zero => intro x5_57 x6_57 x7_57 hw; exact False.elim hw
        | succ n ih57 =>
          intro x5_57 x6_57 x7_57 hw H locs hP hD hS ls hl
          refine lv_iload hx hb dZM_mean_57 (lv_at hl 0 rfl) ?_
          refine lv_iconst (v := (1 : Int32)) hx hb dZM_mean_59 (by decide) ?_
          refine lv_icmp_le (tgt := 102) hx hb dZM_mean_60 (by decide) (fun c_7 => ?_) (fun c_7 => ?_)
          · have hw := hw.1 c_7
            exact aft57 x5_57 x6_57 x7_57 hw _ _ (hP.sub [0, 1, 2, 3, 4, 5, 6, 7, 8] rfl) (hD.sub [0, 1, 2, 3, 4, 5, 6, 7, 8] (by decide) rfl) hS ls (lv_sub hl [0, 1, 2, 3, 4, 5, 6, 7] rfl)
          · have hw := hw.2 c_7
            refine lv_iload hx hb dZM_mean_63 (lv_at hl 2 rfl) ?_
            refine lv_iload hx hb dZM_mean_65 (lv_at hl 0 rfl) ?_
            obtain ⟨h_8, hw⟩ := hw
            refine lv_irem hx hb dZM_mean_67 h_8 ?_
            refine lv_if_ne (tgt := 96) hx hb dZM_mean_68 (by decide) (fun c_9 => ?_) (fun c_9 => ?_)
            · have hw := hw.2 c_9
              refine lv_iinc (v := x7_57 + (-1 : Int32)) (lv' := [(7, .int (x7_57 + (-1 : Int32))), (6, .int x6_57), (5, .int x5_57), (0, .ref om), (1, .int a1), (2, .int a2), (3, .int a3), (4, .int a4)]) hx hb dZM_mean_96 hl (k := 0) rfl rfl (by decide) rfl (fun ls hl => ?_)
              refine lv_goto (tgt := 57) hx hb dZM_mean_99 (by decide) ?_
              exact ih57 x5_57 x6_57 (x7_57 + (-1 : Int32)) hw _ _ (hP.sub [0, 1, 2, 3, 4, 5, 6, 7, 8] rfl) (hD.sub [0, 1, 2, 3, 4, 5, 6, 7, 8] (by decide) rfl) hS ls (lv_sub hl [0, 1, 2, 3, 4, 5, 6, 7] rfl)
            · have hw := hw.1 c_9
              refine lv_iload hx hb dZM_mean_71 (lv_at hl 1 rfl) ?_
              refine lv_iload hx hb dZM_mean_73 (lv_at hl 0 rfl) ?_
              obtain ⟨h_10, hw⟩ := hw
              refine lv_irem hx hb dZM_mean_75 h_10 ?_
              refine lv_if_eq (tgt := 82) hx hb dZM_mean_76 (by decide) (fun c_11 => ?_) (fun c_11 => ?_)
              · have hw := hw.1 c_11
                refine lv_iload hx hb dZM_mean_82 (lv_at hl 2 rfl) ?_
                refine lv_iload hx hb dZM_mean_84 (lv_at hl 0 rfl) ?_
                obtain ⟨h_12, hw⟩ := hw
                refine lv_idiv hx hb dZM_mean_86 h_12 ?_
                refine lv_istore (lv' := [(5, .int (x5_57 / x7_57)), (7, .int x7_57), (6, .int x6_57), (0, .ref om), (1, .int a1), (2, .int a2), (3, .int a3), (4, .int a4)]) hx hb dZM_mean_87 hl (by decide) rfl (fun ls hl => ?_)
                refine lv_iload hx hb dZM_mean_89 (lv_at hl 2 rfl) ?_
                refine lv_iload hx hb dZM_mean_91 (lv_at hl 1 rfl) ?_
                obtain ⟨h_13, hw⟩ := hw
                refine lv_idiv hx hb dZM_mean_93 h_13 ?_
                refine lv_istore (lv' := [(6, .int (x6_57 / x7_57)), (5, .int (x5_57 / x7_57)), (7, .int x7_57), (0, .ref om), (1, .int a1), (2, .int a2), (3, .int a3), (4, .int a4)]) hx hb dZM_mean_94 hl (by decide) rfl (fun ls hl => ?_)
                refine lv_iinc (v := x7_57 + (-1 : Int32)) (lv' := [(7, .int (x7_57 + (-1 : Int32))), (6, .int (x6_57 / x7_57)), (5, .int (x5_57 / x7_57)), (0, .ref om), (1, .int a1), (2, .int a2), (3, .int a3), (4, .int a4)]) hx hb dZM_mean_96 hl (k := 2) rfl rfl (by decide) rfl (fun ls hl => ?_)
                refine lv_goto (tgt := 57) hx hb dZM_mean_99 (by decide) ?_
                exact ih57 (x5_57 / x7_57) (x6_57 / x7_57) (x7_57 + (-1 : Int32)) hw _ _ (hP.sub [0, 1, 2, 3, 4, 5, 6, 7, 8] rfl) (hD.sub [0, 1, 2, 3, 4, 5, 6, 7, 8] (by decide) rfl) hS ls (lv_sub hl [0, 1, 2, 3, 4, 5, 6, 7] rfl)
              · have hw := hw.2 c_11
                refine lv_goto (tgt := 96) hx hb dZM_mean_79 (by decide) ?_
                refine lv_iinc (v := x7_57 + (-1 : Int32)) (lv' := [(7, .int (x7_57 + (-1 : Int32))), (6, .int x6_57), (5, .int x5_57), (0, .ref om), (1, .int a1), (2, .int a2), (3, .int a3), (4, .int a4)]) hx hb dZM_mean_96 hl (k := 0) rfl rfl (by decide) rfl (fun ls hl => ?_)
                refine lv_goto (tgt := 57) hx hb dZM_mean_99 (by decide) ?_
                exact ih57 x5_57 x6_57 (x7_57 + (-1 : Int32)) hw _ _ (hP.sub [0, 1, 2, 3, 4, 5, 6, 7, 8] rfl) (hD.sub [0, 1, 2, 3, 4, 5, 6, 7, 8] (by decide) rfl) hS ls (lv_sub hl [0, 1, 2, 3, 4, 5, 6, 7] rfl)
      obtain ⟨n57, hw⟩ := hw
      refine lp57 _ (fun x5_57e x6_57e x7_57e hw H locs hP hD hS ls hl => ?_) n57 r_5 r_6 r_6 hw _ _ (hP.sub [0, 1, 2, 3, 4, 5, 6, 7, 8] rfl) (hD.sub [0, 1, 2, 3, 4, 5, 6, 7, 8] (by decide) rfl) hS ls (lv_sub hl [0, 1, 2, 3, 4, 5, 6, 7] rfl)
      refine lv_iload hx hb dZM_mean_102 (lv_at hl 7 rfl) ?_
      refine lv_if_ne (tgt := 112) hx hb dZM_mean_104 (by decide) (fun c_14 => ?_) (fun c_14 => ?_)
      · have hw := hw.2 c_14
        refine lv_iload hx hb dZM_mean_112 (lv_at hl 1 rfl) ?_
        have hP9 := hP.sub (ws' := [(om, .inr (6, [.int zt_2, .int zw, .int zh, .ref ozp, .ref ozs, .ref ozb, .int zz, .ref ozl, .ref ozo, .int zc, .int zr, .int zu, .int zv, .int zq, .int zi, .ref ozk, .ref ozm, .int zd, .ref ozg])), (ozp, .inl (cI, 1600, .inl zp)), (ozs, .inl (cI, 320, .inl zs)), (ozb, .inl (cI, 256, .inl zb)), (ozl, .inl (cI, 64, .inl zl)), (ozo, .inl (cI, 64, .inl zo)), (ozk, .inl (cI, 320, .inl zk)), (ozm, .inl (cI, 40, .inl zm)), (ozg, .inl (cI, 64, .inl zg))]) [0, 1, 2, 3, 4, 5, 6, 7, 8] rfl
        have hD9 := hD.sub (ws' := [(om, .inr (6, [.int zt_2, .int zw, .int zh, .ref ozp, .ref ozs, .ref ozb, .int zz, .ref ozl, .ref ozo, .int zc, .int zr, .int zu, .int zv, .int zq, .int zi, .ref ozk, .ref ozm, .int zd, .ref ozg])), (ozp, .inl (cI, 1600, .inl zp)), (ozs, .inl (cI, 320, .inl zs)), (ozb, .inl (cI, 256, .inl zb)), (ozl, .inl (cI, 64, .inl zl)), (ozo, .inl (cI, 64, .inl zo)), (ozk, .inl (cI, 320, .inl zk)), (ozm, .inl (cI, 40, .inl zm)), (ozg, .inl (cI, 64, .inl zg))]) [0, 1, 2, 3, 4, 5, 6, 7, 8] (by decide) rfl
        subst hQ9
        exact W.iret (v := x6_57e) hx hb hr (fun t ht hW => ⟨⟨x6_57e, zt_2, rfl, hw, by rw [ht]; exact hP9, va_K.moved hW.alike hK, hD9⟩, hS.F ht⟩) hS.2.2 dZM_mean_114
      · have hw := hw.1 c_14
        refine lv_iload hx hb dZM_mean_107 (lv_at hl 2 rfl) ?_
        refine lv_goto (tgt := 114) hx hb dZM_mean_109 (by decide) ?_
        have hP9 := hP.sub (ws' := [(om, .inr (6, [.int zt_2, .int zw, .int zh, .ref ozp, .ref ozs, .ref ozb, .int zz, .ref ozl, .ref ozo, .int zc, .int zr, .int zu, .int zv, .int zq, .int zi, .ref ozk, .ref ozm, .int zd, .ref ozg])), (ozp, .inl (cI, 1600, .inl zp)), (ozs, .inl (cI, 320, .inl zs)), (ozb, .inl (cI, 256, .inl zb)), (ozl, .inl (cI, 64, .inl zl)), (ozo, .inl (cI, 64, .inl zo)), (ozk, .inl (cI, 320, .inl zk)), (ozm, .inl (cI, 40, .inl zm)), (ozg, .inl (cI, 64, .inl zg))]) [0, 1, 2, 3, 4, 5, 6, 7, 8] rfl
        have hD9 := hD.sub (ws' := [(om, .inr (6, [.int zt_2, .int zw, .int zh, .ref ozp, .ref ozs, .ref ozb, .int zz, .ref ozl, .ref ozo, .int zc, .int zr, .int zu, .int zv, .int zq, .int zi, .ref ozk, .ref ozm, .int zd, .ref ozg])), (ozp, .inl (cI, 1600, .inl zp)), (ozs, .inl (cI, 320, .inl zs)), (ozb, .inl (cI, 256, .inl zb)), (ozl, .inl (cI, 64, .inl zl)), (ozo, .inl (cI, 64, .inl zo)), (ozk, .inl (cI, 320, .inl zk)), (ozm, .inl (cI, 40, .inl zm)), (ozg, .inl (cI, 64, .inl zg))]) [0, 1, 2, 3, 4, 5, 6, 7, 8] (by decide) rfl
        subst hQ9
        exact W.iret (v := x5_57e) hx hb hr (fun t ht hW => ⟨⟨x5_57e, zt_2, rfl, hw, by rw [ht]; exact hP9, va_K.moved hW.alike hK, hD9⟩, hS.F ht⟩) hS.2.2 dZM_mean_114
    · have hw := hw.2 c_4
      refine lv_iconst (v := (0 : Int32)) hx hb dZM_mean_33 (by decide) ?_
      have hP9 := hP.sub (ws' := [(om, .inr (6, [.int zt_2, .int zw, .int zh, .ref ozp, .ref ozs, .ref ozb, .int zz, .ref ozl, .ref ozo, .int zc, .int zr, .int zu, .int zv, .int zq, .int zi, .ref ozk, .ref ozm, .int zd, .ref ozg])), (ozp, .inl (cI, 1600, .inl zp)), (ozs, .inl (cI, 320, .inl zs)), (ozb, .inl (cI, 256, .inl zb)), (ozl, .inl (cI, 64, .inl zl)), (ozo, .inl (cI, 64, .inl zo)), (ozk, .inl (cI, 320, .inl zk)), (ozm, .inl (cI, 40, .inl zm)), (ozg, .inl (cI, 64, .inl zg))]) [0, 1, 2, 3, 4, 5, 6, 7, 8] rfl
      have hD9 := hD.sub (ws' := [(om, .inr (6, [.int zt_2, .int zw, .int zh, .ref ozp, .ref ozs, .ref ozb, .int zz, .ref ozl, .ref ozo, .int zc, .int zr, .int zu, .int zv, .int zq, .int zi, .ref ozk, .ref ozm, .int zd, .ref ozg])), (ozp, .inl (cI, 1600, .inl zp)), (ozs, .inl (cI, 320, .inl zs)), (ozb, .inl (cI, 256, .inl zb)), (ozl, .inl (cI, 64, .inl zl)), (ozo, .inl (cI, 64, .inl zo)), (ozk, .inl (cI, 320, .inl zk)), (ozm, .inl (cI, 40, .inl zm)), (ozg, .inl (cI, 64, .inl zg))]) [0, 1, 2, 3, 4, 5, 6, 7, 8] (by decide) rfl
      subst hQ9
      exact W.iret (v := (0 : Int32)) hx hb hr (fun t ht hW => ⟨⟨(0 : Int32), zt_2, rfl, hw, by rw [ht]; exact hP9, va_K.moved hW.alike hK, hD9⟩, hS.F ht⟩) hS.2.2 dZM_mean_34
  refine lv_if_eq (tgt := 21) hx hb dZM_mean_8 (by decide) (fun c_15 => ?_) (fun c_15 => ?_)
  · have hw := hw.1 c_15
    refine lv_iconst (v := (1 : Int32)) hx hb dZM_mean_21 (by decide) ?_
    refine lv_goto (tgt := 26) hx hb dZM_mean_22 (by decide) ?_
    exact j26 (1 : Int32) hw _ _ (hP.sub [0, 1, 2, 3, 4, 5, 6, 7, 8] rfl) (hD.sub [0, 1, 2, 3, 4, 5, 6, 7, 8] (by decide) rfl) hS ls (lv_sub hl [0, 1, 2, 3, 4] rfl)
  · have hw := hw.2 c_15
    refine lv_iload hx hb dZM_mean_11 (lv_at hl 4 rfl) ?_
    refine lv_iconst (v := (0 : Int32)) hx hb dZM_mean_13 (by decide) ?_
    refine lv_iconst (v := (1 : Int32)) hx hb dZM_mean_14 (by decide) ?_
    have hPc := hP.sub (ws' := []) [] rfl
    refine vp_callSi (va_runS (As := [.int a4, .int (0 : Int32), .int (1 : Int32)]) (rest := [.ref om]) ⟨hx, hb, hml, hown, hts⟩ (kt_ZM_in l dC dI cI  a4 (0 : Int32) (1 : Int32) _ hw) (va_cwS 3 hts (tb_S mm_687 mm_688 mm_8 mm_689) rfl rfl rfl (by decide +kernel) ⟨Nat.le_of_ble_eq_true rfl, Nat.le_of_ble_eq_true rfl⟩) ⟨gr_blind, fun U hU hW => gr_pre hPc hK hE hU hW⟩ rfl rfl hl.1 rfl (lv_room (Nat.le_of_ble_eq_true rfl)) dZM_mean_15 ⟨Nat.le_of_ble_eq_true rfl, Nat.le_of_ble_eq_true rfl⟩).run (fun r_16 hw => ?_)
    refine lv_if_ne (tgt := 25) hx hb dZM_mean_18 (by decide) (fun c_17 => ?_) (fun c_17 => ?_)
    · have hw := hw.2 c_17
      refine lv_iconst (v := (0 : Int32)) hx hb dZM_mean_25 (by decide) ?_
      exact j26 (0 : Int32) hw _ _ (hP.sub [0, 1, 2, 3, 4, 5, 6, 7, 8] rfl) (hD.sub [0, 1, 2, 3, 4, 5, 6, 7, 8] (by decide) rfl) hS ls (lv_sub hl [0, 1, 2, 3, 4] rfl)
    · have hw := hw.1 c_17
      refine lv_iconst (v := (1 : Int32)) hx hb dZM_mean_21 (by decide) ?_
      refine lv_goto (tgt := 26) hx hb dZM_mean_22 (by decide) ?_
      exact j26 (1 : Int32) hw _ _ (hP.sub [0, 1, 2, 3, 4, 5, 6, 7, 8] rfl) (hD.sub [0, 1, 2, 3, 4, 5, 6, 7, 8] (by decide) rfl) hS ls (lv_sub hl [0, 1, 2, 3, 4] rfl)
theorem dZM_zoom_0 : decode cZM_zoom 0 = .ok (.aload_n 0, 1) := by decide +kernel
theorem dZM_zoom_1 : decode cZM_zoom 1 = .ok (.iload_n 1, 1) := by decide +kernel
theorem dZM_zoom_2 : decode cZM_zoom 2 = .ok (.invokevirtual 76, 3) := by decide +kernel
theorem dZM_zoom_5 : decode cZM_zoom 5 = .ok (.ifCond .eq 29, 3) := by decide +kernel
theorem dZM_zoom_8 : decode cZM_zoom 8 = .ok (.iload_n 2, 1) := by decide +kernel
theorem dZM_zoom_9 : decode cZM_zoom 9 = .ok (.iload_n 3, 1) := by decide +kernel
theorem dZM_zoom_10 : decode cZM_zoom 10 = .ok (.iload 4, 2) := by decide +kernel
theorem dZM_zoom_12 : decode cZM_zoom 12 = .ok (.iload 5, 2) := by decide +kernel
theorem dZM_zoom_14 : decode cZM_zoom 14 = .ok (.aload_n 0, 1) := by decide +kernel
theorem dZM_zoom_15 : decode cZM_zoom 15 = .ok (.iload_n 1, 1) := by decide +kernel
theorem dZM_zoom_16 : decode cZM_zoom 16 = .ok (.invokevirtual 79, 3) := by decide +kernel
theorem dZM_zoom_19 : decode cZM_zoom 19 = .ok (.aload_n 0, 1) := by decide +kernel
theorem dZM_zoom_20 : decode cZM_zoom 20 = .ok (.iload_n 1, 1) := by decide +kernel
theorem dZM_zoom_21 : decode cZM_zoom 21 = .ok (.invokevirtual 82, 3) := by decide +kernel
theorem dZM_zoom_24 : decode cZM_zoom 24 = .ok (.invokestatic 72, 3) := by decide +kernel
theorem dZM_zoom_27 : decode cZM_zoom 27 = .ok (.ifCond .eq 7, 3) := by decide +kernel
theorem dZM_zoom_30 : decode cZM_zoom 30 = .ok (.iconst 1, 1) := by decide +kernel
theorem dZM_zoom_31 : decode cZM_zoom 31 = .ok (.goto 4, 3) := by decide +kernel
theorem dZM_zoom_34 : decode cZM_zoom 34 = .ok (.iconst 0, 1) := by decide +kernel
theorem dZM_zoom_35 : decode cZM_zoom 35 = .ok (.istore 6, 2) := by decide +kernel
theorem dZM_zoom_37 : decode cZM_zoom 37 = .ok (.aload_n 0, 1) := by decide +kernel
theorem dZM_zoom_38 : decode cZM_zoom 38 = .ok (.iload 6, 2) := by decide +kernel
theorem dZM_zoom_40 : decode cZM_zoom 40 = .ok (.ifCond .ne 7, 3) := by decide +kernel
theorem dZM_zoom_43 : decode cZM_zoom 43 = .ok (.iconst 1, 1) := by decide +kernel
theorem dZM_zoom_44 : decode cZM_zoom 44 = .ok (.goto 4, 3) := by decide +kernel
theorem dZM_zoom_47 : decode cZM_zoom 47 = .ok (.iconst 0, 1) := by decide +kernel
theorem dZM_zoom_48 : decode cZM_zoom 48 = .ok (.iconst 0, 1) := by decide +kernel
theorem dZM_zoom_49 : decode cZM_zoom 49 = .ok (.invokevirtual 60, 3) := by decide +kernel
theorem dZM_zoom_52 : decode cZM_zoom 52 = .ok (.ifCond .eq 5, 3) := by decide +kernel
theorem dZM_zoom_55 : decode cZM_zoom 55 = .ok (.iconst 0, 1) := by decide +kernel
theorem dZM_zoom_56 : decode cZM_zoom 56 = .ok (.ireturn, 1) := by decide +kernel
theorem dZM_zoom_57 : decode cZM_zoom 57 = .ok (.iconst 0, 1) := by decide +kernel
theorem dZM_zoom_58 : decode cZM_zoom 58 = .ok (.istore 7, 2) := by decide +kernel
theorem dZM_zoom_60 : decode cZM_zoom 60 = .ok (.iconst 0, 1) := by decide +kernel
theorem dZM_zoom_61 : decode cZM_zoom 61 = .ok (.istore 8, 2) := by decide +kernel
theorem dZM_zoom_63 : decode cZM_zoom 63 = .ok (.iload 8, 2) := by decide +kernel
theorem dZM_zoom_65 : decode cZM_zoom 65 = .ok (.iload 4, 2) := by decide +kernel
theorem dZM_zoom_67 : decode cZM_zoom 67 = .ok (.iload 5, 2) := by decide +kernel
theorem dZM_zoom_69 : decode cZM_zoom 69 = .ok (.imul, 1) := by decide +kernel
theorem dZM_zoom_70 : decode cZM_zoom 70 = .ok (.if_icmp .ge 33, 3) := by decide +kernel
theorem dZM_zoom_73 : decode cZM_zoom 73 = .ok (.iload 7, 2) := by decide +kernel
theorem dZM_zoom_75 : decode cZM_zoom 75 = .ok (.aload_n 0, 1) := by decide +kernel
theorem dZM_zoom_76 : decode cZM_zoom 76 = .ok (.iload_n 1, 1) := by decide +kernel
theorem dZM_zoom_77 : decode cZM_zoom 77 = .ok (.iload_n 2, 1) := by decide +kernel
theorem dZM_zoom_78 : decode cZM_zoom 78 = .ok (.iload 8, 2) := by decide +kernel
theorem dZM_zoom_80 : decode cZM_zoom 80 = .ok (.iload 4, 2) := by decide +kernel
theorem dZM_zoom_82 : decode cZM_zoom 82 = .ok (.irem, 1) := by decide +kernel
theorem dZM_zoom_83 : decode cZM_zoom 83 = .ok (.iadd, 1) := by decide +kernel
theorem dZM_zoom_84 : decode cZM_zoom 84 = .ok (.iload_n 3, 1) := by decide +kernel
theorem dZM_zoom_85 : decode cZM_zoom 85 = .ok (.iload 8, 2) := by decide +kernel
theorem dZM_zoom_87 : decode cZM_zoom 87 = .ok (.iload 4, 2) := by decide +kernel
theorem dZM_zoom_89 : decode cZM_zoom 89 = .ok (.idiv, 1) := by decide +kernel
theorem dZM_zoom_90 : decode cZM_zoom 90 = .ok (.iadd, 1) := by decide +kernel
theorem dZM_zoom_91 : decode cZM_zoom 91 = .ok (.invokevirtual 98, 3) := by decide +kernel
theorem dZM_zoom_94 : decode cZM_zoom 94 = .ok (.iadd, 1) := by decide +kernel
theorem dZM_zoom_95 : decode cZM_zoom 95 = .ok (.istore 7, 2) := by decide +kernel
theorem dZM_zoom_97 : decode cZM_zoom 97 = .ok (.iinc 8 1, 3) := by decide +kernel
theorem dZM_zoom_100 : decode cZM_zoom 100 = .ok (.goto (-37), 3) := by decide +kernel
theorem dZM_zoom_103 : decode cZM_zoom 103 = .ok (.iload 7, 2) := by decide +kernel
theorem dZM_zoom_105 : decode cZM_zoom 105 = .ok (.ireturn, 1) := by decide +kernel
abbrev wsZM_zoom : List Cond := .code yZM_zoom cZM_zoom 9 (some .int) :: tbg
def lp_ZM_zoom_63 (zt : Int32) (zw : Int32) (zh : Int32) (zp : Nat → Int32) (zs : Nat → Int32) (zb : Nat → Int32) (zz : Int32) (zl : Nat → Int32) (zo : Nat → Int32) (zc : Int32) (zr : Int32) (zu : Int32) (zv : Int32) (zq : Int32) (zi : Int32) (zk : Nat → Int32) (zm : Nat → Int32) (zd : Int32) (zg : Nat → Int32) (a1 : Int32) (a2 : Int32) (a3 : Int32) (a4 : Int32) (a5 : Int32) (r_1 : Int32) (t0_j35 : Int32) (t0_j48 : Int32) (r_3 : Int32) (zt_2 : Int32) (post : Int32 → Int32 → Prop) (K63 : Int32 → Int32 → Prop) (n : Nat) : Int32 → Int32 → Prop := Nat.rec (motive := fun _ => Int32 → Int32 → Prop) (fun (x7_63 : Int32) (x8_63 : Int32) => False) (fun _ ih63 (x7_63 : Int32) (x8_63 : Int32) => (((a4 * a5) ≤ x8_63 → (K63 x7_63 x8_63)) ∧ (¬ (a4 * a5) ≤ x8_63 → (¬ a4 = 0 ∧ (¬ a4 = 0 ∧ (wp_ZM_sample zt_2 zw zh zp zs zb zz zl zo zc zr zu zv zq zi zk zm zd zg a1 (a2 + (x8_63 - x8_63 / a4 * a4)) (a3 + (x8_63 / a4)) (fun r_8 : Int32 => ih63 (x7_63 + r_8) (x8_63 + (1 : Int32))))))))) n
def wp_ZM_zoom (zt : Int32) (zw : Int32) (zh : Int32) (zp : Nat → Int32) (zs : Nat → Int32) (zb : Nat → Int32) (zz : Int32) (zl : Nat → Int32) (zo : Nat → Int32) (zc : Int32) (zr : Int32) (zu : Int32) (zv : Int32) (zq : Int32) (zi : Int32) (zk : Nat → Int32) (zm : Nat → Int32) (zd : Int32) (zg : Nat → Int32) (a1 : Int32) (a2 : Int32) (a3 : Int32) (a4 : Int32) (a5 : Int32) (post : Int32 → Int32 → Prop) : Prop := wp_ZM_isLevel zt zw zh zp zs zb zz zl zo zc zr zu zv zq zi zk zm zd zg a1 (fun r_1 : Int32 => ∃ J35 : Int32 → Prop, (∀ (t0_j35 : Int32), J35 t0_j35 → ∃ J48 : Int32 → Prop, (∀ (t0_j48 : Int32), J48 t0_j48 → wp_ZM_throwing zt zw zh zp zs zb zz zl zo zc zr zu zv zq zi zk zm zd zg t0_j48 (0 : Int32) (fun (r_3 : Int32) (zt_2 : Int32) => ((r_3 = (0 : Int32) → (∃ n : Nat, lp_ZM_zoom_63 zt zw zh zp zs zb zz zl zo zc zr zu zv zq zi zk zm zd zg a1 a2 a3 a4 a5 r_1 t0_j35 t0_j48 r_3 zt_2 post (fun (x7_63e : Int32) (x8_63e : Int32) => post x7_63e zt_2) n (0 : Int32) (0 : Int32))) ∧ (¬ r_3 = (0 : Int32) → (post (0 : Int32) zt_2))))) ∧ (((t0_j35 = (0 : Int32) → (J48 (1 : Int32))) ∧ (¬ t0_j35 = (0 : Int32) → (J48 (0 : Int32)))))) ∧ (((r_1 = (0 : Int32) → (J35 (0 : Int32))) ∧ (¬ r_1 = (0 : Int32) → (wp_ZM_across zt zw zh zp zs zb zz zl zo zc zr zu zv zq zi zk zm zd zg a1 (fun r_11 : Int32 => wp_ZM_down zt zw zh zp zs zb zz zl zo zc zr zu zv zq zi zk zm zd zg a1 (fun r_12 : Int32 => wp_ZM_isPart a2 a3 a4 a5 r_11 r_12 (fun r_13 : Int32 => ((r_13 = (0 : Int32) → (J35 (0 : Int32))) ∧ (¬ r_13 = (0 : Int32) → (J35 (1 : Int32))))))))))))
abbrev rm_ZM_zoom : Room := { frames := 3, cells := 0, slots := 0, locals := 76 }
set_option maxHeartbeats 4000000 in
set_option maxRecDepth 100000 in
theorem kt_ZM_zoom (l : Launch) (dC : Nat → ClassId) (dI : Nat → Nat → Nat) (cI : ClassId) (om ozp ozs ozb ozl ozo ozk ozm ozg : Nat) (sz : Nat) (zt : Int32) (zw : Int32) (zh : Int32) (zp : Nat → Int32) (zs : Nat → Int32) (zb : Nat → Int32) (zz : Int32) (zl : Nat → Int32) (zo : Nat → Int32) (zc : Int32) (zr : Int32) (zu : Int32) (zv : Int32) (zq : Int32) (zi : Int32) (zk : Nat → Int32) (zm : Nat → Int32) (zd : Int32) (zg : Nat → Int32) (a1 : Int32) (a2 : Int32) (a3 : Int32) (a4 : Int32) (a5 : Int32) (post : Int32 → Int32 → Prop) (hw : wp_ZM_zoom zt zw zh zp zs zb zz zl zo zc zr zu zv zq zi zk zm zd zg a1 a2 a3 a4 a5 post) : Met l yZM_zoom wsZM_zoom rm_ZM_zoom (gw_Pc dC dI [(cI, .int)] [.ref om, .int a1, .int a2, .int a3, .int a4, .int a5] [(om, .inr (6, [.int zt, .int zw, .int zh, .ref ozp, .ref ozs, .ref ozb, .int zz, .ref ozl, .ref ozo, .int zc, .int zr, .int zu, .int zv, .int zq, .int zi, .ref ozk, .ref ozm, .int zd, .ref ozg])), (ozp, .inl (cI, 1600, .inl zp)), (ozs, .inl (cI, 320, .inl zs)), (ozb, .inl (cI, 256, .inl zb)), (ozl, .inl (cI, 64, .inl zl)), (ozo, .inl (cI, 64, .inl zo)), (ozk, .inl (cI, 320, .inl zk)), (ozm, .inl (cI, 40, .inl zm)), (ozg, .inl (cI, 64, .inl zg))] sz) (va_Qi (fun (r : Int32) (u : Int32) => post r u) (fun u t => gw_B dC dI [(cI, .int)] (va_A [(om, .inr (6, [.int zt, .int zw, .int zh, .ref ozp, .ref ozs, .ref ozb, .int zz, .ref ozl, .ref ozo, .int zc, .int zr, .int zu, .int zv, .int zq, .int zi, .ref ozk, .ref ozm, .int zd, .ref ozg])), (ozp, .inl (cI, 1600, .inl zp)), (ozs, .inl (cI, 320, .inl zs)), (ozb, .inl (cI, 256, .inl zb)), (ozl, .inl (cI, 64, .inl zl)), (ozo, .inl (cI, 64, .inl zo)), (ozk, .inl (cI, 320, .inl zk)), (ozm, .inl (cI, 40, .inl zm)), (ozg, .inl (cI, 64, .inl zg))] sz) [(om, .inr (6, [.int u, .int zw, .int zh, .ref ozp, .ref ozs, .ref ozb, .int zz, .ref ozl, .ref ozo, .int zc, .int zr, .int zu, .int zv, .int zq, .int zi, .ref ozk, .ref ozm, .int zd, .ref ozg])), (ozp, .inl (cI, 1600, .inl zp)), (ozs, .inl (cI, 320, .inl zs)), (ozb, .inl (cI, 256, .inl zb)), (ozl, .inl (cI, 64, .inl zl)), (ozo, .inl (cI, 64, .inl zo)), (ozk, .inl (cI, 320, .inl zk)), (ozm, .inl (cI, 40, .inl zm)), (ozg, .inl (cI, 64, .inl zg))] t) (va_A [(om, .inr (6, [.int zt, .int zw, .int zh, .ref ozp, .ref ozs, .ref ozb, .int zz, .ref ozl, .ref ozo, .int zc, .int zr, .int zu, .int zv, .int zq, .int zi, .ref ozk, .ref ozm, .int zd, .ref ozg])), (ozp, .inl (cI, 1600, .inl zp)), (ozs, .inl (cI, 320, .inl zs)), (ozb, .inl (cI, 256, .inl zb)), (ozl, .inl (cI, 64, .inl zl)), (ozo, .inl (cI, 64, .inl zo)), (ozk, .inl (cI, 320, .inl zk)), (ozm, .inl (cI, 40, .inl zm)), (ozg, .inl (cI, 64, .inl zg))] sz)) 0 0 (va_A [(om, .inr (6, [.int zt, .int zw, .int zh, .ref ozp, .ref ozs, .ref ozb, .int zz, .ref ozl, .ref ozo, .int zc, .int zr, .int zu, .int zv, .int zq, .int zi, .ref ozk, .ref ozm, .int zd, .ref ozg])), (ozp, .inl (cI, 1600, .inl zp)), (ozs, .inl (cI, 320, .inl zs)), (ozb, .inl (cI, 256, .inl zb)), (ozl, .inl (cI, 64, .inl zl)), (ozo, .inl (cI, 64, .inl zo)), (ozk, .inl (cI, 320, .inl zk)), (ozm, .inl (cI, 40, .inl zm)), (ozg, .inl (cI, 64, .inl zg))] sz) := by
  refine Met.ofW (cc := cZM_zoom) (maxL := 9) (ret := (some .int)) (by decide) rfl ?_
  intro p e s m args below meth c s₁ B hml hv
  obtain ⟨ha9, hsz, hP, hK, hE, hD0⟩ := hv
  have hx := B.exec
  have hb := B.bytes
  have hr := B.returns
  have hts0 := atoms_spec (ws := wsZM_zoom) B.pre
  have hts : ∀ w ∈ tbg, w.before args s = true := fun w h => hts0 w (List.mem_cons_of_mem _ h)
  have hown : s.vm.findClass RZM = some m.cls := findClass_of_methodNamed B.named
  have hlocks := B.notSynchronized
  subst hsz
  have hD := hD0.self (sz := s.heap.size)
  refine gx_Q (fun Q9 hQ9 => ?_)
  generalize hAe : va_A [(om, .inr (6, [.int zt, .int zw, .int zh, .ref ozp, .ref ozs, .ref ozb, .int zz, .ref ozl, .ref ozo, .int zc, .int zr, .int zu, .int zv, .int zq, .int zi, .ref ozk, .ref ozm, .int zd, .ref ozg])), (ozp, .inl (cI, 1600, .inl zp)), (ozs, .inl (cI, 320, .inl zs)), (ozb, .inl (cI, 256, .inl zb)), (ozl, .inl (cI, 64, .inl zl)), (ozo, .inl (cI, 64, .inl zo)), (ozk, .inl (cI, 320, .inl zk)), (ozm, .inl (cI, 40, .inl zm)), (ozg, .inl (cI, 64, .inl zg))] s.heap.size = A at hD hQ9 ⊢
  have hA : ∀ q : Nat, s.heap.size ≤ q → A q := fun q h => by rw [← hAe]; exact Or.inr h
  have hS : va_S A s.heap s.heap [] := va_S.rf
  have hl := lv_entry ([.ref om, .int a1, .int a2, .int a3, .int a4, .int a5]) (n := 9) (Nat.le_of_ble_eq_true rfl)
  have he9 : entryFrame m args 9 = F0 m 0 ((lg_sl [.ref om, .int a1, .int a2, .int a3, .int a4, .int a5] ++ List.replicate (9 - (lg_sl ([.ref om, .int a1, .int a2, .int a3, .int a4, .int a5] : List Value)).length) Slot.unset).toArray) [] := by rw [ha9]; exact lg_entry_eq m [.ref om, .int a1, .int a2, .int a3, .int a4, .int a5] 9
  rw [he9]
  generalize (lg_sl ([.ref om, .int a1, .int a2, .int a3, .int a4, .int a5] : List Value) ++ List.replicate (9 - (lg_sl ([.ref om, .int a1, .int a2, .int a3, .int a4, .int a5] : List Value)).length) Slot.unset).toArray = ls at hl ⊢
  have hl : lv_has ls 9 [(0, .ref om), (1, .int a1), (2, .int a2), (3, .int a3), (4, .int a4), (5, .int a5)] := hl
  refine lv_aload_n hx hb dZM_zoom_0 rfl (lv_at hl 0 rfl) ?_
  refine lv_iload_n hx hb dZM_zoom_1 rfl (lv_at hl 1 rfl) ?_
  refine vp_callSi (va_runV (As := [.int a1]) (rest := []) ⟨hx, hb, hml, hown, hts⟩ (kt_ZM_isLevel l dC dI cI om ozp ozs ozb ozl ozo ozk ozm ozg zt zw zh zp zs zb zz zl zo zc zr zu zv zq zi zk zm zd zg a1 _ hw) (cwV 1 hts (tb_V mm_719 mm_721 mp_7 mm_8 mm_722) rfl rfl rfl (by decide +kernel) ⟨Nat.le_of_ble_eq_true rfl, Nat.le_of_ble_eq_true rfl⟩) ⟨gr_blind, va_recv hK hP (ci := 6) (q0 := 0) rfl rfl, fun U hU hW => gr_pre hP hK hE hU hW⟩ rfl rfl hl.1 rfl (lv_room (Nat.le_of_ble_eq_true rfl)) dZM_zoom_2 ⟨Nat.le_of_ble_eq_true rfl, Nat.le_of_ble_eq_true rfl⟩).run (fun r_1 hw => ?_)
  obtain ⟨J35, hJ35, hw⟩ := hw
  have j35 : ∀ (t0_j35 : Int32), J35 t0_j35 → ∀ (H : Heap) (locs : List Loc), va_P (dC, dI) vwCl [(om, .inr (6, [.int zt, .int zw, .int zh, .ref ozp, .ref ozs, .ref ozb, .int zz, .ref ozl, .ref ozo, .int zc, .int zr, .int zu, .int zv, .int zq, .int zi, .ref ozk, .ref ozm, .int zd, .ref ozg])), (ozp, .inl (cI, 1600, .inl zp)), (ozs, .inl (cI, 320, .inl zs)), (ozb, .inl (cI, 256, .inl zb)), (ozl, .inl (cI, 64, .inl zl)), (ozo, .inl (cI, 64, .inl zo)), (ozk, .inl (cI, 320, .inl zk)), (ozm, .inl (cI, 40, .inl zm)), (ozg, .inl (cI, 64, .inl zg))] H → va_D A [(om, .inr (6, [.int zt, .int zw, .int zh, .ref ozp, .ref ozs, .ref ozb, .int zz, .ref ozl, .ref ozo, .int zc, .int zr, .int zu, .int zv, .int zq, .int zi, .ref ozk, .ref ozm, .int zd, .ref ozg])), (ozp, .inl (cI, 1600, .inl zp)), (ozs, .inl (cI, 320, .inl zs)), (ozb, .inl (cI, 256, .inl zb)), (ozl, .inl (cI, 64, .inl zl)), (ozo, .inl (cI, 64, .inl zo)), (ozk, .inl (cI, 320, .inl zk)), (ozm, .inl (cI, 40, .inl zm)), (ozg, .inl (cI, 64, .inl zg))] → va_S A s.heap H locs → ∀ ls : Array Slot, lv_has ls 9 [(0, .ref om), (1, .int a1), (2, .int a2), (3, .int a3), (4, .int a4), (5, .int a5)] → W p l e (headSpec wsZM_zoom rm_ZM_zoom).room s m args below meth c H locs 0 0 Q9 (F0 m 35 ls [.int t0_j35]) := by
    intro t0_j35 hw H locs hP hD hS ls hl
    have hw := hJ35 t0_j35 hw
    refine lv_istore (lv' := [(6, .int t0_j35), (0, .ref om), (1, .int a1), (2, .int a2), (3, .int a3), (4, .int a4), (5, .int a5)]) hx hb dZM_zoom_35 hl (by decide) rfl (fun ls hl => ?_)
    refine lv_aload_n hx hb dZM_zoom_37 rfl (lv_at hl 1 rfl) ?_
    refine lv_iload hx hb dZM_zoom_38 (lv_at hl 0 rfl) ?_
    obtain ⟨J48, hJ48, hw⟩ := hw
    have j48 : ∀ (t0_j48 : Int32), J48 t0_j48 → ∀ (H : Heap) (locs : List Loc), va_P (dC, dI) vwCl [(om, .inr (6, [.int zt, .int zw, .int zh, .ref ozp, .ref ozs, .ref ozb, .int zz, .ref ozl, .ref ozo, .int zc, .int zr, .int zu, .int zv, .int zq, .int zi, .ref ozk, .ref ozm, .int zd, .ref ozg])), (ozp, .inl (cI, 1600, .inl zp)), (ozs, .inl (cI, 320, .inl zs)), (ozb, .inl (cI, 256, .inl zb)), (ozl, .inl (cI, 64, .inl zl)), (ozo, .inl (cI, 64, .inl zo)), (ozk, .inl (cI, 320, .inl zk)), (ozm, .inl (cI, 40, .inl zm)), (ozg, .inl (cI, 64, .inl zg))] H → va_D A [(om, .inr (6, [.int zt, .int zw, .int zh, .ref ozp, .ref ozs, .ref ozb, .int zz, .ref ozl, .ref ozo, .int zc, .int zr, .int zu, .int zv, .int zq, .int zi, .ref ozk, .ref ozm, .int zd, .ref ozg])), (ozp, .inl (cI, 1600, .inl zp)), (ozs, .inl (cI, 320, .inl zs)), (ozb, .inl (cI, 256, .inl zb)), (ozl, .inl (cI, 64, .inl zl)), (ozo, .inl (cI, 64, .inl zo)), (ozk, .inl (cI, 320, .inl zk)), (ozm, .inl (cI, 40, .inl zm)), (ozg, .inl (cI, 64, .inl zg))] → va_S A s.heap H locs → ∀ ls : Array Slot, lv_has ls 9 [(6, .int t0_j35), (0, .ref om), (1, .int a1), (2, .int a2), (3, .int a3), (4, .int a4), (5, .int a5)] → W p l e (headSpec wsZM_zoom rm_ZM_zoom).room s m args below meth c H locs 0 0 Q9 (F0 m 48 ls [.int t0_j48, .ref om]) := by
      intro t0_j48 hw H locs hP hD hS ls hl
      have hw := hJ48 t0_j48 hw
      refine lv_iconst (v := (0 : Int32)) hx hb dZM_zoom_48 (by decide) ?_
      have hPc := hP.sub (ws' := [(om, .inr (6, [.int zt, .int zw, .int zh, .ref ozp, .ref ozs, .ref ozb, .int zz, .ref ozl, .ref ozo, .int zc, .int zr, .int zu, .int zv, .int zq, .int zi, .ref ozk, .ref ozm, .int zd, .ref ozg])), (ozp, .inl (cI, 1600, .inl zp)), (ozs, .inl (cI, 320, .inl zs)), (ozb, .inl (cI, 256, .inl zb)), (ozl, .inl (cI, 64, .inl zl)), (ozo, .inl (cI, 64, .inl zo)), (ozk, .inl (cI, 320, .inl zk)), (ozm, .inl (cI, 40, .inl zm)), (ozg, .inl (cI, 64, .inl zg))]) [0, 1, 2, 3, 4, 5, 6, 7, 8] rfl
      have hDc := hD.sub (ws' := [(om, .inr (6, [.int zt, .int zw, .int zh, .ref ozp, .ref ozs, .ref ozb, .int zz, .ref ozl, .ref ozo, .int zc, .int zr, .int zu, .int zv, .int zq, .int zi, .ref ozk, .ref ozm, .int zd, .ref ozg])), (ozp, .inl (cI, 1600, .inl zp)), (ozs, .inl (cI, 320, .inl zs)), (ozb, .inl (cI, 256, .inl zb)), (ozl, .inl (cI, 64, .inl zl)), (ozo, .inl (cI, 64, .inl zo)), (ozk, .inl (cI, 320, .inl zk)), (ozm, .inl (cI, 40, .inl zm)), (ozg, .inl (cI, 64, .inl zg))]) [0, 1, 2, 3, 4, 5, 6, 7, 8] (by decide) rfl
      have hFc := va_free (wc := [(om, .inr (6, [.int zt, .int zw, .int zh, .ref ozp, .ref ozs, .ref ozb, .int zz, .ref ozl, .ref ozo, .int zc, .int zr, .int zu, .int zv, .int zq, .int zi, .ref ozk, .ref ozm, .int zd, .ref ozg])), (ozp, .inl (cI, 1600, .inl zp)), (ozs, .inl (cI, 320, .inl zs)), (ozb, .inl (cI, 256, .inl zb)), (ozl, .inl (cI, 64, .inl zl)), (ozo, .inl (cI, 64, .inl zo)), (ozk, .inl (cI, 320, .inl zk)), (ozm, .inl (cI, 40, .inl zm)), (ozg, .inl (cI, 64, .inl zg))]) hD hS hA [0, 1, 2, 3, 4, 5, 6, 7, 8] rfl
      refine va_calli (va_runV (As := [.int t0_j48, .int (0 : Int32)]) (rest := []) ⟨hx, hb, hml, hown, hts⟩ (kt_ZM_throwing l dC dI cI om ozp ozs ozb ozl ozo ozk ozm ozg _ zt zw zh zp zs zb zz zl zo zc zr zu zv zq zi zk zm zd zg t0_j48 (0 : Int32) _ hw) (cwV 2 hts (tb_V mm_693 mm_695 mp_5 mm_8 mm_696) rfl rfl rfl (by decide +kernel) ⟨Nat.le_of_ble_eq_true rfl, Nat.le_of_ble_eq_true rfl⟩) ⟨gw_blind, va_recv hK hPc (ci := 6) (q0 := 0) rfl rfl, fun U hU hW => gw_pre hPc hDc hK hE hU hW⟩ rfl rfl hl.1 rfl (lv_room (Nat.le_of_ble_eq_true rfl)) dZM_zoom_49 ⟨Nat.le_of_ble_eq_true rfl, Nat.le_of_ble_eq_true rfl⟩) hS (fun q _ h => hFc q h) hFc (fun r_3 zt_2 t H1 locs ht hvm hw hB hz1 hk1 hS => ?_)
      obtain ⟨hP1, hK1, hD1⟩ := hB
      rw [ht] at hP1
      try dsimp only at hw
      obtain ⟨hP, hD⟩ := va_join (wr := []) (w1 := [(om, .inr (6, [.int zt_2, .int zw, .int zh, .ref ozp, .ref ozs, .ref ozb, .int zz, .ref ozl, .ref ozo, .int zc, .int zr, .int zu, .int zv, .int zq, .int zi, .ref ozk, .ref ozm, .int zd, .ref ozg])), (ozp, .inl (cI, 1600, .inl zp)), (ozs, .inl (cI, 320, .inl zs)), (ozb, .inl (cI, 256, .inl zb)), (ozl, .inl (cI, 64, .inl zl)), (ozo, .inl (cI, 64, .inl zo)), (ozk, .inl (cI, 320, .inl zk)), (ozm, .inl (cI, 40, .inl zm)), (ozg, .inl (cI, 64, .inl zg))]) hP hD [0, 1, 2, 3, 4, 5, 6, 7, 8] [] rfl rfl (by decide) (by decide) hk1 hFc hP1 hD1
      generalize H1 = H at hP hS ⊢
      have hP : va_P (dC, dI) vwCl [(om, .inr (6, [.int zt_2, .int zw, .int zh, .ref ozp, .ref ozs, .ref ozb, .int zz, .ref ozl, .ref ozo, .int zc, .int zr, .int zu, .int zv, .int zq, .int zi, .ref ozk, .ref ozm, .int zd, .ref ozg])), (ozp, .inl (cI, 1600, .inl zp)), (ozs, .inl (cI, 320, .inl zs)), (ozb, .inl (cI, 256, .inl zb)), (ozl, .inl (cI, 64, .inl zl)), (ozo, .inl (cI, 64, .inl zo)), (ozk, .inl (cI, 320, .inl zk)), (ozm, .inl (cI, 40, .inl zm)), (ozg, .inl (cI, 64, .inl zg))] H := hP
      have hD : va_D A [(om, .inr (6, [.int zt_2, .int zw, .int zh, .ref ozp, .ref ozs, .ref ozb, .int zz, .ref ozl, .ref ozo, .int zc, .int zr, .int zu, .int zv, .int zq, .int zi, .ref ozk, .ref ozm, .int zd, .ref ozg])), (ozp, .inl (cI, 1600, .inl zp)), (ozs, .inl (cI, 320, .inl zs)), (ozb, .inl (cI, 256, .inl zb)), (ozl, .inl (cI, 64, .inl zl)), (ozo, .inl (cI, 64, .inl zo)), (ozk, .inl (cI, 320, .inl zk)), (ozm, .inl (cI, 40, .inl zm)), (ozg, .inl (cI, 64, .inl zg))] := hD
      refine lv_if_eq (tgt := 57) hx hb dZM_zoom_52 (by decide) (fun c_4 => ?_) (fun c_4 => ?_)
      · have hw := hw.1 c_4
        refine lv_iconst (v := (0 : Int32)) hx hb dZM_zoom_57 (by decide) ?_
        refine lv_istore (lv' := [(7, .int (0 : Int32)), (6, .int t0_j35), (0, .ref om), (1, .int a1), (2, .int a2), (3, .int a3), (4, .int a4), (5, .int a5)]) hx hb dZM_zoom_58 hl (by decide) rfl (fun ls hl => ?_)
        refine lv_iconst (v := (0 : Int32)) hx hb dZM_zoom_60 (by decide) ?_
        refine lv_istore (lv' := [(8, .int (0 : Int32)), (7, .int (0 : Int32)), (6, .int t0_j35), (0, .ref om), (1, .int a1), (2, .int a2), (3, .int a3), (4, .int a4), (5, .int a5)]) hx hb dZM_zoom_61 hl (by decide) rfl (fun ls hl => ?_)
        have lp63 : ∀ K63 : Int32 → Int32 → Prop, (∀ (x7_63 : Int32) (x8_63 : Int32), K63 x7_63 x8_63 → ∀ (H : Heap) (locs : List Loc), va_P (dC, dI) vwCl [(om, .inr (6, [.int zt_2, .int zw, .int zh, .ref ozp, .ref ozs, .ref ozb, .int zz, .ref ozl, .ref ozo, .int zc, .int zr, .int zu, .int zv, .int zq, .int zi, .ref ozk, .ref ozm, .int zd, .ref ozg])), (ozp, .inl (cI, 1600, .inl zp)), (ozs, .inl (cI, 320, .inl zs)), (ozb, .inl (cI, 256, .inl zb)), (ozl, .inl (cI, 64, .inl zl)), (ozo, .inl (cI, 64, .inl zo)), (ozk, .inl (cI, 320, .inl zk)), (ozm, .inl (cI, 40, .inl zm)), (ozg, .inl (cI, 64, .inl zg))] H → va_D A [(om, .inr (6, [.int zt_2, .int zw, .int zh, .ref ozp, .ref ozs, .ref ozb, .int zz, .ref ozl, .ref ozo, .int zc, .int zr, .int zu, .int zv, .int zq, .int zi, .ref ozk, .ref ozm, .int zd, .ref ozg])), (ozp, .inl (cI, 1600, .inl zp)), (ozs, .inl (cI, 320, .inl zs)), (ozb, .inl (cI, 256, .inl zb)), (ozl, .inl (cI, 64, .inl zl)), (ozo, .inl (cI, 64, .inl zo)), (ozk, .inl (cI, 320, .inl zk)), (ozm, .inl (cI, 40, .inl zm)), (ozg, .inl (cI, 64, .inl zg))] → va_S A s.heap H locs → ∀ ls : Array Slot, lv_has ls 9 [(8, .int x8_63), (7, .int x7_63), (6, .int t0_j35), (0, .ref om), (1, .int a1), (2, .int a2), (3, .int a3), (4, .int a4), (5, .int a5)] → W p l e (headSpec wsZM_zoom rm_ZM_zoom).room s m args below meth c H locs 0 0 Q9 (F0 m 103 ls [])) → ∀ (n : Nat) (x7_63 : Int32) (x8_63 : Int32), lp_ZM_zoom_63 zt zw zh zp zs zb zz zl zo zc zr zu zv zq zi zk zm zd zg a1 a2 a3 a4 a5 r_1 t0_j35 t0_j48 r_3 zt_2 post K63 n x7_63 x8_63 → ∀ (H : Heap) (locs : List Loc), va_P (dC, dI) vwCl [(om, .inr (6, [.int zt_2, .int zw, .int zh, .ref ozp, .ref ozs, .ref ozb, .int zz, .ref ozl, .ref ozo, .int zc, .int zr, .int zu, .int zv, .int zq, .int zi, .ref ozk, .ref ozm, .int zd, .ref ozg])), (ozp, .inl (cI, 1600, .inl zp)), (ozs, .inl (cI, 320, .inl zs)), (ozb, .inl (cI, 256, .inl zb)), (ozl, .inl (cI, 64, .inl zl)), (ozo, .inl (cI, 64, .inl zo)), (ozk, .inl (cI, 320, .inl zk)), (ozm, .inl (cI, 40, .inl zm)), (ozg, .inl (cI, 64, .inl zg))] H → va_D A [(om, .inr (6, [.int zt_2, .int zw, .int zh, .ref ozp, .ref ozs, .ref ozb, .int zz, .ref ozl, .ref ozo, .int zc, .int zr, .int zu, .int zv, .int zq, .int zi, .ref ozk, .ref ozm, .int zd, .ref ozg])), (ozp, .inl (cI, 1600, .inl zp)), (ozs, .inl (cI, 320, .inl zs)), (ozb, .inl (cI, 256, .inl zb)), (ozl, .inl (cI, 64, .inl zl)), (ozo, .inl (cI, 64, .inl zo)), (ozk, .inl (cI, 320, .inl zk)), (ozm, .inl (cI, 40, .inl zm)), (ozg, .inl (cI, 64, .inl zg))] → va_S A s.heap H locs → ∀ ls : Array Slot, lv_has ls 9 [(8, .int x8_63), (7, .int x7_63), (6, .int t0_j35), (0, .ref om), (1, .int a1), (2, .int a2), (3, .int a3), (4, .int a4), (5, .int a5)] → W p l e (headSpec wsZM_zoom rm_ZM_zoom).room s m args below meth c H locs 0 0 Q9 (F0 m 63 ls []) := by
          intro K63 aft63 n
          induction n with
          | zero => intro x7_63 x8_63 hw; exact False.elim hw
          | succ n ih63 =>
            intro x7_63 x8_63 hw H locs hP hD hS ls hl
            refine lv_iload hx hb dZM_zoom_63 (lv_at hl 0 rfl) ?_
            refine lv_iload hx hb dZM_zoom_65 (lv_at hl 7 rfl) ?_
            refine lv_iload hx hb dZM_zoom_67 (lv_at hl 8 rfl) ?_
            refine lv_imul hx hb dZM_zoom_69 ?_
            refine lv_icmp_ge (tgt := 103) hx hb dZM_zoom_70 (by decide) (fun c_5 => ?_) (fun c_5 => ?_)
            · have hw := hw.1 c_5
              exact aft63 x7_63 x8_63 hw _ _ (hP.sub [0, 1, 2, 3, 4, 5, 6, 7, 8] rfl) (hD.sub [0, 1, 2, 3, 4, 5, 6, 7, 8] (by decide) rfl) hS ls (lv_sub hl [0, 1, 2, 3, 4, 5, 6, 7, 8] rfl)
            · have hw := hw.2 c_5
              refine lv_iload hx hb dZM_zoom_73 (lv_at hl 1 rfl) ?_
              refine lv_aload_n hx hb dZM_zoom_75 rfl (lv_at hl 3 rfl) ?_
              refine lv_iload_n hx hb dZM_zoom_76 rfl (lv_at hl 4 rfl) ?_
              refine lv_iload_n hx hb dZM_zoom_77 rfl (lv_at hl 5 rfl) ?_
              refine lv_iload hx hb dZM_zoom_78 (lv_at hl 0 rfl) ?_
              refine lv_iload hx hb dZM_zoom_80 (lv_at hl 7 rfl) ?_
              obtain ⟨h_6, hw⟩ := hw
              refine lv_irem hx hb dZM_zoom_82 h_6 ?_
              refine lv_iadd hx hb dZM_zoom_83 ?_
              refine lv_iload_n hx hb dZM_zoom_84 rfl (lv_at hl 6 rfl) ?_
              refine lv_iload hx hb dZM_zoom_85 (lv_at hl 0 rfl) ?_
              refine lv_iload hx hb dZM_zoom_87 (lv_at hl 7 rfl) ?_
              obtain ⟨h_7, hw⟩ := hw
              refine lv_idiv hx hb dZM_zoom_89 h_7 ?_
              refine lv_iadd hx hb dZM_zoom_90 ?_
              refine vp_callSi (va_runV (As := [.int a1, .int (a2 + (x8_63 - x8_63 / a4 * a4)), .int (a3 + (x8_63 / a4))]) (rest := [.int x7_63]) ⟨hx, hb, hml, hown, hts⟩ (kt_ZM_sample l dC dI cI om ozp ozs ozb ozl ozo ozk ozm ozg zt_2 zw zh zp zs zb zz zl zo zc zr zu zv zq zi zk zm zd zg a1 (a2 + (x8_63 - x8_63 / a4 * a4)) (a3 + (x8_63 / a4)) _ hw) (cwV 3 hts (tb_V mm_739 mm_741 mp_11 mm_8 mm_742) rfl rfl rfl (by decide +kernel) ⟨Nat.le_of_ble_eq_true rfl, Nat.le_of_ble_eq_true rfl⟩) ⟨gr_blind, va_recv hK hP (ci := 6) (q0 := 0) rfl rfl, fun U hU hW => gr_pre hP hK hE hU hW⟩ rfl rfl hl.1 rfl (lv_room (Nat.le_of_ble_eq_true rfl)) dZM_zoom_91 ⟨Nat.le_of_ble_eq_true rfl, Nat.le_of_ble_eq_true rfl⟩).run (fun r_8 hw => ?_)
              refine lv_iadd hx hb dZM_zoom_94 ?_
              refine lv_istore (lv' := [(7, .int (x7_63 + r_8)), (8, .int x8_63), (6, .int t0_j35), (0, .ref om), (1, .int a1), (2, .int a2), (3, .int a3), (4, .int a4), (5, .int a5)]) hx hb dZM_zoom_95 hl (by decide) rfl (fun ls hl => ?_)
              refine lv_iinc (v := x8_63 + (1 : Int32)) (lv' := [(8, .int (x8_63 + (1 : Int32))), (7, .int (x7_63 + r_8)), (6, .int t0_j35), (0, .ref om), (1, .int a1), (2, .int a2), (3, .int a3), (4, .int a4), (5, .int a5)]) hx hb dZM_zoom_97 hl (k := 1) rfl rfl (by decide) rfl (fun ls hl => ?_)
              refine lv_goto (tgt := 63) hx hb dZM_zoom_100 (by decide) ?_
              exact ih63 (x7_63 + r_8) (x8_63 + (1 : Int32)) hw _ _ (hP.sub [0, 1, 2, 3, 4, 5, 6, 7, 8] rfl) (hD.sub [0, 1, 2, 3, 4, 5, 6, 7, 8] (by decide) rfl) hS ls (lv_sub hl [0, 1, 2, 3, 4, 5, 6, 7, 8] rfl)
        obtain ⟨n63, hw⟩ := hw
        refine lp63 _ (fun x7_63e x8_63e hw H locs hP hD hS ls hl => ?_) n63 (0 : Int32) (0 : Int32) hw _ _ (hP.sub [0, 1, 2, 3, 4, 5, 6, 7, 8] rfl) (hD.sub [0, 1, 2, 3, 4, 5, 6, 7, 8] (by decide) rfl) hS ls (lv_sub hl [0, 1, 2, 3, 4, 5, 6, 7, 8] rfl)
        refine lv_iload hx hb dZM_zoom_103 (lv_at hl 1 rfl) ?_
        have hP9 := hP.sub (ws' := [(om, .inr (6, [.int zt_2, .int zw, .int zh, .ref ozp, .ref ozs, .ref ozb, .int zz, .ref ozl, .ref ozo, .int zc, .int zr, .int zu, .int zv, .int zq, .int zi, .ref ozk, .ref ozm, .int zd, .ref ozg])), (ozp, .inl (cI, 1600, .inl zp)), (ozs, .inl (cI, 320, .inl zs)), (ozb, .inl (cI, 256, .inl zb)), (ozl, .inl (cI, 64, .inl zl)), (ozo, .inl (cI, 64, .inl zo)), (ozk, .inl (cI, 320, .inl zk)), (ozm, .inl (cI, 40, .inl zm)), (ozg, .inl (cI, 64, .inl zg))]) [0, 1, 2, 3, 4, 5, 6, 7, 8] rfl
        have hD9 := hD.sub (ws' := [(om, .inr (6, [.int zt_2, .int zw, .int zh, .ref ozp, .ref ozs, .ref ozb, .int zz, .ref ozl, .ref ozo, .int zc, .int zr, .int zu, .int zv, .int zq, .int zi, .ref ozk, .ref ozm, .int zd, .ref ozg])), (ozp, .inl (cI, 1600, .inl zp)), (ozs, .inl (cI, 320, .inl zs)), (ozb, .inl (cI, 256, .inl zb)), (ozl, .inl (cI, 64, .inl zl)), (ozo, .inl (cI, 64, .inl zo)), (ozk, .inl (cI, 320, .inl zk)), (ozm, .inl (cI, 40, .inl zm)), (ozg, .inl (cI, 64, .inl zg))]) [0, 1, 2, 3, 4, 5, 6, 7, 8] (by decide) rfl
        subst hQ9
        exact W.iret (v := x7_63e) hx hb hr (fun t ht hW => ⟨⟨x7_63e, zt_2, rfl, hw, by rw [ht]; exact hP9, va_K.moved hW.alike hK, hD9⟩, hS.F ht⟩) hS.2.2 dZM_zoom_105
      · have hw := hw.2 c_4
        refine lv_iconst (v := (0 : Int32)) hx hb dZM_zoom_55 (by decide) ?_
        have hP9 := hP.sub (ws' := [(om, .inr (6, [.int zt_2, .int zw, .int zh, .ref ozp, .ref ozs, .ref ozb, .int zz, .ref ozl, .ref ozo, .int zc, .int zr, .int zu, .int zv, .int zq, .int zi, .ref ozk, .ref ozm, .int zd, .ref ozg])), (ozp, .inl (cI, 1600, .inl zp)), (ozs, .inl (cI, 320, .inl zs)), (ozb, .inl (cI, 256, .inl zb)), (ozl, .inl (cI, 64, .inl zl)), (ozo, .inl (cI, 64, .inl zo)), (ozk, .inl (cI, 320, .inl zk)), (ozm, .inl (cI, 40, .inl zm)), (ozg, .inl (cI, 64, .inl zg))]) [0, 1, 2, 3, 4, 5, 6, 7, 8] rfl
        have hD9 := hD.sub (ws' := [(om, .inr (6, [.int zt_2, .int zw, .int zh, .ref ozp, .ref ozs, .ref ozb, .int zz, .ref ozl, .ref ozo, .int zc, .int zr, .int zu, .int zv, .int zq, .int zi, .ref ozk, .ref ozm, .int zd, .ref ozg])), (ozp, .inl (cI, 1600, .inl zp)), (ozs, .inl (cI, 320, .inl zs)), (ozb, .inl (cI, 256, .inl zb)), (ozl, .inl (cI, 64, .inl zl)), (ozo, .inl (cI, 64, .inl zo)), (ozk, .inl (cI, 320, .inl zk)), (ozm, .inl (cI, 40, .inl zm)), (ozg, .inl (cI, 64, .inl zg))]) [0, 1, 2, 3, 4, 5, 6, 7, 8] (by decide) rfl
        subst hQ9
        exact W.iret (v := (0 : Int32)) hx hb hr (fun t ht hW => ⟨⟨(0 : Int32), zt_2, rfl, hw, by rw [ht]; exact hP9, va_K.moved hW.alike hK, hD9⟩, hS.F ht⟩) hS.2.2 dZM_zoom_56
    refine lv_if_ne (tgt := 47) hx hb dZM_zoom_40 (by decide) (fun c_9 => ?_) (fun c_9 => ?_)
    · have hw := hw.2 c_9
      refine lv_iconst (v := (0 : Int32)) hx hb dZM_zoom_47 (by decide) ?_
      exact j48 (0 : Int32) hw _ _ (hP.sub [0, 1, 2, 3, 4, 5, 6, 7, 8] rfl) (hD.sub [0, 1, 2, 3, 4, 5, 6, 7, 8] (by decide) rfl) hS ls (lv_sub hl [0, 1, 2, 3, 4, 5, 6] rfl)
    · have hw := hw.1 c_9
      refine lv_iconst (v := (1 : Int32)) hx hb dZM_zoom_43 (by decide) ?_
      refine lv_goto (tgt := 48) hx hb dZM_zoom_44 (by decide) ?_
      exact j48 (1 : Int32) hw _ _ (hP.sub [0, 1, 2, 3, 4, 5, 6, 7, 8] rfl) (hD.sub [0, 1, 2, 3, 4, 5, 6, 7, 8] (by decide) rfl) hS ls (lv_sub hl [0, 1, 2, 3, 4, 5, 6] rfl)
  refine lv_if_eq (tgt := 34) hx hb dZM_zoom_5 (by decide) (fun c_10 => ?_) (fun c_10 => ?_)
  · have hw := hw.1 c_10
    refine lv_iconst (v := (0 : Int32)) hx hb dZM_zoom_34 (by decide) ?_
    exact j35 (0 : Int32) hw _ _ (hP.sub [0, 1, 2, 3, 4, 5, 6, 7, 8] rfl) (hD.sub [0, 1, 2, 3, 4, 5, 6, 7, 8] (by decide) rfl) hS ls (lv_sub hl [0, 1, 2, 3, 4, 5] rfl)
  · have hw := hw.2 c_10
    refine lv_iload_n hx hb dZM_zoom_8 rfl (lv_at hl 2 rfl) ?_
    refine lv_iload_n hx hb dZM_zoom_9 rfl (lv_at hl 3 rfl) ?_
    refine lv_iload hx hb dZM_zoom_10 (lv_at hl 4 rfl) ?_
    refine lv_iload hx hb dZM_zoom_12 (lv_at hl 5 rfl) ?_
    refine lv_aload_n hx hb dZM_zoom_14 rfl (lv_at hl 0 rfl) ?_
    refine lv_iload_n hx hb dZM_zoom_15 rfl (lv_at hl 1 rfl) ?_
    refine vp_callSi (va_runV (As := [.int a1]) (rest := [.int a5, .int a4, .int a3, .int a2]) ⟨hx, hb, hml, hown, hts⟩ (kt_ZM_across l dC dI cI om ozp ozs ozb ozl ozo ozk ozm ozg zt zw zh zp zs zb zz zl zo zc zr zu zv zq zi zk zm zd zg a1 _ hw) (cwV 1 hts (tb_V mm_723 mm_725 mp_8 mm_8 mm_726) rfl rfl rfl (by decide +kernel) ⟨Nat.le_of_ble_eq_true rfl, Nat.le_of_ble_eq_true rfl⟩) ⟨gr_blind, va_recv hK hP (ci := 6) (q0 := 0) rfl rfl, fun U hU hW => gr_pre hP hK hE hU hW⟩ rfl rfl hl.1 rfl (lv_room (Nat.le_of_ble_eq_true rfl)) dZM_zoom_16 ⟨Nat.le_of_ble_eq_true rfl, Nat.le_of_ble_eq_true rfl⟩).run (fun r_11 hw => ?_)
    refine lv_aload_n hx hb dZM_zoom_19 rfl (lv_at hl 0 rfl) ?_
    refine lv_iload_n hx hb dZM_zoom_20 rfl (lv_at hl 1 rfl) ?_
    refine vp_callSi (va_runV (As := [.int a1]) (rest := [.int r_11, .int a5, .int a4, .int a3, .int a2]) ⟨hx, hb, hml, hown, hts⟩ (kt_ZM_down l dC dI cI om ozp ozs ozb ozl ozo ozk ozm ozg zt zw zh zp zs zb zz zl zo zc zr zu zv zq zi zk zm zd zg a1 _ hw) (cwV 1 hts (tb_V mm_727 mm_729 mp_9 mm_8 mm_730) rfl rfl rfl (by decide +kernel) ⟨Nat.le_of_ble_eq_true rfl, Nat.le_of_ble_eq_true rfl⟩) ⟨gr_blind, va_recv hK hP (ci := 6) (q0 := 0) rfl rfl, fun U hU hW => gr_pre hP hK hE hU hW⟩ rfl rfl hl.1 rfl (lv_room (Nat.le_of_ble_eq_true rfl)) dZM_zoom_21 ⟨Nat.le_of_ble_eq_true rfl, Nat.le_of_ble_eq_true rfl⟩).run (fun r_12 hw => ?_)
    have hPc := hP.sub (ws' := []) [] rfl
    refine vp_callSi (va_runS (As := [.int a2, .int a3, .int a4, .int a5, .int r_11, .int r_12]) (rest := []) ⟨hx, hb, hml, hown, hts⟩ (kt_ZM_isPart l dC dI cI  a2 a3 a4 a5 r_11 r_12 _ hw) (va_cwS 6 hts (tb_S mm_701 mm_702 mm_8 mm_703) rfl rfl rfl (by decide +kernel) ⟨Nat.le_of_ble_eq_true rfl, Nat.le_of_ble_eq_true rfl⟩) ⟨gr_blind, fun U hU hW => gr_pre hPc hK hE hU hW⟩ rfl rfl hl.1 rfl (lv_room (Nat.le_of_ble_eq_true rfl)) dZM_zoom_24 ⟨Nat.le_of_ble_eq_true rfl, Nat.le_of_ble_eq_true rfl⟩).run (fun r_13 hw => ?_)
    refine lv_if_eq (tgt := 34) hx hb dZM_zoom_27 (by decide) (fun c_14 => ?_) (fun c_14 => ?_)
    · have hw := hw.1 c_14
      refine lv_iconst (v := (0 : Int32)) hx hb dZM_zoom_34 (by decide) ?_
      exact j35 (0 : Int32) hw _ _ (hP.sub [0, 1, 2, 3, 4, 5, 6, 7, 8] rfl) (hD.sub [0, 1, 2, 3, 4, 5, 6, 7, 8] (by decide) rfl) hS ls (lv_sub hl [0, 1, 2, 3, 4, 5] rfl)
    · have hw := hw.2 c_14
      refine lv_iconst (v := (1 : Int32)) hx hb dZM_zoom_30 (by decide) ?_
      refine lv_goto (tgt := 35) hx hb dZM_zoom_31 (by decide) ?_
      exact j35 (1 : Int32) hw _ _ (hP.sub [0, 1, 2, 3, 4, 5, 6, 7, 8] rfl) (hD.sub [0, 1, 2, 3, 4, 5, 6, 7, 8] (by decide) rfl) hS ls (lv_sub hl [0, 1, 2, 3, 4, 5] rfl)
theorem dZM_turned_0 : decode cZM_turned 0 = .ok (.iload_n 3, 1) := by decide +kernel
theorem dZM_turned_1 : decode cZM_turned 1 = .ok (.iconst 3, 1) := by decide +kernel
theorem dZM_turned_2 : decode cZM_turned 2 = .ok (.iand, 1) := by decide +kernel
theorem dZM_turned_3 : decode cZM_turned 3 = .ok (.istore 4, 2) := by decide +kernel
theorem dZM_turned_5 : decode cZM_turned 5 = .ok (.iload 4, 2) := by decide +kernel
theorem dZM_turned_7 : decode cZM_turned 7 = .ok (.iconst 2, 1) := by decide +kernel
theorem dZM_turned_8 : decode cZM_turned 8 = .ok (.irem, 1) := by decide +kernel
theorem dZM_turned_9 : decode cZM_turned 9 = .ok (.iconst 1, 1) := by decide +kernel
theorem dZM_turned_10 : decode cZM_turned 10 = .ok (.if_icmp .ne 7, 3) := by decide +kernel
theorem dZM_turned_13 : decode cZM_turned 13 = .ok (.iconst 1, 1) := by decide +kernel
theorem dZM_turned_14 : decode cZM_turned 14 = .ok (.goto 4, 3) := by decide +kernel
theorem dZM_turned_17 : decode cZM_turned 17 = .ok (.iconst 0, 1) := by decide +kernel
theorem dZM_turned_18 : decode cZM_turned 18 = .ok (.istore 5, 2) := by decide +kernel
theorem dZM_turned_20 : decode cZM_turned 20 = .ok (.aload_n 0, 1) := by decide +kernel
theorem dZM_turned_21 : decode cZM_turned 21 = .ok (.iload_n 1, 1) := by decide +kernel
theorem dZM_turned_22 : decode cZM_turned 22 = .ok (.iconst 0, 1) := by decide +kernel
theorem dZM_turned_23 : decode cZM_turned 23 = .ok (.iload 5, 2) := by decide +kernel
theorem dZM_turned_25 : decode cZM_turned 25 = .ok (.ifCond .eq 10, 3) := by decide +kernel
theorem dZM_turned_28 : decode cZM_turned 28 = .ok (.aload_n 0, 1) := by decide +kernel
theorem dZM_turned_29 : decode cZM_turned 29 = .ok (.getfield 42, 3) := by decide +kernel
theorem dZM_turned_32 : decode cZM_turned 32 = .ok (.goto 7, 3) := by decide +kernel
theorem dZM_turned_35 : decode cZM_turned 35 = .ok (.aload_n 0, 1) := by decide +kernel
theorem dZM_turned_36 : decode cZM_turned 36 = .ok (.getfield 38, 3) := by decide +kernel
theorem dZM_turned_39 : decode cZM_turned 39 = .ok (.iconst 1, 1) := by decide +kernel
theorem dZM_turned_40 : decode cZM_turned 40 = .ok (.isub, 1) := by decide +kernel
theorem dZM_turned_41 : decode cZM_turned 41 = .ok (.invokestatic 48, 3) := by decide +kernel
theorem dZM_turned_44 : decode cZM_turned 44 = .ok (.ifCond .eq 29, 3) := by decide +kernel
theorem dZM_turned_47 : decode cZM_turned 47 = .ok (.iload_n 2, 1) := by decide +kernel
theorem dZM_turned_48 : decode cZM_turned 48 = .ok (.iconst 0, 1) := by decide +kernel
theorem dZM_turned_49 : decode cZM_turned 49 = .ok (.iload 5, 2) := by decide +kernel
theorem dZM_turned_51 : decode cZM_turned 51 = .ok (.ifCond .eq 10, 3) := by decide +kernel
theorem dZM_turned_54 : decode cZM_turned 54 = .ok (.aload_n 0, 1) := by decide +kernel
theorem dZM_turned_55 : decode cZM_turned 55 = .ok (.getfield 38, 3) := by decide +kernel
theorem dZM_turned_58 : decode cZM_turned 58 = .ok (.goto 7, 3) := by decide +kernel
theorem dZM_turned_61 : decode cZM_turned 61 = .ok (.aload_n 0, 1) := by decide +kernel
theorem dZM_turned_62 : decode cZM_turned 62 = .ok (.getfield 42, 3) := by decide +kernel
theorem dZM_turned_65 : decode cZM_turned 65 = .ok (.iconst 1, 1) := by decide +kernel
theorem dZM_turned_66 : decode cZM_turned 66 = .ok (.isub, 1) := by decide +kernel
theorem dZM_turned_67 : decode cZM_turned 67 = .ok (.invokestatic 48, 3) := by decide +kernel
theorem dZM_turned_70 : decode cZM_turned 70 = .ok (.ifCond .ne 7, 3) := by decide +kernel
theorem dZM_turned_73 : decode cZM_turned 73 = .ok (.iconst 1, 1) := by decide +kernel
theorem dZM_turned_74 : decode cZM_turned 74 = .ok (.goto 4, 3) := by decide +kernel
theorem dZM_turned_77 : decode cZM_turned 77 = .ok (.iconst 0, 1) := by decide +kernel
theorem dZM_turned_78 : decode cZM_turned 78 = .ok (.iconst 0, 1) := by decide +kernel
theorem dZM_turned_79 : decode cZM_turned 79 = .ok (.invokevirtual 60, 3) := by decide +kernel
theorem dZM_turned_82 : decode cZM_turned 82 = .ok (.ifCond .eq 5, 3) := by decide +kernel
theorem dZM_turned_85 : decode cZM_turned 85 = .ok (.iconst 0, 1) := by decide +kernel
theorem dZM_turned_86 : decode cZM_turned 86 = .ok (.ireturn, 1) := by decide +kernel
theorem dZM_turned_87 : decode cZM_turned 87 = .ok (.iload 4, 2) := by decide +kernel
theorem dZM_turned_89 : decode cZM_turned 89 = .ok (.ifCond .ne 7, 3) := by decide +kernel
theorem dZM_turned_92 : decode cZM_turned 92 = .ok (.iload_n 1, 1) := by decide +kernel
theorem dZM_turned_93 : decode cZM_turned 93 = .ok (.goto 38, 3) := by decide +kernel
theorem dZM_turned_96 : decode cZM_turned 96 = .ok (.iload 4, 2) := by decide +kernel
theorem dZM_turned_98 : decode cZM_turned 98 = .ok (.iconst 1, 1) := by decide +kernel
theorem dZM_turned_99 : decode cZM_turned 99 = .ok (.if_icmp .ne 7, 3) := by decide +kernel
theorem dZM_turned_102 : decode cZM_turned 102 = .ok (.iload_n 2, 1) := by decide +kernel
theorem dZM_turned_103 : decode cZM_turned 103 = .ok (.goto 28, 3) := by decide +kernel
theorem dZM_turned_106 : decode cZM_turned 106 = .ok (.iload 4, 2) := by decide +kernel
theorem dZM_turned_108 : decode cZM_turned 108 = .ok (.iconst 2, 1) := by decide +kernel
theorem dZM_turned_109 : decode cZM_turned 109 = .ok (.if_icmp .ne 14, 3) := by decide +kernel
theorem dZM_turned_112 : decode cZM_turned 112 = .ok (.aload_n 0, 1) := by decide +kernel
theorem dZM_turned_113 : decode cZM_turned 113 = .ok (.getfield 38, 3) := by decide +kernel
theorem dZM_turned_116 : decode cZM_turned 116 = .ok (.iconst 1, 1) := by decide +kernel
theorem dZM_turned_117 : decode cZM_turned 117 = .ok (.isub, 1) := by decide +kernel
theorem dZM_turned_118 : decode cZM_turned 118 = .ok (.iload_n 1, 1) := by decide +kernel
theorem dZM_turned_119 : decode cZM_turned 119 = .ok (.isub, 1) := by decide +kernel
theorem dZM_turned_120 : decode cZM_turned 120 = .ok (.goto 11, 3) := by decide +kernel
theorem dZM_turned_123 : decode cZM_turned 123 = .ok (.aload_n 0, 1) := by decide +kernel
theorem dZM_turned_124 : decode cZM_turned 124 = .ok (.getfield 38, 3) := by decide +kernel
theorem dZM_turned_127 : decode cZM_turned 127 = .ok (.iconst 1, 1) := by decide +kernel
theorem dZM_turned_128 : decode cZM_turned 128 = .ok (.isub, 1) := by decide +kernel
theorem dZM_turned_129 : decode cZM_turned 129 = .ok (.iload_n 2, 1) := by decide +kernel
theorem dZM_turned_130 : decode cZM_turned 130 = .ok (.isub, 1) := by decide +kernel
theorem dZM_turned_131 : decode cZM_turned 131 = .ok (.istore 6, 2) := by decide +kernel
theorem dZM_turned_133 : decode cZM_turned 133 = .ok (.iload 4, 2) := by decide +kernel
theorem dZM_turned_135 : decode cZM_turned 135 = .ok (.ifCond .ne 7, 3) := by decide +kernel
theorem dZM_turned_138 : decode cZM_turned 138 = .ok (.iload_n 2, 1) := by decide +kernel
theorem dZM_turned_139 : decode cZM_turned 139 = .ok (.goto 38, 3) := by decide +kernel
theorem dZM_turned_142 : decode cZM_turned 142 = .ok (.iload 4, 2) := by decide +kernel
theorem dZM_turned_144 : decode cZM_turned 144 = .ok (.iconst 1, 1) := by decide +kernel
theorem dZM_turned_145 : decode cZM_turned 145 = .ok (.if_icmp .ne 14, 3) := by decide +kernel
theorem dZM_turned_148 : decode cZM_turned 148 = .ok (.aload_n 0, 1) := by decide +kernel
theorem dZM_turned_149 : decode cZM_turned 149 = .ok (.getfield 42, 3) := by decide +kernel
theorem dZM_turned_152 : decode cZM_turned 152 = .ok (.iconst 1, 1) := by decide +kernel
theorem dZM_turned_153 : decode cZM_turned 153 = .ok (.isub, 1) := by decide +kernel
theorem dZM_turned_154 : decode cZM_turned 154 = .ok (.iload_n 1, 1) := by decide +kernel
theorem dZM_turned_155 : decode cZM_turned 155 = .ok (.isub, 1) := by decide +kernel
theorem dZM_turned_156 : decode cZM_turned 156 = .ok (.goto 21, 3) := by decide +kernel
theorem dZM_turned_159 : decode cZM_turned 159 = .ok (.iload 4, 2) := by decide +kernel
theorem dZM_turned_161 : decode cZM_turned 161 = .ok (.iconst 2, 1) := by decide +kernel
theorem dZM_turned_162 : decode cZM_turned 162 = .ok (.if_icmp .ne 14, 3) := by decide +kernel
theorem dZM_turned_165 : decode cZM_turned 165 = .ok (.aload_n 0, 1) := by decide +kernel
theorem dZM_turned_166 : decode cZM_turned 166 = .ok (.getfield 42, 3) := by decide +kernel
theorem dZM_turned_169 : decode cZM_turned 169 = .ok (.iconst 1, 1) := by decide +kernel
theorem dZM_turned_170 : decode cZM_turned 170 = .ok (.isub, 1) := by decide +kernel
theorem dZM_turned_171 : decode cZM_turned 171 = .ok (.iload_n 2, 1) := by decide +kernel
theorem dZM_turned_172 : decode cZM_turned 172 = .ok (.isub, 1) := by decide +kernel
theorem dZM_turned_173 : decode cZM_turned 173 = .ok (.goto 4, 3) := by decide +kernel
theorem dZM_turned_176 : decode cZM_turned 176 = .ok (.iload_n 1, 1) := by decide +kernel
theorem dZM_turned_177 : decode cZM_turned 177 = .ok (.istore 7, 2) := by decide +kernel
theorem dZM_turned_179 : decode cZM_turned 179 = .ok (.aload_n 0, 1) := by decide +kernel
theorem dZM_turned_180 : decode cZM_turned 180 = .ok (.getfield 7, 3) := by decide +kernel
theorem dZM_turned_183 : decode cZM_turned 183 = .ok (.bipush 40, 2) := by decide +kernel
theorem dZM_turned_185 : decode cZM_turned 185 = .ok (.iload 7, 2) := by decide +kernel
theorem dZM_turned_187 : decode cZM_turned 187 = .ok (.imul, 1) := by decide +kernel
theorem dZM_turned_188 : decode cZM_turned 188 = .ok (.iload 6, 2) := by decide +kernel
theorem dZM_turned_190 : decode cZM_turned 190 = .ok (.iadd, 1) := by decide +kernel
theorem dZM_turned_191 : decode cZM_turned 191 = .ok (.iaload, 1) := by decide +kernel
theorem dZM_turned_192 : decode cZM_turned 192 = .ok (.ireturn, 1) := by decide +kernel
abbrev wsZM_turned : List Cond := .code yZM_turned cZM_turned 8 (some .int) :: tbg
def wp_ZM_turned (zt : Int32) (zw : Int32) (zh : Int32) (zp : Nat → Int32) (zs : Nat → Int32) (zb : Nat → Int32) (zz : Int32) (zl : Nat → Int32) (zo : Nat → Int32) (zc : Int32) (zr : Int32) (zu : Int32) (zv : Int32) (zq : Int32) (zi : Int32) (zk : Nat → Int32) (zm : Nat → Int32) (zd : Int32) (zg : Nat → Int32) (a1 : Int32) (a2 : Int32) (a3 : Int32) (post : Int32 → Int32 → Prop) : Prop := ∃ J18 : Int32 → Prop, (∀ (t0_j18 : Int32), J18 t0_j18 → ∃ J39 : Int32 → Prop, (∀ (t0_j39 : Int32), J39 t0_j39 → wp_ZM_in a1 (0 : Int32) (t0_j39 - (1 : Int32)) (fun r_1 : Int32 => ∃ J78 : Int32 → Prop, (∀ (t0_j78 : Int32), J78 t0_j78 → wp_ZM_throwing zt zw zh zp zs zb zz zl zo zc zr zu zv zq zi zk zm zd zg t0_j78 (0 : Int32) (fun (r_3 : Int32) (zt_2 : Int32) => ((r_3 = (0 : Int32) → (∃ J131 : Int32 → Prop, (∀ (t0_j131 : Int32), J131 t0_j131 → ∃ J177 : Int32 → Prop, (∀ (t0_j177 : Int32), J177 t0_j177 → vp_in (((40 : Int32) * t0_j177) + t0_j131) 1600 ∧ (post (zp (((40 : Int32) * t0_j177) + t0_j131).toNatClampNeg) zt_2)) ∧ ((((a3 &&& (3 : Int32)) = (0 : Int32) → (J177 a2)) ∧ (¬ (a3 &&& (3 : Int32)) = (0 : Int32) → (((a3 &&& (3 : Int32)) = (1 : Int32) → (J177 ((zh - (1 : Int32)) - a1))) ∧ (¬ (a3 &&& (3 : Int32)) = (1 : Int32) → (((a3 &&& (3 : Int32)) = (2 : Int32) → (J177 ((zh - (1 : Int32)) - a2))) ∧ (¬ (a3 &&& (3 : Int32)) = (2 : Int32) → (J177 a1))))))))) ∧ ((((a3 &&& (3 : Int32)) = (0 : Int32) → (J131 a1)) ∧ (¬ (a3 &&& (3 : Int32)) = (0 : Int32) → (((a3 &&& (3 : Int32)) = (1 : Int32) → (J131 a2)) ∧ (¬ (a3 &&& (3 : Int32)) = (1 : Int32) → (((a3 &&& (3 : Int32)) = (2 : Int32) → (J131 ((zw - (1 : Int32)) - a1))) ∧ (¬ (a3 &&& (3 : Int32)) = (2 : Int32) → (J131 ((zw - (1 : Int32)) - a2))))))))))) ∧ (¬ r_3 = (0 : Int32) → (post (0 : Int32) zt_2))))) ∧ (((r_1 = (0 : Int32) → (J78 (1 : Int32))) ∧ (¬ r_1 = (0 : Int32) → (∃ J65 : Int32 → Prop, (∀ (t0_j65 : Int32), J65 t0_j65 → wp_ZM_in a2 (0 : Int32) (t0_j65 - (1 : Int32)) (fun r_13 : Int32 => ((r_13 = (0 : Int32) → (J78 (1 : Int32))) ∧ (¬ r_13 = (0 : Int32) → (J78 (0 : Int32)))))) ∧ (((t0_j18 = (0 : Int32) → (J65 zh)) ∧ (¬ t0_j18 = (0 : Int32) → (J65 zw)))))))))) ∧ (((t0_j18 = (0 : Int32) → (J39 zw)) ∧ (¬ t0_j18 = (0 : Int32) → (J39 zh))))) ∧ (((((a3 &&& (3 : Int32)) - (a3 &&& (3 : Int32)) / (2 : Int32) * (2 : Int32)) = (1 : Int32) → (J18 (1 : Int32))) ∧ (¬ ((a3 &&& (3 : Int32)) - (a3 &&& (3 : Int32)) / (2 : Int32) * (2 : Int32)) = (1 : Int32) → (J18 (0 : Int32)))))
abbrev rm_ZM_turned : Room := { frames := 1, cells := 0, slots := 0, locals := 22 }
set_option maxHeartbeats 4000000 in
set_option maxRecDepth 100000 in
theorem kt_ZM_turned (l : Launch) (dC : Nat → ClassId) (dI : Nat → Nat → Nat) (cI : ClassId) (om ozp ozs ozb ozl ozo ozk ozm ozg : Nat) (sz : Nat) (zt : Int32) (zw : Int32) (zh : Int32) (zp : Nat → Int32) (zs : Nat → Int32) (zb : Nat → Int32) (zz : Int32) (zl : Nat → Int32) (zo : Nat → Int32) (zc : Int32) (zr : Int32) (zu : Int32) (zv : Int32) (zq : Int32) (zi : Int32) (zk : Nat → Int32) (zm : Nat → Int32) (zd : Int32) (zg : Nat → Int32) (a1 : Int32) (a2 : Int32) (a3 : Int32) (post : Int32 → Int32 → Prop) (hw : wp_ZM_turned zt zw zh zp zs zb zz zl zo zc zr zu zv zq zi zk zm zd zg a1 a2 a3 post) : Met l yZM_turned wsZM_turned rm_ZM_turned (gw_Pc dC dI [(cI, .int)] [.ref om, .int a1, .int a2, .int a3] [(om, .inr (6, [.int zt, .int zw, .int zh, .ref ozp, .ref ozs, .ref ozb, .int zz, .ref ozl, .ref ozo, .int zc, .int zr, .int zu, .int zv, .int zq, .int zi, .ref ozk, .ref ozm, .int zd, .ref ozg])), (ozp, .inl (cI, 1600, .inl zp)), (ozs, .inl (cI, 320, .inl zs)), (ozb, .inl (cI, 256, .inl zb)), (ozl, .inl (cI, 64, .inl zl)), (ozo, .inl (cI, 64, .inl zo)), (ozk, .inl (cI, 320, .inl zk)), (ozm, .inl (cI, 40, .inl zm)), (ozg, .inl (cI, 64, .inl zg))] sz) (va_Qi (fun (r : Int32) (u : Int32) => post r u) (fun u t => gw_B dC dI [(cI, .int)] (va_A [(om, .inr (6, [.int zt, .int zw, .int zh, .ref ozp, .ref ozs, .ref ozb, .int zz, .ref ozl, .ref ozo, .int zc, .int zr, .int zu, .int zv, .int zq, .int zi, .ref ozk, .ref ozm, .int zd, .ref ozg])), (ozp, .inl (cI, 1600, .inl zp)), (ozs, .inl (cI, 320, .inl zs)), (ozb, .inl (cI, 256, .inl zb)), (ozl, .inl (cI, 64, .inl zl)), (ozo, .inl (cI, 64, .inl zo)), (ozk, .inl (cI, 320, .inl zk)), (ozm, .inl (cI, 40, .inl zm)), (ozg, .inl (cI, 64, .inl zg))] sz) [(om, .inr (6, [.int u, .int zw, .int zh, .ref ozp, .ref ozs, .ref ozb, .int zz, .ref ozl, .ref ozo, .int zc, .int zr, .int zu, .int zv, .int zq, .int zi, .ref ozk, .ref ozm, .int zd, .ref ozg])), (ozp, .inl (cI, 1600, .inl zp)), (ozs, .inl (cI, 320, .inl zs)), (ozb, .inl (cI, 256, .inl zb)), (ozl, .inl (cI, 64, .inl zl)), (ozo, .inl (cI, 64, .inl zo)), (ozk, .inl (cI, 320, .inl zk)), (ozm, .inl (cI, 40, .inl zm)), (ozg, .inl (cI, 64, .inl zg))] t) (va_A [(om, .inr (6, [.int zt, .int zw, .int zh, .ref ozp, .ref ozs, .ref ozb, .int zz, .ref ozl, .ref ozo, .int zc, .int zr, .int zu, .int zv, .int zq, .int zi, .ref ozk, .ref ozm, .int zd, .ref ozg])), (ozp, .inl (cI, 1600, .inl zp)), (ozs, .inl (cI, 320, .inl zs)), (ozb, .inl (cI, 256, .inl zb)), (ozl, .inl (cI, 64, .inl zl)), (ozo, .inl (cI, 64, .inl zo)), (ozk, .inl (cI, 320, .inl zk)), (ozm, .inl (cI, 40, .inl zm)), (ozg, .inl (cI, 64, .inl zg))] sz)) 0 0 (va_A [(om, .inr (6, [.int zt, .int zw, .int zh, .ref ozp, .ref ozs, .ref ozb, .int zz, .ref ozl, .ref ozo, .int zc, .int zr, .int zu, .int zv, .int zq, .int zi, .ref ozk, .ref ozm, .int zd, .ref ozg])), (ozp, .inl (cI, 1600, .inl zp)), (ozs, .inl (cI, 320, .inl zs)), (ozb, .inl (cI, 256, .inl zb)), (ozl, .inl (cI, 64, .inl zl)), (ozo, .inl (cI, 64, .inl zo)), (ozk, .inl (cI, 320, .inl zk)), (ozm, .inl (cI, 40, .inl zm)), (ozg, .inl (cI, 64, .inl zg))] sz) := by
  refine Met.ofW (cc := cZM_turned) (maxL := 8) (ret := (some .int)) (by decide) rfl ?_
  intro p e s m args below meth c s₁ B hml hv
  obtain ⟨ha9, hsz, hP, hK, hE, hD0⟩ := hv
  have hx := B.exec
  have hb := B.bytes
  have hr := B.returns
  have hts0 := atoms_spec (ws := wsZM_turned) B.pre
  have hts : ∀ w ∈ tbg, w.before args s = true := fun w h => hts0 w (List.mem_cons_of_mem _ h)
  have hown : s.vm.findClass RZM = some m.cls := findClass_of_methodNamed B.named
  have hlocks := B.notSynchronized
  subst hsz
  have hD := hD0.self (sz := s.heap.size)
  refine gx_Q (fun Q9 hQ9 => ?_)
  generalize hAe : va_A [(om, .inr (6, [.int zt, .int zw, .int zh, .ref ozp, .ref ozs, .ref ozb, .int zz, .ref ozl, .ref ozo, .int zc, .int zr, .int zu, .int zv, .int zq, .int zi, .ref ozk, .ref ozm, .int zd, .ref ozg])), (ozp, .inl (cI, 1600, .inl zp)), (ozs, .inl (cI, 320, .inl zs)), (ozb, .inl (cI, 256, .inl zb)), (ozl, .inl (cI, 64, .inl zl)), (ozo, .inl (cI, 64, .inl zo)), (ozk, .inl (cI, 320, .inl zk)), (ozm, .inl (cI, 40, .inl zm)), (ozg, .inl (cI, 64, .inl zg))] s.heap.size = A at hD hQ9 ⊢
  have hA : ∀ q : Nat, s.heap.size ≤ q → A q := fun q h => by rw [← hAe]; exact Or.inr h
  have hS : va_S A s.heap s.heap [] := va_S.rf
  have hl := lv_entry ([.ref om, .int a1, .int a2, .int a3]) (n := 8) (Nat.le_of_ble_eq_true rfl)
  have he9 : entryFrame m args 8 = F0 m 0 ((lg_sl [.ref om, .int a1, .int a2, .int a3] ++ List.replicate (8 - (lg_sl ([.ref om, .int a1, .int a2, .int a3] : List Value)).length) Slot.unset).toArray) [] := by rw [ha9]; exact lg_entry_eq m [.ref om, .int a1, .int a2, .int a3] 8
  rw [he9]
  generalize (lg_sl ([.ref om, .int a1, .int a2, .int a3] : List Value) ++ List.replicate (8 - (lg_sl ([.ref om, .int a1, .int a2, .int a3] : List Value)).length) Slot.unset).toArray = ls at hl ⊢
  have hl : lv_has ls 8 [(0, .ref om), (1, .int a1), (2, .int a2), (3, .int a3)] := hl
  refine lv_iload_n hx hb dZM_turned_0 rfl (lv_at hl 3 rfl) ?_
  refine lv_iconst (v := (3 : Int32)) hx hb dZM_turned_1 (by decide) ?_
  refine lv_iand hx hb dZM_turned_2 ?_
  refine lv_istore (lv' := [(4, .int (a3 &&& (3 : Int32))), (0, .ref om), (1, .int a1), (2, .int a2), (3, .int a3)]) hx hb dZM_turned_3 hl (by decide) rfl (fun ls hl => ?_)
  refine lv_iload hx hb dZM_turned_5 (lv_at hl 0 rfl) ?_
  refine lv_iconst (v := (2 : Int32)) hx hb dZM_turned_7 (by decide) ?_
  refine lv_irem hx hb dZM_turned_8 (by decide) ?_
  refine lv_iconst (v := (1 : Int32)) hx hb dZM_turned_9 (by decide) ?_
  obtain ⟨J18, hJ18, hw⟩ := hw
  have j18 : ∀ (t0_j18 : Int32), J18 t0_j18 → ∀ (H : Heap) (locs : List Loc), va_P (dC, dI) vwCl [(om, .inr (6, [.int zt, .int zw, .int zh, .ref ozp, .ref ozs, .ref ozb, .int zz, .ref ozl, .ref ozo, .int zc, .int zr, .int zu, .int zv, .int zq, .int zi, .ref ozk, .ref ozm, .int zd, .ref ozg])), (ozp, .inl (cI, 1600, .inl zp)), (ozs, .inl (cI, 320, .inl zs)), (ozb, .inl (cI, 256, .inl zb)), (ozl, .inl (cI, 64, .inl zl)), (ozo, .inl (cI, 64, .inl zo)), (ozk, .inl (cI, 320, .inl zk)), (ozm, .inl (cI, 40, .inl zm)), (ozg, .inl (cI, 64, .inl zg))] H → va_D A [(om, .inr (6, [.int zt, .int zw, .int zh, .ref ozp, .ref ozs, .ref ozb, .int zz, .ref ozl, .ref ozo, .int zc, .int zr, .int zu, .int zv, .int zq, .int zi, .ref ozk, .ref ozm, .int zd, .ref ozg])), (ozp, .inl (cI, 1600, .inl zp)), (ozs, .inl (cI, 320, .inl zs)), (ozb, .inl (cI, 256, .inl zb)), (ozl, .inl (cI, 64, .inl zl)), (ozo, .inl (cI, 64, .inl zo)), (ozk, .inl (cI, 320, .inl zk)), (ozm, .inl (cI, 40, .inl zm)), (ozg, .inl (cI, 64, .inl zg))] → va_S A s.heap H locs → ∀ ls : Array Slot, lv_has ls 8 [(4, .int (a3 &&& (3 : Int32))), (0, .ref om), (1, .int a1), (2, .int a2), (3, .int a3)] → W p l e (headSpec wsZM_turned rm_ZM_turned).room s m args below meth c H locs 0 0 Q9 (F0 m 18 ls [.int t0_j18]) := by
    intro t0_j18 hw H locs hP hD hS ls hl
    have hw := hJ18 t0_j18 hw
    refine lv_istore (lv' := [(5, .int t0_j18), (4, .int (a3 &&& (3 : Int32))), (0, .ref om), (1, .int a1), (2, .int a2), (3, .int a3)]) hx hb dZM_turned_18 hl (by decide) rfl (fun ls hl => ?_)
    refine lv_aload_n hx hb dZM_turned_20 rfl (lv_at hl 2 rfl) ?_
    refine lv_iload_n hx hb dZM_turned_21 rfl (lv_at hl 3 rfl) ?_
    refine lv_iconst (v := (0 : Int32)) hx hb dZM_turned_22 (by decide) ?_
    refine lv_iload hx hb dZM_turned_23 (lv_at hl 0 rfl) ?_
    obtain ⟨J39, hJ39, hw⟩ := hw
    have j39 : ∀ (t0_j39 : Int32), J39 t0_j39 → ∀ (H : Heap) (locs : List Loc), va_P (dC, dI) vwCl [(om, .inr (6, [.int zt, .int zw, .int zh, .ref ozp, .ref ozs, .ref ozb, .int zz, .ref ozl, .ref ozo, .int zc, .int zr, .int zu, .int zv, .int zq, .int zi, .ref ozk, .ref ozm, .int zd, .ref ozg])), (ozp, .inl (cI, 1600, .inl zp)), (ozs, .inl (cI, 320, .inl zs)), (ozb, .inl (cI, 256, .inl zb)), (ozl, .inl (cI, 64, .inl zl)), (ozo, .inl (cI, 64, .inl zo)), (ozk, .inl (cI, 320, .inl zk)), (ozm, .inl (cI, 40, .inl zm)), (ozg, .inl (cI, 64, .inl zg))] H → va_D A [(om, .inr (6, [.int zt, .int zw, .int zh, .ref ozp, .ref ozs, .ref ozb, .int zz, .ref ozl, .ref ozo, .int zc, .int zr, .int zu, .int zv, .int zq, .int zi, .ref ozk, .ref ozm, .int zd, .ref ozg])), (ozp, .inl (cI, 1600, .inl zp)), (ozs, .inl (cI, 320, .inl zs)), (ozb, .inl (cI, 256, .inl zb)), (ozl, .inl (cI, 64, .inl zl)), (ozo, .inl (cI, 64, .inl zo)), (ozk, .inl (cI, 320, .inl zk)), (ozm, .inl (cI, 40, .inl zm)), (ozg, .inl (cI, 64, .inl zg))] → va_S A s.heap H locs → ∀ ls : Array Slot, lv_has ls 8 [(5, .int t0_j18), (4, .int (a3 &&& (3 : Int32))), (0, .ref om), (1, .int a1), (2, .int a2), (3, .int a3)] → W p l e (headSpec wsZM_turned rm_ZM_turned).room s m args below meth c H locs 0 0 Q9 (F0 m 39 ls [.int t0_j39, .int (0 : Int32), .int a1, .ref om]) := by
      intro t0_j39 hw H locs hP hD hS ls hl
      have hw := hJ39 t0_j39 hw
      refine lv_iconst (v := (1 : Int32)) hx hb dZM_turned_39 (by decide) ?_
      refine lv_isub hx hb dZM_turned_40 ?_
      have hPc := hP.sub (ws' := []) [] rfl
      refine vp_callSi (va_runS (As := [.int a1, .int (0 : Int32), .int (t0_j39 - (1 : Int32))]) (rest := [.ref om]) ⟨hx, hb, hml, hown, hts⟩ (kt_ZM_in l dC dI cI  a1 (0 : Int32) (t0_j39 - (1 : Int32)) _ hw) (va_cwS 3 hts (tb_S mm_687 mm_688 mm_8 mm_689) rfl rfl rfl (by decide +kernel) ⟨Nat.le_of_ble_eq_true rfl, Nat.le_of_ble_eq_true rfl⟩) ⟨gr_blind, fun U hU hW => gr_pre hPc hK hE hU hW⟩ rfl rfl hl.1 rfl (lv_room (Nat.le_of_ble_eq_true rfl)) dZM_turned_41 ⟨Nat.le_of_ble_eq_true rfl, Nat.le_of_ble_eq_true rfl⟩).run (fun r_1 hw => ?_)
      obtain ⟨J78, hJ78, hw⟩ := hw
      have j78 : ∀ (t0_j78 : Int32), J78 t0_j78 → ∀ (H : Heap) (locs : List Loc), va_P (dC, dI) vwCl [(om, .inr (6, [.int zt, .int zw, .int zh, .ref ozp, .ref ozs, .ref ozb, .int zz, .ref ozl, .ref ozo, .int zc, .int zr, .int zu, .int zv, .int zq, .int zi, .ref ozk, .ref ozm, .int zd, .ref ozg])), (ozp, .inl (cI, 1600, .inl zp)), (ozs, .inl (cI, 320, .inl zs)), (ozb, .inl (cI, 256, .inl zb)), (ozl, .inl (cI, 64, .inl zl)), (ozo, .inl (cI, 64, .inl zo)), (ozk, .inl (cI, 320, .inl zk)), (ozm, .inl (cI, 40, .inl zm)), (ozg, .inl (cI, 64, .inl zg))] H → va_D A [(om, .inr (6, [.int zt, .int zw, .int zh, .ref ozp, .ref ozs, .ref ozb, .int zz, .ref ozl, .ref ozo, .int zc, .int zr, .int zu, .int zv, .int zq, .int zi, .ref ozk, .ref ozm, .int zd, .ref ozg])), (ozp, .inl (cI, 1600, .inl zp)), (ozs, .inl (cI, 320, .inl zs)), (ozb, .inl (cI, 256, .inl zb)), (ozl, .inl (cI, 64, .inl zl)), (ozo, .inl (cI, 64, .inl zo)), (ozk, .inl (cI, 320, .inl zk)), (ozm, .inl (cI, 40, .inl zm)), (ozg, .inl (cI, 64, .inl zg))] → va_S A s.heap H locs → ∀ ls : Array Slot, lv_has ls 8 [(5, .int t0_j18), (4, .int (a3 &&& (3 : Int32))), (0, .ref om), (1, .int a1), (2, .int a2), (3, .int a3)] → W p l e (headSpec wsZM_turned rm_ZM_turned).room s m args below meth c H locs 0 0 Q9 (F0 m 78 ls [.int t0_j78, .ref om]) := by
        intro t0_j78 hw H locs hP hD hS ls hl
        have hw := hJ78 t0_j78 hw
        refine lv_iconst (v := (0 : Int32)) hx hb dZM_turned_78 (by decide) ?_
        have hPc := hP.sub (ws' := [(om, .inr (6, [.int zt, .int zw, .int zh, .ref ozp, .ref ozs, .ref ozb, .int zz, .ref ozl, .ref ozo, .int zc, .int zr, .int zu, .int zv, .int zq, .int zi, .ref ozk, .ref ozm, .int zd, .ref ozg])), (ozp, .inl (cI, 1600, .inl zp)), (ozs, .inl (cI, 320, .inl zs)), (ozb, .inl (cI, 256, .inl zb)), (ozl, .inl (cI, 64, .inl zl)), (ozo, .inl (cI, 64, .inl zo)), (ozk, .inl (cI, 320, .inl zk)), (ozm, .inl (cI, 40, .inl zm)), (ozg, .inl (cI, 64, .inl zg))]) [0, 1, 2, 3, 4, 5, 6, 7, 8] rfl
        have hDc := hD.sub (ws' := [(om, .inr (6, [.int zt, .int zw, .int zh, .ref ozp, .ref ozs, .ref ozb, .int zz, .ref ozl, .ref ozo, .int zc, .int zr, .int zu, .int zv, .int zq, .int zi, .ref ozk, .ref ozm, .int zd, .ref ozg])), (ozp, .inl (cI, 1600, .inl zp)), (ozs, .inl (cI, 320, .inl zs)), (ozb, .inl (cI, 256, .inl zb)), (ozl, .inl (cI, 64, .inl zl)), (ozo, .inl (cI, 64, .inl zo)), (ozk, .inl (cI, 320, .inl zk)), (ozm, .inl (cI, 40, .inl zm)), (ozg, .inl (cI, 64, .inl zg))]) [0, 1, 2, 3, 4, 5, 6, 7, 8] (by decide) rfl
        have hFc := va_free (wc := [(om, .inr (6, [.int zt, .int zw, .int zh, .ref ozp, .ref ozs, .ref ozb, .int zz, .ref ozl, .ref ozo, .int zc, .int zr, .int zu, .int zv, .int zq, .int zi, .ref ozk, .ref ozm, .int zd, .ref ozg])), (ozp, .inl (cI, 1600, .inl zp)), (ozs, .inl (cI, 320, .inl zs)), (ozb, .inl (cI, 256, .inl zb)), (ozl, .inl (cI, 64, .inl zl)), (ozo, .inl (cI, 64, .inl zo)), (ozk, .inl (cI, 320, .inl zk)), (ozm, .inl (cI, 40, .inl zm)), (ozg, .inl (cI, 64, .inl zg))]) hD hS hA [0, 1, 2, 3, 4, 5, 6, 7, 8] rfl
        refine va_calli (va_runV (As := [.int t0_j78, .int (0 : Int32)]) (rest := []) ⟨hx, hb, hml, hown, hts⟩ (kt_ZM_throwing l dC dI cI om ozp ozs ozb ozl ozo ozk ozm ozg _ zt zw zh zp zs zb zz zl zo zc zr zu zv zq zi zk zm zd zg t0_j78 (0 : Int32) _ hw) (cwV 2 hts (tb_V mm_693 mm_695 mp_5 mm_8 mm_696) rfl rfl rfl (by decide +kernel) ⟨Nat.le_of_ble_eq_true rfl, Nat.le_of_ble_eq_true rfl⟩) ⟨gw_blind, va_recv hK hPc (ci := 6) (q0 := 0) rfl rfl, fun U hU hW => gw_pre hPc hDc hK hE hU hW⟩ rfl rfl hl.1 rfl (lv_room (Nat.le_of_ble_eq_true rfl)) dZM_turned_79 ⟨Nat.le_of_ble_eq_true rfl, Nat.le_of_ble_eq_true rfl⟩) hS (fun q _ h => hFc q h) hFc (fun r_3 zt_2 t H1 locs ht hvm hw hB hz1 hk1 hS => ?_)
        obtain ⟨hP1, hK1, hD1⟩ := hB
        rw [ht] at hP1
        try dsimp only at hw
        obtain ⟨hP, hD⟩ := va_join (wr := []) (w1 := [(om, .inr (6, [.int zt_2, .int zw, .int zh, .ref ozp, .ref ozs, .ref ozb, .int zz, .ref ozl, .ref ozo, .int zc, .int zr, .int zu, .int zv, .int zq, .int zi, .ref ozk, .ref ozm, .int zd, .ref ozg])), (ozp, .inl (cI, 1600, .inl zp)), (ozs, .inl (cI, 320, .inl zs)), (ozb, .inl (cI, 256, .inl zb)), (ozl, .inl (cI, 64, .inl zl)), (ozo, .inl (cI, 64, .inl zo)), (ozk, .inl (cI, 320, .inl zk)), (ozm, .inl (cI, 40, .inl zm)), (ozg, .inl (cI, 64, .inl zg))]) hP hD [0, 1, 2, 3, 4, 5, 6, 7, 8] [] rfl rfl (by decide) (by decide) hk1 hFc hP1 hD1
        generalize H1 = H at hP hS ⊢
        have hP : va_P (dC, dI) vwCl [(om, .inr (6, [.int zt_2, .int zw, .int zh, .ref ozp, .ref ozs, .ref ozb, .int zz, .ref ozl, .ref ozo, .int zc, .int zr, .int zu, .int zv, .int zq, .int zi, .ref ozk, .ref ozm, .int zd, .ref ozg])), (ozp, .inl (cI, 1600, .inl zp)), (ozs, .inl (cI, 320, .inl zs)), (ozb, .inl (cI, 256, .inl zb)), (ozl, .inl (cI, 64, .inl zl)), (ozo, .inl (cI, 64, .inl zo)), (ozk, .inl (cI, 320, .inl zk)), (ozm, .inl (cI, 40, .inl zm)), (ozg, .inl (cI, 64, .inl zg))] H := hP
        have hD : va_D A [(om, .inr (6, [.int zt_2, .int zw, .int zh, .ref ozp, .ref ozs, .ref ozb, .int zz, .ref ozl, .ref ozo, .int zc, .int zr, .int zu, .int zv, .int zq, .int zi, .ref ozk, .ref ozm, .int zd, .ref ozg])), (ozp, .inl (cI, 1600, .inl zp)), (ozs, .inl (cI, 320, .inl zs)), (ozb, .inl (cI, 256, .inl zb)), (ozl, .inl (cI, 64, .inl zl)), (ozo, .inl (cI, 64, .inl zo)), (ozk, .inl (cI, 320, .inl zk)), (ozm, .inl (cI, 40, .inl zm)), (ozg, .inl (cI, 64, .inl zg))] := hD
        refine lv_if_eq (tgt := 87) hx hb dZM_turned_82 (by decide) (fun c_4 => ?_) (fun c_4 => ?_)
        · have hw := hw.1 c_4
          refine lv_iload hx hb dZM_turned_87 (lv_at hl 1 rfl) ?_
          obtain ⟨J131, hJ131, hw⟩ := hw
          have j131 : ∀ (t0_j131 : Int32), J131 t0_j131 → ∀ (H : Heap) (locs : List Loc), va_P (dC, dI) vwCl [(om, .inr (6, [.int zt_2, .int zw, .int zh, .ref ozp, .ref ozs, .ref ozb, .int zz, .ref ozl, .ref ozo, .int zc, .int zr, .int zu, .int zv, .int zq, .int zi, .ref ozk, .ref ozm, .int zd, .ref ozg])), (ozp, .inl (cI, 1600, .inl zp)), (ozs, .inl (cI, 320, .inl zs)), (ozb, .inl (cI, 256, .inl zb)), (ozl, .inl (cI, 64, .inl zl)), (ozo, .inl (cI, 64, .inl zo)), (ozk, .inl (cI, 320, .inl zk)), (ozm, .inl (cI, 40, .inl zm)), (ozg, .inl (cI, 64, .inl zg))] H → va_D A [(om, .inr (6, [.int zt_2, .int zw, .int zh, .ref ozp, .ref ozs, .ref ozb, .int zz, .ref ozl, .ref ozo, .int zc, .int zr, .int zu, .int zv, .int zq, .int zi, .ref ozk, .ref ozm, .int zd, .ref ozg])), (ozp, .inl (cI, 1600, .inl zp)), (ozs, .inl (cI, 320, .inl zs)), (ozb, .inl (cI, 256, .inl zb)), (ozl, .inl (cI, 64, .inl zl)), (ozo, .inl (cI, 64, .inl zo)), (ozk, .inl (cI, 320, .inl zk)), (ozm, .inl (cI, 40, .inl zm)), (ozg, .inl (cI, 64, .inl zg))] → va_S A s.heap H locs → ∀ ls : Array Slot, lv_has ls 8 [(5, .int t0_j18), (4, .int (a3 &&& (3 : Int32))), (0, .ref om), (1, .int a1), (2, .int a2), (3, .int a3)] → W p l e (headSpec wsZM_turned rm_ZM_turned).room s m args below meth c H locs 0 0 Q9 (F0 m 131 ls [.int t0_j131]) := by
            intro t0_j131 hw H locs hP hD hS ls hl
            have hw := hJ131 t0_j131 hw
            refine lv_istore (lv' := [(6, .int t0_j131), (5, .int t0_j18), (4, .int (a3 &&& (3 : Int32))), (0, .ref om), (1, .int a1), (2, .int a2), (3, .int a3)]) hx hb dZM_turned_131 hl (by decide) rfl (fun ls hl => ?_)
            refine lv_iload hx hb dZM_turned_133 (lv_at hl 2 rfl) ?_
            obtain ⟨J177, hJ177, hw⟩ := hw
            have j177 : ∀ (t0_j177 : Int32), J177 t0_j177 → ∀ (H : Heap) (locs : List Loc), va_P (dC, dI) vwCl [(om, .inr (6, [.int zt_2, .int zw, .int zh, .ref ozp, .ref ozs, .ref ozb, .int zz, .ref ozl, .ref ozo, .int zc, .int zr, .int zu, .int zv, .int zq, .int zi, .ref ozk, .ref ozm, .int zd, .ref ozg])), (ozp, .inl (cI, 1600, .inl zp)), (ozs, .inl (cI, 320, .inl zs)), (ozb, .inl (cI, 256, .inl zb)), (ozl, .inl (cI, 64, .inl zl)), (ozo, .inl (cI, 64, .inl zo)), (ozk, .inl (cI, 320, .inl zk)), (ozm, .inl (cI, 40, .inl zm)), (ozg, .inl (cI, 64, .inl zg))] H → va_D A [(om, .inr (6, [.int zt_2, .int zw, .int zh, .ref ozp, .ref ozs, .ref ozb, .int zz, .ref ozl, .ref ozo, .int zc, .int zr, .int zu, .int zv, .int zq, .int zi, .ref ozk, .ref ozm, .int zd, .ref ozg])), (ozp, .inl (cI, 1600, .inl zp)), (ozs, .inl (cI, 320, .inl zs)), (ozb, .inl (cI, 256, .inl zb)), (ozl, .inl (cI, 64, .inl zl)), (ozo, .inl (cI, 64, .inl zo)), (ozk, .inl (cI, 320, .inl zk)), (ozm, .inl (cI, 40, .inl zm)), (ozg, .inl (cI, 64, .inl zg))] → va_S A s.heap H locs → ∀ ls : Array Slot, lv_has ls 8 [(6, .int t0_j131), (5, .int t0_j18), (4, .int (a3 &&& (3 : Int32))), (0, .ref om), (1, .int a1), (2, .int a2), (3, .int a3)] → W p l e (headSpec wsZM_turned rm_ZM_turned).room s m args below meth c H locs 0 0 Q9 (F0 m 177 ls [.int t0_j177]) := by
              intro t0_j177 hw H locs hP hD hS ls hl
              have hw := hJ177 t0_j177 hw
              refine lv_istore (lv' := [(7, .int t0_j177), (6, .int t0_j131), (5, .int t0_j18), (4, .int (a3 &&& (3 : Int32))), (0, .ref om), (1, .int a1), (2, .int a2), (3, .int a3)]) hx hb dZM_turned_177 hl (by decide) rfl (fun ls hl => ?_)
              refine lv_aload_n hx hb dZM_turned_179 rfl (lv_at hl 4 rfl) ?_
              refine va_get (D := (dC, dI)) (ci := 6) (v := .ref ozp) (C := RZM) (T := TZM) (N := 19) hx hb hts inZM hown hK hP 0 rfl rfl 3 (by decide) (hts _ mm_621) (fun _ h9 => h9) rfl dZM_turned_180 ?_
              refine lv_bipush (v := (40 : Int32)) hx hb dZM_turned_183 (by decide) ?_
              refine lv_iload hx hb dZM_turned_185 (lv_at hl 0 rfl) ?_
              refine lv_imul hx hb dZM_turned_187 ?_
              refine lv_iload hx hb dZM_turned_188 (lv_at hl 1 rfl) ?_
              refine lv_iadd hx hb dZM_turned_190 ?_
              obtain ⟨h_5, hw⟩ := hw
              refine va_iald hx hb hK hP 1 0 rfl rfl h_5 dZM_turned_191 ?_
              have hP9 := hP.sub (ws' := [(om, .inr (6, [.int zt_2, .int zw, .int zh, .ref ozp, .ref ozs, .ref ozb, .int zz, .ref ozl, .ref ozo, .int zc, .int zr, .int zu, .int zv, .int zq, .int zi, .ref ozk, .ref ozm, .int zd, .ref ozg])), (ozp, .inl (cI, 1600, .inl zp)), (ozs, .inl (cI, 320, .inl zs)), (ozb, .inl (cI, 256, .inl zb)), (ozl, .inl (cI, 64, .inl zl)), (ozo, .inl (cI, 64, .inl zo)), (ozk, .inl (cI, 320, .inl zk)), (ozm, .inl (cI, 40, .inl zm)), (ozg, .inl (cI, 64, .inl zg))]) [0, 1, 2, 3, 4, 5, 6, 7, 8] rfl
              have hD9 := hD.sub (ws' := [(om, .inr (6, [.int zt_2, .int zw, .int zh, .ref ozp, .ref ozs, .ref ozb, .int zz, .ref ozl, .ref ozo, .int zc, .int zr, .int zu, .int zv, .int zq, .int zi, .ref ozk, .ref ozm, .int zd, .ref ozg])), (ozp, .inl (cI, 1600, .inl zp)), (ozs, .inl (cI, 320, .inl zs)), (ozb, .inl (cI, 256, .inl zb)), (ozl, .inl (cI, 64, .inl zl)), (ozo, .inl (cI, 64, .inl zo)), (ozk, .inl (cI, 320, .inl zk)), (ozm, .inl (cI, 40, .inl zm)), (ozg, .inl (cI, 64, .inl zg))]) [0, 1, 2, 3, 4, 5, 6, 7, 8] (by decide) rfl
              subst hQ9
              exact W.iret (v := zp (((40 : Int32) * t0_j177) + t0_j131).toNatClampNeg) hx hb hr (fun t ht hW => ⟨⟨zp (((40 : Int32) * t0_j177) + t0_j131).toNatClampNeg, zt_2, rfl, hw, by rw [ht]; exact hP9, va_K.moved hW.alike hK, hD9⟩, hS.F ht⟩) hS.2.2 dZM_turned_192
            refine lv_if_ne (tgt := 142) hx hb dZM_turned_135 (by decide) (fun c_6 => ?_) (fun c_6 => ?_)
            · have hw := hw.2 c_6
              refine lv_iload hx hb dZM_turned_142 (lv_at hl 2 rfl) ?_
              refine lv_iconst (v := (1 : Int32)) hx hb dZM_turned_144 (by decide) ?_
              refine lv_icmp_ne (tgt := 159) hx hb dZM_turned_145 (by decide) (fun c_7 => ?_) (fun c_7 => ?_)
              · have hw := hw.2 c_7
                refine lv_iload hx hb dZM_turned_159 (lv_at hl 2 rfl) ?_
                refine lv_iconst (v := (2 : Int32)) hx hb dZM_turned_161 (by decide) ?_
                refine lv_icmp_ne (tgt := 176) hx hb dZM_turned_162 (by decide) (fun c_8 => ?_) (fun c_8 => ?_)
                · have hw := hw.2 c_8
                  refine lv_iload_n hx hb dZM_turned_176 rfl (lv_at hl 4 rfl) ?_
                  exact j177 a1 hw _ _ (hP.sub [0, 1, 2, 3, 4, 5, 6, 7, 8] rfl) (hD.sub [0, 1, 2, 3, 4, 5, 6, 7, 8] (by decide) rfl) hS ls (lv_sub hl [0, 1, 2, 3, 4, 5, 6] rfl)
                · have hw := hw.1 c_8
                  refine lv_aload_n hx hb dZM_turned_165 rfl (lv_at hl 3 rfl) ?_
                  refine va_get (D := (dC, dI)) (ci := 6) (v := .int zh) (C := RZM) (T := TZM) (N := 19) hx hb hts inZM hown hK hP 0 rfl rfl 2 (by decide) (hts _ mm_620) (fun _ h9 => h9) rfl dZM_turned_166 ?_
                  refine lv_iconst (v := (1 : Int32)) hx hb dZM_turned_169 (by decide) ?_
                  refine lv_isub hx hb dZM_turned_170 ?_
                  refine lv_iload_n hx hb dZM_turned_171 rfl (lv_at hl 5 rfl) ?_
                  refine lv_isub hx hb dZM_turned_172 ?_
                  refine lv_goto (tgt := 177) hx hb dZM_turned_173 (by decide) ?_
                  exact j177 ((zh - (1 : Int32)) - a2) hw _ _ (hP.sub [0, 1, 2, 3, 4, 5, 6, 7, 8] rfl) (hD.sub [0, 1, 2, 3, 4, 5, 6, 7, 8] (by decide) rfl) hS ls (lv_sub hl [0, 1, 2, 3, 4, 5, 6] rfl)
              · have hw := hw.1 c_7
                refine lv_aload_n hx hb dZM_turned_148 rfl (lv_at hl 3 rfl) ?_
                refine va_get (D := (dC, dI)) (ci := 6) (v := .int zh) (C := RZM) (T := TZM) (N := 19) hx hb hts inZM hown hK hP 0 rfl rfl 2 (by decide) (hts _ mm_620) (fun _ h9 => h9) rfl dZM_turned_149 ?_
                refine lv_iconst (v := (1 : Int32)) hx hb dZM_turned_152 (by decide) ?_
                refine lv_isub hx hb dZM_turned_153 ?_
                refine lv_iload_n hx hb dZM_turned_154 rfl (lv_at hl 4 rfl) ?_
                refine lv_isub hx hb dZM_turned_155 ?_
                refine lv_goto (tgt := 177) hx hb dZM_turned_156 (by decide) ?_
                exact j177 ((zh - (1 : Int32)) - a1) hw _ _ (hP.sub [0, 1, 2, 3, 4, 5, 6, 7, 8] rfl) (hD.sub [0, 1, 2, 3, 4, 5, 6, 7, 8] (by decide) rfl) hS ls (lv_sub hl [0, 1, 2, 3, 4, 5, 6] rfl)
            · have hw := hw.1 c_6
              refine lv_iload_n hx hb dZM_turned_138 rfl (lv_at hl 5 rfl) ?_
              refine lv_goto (tgt := 177) hx hb dZM_turned_139 (by decide) ?_
              exact j177 a2 hw _ _ (hP.sub [0, 1, 2, 3, 4, 5, 6, 7, 8] rfl) (hD.sub [0, 1, 2, 3, 4, 5, 6, 7, 8] (by decide) rfl) hS ls (lv_sub hl [0, 1, 2, 3, 4, 5, 6] rfl)
          refine lv_if_ne (tgt := 96) hx hb dZM_turned_89 (by decide) (fun c_9 => ?_) (fun c_9 => ?_)
          · have hw := hw.2 c_9
            refine lv_iload hx hb dZM_turned_96 (lv_at hl 1 rfl) ?_
            refine lv_iconst (v := (1 : Int32)) hx hb dZM_turned_98 (by decide) ?_
            refine lv_icmp_ne (tgt := 106) hx hb dZM_turned_99 (by decide) (fun c_10 => ?_) (fun c_10 => ?_)
            · have hw := hw.2 c_10
              refine lv_iload hx hb dZM_turned_106 (lv_at hl 1 rfl) ?_
              refine lv_iconst (v := (2 : Int32)) hx hb dZM_turned_108 (by decide) ?_
              refine lv_icmp_ne (tgt := 123) hx hb dZM_turned_109 (by decide) (fun c_11 => ?_) (fun c_11 => ?_)
              · have hw := hw.2 c_11
                refine lv_aload_n hx hb dZM_turned_123 rfl (lv_at hl 2 rfl) ?_
                refine va_get (D := (dC, dI)) (ci := 6) (v := .int zw) (C := RZM) (T := TZM) (N := 19) hx hb hts inZM hown hK hP 0 rfl rfl 1 (by decide) (hts _ mm_619) (fun _ h9 => h9) rfl dZM_turned_124 ?_
                refine lv_iconst (v := (1 : Int32)) hx hb dZM_turned_127 (by decide) ?_
                refine lv_isub hx hb dZM_turned_128 ?_
                refine lv_iload_n hx hb dZM_turned_129 rfl (lv_at hl 4 rfl) ?_
                refine lv_isub hx hb dZM_turned_130 ?_
                exact j131 ((zw - (1 : Int32)) - a2) hw _ _ (hP.sub [0, 1, 2, 3, 4, 5, 6, 7, 8] rfl) (hD.sub [0, 1, 2, 3, 4, 5, 6, 7, 8] (by decide) rfl) hS ls (lv_sub hl [0, 1, 2, 3, 4, 5] rfl)
              · have hw := hw.1 c_11
                refine lv_aload_n hx hb dZM_turned_112 rfl (lv_at hl 2 rfl) ?_
                refine va_get (D := (dC, dI)) (ci := 6) (v := .int zw) (C := RZM) (T := TZM) (N := 19) hx hb hts inZM hown hK hP 0 rfl rfl 1 (by decide) (hts _ mm_619) (fun _ h9 => h9) rfl dZM_turned_113 ?_
                refine lv_iconst (v := (1 : Int32)) hx hb dZM_turned_116 (by decide) ?_
                refine lv_isub hx hb dZM_turned_117 ?_
                refine lv_iload_n hx hb dZM_turned_118 rfl (lv_at hl 3 rfl) ?_
                refine lv_isub hx hb dZM_turned_119 ?_
                refine lv_goto (tgt := 131) hx hb dZM_turned_120 (by decide) ?_
                exact j131 ((zw - (1 : Int32)) - a1) hw _ _ (hP.sub [0, 1, 2, 3, 4, 5, 6, 7, 8] rfl) (hD.sub [0, 1, 2, 3, 4, 5, 6, 7, 8] (by decide) rfl) hS ls (lv_sub hl [0, 1, 2, 3, 4, 5] rfl)
            · have hw := hw.1 c_10
              refine lv_iload_n hx hb dZM_turned_102 rfl (lv_at hl 4 rfl) ?_
              refine lv_goto (tgt := 131) hx hb dZM_turned_103 (by decide) ?_
              exact j131 a2 hw _ _ (hP.sub [0, 1, 2, 3, 4, 5, 6, 7, 8] rfl) (hD.sub [0, 1, 2, 3, 4, 5, 6, 7, 8] (by decide) rfl) hS ls (lv_sub hl [0, 1, 2, 3, 4, 5] rfl)
          · have hw := hw.1 c_9
            refine lv_iload_n hx hb dZM_turned_92 rfl (lv_at hl 3 rfl) ?_
            refine lv_goto (tgt := 131) hx hb dZM_turned_93 (by decide) ?_
            exact j131 a1 hw _ _ (hP.sub [0, 1, 2, 3, 4, 5, 6, 7, 8] rfl) (hD.sub [0, 1, 2, 3, 4, 5, 6, 7, 8] (by decide) rfl) hS ls (lv_sub hl [0, 1, 2, 3, 4, 5] rfl)
        · have hw := hw.2 c_4
          refine lv_iconst (v := (0 : Int32)) hx hb dZM_turned_85 (by decide) ?_
          have hP9 := hP.sub (ws' := [(om, .inr (6, [.int zt_2, .int zw, .int zh, .ref ozp, .ref ozs, .ref ozb, .int zz, .ref ozl, .ref ozo, .int zc, .int zr, .int zu, .int zv, .int zq, .int zi, .ref ozk, .ref ozm, .int zd, .ref ozg])), (ozp, .inl (cI, 1600, .inl zp)), (ozs, .inl (cI, 320, .inl zs)), (ozb, .inl (cI, 256, .inl zb)), (ozl, .inl (cI, 64, .inl zl)), (ozo, .inl (cI, 64, .inl zo)), (ozk, .inl (cI, 320, .inl zk)), (ozm, .inl (cI, 40, .inl zm)), (ozg, .inl (cI, 64, .inl zg))]) [0, 1, 2, 3, 4, 5, 6, 7, 8] rfl
          have hD9 := hD.sub (ws' := [(om, .inr (6, [.int zt_2, .int zw, .int zh, .ref ozp, .ref ozs, .ref ozb, .int zz, .ref ozl, .ref ozo, .int zc, .int zr, .int zu, .int zv, .int zq, .int zi, .ref ozk, .ref ozm, .int zd, .ref ozg])), (ozp, .inl (cI, 1600, .inl zp)), (ozs, .inl (cI, 320, .inl zs)), (ozb, .inl (cI, 256, .inl zb)), (ozl, .inl (cI, 64, .inl zl)), (ozo, .inl (cI, 64, .inl zo)), (ozk, .inl (cI, 320, .inl zk)), (ozm, .inl (cI, 40, .inl zm)), (ozg, .inl (cI, 64, .inl zg))]) [0, 1, 2, 3, 4, 5, 6, 7, 8] (by decide) rfl
          subst hQ9
          exact W.iret (v := (0 : Int32)) hx hb hr (fun t ht hW => ⟨⟨(0 : Int32), zt_2, rfl, hw, by rw [ht]; exact hP9, va_K.moved hW.alike hK, hD9⟩, hS.F ht⟩) hS.2.2 dZM_turned_86
      refine lv_if_eq (tgt := 73) hx hb dZM_turned_44 (by decide) (fun c_12 => ?_) (fun c_12 => ?_)
      · have hw := hw.1 c_12
        refine lv_iconst (v := (1 : Int32)) hx hb dZM_turned_73 (by decide) ?_
        refine lv_goto (tgt := 78) hx hb dZM_turned_74 (by decide) ?_
        exact j78 (1 : Int32) hw _ _ (hP.sub [0, 1, 2, 3, 4, 5, 6, 7, 8] rfl) (hD.sub [0, 1, 2, 3, 4, 5, 6, 7, 8] (by decide) rfl) hS ls (lv_sub hl [0, 1, 2, 3, 4, 5] rfl)
      · have hw := hw.2 c_12
        refine lv_iload_n hx hb dZM_turned_47 rfl (lv_at hl 4 rfl) ?_
        refine lv_iconst (v := (0 : Int32)) hx hb dZM_turned_48 (by decide) ?_
        refine lv_iload hx hb dZM_turned_49 (lv_at hl 0 rfl) ?_
        obtain ⟨J65, hJ65, hw⟩ := hw
        have j65 : ∀ (t0_j65 : Int32), J65 t0_j65 → ∀ (H : Heap) (locs : List Loc), va_P (dC, dI) vwCl [(om, .inr (6, [.int zt, .int zw, .int zh, .ref ozp, .ref ozs, .ref ozb, .int zz, .ref ozl, .ref ozo, .int zc, .int zr, .int zu, .int zv, .int zq, .int zi, .ref ozk, .ref ozm, .int zd, .ref ozg])), (ozp, .inl (cI, 1600, .inl zp)), (ozs, .inl (cI, 320, .inl zs)), (ozb, .inl (cI, 256, .inl zb)), (ozl, .inl (cI, 64, .inl zl)), (ozo, .inl (cI, 64, .inl zo)), (ozk, .inl (cI, 320, .inl zk)), (ozm, .inl (cI, 40, .inl zm)), (ozg, .inl (cI, 64, .inl zg))] H → va_D A [(om, .inr (6, [.int zt, .int zw, .int zh, .ref ozp, .ref ozs, .ref ozb, .int zz, .ref ozl, .ref ozo, .int zc, .int zr, .int zu, .int zv, .int zq, .int zi, .ref ozk, .ref ozm, .int zd, .ref ozg])), (ozp, .inl (cI, 1600, .inl zp)), (ozs, .inl (cI, 320, .inl zs)), (ozb, .inl (cI, 256, .inl zb)), (ozl, .inl (cI, 64, .inl zl)), (ozo, .inl (cI, 64, .inl zo)), (ozk, .inl (cI, 320, .inl zk)), (ozm, .inl (cI, 40, .inl zm)), (ozg, .inl (cI, 64, .inl zg))] → va_S A s.heap H locs → ∀ ls : Array Slot, lv_has ls 8 [(5, .int t0_j18), (4, .int (a3 &&& (3 : Int32))), (0, .ref om), (1, .int a1), (2, .int a2), (3, .int a3)] → W p l e (headSpec wsZM_turned rm_ZM_turned).room s m args below meth c H locs 0 0 Q9 (F0 m 65 ls [.int t0_j65, .int (0 : Int32), .int a2, .ref om]) := by
          intro t0_j65 hw H locs hP hD hS ls hl
          have hw := hJ65 t0_j65 hw
          refine lv_iconst (v := (1 : Int32)) hx hb dZM_turned_65 (by decide) ?_
          refine lv_isub hx hb dZM_turned_66 ?_
          have hPc := hP.sub (ws' := []) [] rfl
          refine vp_callSi (va_runS (As := [.int a2, .int (0 : Int32), .int (t0_j65 - (1 : Int32))]) (rest := [.ref om]) ⟨hx, hb, hml, hown, hts⟩ (kt_ZM_in l dC dI cI  a2 (0 : Int32) (t0_j65 - (1 : Int32)) _ hw) (va_cwS 3 hts (tb_S mm_687 mm_688 mm_8 mm_689) rfl rfl rfl (by decide +kernel) ⟨Nat.le_of_ble_eq_true rfl, Nat.le_of_ble_eq_true rfl⟩) ⟨gr_blind, fun U hU hW => gr_pre hPc hK hE hU hW⟩ rfl rfl hl.1 rfl (lv_room (Nat.le_of_ble_eq_true rfl)) dZM_turned_67 ⟨Nat.le_of_ble_eq_true rfl, Nat.le_of_ble_eq_true rfl⟩).run (fun r_13 hw => ?_)
          refine lv_if_ne (tgt := 77) hx hb dZM_turned_70 (by decide) (fun c_14 => ?_) (fun c_14 => ?_)
          · have hw := hw.2 c_14
            refine lv_iconst (v := (0 : Int32)) hx hb dZM_turned_77 (by decide) ?_
            exact j78 (0 : Int32) hw _ _ (hP.sub [0, 1, 2, 3, 4, 5, 6, 7, 8] rfl) (hD.sub [0, 1, 2, 3, 4, 5, 6, 7, 8] (by decide) rfl) hS ls (lv_sub hl [0, 1, 2, 3, 4, 5] rfl)
          · have hw := hw.1 c_14
            refine lv_iconst (v := (1 : Int32)) hx hb dZM_turned_73 (by decide) ?_
            refine lv_goto (tgt := 78) hx hb dZM_turned_74 (by decide) ?_
            exact j78 (1 : Int32) hw _ _ (hP.sub [0, 1, 2, 3, 4, 5, 6, 7, 8] rfl) (hD.sub [0, 1, 2, 3, 4, 5, 6, 7, 8] (by decide) rfl) hS ls (lv_sub hl [0, 1, 2, 3, 4, 5] rfl)
        refine lv_if_eq (tgt := 61) hx hb dZM_turned_51 (by decide) (fun c_15 => ?_) (fun c_15 => ?_)
        · have hw := hw.1 c_15
          refine lv_aload_n hx hb dZM_turned_61 rfl (lv_at hl 2 rfl) ?_
          refine va_get (D := (dC, dI)) (ci := 6) (v := .int zh) (C := RZM) (T := TZM) (N := 19) hx hb hts inZM hown hK hP 0 rfl rfl 2 (by decide) (hts _ mm_620) (fun _ h9 => h9) rfl dZM_turned_62 ?_
          exact j65 zh hw _ _ (hP.sub [0, 1, 2, 3, 4, 5, 6, 7, 8] rfl) (hD.sub [0, 1, 2, 3, 4, 5, 6, 7, 8] (by decide) rfl) hS ls (lv_sub hl [0, 1, 2, 3, 4, 5] rfl)
        · have hw := hw.2 c_15
          refine lv_aload_n hx hb dZM_turned_54 rfl (lv_at hl 2 rfl) ?_
          refine va_get (D := (dC, dI)) (ci := 6) (v := .int zw) (C := RZM) (T := TZM) (N := 19) hx hb hts inZM hown hK hP 0 rfl rfl 1 (by decide) (hts _ mm_619) (fun _ h9 => h9) rfl dZM_turned_55 ?_
          refine lv_goto (tgt := 65) hx hb dZM_turned_58 (by decide) ?_
          exact j65 zw hw _ _ (hP.sub [0, 1, 2, 3, 4, 5, 6, 7, 8] rfl) (hD.sub [0, 1, 2, 3, 4, 5, 6, 7, 8] (by decide) rfl) hS ls (lv_sub hl [0, 1, 2, 3, 4, 5] rfl)
    refine lv_if_eq (tgt := 35) hx hb dZM_turned_25 (by decide) (fun c_16 => ?_) (fun c_16 => ?_)
    · have hw := hw.1 c_16
      refine lv_aload_n hx hb dZM_turned_35 rfl (lv_at hl 2 rfl) ?_
      refine va_get (D := (dC, dI)) (ci := 6) (v := .int zw) (C := RZM) (T := TZM) (N := 19) hx hb hts inZM hown hK hP 0 rfl rfl 1 (by decide) (hts _ mm_619) (fun _ h9 => h9) rfl dZM_turned_36 ?_
      exact j39 zw hw _ _ (hP.sub [0, 1, 2, 3, 4, 5, 6, 7, 8] rfl) (hD.sub [0, 1, 2, 3, 4, 5, 6, 7, 8] (by decide) rfl) hS ls (lv_sub hl [0, 1, 2, 3, 4, 5] rfl)
    · have hw := hw.2 c_16
      refine lv_aload_n hx hb dZM_turned_28 rfl (lv_at hl 2 rfl) ?_
      refine va_get (D := (dC, dI)) (ci := 6) (v := .int zh) (C := RZM) (T := TZM) (N := 19) hx hb hts inZM hown hK hP 0 rfl rfl 2 (by decide) (hts _ mm_620) (fun _ h9 => h9) rfl dZM_turned_29 ?_
      refine lv_goto (tgt := 39) hx hb dZM_turned_32 (by decide) ?_
      exact j39 zh hw _ _ (hP.sub [0, 1, 2, 3, 4, 5, 6, 7, 8] rfl) (hD.sub [0, 1, 2, 3, 4, 5, 6, 7, 8] (by decide) rfl) hS ls (lv_sub hl [0, 1, 2, 3, 4, 5] rfl)
  refine lv_icmp_ne (tgt := 17) hx hb dZM_turned_10 (by decide) (fun c_17 => ?_) (fun c_17 => ?_)
  · have hw := hw.2 c_17
    refine lv_iconst (v := (0 : Int32)) hx hb dZM_turned_17 (by decide) ?_
    exact j18 (0 : Int32) hw _ _ (hP.sub [0, 1, 2, 3, 4, 5, 6, 7, 8] rfl) (hD.sub [0, 1, 2, 3, 4, 5, 6, 7, 8] (by decide) rfl) hS ls (lv_sub hl [0, 1, 2, 3, 4] rfl)
  · have hw := hw.1 c_17
    refine lv_iconst (v := (1 : Int32)) hx hb dZM_turned_13 (by decide) ?_
    refine lv_goto (tgt := 18) hx hb dZM_turned_14 (by decide) ?_
    exact j18 (1 : Int32) hw _ _ (hP.sub [0, 1, 2, 3, 4, 5, 6, 7, 8] rfl) (hD.sub [0, 1, 2, 3, 4, 5, 6, 7, 8] (by decide) rfl) hS ls (lv_sub hl [0, 1, 2, 3, 4] rfl)
