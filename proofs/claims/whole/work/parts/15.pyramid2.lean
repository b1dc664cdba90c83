theorem dZY_cutTile_0 : decode cZY_cutTile 0 = .ok (.aload 4, 2) := by decide +kernel
theorem dZY_cutTile_2 : decode cZY_cutTile 2 = .ok (.aload_n 0, 1) := by decide +kernel
theorem dZY_cutTile_3 : decode cZY_cutTile 3 = .ok (.iload_n 1, 1) := by decide +kernel
theorem dZY_cutTile_4 : decode cZY_cutTile 4 = .ok (.iload_n 2, 1) := by decide +kernel
theorem dZY_cutTile_5 : decode cZY_cutTile 5 = .ok (.invokevirtual 78, 3) := by decide +kernel
theorem dZY_cutTile_8 : decode cZY_cutTile 8 = .ok (.aload_n 0, 1) := by decide +kernel
theorem dZY_cutTile_9 : decode cZY_cutTile 9 = .ok (.iload_n 1, 1) := by decide +kernel
theorem dZY_cutTile_10 : decode cZY_cutTile 10 = .ok (.iload_n 3, 1) := by decide +kernel
theorem dZY_cutTile_11 : decode cZY_cutTile 11 = .ok (.invokevirtual 81, 3) := by decide +kernel
theorem dZY_cutTile_14 : decode cZY_cutTile 14 = .ok (.invokevirtual 84, 3) := by decide +kernel
theorem dZY_cutTile_17 : decode cZY_cutTile 17 = .ok (.iconst 0, 1) := by decide +kernel
theorem dZY_cutTile_18 : decode cZY_cutTile 18 = .ok (.istore 5, 2) := by decide +kernel
theorem dZY_cutTile_20 : decode cZY_cutTile 20 = .ok (.iload 5, 2) := by decide +kernel
theorem dZY_cutTile_22 : decode cZY_cutTile 22 = .ok (.aload 4, 2) := by decide +kernel
theorem dZY_cutTile_24 : decode cZY_cutTile 24 = .ok (.getfield 90, 3) := by decide +kernel
theorem dZY_cutTile_27 : decode cZY_cutTile 27 = .ok (.if_icmp .ge 56, 3) := by decide +kernel
theorem dZY_cutTile_30 : decode cZY_cutTile 30 = .ok (.iconst 0, 1) := by decide +kernel
theorem dZY_cutTile_31 : decode cZY_cutTile 31 = .ok (.istore 6, 2) := by decide +kernel
theorem dZY_cutTile_33 : decode cZY_cutTile 33 = .ok (.iload 6, 2) := by decide +kernel
theorem dZY_cutTile_35 : decode cZY_cutTile 35 = .ok (.aload 4, 2) := by decide +kernel
theorem dZY_cutTile_37 : decode cZY_cutTile 37 = .ok (.getfield 91, 3) := by decide +kernel
theorem dZY_cutTile_40 : decode cZY_cutTile 40 = .ok (.if_icmp .ge 37, 3) := by decide +kernel
theorem dZY_cutTile_43 : decode cZY_cutTile 43 = .ok (.aload 4, 2) := by decide +kernel
theorem dZY_cutTile_45 : decode cZY_cutTile 45 = .ok (.iload 6, 2) := by decide +kernel
theorem dZY_cutTile_47 : decode cZY_cutTile 47 = .ok (.iload 5, 2) := by decide +kernel
theorem dZY_cutTile_49 : decode cZY_cutTile 49 = .ok (.aload_n 0, 1) := by decide +kernel
theorem dZY_cutTile_50 : decode cZY_cutTile 50 = .ok (.iload_n 1, 1) := by decide +kernel
theorem dZY_cutTile_51 : decode cZY_cutTile 51 = .ok (.bipush 8, 2) := by decide +kernel
theorem dZY_cutTile_53 : decode cZY_cutTile 53 = .ok (.iload_n 2, 1) := by decide +kernel
theorem dZY_cutTile_54 : decode cZY_cutTile 54 = .ok (.imul, 1) := by decide +kernel
theorem dZY_cutTile_55 : decode cZY_cutTile 55 = .ok (.iload 6, 2) := by decide +kernel
theorem dZY_cutTile_57 : decode cZY_cutTile 57 = .ok (.iadd, 1) := by decide +kernel
theorem dZY_cutTile_58 : decode cZY_cutTile 58 = .ok (.bipush 8, 2) := by decide +kernel
theorem dZY_cutTile_60 : decode cZY_cutTile 60 = .ok (.iload_n 3, 1) := by decide +kernel
theorem dZY_cutTile_61 : decode cZY_cutTile 61 = .ok (.imul, 1) := by decide +kernel
theorem dZY_cutTile_62 : decode cZY_cutTile 62 = .ok (.iload 5, 2) := by decide +kernel
theorem dZY_cutTile_64 : decode cZY_cutTile 64 = .ok (.iadd, 1) := by decide +kernel
theorem dZY_cutTile_65 : decode cZY_cutTile 65 = .ok (.invokevirtual 92, 3) := by decide +kernel
theorem dZY_cutTile_68 : decode cZY_cutTile 68 = .ok (.invokevirtual 95, 3) := by decide +kernel
theorem dZY_cutTile_71 : decode cZY_cutTile 71 = .ok (.iinc 6 1, 3) := by decide +kernel
theorem dZY_cutTile_74 : decode cZY_cutTile 74 = .ok (.goto (-41), 3) := by decide +kernel
theorem dZY_cutTile_77 : decode cZY_cutTile 77 = .ok (.iinc 5 1, 3) := by decide +kernel
theorem dZY_cutTile_80 : decode cZY_cutTile 80 = .ok (.goto (-60), 3) := by decide +kernel
theorem dZY_cutTile_83 : decode cZY_cutTile 83 = .ok (.return_, 1) := by decide +kernel
abbrev wsZY_cutTile : List Cond := .code yZY_cutTile cZY_cutTile 7 none :: tbg
def lp_ZY_cutTile_33 (yk : Int32) (pw : Int32) (ph : Int32) (pn : Nat) (pf : Nat → Int32) (tw : Int32) (th : Int32) (tf : Nat → Int32) (a1 : Int32) (a2 : Int32) (a3 : Int32) (r_1 : Int32) (r_2 : Int32) (tw_3 : Int32) (th_4 : Int32) (x5_20 : Int32) (f_20_ota : Nat → Int32) (post : Int32 → Int32 → (Nat → Int32) → Prop) (K33 : Int32 → (Nat → Int32) → Prop) (n : Nat) : Int32 → (Nat → Int32) → Prop := Nat.rec (motive := fun _ => Int32 → (Nat → Int32) → Prop) (fun (x6_33 : Int32) (f_33_ota : Nat → Int32) => False) (fun _ ih33 (x6_33 : Int32) (f_33_ota : Nat → Int32) => ((tw_3 ≤ x6_33 → (K33 x6_33 f_33_ota)) ∧ (¬ tw_3 ≤ x6_33 → (wp_ZY_roundedMean yk pw ph pn pf a1 (((8 : Int32) * a2) + x6_33) (((8 : Int32) * a3) + x5_20) (fun r_7 : Int32 => wp_ZT_setSample tw_3 th_4 f_33_ota x6_33 x5_20 r_7 (fun (tf_8 : Nat → Int32) => ih33 (x6_33 + (1 : Int32)) tf_8)))))) n
def lp_ZY_cutTile_20 (yk : Int32) (pw : Int32) (ph : Int32) (pn : Nat) (pf : Nat → Int32) (tw : Int32) (th : Int32) (tf : Nat → Int32) (a1 : Int32) (a2 : Int32) (a3 : Int32) (r_1 : Int32) (r_2 : Int32) (tw_3 : Int32) (th_4 : Int32) (post : Int32 → Int32 → (Nat → Int32) → Prop) (K20 : Int32 → (Nat → Int32) → Prop) (n : Nat) : Int32 → (Nat → Int32) → Prop := Nat.rec (motive := fun _ => Int32 → (Nat → Int32) → Prop) (fun (x5_20 : Int32) (f_20_ota : Nat → Int32) => False) (fun _ ih20 (x5_20 : Int32) (f_20_ota : Nat → Int32) => ((th_4 ≤ x5_20 → (K20 x5_20 f_20_ota)) ∧ (¬ th_4 ≤ x5_20 → (∃ n : Nat, lp_ZY_cutTile_33 yk pw ph pn pf tw th tf a1 a2 a3 r_1 r_2 tw_3 th_4 x5_20 f_20_ota post (fun (x6_33e : Int32) (f_33e_ota : Nat → Int32) => ih20 (x5_20 + (1 : Int32)) f_33e_ota) n (0 : Int32) f_20_ota)))) n
def wp_ZY_cutTile (yk : Int32) (pw : Int32) (ph : Int32) (pn : Nat) (pf : Nat → Int32) (tw : Int32) (th : Int32) (tf : Nat → Int32) (a1 : Int32) (a2 : Int32) (a3 : Int32) (post : Int32 → Int32 → (Nat → Int32) → Prop) : Prop := wp_ZY_tileColumns yk pw ph pn pf a1 a2 (fun r_1 : Int32 => wp_ZY_tileRows yk pw ph pn pf a1 a3 (fun r_2 : Int32 => wp_ZT_setSize tw th tf r_1 r_2 (fun (tw_3 : Int32) (th_4 : Int32) => ∃ n : Nat, lp_ZY_cutTile_20 yk pw ph pn pf tw th tf a1 a2 a3 r_1 r_2 tw_3 th_4 post (fun (x5_20e : Int32) (f_20e_ota : Nat → Int32) => post tw_3 th_4 f_20e_ota) n (0 : Int32) tf)))
abbrev rm_ZY_cutTile : Room := { frames := 4, cells := 0, slots := 0, locals := 96 }
set_option maxHeartbeats 4000000 in
set_option maxRecDepth 100000 in
theorem kt_ZY_cutTile (l : Launch) (dC : Nat → ClassId) (dI : Nat → Nat → Nat) (cI : ClassId) (oy op opa ot ota : Nat) (sz : Nat) (yk : Int32) (pw : Int32) (ph : Int32) (pn : Nat) (pf : Nat → Int32) (tw : Int32) (th : Int32) (tf : Nat → Int32) (a1 : Int32) (a2 : Int32) (a3 : Int32) (post : Int32 → Int32 → (Nat → Int32) → Prop) (hw : wp_ZY_cutTile yk pw ph pn pf tw th tf a1 a2 a3 post) : Met l yZY_cutTile wsZY_cutTile rm_ZY_cutTile (gw_Pc dC dI [(cI, .int)] [.ref oy, .int a1, .int a2, .int a3, .ref ot] [(oy, .inr (2, [.ref op, .int yk])), (op, .inr (1, [.int pw, .int ph, .ref opa])), (opa, .inl (cI, pn, .inl pf)), (ot, .inr (4, [.ref ota, .int tw, .int th])), (ota, .inl (cI, 64, .inl tf))] sz) (va_Qv (fun (u : Int32 × Int32 × (Nat → Int32)) => post u.1 u.2.1 u.2.2) (fun u t => gw_B dC dI [(cI, .int)] (va_A [(oy, .inr (2, [.ref op, .int yk])), (op, .inr (1, [.int pw, .int ph, .ref opa])), (opa, .inl (cI, pn, .inl pf)), (ot, .inr (4, [.ref ota, .int tw, .int th])), (ota, .inl (cI, 64, .inl tf))] sz) [(oy, .inr (2, [.ref op, .int yk])), (op, .inr (1, [.int pw, .int ph, .ref opa])), (opa, .inl (cI, pn, .inl pf)), (ot, .inr (4, [.ref ota, .int u.1, .int u.2.1])), (ota, .inl (cI, 64, .inl u.2.2))] t) (va_A [(oy, .inr (2, [.ref op, .int yk])), (op, .inr (1, [.int pw, .int ph, .ref opa])), (opa, .inl (cI, pn, .inl pf)), (ot, .inr (4, [.ref ota, .int tw, .int th])), (ota, .inl (cI, 64, .inl tf))] sz)) 0 0 (va_A [(oy, .inr (2, [.ref op, .int yk])), (op, .inr (1, [.int pw, .int ph, .ref opa])), (opa, .inl (cI, pn, .inl pf)), (ot, .inr (4, [.ref ota, .int tw, .int th])), (ota, .inl (cI, 64, .inl tf))] sz) := by
  refine Met.ofW (cc := cZY_cutTile) (maxL := 7) (ret := none) (by decide) rfl ?_
  intro p e s m args below meth c s₁ B hml hv
  obtain ⟨ha9, hsz, hP, hK, hE, hD0⟩ := hv
  have hx := B.exec
  have hb := B.bytes
  have hr := B.returns
  have hts0 := atoms_spec (ws := wsZY_cutTile) B.pre
  have hts : ∀ w ∈ tbg, w.before args s = true := fun w h => hts0 w (List.mem_cons_of_mem _ h)
  have hown : s.vm.findClass RZY = some m.cls := findClass_of_methodNamed B.named
  have hlocks := B.notSynchronized
  subst hsz
  have hD := hD0.self (sz := s.heap.size)
  refine gx_Q (fun Q9 hQ9 => ?_)
  generalize hAe : va_A [(oy, .inr (2, [.ref op, .int yk])), (op, .inr (1, [.int pw, .int ph, .ref opa])), (opa, .inl (cI, pn, .inl pf)), (ot, .inr (4, [.ref ota, .int tw, .int th])), (ota, .inl (cI, 64, .inl tf))] s.heap.size = A at hD hQ9 ⊢
  have hA : ∀ q : Nat, s.heap.size ≤ q → A q := fun q h => by rw [← hAe]; exact Or.inr h
  have hS : va_S A s.heap s.heap [] := va_S.rf
  have hl := lv_entry ([.ref oy, .int a1, .int a2, .int a3, .ref ot]) (n := 7) (Nat.le_of_ble_eq_true rfl)
  have he9 : entryFrame m args 7 = F0 m 0 ((lg_sl [.ref oy, .int a1, .int a2, .int a3, .ref ot] ++ List.replicate (7 - (lg_sl ([.ref oy, .int a1, .int a2, .int a3, .ref ot] : List Value)).length) Slot.unset).toArray) [] := by rw [ha9]; exact lg_entry_eq m [.ref oy, .int a1, .int a2, .int a3, .ref ot] 7
  rw [he9]
  generalize (lg_sl ([.ref oy, .int a1, .int a2, .int a3, .ref ot] : List Value) ++ List.replicate (7 - (lg_sl ([.ref oy, .int a1, .int a2, .int a3, .ref ot] : List Value)).length) Slot.unset).toArray = ls at hl ⊢
  have hl : lv_has ls 7 [(0, .ref oy), (1, .int a1), (2, .int a2), (3, .int a3), (4, .ref ot)] := hl
  refine lv_aload hx hb dZY_cutTile_0 (lv_at hl 4 rfl) ?_
  refine lv_aload_n hx hb dZY_cutTile_2 rfl (lv_at hl 0 rfl) ?_
  refine lv_iload_n hx hb dZY_cutTile_3 rfl (lv_at hl 1 rfl) ?_
  refine lv_iload_n hx hb dZY_cutTile_4 rfl (lv_at hl 2 rfl) ?_
  have hPc := hP.sub (ws' := [(oy, .inr (2, [.ref op, .int yk])), (op, .inr (1, [.int pw, .int ph, .ref opa])), (opa, .inl (cI, pn, .inl pf))]) [0, 1, 2] rfl
  refine vp_callSi (va_runV (As := [.int a1, .int a2]) (rest := [.ref ot]) ⟨hx, hb, hml, hown, hts⟩ (kt_ZY_tileColumns l dC dI cI oy op opa yk pw ph pn pf a1 a2 _ hw) (cwV 2 hts (tb_V mm_467 mm_468 mm_469 mm_4 mm_470) rfl rfl rfl (by decide +kernel) ⟨Nat.le_of_ble_eq_true rfl, Nat.le_of_ble_eq_true rfl⟩) ⟨gr_blind, va_recv hK hPc (ci := 2) (q0 := 0) rfl rfl, fun U hU hW => gr_pre hPc hK hE hU hW⟩ rfl rfl hl.1 rfl (lv_room (Nat.le_of_ble_eq_true rfl)) dZY_cutTile_5 ⟨Nat.le_of_ble_eq_true rfl, Nat.le_of_ble_eq_true rfl⟩).run (fun r_1 hw => ?_)
  refine lv_aload_n hx hb dZY_cutTile_8 rfl (lv_at hl 0 rfl) ?_
  refine lv_iload_n hx hb dZY_cutTile_9 rfl (lv_at hl 1 rfl) ?_
  refine lv_iload_n hx hb dZY_cutTile_10 rfl (lv_at hl 3 rfl) ?_
  have hPc := hP.sub (ws' := [(oy, .inr (2, [.ref op, .int yk])), (op, .inr (1, [.int pw, .int ph, .ref opa])), (opa, .inl (cI, pn, .inl pf))]) [0, 1, 2] rfl
  refine vp_callSi (va_runV (As := [.int a1, .int a3]) (rest := [.int r_1, .ref ot]) ⟨hx, hb, hml, hown, hts⟩ (kt_ZY_tileRows l dC dI cI oy op opa yk pw ph pn pf a1 a3 _ hw) (cwV 2 hts (tb_V mm_471 mm_472 mm_473 mm_4 mm_474) rfl rfl rfl (by decide +kernel) ⟨Nat.le_of_ble_eq_true rfl, Nat.le_of_ble_eq_true rfl⟩) ⟨gr_blind, va_recv hK hPc (ci := 2) (q0 := 0) rfl rfl, fun U hU hW => gr_pre hPc hK hE hU hW⟩ rfl rfl hl.1 rfl (lv_room (Nat.le_of_ble_eq_true rfl)) dZY_cutTile_11 ⟨Nat.le_of_ble_eq_true rfl, Nat.le_of_ble_eq_true rfl⟩).run (fun r_2 hw => ?_)
  have hPc := hP.sub (ws' := [(ot, .inr (4, [.ref ota, .int tw, .int th])), (ota, .inl (cI, 64, .inl tf))]) [3, 4] rfl
  have hDc := hD.sub (ws' := [(ot, .inr (4, [.ref ota, .int tw, .int th])), (ota, .inl (cI, 64, .inl tf))]) [3, 4] (by decide) rfl
  have hFc := va_free (wc := [(ot, .inr (4, [.ref ota, .int tw, .int th])), (ota, .inl (cI, 64, .inl tf))]) hD hS hA [3, 4] rfl
  refine va_callv (va_runV (As := [.int r_1, .int r_2]) (rest := []) ⟨hx, hb, hml, hown, hts⟩ (kt_ZT_setSize l dC dI cI ot ota _ tw th tf r_1 r_2 _ hw) (cwV 2 hts (tb_V mm_475 mm_185 mm_186 mm_7 mm_187) rfl rfl rfl (by decide +kernel) ⟨Nat.le_of_ble_eq_true rfl, Nat.le_of_ble_eq_true rfl⟩) ⟨gw_blind, va_recv hK hPc (ci := 4) (q0 := 0) rfl rfl, fun U hU hW => gw_pre hPc hDc hK hE hU hW⟩ rfl rfl hl.1 rfl (lv_room (Nat.le_of_ble_eq_true rfl)) dZY_cutTile_14 ⟨Nat.le_of_ble_eq_true rfl, Nat.le_of_ble_eq_true rfl⟩) hS (fun q _ h => hFc q h) hFc (fun u t H1 locs ht hvm hw hB hz1 hk1 hS => ?_)
  obtain ⟨tw_3, th_4⟩ := u
  obtain ⟨hP1, hK1, hD1⟩ := hB
  rw [ht] at hP1
  try dsimp only at hw
  obtain ⟨hP, hD⟩ := va_join (wr := [(oy, .inr (2, [.ref op, .int yk])), (op, .inr (1, [.int pw, .int ph, .ref opa])), (opa, .inl (cI, pn, .inl pf))]) (w1 := [(ot, .inr (4, [.ref ota, .int tw_3, .int th_4])), (ota, .inl (cI, 64, .inl tf))]) hP hD [3, 4] [0, 1, 2] rfl rfl (by decide) (by decide) hk1 hFc hP1 hD1
  generalize H1 = H at hP hS ⊢
  have hP : va_P (dC, dI) vwCl [(oy, .inr (2, [.ref op, .int yk])), (op, .inr (1, [.int pw, .int ph, .ref opa])), (opa, .inl (cI, pn, .inl pf)), (ot, .inr (4, [.ref ota, .int tw_3, .int th_4])), (ota, .inl (cI, 64, .inl tf))] H := hP
  have hD : va_D A [(oy, .inr (2, [.ref op, .int yk])), (op, .inr (1, [.int pw, .int ph, .ref opa])), (opa, .inl (cI, pn, .inl pf)), (ot, .inr (4, [.ref ota, .int tw_3, .int th_4])), (ota, .inl (cI, 64, .inl tf))] := hD
  refine lv_iconst (v := (0 : Int32)) hx hb dZY_cutTile_17 (by decide) ?_
  refine lv_istore (lv' := [(5, .int (0 : Int32)), (0, .ref oy), (1, .int a1), (2, .int a2), (3, .int a3), (4, .ref ot)]) hx hb dZY_cutTile_18 hl (by decide) rfl (fun ls hl => ?_)
  have lp20 : ∀ K20 : Int32 → (Nat → Int32) → Prop, (∀ (x5_20 : Int32) (f_20_ota : Nat → Int32), K20 x5_20 f_20_ota → ∀ (H : Heap) (locs : List Loc), va_P (dC, dI) vwCl [(oy, .inr (2, [.ref op, .int yk])), (op, .inr (1, [.int pw, .int ph, .ref opa])), (opa, .inl (cI, pn, .inl pf)), (ot, .inr (4, [.ref ota, .int tw_3, .int th_4])), (ota, .inl (cI, 64, .inl f_20_ota))] H → va_D A [(oy, .inr (2, [.ref op, .int yk])), (op, .inr (1, [.int pw, .int ph, .ref opa])), (opa, .inl (cI, pn, .inl pf)), (ot, .inr (4, [.ref ota, .int tw_3, .int th_4])), (ota, .inl (cI, 64, .inl f_20_ota))] → va_S A s.heap H locs → ∀ ls : Array Slot, lv_has ls 7 [(5, .int x5_20), (0, .ref oy), (1, .int a1), (2, .int a2), (3, .int a3), (4, .ref ot)] → W p l e (headSpec wsZY_cutTile rm_ZY_cutTile).room s m args below meth c H locs 0 0 Q9 (F0 m 83 ls [])) → ∀ (n : Nat) (x5_20 : Int32) (f_20_ota : Nat → Int32), lp_ZY_cutTile_20 yk pw ph pn pf tw th tf a1 a2 a3 r_1 r_2 tw_3 th_4 post K20 n x5_20 f_20_ota → ∀ (H : Heap) (locs : List Loc), va_P (dC, dI) vwCl [(oy, .inr (2, [.ref op, .int yk])), (op, .inr (1, [.int pw, .int ph, .ref opa])), (opa, .inl (cI, pn, .inl pf)), (ot, .inr (4, [.ref ota, .int tw_3, .int th_4])), (ota, .inl (cI, 64, .inl f_20_ota))] H → va_D A [(oy, .inr (2, [.ref op, .int yk])), (op, .inr (1, [.int pw, .int ph, .ref opa])), (opa, .inl (cI, pn, .inl pf)), (ot, .inr (4, [.ref ota, .int tw_3, .int th_4])), (ota, .inl (cI, 64, .inl f_20_ota))] → va_S A s.heap H locs → ∀ ls : Array Slot, lv_has ls 7 [(5, .int x5_20), (0, .ref oy), (1, .int a1), (2, .int a2), (3, .int a3), (4, .ref ot)] → W p l e (headSpec wsZY_cutTile rm_ZY_cutTile).room s m args below meth c H locs 0 0 Q9 (F0 m 20 ls []) := by
    intro K20 aft20 n
    induction n with
    | zero => intro x5_20 f_20_ota hw; exact False.elim hw
    | succ n ih20 =>
      intro x5_20 f_20_ota hw H locs hP hD hS ls hl
      refine lv_iload hx hb dZY_cutTile_20 (lv_at hl 0 rfl) ?_
      refine lv_aload hx hb dZY_cutTile_22 (lv_at hl 5 rfl) ?_
      refine va_get (D := (dC, dI)) (ci := 4) (v := .int th_4) (C := RZT) (T := TZT) (N := 3) hx hb hts inZT hown hK hP 3 rfl rfl 2 (by decide) (hts _ mm_127) (fun _ h9 => h9) rfl dZY_cutTile_24 ?_
      refine lv_icmp_ge (tgt := 83) hx hb dZY_cutTile_27 (by decide) (fun c_5 => ?_) (fun c_5 => ?_)
      · have hw := hw.1 c_5
        exact aft20 x5_20 f_20_ota hw _ _ (hP.sub [0, 1, 2, 3, 4] rfl) (hD.sub [0, 1, 2, 3, 4] (by decide) rfl) hS ls (lv_sub hl [0, 1, 2, 3, 4, 5] rfl)
      · have hw := hw.2 c_5
        refine lv_iconst (v := (0 : Int32)) hx hb dZY_cutTile_30 (by decide) ?_
        refine lv_istore (lv' := [(6, .int (0 : Int32)), (5, .int x5_20), (0, .ref oy), (1, .int a1), (2, .int a2), (3, .int a3), (4, .ref ot)]) hx hb dZY_cutTile_31 hl (by decide) rfl (fun ls hl => ?_)
        have lp33 : ∀ K33 : Int32 → (Nat → Int32) → Prop, (∀ (x6_33 : Int32) (f_33_ota : Nat → Int32), K33 x6_33 f_33_ota → ∀ (H : Heap) (locs : List Loc), va_P (dC, dI) vwCl [(oy, .inr (2, [.ref op, .int yk])), (op, .inr (1, [.int pw, .int ph, .ref opa])), (opa, .inl (cI, pn, .inl pf)), (ot, .inr (4, [.ref ota, .int tw_3, .int th_4])), (ota, .inl (cI, 64, .inl f_33_ota))] H → va_D A [(oy, .inr (2, [.ref op, .int yk])), (op, .inr (1, [.int pw, .int ph, .ref opa])), (opa, .inl (cI, pn, .inl pf)), (ot, .inr (4, [.ref ota, .int tw_3, .int th_4])), (ota, .inl (cI, 64, .inl f_33_ota))] → va_S A s.heap H locs → ∀ ls : Array Slot, lv_has ls 7 [(6, .int x6_33), (5, .int x5_20), (0, .ref oy), (1, .int a1), (2, .int a2), (3, .int a3), (4, .ref ot)] → W p l e (headSpec wsZY_cutTile rm_ZY_cutTile).room s m args below meth c H locs 0 0 Q9 (F0 m 77 ls [])) → ∀ (n : Nat) (x6_33 : Int32) (f_33_ota : Nat → Int32), lp_ZY_cutTile_33 yk pw ph pn pf tw th tf a1 a2 a3 r_1 r_2 tw_3 th_4 x5_20 f_20_ota post K33 n x6_33 f_33_ota → ∀ (H : Heap) (locs : List Loc), va_P (dC, dI) vwCl [(oy, .inr (2, [.ref op, .int yk])), (op, .inr (1, [.int pw, .int ph, .ref opa])), (opa, .inl (cI, pn, .inl pf)), (ot, .inr (4, [.ref ota, .int tw_3, .int th_4])), (ota, .inl (cI, 64, .inl f_33_ota))] H → va_D A [(oy, .inr (2, [.ref op, .int yk])), (op, .inr (1, [.int pw, .int ph, .ref opa])), (opa, .inl (cI, pn, .inl pf)), (ot, .inr (4, [.ref ota, .int tw_3, .int th_4])), (ota, .inl (cI, 64, .inl f_33_ota))] → va_S A s.heap H locs → ∀ ls : Array Slot, lv_has ls 7 [(6, .int x6_33), (5, .int x5_20), (0, .ref oy), (1, .int a1), (2, .int a2), (3, .int a3), (4, .ref ot)] → W p l e (headSpec wsZY_cutTile rm_ZY_cutTile).room s m args below meth c H locs 0 0 Q9 (F0 m 33 ls []) := by
          intro K33 aft33 n
          induction n with
          | zero => intro x6_33 f_33_ota hw; exact False.elim hw
          | succ n ih33 =>
            intro x6_33 f_33_ota hw H locs hP hD hS ls hl
            refine lv_iload hx hb dZY_cutTile_33 (lv_at hl 0 rfl) ?_
            refine lv_aload hx hb dZY_cutTile_35 (lv_at hl 6 rfl) ?_
            refine va_get (D := (dC, dI)) (ci := 4) (v := .int tw_3) (C := RZT) (T := TZT) (N := 3) hx hb hts inZT hown hK hP 3 rfl rfl 1 (by decide) (hts _ mm_122) (fun _ h9 => h9) rfl dZY_cutTile_37 ?_
            refine lv_icmp_ge (tgt := 77) hx hb dZY_cutTile_40 (by decide) (fun c_6 => ?_) (fun c_6 => ?_)
            · have hw := hw.1 c_6
              exact aft33 x6_33 f_33_ota hw _ _ (hP.sub [0, 1, 2, 3, 4] rfl) (hD.sub [0, 1, 2, 3, 4] (by decide) rfl) hS ls (lv_sub hl [0, 1, 2, 3, 4, 5, 6] rfl)
            · have hw := hw.2 c_6
              refine lv_aload hx hb dZY_cutTile_43 (lv_at hl 6 rfl) ?_
              refine lv_iload hx hb dZY_cutTile_45 (lv_at hl 0 rfl) ?_
              refine lv_iload hx hb dZY_cutTile_47 (lv_at hl 1 rfl) ?_
              refine lv_aload_n hx hb dZY_cutTile_49 rfl (lv_at hl 2 rfl) ?_
              refine lv_iload_n hx hb dZY_cutTile_50 rfl (lv_at hl 3 rfl) ?_
              refine lv_bipush (v := (8 : Int32)) hx hb dZY_cutTile_51 (by decide) ?_
              refine lv_iload_n hx hb dZY_cutTile_53 rfl (lv_at hl 4 rfl) ?_
              refine lv_imul hx hb dZY_cutTile_54 ?_
              refine lv_iload hx hb dZY_cutTile_55 (lv_at hl 0 rfl) ?_
              refine lv_iadd hx hb dZY_cutTile_57 ?_
              refine lv_bipush (v := (8 : Int32)) hx hb dZY_cutTile_58 (by decide) ?_
              refine lv_iload_n hx hb dZY_cutTile_60 rfl (lv_at hl 5 rfl) ?_
              refine lv_imul hx hb dZY_cutTile_61 ?_
              refine lv_iload hx hb dZY_cutTile_62 (lv_at hl 1 rfl) ?_
              refine lv_iadd hx hb dZY_cutTile_64 ?_
              have hPc := hP.sub (ws' := [(oy, .inr (2, [.ref op, .int yk])), (op, .inr (1, [.int pw, .int ph, .ref opa])), (opa, .inl (cI, pn, .inl pf))]) [0, 1, 2] rfl
              refine vp_callSi (va_runV (As := [.int a1, .int (((8 : Int32) * a2) + x6_33), .int (((8 : Int32) * a3) + x5_20)]) (rest := [.int x5_20, .int x6_33, .ref ot]) ⟨hx, hb, hml, hown, hts⟩ (kt_ZY_roundedMean l dC dI cI oy op opa yk pw ph pn pf a1 (((8 : Int32) * a2) + x6_33) (((8 : Int32) * a3) + x5_20) _ hw) (cwV 3 hts (tb_V mm_476 mm_400 mm_401 mm_4 mm_402) rfl rfl rfl (by decide +kernel) ⟨Nat.le_of_ble_eq_true rfl, Nat.le_of_ble_eq_true rfl⟩) ⟨gr_blind, va_recv hK hPc (ci := 2) (q0 := 0) rfl rfl, fun U hU hW => gr_pre hPc hK hE hU hW⟩ rfl rfl hl.1 rfl (lv_room (Nat.le_of_ble_eq_true rfl)) dZY_cutTile_65 ⟨Nat.le_of_ble_eq_true rfl, Nat.le_of_ble_eq_true rfl⟩).run (fun r_7 hw => ?_)
              have hPc := hP.sub (ws' := [(ot, .inr (4, [.ref ota, .int tw_3, .int th_4])), (ota, .inl (cI, 64, .inl f_33_ota))]) [3, 4] rfl
              have hDc := hD.sub (ws' := [(ot, .inr (4, [.ref ota, .int tw_3, .int th_4])), (ota, .inl (cI, 64, .inl f_33_ota))]) [3, 4] (by decide) rfl
              have hFc := va_free (wc := [(ot, .inr (4, [.ref ota, .int tw_3, .int th_4])), (ota, .inl (cI, 64, .inl f_33_ota))]) hD hS hA [3, 4] rfl
              refine va_callv (va_runV (As := [.int x6_33, .int x5_20, .int r_7]) (rest := []) ⟨hx, hb, hml, hown, hts⟩ (kt_ZT_setSample l dC dI cI ot ota _ tw_3 th_4 f_33_ota x6_33 x5_20 r_7 _ hw) (cwV 3 hts (tb_V mm_477 mm_210 mm_211 mm_7 mm_212) rfl rfl rfl (by decide +kernel) ⟨Nat.le_of_ble_eq_true rfl, Nat.le_of_ble_eq_true rfl⟩) ⟨gw_blind, va_recv hK hPc (ci := 4) (q0 := 0) rfl rfl, fun U hU hW => gw_pre hPc hDc hK hE hU hW⟩ rfl rfl hl.1 rfl (lv_room (Nat.le_of_ble_eq_true rfl)) dZY_cutTile_68 ⟨Nat.le_of_ble_eq_true rfl, Nat.le_of_ble_eq_true rfl⟩) hS (fun q _ h => hFc q h) hFc (fun tf_8 t H1 locs ht hvm hw hB hz1 hk1 hS => ?_)
              obtain ⟨hP1, hK1, hD1⟩ := hB
              rw [ht] at hP1
              try dsimp only at hw
              obtain ⟨hP, hD⟩ := va_join (wr := [(oy, .inr (2, [.ref op, .int yk])), (op, .inr (1, [.int pw, .int ph, .ref opa])), (opa, .inl (cI, pn, .inl pf))]) (w1 := [(ot, .inr (4, [.ref ota, .int tw_3, .int th_4])), (ota, .inl (cI, 64, .inl tf_8))]) hP hD [3, 4] [0, 1, 2] rfl rfl (by decide) (by decide) hk1 hFc hP1 hD1
              generalize H1 = H at hP hS ⊢
              have hP : va_P (dC, dI) vwCl [(oy, .inr (2, [.ref op, .int yk])), (op, .inr (1, [.int pw, .int ph, .ref opa])), (opa, .inl (cI, pn, .inl pf)), (ot, .inr (4, [.ref ota, .int tw_3, .int th_4])), (ota, .inl (cI, 64, .inl tf_8))] H := hP
              have hD : va_D A [(oy, .inr (2, [.ref op, .int yk])), (op, .inr (1, [.int pw, .int ph, .ref opa])), (opa, .inl (cI, pn, .inl pf)), (ot, .inr (4, [.ref ota, .int tw_3, .int th_4])), (ota, .inl (cI, 64, .inl tf_8))] := hD
              refine lv_iinc (v := x6_33 + (1 : Int32)) (lv' := [(6, .int (x6_33 + (1 : Int32))), (5, .int x5_20), (0, .ref oy), (1, .int a1), (2, .int a2), (3, .int a3), (4, .ref ot)]) hx hb dZY_cutTile_71 hl (k := 0) rfl rfl (by decide) rfl (fun ls hl => ?_)
              refine lv_goto (tgt := 33) hx hb dZY_cutTile_74 (by decide) ?_
              exact ih33 (x6_33 + (1 : Int32)) tf_8 hw _ _ (hP.sub [0, 1, 2, 3, 4] rfl) (hD.sub [0, 1, 2, 3, 4] (by decide) rfl) hS ls (lv_sub hl [0, 1, 2, 3, 4, 5, 6] rfl)
        obtain ⟨n33, hw⟩ := hw
        refine lp33 _ (fun x6_33e f_33e_ota hw H locs hP hD hS ls hl => ?_) n33 (0 : Int32) f_20_ota hw _ _ (hP.sub [0, 1, 2, 3, 4] rfl) (hD.sub [0, 1, 2, 3, 4] (by decide) rfl) hS ls (lv_sub hl [0, 1, 2, 3, 4, 5, 6] rfl)
        refine lv_iinc (v := x5_20 + (1 : Int32)) (lv' := [(5, .int (x5_20 + (1 : Int32))), (6, .int x6_33e), (0, .ref oy), (1, .int a1), (2, .int a2), (3, .int a3), (4, .ref ot)]) hx hb dZY_cutTile_77 hl (k := 1) rfl rfl (by decide) rfl (fun ls hl => ?_)
        refine lv_goto (tgt := 20) hx hb dZY_cutTile_80 (by decide) ?_
        exact ih20 (x5_20 + (1 : Int32)) f_33e_ota hw _ _ (hP.sub [0, 1, 2, 3, 4] rfl) (hD.sub [0, 1, 2, 3, 4] (by decide) rfl) hS ls (lv_sub hl [0, 2, 3, 4, 5, 6] rfl)
  obtain ⟨n20, hw⟩ := hw
  refine lp20 _ (fun x5_20e f_20e_ota hw H locs hP hD hS ls hl => ?_) n20 (0 : Int32) tf hw _ _ (hP.sub [0, 1, 2, 3, 4] rfl) (hD.sub [0, 1, 2, 3, 4] (by decide) rfl) hS ls (lv_sub hl [0, 1, 2, 3, 4, 5] rfl)
  have hP9 := hP.sub (ws' := [(oy, .inr (2, [.ref op, .int yk])), (op, .inr (1, [.int pw, .int ph, .ref opa])), (opa, .inl (cI, pn, .inl pf)), (ot, .inr (4, [.ref ota, .int tw_3, .int th_4])), (ota, .inl (cI, 64, .inl f_20e_ota))]) [0, 1, 2, 3, 4] rfl
  have hD9 := hD.sub (ws' := [(oy, .inr (2, [.ref op, .int yk])), (op, .inr (1, [.int pw, .int ph, .ref opa])), (opa, .inl (cI, pn, .inl pf)), (ot, .inr (4, [.ref ota, .int tw_3, .int th_4])), (ota, .inl (cI, 64, .inl f_20e_ota))]) [0, 1, 2, 3, 4] (by decide) rfl
  subst hQ9
  exact W.vret hx hb hr (fun t ht hW => ⟨⟨(tw_3, th_4, f_20e_ota), rfl, hw, by rw [ht]; exact hP9, va_K.moved hW.alike hK, hD9⟩, hS.F ht⟩) hS.2.2 dZY_cutTile_83
theorem dZY_layTile_0 : decode cZY_layTile 0 = .ok (.iconst 0, 1) := by decide +kernel
theorem dZY_layTile_1 : decode cZY_layTile 1 = .ok (.istore 4, 2) := by decide +kernel
theorem dZY_layTile_3 : decode cZY_layTile 3 = .ok (.iload 4, 2) := by decide +kernel
theorem dZY_layTile_5 : decode cZY_layTile 5 = .ok (.aload_n 3, 1) := by decide +kernel
theorem dZY_layTile_6 : decode cZY_layTile 6 = .ok (.getfield 90, 3) := by decide +kernel
theorem dZY_layTile_9 : decode cZY_layTile 9 = .ok (.if_icmp .ge 56, 3) := by decide +kernel
theorem dZY_layTile_12 : decode cZY_layTile 12 = .ok (.iconst 0, 1) := by decide +kernel
theorem dZY_layTile_13 : decode cZY_layTile 13 = .ok (.istore 5, 2) := by decide +kernel
theorem dZY_layTile_15 : decode cZY_layTile 15 = .ok (.iload 5, 2) := by decide +kernel
theorem dZY_layTile_17 : decode cZY_layTile 17 = .ok (.aload_n 3, 1) := by decide +kernel
theorem dZY_layTile_18 : decode cZY_layTile 18 = .ok (.getfield 91, 3) := by decide +kernel
theorem dZY_layTile_21 : decode cZY_layTile 21 = .ok (.if_icmp .ge 38, 3) := by decide +kernel
theorem dZY_layTile_24 : decode cZY_layTile 24 = .ok (.aload_n 0, 1) := by decide +kernel
theorem dZY_layTile_25 : decode cZY_layTile 25 = .ok (.getfield 9, 3) := by decide +kernel
theorem dZY_layTile_28 : decode cZY_layTile 28 = .ok (.bipush 8, 2) := by decide +kernel
theorem dZY_layTile_30 : decode cZY_layTile 30 = .ok (.iload_n 1, 1) := by decide +kernel
theorem dZY_layTile_31 : decode cZY_layTile 31 = .ok (.imul, 1) := by decide +kernel
theorem dZY_layTile_32 : decode cZY_layTile 32 = .ok (.iload 5, 2) := by decide +kernel
theorem dZY_layTile_34 : decode cZY_layTile 34 = .ok (.iadd, 1) := by decide +kernel
theorem dZY_layTile_35 : decode cZY_layTile 35 = .ok (.bipush 8, 2) := by decide +kernel
theorem dZY_layTile_37 : decode cZY_layTile 37 = .ok (.iload_n 2, 1) := by decide +kernel
theorem dZY_layTile_38 : decode cZY_layTile 38 = .ok (.imul, 1) := by decide +kernel
theorem dZY_layTile_39 : decode cZY_layTile 39 = .ok (.iload 4, 2) := by decide +kernel
theorem dZY_layTile_41 : decode cZY_layTile 41 = .ok (.iadd, 1) := by decide +kernel
theorem dZY_layTile_42 : decode cZY_layTile 42 = .ok (.aload_n 3, 1) := by decide +kernel
theorem dZY_layTile_43 : decode cZY_layTile 43 = .ok (.iload 5, 2) := by decide +kernel
theorem dZY_layTile_45 : decode cZY_layTile 45 = .ok (.iload 4, 2) := by decide +kernel
theorem dZY_layTile_47 : decode cZY_layTile 47 = .ok (.invokevirtual 99, 3) := by decide +kernel
theorem dZY_layTile_50 : decode cZY_layTile 50 = .ok (.invokevirtual 102, 3) := by decide +kernel
theorem dZY_layTile_53 : decode cZY_layTile 53 = .ok (.iinc 5 1, 3) := by decide +kernel
theorem dZY_layTile_56 : decode cZY_layTile 56 = .ok (.goto (-41), 3) := by decide +kernel
theorem dZY_layTile_59 : decode cZY_layTile 59 = .ok (.iinc 4 1, 3) := by decide +kernel
theorem dZY_layTile_62 : decode cZY_layTile 62 = .ok (.goto (-59), 3) := by decide +kernel
theorem dZY_layTile_65 : decode cZY_layTile 65 = .ok (.return_, 1) := by decide +kernel
abbrev wsZY_layTile : List Cond := .code yZY_layTile cZY_layTile 6 none :: tbg
def lp_ZY_layTile_15 (yk : Int32) (pw : Int32) (ph : Int32) (pn : Nat) (pf : Nat → Int32) (tw : Int32) (th : Int32) (tf : Nat → Int32) (a1 : Int32) (a2 : Int32) (x4_3 : Int32) (f_3_opa : Nat → Int32) (post : (Nat → Int32) → Prop) (K15 : Int32 → (Nat → Int32) → Prop) (n : Nat) : Int32 → (Nat → Int32) → Prop := Nat.rec (motive := fun _ => Int32 → (Nat → Int32) → Prop) (fun (x5_15 : Int32) (f_15_opa : Nat → Int32) => False) (fun _ ih15 (x5_15 : Int32) (f_15_opa : Nat → Int32) => ((tw ≤ x5_15 → (K15 x5_15 f_15_opa)) ∧ (¬ tw ≤ x5_15 → (wp_ZT_sampleAt tw th tf x5_15 x4_3 (fun r_3 : Int32 => wp_ZP_setSample pw ph pn f_15_opa (((8 : Int32) * a1) + x5_15) (((8 : Int32) * a2) + x4_3) r_3 (fun (pf_4 : Nat → Int32) => ih15 (x5_15 + (1 : Int32)) pf_4)))))) n
def lp_ZY_layTile_3 (yk : Int32) (pw : Int32) (ph : Int32) (pn : Nat) (pf : Nat → Int32) (tw : Int32) (th : Int32) (tf : Nat → Int32) (a1 : Int32) (a2 : Int32) (post : (Nat → Int32) → Prop) (K3 : Int32 → (Nat → Int32) → Prop) (n : Nat) : Int32 → (Nat → Int32) → Prop := Nat.rec (motive := fun _ => Int32 → (Nat → Int32) → Prop) (fun (x4_3 : Int32) (f_3_opa : Nat → Int32) => False) (fun _ ih3 (x4_3 : Int32) (f_3_opa : Nat → Int32) => ((th ≤ x4_3 → (K3 x4_3 f_3_opa)) ∧ (¬ th ≤ x4_3 → (∃ n : Nat, lp_ZY_layTile_15 yk pw ph pn pf tw th tf a1 a2 x4_3 f_3_opa post (fun (x5_15e : Int32) (f_15e_opa : Nat → Int32) => ih3 (x4_3 + (1 : Int32)) f_15e_opa) n (0 : Int32) f_3_opa)))) n
def wp_ZY_layTile (yk : Int32) (pw : Int32) (ph : Int32) (pn : Nat) (pf : Nat → Int32) (tw : Int32) (th : Int32) (tf : Nat → Int32) (a1 : Int32) (a2 : Int32) (post : (Nat → Int32) → Prop) : Prop := ∃ n : Nat, lp_ZY_layTile_3 yk pw ph pn pf tw th tf a1 a2 post (fun (x4_3e : Int32) (f_3e_opa : Nat → Int32) => post f_3e_opa) n (0 : Int32) pf
abbrev rm_ZY_layTile : Room := { frames := 1, cells := 0, slots := 0, locals := 23 }
set_option maxHeartbeats 4000000 in
set_option maxRecDepth 100000 in
theorem kt_ZY_layTile (l : Launch) (dC : Nat → ClassId) (dI : Nat → Nat → Nat) (cI : ClassId) (oy op opa ot ota : Nat) (sz : Nat) (yk : Int32) (pw : Int32) (ph : Int32) (pn : Nat) (pf : Nat → Int32) (tw : Int32) (th : Int32) (tf : Nat → Int32) (a1 : Int32) (a2 : Int32) (post : (Nat → Int32) → Prop) (hw : wp_ZY_layTile yk pw ph pn pf tw th tf a1 a2 post) : Met l yZY_layTile wsZY_layTile rm_ZY_layTile (gw_Pc dC dI [(cI, .int)] [.ref oy, .int a1, .int a2, .ref ot] [(oy, .inr (2, [.ref op, .int yk])), (op, .inr (1, [.int pw, .int ph, .ref opa])), (opa, .inl (cI, pn, .inl pf)), (ot, .inr (4, [.ref ota, .int tw, .int th])), (ota, .inl (cI, 64, .inl tf))] sz) (va_Qv (fun (u : (Nat → Int32)) => post u) (fun u t => gw_B dC dI [(cI, .int)] (va_A [(oy, .inr (2, [.ref op, .int yk])), (op, .inr (1, [.int pw, .int ph, .ref opa])), (opa, .inl (cI, pn, .inl pf)), (ot, .inr (4, [.ref ota, .int tw, .int th])), (ota, .inl (cI, 64, .inl tf))] sz) [(oy, .inr (2, [.ref op, .int yk])), (op, .inr (1, [.int pw, .int ph, .ref opa])), (opa, .inl (cI, pn, .inl u)), (ot, .inr (4, [.ref ota, .int tw, .int th])), (ota, .inl (cI, 64, .inl tf))] t) (va_A [(oy, .inr (2, [.ref op, .int yk])), (op, .inr (1, [.int pw, .int ph, .ref opa])), (opa, .inl (cI, pn, .inl pf)), (ot, .inr (4, [.ref ota, .int tw, .int th])), (ota, .inl (cI, 64, .inl tf))] sz)) 0 0 (va_A [(oy, .inr (2, [.ref op, .int yk])), (op, .inr (1, [.int pw, .int ph, .ref opa])), (opa, .inl (cI, pn, .inl pf)), (ot, .inr (4, [.ref ota, .int tw, .int th])), (ota, .inl (cI, 64, .inl tf))] sz) := by
  refine Met.ofW (cc := cZY_layTile) (maxL := 6) (ret := none) (by decide) rfl ?_
  intro p e s m args below meth c s₁ B hml hv
  obtain ⟨ha9, hsz, hP, hK, hE, hD0⟩ := hv
  have hx := B.exec
  have hb := B.bytes
  have hr := B.returns
  have hts0 := atoms_spec (ws := wsZY_layTile) B.pre
  have hts : ∀ w ∈ tbg, w.before args s = true := fun w h => hts0 w (List.mem_cons_of_mem _ h)
  have hown : s.vm.findClass RZY = some m.cls := findClass_of_methodNamed B.named
  have hlocks := B.notSynchronized
  subst hsz
  have hD := hD0.self (sz := s.heap.size)
  refine gx_Q (fun Q9 hQ9 => ?_)
  generalize hAe : va_A [(oy, .inr (2, [.ref op, .int yk])), (op, .inr (1, [.int pw, .int ph, .ref opa])), (opa, .inl (cI, pn, .inl pf)), (ot, .inr (4, [.ref ota, .int tw, .int th])), (ota, .inl (cI, 64, .inl tf))] s.heap.size = A at hD hQ9 ⊢
  have hA : ∀ q : Nat, s.heap.size ≤ q → A q := fun q h => by rw [← hAe]; exact Or.inr h
  have hS : va_S A s.heap s.heap [] := va_S.rf
  have hl := lv_entry ([.ref oy, .int a1, .int a2, .ref ot]) (n := 6) (Nat.le_of_ble_eq_true rfl)
  have he9 : entryFrame m args 6 = F0 m 0 ((lg_sl [.ref oy, .int a1, .int a2, .ref ot] ++ List.replicate (6 - (lg_sl ([.ref oy, .int a1, .int a2, .ref ot] : List Value)).length) Slot.unset).toArray) [] := by rw [ha9]; exact lg_entry_eq m [.ref oy, .int a1, .int a2, .ref ot] 6
  rw [he9]
  generalize (lg_sl ([.ref oy, .int a1, .int a2, .ref ot] : List Value) ++ List.replicate (6 - (lg_sl ([.ref oy, .int a1, .int a2, .ref ot] : List Value)).length) Slot.unset).toArray = ls at hl ⊢
  have hl : lv_has ls 6 [(0, .ref oy), (1, .int a1), (2, .int a2), (3, .ref ot)] := hl
  refine lv_iconst (v := (0 : Int32)) hx hb dZY_layTile_0 (by decide) ?_
  refine lv_istore (lv' := [(4, .int (0 : Int32)), (0, .ref oy), (1, .int a1), (2, .int a2), (3, .ref ot)]) hx hb dZY_layTile_1 hl (by decide) rfl (fun ls hl => ?_)
  have lp3 : ∀ K3 : Int32 → (Nat → Int32) → Prop, (∀ (x4_3 : Int32) (f_3_opa : Nat → Int32), K3 x4_3 f_3_opa → ∀ (H : Heap) (locs : List Loc), va_P (dC, dI) vwCl [(oy, .inr (2, [.ref op, .int yk])), (op, .inr (1, [.int pw, .int ph, .ref opa])), (opa, .inl (cI, pn, .inl f_3_opa)), (ot, .inr (4, [.ref ota, .int tw, .int th])), (ota, .inl (cI, 64, .inl tf))] H → va_D A [(oy, .inr (2, [.ref op, .int yk])), (op, .inr (1, [.int pw, .int ph, .ref opa])), (opa, .inl (cI, pn, .inl f_3_opa)), (ot, .inr (4, [.ref ota, .int tw, .int th])), (ota, .inl (cI, 64, .inl tf))] → va_S A s.heap H locs → ∀ ls : Array Slot, lv_has ls 6 [(4, .int x4_3), (0, .ref oy), (1, .int a1), (2, .int a2), (3, .ref ot)] → W p l e (headSpec wsZY_layTile rm_ZY_layTile).room s m args below meth c H locs 0 0 Q9 (F0 m 65 ls [])) → ∀ (n : Nat) (x4_3 : Int32) (f_3_opa : Nat → Int32), lp_ZY_layTile_3 yk pw ph pn pf tw th tf a1 a2 post K3 n x4_3 f_3_opa → ∀ (H : Heap) (locs : List Loc), va_P (dC, dI) vwCl [(oy, .inr (2, [.ref op, .int yk])), (op, .inr (1, [.int pw, .int ph, .ref opa])), (opa, .inl (cI, pn, .inl f_3_opa)), (ot, .inr (4, [.ref ota, .int tw, .int th])), (ota, .inl (cI, 64, .inl tf))] H → va_D A [(oy, .inr (2, [.ref op, .int yk])), (op, .inr (1, [.int pw, .int ph, .ref opa])), (opa, .inl (cI, pn, .inl f_3_opa)), (ot, .inr (4, [.ref ota, .int tw, .int th])), (ota, .inl (cI, 64, .inl tf))] → va_S A s.heap H locs → ∀ ls : Array Slot, lv_has ls 6 [(4, .int x4_3), (0, .ref oy), (1, .int a1), (2, .int a2), (3, .ref ot)] → W p l e (headSpec wsZY_layTile rm_ZY_layTile).room s m args below meth c H locs 0 0 Q9 (F0 m 3 ls []) := by
    intro K3 aft3 n
    induction n with
    | zero => intro x4_3 f_3_opa hw; exact False.elim hw
    | succ n ih3 =>
      intro x4_3 f_3_opa hw H locs hP hD hS ls hl
      refine lv_iload hx hb dZY_layTile_3 (lv_at hl 0 rfl) ?_
      refine lv_aload_n hx hb dZY_layTile_5 rfl (lv_at hl 4 rfl) ?_
      refine va_get (D := (dC, dI)) (ci := 4) (v := .int th) (C := RZT) (T := TZT) (N := 3) hx hb hts inZT hown hK hP 3 rfl rfl 2 (by decide) (hts _ mm_127) (fun _ h9 => h9) rfl dZY_layTile_6 ?_
      refine lv_icmp_ge (tgt := 65) hx hb dZY_layTile_9 (by decide) (fun c_1 => ?_) (fun c_1 => ?_)
      · have hw := hw.1 c_1
        exact aft3 x4_3 f_3_opa hw _ _ (hP.sub [0, 1, 2, 3, 4] rfl) (hD.sub [0, 1, 2, 3, 4] (by decide) rfl) hS ls (lv_sub hl [0, 1, 2, 3, 4] rfl)
      · have hw := hw.2 c_1
        refine lv_iconst (v := (0 : Int32)) hx hb dZY_layTile_12 (by decide) ?_
        refine lv_istore (lv' := [(5, .int (0 : Int32)), (4, .int x4_3), (0, .ref oy), (1, .int a1), (2, .int a2), (3, .ref ot)]) hx hb dZY_layTile_13 hl (by decide) rfl (fun ls hl => ?_)
        have lp15 : ∀ K15 : Int32 → (Nat → Int32) → Prop, (∀ (x5_15 : Int32) (f_15_opa : Nat → Int32), K15 x5_15 f_15_opa → ∀ (H : Heap) (locs : List Loc), va_P (dC, dI) vwCl [(oy, .inr (2, [.ref op, .int yk])), (op, .inr (1, [.int pw, .int ph, .ref opa])), (opa, .inl (cI, pn, .inl f_15_opa)), (ot, .inr (4, [.ref ota, .int tw, .int th])), (ota, .inl (cI, 64, .inl tf))] H → va_D A [(oy, .inr (2, [.ref op, .int yk])), (op, .inr (1, [.int pw, .int ph, .ref opa])), (opa, .inl (cI, pn, .inl f_15_opa)), (ot, .inr (4, [.ref ota, .int tw, .int th])), (ota, .inl (cI, 64, .inl tf))] → va_S A s.heap H locs → ∀ ls : Array Slot, lv_has ls 6 [(5, .int x5_15), (4, .int x4_3), (0, .ref oy), (1, .int a1), (2, .int a2), (3, .ref ot)] → W p l e (headSpec wsZY_layTile rm_ZY_layTile).room s m args below meth c H locs 0 0 Q9 (F0 m 59 ls [])) → ∀ (n : Nat) (x5_15 : Int32) (f_15_opa : Nat → Int32), lp_ZY_layTile_15 yk pw ph pn pf tw th tf a1 a2 x4_3 f_3_opa post K15 n x5_15 f_15_opa → ∀ (H : Heap) (locs : List Loc), va_P (dC, dI) vwCl [(oy, .inr (2, [.ref op, .int yk])), (op, .inr (1, [.int pw, .int ph, .ref opa])), (opa, .inl (cI, pn, .inl f_15_opa)), (ot, .inr (4, [.ref ota, .int tw, .int th])), (ota, .inl (cI, 64, .inl tf))] H → va_D A [(oy, .inr (2, [.ref op, .int yk])), (op, .inr (1, [.int pw, .int ph, .ref opa])), (opa, .inl (cI, pn, .inl f_15_opa)), (ot, .inr (4, [.ref ota, .int tw, .int th])), (ota, .inl (cI, 64, .inl tf))] → va_S A s.heap H locs → ∀ ls : Array Slot, lv_has ls 6 [(5, .int x5_15), (4, .int x4_3), (0, .ref oy), (1, .int a1), (2, .int a2), (3, .ref ot)] → W p l e (headSpec wsZY_layTile rm_ZY_layTile).room s m args below meth c H locs 0 0 Q9 (F0 m 15 ls []) := by
          intro K15 aft15 n
          induction n with
          | zero => intro x5_15 f_15_opa hw; exact False.elim hw
          | succ n ih15 =>
            intro x5_15 f_15_opa hw H locs hP hD hS ls hl
            refine lv_iload hx hb dZY_layTile_15 (lv_at hl 0 rfl) ?_
            refine lv_aload_n hx hb dZY_layTile_17 rfl (lv_at hl 5 rfl) ?_
            refine va_get (D := (dC, dI)) (ci := 4) (v := .int tw) (C := RZT) (T := TZT) (N := 3) hx hb hts inZT hown hK hP 3 rfl rfl 1 (by decide) (hts _ mm_122) (fun _ h9 => h9) rfl dZY_layTile_18 ?_
            refine lv_icmp_ge (tgt := 59) hx hb dZY_layTile_21 (by decide) (fun c_2 => ?_) (fun c_2 => ?_)
            · have hw := hw.1 c_2
              exact aft15 x5_15 f_15_opa hw _ _ (hP.sub [0, 1, 2, 3, 4] rfl) (hD.sub [0, 1, 2, 3, 4] (by decide) rfl) hS ls (lv_sub hl [0, 1, 2, 3, 4, 5] rfl)
            · have hw := hw.2 c_2
              refine lv_aload_n hx hb dZY_layTile_24 rfl (lv_at hl 2 rfl) ?_
              refine va_get (D := (dC, dI)) (ci := 2) (v := .ref op) (C := RZY) (T := TZY) (N := 2) hx hb hts inZY hown hK hP 0 rfl rfl 0 (by decide) (hts _ mm_61) (fun _ h9 => h9) rfl dZY_layTile_25 ?_
              refine lv_bipush (v := (8 : Int32)) hx hb dZY_layTile_28 (by decide) ?_
              refine lv_iload_n hx hb dZY_layTile_30 rfl (lv_at hl 3 rfl) ?_
              refine lv_imul hx hb dZY_layTile_31 ?_
              refine lv_iload hx hb dZY_layTile_32 (lv_at hl 0 rfl) ?_
              refine lv_iadd hx hb dZY_layTile_34 ?_
              refine lv_bipush (v := (8 : Int32)) hx hb dZY_layTile_35 (by decide) ?_
              refine lv_iload_n hx hb dZY_layTile_37 rfl (lv_at hl 4 rfl) ?_
              refine lv_imul hx hb dZY_layTile_38 ?_
              refine lv_iload hx hb dZY_layTile_39 (lv_at hl 1 rfl) ?_
              refine lv_iadd hx hb dZY_layTile_41 ?_
              refine lv_aload_n hx hb dZY_layTile_42 rfl (lv_at hl 5 rfl) ?_
              refine lv_iload hx hb dZY_layTile_43 (lv_at hl 0 rfl) ?_
              refine lv_iload hx hb dZY_layTile_45 (lv_at hl 1 rfl) ?_
              have hPc := hP.sub (ws' := [(ot, .inr (4, [.ref ota, .int tw, .int th])), (ota, .inl (cI, 64, .inl tf))]) [3, 4] rfl
              refine vp_callSi (va_runV (As := [.int x5_15, .int x4_3]) (rest := [.int (((8 : Int32) * a2) + x4_3), .int (((8 : Int32) * a1) + x5_15), .ref op]) ⟨hx, hb, hml, hown, hts⟩ (kt_ZT_sampleAt l dC dI cI ot ota tw th tf x5_15 x4_3 _ hw) (cwV 2 hts (tb_V mm_566 mm_200 mm_201 mm_7 mm_202) rfl rfl rfl (by decide +kernel) ⟨Nat.le_of_ble_eq_true rfl, Nat.le_of_ble_eq_true rfl⟩) ⟨gr_blind, va_recv hK hPc (ci := 4) (q0 := 0) rfl rfl, fun U hU hW => gr_pre hPc hK hE hU hW⟩ rfl rfl hl.1 rfl (lv_room (Nat.le_of_ble_eq_true rfl)) dZY_layTile_47 ⟨Nat.le_of_ble_eq_true rfl, Nat.le_of_ble_eq_true rfl⟩).run (fun r_3 hw => ?_)
              have hPc := hP.sub (ws' := [(op, .inr (1, [.int pw, .int ph, .ref opa])), (opa, .inl (cI, pn, .inl f_15_opa))]) [1, 2] rfl
              have hDc := hD.sub (ws' := [(op, .inr (1, [.int pw, .int ph, .ref opa])), (opa, .inl (cI, pn, .inl f_15_opa))]) [1, 2] (by decide) rfl
              have hFc := va_free (wc := [(op, .inr (1, [.int pw, .int ph, .ref opa])), (opa, .inl (cI, pn, .inl f_15_opa))]) hD hS hA [1, 2] rfl
              refine va_callv (va_runV (As := [.int (((8 : Int32) * a1) + x5_15), .int (((8 : Int32) * a2) + x4_3), .int r_3]) (rest := []) ⟨hx, hb, hml, hown, hts⟩ (kt_ZP_setSample l dC dI cI op opa _ pw ph pn f_15_opa (((8 : Int32) * a1) + x5_15) (((8 : Int32) * a2) + x4_3) r_3 _ hw) (cwV 3 hts (tb_V mm_567 mm_335 mm_336 mm_3 mm_337) rfl rfl rfl (by decide +kernel) ⟨Nat.le_of_ble_eq_true rfl, Nat.le_of_ble_eq_true rfl⟩) ⟨gw_blind, va_recv hK hPc (ci := 1) (q0 := 0) rfl rfl, fun U hU hW => gw_pre hPc hDc hK hE hU hW⟩ rfl rfl hl.1 rfl (lv_room (Nat.le_of_ble_eq_true rfl)) dZY_layTile_50 ⟨Nat.le_of_ble_eq_true rfl, Nat.le_of_ble_eq_true rfl⟩) hS (fun q _ h => hFc q h) hFc (fun pf_4 t H1 locs ht hvm hw hB hz1 hk1 hS => ?_)
              obtain ⟨hP1, hK1, hD1⟩ := hB
              rw [ht] at hP1
              try dsimp only at hw
              obtain ⟨hP, hD⟩ := va_join (wr := [(oy, .inr (2, [.ref op, .int yk])), (ot, .inr (4, [.ref ota, .int tw, .int th])), (ota, .inl (cI, 64, .inl tf))]) (w1 := [(op, .inr (1, [.int pw, .int ph, .ref opa])), (opa, .inl (cI, pn, .inl pf_4))]) hP hD [1, 2] [0, 3, 4] rfl rfl (by decide) (by decide) hk1 hFc hP1 hD1
              generalize H1 = H at hP hS ⊢
              have hP : va_P (dC, dI) vwCl [(oy, .inr (2, [.ref op, .int yk])), (ot, .inr (4, [.ref ota, .int tw, .int th])), (ota, .inl (cI, 64, .inl tf)), (op, .inr (1, [.int pw, .int ph, .ref opa])), (opa, .inl (cI, pn, .inl pf_4))] H := hP
              have hD : va_D A [(oy, .inr (2, [.ref op, .int yk])), (ot, .inr (4, [.ref ota, .int tw, .int th])), (ota, .inl (cI, 64, .inl tf)), (op, .inr (1, [.int pw, .int ph, .ref opa])), (opa, .inl (cI, pn, .inl pf_4))] := hD
              refine lv_iinc (v := x5_15 + (1 : Int32)) (lv' := [(5, .int (x5_15 + (1 : Int32))), (4, .int x4_3), (0, .ref oy), (1, .int a1), (2, .int a2), (3, .ref ot)]) hx hb dZY_layTile_53 hl (k := 0) rfl rfl (by decide) rfl (fun ls hl => ?_)
              refine lv_goto (tgt := 15) hx hb dZY_layTile_56 (by decide) ?_
              exact ih15 (x5_15 + (1 : Int32)) pf_4 hw _ _ (hP.sub [0, 3, 4, 1, 2] rfl) (hD.sub [0, 3, 4, 1, 2] (by decide) rfl) hS ls (lv_sub hl [0, 1, 2, 3, 4, 5] rfl)
        obtain ⟨n15, hw⟩ := hw
        refine lp15 _ (fun x5_15e f_15e_opa hw H locs hP hD hS ls hl => ?_) n15 (0 : Int32) f_3_opa hw _ _ (hP.sub [0, 1, 2, 3, 4] rfl) (hD.sub [0, 1, 2, 3, 4] (by decide) rfl) hS ls (lv_sub hl [0, 1, 2, 3, 4, 5] rfl)
        refine lv_iinc (v := x4_3 + (1 : Int32)) (lv' := [(4, .int (x4_3 + (1 : Int32))), (5, .int x5_15e), (0, .ref oy), (1, .int a1), (2, .int a2), (3, .ref ot)]) hx hb dZY_layTile_59 hl (k := 1) rfl rfl (by decide) rfl (fun ls hl => ?_)
        refine lv_goto (tgt := 3) hx hb dZY_layTile_62 (by decide) ?_
        exact ih3 (x4_3 + (1 : Int32)) f_15e_opa hw _ _ (hP.sub [0, 1, 2, 3, 4] rfl) (hD.sub [0, 1, 2, 3, 4] (by decide) rfl) hS ls (lv_sub hl [0, 2, 3, 4, 5] rfl)
  obtain ⟨n3, hw⟩ := hw
  refine lp3 _ (fun x4_3e f_3e_opa hw H locs hP hD hS ls hl => ?_) n3 (0 : Int32) pf hw _ _ (hP.sub [0, 1, 2, 3, 4] rfl) (hD.sub [0, 1, 2, 3, 4] (by decide) rfl) hS ls (lv_sub hl [0, 1, 2, 3, 4] rfl)
  have hP9 := hP.sub (ws' := [(oy, .inr (2, [.ref op, .int yk])), (op, .inr (1, [.int pw, .int ph, .ref opa])), (opa, .inl (cI, pn, .inl f_3e_opa)), (ot, .inr (4, [.ref ota, .int tw, .int th])), (ota, .inl (cI, 64, .inl tf))]) [0, 1, 2, 3, 4] rfl
  have hD9 := hD.sub (ws' := [(oy, .inr (2, [.ref op, .int yk])), (op, .inr (1, [.int pw, .int ph, .ref opa])), (opa, .inl (cI, pn, .inl f_3e_opa)), (ot, .inr (4, [.ref ota, .int tw, .int th])), (ota, .inl (cI, 64, .inl tf))]) [0, 1, 2, 3, 4] (by decide) rfl
  subst hQ9
  exact W.vret hx hb hr (fun t ht hW => ⟨⟨f_3e_opa, rfl, hw, by rw [ht]; exact hP9, va_K.moved hW.alike hK, hD9⟩, hS.F ht⟩) hS.2.2 dZY_layTile_65
theorem dZY_init_0 : decode cZY_init 0 = .ok (.aload_n 0, 1) := by decide +kernel
theorem dZY_init_1 : decode cZY_init 1 = .ok (.invokespecial 3, 3) := by decide +kernel
theorem dZY_init_4 : decode cZY_init 4 = .ok (.aload_n 0, 1) := by decide +kernel
theorem dZY_init_5 : decode cZY_init 5 = .ok (.aload_n 1, 1) := by decide +kernel
theorem dZY_init_6 : decode cZY_init 6 = .ok (.putfield 9, 3) := by decide +kernel
theorem dZY_init_9 : decode cZY_init 9 = .ok (.aload_n 1, 1) := by decide +kernel
theorem dZY_init_10 : decode cZY_init 10 = .ok (.getfield 15, 3) := by decide +kernel
theorem dZY_init_13 : decode cZY_init 13 = .ok (.aload_n 1, 1) := by decide +kernel
theorem dZY_init_14 : decode cZY_init 14 = .ok (.getfield 21, 3) := by decide +kernel
theorem dZY_init_17 : decode cZY_init 17 = .ok (.invokestatic 24, 3) := by decide +kernel
theorem dZY_init_20 : decode cZY_init 20 = .ok (.istore_n 2, 1) := by decide +kernel
theorem dZY_init_21 : decode cZY_init 21 = .ok (.iconst 1, 1) := by decide +kernel
theorem dZY_init_22 : decode cZY_init 22 = .ok (.istore_n 3, 1) := by decide +kernel
theorem dZY_init_23 : decode cZY_init 23 = .ok (.iconst 1, 1) := by decide +kernel
theorem dZY_init_24 : decode cZY_init 24 = .ok (.istore 4, 2) := by decide +kernel
theorem dZY_init_26 : decode cZY_init 26 = .ok (.iload 4, 2) := by decide +kernel
theorem dZY_init_28 : decode cZY_init 28 = .ok (.iload_n 2, 1) := by decide +kernel
theorem dZY_init_29 : decode cZY_init 29 = .ok (.if_icmp .ge 15, 3) := by decide +kernel
theorem dZY_init_32 : decode cZY_init 32 = .ok (.iinc 3 1, 3) := by decide +kernel
theorem dZY_init_35 : decode cZY_init 35 = .ok (.iload 4, 2) := by decide +kernel
theorem dZY_init_37 : decode cZY_init 37 = .ok (.iconst 2, 1) := by decide +kernel
theorem dZY_init_38 : decode cZY_init 38 = .ok (.imul, 1) := by decide +kernel
theorem dZY_init_39 : decode cZY_init 39 = .ok (.istore 4, 2) := by decide +kernel
theorem dZY_init_41 : decode cZY_init 41 = .ok (.goto (-15), 3) := by decide +kernel
theorem dZY_init_44 : decode cZY_init 44 = .ok (.aload_n 0, 1) := by decide +kernel
theorem dZY_init_45 : decode cZY_init 45 = .ok (.iload_n 3, 1) := by decide +kernel
theorem dZY_init_46 : decode cZY_init 46 = .ok (.putfield 30, 3) := by decide +kernel
theorem dZY_init_49 : decode cZY_init 49 = .ok (.return_, 1) := by decide +kernel
abbrev wsZY_init : List Cond := .code yZY_init cZY_init 5 none :: tbg
def lp_ZY_init_26 (pw : Int32) (ph : Int32) (pn : Nat) (pf : Nat → Int32) (post : Int32 → Prop) (K26 : Int32 → Int32 → Prop) (n : Nat) : Int32 → Int32 → Prop := Nat.rec (motive := fun _ => Int32 → Int32 → Prop) (fun (x3_26 : Int32) (x4_26 : Int32) => False) (fun _ ih26 (x3_26 : Int32) (x4_26 : Int32) => (((if pw < ph then ph else pw) ≤ x4_26 → (K26 x3_26 x4_26)) ∧ (¬ (if pw < ph then ph else pw) ≤ x4_26 → (ih26 (x3_26 + (1 : Int32)) (x4_26 * (2 : Int32)))))) n
def wp_ZY_init (pw : Int32) (ph : Int32) (pn : Nat) (pf : Nat → Int32) (post : Int32 → Prop) : Prop := ∃ n : Nat, lp_ZY_init_26 pw ph pn pf post (fun (x3_26e : Int32) (x4_26e : Int32) => post x3_26e) n (1 : Int32) (1 : Int32)
abbrev rm_ZY_init : Room := { frames := 1, cells := 0, slots := 0, locals := 21 }
set_option maxHeartbeats 4000000 in
set_option maxRecDepth 100000 in
theorem kt_ZY_init (l : Launch) (dC : Nat → ClassId) (dI : Nat → Nat → Nat) (cI : ClassId) (oy op opa : Nat) (sz : Nat) (pw : Int32) (ph : Int32) (pn : Nat) (pf : Nat → Int32) (post : Int32 → Prop) (hw : wp_ZY_init pw ph pn pf post) : Met l yZY_init wsZY_init rm_ZY_init (gw_Pc dC dI [(cI, .int)] [.ref oy, .ref op] [(oy, .inr (2, [.null, .int (0 : Int32)])), (op, .inr (1, [.int pw, .int ph, .ref opa])), (opa, .inl (cI, pn, .inl pf))] sz) (va_Qv (fun (u : Int32) => post u) (fun u t => gw_B dC dI [(cI, .int)] (va_A [(oy, .inr (2, [.null, .int (0 : Int32)])), (op, .inr (1, [.int pw, .int ph, .ref opa])), (opa, .inl (cI, pn, .inl pf))] sz) [(oy, .inr (2, [.ref op, .int u])), (op, .inr (1, [.int pw, .int ph, .ref opa])), (opa, .inl (cI, pn, .inl pf))] t) (va_A [(oy, .inr (2, [.null, .int (0 : Int32)])), (op, .inr (1, [.int pw, .int ph, .ref opa])), (opa, .inl (cI, pn, .inl pf))] sz)) 0 0 (va_A [(oy, .inr (2, [.null, .int (0 : Int32)])), (op, .inr (1, [.int pw, .int ph, .ref opa])), (opa, .inl (cI, pn, .inl pf))] sz) := by
  refine Met.ofW (cc := cZY_init) (maxL := 5) (ret := none) (by decide) rfl ?_
  intro p e s m args below meth c s₁ B hml hv
  obtain ⟨ha9, hsz, hP, hK, hE, hD0⟩ := hv
  have hx := B.exec
  have hb := B.bytes
  have hr := B.returns
  have hts0 := atoms_spec (ws := wsZY_init) B.pre
  have hts : ∀ w ∈ tbg, w.before args s = true := fun w h => hts0 w (List.mem_cons_of_mem _ h)
  have hown : s.vm.findClass RZY = some m.cls := findClass_of_methodNamed B.named
  have hlocks := B.notSynchronized
  have hin : meth.name = "<init>" := (name_of_methodNamed B.named B.method).1
  subst hsz
  have hD := hD0.self (sz := s.heap.size)
  refine gx_Q (fun Q9 hQ9 => ?_)
  generalize hAe : va_A [(oy, .inr (2, [.null, .int (0 : Int32)])), (op, .inr (1, [.int pw, .int ph, .ref opa])), (opa, .inl (cI, pn, .inl pf))] s.heap.size = A at hD hQ9 ⊢
  have hA : ∀ q : Nat, s.heap.size ≤ q → A q := fun q h => by rw [← hAe]; exact Or.inr h
  have hS : va_S A s.heap s.heap [] := va_S.rf
  have hl := lv_entry ([.ref oy, .ref op]) (n := 5) (Nat.le_of_ble_eq_true rfl)
  have he9 : entryFrame m args 5 = F0 m 0 ((lg_sl [.ref oy, .ref op] ++ List.replicate (5 - (lg_sl ([.ref oy, .ref op] : List Value)).length) Slot.unset).toArray) [] := by rw [ha9]; exact lg_entry_eq m [.ref oy, .ref op] 5
  rw [he9]
  generalize (lg_sl ([.ref oy, .ref op] : List Value) ++ List.replicate (5 - (lg_sl ([.ref oy, .ref op] : List Value)).length) Slot.unset).toArray = ls at hl ⊢
  have hl : lv_has ls 5 [(0, .ref oy), (1, .ref op)] := hl
  refine lv_aload_n hx hb dZY_init_0 rfl (lv_at hl 0 rfl) ?_
  refine W.objInit hx hb hown (hts _ mm_59) (hts _ mm_23) (hts _ mm_24) rfl (by rw [hml]; exact hl.1) rfl dZY_init_1 (Nat.le_of_ble_eq_true rfl) (Nat.le_of_ble_eq_true rfl) ?_
  refine W.eq (g2 := F0 m 4 ls []) rfl ?_
  refine lv_aload_n hx hb dZY_init_4 rfl (lv_at hl 0 rfl) ?_
  refine lv_aload_n hx hb dZY_init_5 rfl (lv_at hl 1 rfl) ?_
  refine va_putF (D := (dC, dI)) (ci := 2) (v := .ref op) (ty := (.object "TilePyramid$Picture")) (C := RZY) (T := TZY) (N := 2) hx hb hts inZY tyZY tyZY_ok nmZY hown hK hP hD hS 0 rfl rfl 0 (by decide) (hts _ mm_61) (fun _ h9 => h9) rfl hin rfl (by decide +kernel) rfl rfl (Nat.le_of_ble_eq_true rfl) dZY_init_6 (fun H locs hP hD hS => ?_)
  have hP : va_P (dC, dI) vwCl [(oy, .inr (2, [.ref op, .int (0 : Int32)])), (op, .inr (1, [.int pw, .int ph, .ref opa])), (opa, .inl (cI, pn, .inl pf))] H := hP
  have hD : va_D A [(oy, .inr (2, [.ref op, .int (0 : Int32)])), (op, .inr (1, [.int pw, .int ph, .ref opa])), (opa, .inl (cI, pn, .inl pf))] := hD
  refine lv_aload_n hx hb dZY_init_9 rfl (lv_at hl 1 rfl) ?_
  refine va_get (D := (dC, dI)) (ci := 1) (v := .int pw) (C := RZP) (T := TZP) (N := 3) hx hb hts inZP hown hK hP 1 rfl rfl 0 (by decide) (hts _ mm_38) (fun _ h9 => h9) rfl dZY_init_10 ?_
  refine lv_aload_n hx hb dZY_init_13 rfl (lv_at hl 1 rfl) ?_
  refine va_get (D := (dC, dI)) (ci := 1) (v := .int ph) (C := RZP) (T := TZP) (N := 3) hx hb hts inZP hown hK hP 1 rfl rfl 1 (by decide) (hts _ mm_42) (fun _ h9 => h9) rfl dZY_init_14 ?_
  refine va_mmax hx hb (hml.trans hl.1.symm) hown (hts _ mm_60) (hts _ mm_29) (hts _ mm_2) (hts _ mm_30) (Nat.le_of_ble_eq_true rfl) (Nat.le_of_ble_eq_true rfl) (Nat.le_of_ble_eq_true rfl) (Nat.le_of_ble_eq_true rfl) dZY_init_17 ?_
  refine lv_istore_n (lv' := [(2, .int (if pw < ph then ph else pw)), (0, .ref oy), (1, .ref op)]) hx hb dZY_init_20 rfl hl (by decide) rfl (fun ls hl => ?_)
  refine lv_iconst (v := (1 : Int32)) hx hb dZY_init_21 (by decide) ?_
  refine lv_istore_n (lv' := [(3, .int (1 : Int32)), (2, .int (if pw < ph then ph else pw)), (0, .ref oy), (1, .ref op)]) hx hb dZY_init_22 rfl hl (by decide) rfl (fun ls hl => ?_)
  refine lv_iconst (v := (1 : Int32)) hx hb dZY_init_23 (by decide) ?_
  refine lv_istore (lv' := [(4, .int (1 : Int32)), (3, .int (1 : Int32)), (2, .int (if pw < ph then ph else pw)), (0, .ref oy), (1, .ref op)]) hx hb dZY_init_24 hl (by decide) rfl (fun ls hl => ?_)
  have lp26 : ∀ K26 : Int32 → Int32 → Prop, (∀ (x3_26 : Int32) (x4_26 : Int32), K26 x3_26 x4_26 → ∀ (H : Heap) (locs : List Loc), va_P (dC, dI) vwCl [(oy, .inr (2, [.ref op, .int (0 : Int32)])), (op, .inr (1, [.int pw, .int ph, .ref opa])), (opa, .inl (cI, pn, .inl pf))] H → va_D A [(oy, .inr (2, [.ref op, .int (0 : Int32)])), (op, .inr (1, [.int pw, .int ph, .ref opa])), (opa, .inl (cI, pn, .inl pf))] → va_S A s.heap H locs → ∀ ls : Array Slot, lv_has ls 5 [(4, .int x4_26), (3, .int x3_26), (2, .int (if pw < ph then ph else pw)), (0, .ref oy), (1, .ref op)] → W p l e (headSpec wsZY_init rm_ZY_init).room s m args below meth c H locs 0 0 Q9 (F0 m 44 ls [])) → ∀ (n : Nat) (x3_26 : Int32) (x4_26 : Int32), lp_ZY_init_26 pw ph pn pf post K26 n x3_26 x4_26 → ∀ (H : Heap) (locs : List Loc), va_P (dC, dI) vwCl [(oy, .inr (2, [.ref op, .int (0 : Int32)])), (op, .inr (1, [.int pw, .int ph, .ref opa])), (opa, .inl (cI, pn, .inl pf))] H → va_D A [(oy, .inr (2, [.ref op, .int (0 : Int32)])), (op, .inr (1, [.int pw, .int ph, .ref opa])), (opa, .inl (cI, pn, .inl pf))] → va_S A s.heap H locs → ∀ ls : Array Slot, lv_has ls 5 [(4, .int x4_26), (3, .int x3_26), (2, .int (if pw < ph then ph else pw)), (0, .ref oy), (1, .ref op)] → W p l e (headSpec wsZY_init rm_ZY_init).room s m args below meth c H locs 0 0 Q9 (F0 m 26 ls []) := by
    intro K26 aft26 n
    induction n with
    | zero => intro x3_26 x4_26 hw; exact False.elim hw
    | succ n ih26 =>
      intro x3_26 x4_26 hw H locs hP hD hS ls hl
      refine lv_iload hx hb dZY_init_26 (lv_at hl 0 rfl) ?_
      refine lv_iload_n hx hb dZY_init_28 rfl (lv_at hl 2 rfl) ?_
      refine lv_icmp_ge (tgt := 44) hx hb dZY_init_29 (by decide) (fun c_1 => ?_) (fun c_1 => ?_)
      · have hw := hw.1 c_1
        exact aft26 x3_26 x4_26 hw _ _ (hP.sub [0, 1, 2] rfl) (hD.sub [0, 1, 2] (by decide) rfl) hS ls (lv_sub hl [0, 1, 2, 3, 4] rfl)
      · have hw := hw.2 c_1
        refine lv_iinc (v := x3_26 + (1 : Int32)) (lv' := [(3, .int (x3_26 + (1 : Int32))), (4, .int x4_26), (2, .int (if pw < ph then ph else pw)), (0, .ref oy), (1, .ref op)]) hx hb dZY_init_32 hl (k := 1) rfl rfl (by decide) rfl (fun ls hl => ?_)
        refine lv_iload hx hb dZY_init_35 (lv_at hl 1 rfl) ?_
        refine lv_iconst (v := (2 : Int32)) hx hb dZY_init_37 (by decide) ?_
        refine lv_imul hx hb dZY_init_38 ?_
        refine lv_istore (lv' := [(4, .int (x4_26 * (2 : Int32))), (3, .int (x3_26 + (1 : Int32))), (2, .int (if pw < ph then ph else pw)), (0, .ref oy), (1, .ref op)]) hx hb dZY_init_39 hl (by decide) rfl (fun ls hl => ?_)
        refine lv_goto (tgt := 26) hx hb dZY_init_41 (by decide) ?_
        exact ih26 (x3_26 + (1 : Int32)) (x4_26 * (2 : Int32)) hw _ _ (hP.sub [0, 1, 2] rfl) (hD.sub [0, 1, 2] (by decide) rfl) hS ls (lv_sub hl [0, 1, 2, 3, 4] rfl)
  obtain ⟨n26, hw⟩ := hw
  refine lp26 _ (fun x3_26e x4_26e hw H locs hP hD hS ls hl => ?_) n26 (1 : Int32) (1 : Int32) hw _ _ (hP.sub [0, 1, 2] rfl) (hD.sub [0, 1, 2] (by decide) rfl) hS ls (lv_sub hl [0, 1, 2, 3, 4] rfl)
  refine lv_aload_n hx hb dZY_init_44 rfl (lv_at hl 3 rfl) ?_
  refine lv_iload_n hx hb dZY_init_45 rfl (lv_at hl 1 rfl) ?_
  refine va_putF (D := (dC, dI)) (ci := 2) (v := .int x3_26e) (ty := .int) (C := RZY) (T := TZY) (N := 2) hx hb hts inZY tyZY tyZY_ok nmZY hown hK hP hD hS 0 rfl rfl 1 (by decide) (hts _ mm_62) (fun _ h9 => h9) rfl hin rfl (by decide +kernel) rfl rfl (Nat.le_of_ble_eq_true rfl) dZY_init_46 (fun H locs hP hD hS => ?_)
  have hP : va_P (dC, dI) vwCl [(oy, .inr (2, [.ref op, .int x3_26e])), (op, .inr (1, [.int pw, .int ph, .ref opa])), (opa, .inl (cI, pn, .inl pf))] H := hP
  have hD : va_D A [(oy, .inr (2, [.ref op, .int x3_26e])), (op, .inr (1, [.int pw, .int ph, .ref opa])), (opa, .inl (cI, pn, .inl pf))] := hD
  have hP9 := hP.sub (ws' := [(oy, .inr (2, [.ref op, .int x3_26e])), (op, .inr (1, [.int pw, .int ph, .ref opa])), (opa, .inl (cI, pn, .inl pf))]) [0, 1, 2] rfl
  have hD9 := hD.sub (ws' := [(oy, .inr (2, [.ref op, .int x3_26e])), (op, .inr (1, [.int pw, .int ph, .ref opa])), (opa, .inl (cI, pn, .inl pf))]) [0, 1, 2] (by decide) rfl
  subst hQ9
  exact W.vret hx hb hr (fun t ht hW => ⟨⟨x3_26e, rfl, hw, by rw [ht]; exact hP9, va_K.moved hW.alike hK, hD9⟩, hS.F ht⟩) hS.2.2 dZY_init_49
