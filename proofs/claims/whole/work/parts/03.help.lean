def gx_E (U : State) : Prop := va_Nw (.methodLinkNest RZQ 41 yZB_init "TilePyramid") U ∧ va_Nw (.methodLinkNest RZQ 57 yZT_init "TilePyramid") U ∧ va_Nw (.methodLinkNest RZO 55 yZQ_isSample "TilePyramid") U ∧ va_Nw (.methodLinkNest RZO 67 yZQ_bitsNeeded "TilePyramid") U ∧ va_Nw (.castable "java/lang/IndexOutOfBoundsException" "java/lang/IndexOutOfBoundsException") U ∧ va_Nw (.declares ⟨"java/lang/RuntimeException", "<init>", "()V"⟩) U ∧ va_Nw (.declares ⟨"java/lang/RuntimeException", "<init>", "(Ljava/lang/String;)V"⟩) U ∧ va_Nw (.declares ⟨"java/lang/Exception", "<init>", "()V"⟩) U ∧ va_Nw (.declares ⟨"java/lang/Exception", "<init>", "(Ljava/lang/String;)V"⟩) U ∧ va_Nw (.declares ⟨"java/lang/Throwable", "<init>", "()V"⟩) U ∧ va_Nw (.declares ⟨"java/lang/Throwable", "<init>", "(Ljava/lang/String;)V"⟩) U ∧ (∃ sa : Nat, vk_R RZQ 227 "no such place" sa U) ∧ va_Nw (.castable "java/lang/IllegalArgumentException" "java/lang/IllegalArgumentException") U ∧ (∃ sa : Nat, vk_R RZQ 233 "no sample" sa U) ∧ va_Nw (.methodLinkNest RZY 33 yZQ_isWithin "TilePyramid") U ∧ va_Nw (.methodLinkNest RZK 41 yZQ_bitsNeeded "TilePyramid") U ∧ va_Nw (.castable "java/lang/IllegalStateException" "java/lang/IllegalStateException") U ∧ (∃ sa : Nat, vk_R RZQ 159 "the buffer is full" sa U) ∧ (∃ sa : Nat, vk_R RZQ 166 "no byte" sa U) ∧ (∃ sa : Nat, vk_R RZQ 176 "no mask" sa U) ∧ (∃ sa : Nat, vk_R RZQ 195 "no tile was opened" sa U) ∧ (∃ sa : Nat, vk_R RZQ 209 "no such overlap" sa U) ∧ va_Nc "java/lang/IllegalArgumentException" "java/lang/IndexOutOfBoundsException" U ∧ va_Nc "java/lang/IllegalArgumentException" "java/lang/IllegalStateException" U ∧ va_Nc "java/lang/IllegalStateException" "java/lang/IndexOutOfBoundsException" U
theorem gxE_0 {U : State} (h : gx_E U) : va_Nw (.methodLinkNest RZQ 41 yZB_init "TilePyramid") U := h.1
theorem gxE_1 {U : State} (h : gx_E U) : va_Nw (.methodLinkNest RZQ 57 yZT_init "TilePyramid") U := h.2.1
theorem gxE_2 {U : State} (h : gx_E U) : va_Nw (.methodLinkNest RZO 55 yZQ_isSample "TilePyramid") U := h.2.2.1
theorem gxE_3 {U : State} (h : gx_E U) : va_Nw (.methodLinkNest RZO 67 yZQ_bitsNeeded "TilePyramid") U := h.2.2.2.1
theorem gxE_4 {U : State} (h : gx_E U) : va_Nw (.castable "java/lang/IndexOutOfBoundsException" "java/lang/IndexOutOfBoundsException") U := h.2.2.2.2.1
theorem gxE_5 {U : State} (h : gx_E U) : va_Nw (.declares ⟨"java/lang/RuntimeException", "<init>", "()V"⟩) U := h.2.2.2.2.2.1
theorem gxE_6 {U : State} (h : gx_E U) : va_Nw (.declares ⟨"java/lang/RuntimeException", "<init>", "(Ljava/lang/String;)V"⟩) U := h.2.2.2.2.2.2.1
theorem gxE_7 {U : State} (h : gx_E U) : va_Nw (.declares ⟨"java/lang/Exception", "<init>", "()V"⟩) U := h.2.2.2.2.2.2.2.1
theorem gxE_8 {U : State} (h : gx_E U) : va_Nw (.declares ⟨"java/lang/Exception", "<init>", "(Ljava/lang/String;)V"⟩) U := h.2.2.2.2.2.2.2.2.1
theorem gxE_9 {U : State} (h : gx_E U) : va_Nw (.declares ⟨"java/lang/Throwable", "<init>", "()V"⟩) U := h.2.2.2.2.2.2.2.2.2.1
theorem gxE_10 {U : State} (h : gx_E U) : va_Nw (.declares ⟨"java/lang/Throwable", "<init>", "(Ljava/lang/String;)V"⟩) U := h.2.2.2.2.2.2.2.2.2.2.1
theorem gxE_11 {U : State} (h : gx_E U) : (∃ sa : Nat, vk_R RZQ 227 "no such place" sa U) := h.2.2.2.2.2.2.2.2.2.2.2.1
theorem gxE_12 {U : State} (h : gx_E U) : va_Nw (.castable "java/lang/IllegalArgumentException" "java/lang/IllegalArgumentException") U := h.2.2.2.2.2.2.2.2.2.2.2.2.1
theorem gxE_13 {U : State} (h : gx_E U) : (∃ sa : Nat, vk_R RZQ 233 "no sample" sa U) := h.2.2.2.2.2.2.2.2.2.2.2.2.2.1
theorem gxE_14 {U : State} (h : gx_E U) : va_Nw (.methodLinkNest RZY 33 yZQ_isWithin "TilePyramid") U := h.2.2.2.2.2.2.2.2.2.2.2.2.2.2.1
theorem gxE_15 {U : State} (h : gx_E U) : va_Nw (.methodLinkNest RZK 41 yZQ_bitsNeeded "TilePyramid") U := h.2.2.2.2.2.2.2.2.2.2.2.2.2.2.2.1
theorem gxE_16 {U : State} (h : gx_E U) : va_Nw (.castable "java/lang/IllegalStateException" "java/lang/IllegalStateException") U := h.2.2.2.2.2.2.2.2.2.2.2.2.2.2.2.2.1
theorem gxE_17 {U : State} (h : gx_E U) : (∃ sa : Nat, vk_R RZQ 159 "the buffer is full" sa U) := h.2.2.2.2.2.2.2.2.2.2.2.2.2.2.2.2.2.1
theorem gxE_18 {U : State} (h : gx_E U) : (∃ sa : Nat, vk_R RZQ 166 "no byte" sa U) := h.2.2.2.2.2.2.2.2.2.2.2.2.2.2.2.2.2.2.1
theorem gxE_19 {U : State} (h : gx_E U) : (∃ sa : Nat, vk_R RZQ 176 "no mask" sa U) := h.2.2.2.2.2.2.2.2.2.2.2.2.2.2.2.2.2.2.2.1
theorem gxE_20 {U : State} (h : gx_E U) : (∃ sa : Nat, vk_R RZQ 195 "no tile was opened" sa U) := h.2.2.2.2.2.2.2.2.2.2.2.2.2.2.2.2.2.2.2.2.1
theorem gxE_21 {U : State} (h : gx_E U) : (∃ sa : Nat, vk_R RZQ 209 "no such overlap" sa U) := h.2.2.2.2.2.2.2.2.2.2.2.2.2.2.2.2.2.2.2.2.2.1
theorem gxE_22 {U : State} (h : gx_E U) : va_Nc "java/lang/IllegalArgumentException" "java/lang/IndexOutOfBoundsException" U := h.2.2.2.2.2.2.2.2.2.2.2.2.2.2.2.2.2.2.2.2.2.2.1
theorem gxE_23 {U : State} (h : gx_E U) : va_Nc "java/lang/IllegalArgumentException" "java/lang/IllegalStateException" U := h.2.2.2.2.2.2.2.2.2.2.2.2.2.2.2.2.2.2.2.2.2.2.2.1
theorem gxE_24 {U : State} (h : gx_E U) : va_Nc "java/lang/IllegalStateException" "java/lang/IndexOutOfBoundsException" U := h.2.2.2.2.2.2.2.2.2.2.2.2.2.2.2.2.2.2.2.2.2.2.2.2
theorem gx_E.warm {s U : State} (hW : s.WarmedH U.vm) (h : gx_E s) : gx_E U := ⟨va_Nw.warmM hW (gxE_0 h), va_Nw.warmM hW (gxE_1 h), va_Nw.warmM hW (gxE_2 h), va_Nw.warmM hW (gxE_3 h), va_Nw.warmC hW (gxE_4 h), va_Nw.warmD hW (gxE_5 h), va_Nw.warmD hW (gxE_6 h), va_Nw.warmD hW (gxE_7 h), va_Nw.warmD hW (gxE_8 h), va_Nw.warmD hW (gxE_9 h), va_Nw.warmD hW (gxE_10 h), ((gxE_11 h).elim fun sa q => ⟨sa, vk_R.warm hW q⟩), va_Nw.warmC hW (gxE_12 h), ((gxE_13 h).elim fun sa q => ⟨sa, vk_R.warm hW q⟩), va_Nw.warmM hW (gxE_14 h), va_Nw.warmM hW (gxE_15 h), va_Nw.warmC hW (gxE_16 h), ((gxE_17 h).elim fun sa q => ⟨sa, vk_R.warm hW q⟩), ((gxE_18 h).elim fun sa q => ⟨sa, vk_R.warm hW q⟩), ((gxE_19 h).elim fun sa q => ⟨sa, vk_R.warm hW q⟩), ((gxE_20 h).elim fun sa q => ⟨sa, vk_R.warm hW q⟩), ((gxE_21 h).elim fun sa q => ⟨sa, vk_R.warm hW q⟩), va_Nc.moved hW.alike (gxE_22 h), va_Nc.moved hW.alike (gxE_23 h), va_Nc.moved hW.alike (gxE_24 h)⟩
theorem tb_0 {c : Cond} (h : c ∈ tbg) : GoodIn tbg (c :: tbg) := by
  intro w hw
  rcases List.mem_cons.mp hw with rfl | hw
  · exact ⟨h, good_of_word (tb_good h)⟩
  · exact ⟨hw, good_of_word (tb_good hw)⟩
theorem tb_g {ws : List Cond} (h : ∀ w ∈ ws, w ∈ tbg) : GoodIn tbg ws := fun w hw => ⟨h w hw, good_of_word (tb_good (h w hw))⟩
theorem tb_c {w : Cond} {ws : List Cond} (h : w ∈ tbg) (t : ∀ x ∈ ws, x ∈ tbg) : ∀ x ∈ w :: ws, x ∈ tbg := fun x hx => (List.mem_cons.mp hx).elim (fun e => by rw [e]; exact h) (t x)
theorem tb_S {own : String} {idx : Nat} {y : MethodName} {c : Cond} (h1 : Cond.methodLink own idx y ∈ tbg) (h2 : Cond.static y ∈ tbg) (h3 : Cond.initialized y.cls ∈ tbg) (hc : c ∈ tbg) : GoodIn tbg (va_wsS own idx y (c :: tbg)) :=
  tb_g (tb_c h1 (tb_c h2 (tb_c h3 (tb_c hc (fun _ h => h)))))
theorem tb_V {own C : String} {idx : Nat} {y : MethodName} {c : Cond} (h1 : Cond.methodLink own idx y ∈ tbg) (h2 : Cond.instanceMethod y ∈ tbg) (h3 : Cond.selects C y y ∈ tbg) (h4 : Cond.initialized C ∈ tbg) (hc : c ∈ tbg) : GoodIn tbg (wsV own idx C y (c :: tbg)) :=
  tb_g (tb_c h1 (tb_c h2 (tb_c h3 (tb_c h4 (tb_c hc (fun _ h => h))))))
def gr_Pc (dC : Nat → ClassId) (dI : Nat → Nat → Nat) (tys : List (ClassId × FieldType)) (av : List Value) (ws : va_W) : Array Value → State → Prop := va_Pc av (fun U => va_P (dC, dI) vwCl ws U.heap ∧ va_K (dC, dI) vwCl tys U ∧ gx_E U)
def gw_Pc (dC : Nat → ClassId) (dI : Nat → Nat → Nat) (tys : List (ClassId × FieldType)) (av : List Value) (ws : va_W) (sz : Nat) : Array Value → State → Prop := va_Pc av (fun U => U.heap.size = sz ∧ va_P (dC, dI) vwCl ws U.heap ∧ va_K (dC, dI) vwCl tys U ∧ gx_E U ∧ va_D (fun _ => True) ws)
abbrev gw_B (dC : Nat → ClassId) (dI : Nat → Nat → Nat) (tys : List (ClassId × FieldType)) (A : Nat → Prop) (ws : va_W) (t : State) : Prop := va_P (dC, dI) vwCl ws t.heap ∧ va_K (dC, dI) vwCl tys t ∧ va_D A ws
section HelpRows
variable {dC : Nat → ClassId} {dI : Nat → Nat → Nat} {tys : List (ClassId × FieldType)} {av : List Value} {ws : va_W} {sz : Nat} {H : Heap} {s U : State} {A : Nat → Prop}
theorem gr_blind : FrameBlind (gr_Pc dC dI tys av ws) := fun a U g mk q => ⟨q.1, q.2.1, va_K.moved (u := U) (U := U.calling g mk a) (Vm.Alike.refl U.vm) q.2.2.1, gx_E.warm (s := U) (U := U.calling g mk a) (State.WarmedH.refl U) q.2.2.2⟩
theorem gr_pre (hP : va_P (dC, dI) vwCl ws H) (hK : va_K (dC, dI) vwCl tys s) (hE : gx_E s) (hU : U.heap = H) (hW : s.WarmedH U.vm) : gr_Pc dC dI tys av ws av.toArray U := ⟨rfl, by rw [hU]; exact hP, va_K.moved hW.alike hK, gx_E.warm hW hE⟩
theorem gw_blind : FrameBlind (gw_Pc dC dI tys av ws sz) := fun a U g mk q => ⟨q.1, q.2.1, q.2.2.1, va_K.moved (u := U) (U := U.calling g mk a) (Vm.Alike.refl U.vm) q.2.2.2.1, gx_E.warm (s := U) (U := U.calling g mk a) (State.WarmedH.refl U) q.2.2.2.2.1, q.2.2.2.2.2⟩
theorem gw_pre (hP : va_P (dC, dI) vwCl ws H) (hD : va_D A ws) (hK : va_K (dC, dI) vwCl tys s) (hE : gx_E s) (hU : U.heap = H) (hW : s.WarmedH U.vm) : gw_Pc dC dI tys av ws H.size av.toArray U := ⟨rfl, by rw [hU], by rw [hU]; exact hP, va_K.moved hW.alike hK, gx_E.warm hW hE, hD.weaken (fun _ _ _ _ => trivial)⟩
theorem gx_Q {p : Program} {l : Launch} {e : Env} {R : Room} {m : MethodId} {args : Array Value} {below : List Frame} {meth : Method} {c : Code} {locs : List Loc} {cells slots : Nat} {Q : State → Prop} {g : JFrame} (k : ∀ Q9 : State → Prop, Q9 = Q → W p l e R s m args below meth c H locs cells slots Q9 g) : W p l e R s m args below meth c H locs cells slots Q g := k Q rfl
end HelpRows
