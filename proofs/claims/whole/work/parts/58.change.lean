/-! a part of a picture that is being filled, row by row -/
def flP (P T : Nat → Nat → Nat) (x y w j i : Nat) : Nat → Nat → Nat := fun y' x' => if x ≤ x' ∧ x' < x + w ∧ y ≤ y' ∧ (y' < y + j ∨ (y' = y + j ∧ x' < x + i)) then T (y' - y) (x' - x) else P y' x'
theorem fl_step {P T : Nat → Nat → Nat} {x y w j i : Nat} (hi : i < w) (y' x' : Nat) : set2 (flP P T x y w j i) (y + j) (x + i) (T j i) y' x' = flP P T x y w j (i + 1) y' x' := by
  unfold set2 flP
  by_cases hc : y' = y + j ∧ x' = x + i
  · rw [if_pos hc, if_pos (by omega), hc.1, hc.2, Nat.add_sub_cancel_left, Nat.add_sub_cancel_left]
  · rw [if_neg hc]
    by_cases hd : x ≤ x' ∧ x' < x + w ∧ y ≤ y' ∧ (y' < y + j ∨ (y' = y + j ∧ x' < x + i))
    · rw [if_pos hd, if_pos (by omega)]
    · rw [if_neg hd, if_neg (by omega)]
theorem fl_row {P T : Nat → Nat → Nat} {x y w j : Nat} (y' x' : Nat) : flP P T x y w j w y' x' = flP P T x y w (j + 1) 0 y' x' := by
  unfold flP
  by_cases hd : x ≤ x' ∧ x' < x + w ∧ y ≤ y' ∧ (y' < y + j ∨ (y' = y + j ∧ x' < x + w))
  · rw [if_pos hd, if_pos (by omega)]
  · rw [if_neg hd, if_neg (by omega)]
theorem fl_0 {P T : Nat → Nat → Nat} {x y w : Nat} (y' x' : Nat) : P y' x' = flP P T x y w 0 0 y' x' := by
  unfold flP
  rw [if_neg (by omega)]
theorem relP_congr {w h s : Nat} {f : Nat → Int32} {P Q : Nat → Nat → Nat} (e : ∀ y x, P y x = Q y x) (hr : relP w h s f P) : relP w h s f Q := fun y x hy hx => by rw [← e]; exact hr y x hy hx
theorem okP_congr {w h : Nat} {P Q : Nat → Nat → Nat} (e : ∀ y x, P y x = Q y x) (hr : okP w h P) : okP w h Q := fun y x hy hx => by rw [← e]; exact hr y x hy hx
theorem relP_fl {W H s : Nat} {f : Nat → Int32} {P T : Nat → Nat → Nat} {x y w j i : Nat} (hs : W ≤ s) (hr : relP W H s f (flP P T x y w j i)) (hi : i < w) (hx : x + i < W) : relP W H s (upd f ((y + j) * s + (x + i)) (nI (T j i))) (flP P T x y w j (i + 1)) :=
  relP_congr (fl_step hi) (relP_set hs hr hx)
theorem okP_fl {W H : Nat} {P T : Nat → Nat → Nat} {x y w h j i : Nat} (ho : okP W H P) (hT : ∀ b a, b < h → a < w → T b a < 256) (hj : j ≤ h) (hi : i = 0 ∨ j < h) : okP W H (flP P T x y w j i) := by
  intro y' x' hy' hx'
  unfold flP
  split
  · rename_i hc
    exact hT _ _ (by omega) (by omega)
  · exact ho y' x' hy' hx'
def flK (P T : Nat → Nat → Nat) (x y w k : Nat) : Nat → Nat → Nat := flP P T x y w (k / w) (k % w)
theorem flK_step {P T : Nat → Nat → Nat} {x y w k : Nat} (hw : 0 < w) (y' x' : Nat) : flP P T x y w (k / w) (k % w + 1) y' x' = flK P T x y w (k + 1) y' x' := by
  unfold flK
  have hm : k % w < w := Nat.mod_lt _ hw
  have hd := Nat.div_add_mod k w
  rcases Nat.lt_or_ge (k % w + 1) w with q | q
  · have e := div_row (w := w) (j := k / w) q
    rw [show w * (k / w) + (k % w + 1) = k + 1 by omega] at e
    rw [e.1, e.2]
  · have e := div_row (w := w) (j := k / w + 1) (i := 0) hw
    rw [show w * (k / w + 1) + 0 = k + 1 by rw [Nat.mul_add]; omega] at e
    rw [e.1, e.2, show k % w + 1 = w by omega]
    exact fl_row y' x'
theorem flK_end {P T : Nat → Nat → Nat} {x y w h : Nat} (hw : 0 < w) (y' x' : Nat) : flK P T x y w (w * h) y' x' = flP P T x y w h 0 y' x' := by
  unfold flK
  have e := div_row (w := w) (j := h) (i := 0) hw
  rw [Nat.add_zero] at e
  rw [e.1, e.2]
theorem q_setSample {W H : Nat} (hW : W ≤ 40) (hH : H ≤ 40) {f : Nat → Int32} {x y : Nat} {v : Int32} (hx : x < W) (hy : y < H) {post : (Nat → Int32) → Prop} (h : post (upd f (y * W + x) v)) : wp_ZP_setSample (nI W) (nI H) (W * H) f (nI x) (nI y) v post := by
  have hlt := idx_lt hy hx
  have h16 := mul40 hW hH
  unfold wp_ZP_setSample
  rw [pk_mul, nI_add, nI_clamp (by omega)]
  exact ⟨vp_in_nI hlt (by omega), h⟩
theorem q_fillPart {W H : Nat} (hW : W ≤ 40) (hH : H ≤ 40) {f : Nat → Int32} {P : Nat → Nat → Nat} (hr : relP W H W f P) {x y w h v : Nat} (hx : x + w ≤ W) (hy : y + h ≤ H) {post : (Nat → Int32) → Prop} (hp : ∀ f', relP W H W f' (flP P (fun _ _ => v) x y w h 0) → post f') :
    wp_ZP_fillPart (nI W) (nI H) (W * H) f (nI x) (nI y) (nI w) (nI h) (nI v) post := by
  have inner : ∀ (K : Int32 → (Nat → Int32) → Prop) (f0 : Nat → Int32) (j : Nat), j < h → (∀ f' e, relP W H W f' (flP P (fun _ _ => v) x y w (j + 1) 0) → K e f') → ∀ d i f', i + d = w → relP W H W f' (flP P (fun _ _ => v) x y w j i) →
      lp_ZP_fillPart_15 (nI W) (nI H) (W * H) f (nI x) (nI y) (nI w) (nI h) (nI v) (nI (y + j)) f0 post K (d + 1) (nI (x + i)) f' := by
    intro K f0 j hj hK d
    induction d with
    | zero =>
      intro i f' hi hf
      obtain rfl : i = w := by omega
      refine ⟨fun _ => hK _ _ (relP_congr fl_row hf), fun hn => ?_⟩
      rw [nI_add] at hn
      exact absurd ((nI_leI (by omega) (by omega)).mpr (Nat.le_refl _)) hn
    | succ d ih =>
      intro i f' hi hf
      refine ⟨fun hn => ?_, fun _ => ?_⟩
      · rw [nI_add] at hn
        exact absurd ((nI_leI (by omega) (by omega)).mp hn) (by omega)
      · refine q_setSample hW hH (by omega) (by omega) ?_
        show lp_ZP_fillPart_15 (nI W) (nI H) (W * H) f (nI x) (nI y) (nI w) (nI h) (nI v) (nI (y + j)) f0 post K (d + 1) (nI (x + i) + 1) (upd f' ((y + j) * W + (x + i)) (nI v))
        rw [nI_1]
        exact ih (i + 1) _ (by omega) (relP_fl (Nat.le_refl _) hf (by omega) (by omega))
  have outer : ∀ d j f', j + d = h → relP W H W f' (flP P (fun _ _ => v) x y w j 0) → lp_ZP_fillPart_3 (nI W) (nI H) (W * H) f (nI x) (nI y) (nI w) (nI h) (nI v) post (fun _ a => post a) (d + 1) (nI (y + j)) f' := by
    intro d
    induction d with
    | zero =>
      intro j f' hj hf
      obtain rfl : j = h := by omega
      refine ⟨fun _ => hp _ hf, fun hn => ?_⟩
      rw [nI_add] at hn
      exact absurd ((nI_leI (by omega) (by omega)).mpr (Nat.le_refl _)) hn
    | succ d ih =>
      intro j f' hj hf
      refine ⟨fun hn => ?_, fun _ => ⟨w + 1, ?_⟩⟩
      · rw [nI_add] at hn
        exact absurd ((nI_leI (by omega) (by omega)).mp hn) (by omega)
      · exact inner (fun _ a => lp_ZP_fillPart_3 (nI W) (nI H) (W * H) f (nI x) (nI y) (nI w) (nI h) (nI v) post (fun _ a => post a) (d + 1) (nI (y + j) + (1 : Int32)) a) f' j (by omega) (fun f'' _ hf'' => by
          rw [nI_1]
          exact ih (j + 1) f'' (by omega) hf'') w 0 f' (by omega) hf
  exact ⟨h + 1, outer h 0 f (by omega) (relP_congr fl_0 hr)⟩
/-- how many tiles of level l lie over w columns from x on -/
def tov (x w l : Nat) : Nat := (x + w - 1) / (8 * 2 ^ l) - x / (8 * 2 ^ l) + 1
def tsum (x y w h n : Nat) : Nat := sumR (fun l => tov x w l * tov y h l) n
theorem q_side {x w l : Nat} (hx : x + w ≤ 40) (h1 : 1 ≤ w) (hl : l ≤ 6) {post : Int32 → Prop} (h : post (nI (tov x w l))) : wp_ZY_tilesOverSide (nI l) (nI x) (nI w) post := by
  have hp := pw6 hl
  have e : ∀ a, a / 2 ^ l / 8 = a / (8 * 2 ^ l) := fun a => by rw [Nat.div_div_eq_div_mul, Nat.mul_comm]
  have d1 : x / 2 ^ l ≤ x := Nat.div_le_self _ _
  have d2 : (x + w - 1) / 2 ^ l ≤ x + w - 1 := Nat.div_le_self _ _
  have d3 : x / (8 * 2 ^ l) ≤ (x + w - 1) / (8 * 2 ^ l) := Nat.div_le_div_right (by omega)
  unfold wp_ZY_tilesOverSide
  rw [nI_add, nI_sub1 (by omega), shr_nI (by omega) (by omega), shr_nI (by omega) (by omega), show (8 : Int32) = nI 8 from rfl, pk_div (by omega) (by decide) (by decide), pk_div (by omega) (by decide) (by decide), e, e, pk_sub d3, nI_1]
  exact h
theorem q_tilesOver {n : Nat} {f : Nat → Int32} {W H : Nat} (hW : W ≤ 40) (hH : H ≤ 40) {x y w h : Nat} (h1 : 1 ≤ w) (hx : x + w ≤ W) (h2 : 1 ≤ h) (hy : y + h ≤ H) {post : Int32 → Prop} (hp : post (nI (tsum x y w h (lev (max W H))))) : wp_ZY_tilesOver (nI (lev (max W H))) (nI W) (nI H) n f (nI x) (nI y) (nI w) (nI h) post := by
  have hl := lev_in (m := max W H)
  generalize lev (max W H) = L at *
  have key : ∀ d l, l + d = L → lp_ZY_tilesOver_6 (nI L) (nI W) (nI H) n f (nI x) (nI y) (nI w) (nI h) post (fun a _ => post a) (d + 1) (nI (tsum x y w h l)) (nI l) := by
    intro d
    induction d with
    | zero =>
      intro l hl'
      obtain rfl : l = L := by omega
      exact ⟨fun _ => hp, fun hn => absurd ((nI_leI (by omega) (by omega)).mpr (Nat.le_refl _)) hn⟩
    | succ d ih =>
      intro l hl'
      refine ⟨fun hn => absurd ((nI_leI (by omega) (by omega)).mp hn) (by omega), fun _ => q_side (by omega) h1 (by omega) (q_side (by omega) h2 (by omega) ?_)⟩
      show lp_ZY_tilesOver_6 (nI L) (nI W) (nI H) n f (nI x) (nI y) (nI w) (nI h) post (fun a _ => post a) (d + 1) (nI (tsum x y w h l) + nI (tov x w l) * nI (tov y h l)) (nI l + 1)
      rw [pk_mul, nI_add, nI_1]
      exact ih (l + 1) (by omega)
  exact ⟨L + 1, key L 0 (by omega)⟩
theorem q_reqSample {v : Int32} {X : Prop} (h : inN v 256) (k : X) : wp_ZQ_requireSample v X := p_isSample (fun _ => ⟨fun q => absurd q nz1, fun _ => k⟩) (fun q => absurd h q)
theorem q_reqSample_A {v : Int32} (h : ¬ inN v 256) : xp_ZQ_requireSample_A v := p_isSample (fun q => absurd q h) (fun _ => ⟨fun _ => trivial, fun q => absurd rfl q⟩)
/-- a part of the picture itself -/
def prt0 (W H : Nat) (b c d e : Int32) : Prop := ∃ x y w h : Nat, b = nI x ∧ c = nI y ∧ d = nI w ∧ e = nI h ∧ 1 ≤ w ∧ x + w ≤ W ∧ 1 ≤ h ∧ y + h ≤ H
theorem prt0_iff {W H : Nat} {b c d e : Int32} : prt W H 0 b c d e ↔ prt0 W H b c d e := by
  have hl := lev_in (m := max W H)
  refine ⟨?_, ?_⟩
  · rintro ⟨k, x, y, w, h, e1, e2, e3, e4, e5, e6, g1, g2, g3, g4⟩
    obtain rfl : 0 = k := nI_inj (by omega) (by omega) e1
    rw [hv_0] at g2 g4
    exact ⟨x, y, w, h, e3, e4, e5, e6, g1, g2, g3, g4⟩
  · rintro ⟨x, y, w, h, e3, e4, e5, e6, g1, g2, g3, g4⟩
    exact ⟨0, x, y, w, h, rfl, by omega, e3, e4, e5, e6, g1, by rw [hv_0]; exact g2, g3, by rw [hv_0]; exact g4⟩
section QC
variable {pw ph : Int32} {pn : Nat} {pf : Nat → Int32} {gw gh : Int32} {gn : Nat} {gf : Nat → Int32} {yk bl : Int32} {bf : Nat → Int32} {kn : Nat} {kf : Nat → Int32} {sn : Nat} {sf : Nat → Int32} {sd tw th : Int32} {tf : Nat → Int32} {uw uh : Int32} {uf : Nat → Int32}
theorem q_change {W H x y w h v : Nat} {P : Nat → Nat → Nat} (hr : relP W H W pf P) (h1 : 1 ≤ W) (hW : W ≤ 40) (h2 : 1 ≤ H) (hH : H ≤ 40) (g1 : 1 ≤ w) (hx : x + w ≤ W) (g2 : 1 ≤ h) (hy : y + h ≤ H) (hv : v < 256) {post : Int32 → (Nat → Int32) → Prop} (hp : ∀ f', relP W H W f' (flP P (fun _ _ => v) x y w h 0) → post (nI (tsum x y w h (lev (max W H)))) f') : wp_ZQ_change (nI W) (nI H) (W * H) pf gw gh gn gf (nI (lev (max W H))) bl bf kn kf sn sf sd tw th tf uw uh uf (nI x) (nI y) (nI w) (nI h) (nI v) post :=
  q_hasPart h1 hW h2 hH (fun _ => q_reqPlace rfl (q_reqSample ⟨v, hv, rfl⟩ (q_fillPart hW hH hr hx hy (fun f' hf => q_tilesOver hW hH g1 hx g2 hy (hp f' hf))))) (fun hn => absurd (prt0_iff.mpr ⟨x, y, w, h, rfl, rfl, rfl, rfl, g1, hx, g2, hy⟩) hn)
theorem q_change_I {W H : Nat} (h1 : 1 ≤ W) (hW : W ≤ 40) (h2 : 1 ≤ H) (hH : H ≤ 40) {b c d e v : Int32} (hn : ¬ prt0 W H b c d e) : xp_ZQ_change_I (nI W) (nI H) pn pf gw gh gn gf (nI (lev (max W H))) bl bf kn kf sn sf sd tw th tf uw uh uf b c d e v :=
  q_hasPart h1 hW h2 hH (fun h => absurd (prt0_iff.mp h) hn) (fun _ => Or.inl (q_reqPlace_I rfl))
theorem q_change_A {W H : Nat} (h1 : 1 ≤ W) (hW : W ≤ 40) (h2 : 1 ≤ H) (hH : H ≤ 40) {b c d e v : Int32} (hy : prt0 W H b c d e) (hv : ¬ inN v 256) : xp_ZQ_change_A (nI W) (nI H) pn pf gw gh gn gf (nI (lev (max W H))) bl bf kn kf sn sf sd tw th tf uw uh uf b c d e v :=
  q_hasPart h1 hW h2 hH (fun _ => q_reqPlace rfl (Or.inl (q_reqSample_A hv))) (fun h => absurd (prt0_iff.mpr hy) h)
end QC
section MC
variable {zt zw zh : Int32} {zp zs zb : Nat → Int32} {zz : Int32} {zl zo : Nat → Int32} {zc zr zu zv zq zi : Int32} {zk zm : Nat → Int32} {zd : Int32} {zg : Nat → Int32}
theorem m_change {W H : Nat} {P : Nat → Nat → Nat} (hr : relP W H 40 zp P) (h1 : 1 ≤ W) (hW : W ≤ 40) (h2 : 1 ≤ H) (hH : H ≤ 40) {b c d e v : Int32} {post : Int32 → Int32 → (Nat → Int32) → Prop} (hI : ¬ prt0 W H b c d e → post 0 1 zp) (hA : prt0 W H b c d e → ¬ inN v 256 → post 0 2 zp) (hN : ∀ x y w h u f', b = nI x → c = nI y → d = nI w → e = nI h → 1 ≤ w → x + w ≤ W → 1 ≤ h → y + h ≤ H → v = nI u → u < 256 → relP W H 40 f' (flP P (fun _ _ => u) x y w h 0) → post (nI (tsum x y w h (lev (max W H)))) 0 f') : wp_ZM_change zt (nI W) (nI H) zp zs zb zz zl zo zc zr zu zv zq zi zk zm zd zg b c d e v post := by
  have hl := lev_in (m := max W H)
  have bad : ∀ {t : Int32} {X : Int32 → Int32 → Prop}, X 1 1 → wp_ZM_throwing zt (nI W) (nI H) zp zs zb zz zl zo zc zr zu zv zq zi zk zm zd zg 1 t X := fun hX => p_throwing (fun _ => hX) (fun h => absurd h nz1) (fun h => absurd h nz1)
  have bad2 : ∀ {X : Int32 → Int32 → Prop}, X 1 2 → wp_ZM_throwing zt (nI W) (nI H) zp zs zb zz zl zo zc zr zu zv zq zi zk zm zd zg 0 1 X := fun hX => p_throwing (fun h => absurd rfl h) (fun _ _ => hX) (fun _ h => absurd h nz1)
  have good : ∀ {X : Int32 → Int32 → Prop}, X 0 0 → wp_ZM_throwing zt (nI W) (nI H) zp zs zb zz zl zo zc zr zu zv zq zi zk zm zd zg 0 0 X := fun hX => p_throwing (fun h => absurd rfl h) (fun _ h => absurd rfl h) (fun _ _ => hX)
  refine m_isPart h1 hW h2 hH (fun hp => ⟨_, fun _ hh => hh, ⟨fun h => absurd h nz1, fun _ => ?_⟩⟩) (fun hp => ⟨_, fun _ hh => hh, ⟨fun _ => ?_, fun h => absurd rfl h⟩⟩)
  · refine p_isByte (fun hv => ⟨_, fun _ hh => hh, ⟨fun h => absurd h nz1, fun _ => good ⟨fun _ => ?_, fun h => absurd rfl h⟩⟩⟩) (fun hv => ⟨_, fun _ hh => hh, ⟨fun _ => bad2 ⟨fun h => absurd h nz1, fun _ => hA hp hv⟩, fun h => absurd rfl h⟩⟩)
    obtain ⟨x, y, w, h, rfl, rfl, rfl, rfl, w1, hx, v1, hy⟩ := hp
    obtain ⟨u, hu, rfl⟩ := hv
    have hN := fun f' => hN x y w h u f' rfl rfl rfl rfl w1 hx v1 hy rfl hu
    have hm : w * h ≤ 1600 := Nat.mul_le_mul (by omega : w ≤ 40) (by omega : h ≤ 40)
    have two : ∀ (t1 t2 t3 t4 : Int32) (t5 : Int32) (f' : Nat → Int32), post (nI (tsum x y w h (lev (max W H)))) 0 f' → ∀ g l, l + g = lev (max W H) → lp_ZM_change_93 zt (nI W) (nI H) zp zs zb zz zl zo zc zr zu zv zq zi zk zm zd zg (nI x) (nI y) (nI w) (nI h) (nI u) t1 t2 t3 t4 0 0 t5 f' post (fun a _ => post a 0 f') (g + 1) (nI (tsum x y w h l)) (nI l) := by
      intro t1 t2 t3 t4 t5 f' hp g
      induction g with
      | zero =>
        intro l hl'
        obtain rfl : l = lev (max W H) := by omega
        refine m_many h1 hW h2 hH ⟨fun _ => hp, fun hn => absurd ((nI_leI (by omega) (by omega)).mpr (Nat.le_refl _)) hn⟩
      | succ g ih =>
        intro l hl'
        have hq := pw6 (k := l) (by omega)
        have e8 : (8 : Int32) <<< (nI l &&& 31) = nI (8 * 2 ^ l) := shl_nI (n := 8) (by omega) (by omega)
        have hne : ¬ (8 : Int32) <<< (nI l &&& 31) = 0 := by rw [e8]; exact nI_ne0 (by omega) (by omega)
        have ix : x / (8 * 2 ^ l) ≤ (x + w - 1) / (8 * 2 ^ l) := Nat.div_le_div_right (by omega)
        have iy : y / (8 * 2 ^ l) ≤ (y + h - 1) / (8 * 2 ^ l) := Nat.div_le_div_right (by omega)
        refine m_many h1 hW h2 hH ⟨fun hn => absurd ((nI_leI (by omega) (by omega)).mp hn) (by omega), fun _ => ⟨hne, hne, hne, hne, ?_⟩⟩
        show lp_ZM_change_93 zt (nI W) (nI H) zp zs zb zz zl zo zc zr zu zv zq zi zk zm zd zg (nI x) (nI y) (nI w) (nI h) (nI u) t1 t2 t3 t4 0 0 t5 f' post (fun a _ => post a 0 f') (g + 1) (nI (tsum x y w h l) + ((((nI x + nI w) - (1 : Int32)) / ((8 : Int32) <<< (nI l &&& 31)) - nI x / ((8 : Int32) <<< (nI l &&& 31))) + (1 : Int32)) * ((((nI y + nI h) - (1 : Int32)) / ((8 : Int32) <<< (nI l &&& 31)) - nI y / ((8 : Int32) <<< (nI l &&& 31))) + (1 : Int32))) (nI l + 1)
        rw [e8, nI_add, nI_add, nI_sub1 (by omega), nI_sub1 (by omega), pk_div (a := x + w - 1) (by omega) (by omega) (by omega), pk_div (a := x) (by omega) (by omega) (by omega), pk_div (a := y + h - 1) (by omega) (by omega) (by omega), pk_div (a := y) (by omega) (by omega) (by omega), pk_sub ix, pk_sub iy, nI_1, nI_1, nI_1, pk_mul, nI_add]
        exact ih (l + 1) (by omega)
    have one : ∀ (K : Int32 → (Nat → Int32) → Prop) (hK : ∀ e f', relP W H 40 f' (flP P (fun _ _ => u) x y w h 0) → K e f') (t1 t2 t3 t4 : Int32) (g q : Nat) (f' : Nat → Int32), q + g = w * h → relP W H 40 f' (flK P (fun _ _ => u) x y w q) → lp_ZM_change_49 zt (nI W) (nI H) zp zs zb zz zl zo zc zr zu zv zq zi zk zm zd zg (nI x) (nI y) (nI w) (nI h) (nI u) t1 t2 t3 t4 0 0 post K (g + 1) (nI q) f' := by
      intro K hK t1 t2 t3 t4 g
      induction g with
      | zero =>
        intro q f' hq hf
        obtain rfl : q = w * h := by omega
        refine ⟨fun _ => hK _ _ (relP_congr (flK_end w1) hf), fun hn => ?_⟩
        rw [pk_mul] at hn
        exact absurd ((nI_leI (by omega) (by omega)).mpr (Nat.le_refl _)) hn
      | succ g ih =>
        intro q f' hq hf
        have d1 : q / w < h := by rw [Nat.div_lt_iff_lt_mul w1, Nat.mul_comm]; omega
        have d2 : q % w < w := Nat.mod_lt _ w1
        have ei : (40 : Int32) * (nI y + nI q / nI w) + nI x + (nI q - nI q / nI w * nI w) = nI ((y + q / w) * 40 + (x + q % w)) := by
          rw [pk_rem (by omega) w1 (by omega), pk_div (by omega) w1 (by omega), nI_add, show (40 : Int32) = nI 40 from rfl, pk_mul, nI_add, nI_add]
          congr 1; rw [Nat.mul_comm 40]; omega
        refine ⟨fun hn => ?_, fun _ => ⟨nI_ne0 w1 (by omega), nI_ne0 w1 (by omega), ?_, ?_⟩⟩
        · rw [pk_mul] at hn
          exact absurd ((nI_leI (by omega) (by omega)).mp hn) (by omega)
        · rw [ei]; exact vp_in_nI (by omega) (by decide)
        · show lp_ZM_change_49 zt (nI W) (nI H) zp zs zb zz zl zo zc zr zu zv zq zi zk zm zd zg (nI x) (nI y) (nI w) (nI h) (nI u) t1 t2 t3 t4 0 0 post K (g + 1) (nI q + 1) (upd f' ((40 : Int32) * (nI y + nI q / nI w) + nI x + (nI q - nI q / nI w * nI w)).toNatClampNeg (nI u))
          rw [ei, nI_clamp (by omega), nI_1]
          exact ih (q + 1) _ (by omega) (relP_congr (flK_step w1) (relP_fl (by omega) hf d2 (by omega)))
    refine ⟨w * h + 1, one _ (fun e f' hf => ⟨lev (max W H) + 1, two _ _ _ _ _ f' (hN f' hf) (lev (max W H)) 0 (by omega)⟩) _ _ _ _ (w * h) 0 zp (by omega) ?_⟩
    unfold flK
    rw [Nat.zero_div, Nat.zero_mod]
    exact relP_congr fl_0 hr
  · exact p_isByte (fun hv => ⟨_, fun _ hh => hh, ⟨fun h => absurd h nz1, fun _ => bad ⟨fun h => absurd h nz1, fun _ => hI hp⟩⟩⟩) (fun hv => ⟨_, fun _ hh => hh, ⟨fun _ => bad ⟨fun h => absurd h nz1, fun _ => hI hp⟩, fun h => absurd rfl h⟩⟩)
end MC
