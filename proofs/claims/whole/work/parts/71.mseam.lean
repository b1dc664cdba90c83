/-! the seam, the reference -/
def cs0 (g : Nat → Nat) (n c : Nat) : Nat := if c < n then g c else 1000000000
theorem nea_min {g : Nat → Nat} {n x : Nat} (hx : x < n) (hb : ∀ j, j < n → g j < 1000000000) : min (min (if x = 0 then 1000000000 else g (x - 1)) (g x)) (cs0 g n (x + 1)) = g (nea g n x) := by
  obtain ⟨h1, h2, h3, h4, h5⟩ := nea_spec (g := g) hx
  have q1 := h4 x (by omega) (by omega) hx
  have q0 := hb _ h1
  unfold cs0
  by_cases e0 : x = 0
  · rw [if_pos e0]
    by_cases e1 : x + 1 < n
    · rw [if_pos e1]
      have q2 := h4 (x + 1) (by omega) (by omega) e1
      rcases (show nea g n x = x ∨ nea g n x = x + 1 by omega) with e | e <;> rw [e] at q1 q2 q0 ⊢ <;> omega
    · rw [if_neg e1, show nea g n x = x by omega]
      have := hb x hx
      omega
  · rw [if_neg e0]
    have q3 := h4 (x - 1) (by omega) (by omega) (by omega)
    by_cases e1 : x + 1 < n
    · rw [if_pos e1]
      have q2 := h4 (x + 1) (by omega) (by omega) e1
      rcases (show nea g n x = x - 1 ∨ nea g n x = x ∨ nea g n x = x + 1 by omega) with e | e | e <;> rw [e] at q1 q2 q3 q0 ⊢ <;> omega
    · rw [if_neg e1]
      rcases (show nea g n x = x - 1 ∨ nea g n x = x by omega) with e | e <;> rw [e] at q1 q3 q0 ⊢ <;> omega
section MSm
variable {zt zw zh : Int32} {zp zs zb : Nat → Int32} {zz : Int32} {zl zo : Nat → Int32} {zc zr zu zv zq zi : Int32} {zk zm : Nat → Int32} {zd : Int32} {zg : Nat → Int32}
theorem m_costIn {y n x : Nat} {g : Nat → Nat} (hy : y < 40) (hn : n ≤ 8) (hx : x < n) (hg : zk (y * 8 + x) = nI (g x)) {post : Int32 → Prop} (h : post (nI (g x))) : wp_ZM_cost zt zw zh zp zs zb zz zl zo zc zr zu zv zq zi zk zm zd zg (nI y) (nI x) (nI n) post := by
  have ei : (8 : Int32) * nI y + nI x = nI (y * 8 + x) := by rw [show (8 : Int32) = nI 8 from rfl, pk_mul, nI_add, Nat.mul_comm]
  refine p_inZ (by omega) (fun _ => ⟨fun z => absurd z nz1, fun _ => ?_⟩) (fun hn => absurd ⟨x, hx, rfl⟩ hn)
  rw [ei, nI_clamp (by omega), hg]
  exact ⟨vp_in_nI (by omega) (by decide), h⟩
theorem m_costOut {y n : Nat} {a : Int32} (hn : n ≤ 8) (ha : ¬ inN a n) {post : Int32 → Prop} (h : post (nI 1000000000)) : wp_ZM_cost zt zw zh zp zs zb zz zl zo zc zr zu zv zq zi zk zm zd zg (nI y) a (nI n) post :=
  p_inZ (by omega) (fun z => absurd z ha) (fun _ => ⟨fun _ => h, fun z => absurd rfl z⟩)
theorem m_cost0 {y n c : Nat} {g : Nat → Nat} (hy : y < 40) (hn : n ≤ 8) (hc : c ≤ 8) (hg : ∀ j, j < n → zk (y * 8 + j) = nI (g j)) {post : Int32 → Prop} (h : post (nI (cs0 g n c))) : wp_ZM_cost zt zw zh zp zs zb zz zl zo zc zr zu zv zq zi zk zm zd zg (nI y) (nI c) (nI n) post := by
  unfold cs0 at h
  by_cases e : c < n
  · rw [if_pos e] at h
    exact m_costIn hy hn e (hg c e) h
  · rw [if_neg e] at h
    refine m_costOut hn ?_ h
    rintro ⟨j, hj, q⟩
    have := nI_inj (by omega) (by omega) q
    omega
theorem m1_out {n : Nat} (hn : n ≤ 8) : ¬ inN (nI 0 - (1 : Int32)) n := by
  rintro ⟨j, hj, q⟩
  exact m1_ne (n := j) (by omega) (q.symm.trans (by decide +kernel))
theorem m_costM {y n x : Nat} {g : Nat → Nat} (hy : y < 40) (hn : n ≤ 8) (hx : x < n) (hg : ∀ j, j < n → zk (y * 8 + j) = nI (g j)) {post : Int32 → Prop} (h : post (nI (if x = 0 then 1000000000 else g (x - 1)))) : wp_ZM_cost zt zw zh zp zs zb zz zl zo zc zr zu zv zq zi zk zm zd zg (nI y) (nI x - (1 : Int32)) (nI n) post := by
  by_cases e : x = 0
  · rw [if_pos e] at h
    subst e
    exact m_costOut hn (m1_out hn) h
  · rw [if_neg e] at h
    rw [nI_sub1 (by omega)]
    exact m_costIn hy hn (by omega) (hg _ (by omega)) h
theorem m_least {y n x : Nat} {g : Nat → Nat} (hy : y < 40) (hn : n ≤ 8) (hx : x < n) (hg : ∀ j, j < n → zk (y * 8 + j) = nI (g j)) (hb : ∀ j, j < n → g j < 1000000000) {post : Int32 → Prop} (h : post (nI (g (nea g n x)))) : wp_ZM_leastAround zt zw zh zp zs zb zz zl zo zc zr zu zv zq zi zk zm zd zg (nI y) (nI x) (nI n) post := by
  refine m_costM hy hn hx hg ?_
  rw [← nea_min hx hb] at h
  have hv0 : (if x = 0 then 1000000000 else g (x - 1)) ≤ 1000000000 := by
    split
    · exact Nat.le_refl _
    · have := hb (x - 1) (by omega); omega
  generalize (if x = 0 then 1000000000 else g (x - 1)) = v0 at *
  have hx0 := hb x hx
  have hx1 : cs0 g n (x + 1) ≤ 1000000000 := by
    unfold cs0
    split
    · have := hb (x + 1) (by omega); omega
    · exact Nat.le_refl _
  have ex : cs0 g n x = g x := if_pos hx
  have e2 : nI x + (2 : Int32) = nI (x + 2) := nI_add x 2
  have stepL : ∀ (r1 : Int32) (K : Int32 → Int32 → Prop) (d c v : Nat), c ≤ x + 1 → v ≤ 1000000000 → cs0 g n c ≤ 1000000000 → lp_ZM_leastAround_14 zt zw zh zp zs zb zz zl zo zc zr zu zv zq zi zk zm zd zg (nI y) (nI x) (nI n) r1 post K d (nI (min v (cs0 g n c))) (nI (c + 1)) → lp_ZM_leastAround_14 zt zw zh zp zs zb zz zl zo zc zr zu zv zq zi zk zm zd zg (nI y) (nI x) (nI n) r1 post K (d + 1) (nI v) (nI c) := by
    intro r1 K d c v hc hv hc0 hk
    refine ⟨fun z => ?_, fun _ => m_cost0 hy hn (by omega) hg ⟨fun z => ?_, fun z => m_cost0 hy hn (by omega) hg ?_⟩⟩
    · rw [e2] at z
      exact absurd ((nI_leI (by omega) (by omega)).mp z) (by omega)
    · have z := (nI_leI (by omega) (by omega)).mp z
      show lp_ZM_leastAround_14 zt zw zh zp zs zb zz zl zo zc zr zu zv zq zi zk zm zd zg (nI y) (nI x) (nI n) r1 post K d (nI v) (nI c + 1)
      rw [nI_1]
      rw [Nat.min_eq_left z] at hk; exact hk
    · have z := nle_of (by omega) (by omega) z
      show lp_ZM_leastAround_14 zt zw zh zp zs zb zz zl zo zc zr zu zv zq zi zk zm zd zg (nI y) (nI x) (nI n) r1 post K d (nI (cs0 g n c)) (nI c + 1)
      rw [nI_1]
      rw [Nat.min_eq_right (by omega)] at hk; exact hk
  refine ⟨3, stepL _ _ 2 x v0 (by omega) hv0 (by omega) (stepL _ _ 1 (x + 1) _ (by omega) (by omega) hx1 ⟨fun _ => ?_, fun z => ?_⟩)⟩
  · rw [ex]; exact h
  · rw [e2] at z
    exact absurd ((nI_leI (by omega) (by omega)).mpr (Nat.le_refl _)) z
theorem m_costAt {W H n y x : Nat} {P S : Nat → Nat → Nat} (hP : relP W H 40 zp P) (hS : relP 8 H 8 zs S) (hW : W ≤ 40) (hH : H ≤ 40) (hn8 : n ≤ 8) (hnW : n ≤ W) (hy : y < H) (hx : x < n) {post : Int32 → Prop} (h : post (nI (cst P S W n y x))) : wp_ZM_costAt zt (nI W) zh zp zs zb zz zl zo zc zr zu zv zq zi zk zm zd zg (nI y) (nI x) (nI n) post := by
  have e1 : (((40 : Int32) * nI y) + nI W) - nI n + nI x = nI (y * 40 + (W - n + x)) := by
    rw [show (40 : Int32) = nI 40 from rfl, pk_mul, nI_add, pk_sub (by omega), nI_add]
    congr 1; omega
  have e2 : (8 : Int32) * nI y + nI x = nI (y * 8 + x) := by rw [show (8 : Int32) = nI 8 from rfl, pk_mul, nI_add, Nat.mul_comm]
  unfold wp_ZM_costAt
  rw [e1, e2, nI_clamp (by omega), nI_clamp (by omega), hP y _ hy (by omega), hS y x hy (by omega), dst_nI, dst_comm]
  exact ⟨vp_in_nI (by omega) (by decide), vp_in_nI (by omega) (by decide), h⟩
theorem m_seam {W H : Nat} {P S : Nat → Nat → Nat} (hP : relP W H 40 zp P) (oP : okP W H P) (hS : relP 8 H 8 zs S) (oS : okP 8 H S) (h1 : 1 ≤ W) (hW : W ≤ 40) (h2 : 1 ≤ H) (hH : H ≤ 40) {a : Int32} {post : Int32 → Int32 → (Nat → Int32) → (Nat → Int32) → Int32 → Prop}
    (hA : ¬ (∃ n : Nat, 1 ≤ n ∧ n ≤ 8 ∧ n ≤ W ∧ a = nI n) → post 0 1 zk zm zd)
    (hN : ∀ n k' s', 1 ≤ n → n ≤ 8 → n ≤ W → a = nI n → (∀ r, r < H → s' r = nI (pth (csC (cst P S W n) n) n H r)) → post (nI (csC (cst P S W n) n (H - 1) (pth (csC (cst P S W n) n) n H (H - 1)))) 0 k' s' 1) : wp_ZM_seam zt (nI W) (nI H) zp zs zb zz zl zo zc zr zu zv zq zi zk zm zd zg a post := by
  refine p_in1 (n := 8) (by decide) (fun hw => ⟨_, fun _ hh => hh, ⟨fun z => absurd z nz1, fun _ => ?_⟩⟩) (fun hw => ⟨_, fun _ hh => hh, ⟨fun _ => m_bad ⟨fun z => absurd z nz1, fun _ => hA (fun q => ?_)⟩, fun z => absurd rfl z⟩⟩)
  rotate_left
  · obtain ⟨n, q1, q2, q3, q4⟩ := q
    exact hw ⟨n, q1, q2, q4⟩
  obtain ⟨n, hn1, hn8, rfl⟩ := hw
  refine ⟨fun z => ?_, fun z => m_bad ⟨fun z => absurd z nz1, fun _ => hA (fun q => ?_)⟩⟩
  rotate_left
  · obtain ⟨n', q1, q2, q3, q4⟩ := q
    obtain rfl := nI_inj (by omega) (by omega) q4
    exact z ((nI_leI (by omega) (by omega)).mpr q3)
  have hnW := (nI_leI (by omega) (by omega)).mp z
  have hN := fun k' s' => hN n k' s' hn1 hn8 hnW rfl
  refine m_good ⟨fun _ => ?_, fun z => absurd rfl z⟩
  have hD : ∀ y x, y < H → x < n → cst P S W n y x ≤ 65025 := fun y x a b => cst_le oP oS hn8 hnW a b
  have hC : ∀ y x, y < H → x < n → csC (cst P S W n) n y x < 1000000000 := fun y x a b => by have := csC_le hD a b; omega
  have ei : ∀ i j : Nat, (8 : Int32) * nI i + nI j = nI (i * 8 + j) := fun i j => by rw [show (8 : Int32) = nI 8 from rfl, pk_mul, nI_add, Nat.mul_comm]
  have cols : ∀ (t1 t2 t3 : Int32) (y : Nat) (g1 g2 : Nat → Int32) (K : Int32 → (Nat → Int32) → (Nat → Int32) → Prop), y < H → (∀ e fk fm, prtC (csC (cst P S W n) n) n (y + 1) 0 fk → K e fk fm) → ∀ d x fk fm, x + d = n → prtC (csC (cst P S W n) n) n y x fk → lp_ZM_seam_45 zt (nI W) (nI H) zp zs zb zz zl zo zc zr zu zv zq zi zk zm zd zg (nI n) t1 t2 t3 0 (nI y) g1 g2 post K (d + 1) (nI x) fk fm := by
    intro t1 t2 t3 y g1 g2 K hy hK d
    induction d with
    | zero =>
      intro x fk fm hx hf
      obtain rfl : x = n := by omega
      exact ⟨fun _ => hK _ _ _ (prtC_row hf), fun z => absurd ((nI_leI (by omega) (by omega)).mpr (Nat.le_refl _)) z⟩
    | succ d ih =>
      intro x fk fm hx hf
      have fin : ∀ v : Int32, v = nI (csC (cst P S W n) n y x) → vp_in (((8 : Int32) * nI y) + nI x) 320 ∧ (lp_ZM_seam_45 zt (nI W) (nI H) zp zs zb zz zl zo zc zr zu zv zq zi zk zm zd zg (nI n) t1 t2 t3 0 (nI y) g1 g2 post K (d + 1) (nI x + (1 : Int32)) (upd fk (((8 : Int32) * nI y) + nI x).toNatClampNeg v) fm) := by
        intro v hv
        rw [ei, nI_clamp (by omega), nI_1]
        exact ⟨vp_in_nI (by omega) (by decide), ih (x + 1) _ fm (by omega) (prtC_set hn8 (by omega) hf hv)⟩
      refine ⟨fun z => absurd ((nI_leI (by omega) (by omega)).mp z) (by omega), fun _ => m_costAt hP hS hW hH hn8 hnW hy (by omega) ⟨fun z => fin _ ?_, fun z => ?_⟩⟩
      · have z : y = 0 := nI_inj (by omega) (by omega) z
        subst z
        exact nI_add _ 0
      · have z : 0 < y := by
          rcases Nat.eq_zero_or_pos y with q | q
          · exact absurd (by rw [q]; rfl) z
          · exact q
        obtain ⟨y', rfl⟩ : ∃ y', y = y' + 1 := ⟨y - 1, by omega⟩
        have hl : ∀ {X : Int32 → Prop}, X (nI (csC (cst P S W n) n y' (nea (csC (cst P S W n) n y') n x))) → wp_ZM_leastAround (0 : Int32) (nI W) (nI H) zp zs zb zz zl zo zc zr zu zv zq zi fk fm zd zg (nI (y' + 1) - (1 : Int32)) (nI x) (nI n) X := by
          intro X hX
          rw [nI_pred]
          exact m_least (by omega) hn8 (by omega) (fun j hj => hf y' j hj (by omega)) (fun j hj => hC y' j (by omega) hj) hX
        refine hl (fin _ ?_)
        rw [nI_add, Nat.add_comm]; rfl
  have rows : ∀ (t1 t2 t3 : Int32) (K : Int32 → (Nat → Int32) → (Nat → Int32) → Prop), (∀ e fk fm, prtC (csC (cst P S W n) n) n H 0 fk → K e fk fm) → ∀ d y fk fm, y + d = H → prtC (csC (cst P S W n) n) n y 0 fk → lp_ZM_seam_35 zt (nI W) (nI H) zp zs zb zz zl zo zc zr zu zv zq zi zk zm zd zg (nI n) t1 t2 t3 0 post K (d + 1) (nI y) fk fm := by
    intro t1 t2 t3 K hK d
    induction d with
    | zero =>
      intro y fk fm hy hf
      obtain rfl : y = H := by omega
      exact ⟨fun _ => hK _ _ _ hf, fun z => absurd ((nI_leI (by omega) (by omega)).mpr (Nat.le_refl _)) z⟩
    | succ d ih =>
      intro y fk fm hy hf
      refine ⟨fun z => absurd ((nI_leI (by omega) (by omega)).mp z) (by omega), fun _ => ⟨n + 1, ?_⟩⟩
      refine cols t1 t2 t3 y fk fm (fun _ a b => lp_ZM_seam_35 zt (nI W) (nI H) zp zs zb zz zl zo zc zr zu zv zq zi zk zm zd zg (nI n) t1 t2 t3 0 post K (d + 1) (nI y + (1 : Int32)) a b) (by omega) (fun _ fk' fm' hf' => ?_) n 0 fk fm (by omega) hf
      rw [nI_1]
      exact ih (y + 1) fk' fm' (by omega) hf'
  refine ⟨H + 1, rows _ _ _ _ (fun e fk fm hf => ?_) H 0 zk zm (by omega) (fun y' x' _ hc => absurd hc (by omega))⟩
  generalize csC (cst P S W n) n = C at *
  have eH : nI H - (1 : Int32) = nI (H - 1) := nI_sub1 h2
  have best : ∀ (t1 t2 t3 t4 : Int32) (K : Int32 → Int32 → Prop), (∀ e, K (nI (amn (C (H - 1)) 0 (n - 1))) e) → ∀ d i, i + d = n - 1 → lp_ZM_seam_110 zt (nI W) (nI H) zp zs zb zz zl zo zc zr zu zv zq zi zk zm zd zg (nI n) t1 t2 t3 0 t4 fk fm post K (d + 1) (nI (amn (C (H - 1)) 0 i)) (nI (i + 1)) := by
    intro t1 t2 t3 t4 K hK d
    induction d with
    | zero =>
      intro i hi
      obtain rfl : i = n - 1 := by omega
      exact ⟨fun _ => hK _, fun z => absurd ((nI_leI (by omega) (by omega)).mpr (by omega)) z⟩
    | succ d ih =>
      intro i hi
      obtain ⟨s1, s2, _, _⟩ := amn_spec (C (H - 1)) 0 i
      have b1 := hC (H - 1) (amn (C (H - 1)) 0 i) (by omega) (by omega)
      have b2 := hC (H - 1) (i + 1) (by omega) (by omega)
      have ha := ih (i + 1) (by omega)
      have hcI : ∀ {x : Nat} {X : Int32 → Prop}, x < n → X (nI (C (H - 1) x)) → wp_ZM_cost (0 : Int32) (nI W) (nI H) zp zs zb zz zl zo zc zr zu zv zq zi fk fm zd zg (nI H - (1 : Int32)) (nI x) (nI n) X := by
        intro x X hx hX
        rw [eH]
        exact m_costIn (by omega) hn8 hx (hf _ _ hx (by omega)) hX
      refine ⟨fun z => absurd ((nI_leI (by omega) (by omega)).mp z) (by omega), fun _ => hcI (by omega) (hcI (by omega) ⟨fun z => ?_, fun z => ?_⟩)⟩
      · have z := (nI_leI (by omega) (by omega)).mp z
        show lp_ZM_seam_110 zt (nI W) (nI H) zp zs zb zz zl zo zc zr zu zv zq zi zk zm zd zg (nI n) t1 t2 t3 0 t4 fk fm post K (d + 1) (nI (amn (C (H - 1)) 0 i)) (nI (i + 1) + 1)
        rw [nI_1]
        rw [show amn (C (H - 1)) 0 (i + 1) = amn (C (H - 1)) 0 i from if_neg (by rw [Nat.zero_add]; omega)] at ha
        exact ha
      · have z := nle_of (by omega) (by omega) z
        show lp_ZM_seam_110 zt (nI W) (nI H) zp zs zb zz zl zo zc zr zu zv zq zi zk zm zd zg (nI n) t1 t2 t3 0 t4 fk fm post K (d + 1) (nI (i + 1)) (nI (i + 1) + 1)
        rw [nI_1]
        rw [show amn (C (H - 1)) 0 (i + 1) = 0 + i + 1 from if_pos (by rw [Nat.zero_add]; exact z), Nat.zero_add] at ha
        exact ha
  have b0 := fun t1 t2 t3 t4 K hK => best t1 t2 t3 t4 K hK (n - 1) 0 (by omega)
  refine ⟨n - 1 + 1, b0 _ _ _ _ _ (fun e4 => ⟨by rw [eH]; exact vp_in_nI (by omega) (by decide), ?_⟩)⟩
  have find : ∀ (t1 t2 t3 t4 t5 t6 : Int32) (k : Nat) (fm' : Nat → Int32) (K : Int32 → Prop), k + 1 < H → fm' (k + 1) = nI (pth C n H (k + 1)) → K (nI (pth C n H k)) → ∃ m : Nat, lp_ZM_seam_177 zt (nI W) (nI H) zp zs zb zz zl zo zc zr zu zv zq zi zk zm zd zg (nI n) t1 t2 t3 0 t4 fk fm t5 t6 (nI k) fk fm' post K m ((fm' (nI k + (1 : Int32)).toNatClampNeg) - (1 : Int32)) := by
    intro t1 t2 t3 t4 t5 t6 k fm' K hk hfm hK
    have hpl : pth C n H (k + 1) < n := pthD_lt hn1
    have e1 : (nI k + (1 : Int32)).toNatClampNeg = k + 1 := by rw [nI_1]; exact nI_clamp (by omega)
    have hin : vp_in (nI k + (1 : Int32)) 40 := by rw [nI_1]; exact vp_in_nI (by omega) (by decide)
    rw [pth_up hk] at hK
    have hg : ∀ j, j < n → fk (k * 8 + j) = nI (C k j) := fun j hj => hf k j hj (by omega)
    have hb : ∀ j, j < n → C k j < 1000000000 := fun j hj => hC k j (by omega) hj
    obtain ⟨n1, n2, n3, n4, n5⟩ := nea_spec (g := C k) hpl
    have hl : ∀ {X : Int32 → Prop}, X (nI (C k (nea (C k) n (pth C n H (k + 1))))) → wp_ZM_leastAround (0 : Int32) (nI W) (nI H) zp zs zb zz zl zo zc zr zu zv zq zi fk fm' zd zg (nI k) (fm' (nI k + (1 : Int32)).toNatClampNeg) (nI n) X := by
      intro X hX
      rw [e1, hfm]
      exact m_least (by omega) hn8 hpl hg hb hX
    have hT := hb _ n1
    rw [e1, hfm]
    generalize pth C n H (k + 1) = x at *
    have go : ∀ d j, j + d = nea (C k) n x → x - 1 ≤ j → lp_ZM_seam_177 zt (nI W) (nI H) zp zs zb zz zl zo zc zr zu zv zq zi zk zm zd zg (nI n) t1 t2 t3 0 t4 fk fm t5 t6 (nI k) fk fm' post K (d + 1) (nI j) := by
      intro d
      induction d with
      | zero =>
        intro j hj hlo
        obtain rfl : j = nea (C k) n x := by omega
        unfold lp_ZM_seam_177
        show wp_ZM_cost (0 : Int32) (nI W) (nI H) zp zs zb zz zl zo zc zr zu zv zq zi fk fm' zd zg (nI k) (nI (nea (C k) n x)) (nI n) _
        exact m_costIn (by omega) hn8 n1 (hg _ n1) ⟨hin, hl ⟨fun _ => hK, fun z => absurd rfl z⟩⟩
      | succ d ih =>
        intro j hj hlo
        have hlt := n5 j hlo (by omega)
        have hbj := hb j (by omega)
        unfold lp_ZM_seam_177
        show wp_ZM_cost (0 : Int32) (nI W) (nI H) zp zs zb zz zl zo zc zr zu zv zq zi fk fm' zd zg (nI k) (nI j) (nI n) _
        refine m_costIn (by omega) hn8 (by omega) (hg j (by omega)) ⟨hin, hl ⟨fun z => ?_, fun z => ?_⟩⟩
        · have := nI_inj (by omega) (by omega) z
          omega
        · show lp_ZM_seam_177 zt (nI W) (nI H) zp zs zb zz zl zo zc zr zu zv zq zi zk zm zd zg (nI n) t1 t2 t3 0 t4 fk fm t5 t6 (nI k) fk fm' post K (d + 1) (nI j + 1)
          rw [nI_1]
          exact ih (j + 1) (by omega) (by omega)
    rcases Nat.eq_zero_or_pos x with e | e
    · subst e
      refine ⟨nea (C k) n 0 + 1 + 1, ?_⟩
      unfold lp_ZM_seam_177
      show wp_ZM_cost (0 : Int32) (nI W) (nI H) zp zs zb zz zl zo zc zr zu zv zq zi fk fm' zd zg (nI k) (nI 0 - 1) (nI n) _
      refine m_costOut hn8 (m1_out hn8) ⟨hin, hl ⟨fun z => ?_, fun z => ?_⟩⟩
      · have := nI_inj (by omega) (by omega) z
        omega
      · show lp_ZM_seam_177 zt (nI W) (nI H) zp zs zb zz zl zo zc zr zu zv zq zi zk zm zd zg (nI n) t1 t2 t3 0 t4 fk fm t5 t6 (nI k) fk fm' post K (nea (C k) n 0 + 1) (nI 0 - 1 + 1)
        rw [show nI 0 - 1 + 1 = nI 0 by decide +kernel]
        exact go _ 0 (by omega) (by omega)
    · rw [nI_sub1 e]
      exact ⟨nea (C k) n x - (x - 1) + 1, go _ (x - 1) (by omega) (Nat.le_refl _)⟩
  have up : ∀ (t1 t2 t3 t4 t5 t6 : Int32) (K : Int32 → (Nat → Int32) → (Nat → Int32) → Prop), (∀ e s', (∀ r, r < H → s' r = nI (pth C n H r)) → K e fk s') → ∀ k s', k < H → (∀ r, k ≤ r → r < H → s' r = nI (pth C n H r)) → lp_ZM_seam_159 zt (nI W) (nI H) zp zs zb zz zl zo zc zr zu zv zq zi zk zm zd zg (nI n) t1 t2 t3 0 t4 fk fm t5 t6 post K (k + 1) (nI k + (-1 : Int32)) fk s' := by
    intro t1 t2 t3 t4 t5 t6 K hK k
    induction k with
    | zero =>
      intro s' _ hs'
      exact ⟨fun _ => hK _ _ (fun r hr => hs' r (by omega) hr), fun z => absurd (by decide +kernel) z⟩
    | succ k ih =>
      intro s' hk hs'
      rw [pk_m1]
      refine ⟨fun z => absurd z (nI_pos (by omega)), fun _ => ⟨by rw [nI_1]; exact vp_in_nI (by omega) (by decide), find t1 t2 t3 t4 t5 t6 k s' _ hk (hs' (k + 1) (by omega) hk) ⟨vp_in_nI (by omega) (by decide), ?_⟩⟩⟩
      show lp_ZM_seam_159 zt (nI W) (nI H) zp zs zb zz zl zo zc zr zu zv zq zi zk zm zd zg (nI n) t1 t2 t3 0 t4 fk fm t5 t6 post K (k + 1) (nI k + (-1 : Int32)) fk (upd s' (nI k).toNatClampNeg (nI (pth C n H k)))
      rw [nI_clamp (by omega)]
      refine ih _ (by omega) (fun r hr1 hr2 => ?_)
      by_cases hc : r = k
      · rw [hc]; exact pk_us
      · rw [pk_un hc]; exact hs' r (by omega) hr2
  have es : (nI H - (1 : Int32)) - (1 : Int32) = nI (H - 1) + (-1 : Int32) := by rw [eH, Int32.sub_eq_add_neg]
  refine ⟨H - 1 + 1, ?_⟩
  have k0 := fun t1 t2 t3 t4 t5 t6 K hK => up t1 t2 t3 t4 t5 t6 K hK (H - 1) (upd fm (H - 1) (nI (amn (C (H - 1)) 0 (n - 1)))) (by omega) (fun r h1 h2 => by
    obtain rfl : r = H - 1 := by omega
    rw [pk_us, pth_last])
  rw [es, eH, nI_clamp (by omega)]
  refine k0 _ _ _ _ _ _ _ (fun _ s' hs' => ?_)
  have hpl : pth C n H (H - 1) < n := pthD_lt hn1
  rw [← pth_last (C := C) (n := n) (H := H), ei, nI_clamp (by omega), hf (H - 1) _ hpl (by omega)]
  exact ⟨vp_in_nI (by omega) (by decide), hN fk s' hs'⟩
end MSm
