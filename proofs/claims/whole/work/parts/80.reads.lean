/-! one call on both sides -/
theorem v01 : vp_in (0 : Int32) 1 := vp_in_nI (n := 0) (by decide) (by decide)
theorem uL {jf : Nat → Int64} {v w : Int64} (h : v = w) : vp_updL jf (0 : Int32).toNatClampNeg v (0 : Int32).toNatClampNeg = w := by rw [pk_uLs]; exact h
section ST
variable {pw ph : Int32} {pn : Nat} {pf : Nat → Int32} {gw gh : Int32} {gn : Nat} {gf : Nat → Int32} {yk bl : Int32} {bf : Nat → Int32} {kn : Nat} {kf : Nat → Int32} {sn : Nat} {sf : Nat → Int32} {sd tw th : Int32} {tf : Nat → Int32} {uw uh : Int32} {uf : Nat → Int32} {zt zw zh : Int32} {zp zs zb : Nat → Int32} {zz : Int32} {zl zo : Nat → Int32} {zc zr zu zv zq zi : Int32} {zk zm : Nat → Int32} {zd : Int32} {zg : Nat → Int32} {jf : Nat → Int64} {D : Prop → Prop}
theorem st_size (iv : IV pw ph pn pf gw gh gn gf yk bl bf kn kf sn sf sd tw th tf uw uh uf zt zw zh zp zs zb zz zl zo zc zr zu zv zq zi zk zm zd zg) {a1 a2 : Int32} (hD : ∀ p, p → D p) {Q : Int32 → (Nat → Int64) → Int32 → Int32 → Prop} (h : ∀ k jf' r zt', zt' = k → (k = 0 → jf' (0 : Int32).toNatClampNeg = r.toInt64) → IV pw ph pn pf gw gh gn gf yk bl bf kn kf sn sf sd tw th tf uw uh uf zt' zw zh zp zs zb zz zl zo zc zr zu zv zq zi zk zm zd zg → Q k jf' r zt') : wp_ZL_size pw ph pn pf gw gh gn gf yk bl bf kn kf sn sf sd tw th tf uw uh uf jf a1 a2 (fun k jf' => D (wp_ZM_size zt zw zh zp zs zb zz zl zo zc zr zu zv zq zi zk zm zd zg a1 a2 (fun r zt' => Q k jf' r zt'))) := by
  obtain ⟨W, H, P, S, B, b, c, r, t, h1, hW, h2, hH, rfl, rfl, rfl, hp, hzp, op, rfl, rfl, rfl, hg, hzs, os, rfl, rfl, rfl, rfl, rfl, hB, hb, hzb, ob, rfl, rfl, rfl, rfl, hcr, hc, hr, ht, hzl, ot, rfl, rfl, rfl, hsd, hsf⟩ := iv
  by_cases hv : inN a1 (lev (max W H)) ∧ inN a2 2
  · obtain ⟨⟨k, hk, rfl⟩, hb2⟩ := hv
    have hl := lev_in (m := max W H)
    refine Or.inl (q_size h1 hW h2 hH hk hb2 ⟨v01, hD _ (m_size h1 hW h2 hH (fun z => absurd ⟨⟨k, hk, rfl⟩, hb2⟩ z) (fun k' e _ _ => ?_))⟩)
    obtain rfl := nI_inj (by omega) (by omega) e
    exact h 0 _ _ _ rfl (fun _ => uL rfl) ⟨W, H, P, S, B, b, c, r, t, h1, hW, h2, hH, rfl, rfl, rfl, hp, hzp, op, rfl, rfl, rfl, hg, hzs, os, rfl, rfl, rfl, rfl, rfl, hB, hb, hzb, ob, rfl, rfl, rfl, rfl, hcr, hc, hr, ht, hzl, ot, rfl, rfl, rfl, hsd, hsf⟩
  · exact Or.inr ⟨q_size_I hv, hD _ (m_size h1 hW h2 hH (fun _ => h 1 _ _ _ rfl (fun z => absurd z nz1) ⟨W, H, P, S, B, b, c, r, t, h1, hW, h2, hH, rfl, rfl, rfl, hp, hzp, op, rfl, rfl, rfl, hg, hzs, os, rfl, rfl, rfl, rfl, rfl, hB, hb, hzb, ob, rfl, rfl, rfl, rfl, hcr, hc, hr, ht, hzl, ot, rfl, rfl, rfl, hsd, hsf⟩) (fun k e q2 q3 => absurd ⟨⟨k, q2, e⟩, q3⟩ hv))⟩
theorem st_at (iv : IV pw ph pn pf gw gh gn gf yk bl bf kn kf sn sf sd tw th tf uw uh uf zt zw zh zp zs zb zz zl zo zc zr zu zv zq zi zk zm zd zg) {a1 a2 a3 : Int32} (hD : ∀ p, p → D p) {Q : Int32 → (Nat → Int64) → Int32 → Int32 → Prop} (h : ∀ k jf' r zt', zt' = k → (k = 0 → jf' (0 : Int32).toNatClampNeg = r.toInt64) → IV pw ph pn pf gw gh gn gf yk bl bf kn kf sn sf sd tw th tf uw uh uf zt' zw zh zp zs zb zz zl zo zc zr zu zv zq zi zk zm zd zg → Q k jf' r zt') : wp_ZL_at pw ph pn pf gw gh gn gf yk bl bf kn kf sn sf sd tw th tf uw uh uf jf a1 a2 a3 (fun k jf' => D (wp_ZM_at zt zw zh zp zs zb zz zl zo zc zr zu zv zq zi zk zm zd zg a1 a2 a3 (fun r zt' => Q k jf' r zt'))) := by
  obtain ⟨W, H, P, S, B, b, c, r, t, h1, hW, h2, hH, rfl, rfl, rfl, hp, hzp, op, rfl, rfl, rfl, hg, hzs, os, rfl, rfl, rfl, rfl, rfl, hB, hb, hzb, ob, rfl, rfl, rfl, rfl, hcr, hc, hr, ht, hzl, ot, rfl, rfl, rfl, hsd, hsf⟩ := iv
  by_cases hv : plc W H a1 a2 a3
  · obtain ⟨k, x, y, rfl, hk, rfl, hx, rfl, hy⟩ := hv
    have hl := lev_in (m := max W H)
    have c1 := hv_le (k := k) h1
    have c2 := hv_le (k := k) h2
    refine Or.inl (q_at hp op h1 hW h2 hH hk hx hy ⟨v01, hD _ (m_at hzp op h1 hW h2 hH (fun z => absurd ⟨k, x, y, rfl, hk, rfl, hx, rfl, hy⟩ z) (fun k' x' y' e1 g1 e2 g2 e3 g3 => ?_))⟩)
    have d1 := hv_le (k := k') h1
    have d2 := hv_le (k := k') h2
    obtain rfl := nI_inj (by omega) (by omega) e1
    obtain rfl := nI_inj (by omega) (by omega) e2
    obtain rfl := nI_inj (by omega) (by omega) e3
    exact h 0 _ _ _ rfl (fun _ => uL rfl) ⟨W, H, P, S, B, b, c, r, t, h1, hW, h2, hH, rfl, rfl, rfl, hp, hzp, op, rfl, rfl, rfl, hg, hzs, os, rfl, rfl, rfl, rfl, rfl, hB, hb, hzb, ob, rfl, rfl, rfl, rfl, hcr, hc, hr, ht, hzl, ot, rfl, rfl, rfl, hsd, hsf⟩
  · exact Or.inr ⟨q_at_I h1 hW h2 hH hv, hD _ (m_at hzp op h1 hW h2 hH (fun _ => h 1 _ _ _ rfl (fun z => absurd z nz1) ⟨W, H, P, S, B, b, c, r, t, h1, hW, h2, hH, rfl, rfl, rfl, hp, hzp, op, rfl, rfl, rfl, hg, hzs, os, rfl, rfl, rfl, rfl, rfl, hB, hb, hzb, ob, rfl, rfl, rfl, rfl, hcr, hc, hr, ht, hzl, ot, rfl, rfl, rfl, hsd, hsf⟩) (fun k x y e1 g1 e2 g2 e3 g3 => absurd ⟨k, x, y, e1, g1, e2, g2, e3, g3⟩ hv))⟩
theorem st_mean (iv : IV pw ph pn pf gw gh gn gf yk bl bf kn kf sn sf sd tw th tf uw uh uf zt zw zh zp zs zb zz zl zo zc zr zu zv zq zi zk zm zd zg) {a1 a2 a3 a4 : Int32} (hD : ∀ p, p → D p) {Q : Int32 → (Nat → Int64) → Int32 → Int32 → Prop} (h : ∀ k jf' r zt', zt' = k → (k = 0 → jf' (0 : Int32).toNatClampNeg = r.toInt64) → IV pw ph pn pf gw gh gn gf yk bl bf kn kf sn sf sd tw th tf uw uh uf zt' zw zh zp zs zb zz zl zo zc zr zu zv zq zi zk zm zd zg → Q k jf' r zt') : wp_ZL_mean pw ph pn pf gw gh gn gf yk bl bf kn kf sn sf sd tw th tf uw uh uf jf a1 a2 a3 a4 (fun k jf' => D (wp_ZM_mean zt zw zh zp zs zb zz zl zo zc zr zu zv zq zi zk zm zd zg a1 a2 a3 a4 (fun r zt' => Q k jf' r zt'))) := by
  obtain ⟨W, H, P, S, B, b, c, r, t, h1, hW, h2, hH, rfl, rfl, rfl, hp, hzp, op, rfl, rfl, rfl, hg, hzs, os, rfl, rfl, rfl, rfl, rfl, hB, hb, hzb, ob, rfl, rfl, rfl, rfl, hcr, hc, hr, ht, hzl, ot, rfl, rfl, rfl, hsd, hsf⟩ := iv
  by_cases hv : plc W H a1 a2 a3 ∧ inN a4 2
  · obtain ⟨⟨k, x, y, rfl, hk, rfl, hx, rfl, hy⟩, h4⟩ := hv
    have hl := lev_in (m := max W H)
    have c1 := hv_le (k := k) h1
    have c2 := hv_le (k := k) h2
    refine Or.inl (q_mean hp op h1 hW h2 hH hk hx hy h4 ⟨v01, hD _ (m_mean hzp op h1 hW h2 hH (fun z => absurd ⟨⟨k, x, y, rfl, hk, rfl, hx, rfl, hy⟩, h4⟩ z) (fun k' x' y' e1 g1 e2 g2 e3 g3 _ => ?_))⟩)
    have d1 := hv_le (k := k') h1
    have d2 := hv_le (k := k') h2
    obtain rfl := nI_inj (by omega) (by omega) e1
    obtain rfl := nI_inj (by omega) (by omega) e2
    obtain rfl := nI_inj (by omega) (by omega) e3
    exact h 0 _ _ _ rfl (fun _ => uL rfl) ⟨W, H, P, S, B, b, c, r, t, h1, hW, h2, hH, rfl, rfl, rfl, hp, hzp, op, rfl, rfl, rfl, hg, hzs, os, rfl, rfl, rfl, rfl, rfl, hB, hb, hzb, ob, rfl, rfl, rfl, rfl, hcr, hc, hr, ht, hzl, ot, rfl, rfl, rfl, hsd, hsf⟩
  · exact Or.inr ⟨q_mean_I h1 hW h2 hH hv, hD _ (m_mean hzp op h1 hW h2 hH (fun _ => h 1 _ _ _ rfl (fun z => absurd z nz1) ⟨W, H, P, S, B, b, c, r, t, h1, hW, h2, hH, rfl, rfl, rfl, hp, hzp, op, rfl, rfl, rfl, hg, hzs, os, rfl, rfl, rfl, rfl, rfl, hB, hb, hzb, ob, rfl, rfl, rfl, rfl, hcr, hc, hr, ht, hzl, ot, rfl, rfl, rfl, hsd, hsf⟩) (fun k x y e1 g1 e2 g2 e3 g3 g4 => absurd ⟨⟨k, x, y, e1, g1, e2, g2, e3, g3⟩, g4⟩ hv))⟩
theorem st_zoom (iv : IV pw ph pn pf gw gh gn gf yk bl bf kn kf sn sf sd tw th tf uw uh uf zt zw zh zp zs zb zz zl zo zc zr zu zv zq zi zk zm zd zg) {a1 a2 a3 a4 a5 : Int32} (hD : ∀ p, p → D p) {Q : Int32 → (Nat → Int64) → Int32 → Int32 → Prop} (h : ∀ k jf' r zt', zt' = k → (k = 0 → jf' (0 : Int32).toNatClampNeg = r.toInt64) → IV pw ph pn pf gw gh gn gf yk bl bf kn kf sn sf sd tw th tf uw uh uf zt' zw zh zp zs zb zz zl zo zc zr zu zv zq zi zk zm zd zg → Q k jf' r zt') : wp_ZL_zoom pw ph pn pf gw gh gn gf yk bl bf kn kf sn sf sd tw th tf uw uh uf jf a1 a2 a3 a4 a5 (fun k jf' => D (wp_ZM_zoom zt zw zh zp zs zb zz zl zo zc zr zu zv zq zi zk zm zd zg a1 a2 a3 a4 a5 (fun r zt' => Q k jf' r zt'))) := by
  obtain ⟨W, H, P, S, B, b, c, r, t, h1, hW, h2, hH, rfl, rfl, rfl, hp, hzp, op, rfl, rfl, rfl, hg, hzs, os, rfl, rfl, rfl, rfl, rfl, hB, hb, hzb, ob, rfl, rfl, rfl, rfl, hcr, hc, hr, ht, hzl, ot, rfl, rfl, rfl, hsd, hsf⟩ := iv
  by_cases hv : prt W H a1 a2 a3 a4 a5
  · obtain ⟨k, x, y, w, v, rfl, hk, rfl, rfl, rfl, rfl, g1, g2, g3, g4⟩ := hv
    have hl := lev_in (m := max W H)
    have c1 := hv_le (k := k) h1
    have c2 := hv_le (k := k) h2
    refine Or.inl (q_zoom hp op h1 hW h2 hH hk g1 g2 g3 g4 ⟨v01, hD _ (m_zoom hzp op h1 hW h2 hH (fun z => absurd ⟨k, x, y, w, v, rfl, hk, rfl, rfl, rfl, rfl, g1, g2, g3, g4⟩ z) (fun k' x' y' w' v' e1 f1 e2 e3 e4 e5 f2 f3 f4 f5 => ?_))⟩)
    have d1 := hv_le (k := k') h1
    have d2 := hv_le (k := k') h2
    obtain rfl := nI_inj (by omega) (by omega) e1
    obtain rfl := nI_inj (by omega) (by omega) e2
    obtain rfl := nI_inj (by omega) (by omega) e3
    obtain rfl := nI_inj (by omega) (by omega) e4
    obtain rfl := nI_inj (by omega) (by omega) e5
    exact h 0 _ _ _ rfl (fun _ => uL rfl) ⟨W, H, P, S, B, b, c, r, t, h1, hW, h2, hH, rfl, rfl, rfl, hp, hzp, op, rfl, rfl, rfl, hg, hzs, os, rfl, rfl, rfl, rfl, rfl, hB, hb, hzb, ob, rfl, rfl, rfl, rfl, hcr, hc, hr, ht, hzl, ot, rfl, rfl, rfl, hsd, hsf⟩
  · exact Or.inr ⟨q_zoom_I h1 hW h2 hH hv, hD _ (m_zoom hzp op h1 hW h2 hH (fun _ => h 1 _ _ _ rfl (fun z => absurd z nz1) ⟨W, H, P, S, B, b, c, r, t, h1, hW, h2, hH, rfl, rfl, rfl, hp, hzp, op, rfl, rfl, rfl, hg, hzs, os, rfl, rfl, rfl, rfl, rfl, hB, hb, hzb, ob, rfl, rfl, rfl, rfl, hcr, hc, hr, ht, hzl, ot, rfl, rfl, rfl, hsd, hsf⟩) (fun k x y w v e1 f1 e2 e3 e4 e5 f2 f3 f4 f5 => absurd ⟨k, x, y, w, v, e1, f1, e2, e3, e4, e5, f2, f3, f4, f5⟩ hv))⟩
theorem st_turned (iv : IV pw ph pn pf gw gh gn gf yk bl bf kn kf sn sf sd tw th tf uw uh uf zt zw zh zp zs zb zz zl zo zc zr zu zv zq zi zk zm zd zg) {a1 a2 a3 : Int32} (hD : ∀ p, p → D p) {Q : Int32 → (Nat → Int64) → Int32 → Int32 → Prop} (h : ∀ k jf' r zt', zt' = k → (k = 0 → jf' (0 : Int32).toNatClampNeg = r.toInt64) → IV pw ph pn pf gw gh gn gf yk bl bf kn kf sn sf sd tw th tf uw uh uf zt' zw zh zp zs zb zz zl zo zc zr zu zv zq zi zk zm zd zg → Q k jf' r zt') : wp_ZL_turned pw ph pn pf gw gh gn gf yk bl bf kn kf sn sf sd tw th tf uw uh uf jf a1 a2 a3 (fun k jf' => D (wp_ZM_turned zt zw zh zp zs zb zz zl zo zc zr zu zv zq zi zk zm zd zg a1 a2 a3 (fun r zt' => Q k jf' r zt'))) := by
  obtain ⟨W, H, P, S, B, b, c, r, t, h1, hW, h2, hH, rfl, rfl, rfl, hp, hzp, op, rfl, rfl, rfl, hg, hzs, os, rfl, rfl, rfl, rfl, rfl, hB, hb, hzb, ob, rfl, rfl, rfl, rfl, hcr, hc, hr, ht, hzl, ot, rfl, rfl, rfl, hsd, hsf⟩ := iv
  have tw1 : tuw W H (a3 &&& 3) ≤ 40 := by unfold tuw; split <;> omega
  have tw2 : tuw H W (a3 &&& 3) ≤ 40 := by unfold tuw; split <;> omega
  by_cases hv : inN a1 (tuw W H (a3 &&& 3)) ∧ inN a2 (tuw H W (a3 &&& 3))
  · obtain ⟨⟨x, hx, rfl⟩, ⟨y, hy, rfl⟩⟩ := hv
    refine Or.inl (q_turned hp hW hH hx hy ⟨v01, hD _ (m_turned hzp h1 hW h2 hH (fun z => absurd ⟨⟨x, hx, rfl⟩, ⟨y, hy, rfl⟩⟩ z) (fun x' y' e1 g1 e2 g2 => ?_))⟩)
    obtain rfl := nI_inj (by omega) (by omega) e1
    obtain rfl := nI_inj (by omega) (by omega) e2
    exact h 0 _ _ _ rfl (fun _ => uL rfl) ⟨W, H, P, S, B, b, c, r, t, h1, hW, h2, hH, rfl, rfl, rfl, hp, hzp, op, rfl, rfl, rfl, hg, hzs, os, rfl, rfl, rfl, rfl, rfl, hB, hb, hzb, ob, rfl, rfl, rfl, rfl, hcr, hc, hr, ht, hzl, ot, rfl, rfl, rfl, hsd, hsf⟩
  · exact Or.inr ⟨q_turned_I hW hH hv, hD _ (m_turned hzp h1 hW h2 hH (fun _ => h 1 _ _ _ rfl (fun z => absurd z nz1) ⟨W, H, P, S, B, b, c, r, t, h1, hW, h2, hH, rfl, rfl, rfl, hp, hzp, op, rfl, rfl, rfl, hg, hzs, os, rfl, rfl, rfl, rfl, rfl, hB, hb, hzb, ob, rfl, rfl, rfl, rfl, hcr, hc, hr, ht, hzl, ot, rfl, rfl, rfl, hsd, hsf⟩) (fun x y e1 g1 e2 g2 => absurd ⟨⟨x, g1, e1⟩, ⟨y, g2, e2⟩⟩ hv))⟩
theorem st_byteAt (iv : IV pw ph pn pf gw gh gn gf yk bl bf kn kf sn sf sd tw th tf uw uh uf zt zw zh zp zs zb zz zl zo zc zr zu zv zq zi zk zm zd zg) {a1 : Int32} (hD : ∀ p, p → D p) {Q : Int32 → (Nat → Int64) → Int32 → Int32 → Prop} (h : ∀ k jf' r zt', zt' = k → (k = 0 → jf' (0 : Int32).toNatClampNeg = r.toInt64) → IV pw ph pn pf gw gh gn gf yk bl bf kn kf sn sf sd tw th tf uw uh uf zt' zw zh zp zs zb zz zl zo zc zr zu zv zq zi zk zm zd zg → Q k jf' r zt') : wp_ZL_byteAt pw ph pn pf gw gh gn gf yk bl bf kn kf sn sf sd tw th tf uw uh uf jf a1 (fun k jf' => D (wp_ZM_byteAt zt zw zh zp zs zb zz zl zo zc zr zu zv zq zi zk zm zd zg a1 (fun r zt' => Q k jf' r zt'))) := by
  obtain ⟨W, H, P, S, B, b, c, r, t, h1, hW, h2, hH, rfl, rfl, rfl, hp, hzp, op, rfl, rfl, rfl, hg, hzs, os, rfl, rfl, rfl, rfl, rfl, hB, hb, hzb, ob, rfl, rfl, rfl, rfl, hcr, hc, hr, ht, hzl, ot, rfl, rfl, rfl, hsd, hsf⟩ := iv
  by_cases hv : inN a1 B
  · obtain ⟨k, hk, rfl⟩ := hv
    refine Or.inl (q_byteAt hB hk ⟨v01, hD _ (m_byteAt hB (fun z => absurd ⟨k, hk, rfl⟩ z) (fun k' g1 e1 => ?_))⟩)
    obtain rfl := nI_inj (by omega) (by omega) e1
    exact h 0 _ _ _ rfl (fun _ => uL (by rw [hb k hk, hzb k hk])) ⟨W, H, P, S, B, b, c, r, t, h1, hW, h2, hH, rfl, rfl, rfl, hp, hzp, op, rfl, rfl, rfl, hg, hzs, os, rfl, rfl, rfl, rfl, rfl, hB, hb, hzb, ob, rfl, rfl, rfl, rfl, hcr, hc, hr, ht, hzl, ot, rfl, rfl, rfl, hsd, hsf⟩
  · exact Or.inr ⟨q_byteAt_I hB hv, hD _ (m_byteAt hB (fun _ => h 1 _ _ _ rfl (fun z => absurd z nz1) ⟨W, H, P, S, B, b, c, r, t, h1, hW, h2, hH, rfl, rfl, rfl, hp, hzp, op, rfl, rfl, rfl, hg, hzs, os, rfl, rfl, rfl, rfl, rfl, hB, hb, hzb, ob, rfl, rfl, rfl, rfl, hcr, hc, hr, ht, hzl, ot, rfl, rfl, rfl, hsd, hsf⟩) (fun k g1 e1 => absurd ⟨k, g1, e1⟩ hv))⟩
theorem st_opened (iv : IV pw ph pn pf gw gh gn gf yk bl bf kn kf sn sf sd tw th tf uw uh uf zt zw zh zp zs zb zz zl zo zc zr zu zv zq zi zk zm zd zg) {a1 : Int32} (hD : ∀ p, p → D p) {Q : Int32 → (Nat → Int64) → Int32 → Int32 → Prop} (h : ∀ k jf' r zt', zt' = k → (k = 0 → jf' (0 : Int32).toNatClampNeg = r.toInt64) → IV pw ph pn pf gw gh gn gf yk bl bf kn kf sn sf sd tw th tf uw uh uf zt' zw zh zp zs zb zz zl zo zc zr zu zv zq zi zk zm zd zg → Q k jf' r zt') : wp_ZL_opened pw ph pn pf gw gh gn gf yk bl bf kn kf sn sf sd tw th tf uw uh uf jf a1 (fun k jf' => D (wp_ZM_opened zt zw zh zp zs zb zz zl zo zc zr zu zv zq zi zk zm zd zg a1 (fun r zt' => Q k jf' r zt'))) := by
  obtain ⟨W, H, P, S, B, b, c, r, t, h1, hW, h2, hH, rfl, rfl, rfl, hp, hzp, op, rfl, rfl, rfl, hg, hzs, os, rfl, rfl, rfl, rfl, rfl, hB, hb, hzb, ob, rfl, rfl, rfl, rfl, hcr, hc, hr, ht, hzl, ot, rfl, rfl, rfl, hsd, hsf⟩ := iv
  have h64 := mul8 hc hr
  by_cases hv : inN a1 (c * r)
  · obtain ⟨k, hk, rfl⟩ := hv
    refine Or.inl (q_opened h64 hk ⟨v01, hD _ (m_opened h64 (fun z => absurd ⟨k, hk, rfl⟩ z) (fun k' g1 e1 => ?_))⟩)
    obtain rfl := nI_inj (by omega) (by omega) e1
    exact h 0 _ _ _ rfl (fun _ => uL (by rw [ht k hk, hzl k hk])) ⟨W, H, P, S, B, b, c, r, t, h1, hW, h2, hH, rfl, rfl, rfl, hp, hzp, op, rfl, rfl, rfl, hg, hzs, os, rfl, rfl, rfl, rfl, rfl, hB, hb, hzb, ob, rfl, rfl, rfl, rfl, hcr, hc, hr, ht, hzl, ot, rfl, rfl, rfl, hsd, hsf⟩
  · exact Or.inr ⟨q_opened_I h64 hv, hD _ (m_opened h64 (fun _ => h 1 _ _ _ rfl (fun z => absurd z nz1) ⟨W, H, P, S, B, b, c, r, t, h1, hW, h2, hH, rfl, rfl, rfl, hp, hzp, op, rfl, rfl, rfl, hg, hzs, os, rfl, rfl, rfl, rfl, rfl, hB, hb, hzb, ob, rfl, rfl, rfl, rfl, hcr, hc, hr, ht, hzl, ot, rfl, rfl, rfl, hsd, hsf⟩) (fun k g1 e1 => absurd ⟨k, g1, e1⟩ hv))⟩
theorem st_seamAt (iv : IV pw ph pn pf gw gh gn gf yk bl bf kn kf sn sf sd tw th tf uw uh uf zt zw zh zp zs zb zz zl zo zc zr zu zv zq zi zk zm zd zg) {a1 : Int32} (hD : ∀ p, p → D p) {Q : Int32 → (Nat → Int64) → Int32 → Int32 → Prop} (h : ∀ k jf' r zt', zt' = k → (k = 0 → jf' (0 : Int32).toNatClampNeg = r.toInt64) → IV pw ph pn pf gw gh gn gf yk bl bf kn kf sn sf sd tw th tf uw uh uf zt' zw zh zp zs zb zz zl zo zc zr zu zv zq zi zk zm zd zg → Q k jf' r zt') : wp_ZL_seamAt pw ph pn pf gw gh gn gf yk bl bf kn kf sn sf sd tw th tf uw uh uf jf a1 (fun k jf' => D (wp_ZM_seamAt zt zw zh zp zs zb zz zl zo zc zr zu zv zq zi zk zm zd zg a1 (fun r zt' => Q k jf' r zt'))) := by
  obtain ⟨W, H, P, S, B, b, c, r, t, h1, hW, h2, hH, rfl, rfl, rfl, hp, hzp, op, rfl, rfl, rfl, hg, hzs, os, rfl, rfl, rfl, rfl, rfl, hB, hb, hzb, ob, rfl, rfl, rfl, rfl, hcr, hc, hr, ht, hzl, ot, rfl, rfl, rfl, hsd, hsf⟩ := iv
  by_cases hv : sd = 1 ∧ inN a1 H
  · obtain ⟨rfl, k, hk, rfl⟩ := hv
    refine Or.inl (q_seamAt hH hk ⟨v01, hD _ (m_seamAt h2 hH hsd (fun z => absurd ⟨rfl, k, hk, rfl⟩ z) (fun k' _ g1 e1 => ?_))⟩)
    obtain rfl := nI_inj (by omega) (by omega) e1
    exact h 0 _ _ _ rfl (fun _ => uL (by rw [hsf rfl k hk])) ⟨W, H, P, S, B, b, c, r, t, h1, hW, h2, hH, rfl, rfl, rfl, hp, hzp, op, rfl, rfl, rfl, hg, hzs, os, rfl, rfl, rfl, rfl, rfl, hB, hb, hzb, ob, rfl, rfl, rfl, rfl, hcr, hc, hr, ht, hzl, ot, rfl, rfl, rfl, hsd, hsf⟩
  · exact Or.inr ⟨q_seamAt_I hH hv hsd, hD _ (m_seamAt h2 hH hsd (fun _ => h 1 _ _ _ rfl (fun z => absurd z nz1) ⟨W, H, P, S, B, b, c, r, t, h1, hW, h2, hH, rfl, rfl, rfl, hp, hzp, op, rfl, rfl, rfl, hg, hzs, os, rfl, rfl, rfl, rfl, rfl, hB, hb, hzb, ob, rfl, rfl, rfl, rfl, hcr, hc, hr, ht, hzl, ot, rfl, rfl, rfl, hsd, hsf⟩) (fun k g0 g1 e1 => absurd ⟨g0, k, g1, e1⟩ hv))⟩
end ST
