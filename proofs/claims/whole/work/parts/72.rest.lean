/-! seam and seamAt as calls; levels; the start -/
section QV
variable {pw ph : Int32} {pn : Nat} {pf : Nat → Int32} {gw gh : Int32} {gn : Nat} {gf : Nat → Int32} {yk bl : Int32} {bf : Nat → Int32} {kn : Nat} {kf : Nat → Int32} {sn : Nat} {sf : Nat → Int32} {sd tw th : Int32} {tf : Nat → Int32} {uw uh : Int32} {uf : Nat → Int32}
theorem q_seam {W H n : Nat} {P S : Nat → Nat → Nat} (hP : relP W H W pf P) (oP : okP W H P) (hS : relP 8 H 8 gf S) (oS : okP 8 H S) (hW : W ≤ 40) (h2 : 1 ≤ H) (hH : H ≤ 40) (hn1 : 1 ≤ n) (hn8 : n ≤ 8) (hnW : n ≤ W) {post : Int32 → (Nat → Int32) → (Nat → Int32) → Int32 → Prop}
    (h : ∀ k' s', (∀ r, r < H → s' r = nI (pth (csC (cst P S W n) n) n H r)) → post (nI (csC (cst P S W n) n (H - 1) (pth (csC (cst P S W n) n) n H (H - 1)))) k' s' 1) : wp_ZQ_seam (nI W) (nI H) (W * H) pf (nI 8) (nI H) (8 * H) gf yk bl bf (8 * H) kf H sf sd tw th tf uw uh uf (nI n) post := by
  obtain ⟨c1, c2⟩ := (rngN (a := nI n) (n := 8) (by decide)).mpr ⟨n, hn1, hn8, rfl⟩
  exact ⟨fun z => absurd z c1, fun _ => ⟨fun z => absurd z c2, fun _ => ⟨fun _ => q_findLeast hP oP hS oS hW h2 hH hn1 hn8 hnW h, fun z => absurd ((nI_leI (by omega) (by omega)).mpr hnW) z⟩⟩⟩
theorem q_seam_A {W : Nat} (hW : W ≤ 40) {a : Int32} (hn : ¬ (∃ n : Nat, 1 ≤ n ∧ n ≤ 8 ∧ n ≤ W ∧ a = nI n)) : xp_ZQ_seam_A (nI W) ph pn pf gw gh gn gf yk bl bf kn kf sn sf sd tw th tf uw uh uf a := by
  refine ⟨fun _ => trivial, fun c1 => ⟨fun _ => trivial, fun c2 => ⟨fun z => hn ?_, fun _ => trivial⟩⟩⟩
  obtain ⟨n, n1, n8, rfl⟩ := (rngN (a := a) (n := 8) (by decide)).mp ⟨c1, c2⟩
  exact ⟨n, n1, n8, (nI_leI (by omega) (by omega)).mp z, rfl⟩
theorem q_seamAt {H r : Nat} (hH : H ≤ 40) (hr : r < H) {post : Int32 → Prop} (h : post (sf r)) : wp_ZQ_seamAt pw (nI H) pn pf gw gh gn gf yk bl bf kn kf H sf (1 : Int32) tw th tf uw uh uf (nI r) post := by
  refine ⟨_, fun _ hh => hh, ⟨fun z => absurd z nz1, fun _ => p_isWithin (by omega) (fun _ => ⟨fun z => absurd z nz1, fun _ => q_reqPlace rfl ⟨vp_in_nI hr (by omega), ?_⟩⟩) (fun z => absurd ⟨r, hr, rfl⟩ z)⟩⟩
  rw [nI_clamp (by omega)]; exact h
theorem q_seamAt_I {H : Nat} {a : Int32} (hH : H ≤ 40) (hn : ¬ (sd = 1 ∧ inN a H)) (hs : sd = 0 ∨ sd = 1) : xp_ZQ_seamAt_I pw (nI H) pn pf gw gh gn gf yk bl bf kn kf sn sf sd tw th tf uw uh uf a := by
  refine ⟨_, fun _ hh => hh, ⟨fun _ => Or.inl (q_reqPlace_I rfl), fun z => p_isWithin (by omega) (fun w => absurd ⟨hs.resolve_left z, w⟩ hn) (fun _ => ⟨fun _ => Or.inl (q_reqPlace_I rfl), fun z => absurd rfl z⟩)⟩⟩
end QV
section MV2
variable {zt zw zh : Int32} {zp zs zb : Nat → Int32} {zz : Int32} {zl zo : Nat → Int32} {zc zr zu zv zq zi : Int32} {zk zm : Nat → Int32} {zd : Int32} {zg : Nat → Int32}
theorem m_seamAt {H : Nat} {a : Int32} (h2 : 1 ≤ H) (hH : H ≤ 40) (hs : zd = 0 ∨ zd = 1) {post : Int32 → Int32 → Prop} (hI : ¬ (zd = 1 ∧ inN a H) → post 0 1) (hN : ∀ r, zd = 1 → r < H → a = nI r → post (zm r) 0) : wp_ZM_seamAt zt zw (nI H) zp zs zb zz zl zo zc zr zu zv zq zi zk zm zd zg a post := by
  refine ⟨_, fun _ hh => hh, ⟨fun z => m_bad ⟨fun z => absurd z nz1, fun _ => hI (fun w => nz1 (w.1.symm.trans z))⟩, fun z => p_inZ (by omega) (fun w => ⟨fun z => absurd z nz1, fun _ => m_good ⟨fun _ => ?_, fun z => absurd rfl z⟩⟩) (fun w => ⟨fun _ => m_bad ⟨fun z => absurd z nz1, fun _ => hI (fun q => w q.2)⟩, fun z => absurd rfl z⟩)⟩⟩
  obtain ⟨r, hr, rfl⟩ := w
  refine ⟨vp_in_nI (by omega) (by decide), ?_⟩
  rw [nI_clamp (by omega)]; exact hN r (hs.resolve_left z) hr rfl
end MV2
/-- a side, held between 1 and 40 -/
theorem held (a : Int32) : ∃ n : Nat, 1 ≤ n ∧ n ≤ 40 ∧ (if (1 : Int32) < (if a < (40 : Int32) then a else (40 : Int32)) then (if a < (40 : Int32) then a else (40 : Int32)) else (1 : Int32)) = nI n ∧ ∀ {post : Int32 → Prop}, post (nI n) → wp_ZM_held a post := by
  have e40 : (40 : Int32).toInt = 40 := rfl
  have e1 : (1 : Int32).toInt = 1 := rfl
  by_cases h1 : a < (40 : Int32)
  · by_cases h2 : (1 : Int32) < a
    · have h1' := Int32.lt_iff_toInt_lt.mp h1
      have h2' := Int32.lt_iff_toInt_lt.mp h2
      obtain ⟨n, n1, n2, rfl⟩ := (rngN (a := a) (n := 40) (by decide)).mp ⟨by rw [Int32.lt_iff_toInt_lt]; omega, by rw [Int32.lt_iff_toInt_lt, show (nI 40).toInt = 40 from rfl]; omega⟩
      refine ⟨n, n1, n2, by rw [if_pos h1, if_pos h2], fun hp => ⟨fun _ => ⟨fun _ => hp, fun z => absurd (Int32.le_iff_toInt_le.mpr (by omega)) z⟩, fun z => absurd (Int32.le_iff_toInt_le.mpr (by omega)) z⟩⟩
    · refine ⟨1, by decide, by decide, by rw [if_pos h1, if_neg h2]; rfl, fun hp => ⟨fun z => ⟨fun _ => ?_, fun w => absurd (Int32.le_iff_toInt_le.mpr (by have := Int32.lt_iff_toInt_lt.mp h1; omega)) w⟩, fun _ => hp⟩⟩
      have h2' : ¬ (1 : Int32).toInt < a.toInt := fun w => h2 (Int32.lt_iff_toInt_lt.mpr w)
      have z' := Int32.le_iff_toInt_le.mp z
      rw [show a = nI 1 from Int32.toInt_inj.mp (by rw [show (nI 1).toInt = 1 from rfl]; omega)]
      exact hp
  · have h1' : ¬ a.toInt < (40 : Int32).toInt := fun w => h1 (Int32.lt_iff_toInt_lt.mpr w)
    refine ⟨40, by decide, by decide, by rw [if_neg h1, if_pos (by decide)]; rfl, fun hp => ⟨fun _ => ⟨fun z => ?_, fun _ => hp⟩, fun z => absurd (Int32.le_iff_toInt_le.mpr (by omega)) z⟩⟩
    have z' := Int32.le_iff_toInt_le.mp z
    rw [show a = nI 40 from Int32.toInt_inj.mp (by rw [show (nI 40).toInt = 40 from rfl]; omega)]
    exact hp
theorem q_pinit {W H : Nat} (hW : W ≤ 40) (hH : H ≤ 40) {post : Nat → (Nat → Int32) → Prop} (h : post (W * H) (fun _ => 0)) : wp_ZP_init (nI W) (nI H) post := by
  have h16 := mul40 hW hH
  unfold wp_ZP_init
  rw [pk_mul, nI_clamp (by omega)]
  exact ⟨nI_pos (by omega), h16, h⟩
theorem cell_ok {L : Nat} {xs : Nat → Int32} (hL : L < 2 ^ 31) (k : Nat) (hk : k < 2 ^ 31) : ∃ v, ∀ {post : Int32 → Prop}, post v → wp_ZL_cell L xs (nI k) post := by
  rcases Nat.lt_or_ge k L with q | q
  · refine ⟨xs k, fun hp => ⟨fun z => absurd ((nI_leI hL hk).mp z) (by omega), fun _ => ⟨vp_in_nI q hL, ?_⟩⟩⟩
    rw [nI_clamp hk]; exact hp
  · exact ⟨0, fun hp => ⟨fun _ => hp, fun z => absurd ((nI_leI hL hk).mpr q) z⟩⟩
/-- the two sides are one -/
def IV (pw ph : Int32) (pn : Nat) (pf : Nat → Int32) (gw gh : Int32) (gn : Nat) (gf : Nat → Int32) (yk bl : Int32) (bf : Nat → Int32) (kn : Nat) (kf : Nat → Int32) (sn : Nat) (sf : Nat → Int32) (sd tw th : Int32) (tf : Nat → Int32) (uw uh : Int32) (uf : Nat → Int32) (zt zw zh : Int32) (zp zs zb : Nat → Int32) (zz : Int32) (zl zo : Nat → Int32) (zc zr zu zv zq zi : Int32) (zk zm : Nat → Int32) (zd : Int32) (zg : Nat → Int32) : Prop :=
  ∃ (W H : Nat) (P S : Nat → Nat → Nat) (B : Nat) (b : Nat → Nat) (c r : Nat) (t : Nat → Nat), 1 ≤ W ∧ W ≤ 40 ∧ 1 ≤ H ∧ H ≤ 40 ∧ pw = nI W ∧ ph = nI H ∧ pn = W * H ∧ relP W H W pf P ∧ relP W H 40 zp P ∧ okP W H P ∧ gw = nI 8 ∧ gh = nI H ∧ gn = 8 * H ∧ relP 8 H 8 gf S ∧ relP 8 H 8 zs S ∧ okP 8 H S ∧ yk = nI (lev (max W H)) ∧ zw = nI W ∧ zh = nI H ∧ bl = nI B ∧ zz = nI B ∧ B ≤ 256 ∧ relB B bf b ∧ relB B zb b ∧ okB B b ∧ tw = nI c ∧ th = nI r ∧ zu = nI c ∧ zv = nI r ∧ ((c = 0 ∧ r = 0) ∨ (1 ≤ c ∧ 1 ≤ r)) ∧ c ≤ 8 ∧ r ≤ 8 ∧ relB (c * r) tf t ∧ relB (c * r) zl t ∧ okB (c * r) t ∧ kn = 8 * H ∧ H = sn ∧ sd = zd ∧ (sd = 0 ∨ sd = 1) ∧ (sd = 1 → ∀ q, q < H → sf q = zm q)
theorem z256 : (0 : Nat) < 256 := by decide
theorem start_ok {a b : Int32} {X : Int32 → Int32 → Nat → (Nat → Int32) → Int32 → Int32 → Nat → (Nat → Int32) → Int32 → Int32 → (Nat → Int32) → Nat → (Nat → Int32) → Nat → (Nat → Int32) → Int32 → Int32 → Int32 → (Nat → Int32) → Int32 → Int32 → (Nat → Int32) → Prop} (h : ∀ (pw ph : Int32) (pn : Nat) (pf : Nat → Int32) (gw gh : Int32) (gn : Nat) (gf : Nat → Int32) (yk bl : Int32) (bf : Nat → Int32) (kn : Nat) (kf : Nat → Int32) (sn : Nat) (sf : Nat → Int32) (sd tw th : Int32) (tf : Nat → Int32) (uw uh : Int32) (uf : Nat → Int32), (∀ {post : Int32 → Int32 → Int32 → (Nat → Int32) → (Nat → Int32) → (Nat → Int32) → Int32 → (Nat → Int32) → (Nat → Int32) → Int32 → Int32 → Int32 → Int32 → Int32 → Int32 → (Nat → Int32) → (Nat → Int32) → Int32 → (Nat → Int32) → Prop}, (∀ (zt zw zh : Int32) (zp zs zb : Nat → Int32) (zz : Int32) (zl zo : Nat → Int32) (zc zr zu zv zq zi : Int32) (zk zm : Nat → Int32) (zd : Int32) (zg : Nat → Int32), IV pw ph pn pf gw gh gn gf yk bl bf kn kf sn sf sd tw th tf uw uh uf zt zw zh zp zs zb zz zl zo zc zr zu zv zq zi zk zm zd zg → post zt zw zh zp zs zb zz zl zo zc zr zu zv zq zi zk zm zd zg) → wp_ZM_init a b post) → X pw ph pn pf gw gh gn gf yk bl bf kn kf sn sf sd tw th tf uw uh uf) : wp_ZQ_init a b X := by
  obtain ⟨W, w1, w2, ew, hw⟩ := held a
  obtain ⟨H, g1, g2, eh, hh⟩ := held b
  unfold wp_ZQ_init
  rw [ew, eh]
  have hcl : (nI H).toNatClampNeg = H := nI_clamp (by omega)
  have e8 : (8 : Int32) * nI H = nI (8 * H) := pk_mul 8 H
  have hc8 : ((8 : Int32) * nI H).toNatClampNeg = 8 * H := by rw [e8]; exact nI_clamp (by omega)
  refine q_pinit w2 g2 (q_pinit (W := 8) (by decide) g2 (p_init w1 w2 g1 g2 ⟨by rw [e8]; exact nI_pos (by omega), by rw [hc8]; omega, nI_pos (by omega), by rw [hcl]; omega, ?_⟩))
  rw [hc8, hcl]
  refine h _ _ _ _ _ _ _ _ _ _ _ _ _ _ _ _ _ _ _ _ _ _ (fun hp => hw (hh (hp _ _ _ _ _ _ _ _ _ _ _ _ _ _ _ _ _ _ _ ?_)))
  refine ⟨W, H, fun _ _ => 0, fun _ _ => 0, 0, fun _ => 0, 0, 0, fun _ => 0, w1, w2, g1, g2, rfl, rfl, rfl, fun _ _ _ _ => rfl, fun _ _ _ _ => rfl, fun _ _ _ _ => z256, rfl, rfl, rfl, fun _ _ _ _ => rfl, fun _ _ _ _ => rfl, fun _ _ _ _ => z256, rfl, rfl, rfl, rfl, rfl, by decide, fun _ _ => rfl, fun _ _ => rfl, fun _ _ => z256, rfl, rfl, rfl, rfl, Or.inl ⟨rfl, rfl⟩, by decide, by decide, fun _ _ => rfl, fun _ _ => rfl, fun _ _ => z256, rfl, rfl, rfl, Or.inl rfl, fun _ _ _ => rfl⟩
