theorem q_replace {W H : Nat} (hW : W ≤ 40) (hH : H ≤ 40) {f : Nat → Int32} {x y : Nat} (hx : x < W) (hy : y < H) {v : Int32} (hv : inN v 256) {post : Int32 → (Nat → Int32) → Prop} (h : post (f (y * W + x)) (upd f (y * W + x) v)) : wp_ZQ_replaceSample (nI W) (nI H) (W * H) f (nI x) (nI y) v post := by
  have hi : nI y * nI W + nI x = nI (y * W + x) := by rw [pk_mul, nI_add]
  have hlt := idx_lt hy hx
  have h16 := mul40 hW hH
  have hc : (nI (y * W + x)).toNatClampNeg = y * W + x := nI_clamp (by omega)
  refine p_isWithin (by omega) (fun _ => ⟨_, fun _ hh => hh, ⟨fun h => absurd h nz1, fun _ => p_isWithin (by omega) (fun _ => ⟨fun h => absurd h nz1, fun _ => ?_⟩) (fun hn => absurd ⟨y, hy, rfl⟩ hn)⟩⟩) (fun hn => absurd ⟨x, hx, rfl⟩ hn)
  refine ⟨fun h => absurd h nz1, fun _ => p_isSample (fun _ => ⟨fun h => absurd h nz1, fun _ => ?_⟩) (fun hn => absurd hv hn)⟩
  unfold wp_ZP_sampleAt wp_ZP_setSample
  rw [hi, hc]
  exact ⟨vp_in_nI hlt (by omega), vp_in_nI hlt (by omega), h⟩
theorem q_replace_I {W H n : Nat} (hW : W ≤ 40) (hH : H ≤ 40) {f : Nat → Int32} {a b v : Int32} (h : ¬ (inN a W ∧ inN b H)) : xp_ZQ_replaceSample_I (nI W) (nI H) n f a b v := by
  refine p_isWithin (by omega) (fun h1 => ⟨_, fun _ hh => hh, ⟨fun h => absurd h nz1, fun _ => p_isWithin (by omega) (fun h2 => absurd ⟨h1, h2⟩ h) (fun _ => ⟨fun _ => ?_, fun h => absurd rfl h⟩)⟩⟩) (fun _ => ⟨_, fun _ hh => hh, ⟨fun _ => ?_, fun h => absurd rfl h⟩⟩)
  · exact Or.inl ⟨fun _ => trivial, fun h => h rfl⟩
  · exact Or.inl ⟨fun _ => trivial, fun h => h rfl⟩
theorem q_replace_A {W H n : Nat} (hW : W ≤ 40) (hH : H ≤ 40) {f : Nat → Int32} {a b v : Int32} (ha : inN a W) (hb : inN b H) (hv : ¬ inN v 256) : xp_ZQ_replaceSample_A (nI W) (nI H) n f a b v := by
  refine p_isWithin (by omega) (fun _ => ⟨_, fun _ hh => hh, ⟨fun h => absurd h nz1, fun _ => p_isWithin (by omega) (fun _ => ⟨fun h => absurd h nz1, fun _ => ?_⟩) (fun hn => absurd hb hn)⟩⟩) (fun hn => absurd ha hn)
  refine ⟨fun h => absurd h nz1, fun _ => Or.inl (p_isSample (fun h => absurd h hv) (fun _ => ⟨fun _ => trivial, fun h => h rfl⟩))⟩
theorem p_notByte {v : Int32} {X : Int32 → Prop} (h0 : inN v 256 → X 0) (h1 : ¬ inN v 256 → X 1) : wp_ZM_isByte v (fun r : Int32 => ∃ J : Int32 → Prop, (∀ t : Int32, J t → X t) ∧ (((r = (0 : Int32) → J 1) ∧ (¬ r = (0 : Int32) → J 0)))) :=
  p_isByte (fun h => ⟨X, fun _ hh => hh, ⟨fun h => absurd h nz1, fun _ => h0 h⟩⟩) (fun h => ⟨X, fun _ hh => hh, ⟨fun _ => h1 h, fun h => absurd rfl h⟩⟩)
section MPut
variable {zt zw zh : Int32} {zp zs zb : Nat → Int32} {zz : Int32} {zl zo : Nat → Int32} {zc zr zu zv zq zi : Int32} {zk zm : Nat → Int32} {zd : Int32} {zg : Nat → Int32}
theorem m_isPlace {W H : Nat} (h1 : 1 ≤ W) (hW : W ≤ 40) (h2 : 1 ≤ H) (hH : H ≤ 40) {a b : Int32} {post : Int32 → Prop} (hy : inN a W ∧ inN b H → post 1) (hn : ¬ (inN a W ∧ inN b H) → post 0) : wp_ZM_isPlace zt (nI W) (nI H) zp zs zb zz zl zo zc zr zu zv zq zi zk zm zd zg a b post := by
  unfold wp_ZM_isPlace
  rw [nI_sub1 h1, nI_sub1 h2]
  exact p_in0 h1 (by omega) (fun ha => ⟨fun h => absurd h nz1, fun _ => p_in0 h2 (by omega) (fun hb => ⟨fun h => absurd h nz1, fun _ => hy ⟨ha, hb⟩⟩) (fun hb => ⟨fun _ => hn (fun h => hb h.2), fun h => absurd rfl h⟩)⟩) (fun ha => ⟨fun _ => hn (fun h => ha h.1), fun h => absurd rfl h⟩)
theorem m_put {W H : Nat} (h1 : 1 ≤ W) (hW : W ≤ 40) (h2 : 1 ≤ H) (hH : H ≤ 40) {a b v : Int32} {post : Int32 → Int32 → (Nat → Int32) → Prop} (hI : ¬ (inN a W ∧ inN b H) → post 0 1 zp) (hA : (inN a W ∧ inN b H) → ¬ inN v 256 → post 0 2 zp)
    (hN : ∀ x y w : Nat, a = nI x → x < W → b = nI y → y < H → v = nI w → w < 256 → post (zp (y * 40 + x)) 0 (upd zp (y * 40 + x) (nI w))) : wp_ZM_put zt (nI W) (nI H) zp zs zb zz zl zo zc zr zu zv zq zi zk zm zd zg a b v post := by
  unfold wp_ZM_put
  have fin : ∀ t1 t2 : Int32, (t1 = 0 ↔ (inN a W ∧ inN b H)) → (t2 = 0 ↔ inN v 256) → wp_ZM_throwing zt (nI W) (nI H) zp zs zb zz zl zo zc zr zu zv zq zi zk zm zd zg t1 t2 (fun (r_4 : Int32) (zt_3 : Int32) => ((r_4 = (0 : Int32) → (vp_in (((40 : Int32) * b) + a) 1600 ∧ (vp_in (((40 : Int32) * b) + a) 1600 ∧ (post (zp (((40 : Int32) * b) + a).toNatClampNeg) zt_3 (upd zp (((40 : Int32) * b) + a).toNatClampNeg v))))) ∧ (¬ r_4 = (0 : Int32) → (post (0 : Int32) zt_3 zp)))) := by
    intro t1 t2 e1 e2
    refine p_throwing (fun h => ⟨fun h => absurd h nz1, fun _ => hI (fun q => h (e1.mpr q))⟩) (fun h h' => ⟨fun h => absurd h nz1, fun _ => hA (e1.mp h) (fun q => h' (e2.mpr q))⟩) (fun h h' => ⟨fun _ => ?_, fun h => absurd rfl h⟩)
    obtain ⟨⟨x, hx, rfl⟩, ⟨y, hy, rfl⟩⟩ := e1.mp h
    obtain ⟨w, hw, rfl⟩ := e2.mp h'
    have hi : (40 : Int32) * nI y + nI x = nI (y * 40 + x) := by
      rw [show (40 : Int32) = nI 40 from rfl, pk_mul, nI_add, Nat.mul_comm]
    have hlt : y * 40 + x < 1600 := by omega
    rw [hi, nI_clamp (by omega)]
    exact ⟨vp_in_nI hlt (by decide), vp_in_nI hlt (by decide), hN x y w rfl hx rfl hy rfl hw⟩
  refine m_isPlace h1 hW h2 hH (fun hp => ⟨_, fun _ hh => hh, ⟨fun h => absurd h nz1, fun _ => ?_⟩⟩) (fun hp => ⟨_, fun _ hh => hh, ⟨fun _ => ?_, fun h => absurd rfl h⟩⟩)
  · refine p_isByte (fun hv => ⟨_, fun _ hh => hh, ⟨fun h => absurd h nz1, fun _ => ?_⟩⟩) (fun hv => ⟨_, fun _ hh => hh, ⟨fun _ => ?_, fun h => absurd rfl h⟩⟩)
    · exact fin 0 0 (by simp [hp]) (by simp [hv])
    · exact fin 0 1 (by simp [hp]) (by simp [hv])
  · refine p_isByte (fun hv => ⟨_, fun _ hh => hh, ⟨fun h => absurd h nz1, fun _ => ?_⟩⟩) (fun hv => ⟨_, fun _ hh => hh, ⟨fun _ => ?_, fun h => absurd rfl h⟩⟩)
    · exact fin 1 0 (by simp [hp]) (by simp [hv])
    · exact fin 1 1 (by simp [hp]) (by simp [hv])
theorem m_strip {H : Nat} (h2 : 1 ≤ H) (hH : H ≤ 40) {a b v : Int32} {post : Int32 → Int32 → (Nat → Int32) → Prop} (hI : ¬ (inN a 8 ∧ inN b H) → post 0 1 zs) (hA : (inN a 8 ∧ inN b H) → ¬ inN v 256 → post 0 2 zs)
    (hN : ∀ x y w : Nat, a = nI x → x < 8 → b = nI y → y < H → v = nI w → w < 256 → post (zs (y * 8 + x)) 0 (upd zs (y * 8 + x) (nI w))) : wp_ZM_strip zt zw (nI H) zp zs zb zz zl zo zc zr zu zv zq zi zk zm zd zg a b v post := by
  unfold wp_ZM_strip
  have fin : ∀ t1 t2 : Int32, (t1 = 0 ↔ (inN a 8 ∧ inN b H)) → (t2 = 0 ↔ inN v 256) → wp_ZM_throwing zt zw (nI H) zp zs zb zz zl zo zc zr zu zv zq zi zk zm zd zg t1 t2 (fun (r_4 : Int32) (zt_3 : Int32) => ((r_4 = (0 : Int32) → (vp_in (((8 : Int32) * b) + a) 320 ∧ (vp_in (((8 : Int32) * b) + a) 320 ∧ (post (zs (((8 : Int32) * b) + a).toNatClampNeg) zt_3 (upd zs (((8 : Int32) * b) + a).toNatClampNeg v))))) ∧ (¬ r_4 = (0 : Int32) → (post (0 : Int32) zt_3 zs)))) := by
    intro t1 t2 e1 e2
    refine p_throwing (fun h => ⟨fun h => absurd h nz1, fun _ => hI (fun q => h (e1.mpr q))⟩) (fun h h' => ⟨fun h => absurd h nz1, fun _ => hA (e1.mp h) (fun q => h' (e2.mpr q))⟩) (fun h h' => ⟨fun _ => ?_, fun h => absurd rfl h⟩)
    obtain ⟨⟨x, hx, rfl⟩, ⟨y, hy, rfl⟩⟩ := e1.mp h
    obtain ⟨w, hw, rfl⟩ := e2.mp h'
    have hi : (8 : Int32) * nI y + nI x = nI (y * 8 + x) := by
      rw [show (8 : Int32) = nI 8 from rfl, pk_mul, nI_add, Nat.mul_comm]
    have hlt : y * 8 + x < 320 := by omega
    rw [hi, nI_clamp (by omega)]
    exact ⟨vp_in_nI hlt (by decide), vp_in_nI hlt (by decide), hN x y w rfl hx rfl hy rfl hw⟩
  rw [nI_sub1 h2]
  refine p_in0 (n := 8) (by decide) (by decide) (fun ha => ⟨_, fun _ hh => hh, ⟨fun h => absurd h nz1, fun _ => p_in0 h2 (by omega) (fun hb => ⟨fun h => absurd h nz1, fun _ => ?_⟩) (fun hb => ⟨fun _ => ?_, fun h => absurd rfl h⟩)⟩⟩) (fun ha => ⟨_, fun _ hh => hh, ⟨fun _ => ?_, fun h => absurd rfl h⟩⟩)
  · exact p_notByte (fun hv => fin 0 0 (by simp [ha, hb]) (by simp [hv])) (fun hv => fin 0 1 (by simp [ha, hb]) (by simp [hv]))
  · exact p_notByte (fun hv => fin 1 0 (by simp [hb]) (by simp [hv])) (fun hv => fin 1 1 (by simp [hb]) (by simp [hv]))
  · exact p_notByte (fun hv => fin 1 0 (by simp [ha]) (by simp [hv])) (fun hv => fin 1 1 (by simp [ha]) (by simp [hv]))
end MPut
