/-! the calls that only read: size, at, zoom -/
theorem two_in {a : Int32} : inN a 2 ↔ (a = 0 ∨ a = 1) := by
  refine ⟨?_, ?_⟩
  · rintro ⟨j, hj, rfl⟩
    rcases (show j = 0 ∨ j = 1 by omega) with rfl | rfl
    · exact Or.inl rfl
    · exact Or.inr rfl
  · rintro (rfl | rfl)
    · exact ⟨0, by decide, rfl⟩
    · exact ⟨1, by decide, rfl⟩
def szv (W H k : Nat) (b : Int32) : Nat := if b = 0 then hv W k else hv H k
section QR
variable {pw ph : Int32} {pn : Nat} {pf : Nat → Int32} {gw gh : Int32} {gn : Nat} {gf : Nat → Int32} {yk bl : Int32} {bf : Nat → Int32} {kn : Nat} {kf : Nat → Int32} {sn : Nat} {sf : Nat → Int32} {sd tw th : Int32} {tf : Nat → Int32} {uw uh : Int32} {uf : Nat → Int32}
theorem q_size {W H k : Nat} (h1 : 1 ≤ W) (hW : W ≤ 40) (h2 : 1 ≤ H) (hH : H ≤ 40) (hk : k < lev (max W H)) {b : Int32} (hb : inN b 2) {post : Int32 → Prop} (h : post (nI (szv W H k b))) : wp_ZQ_size (nI W) (nI H) pn pf gw gh gn gf (nI (lev (max W H))) bl bf kn kf sn sf sd tw th tf uw uh uf (nI k) b post := by
  have hl := lev_in (m := max W H)
  unfold szv at h
  refine q_hasLevel (yk := 0) (by omega) (fun _ => ⟨_, fun _ hh => hh, ⟨fun h => absurd h nz1, fun _ => p_isWithin (n := 2) (by decide) (fun _ => ⟨fun h => absurd h nz1, fun _ => q_reqPlace rfl ⟨fun e => ?_, fun e => ?_⟩⟩) (fun hn => absurd hb hn)⟩⟩) (fun hn => absurd ⟨k, hk, rfl⟩ hn)
  · rw [if_pos e] at h
    exact q_halved h1 hW (by omega) h
  · rw [if_neg e] at h
    exact q_halved h2 hH (by omega) h
theorem q_size_I {W H : Nat} {a b : Int32} (hn : ¬ (inN a (lev (max W H)) ∧ inN b 2)) : xp_ZQ_size_I (nI W) (nI H) pn pf gw gh gn gf (nI (lev (max W H))) bl bf kn kf sn sf sd tw th tf uw uh uf a b := by
  have hl := lev_in (m := max W H)
  exact q_hasLevel (yk := 0) (by omega) (fun h1 => ⟨_, fun _ hh => hh, ⟨fun h => absurd h nz1, fun _ => p_isWithin (n := 2) (by decide) (fun h2 => absurd ⟨h1, h2⟩ hn) (fun _ => ⟨fun _ => Or.inl (q_reqPlace_I rfl), fun h => absurd rfl h⟩)⟩⟩) (fun _ => ⟨_, fun _ hh => hh, ⟨fun _ => Or.inl (q_reqPlace_I rfl), fun h => absurd rfl h⟩⟩)
theorem q_at {W H k x y : Nat} {P : Nat → Nat → Nat} (hr : relP W H W pf P) (ho : okP W H P) (h1 : 1 ≤ W) (hW : W ≤ 40) (h2 : 1 ≤ H) (hH : H ≤ 40) (hk : k < lev (max W H)) (hx : x < hv W k) (hy : y < hv H k) {post : Int32 → Prop} (h : post (nI (smp P W H k x y))) : wp_ZQ_at (nI W) (nI H) (W * H) pf gw gh gn gf (nI (lev (max W H))) bl bf kn kf sn sf sd tw th tf uw uh uf (nI k) (nI x) (nI y) post := by
  have hl := lev_in (m := max W H)
  exact q_hasPlace h1 hW h2 hH (fun _ => q_reqPlace rfl (q_rounded hr ho hW hH (by omega) (hv_lt h1 hx) (hv_lt h2 hy) h)) (fun hn => absurd ⟨k, x, y, rfl, hk, rfl, hx, rfl, hy⟩ hn)
theorem q_at_I {W H : Nat} (h1 : 1 ≤ W) (hW : W ≤ 40) (h2 : 1 ≤ H) (hH : H ≤ 40) {a b c : Int32} (hn : ¬ plc W H a b c) : xp_ZQ_at_I (nI W) (nI H) pn pf gw gh gn gf (nI (lev (max W H))) bl bf kn kf sn sf sd tw th tf uw uh uf a b c :=
  q_hasPlace h1 hW h2 hH (fun h => absurd h hn) (fun _ => Or.inl (q_reqPlace_I rfl))
/-- the sum of a level's samples in a part -/
def zsum (P : Nat → Nat → Nat) (W H k x y w h : Nat) : Nat := sum2 (fun v u => smp P W H k u v) x y w h
theorem q_zoom {W H k x y w h : Nat} {P : Nat → Nat → Nat} (hr : relP W H W pf P) (ho : okP W H P) (h1 : 1 ≤ W) (hW : W ≤ 40) (h2 : 1 ≤ H) (hH : H ≤ 40) (hk : k < lev (max W H)) (w1 : 1 ≤ w) (hx : x + w ≤ hv W k) (v1 : 1 ≤ h) (hy : y + h ≤ hv H k) {post : Int32 → Prop} (hp : post (nI (zsum P W H k x y w h))) : wp_ZQ_zoom (nI W) (nI H) (W * H) pf gw gh gn gf (nI (lev (max W H))) bl bf kn kf sn sf sd tw th tf uw uh uf (nI k) (nI x) (nI y) (nI w) (nI h) post := by
  have hl := lev_in (m := max W H)
  have c1 := hv_le (k := k) h1
  have c2 := hv_le (k := k) h2
  refine q_hasPart h1 hW h2 hH (fun _ => q_reqPlace rfl ?_) (fun hn => absurd ⟨k, x, y, w, h, rfl, hk, rfl, rfl, rfl, rfl, w1, hx, v1, hy⟩ hn)
  have inner : ∀ (K : Int32 → Int32 → Prop) (s0 : Int32) (acc j : Nat), j < h → K (nI (acc + sumR (fun i => smp P W H k (x + i) (y + j)) w)) (nI (x + w)) → ∀ d i, i + d = w →
      lp_ZQ_zoom_35 (nI W) (nI H) (W * H) pf gw gh gn gf (nI (lev (max W H))) bl bf kn kf sn sf sd tw th tf uw uh uf (nI k) (nI x) (nI y) (nI w) (nI h) 1 s0 (nI (y + j)) post K (d + 1) (nI (acc + sumR (fun i => smp P W H k (x + i) (y + j)) i)) (nI (x + i)) := by
    intro K s0 acc j hj hK d
    induction d with
    | zero =>
      intro i hi
      obtain rfl : i = w := by omega
      refine ⟨fun _ => hK, fun hn => ?_⟩
      rw [nI_add] at hn
      exact absurd ((nI_leI (by omega) (by omega)).mpr (Nat.le_refl _)) hn
    | succ d ih =>
      intro i hi
      refine ⟨fun hn => ?_, fun _ => ?_⟩
      · rw [nI_add] at hn
        exact absurd ((nI_leI (by omega) (by omega)).mp hn) (by omega)
      · refine q_rounded hr ho hW hH (by omega) (hv_lt h1 (by omega)) (hv_lt h2 (by omega)) ?_
        show lp_ZQ_zoom_35 (nI W) (nI H) (W * H) pf gw gh gn gf (nI (lev (max W H))) bl bf kn kf sn sf sd tw th tf uw uh uf (nI k) (nI x) (nI y) (nI w) (nI h) 1 s0 (nI (y + j)) post K (d + 1) (nI (acc + sumR (fun i => smp P W H k (x + i) (y + j)) i) + nI (smp P W H k (x + i) (y + j))) (nI (x + i) + 1)
        rw [nI_add, nI_1]
        have := ih (i + 1) (by omega)
        rw [show acc + sumR (fun i => smp P W H k (x + i) (y + j)) (i + 1) = acc + sumR (fun i => smp P W H k (x + i) (y + j)) i + smp P W H k (x + i) (y + j) from (Nat.add_assoc _ _ _).symm] at this
        exact this
  have outer : ∀ d j, j + d = h → lp_ZQ_zoom_23 (nI W) (nI H) (W * H) pf gw gh gn gf (nI (lev (max W H))) bl bf kn kf sn sf sd tw th tf uw uh uf (nI k) (nI x) (nI y) (nI w) (nI h) 1 post (fun a _ => post a) (d + 1) (nI (zsum P W H k x y w j)) (nI (y + j)) := by
    intro d
    induction d with
    | zero =>
      intro j hj
      obtain rfl : j = h := by omega
      refine ⟨fun _ => hp, fun hn => ?_⟩
      rw [nI_add] at hn
      exact absurd ((nI_leI (by omega) (by omega)).mpr (Nat.le_refl _)) hn
    | succ d ih =>
      intro j hj
      refine ⟨fun hn => ?_, fun _ => ⟨w + 1, ?_⟩⟩
      · rw [nI_add] at hn
        exact absurd ((nI_leI (by omega) (by omega)).mp hn) (by omega)
      · exact inner (fun a _ => lp_ZQ_zoom_23 (nI W) (nI H) (W * H) pf gw gh gn gf (nI (lev (max W H))) bl bf kn kf sn sf sd tw th tf uw uh uf (nI k) (nI x) (nI y) (nI w) (nI h) 1 post (fun a _ => post a) (d + 1) a (nI (y + j) + (1 : Int32))) (nI (zsum P W H k x y w j)) (zsum P W H k x y w j) j (by omega) (by
          rw [nI_1]
          exact ih (j + 1) (by omega)) w 0 (by omega)
  exact ⟨h + 1, outer h 0 (by omega)⟩
theorem q_zoom_I {W H : Nat} (h1 : 1 ≤ W) (hW : W ≤ 40) (h2 : 1 ≤ H) (hH : H ≤ 40) {a b c d e : Int32} (hn : ¬ prt W H a b c d e) : xp_ZQ_zoom_I (nI W) (nI H) pn pf gw gh gn gf (nI (lev (max W H))) bl bf kn kf sn sf sd tw th tf uw uh uf a b c d e :=
  q_hasPart h1 hW h2 hH (fun h => absurd h hn) (fun _ => Or.inl (q_reqPlace_I rfl))
end QR
section MR
variable {zt zw zh : Int32} {zp zs zb : Nat → Int32} {zz : Int32} {zl zo : Nat → Int32} {zc zr zu zv zq zi : Int32} {zk zm : Nat → Int32} {zd : Int32} {zg : Nat → Int32}
theorem m_size {W H : Nat} (h1 : 1 ≤ W) (hW : W ≤ 40) (h2 : 1 ≤ H) (hH : H ≤ 40) {a b : Int32} {post : Int32 → Int32 → Prop} (hI : ¬ (inN a (lev (max W H)) ∧ inN b 2) → post 0 1) (hN : ∀ k : Nat, a = nI k → k < lev (max W H) → inN b 2 → post (nI (szv W H k b)) 0) : wp_ZM_size zt (nI W) (nI H) zp zs zb zz zl zo zc zr zu zv zq zi zk zm zd zg a b post := by
  have hl := lev_in (m := max W H)
  have bad : ∀ t : Int32, ¬ t = 0 → ¬ (inN a (lev (max W H)) ∧ inN b 2) → wp_ZM_throwing zt (nI W) (nI H) zp zs zb zz zl zo zc zr zu zv zq zi zk zm zd zg t 0 (fun (r_3 : Int32) (zt_2 : Int32) => ((r_3 = (0 : Int32) → ((b = (0 : Int32) → (wp_ZM_across zt_2 (nI W) (nI H) zp zs zb zz zl zo zc zr zu zv zq zi zk zm zd zg a (fun r_7 : Int32 => post r_7 zt_2))) ∧ (¬ b = (0 : Int32) → (wp_ZM_down zt_2 (nI W) (nI H) zp zs zb zz zl zo zc zr zu zv zq zi zk zm zd zg a (fun r_6 : Int32 => post r_6 zt_2))))) ∧ (¬ r_3 = (0 : Int32) → (post (0 : Int32) zt_2)))) :=
    fun t ht hb => p_throwing (fun _ => ⟨fun h => absurd h nz1, fun _ => hI hb⟩) (fun h => absurd h ht) (fun h => absurd h ht)
  refine m_isLevel h1 hW h2 hH (fun hk => ⟨_, fun _ hh => hh, ⟨fun h => absurd h nz1, fun _ => p_in0 (n := 2) (by decide) (by decide) (fun hb => ⟨fun h => absurd h nz1, fun _ => ?_⟩) (fun hb => ⟨fun _ => bad 1 nz1 (fun q => hb q.2), fun h => absurd rfl h⟩)⟩⟩) (fun hk => ⟨_, fun _ hh => hh, ⟨fun _ => bad 1 nz1 (fun q => hk q.1), fun h => absurd rfl h⟩⟩)
  obtain ⟨k, hk, rfl⟩ := hk
  have hN := hN k rfl hk hb
  unfold szv at hN
  refine p_throwing (fun h => absurd rfl h) (fun _ h => absurd rfl h) (fun _ _ => ⟨fun _ => ⟨fun e => ?_, fun e => ?_⟩, fun h => absurd rfl h⟩)
  · rw [if_pos e] at hN
    exact p_half h1 (by omega) (by omega) hN
  · rw [if_neg e] at hN
    exact p_half h2 (by omega) (by omega) hN
theorem m_at {W H : Nat} {P : Nat → Nat → Nat} (hr : relP W H 40 zp P) (ho : okP W H P) (h1 : 1 ≤ W) (hW : W ≤ 40) (h2 : 1 ≤ H) (hH : H ≤ 40) {a b c : Int32} {post : Int32 → Int32 → Prop} (hI : ¬ plc W H a b c → post 0 1) (hN : ∀ k x y : Nat, a = nI k → k < lev (max W H) → b = nI x → x < hv W k → c = nI y → y < hv H k → post (nI (smp P W H k x y)) 0) : wp_ZM_at zt (nI W) (nI H) zp zs zb zz zl zo zc zr zu zv zq zi zk zm zd zg a b c post := by
  have hl := lev_in (m := max W H)
  refine m_isAt h1 hW h2 hH (fun hp => ⟨_, fun _ hh => hh, ⟨fun h => absurd h nz1, fun _ => ?_⟩⟩) (fun hp => ⟨_, fun _ hh => hh, ⟨fun _ => ?_, fun h => absurd rfl h⟩⟩)
  · obtain ⟨k, x, y, rfl, hk, rfl, hx, rfl, hy⟩ := hp
    exact p_throwing (fun h => absurd rfl h) (fun _ h => absurd rfl h) (fun _ _ => ⟨fun _ => m_sample hr ho hW hH (by omega) (hv_lt h1 hx) (hv_lt h2 hy) (hN k x y rfl hk rfl hx rfl hy), fun h => absurd rfl h⟩)
  · exact p_throwing (fun _ => ⟨fun h => absurd h nz1, fun _ => hI hp⟩) (fun h => absurd h nz1) (fun h => absurd h nz1)
theorem m_zoom {W H : Nat} {P : Nat → Nat → Nat} (hr : relP W H 40 zp P) (ho : okP W H P) (h1 : 1 ≤ W) (hW : W ≤ 40) (h2 : 1 ≤ H) (hH : H ≤ 40) {a b c d e : Int32} {post : Int32 → Int32 → Prop} (hI : ¬ prt W H a b c d e → post 0 1) (hN : ∀ k x y w h : Nat, a = nI k → k < lev (max W H) → b = nI x → c = nI y → d = nI w → e = nI h → 1 ≤ w → x + w ≤ hv W k → 1 ≤ h → y + h ≤ hv H k → post (nI (zsum P W H k x y w h)) 0) : wp_ZM_zoom zt (nI W) (nI H) zp zs zb zz zl zo zc zr zu zv zq zi zk zm zd zg a b c d e post := by
  have hl := lev_in (m := max W H)
  have bad : ∀ {X : Int32 → Int32 → Prop}, (¬ prt W H a b c d e → X 1 1) → ¬ prt W H a b c d e → wp_ZM_throwing zt (nI W) (nI H) zp zs zb zz zl zo zc zr zu zv zq zi zk zm zd zg 1 0 X := fun hX hb => p_throwing (fun _ => hX hb) (fun h => absurd h nz1) (fun h => absurd h nz1)
  refine m_isLevel h1 hW h2 hH (fun hk => ⟨_, fun _ hh => hh, ⟨fun h => absurd h nz1, fun _ => ?_⟩⟩) (fun hk => ⟨_, fun _ hh => hh, ⟨fun _ => ?_, fun h => absurd rfl h⟩⟩)
  · obtain ⟨k, hk, rfl⟩ := hk
    have c1 := hv_le (k := k) h1
    have c2 := hv_le (k := k) h2
    have p1 := hv_pos (k := k) h1
    have p2 := hv_pos (k := k) h2
    refine p_half h1 (by omega) (by omega) (p_half h2 (by omega) (by omega) (m_isPart p1 (by omega) p2 (by omega) (fun hq => ⟨fun h => absurd h nz1, fun _ => ⟨_, fun _ hh => hh, ⟨fun h => absurd h nz1, fun _ => ?_⟩⟩⟩) (fun hq => ⟨fun _ => ⟨_, fun _ hh => hh, ⟨fun _ => bad (fun hb => ⟨fun h => absurd h nz1, fun _ => hI hb⟩) ?_, fun h => absurd rfl h⟩⟩, fun h => absurd rfl h⟩)))
    · obtain ⟨x, y, w, h, rfl, rfl, rfl, rfl, w1, hx, v1, hy⟩ := hq
      have hN := hN k x y w h rfl hk rfl rfl rfl rfl w1 hx v1 hy
      refine p_throwing (fun h => absurd rfl h) (fun _ h => absurd rfl h) (fun _ _ => ⟨fun _ => ?_, fun h => absurd rfl h⟩)
      have hm : w * h ≤ 1600 := Nat.mul_le_mul (by omega : w ≤ 40) (by omega : h ≤ 40)
      have es := sum_rows (fun j i => smp P W H k (x + i) (y + j)) w1 h
      have key : ∀ (t1 t2 t3 t4 : Int32) (g q : Nat), q + g = w * h → lp_ZM_zoom_63 zt (nI W) (nI H) zp zs zb zz zl zo zc zr zu zv zq zi zk zm zd zg (nI k) (nI x) (nI y) (nI w) (nI h) t1 t2 t3 t4 0 post (fun a _ => post a 0) (g + 1) (nI (sumR (fun q => smp P W H k (x + q % w) (y + q / w)) q)) (nI q) := by
        intro t1 t2 t3 t4 g
        induction g with
        | zero =>
          intro q hq
          obtain rfl : q = w * h := by omega
          refine ⟨fun _ => ?_, fun hn => ?_⟩
          · unfold zsum sum2 at hN
            rw [← es] at hN; exact hN
          · rw [pk_mul] at hn
            exact absurd ((nI_leI (by omega) (by omega)).mpr (Nat.le_refl _)) hn
        | succ g ih =>
          intro q hq
          have d1 : q / w < h := by rw [Nat.div_lt_iff_lt_mul w1, Nat.mul_comm]; omega
          have d2 : q % w < w := Nat.mod_lt _ w1
          refine ⟨fun hn => ?_, fun _ => ⟨nI_ne0 w1 (by omega), nI_ne0 w1 (by omega), ?_⟩⟩
          · rw [pk_mul] at hn
            exact absurd ((nI_leI (by omega) (by omega)).mp hn) (by omega)
          · rw [pk_rem (by omega) w1 (by omega), pk_div (by omega) w1 (by omega), nI_add, nI_add]
            refine m_sample hr ho hW hH (by omega) (hv_lt h1 (by omega)) (hv_lt h2 (by omega)) ?_
            show lp_ZM_zoom_63 zt (nI W) (nI H) zp zs zb zz zl zo zc zr zu zv zq zi zk zm zd zg (nI k) (nI x) (nI y) (nI w) (nI h) t1 t2 t3 t4 0 post (fun a _ => post a 0) (g + 1) (nI (sumR (fun q => smp P W H k (x + q % w) (y + q / w)) q) + nI (smp P W H k (x + q % w) (y + q / w))) (nI q + 1)
            rw [nI_add, nI_1]
            exact ih (q + 1) (by omega)
      exact ⟨w * h + 1, key _ _ _ _ (w * h) 0 (by omega)⟩
    · rintro ⟨k', x, y, w, h, e1, e2, e3, e4, e5, e6, g1, g2, g3, g4⟩
      obtain rfl := nI_inj (by omega) (by omega) e1
      exact hq ⟨x, y, w, h, e3, e4, e5, e6, g1, g2, g3, g4⟩
  · refine ⟨_, fun _ hh => hh, ⟨fun _ => bad (fun hb => ⟨fun h => absurd h nz1, fun _ => hI hb⟩) ?_, fun h => absurd rfl h⟩⟩
    rintro ⟨k', x, y, w, h, e1, e2, -⟩
    exact hk ⟨k', e2, e1⟩
end MR
