/-! mean, turned -/
theorem nI_m1 {n : Nat} (h : 0 < n) : nI n + (-1 : Int32) = nI (n - 1) := by
  rw [← nI_sub1 h, Int32.sub_eq_add_neg]
theorem rest_half {u v : Nat} (h0 : 0 < v) (h1 : 0 < u % v) : 2 * (v % (u % v)) < v := by
  have hr : u % v < v := Nat.mod_lt _ h0
  have hm : v % (u % v) < u % v := Nat.mod_lt _ h1
  have hd := Nat.div_add_mod v (u % v)
  have hq : 1 ≤ v / (u % v) := by rw [Nat.le_div_iff_mul_le h1]; omega
  have : (u % v) * 1 ≤ (u % v) * (v / (u % v)) := Nat.mul_le_mul_left _ hq
  omega
theorem p_gd {a b : Nat} (ha : a < 2 ^ 31) (hb0 : 1 ≤ b) (hb : b ≤ 1600) {post : Int32 → Prop} (hp : post (nI (Nat.gcd b a))) : wp_ZQ_greatestDivisor (nI a) (nI b) post := by
  have hp : post (if (1 : Int32) < nI (Nat.gcd b a) then nI (Nat.gcd b a) else (1 : Int32)) := by
    have hg1 : 0 < Nat.gcd b a := Nat.gcd_pos_of_pos_left _ hb0
    have hg2 := Nat.le_of_dvd hb0 (Nat.gcd_dvd_left b a)
    rw [max1_nI hg1 (by omega)]; exact hp
  have key : ∀ e u v s, v < 2 ^ e → s + 2 * e ≤ 62 → Nat.gcd v u = Nat.gcd b a → u < 2 ^ 31 → v < 2 ^ 31 → lp_ZQ_greatestDivisor_7 (nI a) (nI b) post (fun a _ _ => post (if (1 : Int32) < a then a else (1 : Int32))) (2 * e + 1) (nI u) (nI v) (nI s) := by
    intro e
    induction e with
    | zero =>
      intro u v s hv hs hg hu _
      obtain rfl : v = 0 := by omega
      rw [Nat.gcd_zero_left] at hg
      refine ⟨fun _ => ?_, fun _ => ⟨fun _ => ?_, fun h => absurd rfl h⟩⟩
      · show post (if (1 : Int32) < nI u then nI u else (1 : Int32)); rw [hg]; exact hp
      · show post (if (1 : Int32) < nI u then nI u else (1 : Int32)); rw [hg]; exact hp
    | succ e ih =>
      intro u v s hv hs hg hu hv3
      have c1 : ¬ (64 : Int32) ≤ nI s := fun q => absurd ((nI_leI (a := 64) (by omega) (by omega)).mp q) (by omega)
      refine ⟨fun q => absurd q c1, fun _ => ⟨fun h => ?_, fun h => ⟨h, ?_⟩⟩⟩
      · obtain rfl : v = 0 := nI_inj (by omega) (by omega) h
        rw [Nat.gcd_zero_left] at hg
        show post (if (1 : Int32) < nI u then nI u else (1 : Int32)); rw [hg]; exact hp
      · have hv0 : 0 < v := by
          rcases Nat.eq_zero_or_pos v with rfl | q
          · exact absurd rfl h
          · exact q
        have hr : u % v < v := Nat.mod_lt _ hv0
        show lp_ZQ_greatestDivisor_7 (nI a) (nI b) post (fun a _ _ => post (if (1 : Int32) < a then a else (1 : Int32))) (2 * e + 1 + 1) (nI v) (nI u - nI u / nI v * nI v) (nI s + 1)
        rw [pk_rem hu hv0 hv3, nI_1]
        rw [Nat.gcd_rec] at hg
        have c2 : ¬ (64 : Int32) ≤ nI (s + 1) := fun q => absurd ((nI_leI (a := 64) (by omega) (by omega)).mp q) (by omega)
        refine ⟨fun q => absurd q c2, fun _ => ⟨fun h => ?_, fun h => ⟨h, ?_⟩⟩⟩
        · have h : u % v = 0 := nI_inj (by omega) (by omega) h
          rw [h, Nat.gcd_zero_left] at hg
          show post (if (1 : Int32) < nI v then nI v else (1 : Int32)); rw [hg]; exact hp
        · have hr0 : 0 < u % v := by
            rcases Nat.eq_zero_or_pos (u % v) with q | q
            · exact absurd (by rw [q]; rfl) h
            · exact q
          have hh := rest_half hv0 hr0
          show lp_ZQ_greatestDivisor_7 (nI a) (nI b) post (fun a _ _ => post (if (1 : Int32) < a then a else (1 : Int32))) (2 * e + 1) (nI (u % v)) (nI v - nI v / nI (u % v) * nI (u % v)) (nI (s + 1) + 1)
          rw [pk_rem hv3 hr0 (by omega), nI_1]
          rw [Nat.gcd_rec] at hg
          exact ih (u % v) (v % (u % v)) (s + 1 + 1) (by rw [Nat.pow_succ] at hv; omega) (by omega) hg (by omega) (by omega)
  exact ⟨2 * 11 + 1, key 11 a b 0 (by omega) (by omega) rfl ha (by omega)⟩
def mnv (P : Nat → Nat → Nat) (W H k x y : Nat) (c : Int32) : Nat := (if c = 0 then sum2 P (x * 2 ^ k) (y * 2 ^ k) (rc W k x) (rc H k y) else rc W k x * rc H k y) / Nat.gcd (rc W k x * rc H k y) (sum2 P (x * 2 ^ k) (y * 2 ^ k) (rc W k x) (rc H k y))
section QM
variable {pw ph : Int32} {pn : Nat} {pf : Nat → Int32} {gw gh : Int32} {gn : Nat} {gf : Nat → Int32} {yk bl : Int32} {bf : Nat → Int32} {kn : Nat} {kf : Nat → Int32} {sn : Nat} {sf : Nat → Int32} {sd tw th : Int32} {tf : Nat → Int32} {uw uh : Int32} {uf : Nat → Int32}
theorem q_mean {W H k x y : Nat} {P : Nat → Nat → Nat} (hr : relP W H W pf P) (ho : okP W H P) (h1 : 1 ≤ W) (hW : W ≤ 40) (h2 : 1 ≤ H) (hH : H ≤ 40) (hk : k < lev (max W H)) (hx : x < hv W k) (hy : y < hv H k) {c : Int32} (hc : inN c 2) {post : Int32 → Prop} (h : post (nI (mnv P W H k x y c))) : wp_ZQ_mean (nI W) (nI H) (W * H) pf gw gh gn gf (nI (lev (max W H))) bl bf kn kf sn sf sd tw th tf uw uh uf (nI k) (nI x) (nI y) c post := by
  have hl := lev_in (m := max W H)
  have gx := hv_lt h1 hx
  have gy := hv_lt h2 hy
  obtain ⟨a1, a2⟩ := rc_in gx
  obtain ⟨b1, b2⟩ := rc_in gy
  obtain ⟨c1, c2⟩ := cnt_in hW hH a2 b2 a1 b1
  have hs := sum2_le ho a2 b2
  have hg : 0 < Nat.gcd (rc W k x * rc H k y) (sum2 P (x * 2 ^ k) (y * 2 ^ k) (rc W k x) (rc H k y)) := Nat.gcd_pos_of_pos_left _ c1
  have hg2 := Nat.le_of_dvd c1 (Nat.gcd_dvd_left (rc W k x * rc H k y) (sum2 P (x * 2 ^ k) (y * 2 ^ k) (rc W k x) (rc H k y)))
  unfold mnv at h
  refine q_hasPlace h1 hW h2 hH (fun _ => ⟨_, fun _ hh => hh, ⟨fun h => absurd h nz1, fun _ => p_isWithin (n := 2) (by decide) (fun _ => ⟨fun h => absurd h nz1, fun _ => q_reqPlace rfl ?_⟩) (fun hn => absurd hc hn)⟩⟩) (fun hn => absurd ⟨k, x, y, rfl, hk, rfl, hx, rfl, hy⟩ hn)
  refine q_total hr hW hH (by omega) gx gy (q_count hW hH (by omega) gx gy (p_gd (by omega) c1 c2 ⟨fun e => ⟨nI_ne0 hg (by omega), ?_⟩, fun e => ⟨nI_ne0 hg (by omega), ?_⟩⟩))
  · rw [if_pos e] at h
    rw [pk_div (by omega) hg (by omega)]; exact h
  · rw [if_neg e] at h
    rw [pk_div (by omega) hg (by omega)]; exact h
theorem q_mean_I {W H : Nat} (h1 : 1 ≤ W) (hW : W ≤ 40) (h2 : 1 ≤ H) (hH : H ≤ 40) {a b c d : Int32} (hn : ¬ (plc W H a b c ∧ inN d 2)) : xp_ZQ_mean_I (nI W) (nI H) pn pf gw gh gn gf (nI (lev (max W H))) bl bf kn kf sn sf sd tw th tf uw uh uf a b c d :=
  q_hasPlace h1 hW h2 hH (fun h => ⟨_, fun _ hh => hh, ⟨fun h => absurd h nz1, fun _ => p_isWithin (n := 2) (by decide) (fun q => absurd ⟨h, q⟩ hn) (fun _ => ⟨fun _ => Or.inl (q_reqPlace_I rfl), fun h => absurd rfl h⟩)⟩⟩) (fun _ => ⟨_, fun _ hh => hh, ⟨fun _ => Or.inl (q_reqPlace_I rfl), fun h => absurd rfl h⟩⟩)
end QM
theorem rem0 {n d : Nat} (hn : n < 2 ^ 31) (h0 : 0 < d) (hd : d < 2 ^ 31) : nI n - nI n / nI d * nI d = (0 : Int32) ↔ d ∣ n := by
  have hm : n % d < d := Nat.mod_lt _ h0
  rw [pk_rem hn h0 hd]
  refine ⟨fun h => ?_, fun h => ?_⟩
  · exact Nat.dvd_of_mod_eq_zero (nI_inj (by omega) (by omega) h)
  · rw [Nat.mod_eq_zero_of_dvd h]; rfl
section MM
variable {zt zw zh : Int32} {zp zs zb : Nat → Int32} {zz : Int32} {zl zo : Nat → Int32} {zc zr zu zv zq zi : Int32} {zk zm : Nat → Int32} {zd : Int32} {zg : Nat → Int32}
theorem m_mean {W H : Nat} {P : Nat → Nat → Nat} (hr : relP W H 40 zp P) (ho : okP W H P) (h1 : 1 ≤ W) (hW : W ≤ 40) (h2 : 1 ≤ H) (hH : H ≤ 40) {a b c d : Int32} {post : Int32 → Int32 → Prop} (hI : ¬ (plc W H a b c ∧ inN d 2) → post 0 1) (hN : ∀ k x y : Nat, a = nI k → k < lev (max W H) → b = nI x → x < hv W k → c = nI y → y < hv H k → inN d 2 → post (nI (mnv P W H k x y d)) 0) : wp_ZM_mean zt (nI W) (nI H) zp zs zb zz zl zo zc zr zu zv zq zi zk zm zd zg a b c d post := by
  have hl := lev_in (m := max W H)
  refine m_isAt h1 hW h2 hH (fun hp => ⟨_, fun _ hh => hh, ⟨fun h => absurd h nz1, fun _ => p_in0 (n := 2) (by decide) (by decide) (fun hd => ⟨fun h => absurd h nz1, fun _ => ?_⟩) (fun hd => ⟨fun _ => ?_, fun h => absurd rfl h⟩)⟩⟩) (fun hp => ⟨_, fun _ hh => hh, ⟨fun _ => ?_, fun h => absurd rfl h⟩⟩)
  · obtain ⟨k, x, y, rfl, hk, rfl, hx, rfl, hy⟩ := hp
    have hN := hN k x y rfl hk rfl hx rfl hy hd
    have gx := hv_lt h1 hx
    have gy := hv_lt h2 hy
    obtain ⟨a1, a2⟩ := rc_in gx
    obtain ⟨b1, b2⟩ := rc_in gy
    obtain ⟨c1, c2⟩ := cnt_in hW hH a2 b2 a1 b1
    have hs := sum2_le ho a2 b2
    refine p_throwing (fun h => absurd rfl h) (fun _ h => absurd rfl h) (fun _ _ => ⟨fun _ => m_sumUnder hr hW hH (by omega) gx gy (m_count hW hH (by omega) gx gy ?_), fun h => absurd rfl h⟩)
    unfold mnv at hN
    generalize sum2 P (x * 2 ^ k) (y * 2 ^ k) (rc W k x) (rc H k y) = A at *
    generalize rc W k x * rc H k y = B at *
    have hg : 0 < Nat.gcd B A := Nat.gcd_pos_of_pos_left _ c1
    have hg2 := Nat.le_of_dvd c1 (Nat.gcd_dvd_left B A)
    obtain ⟨g, eg⟩ : ∃ g, g = Nat.gcd B A := ⟨_, rfl⟩
    have dB : g ∣ B := by rw [eg]; exact Nat.gcd_dvd_left B A
    have dA : g ∣ A := by rw [eg]; exact Nat.gcd_dvd_right B A
    have cop : ∀ m, 1 < m → m ∣ A / g → m ∣ B / g → False := by
      intro m hm ha hb
      have q1 : g * m ∣ A := (Nat.dvd_div_iff_mul_dvd dA).mp ha
      have q2 : g * m ∣ B := (Nat.dvd_div_iff_mul_dvd dB).mp hb
      have q3 := Nat.dvd_gcd q2 q1
      rw [← eg] at q3
      have q4 := Nat.le_of_dvd (by omega) q3
      have q5 : g * 2 ≤ g * m := Nat.mul_le_mul_left g hm
      omega
    rw [← eg] at hN hg hg2
    have lA : A / g ≤ A := Nat.div_le_self _ _
    have lB : B / g ≤ B := Nat.div_le_self _ _
    have key : ∀ (K : Int32 → Int32 → Int32 → Prop) (hK : ∀ e : Int32, K (nI (A / g)) (nI (B / g)) e) (t1 t2 t3 t4 : Int32) (m : Nat) (X Y D : Nat), D = m + 1 → D ≤ B → ((X = A ∧ Y = B ∧ g ≤ D) ∨ (X = A / g ∧ Y = B / g)) → lp_ZM_mean_57 zt (nI W) (nI H) zp zs zb zz zl zo zc zr zu zv zq zi zk zm zd zg (nI k) (nI x) (nI y) d t1 t2 t3 0 (nI A) (nI B) post K (m + 1) (nI X) (nI Y) (nI D) := by
      intro K hK t1 t2 t3 t4 m
      induction m with
      | zero =>
        intro X Y D eD hD hinv
        obtain rfl : D = 1 := by omega
        have e : X = A / g ∧ Y = B / g := by
          rcases hinv with ⟨q1, q2, q3⟩ | q
          · obtain rfl : g = 1 := by omega
            rw [Nat.div_one, Nat.div_one]; exact ⟨q1, q2⟩
          · exact q
        obtain ⟨rfl, rfl⟩ := e
        exact ⟨fun _ => hK _, fun h => absurd ((nI_leI (b := 1) (by omega) (by omega)).mpr (by omega)) h⟩
      | succ m ih =>
        intro X Y D eD hD hinv
        have hX : X < 2 ^ 31 := by rcases hinv with ⟨q1, q2, q3⟩ | ⟨q1, q2⟩ <;> omega
        have hY : Y < 2 ^ 31 := by rcases hinv with ⟨q1, q2, q3⟩ | ⟨q1, q2⟩ <;> omega
        have hD0 : ¬ nI D = 0 := nI_ne0 (by omega) (by omega)
        refine ⟨fun h => absurd ((nI_leI (b := 1) (by omega) (by omega)).mp h) (by omega), fun _ => ⟨hD0, ⟨fun e1 => ⟨hD0, ⟨fun e2 => ⟨hD0, hD0, ?_⟩, fun e2 => ?_⟩⟩, fun e1 => ?_⟩⟩⟩
        · show lp_ZM_mean_57 zt (nI W) (nI H) zp zs zb zz zl zo zc zr zu zv zq zi zk zm zd zg (nI k) (nI x) (nI y) d t1 t2 t3 0 (nI A) (nI B) post K (m + 1) (nI X / nI D) (nI Y / nI D) (nI D + (-1 : Int32))
          rw [rem0 hX (by omega) (by omega)] at e1
          rw [rem0 hY (by omega) (by omega)] at e2
          rw [pk_div hX (by omega) (by omega), pk_div hY (by omega) (by omega), nI_m1 (by omega)]
          refine ih (X / D) (Y / D) (D - 1) (by omega) (by omega) ?_
          rcases hinv with ⟨rfl, rfl, q3⟩ | ⟨rfl, rfl⟩
          · have q := Nat.dvd_gcd e2 e1
            rw [← eg] at q
            have := Nat.le_of_dvd (by omega) q
            obtain rfl : D = g := by omega
            exact Or.inr ⟨rfl, rfl⟩
          · exact absurd (cop D (by omega) e1 e2) id
        · show lp_ZM_mean_57 zt (nI W) (nI H) zp zs zb zz zl zo zc zr zu zv zq zi zk zm zd zg (nI k) (nI x) (nI y) d t1 t2 t3 0 (nI A) (nI B) post K (m + 1) (nI X) (nI Y) (nI D + (-1 : Int32))
          rw [rem0 hY (by omega) (by omega)] at e2
          rw [nI_m1 (by omega)]
          refine ih X Y (D - 1) (by omega) (by omega) ?_
          rcases hinv with ⟨rfl, rfl, q3⟩ | q
          · refine Or.inl ⟨rfl, rfl, ?_⟩
            have : D ≠ g := fun q => e2 (q ▸ dB)
            omega
          · exact Or.inr q
        · show lp_ZM_mean_57 zt (nI W) (nI H) zp zs zb zz zl zo zc zr zu zv zq zi zk zm zd zg (nI k) (nI x) (nI y) d t1 t2 t3 0 (nI A) (nI B) post K (m + 1) (nI X) (nI Y) (nI D + (-1 : Int32))
          rw [rem0 hX (by omega) (by omega)] at e1
          rw [nI_m1 (by omega)]
          refine ih X Y (D - 1) (by omega) (by omega) ?_
          rcases hinv with ⟨rfl, rfl, q3⟩ | q
          · refine Or.inl ⟨rfl, rfl, ?_⟩
            have : D ≠ g := fun q => e1 (q ▸ dA)
            omega
          · exact Or.inr q
    exact ⟨B - 1 + 1, key _ (fun _ => ⟨fun e => by rw [if_pos e] at hN; exact hN, fun e => by rw [if_neg e] at hN; exact hN⟩) _ _ _ 0 (B - 1) A B B (by omega) (Nat.le_refl _) (Or.inl ⟨rfl, rfl, hg2⟩)⟩
  · exact p_throwing (fun _ => ⟨fun h => absurd h nz1, fun _ => hI (fun q => hd q.2)⟩) (fun h => absurd h nz1) (fun h => absurd h nz1)
  · exact p_throwing (fun _ => ⟨fun h => absurd h nz1, fun _ => hI (fun q => hp q.1)⟩) (fun h => absurd h nz1) (fun h => absurd h nz1)
end MM
