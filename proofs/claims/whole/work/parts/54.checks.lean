theorem rngN {a : Int32} {n : Nat} (hn : n < 2 ^ 31) : (¬ a < 1 ∧ ¬ nI n < a) ↔ ∃ w : Nat, 1 ≤ w ∧ w ≤ n ∧ a = nI w := by
  refine ⟨fun h => ?_, fun h => ?_⟩
  · obtain ⟨h1, h2⟩ := h
    rw [Int32.lt_iff_toInt_lt] at h1 h2
    rw [nI_toInt (by omega)] at h2
    have e1 : (1 : Int32).toInt = 1 := rfl
    obtain ⟨j, hj, rfl⟩ := nI_of (x := a) (by rw [Int32.lt_iff_toInt_lt]; show ¬ a.toInt < (0 : Int32).toInt; have : (0 : Int32).toInt = 0 := rfl; omega)
    rw [nI_toInt hj] at h1 h2
    exact ⟨j, by omega, by omega, rfl⟩
  · obtain ⟨w, h1, h2, rfl⟩ := h
    exact ⟨fun q => absurd ((nI_ltI (b := 1) (by omega) (by omega)).mp q) (by omega), fun q => absurd ((nI_ltI (by omega) (by omega)).mp q) (by omega)⟩
theorem p_in1 {a : Int32} {n : Nat} (hn : n < 2 ^ 31) {post : Int32 → Prop} (h1 : (∃ w : Nat, 1 ≤ w ∧ w ≤ n ∧ a = nI w) → post 1) (h0 : ¬ (∃ w : Nat, 1 ≤ w ∧ w ≤ n ∧ a = nI w) → post 0) : wp_ZM_in a 1 (nI n) post :=
  ⟨fun h => h0 (fun q => ((rngN hn).mpr q).1 h), fun h => ⟨fun h2 => h0 (fun q => ((rngN hn).mpr q).2 h2), fun h2 => h1 ((rngN hn).mp ⟨h, h2⟩)⟩⟩
/-- a place of a level -/
def plc (W H : Nat) (a b c : Int32) : Prop := ∃ k x y : Nat, a = nI k ∧ k < lev (max W H) ∧ b = nI x ∧ x < hv W k ∧ c = nI y ∧ y < hv H k
def prt (W H : Nat) (a b c d e : Int32) : Prop := ∃ k x y w h : Nat, a = nI k ∧ k < lev (max W H) ∧ b = nI x ∧ c = nI y ∧ d = nI w ∧ e = nI h ∧ 1 ≤ w ∧ x + w ≤ hv W k ∧ 1 ≤ h ∧ y + h ≤ hv H k
def til (W H : Nat) (a b c : Int32) : Prop := ∃ k i j : Nat, a = nI k ∧ k < lev (max W H) ∧ b = nI i ∧ 8 * i < hv W k ∧ c = nI j ∧ 8 * j < hv H k
theorem nI_inj {a b : Nat} (ha : a < 2 ^ 31) (hb : b < 2 ^ 31) (h : nI a = nI b) : a = b := (nI_eq ha hb).mp h
theorem nf (h : (0 : Int32) = 1) : False := absurd h (by decide)
theorem q_hasPlace {n : Nat} {f : Nat → Int32} {W H : Nat} (h1 : 1 ≤ W) (hW : W ≤ 40) (h2 : 1 ≤ H) (hH : H ≤ 40) {post : Int32 → Prop} {a b c : Int32} (hy : plc W H a b c → post 1) (hn : ¬ plc W H a b c → post 0) : wp_ZY_hasPlace (nI (lev (max W H))) (nI W) (nI H) n f a b c post := by
  have hl := lev_in (m := max W H)
  refine q_hasLevel (yk := 0) (by omega) (fun hk => ⟨fun h => absurd h nz1, fun _ => ?_⟩) (fun hk => ⟨fun _ => hn ?_, fun h => absurd rfl h⟩)
  · obtain ⟨k, hk, rfl⟩ := hk
    have c1 := hv_le (k := k) h1
    have c2 := hv_le (k := k) h2
    refine q_halved h1 hW (by omega) (p_isWithin (by omega) (fun hx => ⟨fun h => absurd h nz1, fun _ => ?_⟩) (fun hx => ⟨fun _ => hn ?_, fun h => absurd rfl h⟩))
    · refine q_halved h2 hH (by omega) (p_isWithin (by omega) (fun hz => ⟨fun h => absurd h nz1, fun _ => hy ?_⟩) (fun hz => ⟨fun _ => hn ?_, fun h => absurd rfl h⟩))
      · obtain ⟨x, hx, rfl⟩ := hx
        obtain ⟨y, hz, rfl⟩ := hz
        exact ⟨k, x, y, rfl, hk, rfl, hx, rfl, hz⟩
      · rintro ⟨k', x, y, e1, e2, e3, e4, e5, e6⟩
        obtain rfl := nI_inj (by omega) (by omega) e1
        exact hz ⟨y, e6, e5⟩
    · rintro ⟨k', x, y, e1, e2, e3, e4, e5, e6⟩
      obtain rfl := nI_inj (by omega) (by omega) e1
      exact hx ⟨x, e4, e3⟩
  · rintro ⟨k', x, y, e1, e2, -⟩
    exact hk ⟨k', e2, e1⟩
theorem q_hasPart {n : Nat} {f : Nat → Int32} {W H : Nat} (h1 : 1 ≤ W) (hW : W ≤ 40) (h2 : 1 ≤ H) (hH : H ≤ 40) {post : Int32 → Prop} {a b c d e : Int32} (hy : prt W H a b c d e → post 1) (hn : ¬ prt W H a b c d e → post 0) : wp_ZY_hasPart (nI (lev (max W H))) (nI W) (nI H) n f a b c d e post := by
  have hl := lev_in (m := max W H)
  refine q_hasPlace h1 hW h2 hH (fun hp => ⟨fun h => absurd h nz1, fun _ => ?_⟩) (fun hp => ⟨fun _ => hn ?_, fun h => absurd rfl h⟩)
  · obtain ⟨k, x, y, rfl, hk, rfl, hx, rfl, hz⟩ := hp
    have c1 := hv_le (k := k) h1
    have c2 := hv_le (k := k) h2
    have big : (¬ d < 1 ∧ ¬ nI (hv W k - x) < d ∧ ¬ e < 1 ∧ ¬ nI (hv H k - y) < e) ↔ prt W H (nI k) (nI x) (nI y) d e := by
      refine ⟨fun ⟨q1, q2, q3, q4⟩ => ?_, ?_⟩
      · obtain ⟨w, w1, w2, rfl⟩ := (rngN (by omega)).mp ⟨q1, q2⟩
        obtain ⟨h, v1, v2, rfl⟩ := (rngN (by omega)).mp ⟨q3, q4⟩
        exact ⟨k, x, y, w, h, rfl, hk, rfl, rfl, rfl, rfl, w1, by omega, v1, by omega⟩
      · rintro ⟨k', x', y', w, h, e1, e2, e3, e4, rfl, rfl, g1, g2, g3, g4⟩
        obtain rfl := nI_inj (by omega) (by omega) e1
        have l1 := hv_le (k := k) h1
        have l2 := hv_le (k := k) h2
        obtain rfl := nI_inj (by omega) (by omega) e3
        obtain rfl := nI_inj (by omega) (by omega) e4
        have r1 := (rngN (a := nI w) (n := hv W k - x) (by omega)).mpr ⟨w, g1, by omega, rfl⟩
        have r2 := (rngN (a := nI h) (n := hv H k - y) (by omega)).mpr ⟨h, g3, by omega, rfl⟩
        exact ⟨r1.1, r1.2, r2.1, r2.2⟩
    refine ⟨fun q => hn (fun z => (big.mpr z).1 q), fun q1 => ⟨fun q => hn (fun z => (big.mpr z).2.2.1 q), fun q2 => ?_⟩⟩
    refine q_halved h1 hW (by omega) ?_
    dsimp only
    rw [pk_sub (by omega)]
    refine ⟨fun q => hn (fun z => (big.mpr z).2.1 q), fun q3 => ?_⟩
    refine q_halved h2 hH (by omega) ?_
    dsimp only
    rw [pk_sub (by omega)]
    exact ⟨fun q => hn (fun z => (big.mpr z).2.2.2 q), fun q4 => hy (big.mp ⟨q1, q3, q2, q4⟩)⟩
  · rintro ⟨k, x, y, w, h, rfl, e2, rfl, rfl, rfl, rfl, g1, g2, g3, g4⟩
    exact hp ⟨k, x, y, rfl, e2, rfl, by omega, rfl, by omega⟩
theorem tile_ix {c i : Nat} : i < (c + 8 - 1) / 8 ↔ 8 * i < c := by omega
theorem q_along {c : Nat} (hc : c ≤ 40) {post : Int32 → Prop} (h : post (nI ((c + 8 - 1) / 8))) : wp_ZY_tilesAlong (nI c) post := by
  unfold wp_ZY_tilesAlong
  rw [show (8 : Int32) = nI 8 from rfl, nI_add, nI_sub1 (by omega), pk_div (by omega) (by decide) (by decide)]
  exact h
theorem q_hasTile {n : Nat} {f : Nat → Int32} {W H : Nat} (h1 : 1 ≤ W) (hW : W ≤ 40) (h2 : 1 ≤ H) (hH : H ≤ 40) {post : Int32 → Prop} {a b c : Int32} (hy : til W H a b c → post 1) (hn : ¬ til W H a b c → post 0) : wp_ZY_hasTile (nI (lev (max W H))) (nI W) (nI H) n f a b c post := by
  have hl := lev_in (m := max W H)
  refine q_hasLevel (yk := 0) (by omega) (fun hk => ⟨fun h => absurd h nz1, fun _ => ?_⟩) (fun hk => ⟨fun _ => hn ?_, fun h => absurd rfl h⟩)
  · obtain ⟨k, hk, rfl⟩ := hk
    have c1 := hv_le (k := k) h1
    have c2 := hv_le (k := k) h2
    refine q_halved h1 hW (by omega) (q_along (by omega) (p_isWithin (by omega) (fun hx => ⟨fun h => absurd h nz1, fun _ => ?_⟩) (fun hx => ⟨fun _ => hn ?_, fun h => absurd rfl h⟩)))
    · refine q_halved h2 hH (by omega) (q_along (by omega) (p_isWithin (by omega) (fun hz => ⟨fun h => absurd h nz1, fun _ => hy ?_⟩) (fun hz => ⟨fun _ => hn ?_, fun h => absurd rfl h⟩)))
      · obtain ⟨x, hx, rfl⟩ := hx
        obtain ⟨y, hz, rfl⟩ := hz
        exact ⟨k, x, y, rfl, hk, rfl, by omega, rfl, by omega⟩
      · rintro ⟨k', x, y, e1, e2, e3, e4, e5, e6⟩
        obtain rfl := nI_inj (by omega) (by omega) e1
        exact hz ⟨y, by omega, e5⟩
    · rintro ⟨k', x, y, e1, e2, e3, e4, e5, e6⟩
      obtain rfl := nI_inj (by omega) (by omega) e1
      exact hx ⟨x, by omega, e3⟩
  · rintro ⟨k', x, y, e1, e2, -⟩
    exact hk ⟨k', e2, e1⟩
theorem q_reqPlace {r : Int32} {X : Prop} (h : r = 1) (k : X) : wp_ZQ_requirePlace r X := ⟨fun q => absurd (h.symm.trans q) nz1, fun _ => k⟩
theorem q_reqPlace_I {r : Int32} (h : r = 0) : xp_ZQ_requirePlace_I r := ⟨fun _ => trivial, fun q => q h⟩
section MC
variable {zt zw zh : Int32} {zp zs zb : Nat → Int32} {zz : Int32} {zl zo : Nat → Int32} {zc zr zu zv zq zi : Int32} {zk zm : Nat → Int32} {zd : Int32} {zg : Nat → Int32}
theorem m_isAt {W H : Nat} (h1 : 1 ≤ W) (hW : W ≤ 40) (h2 : 1 ≤ H) (hH : H ≤ 40) {post : Int32 → Prop} {a b c : Int32} (hy : plc W H a b c → post 1) (hn : ¬ plc W H a b c → post 0) : wp_ZM_isAt zt (nI W) (nI H) zp zs zb zz zl zo zc zr zu zv zq zi zk zm zd zg a b c post := by
  have hl := lev_in (m := max W H)
  refine m_isLevel h1 hW h2 hH (fun hk => ⟨fun h => absurd h nz1, fun _ => ?_⟩) (fun hk => ⟨fun _ => hn ?_, fun h => absurd rfl h⟩)
  · obtain ⟨k, hk, rfl⟩ := hk
    have c1 := hv_le (k := k) h1
    have c2 := hv_le (k := k) h2
    have p1 := hv_pos (k := k) h1
    have p2 := hv_pos (k := k) h2
    refine p_half h1 (by omega) (by omega) ?_
    dsimp only
    rw [nI_sub1 p1]
    refine p_in0 p1 (by omega) (fun hx => ⟨fun h => absurd h nz1, fun _ => ?_⟩) (fun hx => ⟨fun _ => hn ?_, fun h => absurd rfl h⟩)
    · refine p_half h2 (by omega) (by omega) ?_
      dsimp only
      rw [nI_sub1 p2]
      refine p_in0 p2 (by omega) (fun hz => ⟨fun h => absurd h nz1, fun _ => hy ?_⟩) (fun hz => ⟨fun _ => hn ?_, fun h => absurd rfl h⟩)
      · obtain ⟨x, hx, rfl⟩ := hx
        obtain ⟨y, hz, rfl⟩ := hz
        exact ⟨k, x, y, rfl, hk, rfl, hx, rfl, hz⟩
      · rintro ⟨k', x, y, e1, e2, e3, e4, e5, e6⟩
        obtain rfl := nI_inj (by omega) (by omega) e1
        exact hz ⟨y, e6, e5⟩
    · rintro ⟨k', x, y, e1, e2, e3, e4, e5, e6⟩
      obtain rfl := nI_inj (by omega) (by omega) e1
      exact hx ⟨x, e4, e3⟩
  · rintro ⟨k', x, y, e1, e2, -⟩
    exact hk ⟨k', e2, e1⟩
theorem m_isTile {W H : Nat} (h1 : 1 ≤ W) (hW : W ≤ 40) (h2 : 1 ≤ H) (hH : H ≤ 40) {post : Int32 → Prop} {a b c : Int32} (hy : til W H a b c → post 1) (hn : ¬ til W H a b c → post 0) : wp_ZM_isTile zt (nI W) (nI H) zp zs zb zz zl zo zc zr zu zv zq zi zk zm zd zg a b c post := by
  have hl := lev_in (m := max W H)
  refine m_isLevel h1 hW h2 hH (fun hk => ⟨fun h => absurd h nz1, fun _ => ?_⟩) (fun hk => ⟨fun _ => hn ?_, fun h => absurd rfl h⟩)
  · obtain ⟨k, hk, rfl⟩ := hk
    have c1 := hv_le (k := k) h1
    have c2 := hv_le (k := k) h2
    have p1 := hv_pos (k := k) h1
    have p2 := hv_pos (k := k) h2
    refine p_half h1 (by omega) (by omega) ?_
    dsimp only
    rw [nI_sub1 p1, show (8 : Int32) = nI 8 from rfl, pk_div (by omega) (by decide) (by decide)]
    refine p_in0 (n := (hv W k - 1) / 8 + 1) (by omega) (by omega) (fun hx => ⟨fun h => absurd h nz1, fun _ => ?_⟩) (fun hx => ⟨fun _ => hn ?_, fun h => absurd rfl h⟩)
    · refine p_half h2 (by omega) (by omega) ?_
      dsimp only
      rw [nI_sub1 p2, pk_div (by omega) (by decide) (by decide)]
      refine p_in0 (n := (hv H k - 1) / 8 + 1) (by omega) (by omega) (fun hz => ⟨fun h => absurd h nz1, fun _ => hy ?_⟩) (fun hz => ⟨fun _ => hn ?_, fun h => absurd rfl h⟩)
      · obtain ⟨x, hx, rfl⟩ := hx
        obtain ⟨y, hz, rfl⟩ := hz
        exact ⟨k, x, y, rfl, hk, rfl, by omega, rfl, by omega⟩
      · rintro ⟨k', x, y, e1, e2, e3, e4, e5, e6⟩
        obtain rfl := nI_inj (by omega) (by omega) e1
        exact hz ⟨y, by omega, e5⟩
    · rintro ⟨k', x, y, e1, e2, e3, e4, e5, e6⟩
      obtain rfl := nI_inj (by omega) (by omega) e1
      exact hx ⟨x, by omega, e3⟩
  · rintro ⟨k', x, y, e1, e2, -⟩
    exact hk ⟨k', e2, e1⟩
end MC
theorem m_isPart {A B : Nat} (h1 : 1 ≤ A) (hA : A ≤ 40) (h2 : 1 ≤ B) (hB : B ≤ 40) {post : Int32 → Prop} {b c d e : Int32}
    (hy : (∃ x y w h : Nat, b = nI x ∧ c = nI y ∧ d = nI w ∧ e = nI h ∧ 1 ≤ w ∧ x + w ≤ A ∧ 1 ≤ h ∧ y + h ≤ B) → post 1) (hn : ¬ (∃ x y w h : Nat, b = nI x ∧ c = nI y ∧ d = nI w ∧ e = nI h ∧ 1 ≤ w ∧ x + w ≤ A ∧ 1 ≤ h ∧ y + h ≤ B) → post 0) : wp_ZM_isPart b c d e (nI A) (nI B) post := by
  unfold wp_ZM_isPart
  rw [nI_sub1 h1, nI_sub1 h2]
  refine p_in0 h1 (by omega) (fun hx => ⟨fun h => absurd h nz1, fun _ => ?_⟩) (fun hx => ⟨fun _ => hn ?_, fun h => absurd rfl h⟩)
  · obtain ⟨x, hx, rfl⟩ := hx
    refine p_in0 h2 (by omega) (fun hz => ⟨fun h => absurd h nz1, fun _ => ?_⟩) (fun hz => ⟨fun _ => hn ?_, fun h => absurd rfl h⟩)
    · obtain ⟨y, hz, rfl⟩ := hz
      rw [pk_sub (by omega), pk_sub (by omega)]
      refine p_in1 (by omega) (fun hw => ⟨fun h => absurd h nz1, fun _ => ?_⟩) (fun hw => ⟨fun _ => hn ?_, fun h => absurd rfl h⟩)
      · refine p_in1 (by omega) (fun hh => ⟨fun h => absurd h nz1, fun _ => hy ?_⟩) (fun hh => ⟨fun _ => hn ?_, fun h => absurd rfl h⟩)
        · obtain ⟨w, w1, w2, rfl⟩ := hw
          obtain ⟨h, v1, v2, rfl⟩ := hh
          exact ⟨x, y, w, h, rfl, rfl, rfl, rfl, w1, by omega, v1, by omega⟩
        · rintro ⟨x', y', w, h, e1, e2, e3, e4, g1, g2, g3, g4⟩
          obtain rfl := nI_inj (by omega) (by omega) e2
          exact hh ⟨h, g3, by omega, e4⟩
      · rintro ⟨x', y', w, h, e1, e2, e3, e4, g1, g2, g3, g4⟩
        obtain rfl := nI_inj (by omega) (by omega) e1
        exact hw ⟨w, g1, by omega, e3⟩
    · rintro ⟨x', y', w, h, e1, e2, e3, e4, g1, g2, g3, g4⟩
      exact hz ⟨y', by omega, e2⟩
  · rintro ⟨x', y', w, h, e1, e2, e3, e4, g1, g2, g3, g4⟩
    exact hx ⟨x', by omega, e1⟩
