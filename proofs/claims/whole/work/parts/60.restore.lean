/-! restore -/
/-- how many of a side's columns the tile i has -/
def tsd (S i : Nat) : Nat := min 8 (S - 8 * i)
theorem tsd_in {S i : Nat} (h : 8 * i < S) : 1 ≤ tsd S i ∧ tsd S i ≤ 8 ∧ 8 * i + tsd S i ≤ S := by unfold tsd; omega
theorem q_tcols {yk : Int32} {n : Nat} {f : Nat → Int32} {W H k i : Nat} (h1 : 1 ≤ W) (hW : W ≤ 40) (hk : k ≤ 6) (hi : 8 * i < hv W k) {post : Int32 → Prop} (h : post (nI (tsd (hv W k) i))) : wp_ZY_tileColumns yk (nI W) (nI H) n f (nI k) (nI i) post := by
  have c1 := hv_le (k := k) h1
  refine q_halved h1 hW hk ?_
  rw [show (8 : Int32) = nI 8 from rfl, pk_mul, pk_sub (by omega)]
  unfold tsd at h
  by_cases hc : hv W k - 8 * i < 8
  · rw [if_pos ((nI_ltI (by omega) (by omega)).mpr hc)]
    rw [Nat.min_eq_right (by omega)] at h; exact h
  · rw [if_neg (fun q => hc ((nI_ltI (by omega) (by omega)).mp q))]
    rw [Nat.min_eq_left (by omega)] at h; exact h
theorem q_trows {yk : Int32} {n : Nat} {f : Nat → Int32} {W H k i : Nat} (h1 : 1 ≤ H) (hW : H ≤ 40) (hk : k ≤ 6) (hi : 8 * i < hv H k) {post : Int32 → Prop} (h : post (nI (tsd (hv H k) i))) : wp_ZY_tileRows yk (nI W) (nI H) n f (nI k) (nI i) post := by
  have c1 := hv_le (k := k) h1
  refine q_halved h1 hW hk ?_
  rw [show (8 : Int32) = nI 8 from rfl, pk_mul, pk_sub (by omega)]
  unfold tsd at h
  by_cases hc : hv H k - 8 * i < 8
  · rw [if_pos ((nI_ltI (by omega) (by omega)).mpr hc)]
    rw [Nat.min_eq_right (by omega)] at h; exact h
  · rw [if_neg (fun q => hc ((nI_ltI (by omega) (by omega)).mp q))]
    rw [Nat.min_eq_left (by omega)] at h; exact h
theorem m_part {S i : Nat} (hS : S ≤ 40) (hi : 8 * i < S) {post : Int32 → Prop} (h : post (nI (tsd S i))) : wp_ZM_part ((8 : Int32) * nI i) (nI S) post := by
  unfold wp_ZM_part
  rw [show (8 : Int32) = nI 8 from rfl, pk_mul, pk_sub (by omega)]
  unfold tsd at h
  refine ⟨fun q => ?_, fun q => ?_⟩
  · have := (nI_leI (by omega) (by omega)).mp q
    rw [Nat.min_eq_left (by omega)] at h; exact h
  · have : ¬ 8 ≤ S - 8 * i := fun z => q ((nI_leI (by omega) (by omega)).mpr z)
    rw [Nat.min_eq_right (by omega)] at h; exact h
theorem mul8 {c r : Nat} (hc : c ≤ 8) (hr : r ≤ 8) : c * r ≤ 64 := Nat.mul_le_mul hc hr
theorem q_tSample {c r x y : Nat} {f : Nat → Int32} (hc : c ≤ 8) (hr : r ≤ 8) (hx : x < c) (hy : y < r) {post : Int32 → Prop} (h : post (f (y * c + x))) : wp_ZT_sampleAt (nI c) (nI r) f (nI x) (nI y) post := by
  have hlt := idx_lt hy hx
  have h64 := mul8 hc hr
  unfold wp_ZT_sampleAt
  rw [pk_mul, nI_add, nI_clamp (by omega)]
  exact ⟨vp_in_nI (by omega) (by omega), h⟩
theorem q_tSet {c r x y : Nat} {f : Nat → Int32} {v : Int32} (hc : c ≤ 8) (hr : r ≤ 8) (hx : x < c) (hy : y < r) {post : (Nat → Int32) → Prop} (h : post (upd f (y * c + x) v)) : wp_ZT_setSample (nI c) (nI r) f (nI x) (nI y) v post := by
  have hlt := idx_lt hy hx
  have h64 := mul8 hc hr
  unfold wp_ZT_setSample
  rw [pk_mul, nI_add, nI_clamp (by omega)]
  exact ⟨vp_in_nI (by omega) (by omega), h⟩
theorem q_layTile {yk : Int32} {W H : Nat} (hW : W ≤ 40) (hH : H ≤ 40) {f g : Nat → Int32} {P : Nat → Nat → Nat} {t : Nat → Nat} {c r i j : Nat} (hr : relP W H W f P) (ht : relB (c * r) g t) (hc : c ≤ 8) (hr8 : r ≤ 8) (hx : 8 * i + c ≤ W) (hy : 8 * j + r ≤ H) {post : (Nat → Int32) → Prop} (hp : ∀ f', relP W H W f' (flP P (fun b a => t (b * c + a)) (8 * i) (8 * j) c r 0) → post f') :
    wp_ZY_layTile yk (nI W) (nI H) (W * H) f (nI c) (nI r) g (nI i) (nI j) post := by
  have e8 : ∀ a b : Nat, (8 : Int32) * nI a + nI b = nI (8 * a + b) := fun a b => by rw [show (8 : Int32) = nI 8 from rfl, pk_mul, nI_add]
  have inner : ∀ (K : Int32 → (Nat → Int32) → Prop) (f0 : Nat → Int32) (b : Nat), b < r → (∀ f' e, relP W H W f' (flP P (fun b a => t (b * c + a)) (8 * i) (8 * j) c (b + 1) 0) → K e f') → ∀ d a f', a + d = c → relP W H W f' (flP P (fun b a => t (b * c + a)) (8 * i) (8 * j) c b a) →
      lp_ZY_layTile_15 yk (nI W) (nI H) (W * H) f (nI c) (nI r) g (nI i) (nI j) (nI b) f0 post K (d + 1) (nI a) f' := by
    intro K f0 b hb hK d
    induction d with
    | zero =>
      intro a f' ha hf
      obtain rfl : a = c := by omega
      exact ⟨fun _ => hK _ _ (relP_congr fl_row hf), fun hn => absurd ((nI_leI (by omega) (by omega)).mpr (Nat.le_refl _)) hn⟩
    | succ d ih =>
      intro a f' ha hf
      refine ⟨fun hn => absurd ((nI_leI (by omega) (by omega)).mp hn) (by omega), fun _ => q_tSample hc hr8 (by omega) hb ?_⟩
      have hidx : b * c + a < c * r := idx_lt hb (by omega)
      have hs : ∀ {X : (Nat → Int32) → Prop}, X (upd f' ((8 * j + b) * W + (8 * i + a)) (nI (t (b * c + a)))) → wp_ZP_setSample (nI W) (nI H) (W * H) f' ((8 : Int32) * nI i + nI a) ((8 : Int32) * nI j + nI b) (g (b * c + a)) X := by
        intro X hX
        rw [e8, e8, ht (b * c + a) hidx]
        exact q_setSample hW hH (by omega) (by omega) hX
      refine hs ?_
      show lp_ZY_layTile_15 yk (nI W) (nI H) (W * H) f (nI c) (nI r) g (nI i) (nI j) (nI b) f0 post K (d + 1) (nI a + 1) (upd f' ((8 * j + b) * W + (8 * i + a)) (nI (t (b * c + a))))
      rw [nI_1]
      exact ih (a + 1) _ (by omega) (relP_fl (T := fun b a => t (b * c + a)) (Nat.le_refl _) hf (by omega) (by omega))
  have outer : ∀ d b f', b + d = r → relP W H W f' (flP P (fun b a => t (b * c + a)) (8 * i) (8 * j) c b 0) → lp_ZY_layTile_3 yk (nI W) (nI H) (W * H) f (nI c) (nI r) g (nI i) (nI j) post (fun _ a => post a) (d + 1) (nI b) f' := by
    intro d
    induction d with
    | zero =>
      intro b f' hb hf
      obtain rfl : b = r := by omega
      exact ⟨fun _ => hp _ hf, fun hn => absurd ((nI_leI (by omega) (by omega)).mpr (Nat.le_refl _)) hn⟩
    | succ d ih =>
      intro b f' hb hf
      refine ⟨fun hn => absurd ((nI_leI (by omega) (by omega)).mp hn) (by omega), fun _ => ⟨c + 1, ?_⟩⟩
      exact inner (fun _ a => lp_ZY_layTile_3 yk (nI W) (nI H) (W * H) f (nI c) (nI r) g (nI i) (nI j) post (fun _ a => post a) (d + 1) (nI b + (1 : Int32)) a) f' b (by omega) (fun f'' _ hf'' => by
          rw [nI_1]
          exact ih (b + 1) f'' (by omega) hf'') c 0 f' (by omega) hf
  exact ⟨r + 1, outer r 0 f (by omega) (relP_congr fl_0 hr)⟩
/-- a tile of the picture itself -/
def til0 (W H : Nat) (b c : Int32) : Prop := ∃ i j : Nat, b = nI i ∧ 8 * i < W ∧ c = nI j ∧ 8 * j < H
theorem til0_iff {W H : Nat} {b c : Int32} : til W H 0 b c ↔ til0 W H b c := by
  have hl := lev_in (m := max W H)
  refine ⟨?_, ?_⟩
  · rintro ⟨k, i, j, e1, e2, e3, e4, e5, e6⟩
    obtain rfl : 0 = k := nI_inj (by omega) (by omega) e1
    rw [hv_0] at e4 e6
    exact ⟨i, j, e3, e4, e5, e6⟩
  · rintro ⟨i, j, e3, e4, e5, e6⟩
    exact ⟨0, i, j, rfl, by omega, e3, by rw [hv_0]; exact e4, e5, by rw [hv_0]; exact e6⟩
section QS
variable {pw ph : Int32} {pn : Nat} {pf : Nat → Int32} {gw gh : Int32} {gn : Nat} {gf : Nat → Int32} {yk bl : Int32} {bf : Nat → Int32} {kn : Nat} {kf : Nat → Int32} {sn : Nat} {sf : Nat → Int32} {sd tw th : Int32} {tf : Nat → Int32} {uw uh : Int32} {uf : Nat → Int32}
theorem q_restore {W H i j c r : Nat} {P : Nat → Nat → Nat} {t : Nat → Nat} (hr : relP W H W pf P) (ht : relB (c * r) tf t) (h1 : 1 ≤ W) (hW : W ≤ 40) (h2 : 1 ≤ H) (hH : H ≤ 40) (hi : 8 * i < W) (hj : 8 * j < H) (c0 : 1 ≤ c) (r0 : 1 ≤ r) (hc : c ≤ 8) (hr8 : r ≤ 8) {post : Int32 → (Nat → Int32) → Prop}
    (hF : tsd W i = c → tsd H j = r → ∀ f', relP W H W f' (flP P (fun b a => t (b * c + a)) (8 * i) (8 * j) c r 0) → post 1 f') (hN : ¬ (tsd W i = c ∧ tsd H j = r) → post 0 pf) : wp_ZQ_restore (nI W) (nI H) (W * H) pf gw gh gn gf (nI (lev (max W H))) bl bf kn kf sn sf sd (nI c) (nI r) tf uw uh uf (nI i) (nI j) post := by
  have h64 := mul8 hc hr8
  have hcr : 0 < c * r := Nat.mul_pos c0 r0
  obtain ⟨a1, a2, a3⟩ := tsd_in hi
  obtain ⟨b1, b2, b3⟩ := tsd_in hj
  refine q_hasTile h1 hW h2 hH (fun _ => q_reqPlace rfl ?_) (fun hn => absurd (til0_iff.mpr ⟨i, j, rfl, hi, rfl, hj⟩) hn)
  unfold wp_ZT_sampleCount
  rw [pk_mul]
  refine ⟨fun h => absurd h (nI_ne0 hcr (by omega)), fun _ => q_tcols (k := 0) h1 hW (by decide) (by rw [hv_0]; exact hi) ?_⟩
  rw [hv_0]
  refine ⟨_, fun _ hh => hh, ⟨fun e => ?_, fun e => ⟨fun _ => ⟨rfl, hN (fun q => e (by rw [q.1]))⟩, fun h => absurd rfl h⟩⟩⟩
  have e := nI_inj (by omega) (by omega) e
  refine q_trows (k := 0) h2 hH (by decide) (by rw [hv_0]; exact hj) ?_
  rw [hv_0]
  refine ⟨fun e' => ⟨fun h => absurd h nz1, fun _ => ?_⟩, fun e' => ⟨fun _ => ⟨rfl, hN (fun q => e' (by rw [q.2]))⟩, fun h => absurd rfl h⟩⟩
  have e' := nI_inj (by omega) (by omega) e'
  exact q_layTile hW hH hr ht hc hr8 (by omega) (by omega) (fun f' hf => ⟨rfl, hF e.symm e'.symm f' hf⟩)
theorem q_restore_I {W H : Nat} (h1 : 1 ≤ W) (hW : W ≤ 40) (h2 : 1 ≤ H) (hH : H ≤ 40) {a b : Int32} (hn : ¬ til0 W H a b) : xp_ZQ_restore_I (nI W) (nI H) pn pf gw gh gn gf (nI (lev (max W H))) bl bf kn kf sn sf sd tw th tf uw uh uf a b :=
  q_hasTile h1 hW h2 hH (fun h => absurd (til0_iff.mp h) hn) (fun _ => Or.inl (q_reqPlace_I rfl))
theorem q_restore_S {W H : Nat} (h1 : 1 ≤ W) (hW : W ≤ 40) (h2 : 1 ≤ H) (hH : H ≤ 40) {a b : Int32} (hn : til0 W H a b) : xp_ZQ_restore_S (nI W) (nI H) pn pf gw gh gn gf (nI (lev (max W H))) bl bf kn kf sn sf sd (nI 0) (nI 0) tf uw uh uf a b :=
  q_hasTile h1 hW h2 hH (fun _ => q_reqPlace rfl ⟨fun _ => trivial, fun h => absurd rfl h⟩) (fun h => absurd (til0_iff.mpr hn) h)
end QS
section MS
variable {zt zw zh : Int32} {zp zs zb : Nat → Int32} {zz : Int32} {zl zo : Nat → Int32} {zc zr zu zv zq zi : Int32} {zk zm : Nat → Int32} {zd : Int32} {zg : Nat → Int32}
theorem m_restore {W H c r : Nat} {P : Nat → Nat → Nat} {t : Nat → Nat} (hr : relP W H 40 zp P) (ht : relB (c * r) zl t) (h1 : 1 ≤ W) (hW : W ≤ 40) (h2 : 1 ≤ H) (hH : H ≤ 40) (hcr : (c = 0 ∧ r = 0) ∨ (1 ≤ c ∧ 1 ≤ r)) (hc : c ≤ 8) (hr8 : r ≤ 8) {a b : Int32} {post : Int32 → Int32 → (Nat → Int32) → Prop} (hI : ¬ til0 W H a b → post 0 1 zp) (hS : til0 W H a b → c = 0 → r = 0 → post 0 2 zp)
    (hF : ∀ i j f', a = nI i → 8 * i < W → b = nI j → 8 * j < H → 1 ≤ c → 1 ≤ r → tsd W i = c → tsd H j = r → relP W H 40 f' (flP P (fun b a => t (b * c + a)) (8 * i) (8 * j) c r 0) → post 1 0 f') (hN : ∀ i j, a = nI i → 8 * i < W → b = nI j → 8 * j < H → 1 ≤ c → 1 ≤ r → ¬ (tsd W i = c ∧ tsd H j = r) → post 0 0 zp) : wp_ZM_restore zt (nI W) (nI H) zp zs zb zz zl zo zc zr (nI c) (nI r) zq zi zk zm zd zg a b post := by
  have h64 := mul8 hc hr8
  refine m_isTile h1 hW h2 hH (fun hp => ⟨_, fun _ hh => hh, ⟨fun h => absurd h nz1, fun _ => ⟨_, fun _ hh => hh, ⟨fun e => m_bad2 ⟨fun h => absurd h nz1, fun _ => ?_⟩, fun e => m_good ⟨fun _ => ?_, fun h => absurd rfl h⟩⟩⟩⟩⟩) (fun hp => ⟨_, fun _ hh => hh, ⟨fun _ => ⟨_, fun _ hh => hh, ⟨fun e => m_bad ⟨fun h => absurd h nz1, fun _ => hI (fun q => hp (til0_iff.mpr q))⟩, fun e => m_bad ⟨fun h => absurd h nz1, fun _ => hI (fun q => hp (til0_iff.mpr q))⟩⟩⟩, fun h => absurd rfl h⟩⟩)
  · have e : r = 0 := nI_inj (by omega) (by omega) e
    exact hS (til0_iff.mp hp) (by omega) e
  · have r0 : r ≠ 0 := fun q => e (by rw [q]; rfl)
    obtain ⟨i, j, rfl, hi, rfl, hj⟩ := til0_iff.mp hp
    obtain ⟨c0, r0⟩ : 1 ≤ c ∧ 1 ≤ r := by omega
    obtain ⟨a1, a2, a3⟩ := tsd_in hi
    obtain ⟨b1, b2, b3⟩ := tsd_in hj
    refine m_part hW hi (m_part hH hj ⟨fun e1 => ⟨fun e2 => ?_, fun e2 => hN i j rfl hi rfl hj c0 r0 (fun q => e2 (by rw [q.2]))⟩, fun e1 => hN i j rfl hi rfl hj c0 r0 (fun q => e1 (by rw [q.1]))⟩)
    have e1 := nI_inj (by omega) (by omega) e1
    have e2 := nI_inj (by omega) (by omega) e2
    have hF := fun f' => hF i j f' rfl hi rfl hj c0 r0 e1 e2
    rw [e1, e2]
    have one : ∀ (K : Int32 → (Nat → Int32) → Prop) (hK : ∀ e f', relP W H 40 f' (flP P (fun b a => t (b * c + a)) (8 * i) (8 * j) c r 0) → K e f') (t1 t2 t3 t4 t5 : Int32) (g q : Nat) (f' : Nat → Int32), q + g = c * r → relP W H 40 f' (flK P (fun b a => t (b * c + a)) (8 * i) (8 * j) c q) → lp_ZM_restore_83 zt (nI W) (nI H) zp zs zb zz zl zo zc zr (nI c) (nI r) zq zi zk zm zd zg (nI i) (nI j) t1 t2 t3 t4 t5 (nI c) (nI r) post K (g + 1) (nI q) f' := by
      intro K hK t1 t2 t3 t4 t5 g
      induction g with
      | zero =>
        intro q f' hq hf
        obtain rfl : q = c * r := by omega
        refine ⟨fun _ => hK _ _ (relP_congr (flK_end c0) hf), fun hn => ?_⟩
        rw [pk_mul] at hn
        exact absurd ((nI_leI (by omega) (by omega)).mpr (Nat.le_refl _)) hn
      | succ g ih =>
        intro q f' hq hf
        have d1 : q / c < r := by rw [Nat.div_lt_iff_lt_mul c0, Nat.mul_comm]; omega
        have d2 : q % c < c := Nat.mod_lt _ c0
        have d3 : q / c * c + q % c = q := by rw [Nat.mul_comm]; exact Nat.div_add_mod q c
        have ei : (40 : Int32) * ((8 : Int32) * nI j + nI q / nI c) + (8 : Int32) * nI i + (nI q - nI q / nI c * nI c) = nI ((8 * j + q / c) * 40 + (8 * i + q % c)) := by
          rw [pk_rem (by omega) c0 (by omega), pk_div (by omega) c0 (by omega), show (40 : Int32) = nI 40 from rfl, show (8 : Int32) = nI 8 from rfl, pk_mul, pk_mul, nI_add, pk_mul, nI_add, nI_add]
          congr 1; rw [Nat.mul_comm 40]; omega
        refine ⟨fun hn => ?_, fun _ => ⟨nI_ne0 c0 (by omega), nI_ne0 c0 (by omega), vp_in_nI (by omega) (by decide), ?_, ?_⟩⟩
        · rw [pk_mul] at hn
          exact absurd ((nI_leI (by omega) (by omega)).mp hn) (by omega)
        · rw [ei]; exact vp_in_nI (by omega) (by decide)
        · show lp_ZM_restore_83 zt (nI W) (nI H) zp zs zb zz zl zo zc zr (nI c) (nI r) zq zi zk zm zd zg (nI i) (nI j) t1 t2 t3 t4 t5 (nI c) (nI r) post K (g + 1) (nI q + 1) (upd f' ((40 : Int32) * ((8 : Int32) * nI j + nI q / nI c) + (8 : Int32) * nI i + (nI q - nI q / nI c * nI c)).toNatClampNeg (zl (nI q).toNatClampNeg))
          rw [ei, nI_clamp (n := q) (by omega), nI_clamp (by omega), nI_1, ht q (by omega)]
          have hz := relP_fl (T := fun b a => t (b * c + a)) (by omega) hf d2 (by omega)
          rw [d3] at hz
          exact ih (q + 1) _ (by omega) (relP_congr (flK_step c0) hz)
    refine ⟨c * r + 1, one _ (fun e f' hf => hF f' hf) _ _ _ _ _ (c * r) 0 zp (by omega) ?_⟩
    unfold flK
    rw [Nat.zero_div, Nat.zero_mod]
    exact relP_congr fl_0 hr
end MS
